/-! growth -/
def tg (st : Nat) (E : Nat → Int32) (i a : Nat) : Int32 := if i < st then E (24 * a + i) else 0
def bn (S : Int32) (j : Nat) : Nat := (S.toBitVec.getLsbD j).toNat
def aS (st lt : Nat) (E : Nat → Int32) (L : Int32) (v : Nat → Nat) (i : Nat) : Nat := sumN lt (fun a => sumN 24 (fun j => bn (tg st E i a &&& L) j * v j))
def vs (st lt : Nat) (E : Nat → Int32) (L : Int32) : Nat → Nat → Nat
  | 0 => fun _ => 1
  | k + 1 => fun i => vs st lt E L k i + aS st lt E L (vs st lt E L k) i
def shv (lo : Bool) (st lt : Nat) (E : Nat → Int32) (L : Int32) (v : Nat → Nat) (i : Nat) : Nat := if lo = true then 1000 * aS st lt E L v i / v i else (1000 * aS st lt E L v i + v i - 1) / v i
def rlo (lo : Bool) (b s : Nat) : Prop := if lo = true then b ≤ s else s ≤ b
def Bst (lo : Bool) (st lt : Nat) (E : Nat → Int32) (L : Int32) (v : Nat → Nat) (i : Nat) (b : Nat) : Prop := (∃ j : Nat, j < i ∧ bt L j ∧ b = shv lo st lt E L v j) ∧ ∀ j : Nat, j < i → bt L j → rlo lo b (shv lo st lt E L v j)
def AlO (ph : PH) (al : Nat) (B : Nat → Nat) : Prop := ph al = some (103, .inl (3, [.ref (B 0), .ref (B 1), .ref (B 2), .ref (B 3), .ref (B 4), .ref (B 5), .ref (B 6), .ref (B 7)]))
def TG : Nat → Bool := fun t => t == 223 || t == 224
theorem bn_le {S : Int32} {j : Nat} : bn S j ≤ 1 := Bool.toNat_le _
theorem aS_le {st lt : Nat} {E : Nat → Int32} {L : Int32} {v : Nat → Nat} {i B : Nat} (hl : lt ≤ 3) (h : ∀ j : Nat, j < 24 → v j ≤ B) : aS st lt E L v i ≤ 72 * B := by
  have h1 : aS st lt E L v i ≤ lt * (24 * B) := sumN_le fun a _ => sumN_le fun j hj => by
    have h2 := Nat.mul_le_mul (bn_le (S := tg st E i a &&& L) (j := j)) (h j hj)
    rw [Nat.one_mul] at h2
    exact h2
  refine Nat.le_trans h1 ?_
  rw [← Nat.mul_assoc]
  exact Nat.mul_le_mul_right B (by omega)
theorem vs_pos {st lt : Nat} {E : Nat → Int32} {L : Int32} {i : Nat} : ∀ k : Nat, 1 ≤ vs st lt E L k i := by
  intro k
  induction k with
  | zero => exact Nat.le_refl _
  | succ k ih =>
    show 1 ≤ vs st lt E L k i + aS st lt E L (vs st lt E L k) i
    omega
theorem vs_le {st lt : Nat} {E : Nat → Int32} {L : Int32} (hl : lt ≤ 3) : ∀ (k i : Nat), vs st lt E L k i ≤ 73 ^ k := by
  intro k
  induction k with
  | zero => intro i; exact Nat.le_refl _
  | succ k ih =>
    intro i
    show vs st lt E L k i + aS st lt E L (vs st lt E L k) i ≤ 73 ^ (k + 1)
    have h1 := ih i
    have h2 := aS_le (st := st) (E := E) (L := L) (i := i) hl (fun j _ => ih j)
    rw [Nat.pow_succ]
    omega
theorem p73 {k : Nat} (h : k ≤ 6) : 73 ^ k ≤ 2 ^ 40 := Nat.le_trans (Nat.pow_le_pow_right (by decide) h) (by decide)
section GROWTH
variable {ph : PH} {al g st lt : Nat} {B : Nat → Nat} {E : Nat → Int32} {L : Int32} {X : String → PH → Prop}
theorem g_targetsX {i a : Nat} (hi : i < 24) (ha : a < lt) {Q : Int32 → PH → Prop} (hG : Gr ph g st lt E) (h : Q (tg st E i a) ph) : w_X3_targets g (Int32.ofNat i) (Int32.ofNat a) ph Q X := by
  unfold tg at h
  by_cases h9 : i < st
  · rw [if_pos h9] at h
    exact g_targets h9 ha hG h
  · rw [if_neg h9] at h
    exact g_targets0 (by omega) hi ha hG h
theorem g_sumBehind {i : Nat} {v : Nat → Nat} {f : Nat → Int64} {Q : Int64 → PH → Prop} (hi : i < 24) (hA : AlO ph al B) (hG : Gr ph g st lt E) (ef : ph (B 6) = some (223, .inr (.long, 24, .inr (.inl f)))) (hf : ∀ j : Nat, j < 24 → f j = Int64.ofNat (v j)) (h : Q (Int64.ofNat (aS st lt E L v i)) ph) : w_X0_sumBehind al (some g) L (Int32.ofNat i) ph Q X := by
  obtain ⟨⟨-, hst, h2, h3⟩, ge, e1, e2⟩ := id hG
  unfold w_X0_sumBehind
  refine ⟨lt + 1, upto0 (P := fun fu a => w_X0_sumBehind_6 Q X fu (some al) (some g) L (Int32.ofNat i) (Int64.ofNat (sumN a (fun a => sumN 24 (fun j => bn (tg st E i a &&& L) j * v j)))) (Int32.ofNat a) ph) fun fu a ha ih => ?_⟩
  unfold w_X0_sumBehind_6
  rw [ex_gI e1 rfl, on_le (by omega) (by omega)]
  refine ⟨fun h9 => ?_, fun h9 => ?_⟩
  · rw [show a = lt by omega]
    exact h
  rw [ex_isO e1]
  refine g_targetsX hi (by omega) hG ?_
  intro R hR
  subst hR
  refine ⟨25, upto0 (n := 24) (P := fun fu2 j => w_X0_sumBehind_29 Q X (fun x0 x1 x2 x3 x4 x6 ph => w_X0_sumBehind_6 Q X fu x0 x1 x2 x3 x4 x6 ph) fu2 (some al) (some g) L (Int32.ofNat i) (Int64.ofNat (sumN a (fun a => sumN 24 (fun j => bn (tg st E i a &&& L) j * v j)) + sumN j (fun j => bn (tg st E i a &&& L) j * v j))) (Int32.ofNat a) (tg st E i a &&& L) (Int32.ofNat j) ph) fun fu2 j hj ihj => ?_⟩
  unfold w_X0_sumBehind_29
  rw [ex_gR hA (v0 := some (B 6)) rfl, ex_aL ef, on_le (by omega) (by omega)]
  refine ⟨fun h8 => ?_, fun h8 => ?_⟩
  · rw [on_succ, show j = 24 by omega]
    exact ih (by omega)
  have step : ∀ c : Nat, bn (tg st E i a &&& L) j = c → w_X0_sumBehind_29 Q X (fun x0 x1 x2 x3 x4 x6 ph => w_X0_sumBehind_6 Q X fu x0 x1 x2 x3 x4 x6 ph) fu2 (some al) (some g) L (Int32.ofNat i) (Int64.ofNat (sumN a (fun a => sumN 24 (fun j => bn (tg st E i a &&& L) j * v j)) + sumN j (fun j => bn (tg st E i a &&& L) j * v j) + c * v j)) (Int32.ofNat a) (tg st E i a &&& L) (Int32.ofNat j + 1) ph := by
    intro c hc
    rw [on_succ, ← hc, Nat.add_assoc]
    exact ihj (by omega)
  refine w_hasBit (fun h7 => ⟨fun h6 => absurd h6 (by decide), fun _ => ?_⟩) (fun h7 => ⟨fun _ => ?_, fun h6 => absurd rfl h6⟩)
  · rw [ex_gR hA (v0 := some (B 6)) rfl, ex_aJ ef (on_in (by omega) (by omega)), on_nat (by omega), hf j (by omega)]
    intro y hy
    subst hy
    rw [oj_add]
    have h5 : bn (tg st E i a &&& L) j = 1 := by
      have h4 : (tg st E i a &&& L).toBitVec.getLsbD j = true := (hb_bt (by omega)).mp h7
      unfold bn
      rw [h4]
      rfl
    have h3 := step 1 h5
    rw [Nat.one_mul] at h3
    exact h3
  · have h5 : bn (tg st E i a &&& L) j = 0 := by
      unfold bn
      cases h4 : (tg st E i a &&& L).toBitVec.getLsbD j
      · rfl
      · exact absurd ((hb_bt (by omega)).mpr h4) h7
    have h3 := step 0 h5
    rw [Nat.zero_mul] at h3
    exact h3
theorem g_findBound {lo : Bool} {n : Nat} {fN fL : Nat → Int64} {Q : Int64 → PH → Prop} (hn : n ≤ 5) (hA : AlO ph al B) (hG : Gr ph g st lt E) (eN : ph (B 6) = some (223, .inr (.long, 24, .inr (.inl fN)))) (eL : ph (B 7) = some (224, .inr (.long, 24, .inr (.inl fL)))) (hlive : ¬ live st lt E = 0) (h : ∀ (ph' : PH) (b : Nat), Keep TG ph ph' → b < 2 ^ 62 → Bst lo st lt E (live st lt E) (vs st lt E (live st lt E) n) 24 b → Q (Int64.ofNat b) ph') : w_X0_findBound al (some g) (Int32.ofNat n) (if lo = true then 1 else 0) ph Q X := by
  obtain ⟨⟨-, hst, h2, h3⟩, ge, e1, e2⟩ := id hG
  have n1 : B 7 ≠ B 6 := tag_ne eL eN (by decide)
  unfold w_X0_findBound
  rw [ex_isO e1]
  refine g_liveSet hG ?_
  rw [ex_gR hA (v0 := some (B 6)) rfl]
  refine g_fillJ eN (by decide) (by decide) (fun f0 hf0 => ?_)
  have vb : ∀ k i : Nat, k ≤ 6 → vs st lt E (live st lt E) k i ≤ 2 ^ 40 := fun k i hk => Nat.le_trans (vs_le h3 k i) (p73 hk)
  refine ⟨n + 1, (upto0 (P := fun fu k => ∀ (p : PH) (f l : Nat → Int64), Keep TG ph p → p (B 6) = some (223, .inr (.long, 24, .inr (.inl f))) → p (B 7) = some (224, .inr (.long, 24, .inr (.inl l))) → (∀ j : Nat, j < 24 → f j = Int64.ofNat (vs st lt E (live st lt E) k j)) → w_X0_findBound_17 Q X fu (some al) (some g) (Int32.ofNat n) (if lo = true then 1 else 0) (live st lt E) (Int32.ofNat k) p) fun fu k hk ih => ?_) _ f0 fL (Keep.setJ eN rfl) hset_same (hset_at n1 eL) (fun j hj => hf0 j hj)⟩
  intro p f l hK ef el hf
  have hA1 : AlO p al B := hK.obj hA
  have hG1 := hK.gr hG rfl
  unfold w_X0_findBound_17
  rw [on_le (by omega) (by omega)]
  refine ⟨fun h9 => ?_, fun h9 => ?_⟩
  · -- the best of the shares
    have hkn : k = n := by omega
    subst hkn
    generalize hL : live st lt E = L at *
    have good : ∀ i : Nat, i ≤ 24 → ∀ x : Int64, ((x = -1 ∧ ∀ j : Nat, j < i → ¬ bt L j) ∨ ∃ b : Nat, b < 2 ^ 62 ∧ x = Int64.ofNat b ∧ Bst lo st lt E L (vs st lt E L k) i b) → w_X0_findBound_133 Q X (24 - i + 1) (some al) (some g) (if lo = true then 1 else 0) L x (Int32.ofNat i) p := by
      have key : ∀ d i : Nat, i + d = 24 → ∀ x : Int64, ((x = -1 ∧ ∀ j : Nat, j < i → ¬ bt L j) ∨ ∃ b : Nat, b < 2 ^ 62 ∧ x = Int64.ofNat b ∧ Bst lo st lt E L (vs st lt E L k) i b) → w_X0_findBound_133 Q X (d + 1) (some al) (some g) (if lo = true then 1 else 0) L x (Int32.ofNat i) p := by
        intro d
        induction d with
        | zero =>
          intro i hi x hx
          unfold w_X0_findBound_133
          rw [ex_gR hA1 (v0 := some (B 6)) rfl, ex_aL ef, on_le (by omega) (by omega)]
          refine ⟨fun _ => ?_, fun h8 => absurd (by omega) h8⟩
          rcases hx with ⟨-, hx⟩ | ⟨b, b1, rfl, b2⟩
          · obtain ⟨j, hj⟩ := bt_ne.mp hlive
            have hj2 : j < st := by
              rw [← hL] at hj
              exact live_lt hst hj
            exact absurd hj (hx j (by omega))
          · rw [show i = 24 by omega] at b2
            exact h p b hK b1 b2
        | succ d ihd =>
          intro i hi x hx
          unfold w_X0_findBound_133
          rw [ex_gR hA1 (v0 := some (B 6)) rfl, ex_aL ef, on_le (by omega) (by omega)]
          refine ⟨fun h8 => absurd h8 (by omega), fun _ => ?_⟩
          rw [ex_gR hA1 (v0 := some (B 6)) rfl, ex_aJ ef (on_in (by omega) (by omega)), on_nat (by omega), hf i (by omega), on_succ]
          have hv1 := vs_pos (st := st) (lt := lt) (E := E) (L := L) (i := i) k
          have hv2 := vb k i (by omega)
          have ha2 := aS_le (st := st) (E := E) (L := L) (i := i) h3 (fun j _ => vb k j (by omega))
          refine w_hasBit (fun h7 => ⟨fun h6 => absurd h6 (by decide), fun _ => ⟨fun h6 => ?_, fun _ => ?_⟩⟩) (fun h7 => ⟨fun _ => ?_, fun h6 => absurd rfl h6⟩)
          · rw [lgc_le, show (0 : Int64) = Int64.ofNat 0 from rfl, oj_le (by omega) (by omega)] at h6
            omega
          · have hbi : bt L i := (hb_bt (by omega)).mp h7
            rw [ex_isO hA1]
            refine g_sumBehind (by omega) hA1 hG1 ef hf ?_
            -- the new best is the old one or the share of state i
            have new : ∀ c : Nat, c = shv lo st lt E L (vs st lt E L k) i → c < 2 ^ 62 → ∀ s : Int32, (∀ b : Nat, b < 2 ^ 62 → x = Int64.ofNat b → (s = 0 → rlo lo b c) ∧ (¬ s = 0 → rlo lo c b)) → w_X0_findBound_238 Q X (fun x0 x1 x3 x4 x5 x7 ph => w_X0_findBound_133 Q X (d + 1) x0 x1 x3 x4 x5 x7 ph) (some al) (some g) (if lo = true then 1 else 0) L x (Int32.ofNat i) (Int64.ofNat c) s p := by
              intro c hc hcb s hs
              unfold w_X0_findBound_238
              rw [on_succ]
              rcases hx with ⟨rfl, hx⟩ | ⟨b, b1, rfl, ⟨j, j1, j2, j3⟩, b3⟩
              · refine ⟨fun _ => ihd (i + 1) (by omega) _ (Or.inr ⟨c, hcb, rfl, ⟨i, by omega, hbi, hc⟩, fun j hj hbj => ?_⟩), fun h8 => absurd (by decide) h8⟩
                by_cases hji : j = i
                · rw [hji, hc]
                  unfold rlo
                  split <;> exact Nat.le_refl _
                · exact absurd hbj (hx j (by omega))
              · obtain ⟨s0, s1⟩ := hs b b1 rfl
                refine ⟨fun h8 => ?_, fun _ => ⟨fun h8 => ihd (i + 1) (by omega) _ (Or.inr ⟨b, b1, rfl, ⟨j, by omega, j2, j3⟩, fun m hm hbm => ?_⟩), fun h8 => ihd (i + 1) (by omega) _ (Or.inr ⟨c, hcb, rfl, ⟨i, by omega, hbi, hc⟩, fun m hm hbm => ?_⟩)⟩⟩
                · rw [lgc_lt, show (0 : Int64) = Int64.ofNat 0 from rfl, oj_lt (by omega) (by omega)] at h8
                  omega
                · by_cases hmi : m = i
                  · rw [hmi, ← hc]
                    exact s0 h8
                  · exact b3 m (by omega) hbm
                · by_cases hmi : m = i
                  · rw [hmi, hc]
                    unfold rlo
                    split <;> exact Nat.le_refl _
                  · have t1 := b3 m (by omega) hbm
                    have t2 := s1 h8
                    unfold rlo at t1 t2 ⊢
                    split
                    · rename_i hlo
                      rw [if_pos hlo] at t1 t2
                      omega
                    · rename_i hlo
                      rw [if_neg hlo] at t1 t2
                      omega
            intro y hy
            rw [show (1000 : Int64) = Int64.ofNat 1000 from rfl, oj_mul] at hy
            subst hy
            cases lo with
            | true =>
              refine ⟨fun h6 => absurd h6 (by decide), fun _ => ?_⟩
              unfold w_X0_findBound_200
              refine ⟨fun h6 => ?_, fun q hq => ⟨fun h6 => absurd h6 (by decide), fun _ => ?_⟩⟩
              · rw [show (0 : Int64) = Int64.ofNat 0 from rfl, oj_inj (by omega) (by omega)] at h6
                omega
              · rw [oj_div (by omega) (by omega)] at hq
                subst hq
                have hdl := Nat.div_le_self (1000 * aS st lt E L (vs st lt E L k) i) (vs st lt E L k i)
                refine ⟨fun h6 => new (1000 * aS st lt E L (vs st lt E L k) i / vs st lt E L k i) rfl (by omega) 0 (fun b b1 hb => ⟨fun _ => ?_, fun h5 => absurd rfl h5⟩), fun h6 => new (1000 * aS st lt E L (vs st lt E L k) i / vs st lt E L k i) rfl (by omega) 1 (fun b b1 hb => ⟨fun h5 => absurd h5 (by decide), fun _ => ?_⟩)⟩
                · rw [lgc_ge, hb, oj_le (by omega) (by omega)] at h6
                  exact h6
                · rw [lgc_ge, hb, oj_le (by omega) (by omega)] at h6
                  show _ ≤ b
                  omega
            | false =>
              refine ⟨fun _ => ?_, fun h6 => absurd rfl h6⟩
              rw [oj_add, show 1000 * aS st lt E L (vs st lt E L k) i + vs st lt E L k i = (1000 * aS st lt E L (vs st lt E L k) i + vs st lt E L k i - 1) + 1 by omega, oj_succ_sub]
              unfold w_X0_findBound_200
              refine ⟨fun h6 => ?_, fun q hq => ⟨fun _ => ?_, fun h6 => absurd rfl h6⟩⟩
              · rw [show (0 : Int64) = Int64.ofNat 0 from rfl, oj_inj (by omega) (by omega)] at h6
                omega
              · rw [oj_div (by omega) (by omega)] at hq
                subst hq
                have hdl := Nat.div_le_self (1000 * aS st lt E L (vs st lt E L k) i + vs st lt E L k i - 1) (vs st lt E L k i)
                refine ⟨fun h6 => new ((1000 * aS st lt E L (vs st lt E L k) i + vs st lt E L k i - 1) / vs st lt E L k i) rfl (by omega) 0 (fun b b1 hb => ⟨fun _ => ?_, fun h5 => absurd rfl h5⟩), fun h6 => new ((1000 * aS st lt E L (vs st lt E L k) i + vs st lt E L k i - 1) / vs st lt E L k i) rfl (by omega) 1 (fun b b1 hb => ⟨fun h5 => absurd h5 (by decide), fun _ => ?_⟩)⟩
                · rw [lgc_le, hb, oj_le (by omega) (by omega)] at h6
                  exact h6
                · rw [lgc_le, hb, oj_le (by omega) (by omega)] at h6
                  show b ≤ _
                  omega
          · refine ihd (i + 1) (by omega) x ?_
            have hbi : ¬ bt L i := fun h8 => h7 ((hb_bt (by omega)).mpr h8)
            rcases hx with ⟨x1, x2⟩ | ⟨b, b1, x1, ⟨j, j1, j2, j3⟩, b3⟩
            · refine Or.inl ⟨x1, fun j hj hbj => ?_⟩
              by_cases hji : j = i
              · rw [hji] at hbj
                exact hbi hbj
              · exact x2 j (by omega) hbj
            · refine Or.inr ⟨b, b1, x1, ⟨j, by omega, j2, j3⟩, fun m hm hbm => ?_⟩
              by_cases hmi : m = i
              · rw [hmi] at hbm
                exact absurd hbm hbi
              · exact b3 m (by omega) hbm
      exact fun i hi x hx => key (24 - i) i (by omega) x hx
    exact ⟨_, good 0 (by decide) (-1) (Or.inl ⟨rfl, fun j hj => by omega⟩)⟩
  · -- one step more
    refine ⟨25, (upto0 (n := 24) (P := fun fu2 i => ∀ (p : PH) (f l : Nat → Int64), Keep TG ph p → p (B 6) = some (223, .inr (.long, 24, .inr (.inl f))) → p (B 7) = some (224, .inr (.long, 24, .inr (.inl l))) → (∀ j : Nat, j < 24 → f j = Int64.ofNat (vs st lt E (live st lt E) k j)) → (∀ j : Nat, j < i → l j = Int64.ofNat (vs st lt E (live st lt E) (k + 1) j)) → w_X0_findBound_26 Q X (fun x0 x1 x2 x3 x4 x5 ph => w_X0_findBound_17 Q X fu x0 x1 x2 x3 x4 x5 ph) fu2 (some al) (some g) (Int32.ofNat n) (if lo = true then 1 else 0) (live st lt E) (Int32.ofNat k) (Int32.ofNat i) p) fun fu2 i hi ihi => ?_) p f l hK ef el hf (fun j hj => by omega)⟩
    intro p f l hK ef el hf hl
    have hA1 : AlO p al B := hK.obj hA
    have hG1 := hK.gr hG rfl
    unfold w_X0_findBound_26
    rw [ex_gR hA1 (v0 := some (B 7)) rfl, ex_aL el, on_le (by omega) (by omega)]
    refine ⟨fun h8 => ?_, fun h8 => ?_⟩
    · refine ⟨25, (upto0 (n := 24) (P := fun fu3 i => ∀ (p : PH) (f : Nat → Int64), Keep TG ph p → p (B 6) = some (223, .inr (.long, 24, .inr (.inl f))) → p (B 7) = some (224, .inr (.long, 24, .inr (.inl l))) → (∀ j : Nat, j < i → f j = Int64.ofNat (vs st lt E (live st lt E) (k + 1) j)) → w_X0_findBound_79 Q X (fun x0 x1 x2 x3 x4 x5 ph => w_X0_findBound_17 Q X fu x0 x1 x2 x3 x4 x5 ph) fu3 (some al) (some g) (Int32.ofNat n) (if lo = true then 1 else 0) (live st lt E) (Int32.ofNat k) (Int32.ofNat i) p) fun fu3 m hm ihm => ?_) p f hK ef el (fun j hj => by omega)⟩
      intro p f hK ef el hf
      have hA1 : AlO p al B := hK.obj hA
      unfold w_X0_findBound_79
      rw [ex_gR hA1 (v0 := some (B 7)) rfl, ex_aL el, on_le (by omega) (by omega)]
      have go : 24 ≤ m → w_X0_findBound_17 Q X fu (some al) (some g) (Int32.ofNat n) (if lo = true then 1 else 0) (live st lt E) (Int32.ofNat k + 1) p := by
        intro h7
        rw [on_succ]
        exact ih (by omega) p f l hK ef el (fun j hj => hf j (by omega))
      refine ⟨go, fun h7 => ?_⟩
      rw [ex_gR hA1 (v0 := some (B 6)) rfl, ex_aL ef, on_le (by omega) (by omega)]
      refine ⟨go, fun _ => ?_⟩
      rw [ex_gR hA1 (v0 := some (B 6)) rfl, ex_gR hA1 (v0 := some (B 7)) rfl, ex_aJ el (on_in (by omega) (by omega)), on_nat (by omega), ex_sJ ef (by decide) (on_in (by omega) (by omega)), on_nat (by omega), on_succ, hl m (by omega)]
      refine ihm (by omega) _ _ (hK.tr (Keep.setJ ef rfl)) hset_same (hset_at n1 el) (fun j hj => ?_)
      by_cases h6 : j = m
      · rw [h6, vl_s]
      · rw [vl_n h6]
        exact hf j (by omega)
    · rw [ex_gR hA1 (v0 := some (B 6)) rfl, ex_aL ef, on_le (by omega) (by omega)]
      refine ⟨fun h7 => absurd h7 (by omega), fun _ => ?_⟩
      rw [ex_gR hA1 (v0 := some (B 7)) rfl, ex_gR hA1 (v0 := some (B 6)) rfl, ex_aJ ef (on_in (by omega) (by omega)), on_nat (by omega), hf i (by omega), ex_isO hA1]
      refine g_sumBehind (by omega) hA1 hG1 ef hf ?_
      rw [ex_sJ el (by decide) (on_in (by omega) (by omega)), on_nat (by omega), on_succ, oj_add]
      refine ihi (by omega) _ f _ (hK.tr (Keep.setJ el rfl)) (hset_at n1.symm ef) hset_same hf (fun j hj => ?_)
      by_cases h6 : j = i
      · rw [h6, vl_s]
        rfl
      · rw [vl_n h6]
        exact hl j (by omega)
end GROWTH
/-! the bounds come closer -/
section BOUNDS
variable {st lt : Nat} {E : Nat → Int32} {L : Int32}
theorem aS_add {v u : Nat → Nat} {i : Nat} : aS st lt E L (fun j => v j + u j) i = aS st lt E L v i + aS st lt E L u i := by
  unfold aS
  have h1 : ∀ (n : Nat) (f g : Nat → Nat), sumN n (fun i => f i + g i) = sumN n f + sumN n g := by
    intro n f g
    induction n with
    | zero => rfl
    | succ n ih =>
      show sumN n (fun i => f i + g i) + (f n + g n) = (sumN n f + f n) + (sumN n g + g n)
      rw [ih]
      omega
  rw [← h1]
  refine sumN_eq fun a _ => ?_
  rw [← h1]
  refine sumN_eq fun j _ => ?_
  exact Nat.mul_add _ _ _
theorem aS_low {v u : Nat → Nat} {b c i : Nat} (h : ∀ j : Nat, bt L j → b * v j ≤ c * u j) : b * aS st lt E L v i ≤ c * aS st lt E L u i := by
  unfold aS
  rw [← sumN_mul, ← sumN_mul]
  refine sumN_mon fun a _ => ?_
  rw [← sumN_mul, ← sumN_mul]
  refine sumN_mon fun j _ => ?_
  by_cases h1 : bt L j
  · have h2 := Nat.mul_le_mul_left (bn (tg st E i a &&& L) j) (h j h1)
    rw [Nat.mul_left_comm b, Nat.mul_left_comm c]
    exact h2
  · have h2 : bn (tg st E i a &&& L) j = 0 := by
      unfold bn
      cases h3 : (tg st E i a &&& L).toBitVec.getLsbD j
      · rfl
      · exact absurd (bt_and.mp h3).2 h1
    rw [h2, Nat.zero_mul, Nat.zero_mul]
    exact Nat.le_refl _
theorem ceil_le {x y b : Nat} (hy : 1 ≤ y) : (x + y - 1) / y ≤ b ↔ x ≤ b * y := by
  rw [Nat.div_le_iff_le_mul_add_pred (by omega)]
  rw [Nat.mul_comm y b]
  omega
theorem low_high {k b c : Nat} (hL : L = live st lt E) (h1 : Bst true st lt E L (vs st lt E L k) 24 b) (h2 : Bst false st lt E L (vs st lt E L k) 24 c) : b ≤ c := by
  obtain ⟨⟨j, j1, j2, -⟩, h3⟩ := h1
  have t1 : b ≤ 1000 * aS st lt E L (vs st lt E L k) j / vs st lt E L k j := h3 j j1 j2
  have t2 : (1000 * aS st lt E L (vs st lt E L k) j + vs st lt E L k j - 1) / vs st lt E L k j ≤ c := h2.2 j j1 j2
  have hp := vs_pos (st := st) (lt := lt) (E := E) (L := L) (i := j) k
  have t3 : 1000 * aS st lt E L (vs st lt E L k) j / vs st lt E L k j ≤ (1000 * aS st lt E L (vs st lt E L k) j + vs st lt E L k j - 1) / vs st lt E L k j := Nat.div_le_div_right (by omega)
  omega
theorem low_up {k b c : Nat} (hst : st ≤ 24) (hL : L = live st lt E) (h1 : Bst true st lt E L (vs st lt E L k) 24 b) (h2 : Bst true st lt E L (vs st lt E L (k + 1)) 24 c) : b ≤ c := by
  obtain ⟨⟨i, i1, i2, i3⟩, -⟩ := h2
  have t : ∀ j : Nat, bt L j → b * vs st lt E L k j ≤ 1000 * aS st lt E L (vs st lt E L k) j := by
    intro j hj
    have hj2 : j < 24 := by
      have h9 := hj
      rw [hL] at h9
      have := live_lt hst h9
      omega
    have t1 : b ≤ 1000 * aS st lt E L (vs st lt E L k) j / vs st lt E L k j := h1.2 j hj2 hj
    have hp := vs_pos (st := st) (lt := lt) (E := E) (L := L) (i := j) k
    exact (Nat.le_div_iff_mul_le (by omega)).mp t1
  have t4 : c = 1000 * aS st lt E L (vs st lt E L (k + 1)) i / vs st lt E L (k + 1) i := i3
  rw [t4]
  have hp := vs_pos (st := st) (lt := lt) (E := E) (L := L) (i := i) (k + 1)
  refine (Nat.le_div_iff_mul_le (by omega)).mpr ?_
  show b * (vs st lt E L k i + aS st lt E L (vs st lt E L k) i) ≤ 1000 * aS st lt E L (fun j => vs st lt E L k j + aS st lt E L (vs st lt E L k) j) i
  rw [aS_add, Nat.mul_add, Nat.mul_add]
  exact Nat.add_le_add (t i i2) (aS_low t)
theorem high_down {k b c : Nat} (hst : st ≤ 24) (hL : L = live st lt E) (h1 : Bst false st lt E L (vs st lt E L k) 24 b) (h2 : Bst false st lt E L (vs st lt E L (k + 1)) 24 c) : c ≤ b := by
  obtain ⟨⟨i, i1, i2, i3⟩, -⟩ := h2
  have t : ∀ j : Nat, bt L j → 1000 * aS st lt E L (vs st lt E L k) j ≤ b * vs st lt E L k j := by
    intro j hj
    have hj2 : j < 24 := by
      have h9 := hj
      rw [hL] at h9
      have := live_lt hst h9
      omega
    have t1 : (1000 * aS st lt E L (vs st lt E L k) j + vs st lt E L k j - 1) / vs st lt E L k j ≤ b := h1.2 j hj2 hj
    exact (ceil_le (vs_pos k)).mp t1
  have t4 : c = (1000 * aS st lt E L (vs st lt E L (k + 1)) i + vs st lt E L (k + 1) i - 1) / vs st lt E L (k + 1) i := i3
  rw [t4]
  refine (ceil_le (vs_pos (k + 1))).mpr ?_
  show 1000 * aS st lt E L (fun j => vs st lt E L k j + aS st lt E L (vs st lt E L k) j) i ≤ b * (vs st lt E L k i + aS st lt E L (vs st lt E L k) i)
  rw [aS_add, Nat.mul_add, Nat.mul_add]
  exact Nat.add_le_add (t i i2) (aS_low t)
end BOUNDS
