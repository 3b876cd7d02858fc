/-! the ways through a graph -/
def allX (st lt : Nat) (E : Nat → Int32) (i : Nat) : Int32 := if i < st then allT lt E i else 0
def wr (st lt : Nat) (E : Nat → Int32) : Nat → Nat → Int32
  | 0 => allX st lt E
  | k + 1 => fun i => if ((wr st lt E k i >>> (Int32.ofNat k &&& 31)) &&& 1) = 0 then wr st lt E k i else wr st lt E k i ||| wr st lt E k k
def prt (W : Nat → Int32) (s : Nat) : Nat → Int32 := fun o => if ((W s >>> (Int32.ofNat o &&& 31)) &&& 1) = 0 then 0 else if ((W o >>> (Int32.ofNat s &&& 31)) &&& 1) = 0 then 0 else (1 : Int32) <<< (Int32.ofNat o &&& 31)
def prF (W : Nat → Int32) (s : Nat) : Int32 := orF 24 (prt W s)
def ptc (W : Nat → Int32) (s : Nat) : Nat := if prF W s = 0 then 0 else if (prF W s &&& (((1 : Int32) <<< (Int32.ofNat s &&& 31)) - 1)) = 0 then 1 else 0
def parts (st lt : Nat) (E : Nat → Int32) : Nat := sumN st (ptc (wr st lt E 24))
def Wy (ph : PH) (w aR aV : Nat) : Prop := ph w = some (111, .inl (11, [.ref aR, .ref aV]))
def TW : Nat → Bool := fun t => t == 217
section WAYS
variable {ph : PH} {w aR aV g st lt : Nat} {E : Nat → Int32} {X : String → PH → Prop}
theorem g_targets0 {i : Nat} {a : Nat} (hi : st ≤ i) (hi2 : i < 24) (ha : a < lt) {Q : Int32 → PH → Prop} (hG : Gr ph g st lt E) (h : Q 0 ph) : w_X3_targets g (Int32.ofNat i) (Int32.ofNat a) ph Q X := by
  obtain ⟨⟨b1, b2, b3, b4⟩, ge, e1, e2⟩ := hG
  unfold w_X3_targets
  intro v6 hv
  refine ⟨fun h9 => absurd h9 (on_neg (by omega)), fun _ => ?_⟩
  rw [ex_gI e1 rfl, on_le (by omega) (by omega)]
  refine ⟨fun h9 => ?_, fun h9 => absurd hi h9⟩
  unfold w_X3_targets_36
  exact ⟨fun _ => h, fun h8 => absurd rfl h8⟩
theorem g_allX {i : Nat} (hi : i < 24) {Q : Int32 → PH → Prop} (hG : Gr ph g st lt E) (h : Q (allX st lt E i) ph) : w_X3_allTargets g (Int32.ofNat i) ph Q X := by
  by_cases h9 : i < st
  · refine g_allTargets h9 hG ?_
    rw [show allX st lt E i = allT lt E i from if_pos h9] at h
    exact h
  · rw [show allX st lt E i = 0 from if_neg h9] at h
    obtain ⟨⟨b1, b2, b3, b4⟩, ge, e1, e2⟩ := id hG
    unfold w_X3_allTargets
    refine ⟨lt + 1, upto0 (P := fun fu a => w_X3_allTargets_4 Q X fu (some g) (Int32.ofNat i) 0 (Int32.ofNat a) ph) fun fu a ha ih => ?_⟩
    unfold w_X3_allTargets_4
    rw [ex_gI e1 rfl, on_le (by omega) (by omega)]
    refine ⟨fun _ => h, fun h8 => ?_⟩
    rw [ex_isO e1]
    refine g_targets0 (by omega) hi (by omega) hG ?_
    intro v hv
    have hv2 : v = 0 := hv
    subst hv2
    rw [on_succ]
    exact ih (by omega)
theorem g_follow {fr : Nat → Int32} {Q : PH → Prop} (hw : Wy ph w aR aV) (er : ph aR = some (217, .inr (.int, 24, .inl fr))) (hG : Gr ph g st lt E) (h : ∀ (ph' : PH) (f : Nat → Int32), Keep TW ph ph' → ph' aR = some (217, .inr (.int, 24, .inl f)) → (∀ i : Nat, i < 24 → f i = wr st lt E 24 i) → Q ph') : w_X10_follow w (some g) ph Q X := by
  unfold w_X10_follow
  refine ⟨25, (upto0 (n := 24) (P := fun fu i => ∀ (p : PH) (f : Nat → Int32), Keep TW ph p → p aR = some (217, .inr (.int, 24, .inl f)) → (∀ j : Nat, j < i → f j = wr st lt E 0 j) → w_X10_follow_2 Q X fu (some w) (some g) (Int32.ofNat i) p) fun fu i hi ih => ?_) ph fr (Keep.rf ph) er (fun j hj => by omega)⟩
  intro p f hK ef hf
  have hw1 : Wy p w aR aV := hK.obj hw
  have hG1 := hK.gr hG rfl
  obtain ⟨-, ge1, e11, e12⟩ := id hG1
  unfold w_X10_follow_2
  rw [ex_gR hw1 (v0 := some aR) rfl, ex_aL ef, on_le (by omega) (by omega)]
  refine ⟨fun h9 => ?_, fun h9 => ?_⟩
  · refine ⟨25, (upto0 (n := 24) (P := fun fu m => ∀ (p : PH) (f : Nat → Int32), Keep TW ph p → p aR = some (217, .inr (.int, 24, .inl f)) → (∀ j : Nat, j < 24 → f j = wr st lt E m j) → w_X10_follow_30 Q X fu (some w) (Int32.ofNat m) p) fun fu m hm ihm => ?_) p f hK ef (fun j hj => hf j (by omega))⟩
    intro p f hK ef hf
    have hw1 : Wy p w aR aV := hK.obj hw
    unfold w_X10_follow_30
    rw [ex_gR hw1 (v0 := some aR) rfl, ex_aL ef, on_le (by omega) (by omega)]
    refine ⟨fun h8 => ?_, fun h8 => ?_⟩
    · rw [show m = 24 by omega] at hf
      exact h p f hK ef hf
    · refine ⟨25, (upto0 (n := 24) (P := fun fu2 s => ∀ (p : PH) (f : Nat → Int32), Keep TW ph p → p aR = some (217, .inr (.int, 24, .inl f)) → (∀ j : Nat, j < 24 → f j = if j < s then wr st lt E (m + 1) j else wr st lt E m j) → w_X10_follow_41 Q X (fun x0 x2 ph => w_X10_follow_30 Q X fu x0 x2 ph) fu2 (some w) (Int32.ofNat m) (Int32.ofNat s) p) fun fu2 s hs ihs => ?_) p f hK ef (fun j hj => by rw [if_neg (by omega)]; exact hf j hj)⟩
      intro p f hK ef hf
      have hw1 : Wy p w aR aV := hK.obj hw
      unfold w_X10_follow_41
      rw [ex_gR hw1 (v0 := some aR) rfl, ex_aL ef, on_le (by omega) (by omega)]
      refine ⟨fun h7 => ?_, fun h7 => ?_⟩
      · rw [on_succ]
        refine ihm (by omega) p f hK ef (fun j hj => ?_)
        rw [hf j hj, if_pos (by omega)]
      · have hs1 : f s = wr st lt E m s := by rw [hf s (by omega), if_neg (by omega)]
        have hm1 : f m = wr st lt E m m := by
          rw [hf m (by omega)]
          split
          · show (if ((wr st lt E m m >>> (Int32.ofNat m &&& 31)) &&& 1) = 0 then wr st lt E m m else wr st lt E m m ||| wr st lt E m m) = wr st lt E m m
            rw [Int32.or_self]
            split <;> rfl
          · rfl
        rw [ex_gR hw1 (v0 := some aR) rfl, ex_aI ef (on_in (by omega) (by omega)), on_nat (by omega), hs1]
        refine w_hasBit (fun h6 => ⟨fun h5 => absurd h5 (by decide), fun _ => ?_⟩) (fun h6 => ⟨fun _ => ?_, fun h5 => absurd rfl h5⟩)
        · rw [ex_gR hw1 (v0 := some aR) rfl, ex_aI ef (on_in (by omega) (by omega)), on_nat (by omega), hs1, ex_gR hw1 (v0 := some aR) rfl, ex_aI ef (on_in (by omega) (by omega)), on_nat (by omega), hm1, ex_sI ef (by decide) (on_in (by omega) (by omega)), on_nat (by omega), on_succ]
          refine ihs (by omega) _ _ (hK.tr (Keep.setI ef rfl)) hset_same (fun j hj => ?_)
          by_cases h4 : j = s
          · rw [h4, pk_us, if_pos (by omega)]
            exact (if_neg h6).symm
          · rw [pk_un h4, hf j hj]
            by_cases h3 : j < s
            · rw [if_pos h3, if_pos (by omega)]
            · rw [if_neg h3, if_neg (by omega)]
        · rw [on_succ]
          refine ihs (by omega) p f hK ef (fun j hj => ?_)
          rw [hf j hj]
          by_cases h4 : j = s
          · rw [h4, if_neg (by omega), if_pos (by omega)]
            exact (if_pos (Decidable.of_not_not h6)).symm
          · by_cases h3 : j < s
            · rw [if_pos h3, if_pos (by omega)]
            · rw [if_neg h3, if_neg (by omega)]
  · rw [ex_gR hw1 (v0 := some aR) rfl, ex_isO e11]
    refine g_allX (by omega) hG1 ?_
    rw [ex_sI ef (by decide) (on_in (by omega) (by omega)), on_nat (by omega), on_succ]
    refine ih (by omega) _ _ (hK.tr (Keep.setI ef rfl)) hset_same (fun j hj => ?_)
    by_cases h4 : j = i
    · rw [h4, pk_us]
      rfl
    · rw [pk_un h4]
      exact hf j (by omega)
theorem g_partOf {f : Nat → Int32} {s : Nat} {W : Nat → Int32} {Q : Int32 → PH → Prop} (hs : s < 24) (hw : Wy ph w aR aV) (ef : ph aR = some (217, .inr (.int, 24, .inl f))) (hf : ∀ i : Nat, i < 24 → f i = W i) (h : Q (prF W s) ph) : w_X10_partOf w (Int32.ofNat s) ph Q X := by
  unfold w_X10_partOf
  refine ⟨25, upto0 (n := 24) (P := fun fu i => w_X10_partOf_4 Q X fu (some w) (Int32.ofNat s) (orF i (prt W s)) (Int32.ofNat i) ph) fun fu i hi ih => ?_⟩
  unfold w_X10_partOf_4
  rw [ex_gR hw (v0 := some aR) rfl, ex_aL ef, on_le (by omega) (by omega)]
  refine ⟨fun h9 => ?_, fun h9 => ?_⟩
  · rw [show i = 24 by omega]
    exact h
  rw [ex_isO hw]
  unfold w_X10_reachOf
  refine ⟨fun h8 => absurd h8 (on_neg (by omega)), fun _ => ?_⟩
  rw [ex_gR hw (v0 := some aR) rfl, ex_aL ef, on_le (by omega) (by omega)]
  refine ⟨fun h8 => absurd h8 (by omega), fun _ => ?_⟩
  rw [ex_gR hw (v0 := some aR) rfl, ex_aI ef (on_in (by omega) (by omega)), on_nat (by omega), hf s hs]
  have skip : prt W s i = 0 → w_X10_partOf_4 Q X fu (some w) (Int32.ofNat s) (orF i (prt W s)) (Int32.ofNat i + 1) ph := by
    intro h7
    rw [on_succ, show orF i (prt W s) = orF (i + 1) (prt W s) from (show (orF i (prt W s) ||| prt W s i) = orF i (prt W s) by rw [h7]; exact Int32.or_zero).symm]
    exact ih (by omega)
  refine w_hasBit (fun h8 => ⟨fun h7 => absurd h7 (by decide), fun _ => ?_⟩) (fun h8 => ⟨fun _ => skip (if_pos (Decidable.of_not_not h8)), fun h7 => absurd rfl h7⟩)
  rw [ex_gR hw (v0 := some aR) rfl, ex_aI ef (on_in (by omega) (by omega)), on_nat (by omega), hf i (by omega)]
  refine w_hasBit (fun h7 => ⟨fun h6 => absurd h6 (by decide), fun _ => ?_⟩) (fun h7 => ⟨fun _ => skip ((if_neg h8).trans (if_pos (Decidable.of_not_not h7))), fun h6 => absurd rfl h6⟩)
  intro v hv
  subst hv
  rw [on_succ, show (1 : Int32) <<< (Int32.ofNat i &&& 31) = prt W s i from ((if_neg h8).trans (if_neg h7)).symm]
  exact ih (by omega)
theorem sumN_le' {f : Nat → Nat} (h : ∀ i : Nat, f i ≤ 1) : ∀ n : Nat, sumN n f ≤ n := by
  intro n
  induction n with
  | zero => exact Nat.le_refl _
  | succ n ih => exact Nat.add_le_add ih (h n)
theorem ptc_le {W : Nat → Int32} {s : Nat} : ptc W s ≤ 1 := by
  unfold ptc
  split
  · decide
  · split <;> decide
theorem g_countParts {fr : Nat → Int32} {Q : Int32 → PH → Prop} (hw : Wy ph w aR aV) (er : ph aR = some (217, .inr (.int, 24, .inl fr))) (hG : Gr ph g st lt E) (h : ∀ ph' : PH, Keep TW ph ph' → Q (Int32.ofNat (parts st lt E)) ph') : w_X10_countParts w (some g) ph Q X := by
  have hst := hG.1.2.1
  unfold w_X10_countParts
  rw [ex_isO hw]
  refine g_follow hw er hG (fun p f hK ef hf => ?_)
  have hw1 : Wy p w aR aV := hK.obj hw
  obtain ⟨-, ge1, e11, e12⟩ := hK.gr hG rfl
  refine ⟨st + 1, upto0 (P := fun fu s => w_X10_countParts_9 Q X fu (some w) (some g) (Int32.ofNat (sumN s (ptc (wr st lt E 24)))) (Int32.ofNat s) p) fun fu s hs ih => ?_⟩
  have hb : sumN s (ptc (wr st lt E 24)) ≤ s := sumN_le' (fun i => ptc_le) s
  unfold w_X10_countParts_9
  rw [ex_gI e11 rfl, on_le (by omega) (by omega)]
  refine ⟨fun h9 => ?_, fun h9 => ?_⟩
  · rw [show s = st by omega]
    exact h p hK
  rw [ex_isO hw1]
  refine g_partOf (by omega) hw1 ef hf ?_
  have yes : ptc (wr st lt E 24) s = 1 → w_X10_countParts_9 Q X fu (some w) (some g) (Int32.ofNat (sumN s (ptc (wr st lt E 24))) + 1) (Int32.ofNat s + 1) p := by
    intro h8
    have h7 := ih (by omega)
    rw [show sumN (s + 1) (ptc (wr st lt E 24)) = sumN s (ptc (wr st lt E 24)) + 1 from by show sumN s (ptc (wr st lt E 24)) + ptc (wr st lt E 24) s = _; rw [h8]] at h7
    rw [on_succ, on_succ]
    exact h7
  have no : ptc (wr st lt E 24) s = 0 → w_X10_countParts_9 Q X fu (some w) (some g) (Int32.ofNat (sumN s (ptc (wr st lt E 24)))) (Int32.ofNat s + 1) p := by
    intro h8
    have h7 := ih (by omega)
    rw [show sumN (s + 1) (ptc (wr st lt E 24)) = sumN s (ptc (wr st lt E 24)) from by show sumN s (ptc (wr st lt E 24)) + ptc (wr st lt E 24) s = _; rw [h8, Nat.add_zero]] at h7
    rw [on_succ]
    exact h7
  unfold w_X10_countParts_40
  refine ⟨fun h8 => ⟨fun h7 => no (if_pos h7), fun h7 => ⟨fun _ => no ((if_neg h7).trans (if_neg h8)), fun h6 => absurd rfl h6⟩⟩, fun h8 => ⟨fun h7 => no (if_pos h7), fun h7 => ⟨fun h6 => absurd h6 (by decide), fun _ => yes ((if_neg h7).trans (if_pos h8))⟩⟩⟩
theorem g_isOnePart {fr : Nat → Int32} {Q : Int32 → PH → Prop} (hw : Wy ph w aR aV) (er : ph aR = some (217, .inr (.int, 24, .inl fr))) (hG : Gr ph g st lt E) (h0 : ∀ ph' : PH, Keep TW ph ph' → Q 0 ph') (h1 : ∀ (ph' : PH) (s : Nat), Keep TW ph ph' → s < st → ¬ prF (wr st lt E 24) s = 0 → Q 1 ph') : w_X10_isOnePart w (some g) ph Q X := by
  have hst := hG.1.2.1
  unfold w_X10_isOnePart
  rw [ex_isO hw]
  refine g_follow hw er hG (fun p f hK ef hf => ?_)
  have hw1 : Wy p w aR aV := hK.obj hw
  have hG1 := hK.gr hG rfl
  obtain ⟨-, ge1, e11, e12⟩ := id hG1
  rw [ex_isO e11]
  refine g_liveSet hG1 ?_
  refine ⟨st + 1, upto0 (P := fun fu s => w_X10_isOnePart_12 Q X fu (some w) (some g) (live st lt E) (Int32.ofNat s) p) fun fu s hs ih => ?_⟩
  unfold w_X10_isOnePart_12
  rw [ex_gI e11 rfl, on_le (by omega) (by omega)]
  refine ⟨fun _ => ⟨rfl, h0 p hK⟩, fun h9 => ?_⟩
  refine w_hasBit (fun h8 => ⟨fun h7 => absurd h7 (by decide), fun _ => ?_⟩) (fun h8 => ⟨fun _ => by rw [on_succ]; exact ih (by omega), fun h7 => absurd rfl h7⟩)
  rw [ex_isO hw1]
  refine g_partOf (by omega) hw1 ef hf ⟨fun _ => ⟨rfl, h0 p hK⟩, fun h7 => ⟨rfl, h1 p s hK (by omega) ?_⟩⟩
  rw [h7]
  exact bt_ne.mpr ⟨s, (hb_bt (by omega)).mp h8⟩
end WAYS
/-! where a state lives there is a part -/
section PARTS
variable {st lt : Nat} {E : Nat → Int32}
theorem bt_wr {k i j : Nat} (hk : k < 24) : bt (wr st lt E (k + 1) i) j ↔ bt (wr st lt E k i) j ∨ (bt (wr st lt E k i) k ∧ bt (wr st lt E k k) j) := by
  show bt (if ((wr st lt E k i >>> (Int32.ofNat k &&& 31)) &&& 1) = 0 then wr st lt E k i else wr st lt E k i ||| wr st lt E k k) j ↔ _
  by_cases h : ((wr st lt E k i >>> (Int32.ofNat k &&& 31)) &&& 1) = 0
  · rw [if_pos h]
    exact ⟨Or.inl, fun h9 => h9.elim id (fun h8 => absurd h ((hb_bt (by omega)).mpr h8.1))⟩
  · rw [if_neg h, bt_or]
    have h1 := (hb_bt (by omega)).mp h
    exact ⟨fun h9 => h9.elim Or.inl (fun h8 => Or.inr ⟨h1, h8⟩), fun h9 => h9.elim Or.inl (fun h8 => Or.inr h8.2)⟩
theorem wr_trans : ∀ k : Nat, k ≤ 24 → ∀ m i j : Nat, m < k → bt (wr st lt E k i) m → bt (wr st lt E k m) j → bt (wr st lt E k i) j := by
  intro k
  induction k with
  | zero => intro _ m i j hm; omega
  | succ k ih =>
    intro hk m i j hm h1 h2
    have T := ih (by omega)
    rw [bt_wr (by omega)] at h1 h2 ⊢
    by_cases hmk : m = k
    · subst hmk
      have h3 : bt (wr st lt E m i) m := h1.elim id (fun h => h.1)
      have h4 : bt (wr st lt E m m) j := h2.elim id (fun h => h.2)
      exact Or.inr ⟨h3, h4⟩
    · have hm2 : m < k := by omega
      rcases h1 with h1 | ⟨h1, h1'⟩
      · rcases h2 with h2 | ⟨h2, h2'⟩
        · exact Or.inl (T m i j hm2 h1 h2)
        · exact Or.inr ⟨T m i k hm2 h1 h2, h2'⟩
      · rcases h2 with h2 | ⟨h2, h2'⟩
        · exact Or.inr ⟨h1, T m k j hm2 h1' h2⟩
        · exact Or.inr ⟨h1, h2'⟩
theorem wr_edge {i j : Nat} (h : bt (wr st lt E 0 i) j) : ∀ k : Nat, k ≤ 24 → bt (wr st lt E k i) j := by
  intro k
  induction k with
  | zero => intro _; exact h
  | succ k ih => intro hk; exact (bt_wr (by omega)).mpr (Or.inl (ih (by omega)))
theorem bt_prF {W : Nat → Int32} {s o : Nat} (hs : s < 24) : bt (prF W s) o ↔ o < 24 ∧ bt (W s) o ∧ bt (W o) s := by
  unfold prF
  rw [bt_orF]
  have key : ∀ i : Nat, i < 24 → (bt (prt W s i) o ↔ i = o ∧ bt (W s) i ∧ bt (W i) s) := by
    intro i hi
    unfold prt
    by_cases h : ((W s >>> (Int32.ofNat i &&& 31)) &&& 1) = 0
    · rw [if_pos h]
      exact ⟨fun h9 => absurd h9 bt_zero, fun h9 => absurd h ((hb_bt (by omega)).mpr h9.2.1)⟩
    · rw [if_neg h]
      by_cases h8 : ((W i >>> (Int32.ofNat s &&& 31)) &&& 1) = 0
      · rw [if_pos h8]
        exact ⟨fun h9 => absurd h9 bt_zero, fun h9 => absurd h8 ((hb_bt (by omega)).mpr h9.2.2)⟩
      · rw [if_neg h8, bt_one (by omega)]
        exact ⟨fun h9 => ⟨h9.symm, (hb_bt (by omega)).mp h, (hb_bt (by omega)).mp h8⟩, fun h9 => h9.1.symm⟩
  constructor
  · rintro ⟨i, hi, h⟩
    obtain ⟨rfl, h2, h3⟩ := (key i hi).mp h
    exact ⟨hi, h2, h3⟩
  · rintro ⟨ho, h2, h3⟩
    exact ⟨o, ho, (key o ho).mpr ⟨rfl, h2, h3⟩⟩
theorem parts_pos {s : Nat} (hst : st ≤ 24) (hs : s < st) (h : ¬ prF (wr st lt E 24) s = 0) : 1 ≤ parts st lt E := by
  -- the least of them
  have key : ∀ n s : Nat, s ≤ n → s < st → ¬ prF (wr st lt E 24) s = 0 → ∃ m : Nat, m < st ∧ ptc (wr st lt E 24) m = 1 := by
    intro n
    induction n with
    | zero =>
      intro s hn hs h
      refine ⟨s, hs, ?_⟩
      unfold ptc
      rw [if_neg h, if_pos]
      refine Classical.byContradiction fun h9 => ?_
      obtain ⟨j, hj⟩ := bt_ne.mp h9
      have h8 := (bt_mask (by omega)).mp (bt_and.mp hj).2
      omega
    | succ n ih =>
      intro s hn hs h
      by_cases h9 : (prF (wr st lt E 24) s &&& (((1 : Int32) <<< (Int32.ofNat s &&& 31)) - 1)) = 0
      · refine ⟨s, hs, ?_⟩
        unfold ptc
        rw [if_neg h, if_pos h9]
      · obtain ⟨j, hj⟩ := bt_ne.mp h9
        obtain ⟨j1, j2⟩ := bt_and.mp hj
        have h8 := (bt_mask (by omega)).mp j2
        obtain ⟨-, j3, j4⟩ := (bt_prF (by omega)).mp j1
        exact ih j (by omega) (by omega) (bt_ne.mpr ⟨s, (bt_prF (by omega)).mpr ⟨by omega, j4, j3⟩⟩)
  obtain ⟨m, hm, h1⟩ := key s s (Nat.le_refl _) hs h
  have h2 := sumN_ge (f := ptc (wr st lt E 24)) hm
  unfold parts
  omega
theorem parts_live (hst : st ≤ 24) (h : ¬ live st lt E = 0) : 1 ≤ parts st lt E := by
  refine Classical.byContradiction fun h9 => ?_
  have no : ∀ s : Nat, s < st → ¬ bt (wr st lt E 24 s) s := fun s hs h8 => h9 (parts_pos hst hs (bt_ne.mpr ⟨s, (bt_prF (by omega)).mpr ⟨by omega, h8, h8⟩⟩))
  have key : ∀ (n s : Nat), bt (live st lt E) s → cd (wr st lt E 24 s &&& live st lt E) ≤ n → False := by
    intro n
    induction n with
    | zero =>
      intro s hs hn
      obtain ⟨a, ha, j, h1, h2⟩ := live_out hst hs
      have hss := live_lt hst hs
      have h3 : bt (wr st lt E 0 s) j := by
        show bt (allX st lt E s) j
        rw [show allX st lt E s = allT lt E s from if_pos hss]
        exact bt_allT.mpr ⟨a, ha, h1⟩
      have h4 := wr_edge h3 24 (Nat.le_refl _)
      have h5 := cd_zero (show cd (wr st lt E 24 s &&& live st lt E) = 0 by omega) (fun k hk => by
        have := live_lt hst (bt_and.mp hk).2
        omega)
      exact absurd h5 (bt_ne.mpr ⟨j, bt_and.mpr ⟨h4, h2⟩⟩)
    | succ n ih =>
      intro s hs hn
      obtain ⟨a, ha, j, h1, h2⟩ := live_out hst hs
      have hss := live_lt hst hs
      have hjj := live_lt hst h2
      have h3 : bt (wr st lt E 0 s) j := by
        show bt (allX st lt E s) j
        rw [show allX st lt E s = allT lt E s from if_pos hss]
        exact bt_allT.mpr ⟨a, ha, h1⟩
      have h4 := wr_edge h3 24 (Nat.le_refl _)
      have h5 := cd_lt (S := wr st lt E 24 j &&& live st lt E) (T := wr st lt E 24 s &&& live st lt E) (j := j) (fun k hk => by
        obtain ⟨k1, k2⟩ := bt_and.mp hk
        exact bt_and.mpr ⟨wr_trans 24 (Nat.le_refl _) j s k (by omega) h4 k1, k2⟩) (by omega) (bt_and.mpr ⟨h4, h2⟩) (fun h6 => no j hjj (bt_and.mp h6).1)
      exact ih j h2 (by omega)
  obtain ⟨s, hs⟩ := bt_ne.mp h
  exact key _ s hs (Nat.le_refl _)
end PARTS
