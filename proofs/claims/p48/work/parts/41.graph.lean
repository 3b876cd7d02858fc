/-! bits -/
def hb (S x : Int32) : Prop := ¬ ((S >>> (x &&& 31)) &&& 1) = 0
theorem sh_key : ∀ j : Fin 32, ((Int32.ofNat j.val &&& 31).toBitVec.smod 32).toNat = j.val := by decide +kernel
theorem shr_bv {S : Int32} {j : Nat} (hj : j < 32) : (S >>> (Int32.ofNat j &&& 31)).toBitVec = S.toBitVec.sshiftRight j := by
  rw [Int32.toBitVec_shiftRight, BitVec.sshiftRight', sh_key ⟨j, hj⟩]
theorem and1 {x : Int32} : x &&& 1 = 0 ↔ x.toBitVec.getLsbD 0 = false := by
  constructor
  · intro h
    have h2 := congrArg (fun z : Int32 => z.toBitVec.getLsbD 0) h
    simpa using h2
  · intro h
    apply Int32.toBitVec_inj.mp
    apply BitVec.eq_of_getLsbD_eq
    intro i hi
    rw [Int32.toBitVec_and, BitVec.getLsbD_and]
    cases i with
    | zero => rw [h]; rfl
    | succ i => simp
theorem hb_bit {S : Int32} {j : Nat} (hj : j < 32) : hb S (Int32.ofNat j) ↔ S.toBitVec.getLsbD j = true := by
  unfold hb
  rw [and1, shr_bv hj, BitVec.getLsbD_sshiftRight]
  simp [hj]
theorem shr_zero {S : Int32} {i j : Nat} (hi : i < 32) (h : S >>> (Int32.ofNat i &&& 31) = 0) (hij : i ≤ j) (hj : j < 32) : ¬ hb S (Int32.ofNat j) := by
  rw [hb_bit hj]
  have h2 := congrArg (fun z : Int32 => z.toBitVec.getLsbD (j - i)) h
  simp only [shr_bv hi, BitVec.getLsbD_sshiftRight] at h2
  have h3 : i + (j - i) = j := by omega
  rw [h3] at h2
  intro h4
  rw [h4] at h2
  simp [hj] at h2
  omega
theorem w_hasBit {S x : Int32} {ph : PH} {Q : Int32 → PH → Prop} {X : String → PH → Prop} (h1 : hb S x → Q 1 ph) (h0 : ¬ hb S x → Q 0 ph) : w_X11_hasBit S x ph Q X := ⟨fun h => ⟨rfl, h0 (fun h9 => h9 h)⟩, fun h => ⟨rfl, h1 h⟩⟩
/-! the reading of a graph -/
def orF : Nat → (Nat → Int32) → Int32
  | 0, _ => 0
  | n + 1, f => orF n f ||| f n
def rdF (E : Nat → Int32) (a : Nat) (S : Int32) : Nat → Int32 := fun i => if ((S >>> (Int32.ofNat i &&& 31)) &&& 1) = 0 then 0 else E (24 * a + i)
def allT (lt : Nat) (E : Nat → Int32) (i : Nat) : Int32 := orF lt (fun a => E (24 * a + i))
def enF (lt : Nat) (E : Nat → Int32) (S : Int32) : Nat → Int32 := fun i => if ((S >>> (Int32.ofNat i &&& 31)) &&& 1) = 0 then 0 else allT lt E i
def leF (lt : Nat) (E : Nat → Int32) (S : Int32) : Nat → Int32 := fun i => if (allT lt E i &&& S) = 0 then 0 else (1 : Int32) <<< (Int32.ofNat i &&& 31)
def lvStep (st lt : Nat) (E : Nat → Int32) (S : Int32) : Int32 := (S &&& orF st (enF lt E S)) &&& orF st (leF lt E S)
def lvIt (st lt : Nat) (E : Nat → Int32) : Nat → Int32 → Int32
  | 0, S => S
  | k + 1, S => lvIt st lt E k (lvStep st lt E S)
def live (st lt : Nat) (E : Nat → Int32) : Int32 := lvIt st lt E 24 (((1 : Int32) <<< (Int32.ofNat st &&& 31)) - 1)
theorem lvIt_fix {st lt : Nat} {E : Nat → Int32} {S : Int32} (h : lvStep st lt E S = S) : ∀ k : Nat, lvIt st lt E k S = S := by
  intro k
  induction k with
  | zero => rfl
  | succ k ih =>
    unfold lvIt
    rw [h]
    exact ih
theorem orF_zero {f : Nat → Int32} {i : Nat} : ∀ d : Nat, (∀ j : Nat, i ≤ j → j < i + d → f j = 0) → orF (i + d) f = orF i f := by
  intro d
  induction d with
  | zero => intro _; rfl
  | succ d ih =>
    intro h
    show orF (i + d) f ||| f (i + d) = orF i f
    rw [ih (fun j h1 h2 => h j h1 (by omega)), h (i + d) (by omega) (by omega)]
    exact Int32.or_zero
section GRAPH2
variable {ph : PH} {g st lt : Nat} {E : Nat → Int32} {X : String → PH → Prop}
theorem g_allTargets {i : Nat} (hi : i < st) {Q : Int32 → PH → Prop} (hG : Gr ph g st lt E) (h : Q (allT lt E i) ph) : w_X3_allTargets g (Int32.ofNat i) ph Q X := by
  have key : ∀ (d a fu : Nat), a + d = lt → d < fu → w_X3_allTargets_4 Q X fu (some g) (Int32.ofNat i) (orF a (fun a => E (24 * a + i))) (Int32.ofNat a) ph := by
    intro d
    induction d with
    | zero =>
      intro a fu h1 h2
      obtain ⟨fu, rfl⟩ : ∃ k, fu = k + 1 := ⟨fu - 1, by omega⟩
      obtain ⟨⟨b1, b2, b3, b4⟩, ge, e1, e2⟩ := hG
      unfold w_X3_allTargets_4
      rw [ex_gI e1 rfl, on_le (by omega) (by omega)]
      refine ⟨fun _ => ?_, fun h9 => absurd (by omega) h9⟩
      rw [show a = lt by omega]
      exact h
    | succ d ih =>
      intro a fu h1 h2
      obtain ⟨fu, rfl⟩ : ∃ k, fu = k + 1 := ⟨fu - 1, by omega⟩
      have hG' := hG
      obtain ⟨⟨b1, b2, b3, b4⟩, ge, e1, e2⟩ := hG
      unfold w_X3_allTargets_4
      rw [ex_gI e1 rfl, on_le (by omega) (by omega)]
      refine ⟨fun h9 => absurd h9 (by omega), fun _ => ?_⟩
      rw [ex_isO e1]
      refine g_targets hi (by omega) hG' ?_
      intro v hv
      subst hv
      rw [on_succ]
      exact ih (a + 1) fu (by omega) (by omega)
  exact ⟨lt + 1, key lt 0 (lt + 1) (by omega) (by omega)⟩
theorem g_read {a : Nat} {S : Int32} (ha : a < lt) {Q : Int32 → PH → Prop} (hG : Gr ph g st lt E) (h : Q (orF st (rdF E a S)) ph) : w_X3_read g S (Int32.ofNat a) ph Q X := by
  have hst : st ≤ 24 := hG.1.2.1
  have key : ∀ (d i fu : Nat), i + d = st → d < fu → w_X3_read_5 Q X fu (some g) S (Int32.ofNat a) (orF i (rdF E a S)) (Int32.ofNat i) ph := by
    intro d
    induction d with
    | zero =>
      intro i fu h1 h2
      obtain ⟨fu, rfl⟩ : ∃ k, fu = k + 1 := ⟨fu - 1, by omega⟩
      obtain ⟨⟨b1, b2, b3, b4⟩, ge, e1, e2⟩ := hG
      unfold w_X3_read_5
      rw [ex_gI e1 rfl, on_le (by omega) (by omega)]
      refine ⟨fun _ => ?_, fun h9 => absurd (by omega) h9⟩
      rw [show i = st by omega]
      exact h
    | succ d ih =>
      intro i fu h1 h2
      obtain ⟨fu, rfl⟩ : ∃ k, fu = k + 1 := ⟨fu - 1, by omega⟩
      have hG' := hG
      obtain ⟨⟨b1, b2, b3, b4⟩, ge, e1, e2⟩ := hG
      unfold w_X3_read_5
      rw [ex_gI e1 rfl, on_le (by omega) (by omega)]
      refine ⟨fun h9 => absurd h9 (by omega), fun _ => ⟨fun h9 => ?_, fun _ => ?_⟩⟩
      · rw [← orF_zero (f := rdF E a S) (d + 1) (fun j j1 j2 => if_pos (Decidable.of_not_not (shr_zero (by omega) h9 j1 (by omega)))), h1]
        exact h
      · refine w_hasBit (fun h9 => ⟨fun h8 => absurd h8 (by decide), fun _ => ?_⟩) (fun h9 => ⟨fun _ => ?_, fun h8 => absurd rfl h8⟩)
        · rw [ex_isO e1]
          refine g_targets (by omega) ha hG' ?_
          intro v hv
          subst hv
          rw [on_succ, show E (24 * a + i) = rdF E a S i from (if_neg h9).symm]
          exact ih (i + 1) fu (by omega) (by omega)
        · rw [on_succ, show orF i (rdF E a S) = orF (i + 1) (rdF E a S) from (orF_zero 1 (fun j j1 j2 => by
            rw [show j = i by omega]
            exact if_pos (Decidable.of_not_not h9))).symm]
          exact ih (i + 1) fu (by omega) (by omega)
  exact ⟨st + 1, key st 0 (st + 1) (by omega) (by omega)⟩
theorem g_entered {S : Int32} {Q : Int32 → PH → Prop} (hG : Gr ph g st lt E) (h : Q (orF st (enF lt E S)) ph) : w_X3_entered g S ph Q X := by
  have hst : st ≤ 24 := hG.1.2.1
  have key : ∀ (d i fu : Nat), i + d = st → d < fu → w_X3_entered_4 Q X fu (some g) S (orF i (enF lt E S)) (Int32.ofNat i) ph := by
    intro d
    induction d with
    | zero =>
      intro i fu h1 h2
      obtain ⟨fu, rfl⟩ : ∃ k, fu = k + 1 := ⟨fu - 1, by omega⟩
      obtain ⟨⟨b1, b2, b3, b4⟩, ge, e1, e2⟩ := hG
      unfold w_X3_entered_4
      rw [ex_gI e1 rfl, on_le (by omega) (by omega)]
      refine ⟨fun _ => ?_, fun h9 => absurd (by omega) h9⟩
      rw [show i = st by omega]
      exact h
    | succ d ih =>
      intro i fu h1 h2
      obtain ⟨fu, rfl⟩ : ∃ k, fu = k + 1 := ⟨fu - 1, by omega⟩
      have hG' := hG
      obtain ⟨⟨b1, b2, b3, b4⟩, ge, e1, e2⟩ := hG
      unfold w_X3_entered_4
      rw [ex_gI e1 rfl, on_le (by omega) (by omega)]
      refine ⟨fun h9 => absurd h9 (by omega), fun _ => ?_⟩
      refine w_hasBit (fun h9 => ⟨fun h8 => absurd h8 (by decide), fun _ => ?_⟩) (fun h9 => ⟨fun _ => ?_, fun h8 => absurd rfl h8⟩)
      · rw [ex_isO e1]
        refine g_allTargets (by omega) hG' ?_
        intro v hv
        subst hv
        rw [on_succ, show allT lt E i = enF lt E S i from (if_neg h9).symm]
        exact ih (i + 1) fu (by omega) (by omega)
      · rw [on_succ, show orF i (enF lt E S) = orF (i + 1) (enF lt E S) from (orF_zero 1 (fun j j1 j2 => by
          rw [show j = i by omega]
          exact if_pos (Decidable.of_not_not h9))).symm]
        exact ih (i + 1) fu (by omega) (by omega)
  exact ⟨st + 1, key st 0 (st + 1) (by omega) (by omega)⟩
theorem g_leaving {S : Int32} {Q : Int32 → PH → Prop} (hG : Gr ph g st lt E) (h : Q (orF st (leF lt E S)) ph) : w_X3_leaving g S ph Q X := by
  have hst : st ≤ 24 := hG.1.2.1
  have key : ∀ (d i fu : Nat), i + d = st → d < fu → w_X3_leaving_4 Q X fu (some g) S (orF i (leF lt E S)) (Int32.ofNat i) ph := by
    intro d
    induction d with
    | zero =>
      intro i fu h1 h2
      obtain ⟨fu, rfl⟩ : ∃ k, fu = k + 1 := ⟨fu - 1, by omega⟩
      obtain ⟨⟨b1, b2, b3, b4⟩, ge, e1, e2⟩ := hG
      unfold w_X3_leaving_4
      rw [ex_gI e1 rfl, on_le (by omega) (by omega)]
      refine ⟨fun _ => ?_, fun h9 => absurd (by omega) h9⟩
      rw [show i = st by omega]
      exact h
    | succ d ih =>
      intro i fu h1 h2
      obtain ⟨fu, rfl⟩ : ∃ k, fu = k + 1 := ⟨fu - 1, by omega⟩
      have hG' := hG
      obtain ⟨⟨b1, b2, b3, b4⟩, ge, e1, e2⟩ := hG
      unfold w_X3_leaving_4
      rw [ex_gI e1 rfl, on_le (by omega) (by omega)]
      refine ⟨fun h9 => absurd h9 (by omega), fun _ => ?_⟩
      rw [ex_isO e1]
      refine g_allTargets (by omega) hG' ⟨fun h9 => ?_, fun h9 => ?_⟩
      · rw [on_succ, show orF i (leF lt E S) = orF (i + 1) (leF lt E S) from (orF_zero 1 (fun j j1 j2 => by
          rw [show j = i by omega]
          exact if_pos h9)).symm]
        exact ih (i + 1) fu (by omega) (by omega)
      · intro v hv
        subst hv
        rw [on_succ, show (1 : Int32) <<< (Int32.ofNat i &&& 31) = leF lt E S i from (if_neg h9).symm]
        exact ih (i + 1) fu (by omega) (by omega)
  exact ⟨st + 1, key st 0 (st + 1) (by omega) (by omega)⟩
theorem g_liveSet {Q : Int32 → PH → Prop} (hG : Gr ph g st lt E) (h : Q (live st lt E) ph) : w_X3_liveSet g ph Q X := by
  have key : ∀ (d r fu : Nat) (S : Int32), r + d = 24 → d < fu → lvIt st lt E d S = live st lt E → w_X3_liveSet_11 Q X fu (some g) S (Int32.ofNat r) ph := by
    intro d
    induction d with
    | zero =>
      intro r fu S h1 h2 h3
      obtain ⟨fu, rfl⟩ : ∃ k, fu = k + 1 := ⟨fu - 1, by omega⟩
      unfold w_X3_liveSet_11
      rw [show r = 24 by omega]
      refine ⟨fun _ => ?_, fun h9 => absurd (by decide) h9⟩
      have h4 : S = live st lt E := h3
      rw [h4]
      exact h
    | succ d ih =>
      intro r fu S h1 h2 h3
      obtain ⟨fu, rfl⟩ : ∃ k, fu = k + 1 := ⟨fu - 1, by omega⟩
      have hG' := hG
      obtain ⟨⟨b1, b2, b3, b4⟩, ge, e1, e2⟩ := hG
      unfold w_X3_liveSet_11
      rw [show (24 : Int32) = Int32.ofNat 24 from rfl, on_le (by omega) (by omega)]
      refine ⟨fun h9 => absurd h9 (by omega), fun _ => ?_⟩
      rw [ex_isO e1]
      refine g_entered hG' ?_
      rw [ex_isO e1]
      refine g_leaving hG' ?_
      intro v hv
      subst hv
      refine ⟨fun h9 => ?_, fun h9 => ?_⟩
      · rw [on_succ]
        exact ih (r + 1) fu _ (by omega) (by omega) h3
      · have h4 : lvIt st lt E (d + 1) S = S := lvIt_fix h9 (d + 1)
        rw [h4] at h3
        rw [h3]
        exact h
  have hG' := hG
  obtain ⟨⟨b1, b2, b3, b4⟩, ge, e1, e2⟩ := hG
  unfold w_X3_liveSet
  rw [ex_gI e1 rfl]
  intro v hv
  subst hv
  exact ⟨25, key 24 0 25 _ rfl (by omega) rfl⟩
end GRAPH2
