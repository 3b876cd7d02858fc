/-! loops that count up -/
theorem upto {n : Nat} {P : Nat → Nat → Prop} (h : ∀ fu i : Nat, i ≤ n → (i < n → P fu (i + 1)) → P (fu + 1) i) (s : Nat) (hs : s ≤ n) : P (n - s + 1) s := by
  have key : ∀ d i : Nat, i + d = n → P (d + 1) i := by
    intro d
    induction d with
    | zero => intro i hi; exact h 0 i (by omega) (fun h9 => absurd h9 (by omega))
    | succ d ih => intro i hi; exact h (d + 1) i (by omega) (fun _ => ih (i + 1) (by omega))
  exact key (n - s) s (by omega)
theorem upfrom {n s : Nat} {P : Nat → Nat → Prop} (hs : s ≤ n) (h : ∀ fu i : Nat, s ≤ i → i ≤ n → (i < n → P fu (i + 1)) → P (fu + 1) i) : P (n - s + 1) s := by
  have key : ∀ d i : Nat, i + d = n → s ≤ i → P (d + 1) i := by
    intro d
    induction d with
    | zero => intro i hi hs; exact h 0 i hs (by omega) (fun h9 => absurd h9 (by omega))
    | succ d ih => intro i hi hs; exact h (d + 1) i hs (by omega) (fun _ => ih (i + 1) (by omega) (by omega))
  exact key (n - s) s (by omega) (Nat.le_refl s)
theorem upto0 {n : Nat} {P : Nat → Nat → Prop} (h : ∀ fu i : Nat, i ≤ n → (i < n → P fu (i + 1)) → P (fu + 1) i) : P (n + 1) 0 := upto h 0 (Nat.zero_le n)
/-! bits of sets -/
def bt (S : Int32) (j : Nat) : Prop := S.toBitVec.getLsbD j = true
theorem bt_or {S T : Int32} {j : Nat} : bt (S ||| T) j ↔ bt S j ∨ bt T j := by
  unfold bt
  rw [Int32.toBitVec_or, BitVec.getLsbD_or, Bool.or_eq_true]
theorem bt_and {S T : Int32} {j : Nat} : bt (S &&& T) j ↔ bt S j ∧ bt T j := by
  unfold bt
  rw [Int32.toBitVec_and, BitVec.getLsbD_and, Bool.and_eq_true]
theorem bt_zero {j : Nat} : ¬ bt 0 j := by
  intro h
  have h2 : (0#32).getLsbD j = true := h
  rw [BitVec.getLsbD_zero] at h2
  cases h2
theorem bt_lt {S : Int32} {j : Nat} (h : bt S j) : j < 32 := by
  refine Classical.byContradiction fun h9 => ?_
  have h2 := BitVec.getLsbD_of_ge S.toBitVec j (by omega)
  unfold bt at h
  rw [h2] at h
  cases h
theorem bt_ext {S T : Int32} (h : ∀ j : Nat, bt S j ↔ bt T j) : S = T := by
  apply Int32.toBitVec_inj.mp
  apply BitVec.eq_of_getLsbD_eq
  intro i hi
  have h1 := h i
  unfold bt at h1
  cases h2 : S.toBitVec.getLsbD i <;> cases h3 : T.toBitVec.getLsbD i <;> rw [h2, h3] at h1 <;> simp at h1 <;> rfl
theorem bt_ne {S : Int32} : ¬ S = 0 ↔ ∃ j : Nat, bt S j := by
  constructor
  · intro h
    refine Classical.byContradiction fun h9 => h (bt_ext fun j => ⟨fun h8 => absurd ⟨j, h8⟩ h9, fun h8 => absurd h8 bt_zero⟩)
  · rintro ⟨j, hj⟩ h
    rw [h] at hj
    exact bt_zero hj
theorem bt_one_key : ∀ j i : Fin 32, ((1 : Int32) <<< (Int32.ofNat j.val &&& 31)).toBitVec.getLsbD i.val = decide (i.val = j.val) := by decide +kernel
theorem bt_one {j i : Nat} (hj : j < 32) : bt ((1 : Int32) <<< (Int32.ofNat j &&& 31)) i ↔ i = j := by
  constructor
  · intro h
    have h2 := bt_one_key ⟨j, hj⟩ ⟨i, bt_lt h⟩
    have h3 : ((1 : Int32) <<< (Int32.ofNat j &&& 31)).toBitVec.getLsbD i = true := h
    have h4 : decide (i = j) = true := h2.symm.trans h3
    exact of_decide_eq_true h4
  · intro h
    subst h
    exact (bt_one_key ⟨i, hj⟩ ⟨i, hj⟩).trans (decide_eq_true rfl)
theorem bt_mask_key : ∀ j : Fin 25, ∀ i : Fin 32, (((1 : Int32) <<< (Int32.ofNat j.val &&& 31)) - 1).toBitVec.getLsbD i.val = decide (i.val < j.val) := by decide +kernel
theorem bt_mask {j i : Nat} (hj : j ≤ 24) : bt (((1 : Int32) <<< (Int32.ofNat j &&& 31)) - 1) i ↔ i < j := by
  constructor
  · intro h
    have h2 := bt_mask_key ⟨j, by omega⟩ ⟨i, bt_lt h⟩
    have h4 : decide (i < j) = true := h2.symm.trans h
    exact of_decide_eq_true h4
  · intro h
    exact (bt_mask_key ⟨j, by omega⟩ ⟨i, by omega⟩).trans (decide_eq_true h)
theorem hb_bt {S : Int32} {j : Nat} (hj : j < 32) : hb S (Int32.ofNat j) ↔ bt S j := hb_bit hj
theorem bt_orF {n : Nat} {f : Nat → Int32} {j : Nat} : bt (orF n f) j ↔ ∃ i : Nat, i < n ∧ bt (f i) j := by
  induction n with
  | zero =>
    constructor
    · intro h
      exact absurd h bt_zero
    · rintro ⟨i, hi, -⟩
      omega
  | succ n ih =>
    show bt (orF n f ||| f n) j ↔ _
    rw [bt_or, ih]
    constructor
    · rintro (⟨i, hi, h⟩ | h)
      · exact ⟨i, by omega, h⟩
      · exact ⟨n, by omega, h⟩
    · rintro ⟨i, hi, h⟩
      by_cases h9 : i = n
      · rw [h9] at h
        exact Or.inr h
      · exact Or.inl ⟨i, by omega, h⟩
theorem bt_rdF {E : Nat → Int32} {a i j : Nat} {S : Int32} (hi : i < 32) : bt (rdF E a S i) j ↔ bt S i ∧ bt (E (24 * a + i)) j := by
  unfold rdF
  by_cases h : ((S >>> (Int32.ofNat i &&& 31)) &&& 1) = 0
  · rw [if_pos h]
    exact ⟨fun h9 => absurd h9 bt_zero, fun h9 => absurd h ((hb_bt hi).mpr h9.1)⟩
  · rw [if_neg h]
    exact ⟨fun h9 => ⟨(hb_bt hi).mp h, h9⟩, fun h9 => h9.2⟩
theorem bt_rdL {st : Nat} {E : Nat → Int32} {L S : Int32} {a j : Nat} (hst : st ≤ 24) : bt (rdL st E L S a) j ↔ (∃ i : Nat, i < st ∧ bt S i ∧ bt (E (24 * a + i)) j) ∧ bt L j := by
  unfold rdL
  rw [bt_and, bt_orF]
  constructor
  · rintro ⟨⟨i, hi, h⟩, h2⟩
    exact ⟨⟨i, hi, (bt_rdF (by omega)).mp h⟩, h2⟩
  · rintro ⟨⟨i, hi, h⟩, h2⟩
    exact ⟨⟨i, hi, (bt_rdF (by omega)).mpr h⟩, h2⟩
def sub (S T : Int32) : Prop := ∀ j : Nat, bt S j → bt T j
theorem sub_eq {S T : Int32} (h1 : sub S T) (h2 : sub T S) : S = T := bt_ext fun j => ⟨h1 j, h2 j⟩
theorem rdL_zero {st : Nat} {E : Nat → Int32} {L : Int32} {a : Nat} (hst : st ≤ 24) : rdL st E L 0 a = 0 := bt_ext fun j => ⟨fun h => by
  obtain ⟨⟨i, -, h1, -⟩, -⟩ := (bt_rdL hst).mp h
  exact absurd h1 bt_zero, fun h => absurd h bt_zero⟩
theorem rdL_mono {st : Nat} {E : Nat → Int32} {L S T : Int32} {a : Nat} (hst : st ≤ 24) (h : sub S T) : sub (rdL st E L S a) (rdL st E L T a) := by
  intro j hj
  obtain ⟨⟨i, h1, h2, h3⟩, h4⟩ := (bt_rdL hst).mp hj
  exact (bt_rdL hst).mpr ⟨⟨i, h1, h i h2, h3⟩, h4⟩
theorem rdL_sub {st : Nat} {E : Nat → Int32} {L S : Int32} {a : Nat} : sub (rdL st E L S a) L := by
  intro j hj
  unfold rdL at hj
  exact (bt_and.mp hj).2
/-! how many bits -/
def cd (S : Int32) : Nat := sumN 24 (fun i => (S.toBitVec.getLsbD i).toNat)
theorem sumN_mon {n : Nat} {f g : Nat → Nat} (h : ∀ i : Nat, i < n → f i ≤ g i) : sumN n f ≤ sumN n g := by
  induction n with
  | zero => exact Nat.le_refl _
  | succ n ih => exact Nat.add_le_add (ih fun i hi => h i (by omega)) (h n (by omega))
theorem sumN_lt {n j : Nat} {f g : Nat → Nat} (h : ∀ i : Nat, i < n → f i ≤ g i) (hj : j < n) (hl : f j < g j) : sumN n f < sumN n g := by
  induction n with
  | zero => omega
  | succ n ih =>
    by_cases h9 : j = n
    · subst h9
      exact Nat.add_lt_add_of_le_of_lt (sumN_mon fun i hi => h i (by omega)) hl
    · exact Nat.add_lt_add_of_lt_of_le (ih (fun i hi => h i (by omega)) (by omega)) (h n (by omega))
theorem cd_le {S : Int32} : cd S ≤ 24 := sumN_le (B := 1) (n := 24) fun i _ => Bool.toNat_le _
theorem bt_toNat {S T : Int32} {i : Nat} (h : bt S i → bt T i) : (S.toBitVec.getLsbD i).toNat ≤ (T.toBitVec.getLsbD i).toNat := by
  unfold bt at h
  cases h2 : S.toBitVec.getLsbD i
  · exact Nat.zero_le _
  · rw [h h2]
    exact Nat.le_refl _
theorem cd_lt {S T : Int32} {j : Nat} (h : sub S T) (hj : j < 24) (h1 : bt T j) (h2 : ¬ bt S j) : cd S < cd T := by
  refine sumN_lt (fun i _ => bt_toNat (h i)) hj ?_
  unfold bt at h1 h2
  rw [h1]
  cases h3 : S.toBitVec.getLsbD j
  · decide
  · exact absurd h3 h2
theorem cd_zero {S : Int32} (h : cd S = 0) (hS : ∀ j : Nat, bt S j → j < 24) : S = 0 := by
  refine Classical.byContradiction fun h9 => ?_
  obtain ⟨j, hj⟩ := bt_ne.mp h9
  have h3 := cd_lt (S := 0) (T := S) (fun i hi => absurd hi bt_zero) (hS j hj) hj bt_zero
  omega
/-! what is done again and again -/
def itr (f : Int32 → Int32) : Nat → Int32 → Int32
  | 0, S => S
  | k + 1, S => itr f k (f S)
theorem itr_succ {f : Int32 → Int32} : ∀ (k : Nat) (S : Int32), itr f (k + 1) S = f (itr f k S) := by
  intro k
  induction k with
  | zero => intro S; rfl
  | succ k ih => intro S; exact ih (f S)
theorem itr_stay {f : Int32 → Int32} {S : Int32} (h : f S = S) : ∀ k : Nat, itr f k S = S := by
  intro k
  induction k with
  | zero => rfl
  | succ k ih =>
    show itr f k (f S) = S
    rw [h]
    exact ih
theorem itr_add {f : Int32 → Int32} {m : Nat} : ∀ (k : Nat) (S : Int32), itr f (k + m) S = itr f m (itr f k S) := by
  intro k
  induction k with
  | zero => intro S; rw [Nat.zero_add]; rfl
  | succ k ih =>
    intro S
    rw [show k + 1 + m = (k + m) + 1 by omega]
    exact ih (f S)
theorem itr_fix {f : Int32 → Int32} {S : Int32} (h0 : f 0 = 0) (hS : ∀ j : Nat, bt S j → j < 24) (hd : ∀ k : Nat, sub (itr f (k + 1) S) (itr f k S)) : f (itr f 24 S) = itr f 24 S := by
  have hb : ∀ k j : Nat, bt (itr f k S) j → j < 24 := by
    intro k
    induction k with
    | zero => exact hS
    | succ k ih => exact fun j hj => ih j (hd k j hj)
  have key : ∀ k : Nat, (∃ m : Nat, m ≤ k ∧ f (itr f m S) = itr f m S) ∨ cd (itr f k S) + k ≤ 24 := by
    intro k
    induction k with
    | zero =>
      have h9 : cd (itr f 0 S) ≤ 24 := cd_le
      exact Or.inr h9
    | succ k ih =>
      rcases ih with ⟨m, hm, h⟩ | h
      · exact Or.inl ⟨m, by omega, h⟩
      · by_cases h9 : f (itr f k S) = itr f k S
        · exact Or.inl ⟨k, by omega, h9⟩
        · have h1 : ¬ sub (itr f k S) (itr f (k + 1) S) := fun h8 => h9 ((itr_succ k S).symm.trans (sub_eq (hd k) h8))
          have h2 : ∃ j : Nat, bt (itr f k S) j ∧ ¬ bt (itr f (k + 1) S) j := Classical.byContradiction fun h8 => h1 fun j hj => Classical.byContradiction fun h7 => h8 ⟨j, hj, h7⟩
          obtain ⟨j, j1, j2⟩ := h2
          have h3 := cd_lt (hd k) (hb k j j1) j1 j2
          exact Or.inr (by omega)
  rcases key 24 with ⟨m, hm, h⟩ | h
  · have h1 : itr f 24 S = itr f m S := by
      rw [show 24 = m + (24 - m) by omega, itr_add]
      exact itr_stay h _
    rw [h1]
    exact h
  · have h1 : itr f 24 S = 0 := cd_zero (by omega) (hb 24)
    rw [h1]
    exact h0
