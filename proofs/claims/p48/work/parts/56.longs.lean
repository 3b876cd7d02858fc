/-! small longs -/
theorem oj_int {i : Nat} (h : i < 2 ^ 63) : (Int64.ofNat i).toInt = (i : Int) := Int64.toInt_ofNat_of_lt h
theorem oj_inj {i j : Nat} (hi : i < 2 ^ 63) (hj : j < 2 ^ 63) : Int64.ofNat i = Int64.ofNat j ↔ i = j := by
  constructor
  · intro h
    have h2 := congrArg Int64.toInt h
    rw [oj_int hi, oj_int hj] at h2
    omega
  · intro h
    rw [h]
theorem oj_le {i j : Nat} (hi : i < 2 ^ 63) (hj : j < 2 ^ 63) : Int64.ofNat i ≤ Int64.ofNat j ↔ i ≤ j := by
  rw [Int64.le_iff_toInt_le, oj_int hi, oj_int hj]
  omega
theorem oj_lt {i j : Nat} (hi : i < 2 ^ 63) (hj : j < 2 ^ 63) : Int64.ofNat i < Int64.ofNat j ↔ i < j := by
  rw [Int64.lt_iff_toInt_lt, oj_int hi, oj_int hj]
  omega
theorem oj_add (a b : Nat) : Int64.ofNat a + Int64.ofNat b = Int64.ofNat (a + b) := (Int64.ofNat_add _ _).symm
theorem oj_mul (a b : Nat) : Int64.ofNat a * Int64.ofNat b = Int64.ofNat (a * b) := (Int64.ofNat_mul _ _).symm
theorem oj_succ_sub (a : Nat) : Int64.ofNat (a + 1) - (1 : Int64) = Int64.ofNat a := by
  rw [← oj_add]
  exact Int64.add_sub_cancel _ _
theorem oj_div {a b : Nat} (ha : a < 2 ^ 63) (hb : b < 2 ^ 63) : Int64.ofNat a / Int64.ofNat b = Int64.ofNat (a / b) := by
  apply Int64.toInt_inj.mp
  have h1 : Int64.ofNat b ≠ -1 := by
    intro h
    have h2 := congrArg Int64.toInt h
    rw [oj_int hb] at h2
    have h3 : (-1 : Int64).toInt = -1 := by decide
    rw [h3] at h2
    omega
  rw [Int64.toInt_div_of_ne_right _ _ h1, oj_int ha, oj_int hb, oj_int (Nat.lt_of_le_of_lt (Nat.div_le_self a b) ha)]
  exact (Int.ofNat_tdiv a b).symm
theorem lgc_lt {x y : Int64} : lg_cmp x y < 0 ↔ x < y := by
  unfold lg_cmp
  rw [Int64.lt_iff_toInt_lt]
  by_cases h1 : x > y
  · rw [if_pos h1]
    have h2 := Int64.lt_iff_toInt_lt.mp h1
    exact ⟨fun h => absurd h (by decide), fun h => by omega⟩
  · rw [if_neg h1]
    have h2 : ¬ y.toInt < x.toInt := fun h => h1 (Int64.lt_iff_toInt_lt.mpr h)
    by_cases h3 : x = y
    · rw [if_pos h3, h3]
      exact ⟨fun h => absurd h (by decide), fun h => by omega⟩
    · rw [if_neg h3]
      have h4 : ¬ x.toInt = y.toInt := fun h => h3 (Int64.toInt_inj.mp h)
      exact ⟨fun _ => by omega, fun _ => by decide⟩
theorem lgc_le {x y : Int64} : lg_cmp x y ≤ 0 ↔ x ≤ y := by
  unfold lg_cmp
  rw [Int64.le_iff_toInt_le]
  by_cases h1 : x > y
  · rw [if_pos h1]
    have h2 := Int64.lt_iff_toInt_lt.mp h1
    exact ⟨fun h => absurd h (by decide), fun h => by omega⟩
  · rw [if_neg h1]
    have h2 : ¬ y.toInt < x.toInt := fun h => h1 (Int64.lt_iff_toInt_lt.mpr h)
    by_cases h3 : x = y
    · rw [if_pos h3, h3]
      exact ⟨fun h => Int.le_refl _, fun _ => by decide⟩
    · rw [if_neg h3]
      exact ⟨fun _ => by omega, fun _ => by decide⟩
theorem lgc_eq {x y : Int64} : lg_cmp x y = 0 ↔ x = y := by
  unfold lg_cmp
  by_cases h1 : x > y
  · rw [if_pos h1]
    have h2 := Int64.lt_iff_toInt_lt.mp h1
    exact ⟨fun h => absurd h (by decide), fun h => by rw [h] at h2; omega⟩
  · rw [if_neg h1]
    by_cases h3 : x = y
    · rw [if_pos h3]
      exact ⟨fun _ => h3, fun _ => rfl⟩
    · rw [if_neg h3]
      exact ⟨fun h => absurd h (by decide), fun h => absurd h h3⟩
theorem lgc_gt {x y : Int64} : 0 < lg_cmp x y ↔ y < x := by
  unfold lg_cmp
  by_cases h1 : x > y
  · rw [if_pos h1]
    exact ⟨fun _ => h1, fun _ => by decide⟩
  · rw [if_neg h1]
    by_cases h3 : x = y
    · rw [if_pos h3]
      exact ⟨fun h => absurd h (by decide), fun h => absurd h h1⟩
    · rw [if_neg h3]
      exact ⟨fun h => absurd h (by decide), fun h => absurd h h1⟩
theorem lgc_ge {x y : Int64} : 0 ≤ lg_cmp x y ↔ y ≤ x := by
  unfold lg_cmp
  rw [Int64.le_iff_toInt_le]
  by_cases h1 : x > y
  · rw [if_pos h1]
    have h2 := Int64.lt_iff_toInt_lt.mp h1
    exact ⟨fun _ => by omega, fun _ => by decide⟩
  · rw [if_neg h1]
    have h2 : ¬ y.toInt < x.toInt := fun h => h1 (Int64.lt_iff_toInt_lt.mpr h)
    by_cases h3 : x = y
    · rw [if_pos h3, h3]
      exact ⟨fun h => Int.le_refl _, fun _ => by decide⟩
    · rw [if_neg h3]
      have h4 : ¬ x.toInt = y.toInt := fun h => h3 (Int64.toInt_inj.mp h)
      exact ⟨fun h => absurd h (by decide), fun _ => by omega⟩
/-- the long of a small int -/
theorem to64 {i : Nat} (h : i < 2 ^ 31) : (Int32.ofNat i).toInt64 = Int64.ofNat i := by
  apply Int64.toInt_inj.mp
  rw [Int32.toInt_toInt64, on_int h, oj_int (by omega)]
/-- how many bits, as the program counts them -/
def bcI (x : Int32) : Int32 :=
  let v9 := x - (((x.toUInt32 >>> ((1 : Int32).toUInt32 &&& Int32.toUInt32 31)).toInt32) &&& (1431655765 : Int32))
  let v23 := (v9 &&& (858993459 : Int32)) + (((v9.toUInt32 >>> ((2 : Int32).toUInt32 &&& Int32.toUInt32 31)).toInt32) &&& (858993459 : Int32))
  let v33 := (v23 + ((v23.toUInt32 >>> ((4 : Int32).toUInt32 &&& Int32.toUInt32 31)).toInt32)) &&& (252645135 : Int32)
  let v40 := v33 + ((v33.toUInt32 >>> ((8 : Int32).toUInt32 &&& Int32.toUInt32 31)).toInt32)
  let v47 := v40 + ((v40.toUInt32 >>> ((16 : Int32).toUInt32 &&& Int32.toUInt32 31)).toInt32)
  v47 &&& (63 : Int32)
theorem g_bitCount {x : Int32} {ph : PH} {Q : Int32 → PH → Prop} {X : String → PH → Prop} (h : Q (bcI x) ph) : w_J6_bitCount_0f7a4 x ph Q X := by
  unfold w_J6_bitCount_0f7a4
  intro v9 h9 v23 h23 v33 h33 v40 h40 v47 h47
  subst h9
  subst h23
  subst h33
  subst h40
  subst h47
  exact h
theorem and_63 (x : Int32) : ∃ s : Nat, s < 64 ∧ x &&& 63 = Int32.ofNat s := by
  refine ⟨(x.toBitVec &&& 63#32).toNat, ?_, ?_⟩
  · rw [BitVec.toNat_and]
    exact Nat.lt_of_le_of_lt Nat.and_le_right (by decide)
  · apply Int32.toBitVec_inj.mp
    show x.toBitVec &&& 63#32 = BitVec.ofNat 32 (x.toBitVec &&& 63#32).toNat
    rw [BitVec.ofNat_toNat, BitVec.setWidth_eq]
def bc (x : Int32) : Nat := (bcI x).toNatClampNeg
theorem bc_lt (x : Int32) : bc x < 64 := by
  obtain ⟨s, hs, e⟩ := and_63 ((show Int32 from
  let v9 := x - (((x.toUInt32 >>> ((1 : Int32).toUInt32 &&& Int32.toUInt32 31)).toInt32) &&& (1431655765 : Int32))
  let v23 := (v9 &&& (858993459 : Int32)) + (((v9.toUInt32 >>> ((2 : Int32).toUInt32 &&& Int32.toUInt32 31)).toInt32) &&& (858993459 : Int32))
  let v33 := (v23 + ((v23.toUInt32 >>> ((4 : Int32).toUInt32 &&& Int32.toUInt32 31)).toInt32)) &&& (252645135 : Int32)
  let v40 := v33 + ((v33.toUInt32 >>> ((8 : Int32).toUInt32 &&& Int32.toUInt32 31)).toInt32)
  v40 + ((v40.toUInt32 >>> ((16 : Int32).toUInt32 &&& Int32.toUInt32 31)).toInt32)))
  have e2 : bcI x = Int32.ofNat s := e
  unfold bc
  rw [e2, on_nat (by omega)]
  exact hs
theorem bc_I (x : Int32) : bcI x = Int32.ofNat (bc x) := by
  obtain ⟨s, hs, e⟩ := and_63 ((show Int32 from
  let v9 := x - (((x.toUInt32 >>> ((1 : Int32).toUInt32 &&& Int32.toUInt32 31)).toInt32) &&& (1431655765 : Int32))
  let v23 := (v9 &&& (858993459 : Int32)) + (((v9.toUInt32 >>> ((2 : Int32).toUInt32 &&& Int32.toUInt32 31)).toInt32) &&& (858993459 : Int32))
  let v33 := (v23 + ((v23.toUInt32 >>> ((4 : Int32).toUInt32 &&& Int32.toUInt32 31)).toInt32)) &&& (252645135 : Int32)
  let v40 := v33 + ((v33.toUInt32 >>> ((8 : Int32).toUInt32 &&& Int32.toUInt32 31)).toInt32)
  v40 + ((v40.toUInt32 >>> ((16 : Int32).toUInt32 &&& Int32.toUInt32 31)).toInt32)))
  have e2 : bcI x = Int32.ofNat s := e
  unfold bc
  rw [e2, on_nat (by omega)]
