theorem and_small (x : Int32) : ∃ s : Nat, s < 1024 ∧ x &&& 1023 = Int32.ofNat s := by
  refine ⟨(x.toBitVec &&& 1023#32).toNat, ?_, ?_⟩
  · rw [BitVec.toNat_and]
    exact Nat.lt_of_le_of_lt Nat.and_le_right (by decide)
  · apply Int32.toBitVec_inj.mp
    show x.toBitVec &&& 1023#32 = BitVec.ofNat 32 (x.toBitVec &&& 1023#32).toNat
    rw [BitVec.ofNat_toNat, BitVec.setWidth_eq]
theorem on_pred (n : Nat) : Int32.ofNat (n + 1) - (1 : Int32) = Int32.ofNat n := by
  rw [← on_succ]
  exact Int32.add_sub_cancel _ _
theorem on_add (a b : Nat) : Int32.ofNat a + Int32.ofNat b = Int32.ofNat (a + b) := (Int32.ofNat_add _ _).symm
