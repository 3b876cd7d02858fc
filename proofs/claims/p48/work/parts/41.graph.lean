/-! bits -/
def hb (S x : Int32) : Prop := ¬ ((S >>> (x &&& 31)) &&& 1) = 0
theorem sh_key : ∀ j : Fin 32, ((Int32.ofNat j.val &&& 31).toBitVec.smod 32).toNat = j.val := by decide +kernel
theorem shr_bv {S : Int32} {j : Nat} (hj : j < 32) : (S >>> (Int32.ofNat j &&& 31)).toBitVec = S.toBitVec.sshiftRight j := by
  rw [Int32.toBitVec_shiftRight, BitVec.sshiftRight', sh_key ⟨j, hj⟩]
theorem and1 {x : Int32} : x &&& 1 = 0 ↔ x.toBitVec.getLsbD 0 = false := by
  constructor
  · intro h
    have h2 := congrArg (fun z : Int32 => z.toBitVec.getLsbD 0) h
    simpa using h2
  · intro h
    apply Int32.toBitVec_inj.mp
    apply BitVec.eq_of_getLsbD_eq
    intro i hi
    rw [Int32.toBitVec_and, BitVec.getLsbD_and]
    cases i with
    | zero => rw [h]; rfl
    | succ i => simp
theorem hb_bit {S : Int32} {j : Nat} (hj : j < 32) : hb S (Int32.ofNat j) ↔ S.toBitVec.getLsbD j = true := by
  unfold hb
  rw [and1, shr_bv hj, BitVec.getLsbD_sshiftRight]
  simp [hj]
theorem shr_zero {S : Int32} {i j : Nat} (hi : i < 32) (h : S >>> (Int32.ofNat i &&& 31) = 0) (hij : i ≤ j) (hj : j < 32) : ¬ hb S (Int32.ofNat j) := by
  rw [hb_bit hj]
  have h2 := congrArg (fun z : Int32 => z.toBitVec.getLsbD (j - i)) h
  simp only [shr_bv hi, BitVec.getLsbD_sshiftRight] at h2
  have h3 : i + (j - i) = j := by omega
  rw [h3] at h2
  intro h4
  rw [h4] at h2
  simp [hj] at h2
  omega
theorem w_hasBit {S x : Int32} {ph : PH} {Q : Int32 → PH → Prop} {X : String → PH → Prop} (h1 : hb S x → Q 1 ph) (h0 : ¬ hb S x → Q 0 ph) : w_X11_hasBit S x ph Q X := ⟨fun h => ⟨rfl, h0 (fun h9 => h9 h)⟩, fun h => ⟨rfl, h1 h⟩⟩
/-! the reading of a graph -/
def orF : Nat → (Nat → Int32) → Int32
  | 0, _ => 0
  | n + 1, f => orF n f ||| f n
open Classical in
noncomputable def rdF (E : Nat → Int32) (a : Nat) (S : Int32) : Nat → Int32 := fun i => if hb S (Int32.ofNat i) then E (24 * a + i) else 0
