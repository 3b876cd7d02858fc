/-! the count of bits is right -/
section POP
theorem and_split {A C b d : Nat} (hb : b < 2 ^ 8) (hd : d < 2 ^ 8) : (2 ^ 8 * A + b) &&& (2 ^ 8 * C + d) = 2 ^ 8 * (A &&& C) + (b &&& d) := by
  have hbd : b &&& d < 2 ^ 8 := Nat.lt_of_le_of_lt Nat.and_le_right hd
  apply Nat.eq_of_testBit_eq
  intro j
  rw [Nat.testBit_and, Nat.testBit_two_pow_mul_add A hb, Nat.testBit_two_pow_mul_add C hd, Nat.testBit_two_pow_mul_add (A &&& C) hbd]
  by_cases h : j < 8
  · rw [if_pos h, if_pos h, if_pos h, Nat.testBit_and]
  · rw [if_neg h, if_neg h, if_neg h, Nat.testBit_and]
theorem by4 (x0 x1 x2 x3 : Nat) : x0 + 256 * x1 + 65536 * x2 + 16777216 * x3 = 2 ^ 8 * (2 ^ 8 * (2 ^ 8 * x3 + x2) + x1) + x0 := by omega
theorem and4 {a0 a1 a2 a3 c0 c1 c2 c3 : Nat} (h0 : a0 < 2 ^ 8) (h1 : a1 < 2 ^ 8) (h2 : a2 < 2 ^ 8) (k0 : c0 < 2 ^ 8) (k1 : c1 < 2 ^ 8) (k2 : c2 < 2 ^ 8) : (a0 + 256 * a1 + 65536 * a2 + 16777216 * a3) &&& (c0 + 256 * c1 + 65536 * c2 + 16777216 * c3) = (a0 &&& c0) + 256 * (a1 &&& c1) + 65536 * (a2 &&& c2) + 16777216 * (a3 &&& c3) := by
  rw [by4 a0, by4 c0, and_split h0 k0, and_split h1 k1, and_split h2 k2, ← by4]
def f1 (b : Nat) : Nat := b - (b / 2 &&& 85)
def f2 (t : Nat) : Nat := (t &&& 51) + (t / 4 &&& 51)
def pop (b : Nat) : Nat := sumN 8 (fun i => (b.testBit i).toNat)
theorem pop_1 : ∀ b : Fin 256, ∀ c : Fin 2, ((b.val / 2 + 128 * c.val) &&& 85) = (b.val / 2 &&& 85) ∧ (b.val / 2 &&& 85) ≤ b.val := by decide +kernel
theorem pop_2 : ∀ b : Fin 256, ∀ c : Fin 4, ((f1 b.val / 4 + 64 * c.val) &&& 51) = (f1 b.val / 4 &&& 51) ∧ f1 b.val < 256 ∧ f2 (f1 b.val) ≤ 68 := by decide +kernel
theorem pop_3 : ∀ b : Fin 256, ∀ c : Fin 5, ((f2 (f1 b.val) + f2 (f1 b.val) / 16 + 16 * c.val) &&& 15) = pop b.val ∧ f2 (f1 b.val) % 16 ≤ 4 ∧ pop b.val ≤ 8 := by decide +kernel
theorem pop_fin {q0 q1 q2 q3 v33 v40 v47 : Nat} (h0 : q0 ≤ 8) (h1 : q1 ≤ 8) (h2 : q2 ≤ 8) (h3 : q3 ≤ 8) (t33 : v33 = q0 + 256 * q1 + 65536 * q2 + 16777216 * q3) (e40 : v40 = (v33 + v33 / 256) % 4294967296) (e47 : v47 = (v40 + v40 / 65536) % 4294967296) : v47 % 64 = q0 + q1 + q2 + q3 := by
  have t1 : v33 / 256 = q1 + 256 * q2 + 65536 * q3 := by omega
  have t40 : v40 = (q0 + q1) + 256 * (q1 + q2) + 65536 * (q2 + q3) + 16777216 * q3 := by
    rw [e40, t1, t33]
    omega
  have t2 : v40 / 65536 = (q2 + q3) + 256 * q3 := by omega
  rw [e47, t2, t40]
  omega
theorem pop_N {b0 b1 b2 b3 N v9 v23 v33 v40 v47 : Nat} (h0 : b0 < 256) (h1 : b1 < 256) (h2 : b2 < 256) (h3 : b3 < 256) (hN : N = b0 + 256 * b1 + 65536 * b2 + 16777216 * b3) (e9 : v9 = (4294967296 - (N / 2 &&& 1431655765) + N) % 4294967296) (e23 : v23 = ((v9 &&& 858993459) + (v9 / 4 &&& 858993459)) % 4294967296) (e33 : v33 = ((v23 + v23 / 16) % 4294967296) &&& 252645135) (e40 : v40 = (v33 + v33 / 256) % 4294967296) (e47 : v47 = (v40 + v40 / 65536) % 4294967296) : v47 % 64 = pop b0 + pop b1 + pop b2 + pop b3 := by
  obtain ⟨p0, q0⟩ := pop_1 ⟨b0, h0⟩ ⟨b1 % 2, by omega⟩
  obtain ⟨p1, q1⟩ := pop_1 ⟨b1, h1⟩ ⟨b2 % 2, by omega⟩
  obtain ⟨p2, q2⟩ := pop_1 ⟨b2, h2⟩ ⟨b3 % 2, by omega⟩
  obtain ⟨p3, q3⟩ := pop_1 ⟨b3, h3⟩ ⟨0, by omega⟩
  have t9 : v9 = f1 b0 + 256 * f1 b1 + 65536 * f1 b2 + 16777216 * f1 b3 := by
    have hm : N / 2 &&& 1431655765 = (b0 / 2 &&& 85) + 256 * (b1 / 2 &&& 85) + 65536 * (b2 / 2 &&& 85) + 16777216 * (b3 / 2 &&& 85) := by
      rw [show N / 2 = (b0 / 2 + 128 * (b1 % 2)) + 256 * (b1 / 2 + 128 * (b2 % 2)) + 65536 * (b2 / 2 + 128 * (b3 % 2)) + 16777216 * (b3 / 2) by omega, show 1431655765 = 85 + 256 * 85 + 65536 * 85 + 16777216 * 85 by decide, and4 (by omega) (by omega) (by omega) (by omega) (by omega) (by omega)]
      rw [p0, p1, p2]
    rw [e9, hm]
    unfold f1
    simp only at q0 q1 q2 q3
    omega
  obtain ⟨r0, s0, u0⟩ := pop_2 ⟨b0, h0⟩ ⟨f1 b1 % 4, by omega⟩
  obtain ⟨r1, s1, u1⟩ := pop_2 ⟨b1, h1⟩ ⟨f1 b2 % 4, by omega⟩
  obtain ⟨r2, s2, u2⟩ := pop_2 ⟨b2, h2⟩ ⟨f1 b3 % 4, by omega⟩
  obtain ⟨r3, s3, u3⟩ := pop_2 ⟨b3, h3⟩ ⟨0, by omega⟩
  simp only at s0 s1 s2 s3
  have t23 : v23 = f2 (f1 b0) + 256 * f2 (f1 b1) + 65536 * f2 (f1 b2) + 16777216 * f2 (f1 b3) := by
    have hm : v9 / 4 &&& 858993459 = (f1 b0 / 4 &&& 51) + 256 * (f1 b1 / 4 &&& 51) + 65536 * (f1 b2 / 4 &&& 51) + 16777216 * (f1 b3 / 4 &&& 51) := by
      rw [show v9 / 4 = (f1 b0 / 4 + 64 * (f1 b1 % 4)) + 256 * (f1 b1 / 4 + 64 * (f1 b2 % 4)) + 65536 * (f1 b2 / 4 + 64 * (f1 b3 % 4)) + 16777216 * (f1 b3 / 4) by omega, show 858993459 = 51 + 256 * 51 + 65536 * 51 + 16777216 * 51 by decide, and4 (by omega) (by omega) (by omega) (by omega) (by omega) (by omega)]
      rw [r0, r1, r2]
    have hk : v9 &&& 858993459 = (f1 b0 &&& 51) + 256 * (f1 b1 &&& 51) + 65536 * (f1 b2 &&& 51) + 16777216 * (f1 b3 &&& 51) := by
      rw [t9, show 858993459 = 51 + 256 * 51 + 65536 * 51 + 16777216 * 51 by decide, and4 (by omega) (by omega) (by omega) (by omega) (by omega) (by omega)]
    rw [e23, hm, hk]
    unfold f2 at u0 u1 u2 u3 ⊢
    simp only at u0 u1 u2 u3
    omega
  obtain ⟨w0, x0, y0⟩ := pop_3 ⟨b0, h0⟩ ⟨f2 (f1 b1) % 16, by have := (pop_3 ⟨b1, h1⟩ ⟨0, by omega⟩).2.1; simp only at this; omega⟩
  obtain ⟨w1, x1, y1⟩ := pop_3 ⟨b1, h1⟩ ⟨f2 (f1 b2) % 16, by have := (pop_3 ⟨b2, h2⟩ ⟨0, by omega⟩).2.1; simp only at this; omega⟩
  obtain ⟨w2, x2, y2⟩ := pop_3 ⟨b2, h2⟩ ⟨f2 (f1 b3) % 16, by have := (pop_3 ⟨b3, h3⟩ ⟨0, by omega⟩).2.1; simp only at this; omega⟩
  obtain ⟨w3, x3, y3⟩ := pop_3 ⟨b3, h3⟩ ⟨0, by omega⟩
  simp only at w0 w1 w2 w3 x0 x1 x2 x3 y0 y1 y2 y3 u0 u1 u2 u3
  have t33 : v33 = pop b0 + 256 * pop b1 + 65536 * pop b2 + 16777216 * pop b3 := by
    rw [e33, show (v23 + v23 / 16) % 4294967296 = (f2 (f1 b0) + f2 (f1 b0) / 16 + 16 * (f2 (f1 b1) % 16)) + 256 * (f2 (f1 b1) + f2 (f1 b1) / 16 + 16 * (f2 (f1 b2) % 16)) + 65536 * (f2 (f1 b2) + f2 (f1 b2) / 16 + 16 * (f2 (f1 b3) % 16)) + 16777216 * (f2 (f1 b3) + f2 (f1 b3) / 16 + 16 * 0) by omega, show 252645135 = 15 + 256 * 15 + 65536 * 15 + 16777216 * 15 by decide, and4 (by omega) (by omega) (by omega) (by omega) (by omega) (by omega), w0, w1, w2, w3]
  exact pop_fin y0 y1 y2 y3 t33 e40 e47
def tn (x : Int32) : Nat := x.toBitVec.toNat
theorem tn_sub (a b : Int32) : tn (a - b) = (4294967296 - tn b + tn a) % 4294967296 := rfl
theorem tn_add (a b : Int32) : tn (a + b) = (tn a + tn b) % 4294967296 := rfl
theorem tn_and (a b : Int32) : tn (a &&& b) = (tn a &&& tn b) := by
  unfold tn
  rw [Int32.toBitVec_and, BitVec.toNat_and]
theorem tn_sh {x k : Int32} {j : Nat} (hj : ((k.toUInt32 &&& Int32.toUInt32 31).toBitVec % 32#32).toNat = j) : tn ((x.toUInt32 >>> (k.toUInt32 &&& Int32.toUInt32 31)).toInt32) = tn x / 2 ^ j := by
  rw [← Nat.shiftRight_eq_div_pow, ← hj]
  rfl
theorem bcI_ex (x : Int32) : ∃ v9 v23 v33 v40 v47 : Int32, v9 = x - (((x.toUInt32 >>> ((1 : Int32).toUInt32 &&& Int32.toUInt32 31)).toInt32) &&& (1431655765 : Int32)) ∧ v23 = (v9 &&& (858993459 : Int32)) + (((v9.toUInt32 >>> ((2 : Int32).toUInt32 &&& Int32.toUInt32 31)).toInt32) &&& (858993459 : Int32)) ∧ v33 = (v23 + ((v23.toUInt32 >>> ((4 : Int32).toUInt32 &&& Int32.toUInt32 31)).toInt32)) &&& (252645135 : Int32) ∧ v40 = v33 + ((v33.toUInt32 >>> ((8 : Int32).toUInt32 &&& Int32.toUInt32 31)).toInt32) ∧ v47 = v40 + ((v40.toUInt32 >>> ((16 : Int32).toUInt32 &&& Int32.toUInt32 31)).toInt32) ∧ bcI x = v47 &&& (63 : Int32) := ⟨_, _, _, _, _, rfl, rfl, rfl, rfl, rfl, rfl⟩
theorem bc_pop {S : Int32} {b0 b1 b2 b3 : Nat} (h0 : b0 < 256) (h1 : b1 < 256) (h2 : b2 < 256) (h3 : b3 < 256) (hN : tn S = b0 + 256 * b1 + 65536 * b2 + 16777216 * b3) : bc S = pop b0 + pop b1 + pop b2 + pop b3 := by
  have hlt := bc_lt S
  have e1 : tn (bcI S) = bc S := by
    rw [bc_I S]
    show bc S % 2 ^ 32 = bc S
    exact Nat.mod_eq_of_lt (by omega)
  rw [← e1]
  obtain ⟨v9, v23, v33, v40, v47, a1, a2, a3, a4, a5, a6⟩ := bcI_ex S
  rw [a6, tn_and, show tn (63 : Int32) = 2 ^ 6 - 1 from rfl, Nat.and_two_pow_sub_one_eq_mod]
  refine pop_N h0 h1 h2 h3 hN (v9 := tn v9) ?_ ?_ ?_ ?_ ?_ (v23 := tn v23) (v33 := tn v33) (v40 := tn v40)
  · rw [a1, tn_sub, tn_and, tn_sh (j := 1) (by decide)]
    rfl
  · rw [a2, tn_add, tn_and, tn_and, tn_sh (j := 2) (by decide)]
    rfl
  · rw [a3, tn_and, tn_add, tn_sh (j := 4) (by decide)]
    rfl
  · rw [a4, tn_add, tn_sh (j := 8) (by decide)]
  · rw [a5, tn_add, tn_sh (j := 16) (by decide)]
theorem bc_cd {S : Int32} (hS : ∀ j : Nat, bt S j → j < 24) : bc S = cd S := by
  have hlt : tn S < 2 ^ 24 := Nat.lt_pow_two_of_testBit _ (fun i hi => by
    cases h : (tn S).testBit i with
    | false => rfl
    | true =>
      have h1 := hS i h
      omega)
  have e := bc_pop (S := S) (b0 := tn S % 256) (b1 := tn S / 256 % 256) (b2 := tn S / 65536) (b3 := 0) (by omega) (by omega) (by omega) (by omega) (by omega)
  rw [e, show pop 0 = 0 by decide, Nat.add_zero]
  have c0 : pop (tn S % 256) = sumN 8 (fun i => (S.toBitVec.getLsbD i).toNat) := sumN_eq fun i hi => by
    rw [show tn S % 256 = tn S % 2 ^ 8 from rfl, Nat.testBit_mod_two_pow, decide_eq_true hi]
    rfl
  have c1 : pop (tn S / 256 % 256) = sumN 8 (fun i => (S.toBitVec.getLsbD (8 + i)).toNat) := sumN_eq fun i hi => by
    rw [show tn S / 256 % 256 = tn S / 2 ^ 8 % 2 ^ 8 from rfl, Nat.testBit_mod_two_pow, decide_eq_true hi, Nat.testBit_div_two_pow, Nat.add_comm i 8]
    rfl
  have c2 : pop (tn S / 65536) = sumN 8 (fun i => (S.toBitVec.getLsbD (16 + i)).toNat) := sumN_eq fun i hi => by
    rw [show tn S / 65536 = tn S / 2 ^ 16 from rfl, Nat.testBit_div_two_pow, Nat.add_comm i 16]
    rfl
  rw [c0, c1, c2]
  unfold cd
  rw [show 24 = 16 + 8 from rfl, sumN_add, show 16 = 8 + 8 from rfl, sumN_add]
theorem bc_zero {S : Int32} (hS : ∀ j : Nat, bt S j → j < 24) : bc S = 0 ↔ S = 0 := by
  rw [bc_cd hS]
  constructor
  · intro h
    exact cd_zero h hS
  · intro h
    rw [h]
    rfl
end POP
