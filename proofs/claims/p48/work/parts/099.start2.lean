section START2
variable {s : State} {b L : Nat} {xs : Nat → Int32} {D : va_G}
def phS (b L : Nat) (xs : Nat → Int32) (K0 V0 K1 V1 K2 V2 K3 V3 : Nat) : PH := fun q => if q = b then some (1000, .inr (.int, L, .inl xs)) else if q = K0 then some (1001, .inl (0, [.ref V0, .int 0])) else if q = V0 then some (1002, .inr (.byte, 0, .inl (fun j => (([] : List Int32).getD j 0)))) else if q = K1 then some (1003, .inl (0, [.ref V1, .int 0])) else if q = V1 then some (1004, .inr (.byte, 9, .inl (fun j => (([97, 98, 97, 98, 97, 98, 99, 44, 98] : List Int32).getD j 0)))) else if q = K2 then some (1005, .inl (0, [.ref V2, .int 0])) else if q = V2 then some (1006, .inr (.byte, 2, .inl (fun j => (([97, 98] : List Int32).getD j 0)))) else if q = K3 then some (1007, .inl (0, [.ref V3, .int 0])) else if q = V3 then some (1008, .inr (.byte, 3, .inl (fun j => (([97, 98, 99] : List Int32).getD j 0)))) else none
/-- what the map of the start holds: the script, the law's four texts -/
def Look (ph : PH) (b L : Nat) (xs : Nat → Int32) (σ : Nat → Nat) : Prop := ph b = some (1000, .inr (.int, L, .inl xs)) ∧ (∃ V : Nat, ph (σ 34) = some (1001, .inl (0, [.ref V, .int 0])) ∧ ph V = some (1002, .inr (.byte, 0, .inl (fun j => (([] : List Int32).getD j 0))))) ∧ (∃ V : Nat, ph (σ 35) = some (1003, .inl (0, [.ref V, .int 0])) ∧ ph V = some (1004, .inr (.byte, 9, .inl (fun j => (([97, 98, 97, 98, 97, 98, 99, 44, 98] : List Int32).getD j 0))))) ∧ (∃ V : Nat, ph (σ 36) = some (1005, .inl (0, [.ref V, .int 0])) ∧ ph V = some (1006, .inr (.byte, 2, .inl (fun j => (([97, 98] : List Int32).getD j 0))))) ∧ (∃ V : Nat, ph (σ 37) = some (1007, .inl (0, [.ref V, .int 0])) ∧ ph V = some (1008, .inr (.byte, 3, .inl (fun j => (([97, 98, 99] : List Int32).getD j 0)))))
theorem ro_str (hKn : Kn D s) {A : Nat → Prop} {K V : Nat} (q1 : va_O "java/lang/String" K A s s.heap) (q2 : va_OF "java/lang/String" "coder" "B" (.int 0) K A s s.heap) (q3 : va_OF "java/lang/String" "value" "[B" (.ref V) K A s s.heap) : hRO D s s.heap K (.inl (0, [.ref V, .int 0])) := by
  obtain ⟨cell, e1, e2, e3, -⟩ := q1
  obtain ⟨cf, k, i, f, cell2, f1, f2, f3, f4, f5, -⟩ := q2
  obtain ⟨cf', k', i', f', cell3, g1, g2, g3, g4, g5, -⟩ := q3
  cases f3.symm.trans e1
  cases g3.symm.trans e1
  obtain ⟨a1, a2⟩ := hKn 0 (RJ0, TJ0, 4) rfl
  refine ⟨_, _, rfl, e1, Option.some.inj (e3.symm.trans a2.1), f4, e2, fun kk v hkk hv => ?_⟩
  match kk, hv with
  | 0, hv =>
    cases hv
    obtain ⟨cf1, kf1, fi1, fd1, b1, b2⟩ := a1 0 (by decide)
    cases g1.symm.trans b1
    rw [← b2]
    exact g5
  | 1, hv =>
    cases hv
    obtain ⟨cf1, kf1, fi1, fd1, b1, b2⟩ := a1 1 (by decide)
    cases f1.symm.trans b1
    rw [← b2]
    exact f5
  | (n + 2), hv => cases hv
theorem ro_arr {A : Nat → Prop} {V n : Nat} {ty : FieldType} {f : Nat → Int32} (q : va_T ty V n (fun j => .int (f j)) A s s.heap) : hRO D s s.heap V (.inr (ty, n, .inl f)) := by
  obtain ⟨cell, h1, h2, h3, h4, h5, h6, -⟩ := q
  exact ⟨cell, h1, h2, h3, h4, h5, fun j hj => h6 j hj⟩
theorem ro_scr (hX : va_X b L xs s s.heap) : hRO D s s.heap b (.inr (.int, L, .inl xs)) := by
  obtain ⟨scr, h1, h2, h3, h4, h5⟩ := hX
  exact ⟨scr, h1, h2, h3, Nat.le_of_eq h4.symm, by rw [h4], fun j hj => h5 j hj⟩
/-- apart: a text and a row -/
theorem ap_KR (hKn : Kn D s) {A : Nat → Prop} {K V : Nat} {cell : Cell} {ty : FieldType} (q1 : va_O "java/lang/String" K A s s.heap) (h1 : s.heap[V]? = some cell) (h2 : s.isArrayOf cell ty) : ¬ K = V := by
  intro e
  subst e
  obtain ⟨c2, e1, e2, e3, -⟩ := q1
  cases e1.symm.trans h1
  obtain ⟨-, a2, kC, a3, a4⟩ := hKn 0 (RJ0, TJ0, 4) rfl
  obtain ⟨-, k, k1, comp, k2⟩ := h2
  have e4 : D.1 0 = cell.cls := Option.some.inj (a2.symm.trans e3)
  rw [e4] at a3
  cases a3.symm.trans k1
  rw [a4] at k2
  cases k2
theorem ap_RR {c1 c2 : Cell} {x y : Nat} (h1 : s.heap[x]? = some c1) (h2 : s.isArrayOf c1 .int) (h3 : s.heap[y]? = some c2) (h4 : s.isArrayOf c2 .byte) : ¬ x = y := by
  intro e
  subst e
  cases h1.symm.trans h3
  obtain ⟨-, k, k1, comp, k2⟩ := h2
  obtain ⟨-, k', k1', comp', k2'⟩ := h4
  cases k1.symm.trans k1'
  rw [k2] at k2'
  cases k2'
theorem ap_VV {A : Nat → Prop} {x y n m : Nat} {f g : Nat → Value} (h1 : va_T .byte x n f A s s.heap) (h2 : va_T .byte y m g A s s.heap) (h : ¬ Int32.ofNat n = Int32.ofNat m) : ¬ x = y := by
  intro e
  subst e
  obtain ⟨c1, a1, -, -, -, a5, -⟩ := h1
  obtain ⟨c2, b1, -, -, -, b5, -⟩ := h2
  cases a1.symm.trans b1
  exact h (a5.symm.trans b5)
theorem ap_KK {A : Nat → Prop} {x y v w : Nat} (h1 : va_OF "java/lang/String" "value" "[B" (.ref v) x A s s.heap) (h2 : va_OF "java/lang/String" "value" "[B" (.ref w) y A s s.heap) (h : ¬ v = w) : ¬ x = y := by
  intro e
  subst e
  obtain ⟨cf, k, i, f, cell, f1, f2, f3, f4, f5, -⟩ := h1
  obtain ⟨cf', k', i', f', cell', g1, g2, g3, g4, g5, -⟩ := h2
  cases f3.symm.trans g3
  cases f1.symm.trans g1
  cases f5.symm.trans g5
  exact h rfl

theorem start_ph (hKn : Kn D s) {σ : Nat → Nat} (hev : ∀ (i : Nat) (q : String × Nat × String), SL[i]? = some q → (Term.string q.1 q.2.1).eval #[Value.ref b] s none [] s = some (.ref (σ i))) (hX : va_X b L xs s s.heap) (hgv : (Jvm.Cond.and given_1 narrow_1).before #[Value.ref b] s = true) : ∃ ph : PH, hs D s ph s.heap ∧ dm (AH s) ph ∧ Look ph b L xs σ := by
  obtain ⟨K0, V0, e0, p0, q0, r0, t0⟩ := start_s207 hgv
  have k0 : K0 = σ 34 := by
    have h9 := e0.symm.trans (hev 34 _ rfl)
    cases h9
    rfl
  obtain ⟨c0, t01, t02, -⟩ := id t0
  obtain ⟨K1, V1, e1, p1, q1, r1, t1⟩ := start_s216 hgv
  have k1 : K1 = σ 35 := by
    have h9 := e1.symm.trans (hev 35 _ rfl)
    cases h9
    rfl
  obtain ⟨c1, t11, t12, -⟩ := id t1
  obtain ⟨K2, V2, e2, p2, q2, r2, t2⟩ := start_s218 hgv
  have k2 : K2 = σ 36 := by
    have h9 := e2.symm.trans (hev 36 _ rfl)
    cases h9
    rfl
  obtain ⟨c2, t21, t22, -⟩ := id t2
  obtain ⟨K3, V3, e3, p3, q3, r3, t3⟩ := start_s220 hgv
  have k3 : K3 = σ 37 := by
    have h9 := e3.symm.trans (hev 37 _ rfl)
    cases h9
    rfl
  obtain ⟨c3, t31, t32, -⟩ := id t3
  obtain ⟨scr, hX1, hX2, -⟩ := id hX
  have nbK0 : ¬ K0 = b := ap_KR hKn p0 hX1 hX2
  have nbV0 : ¬ V0 = b := fun e => ap_RR hX1 hX2 t01 t02 e.symm
  have nKV00 : ¬ K0 = V0 := ap_KR hKn p0 t01 t02
  have nKV01 : ¬ K0 = V1 := ap_KR hKn p0 t11 t12
  have nKV02 : ¬ K0 = V2 := ap_KR hKn p0 t21 t22
  have nKV03 : ¬ K0 = V3 := ap_KR hKn p0 t31 t32
  have nbK1 : ¬ K1 = b := ap_KR hKn p1 hX1 hX2
  have nbV1 : ¬ V1 = b := fun e => ap_RR hX1 hX2 t11 t12 e.symm
  have nKV10 : ¬ K1 = V0 := ap_KR hKn p1 t01 t02
  have nKV11 : ¬ K1 = V1 := ap_KR hKn p1 t11 t12
  have nKV12 : ¬ K1 = V2 := ap_KR hKn p1 t21 t22
  have nKV13 : ¬ K1 = V3 := ap_KR hKn p1 t31 t32
  have nbK2 : ¬ K2 = b := ap_KR hKn p2 hX1 hX2
  have nbV2 : ¬ V2 = b := fun e => ap_RR hX1 hX2 t21 t22 e.symm
  have nKV20 : ¬ K2 = V0 := ap_KR hKn p2 t01 t02
  have nKV21 : ¬ K2 = V1 := ap_KR hKn p2 t11 t12
  have nKV22 : ¬ K2 = V2 := ap_KR hKn p2 t21 t22
  have nKV23 : ¬ K2 = V3 := ap_KR hKn p2 t31 t32
  have nbK3 : ¬ K3 = b := ap_KR hKn p3 hX1 hX2
  have nbV3 : ¬ V3 = b := fun e => ap_RR hX1 hX2 t31 t32 e.symm
  have nKV30 : ¬ K3 = V0 := ap_KR hKn p3 t01 t02
  have nKV31 : ¬ K3 = V1 := ap_KR hKn p3 t11 t12
  have nKV32 : ¬ K3 = V2 := ap_KR hKn p3 t21 t22
  have nKV33 : ¬ K3 = V3 := ap_KR hKn p3 t31 t32
  have nVV01 : ¬ V0 = V1 := ap_VV t0 t1 (by decide)
  have nVV02 : ¬ V0 = V2 := ap_VV t0 t2 (by decide)
  have nVV03 : ¬ V0 = V3 := ap_VV t0 t3 (by decide)
  have nVV10 : ¬ V1 = V0 := ap_VV t1 t0 (by decide)
  have nVV12 : ¬ V1 = V2 := ap_VV t1 t2 (by decide)
  have nVV13 : ¬ V1 = V3 := ap_VV t1 t3 (by decide)
  have nVV20 : ¬ V2 = V0 := ap_VV t2 t0 (by decide)
  have nVV21 : ¬ V2 = V1 := ap_VV t2 t1 (by decide)
  have nVV23 : ¬ V2 = V3 := ap_VV t2 t3 (by decide)
  have nVV30 : ¬ V3 = V0 := ap_VV t3 t0 (by decide)
  have nVV31 : ¬ V3 = V1 := ap_VV t3 t1 (by decide)
  have nVV32 : ¬ V3 = V2 := ap_VV t3 t2 (by decide)
  have nKK01 : ¬ K0 = K1 := ap_KK r0 r1 nVV01
  have nKK02 : ¬ K0 = K2 := ap_KK r0 r2 nVV02
  have nKK03 : ¬ K0 = K3 := ap_KK r0 r3 nVV03
  have nKK10 : ¬ K1 = K0 := ap_KK r1 r0 nVV10
  have nKK12 : ¬ K1 = K2 := ap_KK r1 r2 nVV12
  have nKK13 : ¬ K1 = K3 := ap_KK r1 r3 nVV13
  have nKK20 : ¬ K2 = K0 := ap_KK r2 r0 nVV20
  have nKK21 : ¬ K2 = K1 := ap_KK r2 r1 nVV21
  have nKK23 : ¬ K2 = K3 := ap_KK r2 r3 nVV23
  have nKK30 : ¬ K3 = K0 := ap_KK r3 r0 nVV30
  have nKK31 : ¬ K3 = K1 := ap_KK r3 r1 nVV31
  have nKK32 : ¬ K3 = K2 := ap_KK r3 r2 nVV32
  refine ⟨phS b L xs K0 V0 K1 V1 K2 V2 K3 V3, ?_, ?_, ?_⟩
  · intro a e he
    unfold phS at he
    by_cases hb : a = b
    · rw [if_pos hb] at he
      cases he
      rw [hb]
      exact Or.inl ⟨by show (1000 : Nat) ≤ 1000; decide, ro_scr hX⟩
    rw [if_neg hb] at he
    by_cases hK0 : a = K0
    · rw [if_pos hK0] at he
      cases he
      rw [hK0]
      exact Or.inl ⟨by show (1000 : Nat) ≤ 1001; decide, ro_str hKn p0 q0 r0⟩
    rw [if_neg hK0] at he
    by_cases hV0 : a = V0
    · rw [if_pos hV0] at he
      cases he
      rw [hV0]
      exact Or.inl ⟨by show (1000 : Nat) ≤ 1002; decide, ro_arr t0⟩
    rw [if_neg hV0] at he
    by_cases hK1 : a = K1
    · rw [if_pos hK1] at he
      cases he
      rw [hK1]
      exact Or.inl ⟨by show (1000 : Nat) ≤ 1003; decide, ro_str hKn p1 q1 r1⟩
    rw [if_neg hK1] at he
    by_cases hV1 : a = V1
    · rw [if_pos hV1] at he
      cases he
      rw [hV1]
      exact Or.inl ⟨by show (1000 : Nat) ≤ 1004; decide, ro_arr t1⟩
    rw [if_neg hV1] at he
    by_cases hK2 : a = K2
    · rw [if_pos hK2] at he
      cases he
      rw [hK2]
      exact Or.inl ⟨by show (1000 : Nat) ≤ 1005; decide, ro_str hKn p2 q2 r2⟩
    rw [if_neg hK2] at he
    by_cases hV2 : a = V2
    · rw [if_pos hV2] at he
      cases he
      rw [hV2]
      exact Or.inl ⟨by show (1000 : Nat) ≤ 1006; decide, ro_arr t2⟩
    rw [if_neg hV2] at he
    by_cases hK3 : a = K3
    · rw [if_pos hK3] at he
      cases he
      rw [hK3]
      exact Or.inl ⟨by show (1000 : Nat) ≤ 1007; decide, ro_str hKn p3 q3 r3⟩
    rw [if_neg hK3] at he
    by_cases hV3 : a = V3
    · rw [if_pos hV3] at he
      cases he
      rw [hV3]
      exact Or.inl ⟨by show (1000 : Nat) ≤ 1008; decide, ro_arr t3⟩
    rw [if_neg hV3] at he
    cases he
  · intro a e he hl
    unfold phS at he
    by_cases hb : a = b
    · rw [if_pos hb] at he
      cases he
      exact absurd hl (by show ¬ (1000 : Nat) < 1000; decide)
    rw [if_neg hb] at he
    by_cases hK0 : a = K0
    · rw [if_pos hK0] at he
      cases he
      exact absurd hl (by show ¬ (1001 : Nat) < 1000; decide)
    rw [if_neg hK0] at he
    by_cases hV0 : a = V0
    · rw [if_pos hV0] at he
      cases he
      exact absurd hl (by show ¬ (1002 : Nat) < 1000; decide)
    rw [if_neg hV0] at he
    by_cases hK1 : a = K1
    · rw [if_pos hK1] at he
      cases he
      exact absurd hl (by show ¬ (1003 : Nat) < 1000; decide)
    rw [if_neg hK1] at he
    by_cases hV1 : a = V1
    · rw [if_pos hV1] at he
      cases he
      exact absurd hl (by show ¬ (1004 : Nat) < 1000; decide)
    rw [if_neg hV1] at he
    by_cases hK2 : a = K2
    · rw [if_pos hK2] at he
      cases he
      exact absurd hl (by show ¬ (1005 : Nat) < 1000; decide)
    rw [if_neg hK2] at he
    by_cases hV2 : a = V2
    · rw [if_pos hV2] at he
      cases he
      exact absurd hl (by show ¬ (1006 : Nat) < 1000; decide)
    rw [if_neg hV2] at he
    by_cases hK3 : a = K3
    · rw [if_pos hK3] at he
      cases he
      exact absurd hl (by show ¬ (1007 : Nat) < 1000; decide)
    rw [if_neg hK3] at he
    by_cases hV3 : a = V3
    · rw [if_pos hV3] at he
      cases he
      exact absurd hl (by show ¬ (1008 : Nat) < 1000; decide)
    rw [if_neg hV3] at he
    cases he
  · exact ⟨if_pos rfl, ⟨V0, by rw [← k0]; exact (if_neg nbK0).trans (if_pos rfl), (if_neg nbV0).trans ((if_neg (fun e => nKV00 e.symm)).trans (if_pos rfl))⟩, ⟨V1, by rw [← k1]; exact (if_neg nbK1).trans ((if_neg nKK10).trans ((if_neg nKV10).trans (if_pos rfl))), (if_neg nbV1).trans ((if_neg (fun e => nKV01 e.symm)).trans ((if_neg nVV10).trans ((if_neg (fun e => nKV11 e.symm)).trans (if_pos rfl))))⟩, ⟨V2, by rw [← k2]; exact (if_neg nbK2).trans ((if_neg nKK20).trans ((if_neg nKV20).trans ((if_neg nKK21).trans ((if_neg nKV21).trans (if_pos rfl))))), (if_neg nbV2).trans ((if_neg (fun e => nKV02 e.symm)).trans ((if_neg nVV20).trans ((if_neg (fun e => nKV12 e.symm)).trans ((if_neg nVV21).trans ((if_neg (fun e => nKV22 e.symm)).trans (if_pos rfl))))))⟩, ⟨V3, by rw [← k3]; exact (if_neg nbK3).trans ((if_neg nKK30).trans ((if_neg nKV30).trans ((if_neg nKK31).trans ((if_neg nKV31).trans ((if_neg nKK32).trans ((if_neg nKV32).trans (if_pos rfl))))))), (if_neg nbV3).trans ((if_neg (fun e => nKV03 e.symm)).trans ((if_neg nVV30).trans ((if_neg (fun e => nKV13 e.symm)).trans ((if_neg nVV31).trans ((if_neg (fun e => nKV23 e.symm)).trans ((if_neg nVV32).trans ((if_neg (fun e => nKV33 e.symm)).trans (if_pos rfl))))))))⟩⟩
end START2
