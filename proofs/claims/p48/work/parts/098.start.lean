/-! THE LAW'S ENTRY: the map of the start, and the walk from it -/
section START
variable {s : State} {b : Nat}
set_option maxRecDepth 20000 in
theorem start_kn (hts : ∀ w ∈ lw_tbl, w.before #[Value.ref b] s = true) : ∃ D : va_G, Kn D s := by
  obtain ⟨c0, i0, h0⟩ := u_known (C := RJ0) (T := TJ0) (N := 4) hts (by decide +kernel) (hts (Cond.instantiable RJ0 4) (by decide +kernel))
  obtain ⟨c1, i1, h1⟩ := u_known (C := RJ4) (T := TJ4) (N := 4) hts (by decide +kernel) (hts (Cond.instantiable RJ4 4) (by decide +kernel))
  obtain ⟨c2, i2, h2⟩ := u_known (C := RJx00060) (T := TJx00060) (N := 6) hts (by decide +kernel) (hts (Cond.instantiable RJx00060 6) (by decide +kernel))
  obtain ⟨c3, i3, h3⟩ := u_known (C := RX0) (T := TX0) (N := 8) hts (by decide +kernel) (hts (Cond.instantiable RX0 8) (by decide +kernel))
  obtain ⟨c4, i4, h4⟩ := u_known (C := RX1) (T := TX1) (N := 2) hts (by decide +kernel) (hts (Cond.instantiable RX1 2) (by decide +kernel))
  obtain ⟨c5, i5, h5⟩ := u_known (C := RX2) (T := TX2) (N := 1) hts (by decide +kernel) (hts (Cond.instantiable RX2 1) (by decide +kernel))
  obtain ⟨c6, i6, h6⟩ := u_known (C := RX3) (T := TX3) (N := 3) hts (by decide +kernel) (hts (Cond.instantiable RX3 3) (by decide +kernel))
  obtain ⟨c7, i7, h7⟩ := u_known (C := RX6) (T := TX6) (N := 11) hts (by decide +kernel) (hts (Cond.instantiable RX6 11) (by decide +kernel))
  obtain ⟨c8, i8, h8⟩ := u_known (C := RX7) (T := TX7) (N := 4) hts (by decide +kernel) (hts (Cond.instantiable RX7 4) (by decide +kernel))
  obtain ⟨c9, i9, h9⟩ := u_known (C := RX8) (T := TX8) (N := 3) hts (by decide +kernel) (hts (Cond.instantiable RX8 3) (by decide +kernel))
  obtain ⟨c10, i10, h10⟩ := u_known (C := RX9) (T := TX9) (N := 2) hts (by decide +kernel) (hts (Cond.instantiable RX9 2) (by decide +kernel))
  obtain ⟨c11, i11, h11⟩ := u_known (C := RX10) (T := TX10) (N := 2) hts (by decide +kernel) (hts (Cond.instantiable RX10 2) (by decide +kernel))
  obtain ⟨c12, i12, h12⟩ := u_known (C := RX11) (T := TX11) (N := 12) hts (by decide +kernel) (hts (Cond.instantiable RX11 12) (by decide +kernel))
  refine ⟨(fun k => match k with | 0 => c0 | 1 => c1 | 2 => c2 | 3 => c3 | 4 => c4 | 5 => c5 | 6 => c6 | 7 => c7 | 8 => c8 | 9 => c9 | 10 => c10 | 11 => c11 | 12 => c12 | _ => c0, fun k => match k with | 0 => i0 | 1 => i1 | 2 => i2 | 3 => i3 | 4 => i4 | 5 => i5 | 6 => i6 | 7 => i7 | 8 => i8 | 9 => i9 | 10 => i10 | 11 => i11 | 12 => i12 | _ => i0), fun ci q hq => ?_⟩
  match ci, hq with
  | 0, hq => cases hq; exact h0
  | 1, hq => cases hq; exact h1
  | 2, hq => cases hq; exact h2
  | 3, hq => cases hq; exact h3
  | 4, hq => cases hq; exact h4
  | 5, hq => cases hq; exact h5
  | 6, hq => cases hq; exact h6
  | 7, hq => cases hq; exact h7
  | 8, hq => cases hq; exact h8
  | 9, hq => cases hq; exact h9
  | 10, hq => cases hq; exact h10
  | 11, hq => cases hq; exact h11
  | 12, hq => cases hq; exact h12
  | (_ + 13), hq => exact absurd hq (by simp [vwCl])
set_option maxRecDepth 20000 in
theorem start_sl : ∀ q ∈ SL, Cond.stringRef q.1 q.2.1 q.2.2 ∈ lw_tbl := by decide +kernel
theorem start_ss (hts : ∀ w ∈ lw_tbl, w.before #[Value.ref b] s = true) : ∃ σ : Nat → Nat, Ss σ s ∧ ∀ (i : Nat) (q : String × Nat × String), SL[i]? = some q → (Term.string q.1 q.2.1).eval #[Value.ref b] s none [] s = some (.ref (σ i)) := by
  have h : ∀ i : Nat, ∃ a : Nat, ∀ q : String × Nat × String, SL[i]? = some q → vk_R q.1 q.2.1 q.2.2 a s ∧ (Term.string q.1 q.2.1).eval #[Value.ref b] s none [] s = some (.ref a) := by
    intro i
    cases hi : SL[i]? with
    | none => exact ⟨0, fun q hq => by cases hq⟩
    | some q =>
      have h1 := hts _ (start_sl q (List.mem_of_getElem? hi))
      have hcur : ∃ cur, s.vm.findClass q.1 = some cur := by
        have h2 := h1
        simp only [Cond.before, Cond.holds, Cond.value] at h2
        cases hc : s.vm.findClass q.1 with
        | none => simp [hc] at h2
        | some cur => exact ⟨cur, rfl⟩
      obtain ⟨cur, hcur⟩ := hcur
      obtain ⟨k, cf, i9, a, -, -, -, -, -, hev⟩ := Cond.stringRef_spec hcur h1
      exact ⟨a, fun q' e => by cases e; exact ⟨vk_R.of h1 hev, hev⟩⟩
  refine ⟨fun i => (h i).choose, fun i q hq => ((h i).choose_spec q hq).1, fun i q hq => ((h i).choose_spec q hq).2⟩
abbrev AH (s : State) : Nat → Prop := fun q => s.heap.size ≤ q
theorem start_st (hts : ∀ w ∈ lw_tbl, w.before #[Value.ref b] s = true) (hgv : (Jvm.Cond.and given_1 narrow_1).before #[Value.ref b] s = true) : St (AH s) s s.heap := by
  have hs := flat_of_before _ hgv
  have hA : ∀ a : Nat, a < s.heap.size → ¬ AH s a := fun a h1 h2 => Nat.lt_irrefl _ (Nat.lt_of_lt_of_le h1 h2)
  refine ⟨vx_Zqof (hts _ (by decide +kernel)) (hts _ (by decide +kernel)) (hs _ (by decide +kernel)) hA, vx_Zqof (hts _ (by decide +kernel)) (hts _ (by decide +kernel)) (hs _ (by decide +kernel)) hA, va_Zof (hts _ (by decide +kernel)) (hts _ (by decide +kernel)) (Cond.eq_int (hs (Cond.eq (Term.static "java/lang/String" "COMPACT_STRINGS" "Z") (.int 1)) (by decide +kernel)) rfl) hA, va_Zqof (hts _ (by decide +kernel)) (hts _ (by decide +kernel)) (hs _ (by decide +kernel)) hA⟩
theorem start_ao (hts : ∀ w ∈ lw_tbl, w.before #[Value.ref b] s = true) (hgv : (Jvm.Cond.and given_1 narrow_1).before #[Value.ref b] s = true) : Ao s := by
  have hs := flat_of_before _ hgv
  have h1 : ∀ c ∈ AOL, Cond.arrayOver (.object c) ∈ lw_tbl := by decide +kernel
  have h2 : ∀ q ∈ NCL, Cond.not (.castable q.1 q.2) ∈ flatC (Jvm.Cond.and given_1 narrow_1) := by decide +kernel
  exact ⟨fun c hc => va_AO.of (hts _ (h1 c hc)), fun q hq => va_Nc.of (hs _ (h2 q hq))⟩
theorem start_s207 (hgv : (Jvm.Cond.and given_1 narrow_1).before #[Value.ref b] s = true) : ∃ K V : Nat, (Term.string RL 207).eval #[Value.ref b] s none [] s = some (.ref K) ∧ va_O "java/lang/String" K (AH s) s s.heap ∧ va_OF "java/lang/String" "coder" "B" (.int 0) K (AH s) s s.heap ∧ va_OF "java/lang/String" "value" "[B" (.ref V) K (AH s) s s.heap ∧ va_T .byte V 0 (fun j => .int (([] : List Int32).getD j 0)) (AH s) s s.heap := by
  have hs := flat_of_before _ hgv
  have hA : ∀ a : Nat, a < s.heap.size → ¬ AH s a := fun a h1 h2 => Nat.lt_irrefl _ (Nat.lt_of_lt_of_le h1 h2)
  have i0 : ∀ i : Nat, i < 1 → i = 0 := fun i h => by omega
  obtain ⟨adK, adV, ⟨h1, -⟩, h2⟩ := vk_Sof (s := s) (args := #[Value.ref b]) (N := 1) (tm := fun _ => Term.string RL 207) (len := [0]) (byt := [[]]) (A := AH s) (fun i h => by rw [i0 i h]; decide) (fun i h => hs _ (by decide +kernel)) (fun i h => hs _ (by decide +kernel)) (fun i h => hs _ (by decide +kernel)) (fun i h => by rw [i0 i h]; exact hs _ (by decide +kernel)) (fun i h j hj => by
      rw [i0 i h] at hj ⊢
      match j, hj with
      | (j + 0), hj => exact absurd hj (by show ¬ j + 0 < 0; omega)) (fun i j h1 h2 h3 => absurd ((i0 i h1).trans (i0 j h2).symm) h3) hA
  obtain ⟨q1, q2, q3, q4⟩ := h1 0 (by decide)
  exact ⟨adK 0, adV 0, h2 0 (by decide), q1, q2, q3, q4⟩
theorem start_s216 (hgv : (Jvm.Cond.and given_1 narrow_1).before #[Value.ref b] s = true) : ∃ K V : Nat, (Term.string RL 216).eval #[Value.ref b] s none [] s = some (.ref K) ∧ va_O "java/lang/String" K (AH s) s s.heap ∧ va_OF "java/lang/String" "coder" "B" (.int 0) K (AH s) s s.heap ∧ va_OF "java/lang/String" "value" "[B" (.ref V) K (AH s) s s.heap ∧ va_T .byte V 9 (fun j => .int (([97, 98, 97, 98, 97, 98, 99, 44, 98] : List Int32).getD j 0)) (AH s) s s.heap := by
  have hs := flat_of_before _ hgv
  have hA : ∀ a : Nat, a < s.heap.size → ¬ AH s a := fun a h1 h2 => Nat.lt_irrefl _ (Nat.lt_of_lt_of_le h1 h2)
  have i0 : ∀ i : Nat, i < 1 → i = 0 := fun i h => by omega
  obtain ⟨adK, adV, ⟨h1, -⟩, h2⟩ := vk_Sof (s := s) (args := #[Value.ref b]) (N := 1) (tm := fun _ => Term.string RL 216) (len := [9]) (byt := [[97, 98, 97, 98, 97, 98, 99, 44, 98]]) (A := AH s) (fun i h => by rw [i0 i h]; decide) (fun i h => hs _ (by decide +kernel)) (fun i h => hs _ (by decide +kernel)) (fun i h => hs _ (by decide +kernel)) (fun i h => by rw [i0 i h]; exact hs _ (by decide +kernel)) (fun i h j hj => by
      rw [i0 i h] at hj ⊢
      match j, hj with
      | 0, hj => exact hs _ (by decide +kernel)
      | 1, hj => exact hs _ (by decide +kernel)
      | 2, hj => exact hs _ (by decide +kernel)
      | 3, hj => exact hs _ (by decide +kernel)
      | 4, hj => exact hs _ (by decide +kernel)
      | 5, hj => exact hs _ (by decide +kernel)
      | 6, hj => exact hs _ (by decide +kernel)
      | 7, hj => exact hs _ (by decide +kernel)
      | 8, hj => exact hs _ (by decide +kernel)
      | (j + 9), hj => exact absurd hj (by show ¬ j + 9 < 9; omega)) (fun i j h1 h2 h3 => absurd ((i0 i h1).trans (i0 j h2).symm) h3) hA
  obtain ⟨q1, q2, q3, q4⟩ := h1 0 (by decide)
  exact ⟨adK 0, adV 0, h2 0 (by decide), q1, q2, q3, q4⟩
theorem start_s218 (hgv : (Jvm.Cond.and given_1 narrow_1).before #[Value.ref b] s = true) : ∃ K V : Nat, (Term.string RL 218).eval #[Value.ref b] s none [] s = some (.ref K) ∧ va_O "java/lang/String" K (AH s) s s.heap ∧ va_OF "java/lang/String" "coder" "B" (.int 0) K (AH s) s s.heap ∧ va_OF "java/lang/String" "value" "[B" (.ref V) K (AH s) s s.heap ∧ va_T .byte V 2 (fun j => .int (([97, 98] : List Int32).getD j 0)) (AH s) s s.heap := by
  have hs := flat_of_before _ hgv
  have hA : ∀ a : Nat, a < s.heap.size → ¬ AH s a := fun a h1 h2 => Nat.lt_irrefl _ (Nat.lt_of_lt_of_le h1 h2)
  have i0 : ∀ i : Nat, i < 1 → i = 0 := fun i h => by omega
  obtain ⟨adK, adV, ⟨h1, -⟩, h2⟩ := vk_Sof (s := s) (args := #[Value.ref b]) (N := 1) (tm := fun _ => Term.string RL 218) (len := [2]) (byt := [[97, 98]]) (A := AH s) (fun i h => by rw [i0 i h]; decide) (fun i h => hs _ (by decide +kernel)) (fun i h => hs _ (by decide +kernel)) (fun i h => hs _ (by decide +kernel)) (fun i h => by rw [i0 i h]; exact hs _ (by decide +kernel)) (fun i h j hj => by
      rw [i0 i h] at hj ⊢
      match j, hj with
      | 0, hj => exact hs _ (by decide +kernel)
      | 1, hj => exact hs _ (by decide +kernel)
      | (j + 2), hj => exact absurd hj (by show ¬ j + 2 < 2; omega)) (fun i j h1 h2 h3 => absurd ((i0 i h1).trans (i0 j h2).symm) h3) hA
  obtain ⟨q1, q2, q3, q4⟩ := h1 0 (by decide)
  exact ⟨adK 0, adV 0, h2 0 (by decide), q1, q2, q3, q4⟩
theorem start_s220 (hgv : (Jvm.Cond.and given_1 narrow_1).before #[Value.ref b] s = true) : ∃ K V : Nat, (Term.string RL 220).eval #[Value.ref b] s none [] s = some (.ref K) ∧ va_O "java/lang/String" K (AH s) s s.heap ∧ va_OF "java/lang/String" "coder" "B" (.int 0) K (AH s) s s.heap ∧ va_OF "java/lang/String" "value" "[B" (.ref V) K (AH s) s s.heap ∧ va_T .byte V 3 (fun j => .int (([97, 98, 99] : List Int32).getD j 0)) (AH s) s s.heap := by
  have hs := flat_of_before _ hgv
  have hA : ∀ a : Nat, a < s.heap.size → ¬ AH s a := fun a h1 h2 => Nat.lt_irrefl _ (Nat.lt_of_lt_of_le h1 h2)
  have i0 : ∀ i : Nat, i < 1 → i = 0 := fun i h => by omega
  obtain ⟨adK, adV, ⟨h1, -⟩, h2⟩ := vk_Sof (s := s) (args := #[Value.ref b]) (N := 1) (tm := fun _ => Term.string RL 220) (len := [3]) (byt := [[97, 98, 99]]) (A := AH s) (fun i h => by rw [i0 i h]; decide) (fun i h => hs _ (by decide +kernel)) (fun i h => hs _ (by decide +kernel)) (fun i h => hs _ (by decide +kernel)) (fun i h => by rw [i0 i h]; exact hs _ (by decide +kernel)) (fun i h j hj => by
      rw [i0 i h] at hj ⊢
      match j, hj with
      | 0, hj => exact hs _ (by decide +kernel)
      | 1, hj => exact hs _ (by decide +kernel)
      | 2, hj => exact hs _ (by decide +kernel)
      | (j + 3), hj => exact absurd hj (by show ¬ j + 3 < 3; omega)) (fun i j h1 h2 h3 => absurd ((i0 i h1).trans (i0 j h2).symm) h3) hA
  obtain ⟨q1, q2, q3, q4⟩ := h1 0 (by decide)
  exact ⟨adK 0, adV 0, h2 0 (by decide), q1, q2, q3, q4⟩
end START
