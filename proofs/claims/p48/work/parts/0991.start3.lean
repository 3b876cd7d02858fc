/-- from the entry to the law's wp -/
theorem start_run {p : Program} {e : Env} {s : State} {m : MethodId} {below : List Frame} {meth : Method} {c : Code} (l : Launch) (hflags : l.flags = flags0) {b L : Nat} {zs : Nat → Int32} (C0 : lw_At p s m meth c b L zs) {MK MN : Nat} (h1 : MK ≤ room_1.cells) (h2 : MN ≤ room_1.slots)
    (T : ∀ (C : Cx) (Z : State → Prop) (A : Nat → Prop) (G : GG) (ph : PH), CxOk RL cL_law 25 G A room_1 C → Ao (xs C) → HZ C Z A G 25 cL_law MK MN (fun v _ => v = 1) → HX C Z A G 25 MK MN (fun _ _ => False) → HN C Z A G 25 RL cL_law MK MN room_1 (fun _ _ => False) → HNW C Z A G 25 RL cL_law MK MN room_1 (fun _ _ => False) → HNX C Z A G 25 RL cL_law MK MN room_1 (fun _ _ => False) → Look ph b L zs G.2 → RR C Z A G 25 0 [(0, va_rf (some b))] [] ph 0 0) :
    W p l e room_1 s m #[Value.ref b] below meth c s.heap [] 0 0 (lw_Z below #[Value.ref b] s) (entryFrame m ([Value.ref b] : List Value).toArray 25) := by
  obtain ⟨hexec, hcode, hret, hml, hown, hts, hX, hbl, hlk, hgv⟩ := C0
  obtain ⟨D, hKn⟩ := start_kn hts
  obtain ⟨σ, hSs, hev⟩ := start_ss hts
  obtain ⟨ph, hhs, hdm, hlook⟩ := start_ph hKn hev hX hgv
  have hst : l.stackTraces = false := by
    show (!l.flags.contains noTraceFlag) = false
    rw [hflags]
    decide
  have hl := lv_entry ([Value.ref b] : List Value) (n := 25) (by simp [lg_sl, cat_rf, Value.category])
  rw [lg_entry_eq]
  generalize (lg_sl ([Value.ref b] : List Value) ++ List.replicate (25 - (lg_sl ([Value.ref b] : List Value)).length) Slot.unset).toArray = ls at hl ⊢
  have key := T (p, l, e, room_1, s, m, #[Value.ref b], below, meth, c) (lw_Z below #[Value.ref b] s) (AH s) (D, σ) ph ⟨hexec, hcode, hml, hown, Tab.of hts, hKn, hSs, start_st hts hgv, hst, hlk, fun q h => h, rfl⟩ (start_ao hts hgv)
    (by
      intro pc lv v ph k n d hk hn hq H locs ls a b9 c9 z
      obtain ⟨-, hv⟩ := hq
      cases hv
      exact W.widen (Nat.le_trans hk h1) (Nat.le_trans hn h2) (va_forget (fun q hq => c9.2.2 q hq) (lw_ret hexec hcode hret hlk d)))
    (by intro pc lv st ph E k n hk hn hx; exact False.elim hx)
    (by unfold HN; intros; rename_i hx9; exact False.elim hx9)
    (by unfold HNW; intros; rename_i hx9; exact False.elim hx9)
    (by unfold HNX; intros; rename_i hx9; exact False.elim hx9) hlook
  exact key s.heap [] ls hhs hdm va_S.rf hl
