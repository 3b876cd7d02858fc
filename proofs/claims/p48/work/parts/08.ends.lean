/-! a method's ends, and its contract out of its walk -/
def nZ (v : Int32) : Prop := narrow .boolean (.int v) = .int v
def nC (v : Int32) : Prop := narrow .char (.int v) = .int v
def nB (v : Int32) : Prop := narrow .byte (.int v) = .int v
theorem nZ_0 : nZ 0 := rfl
theorem nZ_1 : nZ 1 := rfl
def HI (C : Cx) (Z : State → Prop) (A : Nat → Prop) (G : GG) (ml : Nat) (cc : ByteArray) (mc ms : Nat) (Q : Int32 → PH → Prop) : Prop := ∀ (pc : Nat) (lv : List (Nat × Value)) (v : Int32) (ph : PH) (k n : Nat), decode cc pc = .ok (.ireturn, 1) → k ≤ mc → n ≤ ms → Q v ph → RR C Z A G ml pc lv [.int v] ph k n
def HZ (C : Cx) (Z : State → Prop) (A : Nat → Prop) (G : GG) (ml : Nat) (cc : ByteArray) (mc ms : Nat) (Q : Int32 → PH → Prop) : Prop := HI C Z A G ml cc mc ms (fun v u => nZ v ∧ Q v u)
def HC (C : Cx) (Z : State → Prop) (A : Nat → Prop) (G : GG) (ml : Nat) (cc : ByteArray) (mc ms : Nat) (Q : Int32 → PH → Prop) : Prop := HI C Z A G ml cc mc ms (fun v u => nC v ∧ Q v u)
def HB (C : Cx) (Z : State → Prop) (A : Nat → Prop) (G : GG) (ml : Nat) (cc : ByteArray) (mc ms : Nat) (Q : Int32 → PH → Prop) : Prop := HI C Z A G ml cc mc ms (fun v u => nB v ∧ Q v u)
def HJ (C : Cx) (Z : State → Prop) (A : Nat → Prop) (G : GG) (ml : Nat) (cc : ByteArray) (mc ms : Nat) (Q : Int64 → PH → Prop) : Prop := ∀ (pc : Nat) (lv : List (Nat × Value)) (v : Int64) (ph : PH) (k n : Nat), decode cc pc = .ok (.lreturn, 1) → k ≤ mc → n ≤ ms → Q v ph → RR C Z A G ml pc lv [.long v] ph k n
def HA (C : Cx) (Z : State → Prop) (A : Nat → Prop) (G : GG) (ml : Nat) (cc : ByteArray) (mc ms : Nat) (Q : Option Nat → PH → Prop) : Prop := ∀ (pc : Nat) (lv : List (Nat × Value)) (v : Option Nat) (ph : PH) (k n : Nat), decode cc pc = .ok (.areturn, 1) → k ≤ mc → n ≤ ms → Q v ph → RR C Z A G ml pc lv [va_rf v] ph k n
def HV (C : Cx) (Z : State → Prop) (A : Nat → Prop) (G : GG) (ml : Nat) (cc : ByteArray) (mc ms : Nat) (Q : PH → Prop) : Prop := ∀ (pc : Nat) (lv : List (Nat × Value)) (ph : PH) (k n : Nat), decode cc pc = .ok (.return_, 1) → k ≤ mc → n ≤ ms → Q ph → RR C Z A G ml pc lv [] ph k n
def HX (C : Cx) (Z : State → Prop) (A : Nat → Prop) (G : GG) (ml : Nat) (mc ms : Nat) (X : String → PH → Prop) : Prop := ∀ (pc : Nat) (lv : List (Nat × Value)) (st : List Value) (ph : PH) (E : String) (k n : Nat), k ≤ mc → n ≤ ms → X E ph → RX C Z A G ml pc lv st ph E k n
abbrev ZM (C : Cx) (G : GG) (A : Nat → Prop) (Q : Option Value → PH → Prop) (X : String → PH → Prop) (mc ms : Nat) : State → Prop := vx_MQ (xb C) (QcG G A Q) (XcG G A X) (xa C) (xs C) mc ms A
section ENDS
variable {C : Cx} {A : Nat → Prop} {G : GG} {ml mc ms : Nat} {own : String} {cc : ByteArray} {R : Room} {Q : Option Value → PH → Prop} {X : String → PH → Prop}
theorem e_q {H : Heap} {locs : List Loc} {ph : PH} {r : Option Value} (a : hs G.1 (xs C) ph H) (b : dm A ph) (c : va_S A (xs C).heap H locs) (hq : Q r ph) : ∀ t : State, t.heap = H → (xs C).WarmedH t.vm → QcG G A Q (xa C) (xs C) (.returned r) t := fun t ht hW => ⟨⟨r, ph, rfl, hq, by rw [ht]; exact a.moved hW.alike, b⟩, c.F ht⟩
theorem e_i (hC : CxOk own cc ml G A R C) (hr : (xt C).sig.returnType = some .int) : HI C (ZM C G A Q X mc ms) A G ml cc mc ms (fun v u => Q (some (.int v)) u) := fun _ _ _ _ _ _ d hk hn hq H locs ls a b c z => W.widen hk hn (vx_ret (W.iret hC.1 hC.2.1 hr (e_q a b c hq) c.2.2 d hC.2.2.2.2.2.2.2.2.2.1))
theorem e_s (hC : CxOk own cc ml G A R C) {ty : FieldType} (hr : (xt C).sig.returnType = some ty) : HI C (ZM C G A Q X mc ms) A G ml cc mc ms (fun v u => narrow ty (.int v) = .int v ∧ Q (some (.int v)) u) := fun _ _ _ _ _ _ d hk hn hq H locs ls a b c z => W.widen hk hn (vx_ret (W.zret hC.1 hC.2.1 hr hq.1 (e_q a b c hq.2) c.2.2 d hC.2.2.2.2.2.2.2.2.2.1))
theorem e_j (hC : CxOk own cc ml G A R C) (hr : (xt C).sig.returnType = some .long) : HJ C (ZM C G A Q X mc ms) A G ml cc mc ms (fun v u => Q (some (.long v)) u) := fun _ _ _ _ _ _ d hk hn hq H locs ls a b c z => W.widen hk hn (vx_ret (W.lret hC.1 hC.2.1 hr (e_q a b c hq) c.2.2 d hC.2.2.2.2.2.2.2.2.2.1))
theorem e_v (hC : CxOk own cc ml G A R C) (hr : (xt C).sig.returnType = none) : HV C (ZM C G A Q X mc ms) A G ml cc mc ms (fun u => Q none u) := fun _ _ _ _ _ d hk hn hq H locs ls a b c z => W.widen hk hn (vx_ret (W.vret hC.1 hC.2.1 hr (e_q a b c hq) c.2.2 d hC.2.2.2.2.2.2.2.2.2.1))
theorem e_a (hC : CxOk own cc ml G A R C) {cn : String} (hr : (xt C).sig.returnType = some (.object cn) ∨ ∃ t, (xt C).sig.returnType = some (.array t)) : HA C (ZM C G A Q X mc ms) A G ml cc mc ms (fun v u => Q (some (va_rf v)) u) := fun _ _ _ _ _ _ d hk hn hq H locs ls a b c z => W.widen hk hn (vx_ret (by
  rcases hr with hr | ⟨t, hr⟩
  · exact W.aret hC.1 hC.2.1 hr (Or.inl ⟨cn, rfl⟩) (va_rf_or _) (e_q a b c hq) c.2.2 d hC.2.2.2.2.2.2.2.2.2.1
  · exact W.aret hC.1 hC.2.1 hr (Or.inr ⟨t, rfl⟩) (va_rf_or _) (e_q a b c hq) c.2.2 d hC.2.2.2.2.2.2.2.2.2.1))
theorem e_x (hC : CxOk own cc ml G A R C) (hex : ∀ x ∈ (xc C).exceptionTable.toList, False) : HX C (ZM C G A Q X mc ms) A G ml mc ms X := fun _ _ _ _ _ _ _ hk hn hx H locs ls q ce a b c z hce hv hcl => vx_out (fun x hx => (hex x hx).elim) hC.2.2.2.2.2.2.2.2.2.1 hce hv hcl (fun t ht hW => ⟨⟨_, hx, by rw [ht]; exact a.moved hW, b⟩, c.F ht⟩) c.2.2 hk hn
/-- 'throw new E("text")' -/
theorem r_throw (hC : CxOk own cc ml G A R C) (hex : ∀ x ∈ (xc C).exceptionTable.toList, False) {pc k n : Nat} {lv : List (Nat × Value)} {st : List Value} {ph : PH} {cls text : String} {names : List String} {ik is ic i : Nat} (hcls : Bundle.fit cls = true) (hnames : ∀ n ∈ names, Bundle.fit n = true) (w1 : Cond.classLink own ik cls ∈ TBg) (w2 : Cond.initialized cls ∈ TBg) (hat : ∀ w ∈ vx_atS own ic cls names, w ∈ TBg) (hgood : ∀ w ∈ Cond.classLink own ik cls :: Cond.initialized cls :: vx_atS own ic cls names, vx_ot w = true) (hi : SL[i]? = some (own, is, text))
    (d0 : decode cc pc = .ok (.new ik, 3)) (d3 : decode cc (pc + 3) = .ok (.dup, 1)) (d4 : decode cc (pc + 4) = .ok (.ldc is, 2)) (d6 : decode cc (pc + 6) = .ok (.invokespecial ic, 3)) (d9 : decode cc (pc + 9) = .ok (.athrow, 1))
    (hRf : names.length + 3 < R.frames) (hRl : (st.map fun v => v.category).sum + (13 * (names.length + 1) + 43) ≤ R.locals) (hRc : k + 1 ≤ R.cells) (hRs : n + 6 ≤ R.slots) (hk : k + 1 ≤ mc) (hn : n + 6 ≤ ms) (hx : X cls ph) : RR C (ZM C G A Q X mc ms) A G ml pc lv st ph k n := by
  intro H locs ls a b c z
  have hts := ts_in (args := xa C) hC.2.2.2.2.1
  have hRR := hC.2.2.2.2.2.2.2.2.2.2.2
  exact vx_throwS hC.1 hC.2.1 hC.2.2.2.2.2.2.2.2.1 hC.2.2.2.1 hcls hnames (hts _ w1) (hts _ w2) (hC.2.2.2.2.2.2.1 i _ hi) (fun w hw => hts w (hat w hw)) hgood hC.2.2.2.2.2.2.2.1.1 hC.2.2.2.2.2.2.2.1.2.1 c (z.1.trans hC.2.2.1.symm) d0 d3 d4 d6 d9 (fun x hx => (hex x hx).elim) (by rw [hRR]; exact hRf) (by rw [hRR]; exact hRl) (by rw [hRR]; exact hRc) (by rw [hRR]; exact hRs) hC.2.2.2.2.2.2.2.2.2.1
    (fun t hal hz hq => ⟨⟨ph, hx, fun a0 e0 h0 => ((a a0 e0 h0).kept (hq a0 (a a0 e0 h0).lt)).moved hal, b⟩, ⟨Nat.le_trans c.1 hz, fun q h1 h2 => (hq q (Nat.lt_of_lt_of_le h1 c.1)).trans (c.2.1 q h1 h2)⟩⟩) c.2.2 hk hn
/-- .. the text by a wide index -/
theorem r_throwW (hC : CxOk own cc ml G A R C) (hex : ∀ x ∈ (xc C).exceptionTable.toList, False) {pc k n : Nat} {lv : List (Nat × Value)} {st : List Value} {ph : PH} {cls text : String} {names : List String} {ik is ic i : Nat} (hcls : Bundle.fit cls = true) (hnames : ∀ n ∈ names, Bundle.fit n = true) (w1 : Cond.classLink own ik cls ∈ TBg) (w2 : Cond.initialized cls ∈ TBg) (hat : ∀ w ∈ vx_atS own ic cls names, w ∈ TBg) (hgood : ∀ w ∈ Cond.classLink own ik cls :: Cond.initialized cls :: vx_atS own ic cls names, vx_ot w = true) (hi : SL[i]? = some (own, is, text))
    (d0 : decode cc pc = .ok (.new ik, 3)) (d3 : decode cc (pc + 3) = .ok (.dup, 1)) (d4 : decode cc (pc + 4) = .ok (.ldc_w is, 3)) (d6 : decode cc (pc + 7) = .ok (.invokespecial ic, 3)) (d9 : decode cc (pc + 10) = .ok (.athrow, 1))
    (hRf : names.length + 3 < R.frames) (hRl : (st.map fun v => v.category).sum + (13 * (names.length + 1) + 43) ≤ R.locals) (hRc : k + 1 ≤ R.cells) (hRs : n + 6 ≤ R.slots) (hk : k + 1 ≤ mc) (hn : n + 6 ≤ ms) (hx : X cls ph) : RR C (ZM C G A Q X mc ms) A G ml pc lv st ph k n := by
  intro H locs ls a b c z
  have hts := ts_in (args := xa C) hC.2.2.2.2.1
  have hRR := hC.2.2.2.2.2.2.2.2.2.2.2
  exact vx_throwSW hC.1 hC.2.1 hC.2.2.2.2.2.2.2.2.1 hC.2.2.2.1 hcls hnames (hts _ w1) (hts _ w2) (hC.2.2.2.2.2.2.1 i _ hi) (fun w hw => hts w (hat w hw)) hgood hC.2.2.2.2.2.2.2.1.1 hC.2.2.2.2.2.2.2.1.2.1 c (z.1.trans hC.2.2.1.symm) d0 d3 d4 d6 d9 (fun x hx => (hex x hx).elim) (by rw [hRR]; exact hRf) (by rw [hRR]; exact hRl) (by rw [hRR]; exact hRc) (by rw [hRR]; exact hRs) hC.2.2.2.2.2.2.2.2.2.1
    (fun t hal hz hq => ⟨⟨ph, hx, fun a0 e0 h0 => ((a a0 e0 h0).kept (hq a0 (a a0 e0 h0).lt)).moved hal, b⟩, ⟨Nat.le_trans c.1 hz, fun q h1 h2 => (hq q (Nat.lt_of_lt_of_le h1 c.1)).trans (c.2.1 q h1 h2)⟩⟩) c.2.2 hk hn
end ENDS
theorem ct_of {G : GG} {y : MethodName} {bytes : ByteArray} {ml f l k n : Nat} {ret : Option FieldType} {args : List Value} {ph : PH} {Q : Option Value → PH → Prop} {X : String → PH → Prop} {lv0 : List (Nat × Value)} (hy : plainName y.cls = true) (hlen : (lg_sl args).length ≤ ml) (hlv : lv_args 0 args = lv0)
    (body : ∀ (C : Cx) (A : Nat → Prop), CxOk y.cls bytes ml G A (rmk f l k n) C → Ao (xs C) → (∀ x ∈ (xc C).exceptionTable.toList, False) → (xt C).sig.returnType = ret → (xt C).name = y.name → RR C (ZM C G A Q X k n) A G ml 0 lv0 [] ph 0 0) : Ct G y (.code y bytes ml ret) f l k n args ph Q X := by
  intro L hL sz
  refine vx_ofW (cc := bytes) (maxL := ml) (ret := ret) hy rfl ?_
  intro p e s m args' below meth c s₁ B hml hex hv
  obtain ⟨rfl, hsz, h1, h2, h3, h4, h5, h6⟩ := hv
  have hl := lv_entry args (n := ml) hlen
  rw [lg_entry_eq]
  generalize (lg_sl args ++ List.replicate (ml - (lg_sl args).length) Slot.unset).toArray = ls at hl ⊢
  rw [hlv] at hl
  have key := body (p, L, e, rmk f l k n, s, m, args.toArray, below, meth, c) (Af ph sz) ⟨B.exec, B.bytes, hml, findClass_of_methodNamed B.named, h2, h3, h4, h5, hL, B.notSynchronized, (fun q hq => Or.inr (by rw [← hsz]; exact hq)), rfl⟩ h6 hex B.returns (name_of_methodNamed B.named B.method).1
  exact key s.heap [] ls h1 (fun a e h9 h10 => Or.inl ⟨e, h9, h10⟩) va_S.rf hl
