/-! the rows as the printed walks take them -/
theorem cat_rf (x : Option Nat) : (va_rf x).category = 1 := by cases x <;> rfl
theorem cat_i (x : Int32) : (Value.int x).category = 1 := rfl
theorem cat_j (x : Int64) : (Value.long x).category = 2 := rfl
theorem nar_rf (cn : String) (x : Option Nat) : narrow (.object cn) (va_rf x) = va_rf x := by cases x <;> rfl
theorem nar_ra (t : FieldType) (x : Option Nat) : narrow (.array t) (va_rf x) = va_rf x := by cases x <;> rfl
theorem fit_rf (cn : String) (x : Option Nat) : fits (.object cn) (va_rf x) = true := by cases x <;> rfl
theorem fit_ra (t : FieldType) (x : Option Nat) : fits (.array t) (va_rf x) = true := by cases x <;> rfl
/-- what a throw site asks of the tables -/
def ThrW (own : String) (ik ic : Nat) (cls : String) (names : List String) : Prop := Bundle.fit cls = true ∧ (∀ n ∈ names, Bundle.fit n = true) ∧ Cond.classLink own ik cls ∈ TBg ∧ Cond.initialized cls ∈ TBg ∧ (∀ w ∈ vx_atS own ic cls names, w ∈ TBg) ∧ (∀ w ∈ Cond.classLink own ik cls :: Cond.initialized cls :: vx_atS own ic cls names, vx_ot w = true)
def HN (C : Cx) (Z : State → Prop) (A : Nat → Prop) (G : GG) (ml : Nat) (own : String) (cc : ByteArray) (mc ms : Nat) (R : Room) (X : String → PH → Prop) : Prop := ∀ (pc k n : Nat) (lv : List (Nat × Value)) (st : List Value) (ph : PH) (cls text : String) (names : List String) (ik is ic i : Nat), ThrW own ik ic cls names → SL[i]? = some (own, is, text) → decode cc pc = .ok (.new ik, 3) → decode cc (pc + 3) = .ok (.dup, 1) → decode cc (pc + 4) = .ok (.ldc is, 2) → decode cc (pc + 6) = .ok (.invokespecial ic, 3) → decode cc (pc + 9) = .ok (.athrow, 1) →
    names.length + 3 < R.frames → (st.map fun v => v.category).sum + (13 * (names.length + 1) + 43) ≤ R.locals → k + 1 ≤ R.cells → n + 6 ≤ R.slots → k + 1 ≤ mc → n + 6 ≤ ms → X cls ph → RR C Z A G ml pc lv st ph k n
def HNW (C : Cx) (Z : State → Prop) (A : Nat → Prop) (G : GG) (ml : Nat) (own : String) (cc : ByteArray) (mc ms : Nat) (R : Room) (X : String → PH → Prop) : Prop := ∀ (pc k n : Nat) (lv : List (Nat × Value)) (st : List Value) (ph : PH) (cls text : String) (names : List String) (ik is ic i : Nat), ThrW own ik ic cls names → SL[i]? = some (own, is, text) → decode cc pc = .ok (.new ik, 3) → decode cc (pc + 3) = .ok (.dup, 1) → decode cc (pc + 4) = .ok (.ldc_w is, 3) → decode cc (pc + 7) = .ok (.invokespecial ic, 3) → decode cc (pc + 10) = .ok (.athrow, 1) →
    names.length + 3 < R.frames → (st.map fun v => v.category).sum + (13 * (names.length + 1) + 43) ≤ R.locals → k + 1 ≤ R.cells → n + 6 ≤ R.slots → k + 1 ≤ mc → n + 6 ≤ ms → X cls ph → RR C Z A G ml pc lv st ph k n
/-- .. for a class whose own constructor has another pool number -/
def ThrWX (own : String) (ik ic : Nat) (cls : String) (ix : Nat) (rx : ByteArray) (Y9 : String) (r9 : List String) : Prop := Bundle.fit cls = true ∧ (∀ n ∈ Y9 :: r9, Bundle.fit n = true) ∧ Cond.classLink own ik cls ∈ TBg ∧ Cond.initialized cls ∈ TBg ∧ (∀ w ∈ (vy_atoms own ic cls ix rx Y9 r9).filter vx_no, w ∈ TBg) ∧ (∀ w ∈ Cond.classLink own ik cls :: Cond.initialized cls :: (vy_atoms own ic cls ix rx Y9 r9).filter vx_no, vx_ot w = true) ∧ decode rx 0 = .ok (.aload_n 0, 1) ∧ decode rx 1 = .ok (.aload_n 1, 1) ∧ decode rx 2 = .ok (.invokespecial ix, 3) ∧ decode rx 5 = .ok (.return_, 1)
def HNX (C : Cx) (Z : State → Prop) (A : Nat → Prop) (G : GG) (ml : Nat) (own : String) (cc : ByteArray) (mc ms : Nat) (R : Room) (X : String → PH → Prop) : Prop := ∀ (pc k n : Nat) (lv : List (Nat × Value)) (st : List Value) (ph : PH) (cls text Y9 : String) (r9 : List String) (ik is ic i ix : Nat) (rx : ByteArray), ThrWX own ik ic cls ix rx Y9 r9 → SL[i]? = some (own, is, text) → decode cc pc = .ok (.new ik, 3) → decode cc (pc + 3) = .ok (.dup, 1) → decode cc (pc + 4) = .ok (.ldc is, 2) → decode cc (pc + 6) = .ok (.invokespecial ic, 3) → decode cc (pc + 9) = .ok (.athrow, 1) →
    (Y9 :: r9).length + 3 < R.frames → (st.map fun v => v.category).sum + (13 * ((Y9 :: r9).length + 1) + 43) ≤ R.locals → k + 1 ≤ R.cells → n + 6 ≤ R.slots → k + 1 ≤ mc → n + 6 ≤ ms → X cls ph → RR C Z A G ml pc lv st ph k n
section WRAP
variable {C : Cx} {Z : State → Prop} {A : Nat → Prop} {G : GG} {ml pc : Nat} {lv : List (Nat × Value)} {st st0 : List Value} {ph ph' : PH} {k n : Nat} {own : String} {cc : ByteArray} {R : Room}
theorem e_n {mc ms : Nat} {Q : Option Value → PH → Prop} {X : String → PH → Prop} (hC : CxOk own cc ml G A R C) (hex : ∀ x ∈ (xc C).exceptionTable.toList, False) : HN C (ZM C G A Q X mc ms) A G ml own cc mc ms R X := fun pc k n lv st ph cls text names ik is ic i hw hi d0 d3 d4 d6 d9 hRf hRl hRc hRs hk hn hx => r_throw hC hex hw.1 hw.2.1 hw.2.2.1 hw.2.2.2.1 hw.2.2.2.2.1 hw.2.2.2.2.2 hi d0 d3 d4 d6 d9 hRf hRl hRc hRs hk hn hx
theorem e_nw {mc ms : Nat} {Q : Option Value → PH → Prop} {X : String → PH → Prop} (hC : CxOk own cc ml G A R C) (hex : ∀ x ∈ (xc C).exceptionTable.toList, False) : HNW C (ZM C G A Q X mc ms) A G ml own cc mc ms R X := fun pc k n lv st ph cls text names ik is ic i hw hi d0 d3 d4 d6 d9 hRf hRl hRc hRs hk hn hx => r_throwW hC hex hw.1 hw.2.1 hw.2.2.1 hw.2.2.2.1 hw.2.2.2.2.1 hw.2.2.2.2.2 hi d0 d3 d4 d6 d9 hRf hRl hRc hRs hk hn hx
theorem e_nx {mc ms : Nat} {Q : Option Value → PH → Prop} {X : String → PH → Prop} (hC : CxOk own cc ml G A R C) (hex : ∀ x ∈ (xc C).exceptionTable.toList, False) : HNX C (ZM C G A Q X mc ms) A G ml own cc mc ms R X := by
  intro pc k n lv st ph cls text Y9 r9 ik is ic i ix rx hw hi d0 d3 d4 d6 d9 hRf hRl hRc hRs hk hn hx H locs ls a b c z
  obtain ⟨q1, q2, q3, q4, q5, q6, q7, q8, q9, q0⟩ := hw
  have hts := ts_in (args := xa C) hC.2.2.2.2.1
  have hRR := hC.2.2.2.2.2.2.2.2.2.2.2
  refine vy_make hC.1 hC.2.1 hC.2.2.2.2.2.2.2.2.1 q7 q8 q9 q0 hC.2.2.2.1 q1 q2 (hts _ q3) (hts _ q4) (hC.2.2.2.2.2.2.1 i _ hi) (fun w hw => hts w (q5 w hw)) q6 hC.2.2.2.2.2.2.2.1.1 hC.2.2.2.2.2.2.2.1.2.1 c (z.1.trans hC.2.2.1.symm) d0 d3 d4 d6 (by rw [hRR]; exact hRf) (by rw [hRR]; exact hRl) (by rw [hRR]; exact hRc) (by rw [hRR]; exact hRs) (fun q ce H1 f1 f2 hce hcv hcl => ?_)
  refine vx_athrow hC.1 hC.2.1 d9 (vx_out (fun x hx => (hex x hx).elim) hC.2.2.2.2.2.2.2.2.2.1 hce hcv hcl (fun t ht hal => ⟨⟨ph, hx, ?_, b⟩, ?_⟩) c.2.2 hk hn)
  · rw [ht]
    exact fun a0 e0 h0 => ((a a0 e0 h0).kept (f2 a0 (a a0 e0 h0).lt)).moved hal
  · exact ⟨by rw [ht]; exact Nat.le_trans c.1 f1, fun q h1 h2 => by rw [ht]; exact (f2 q (Nat.lt_of_lt_of_le h1 c.1)).trans (c.2.1 q h1 h2)⟩
theorem r_objInit (hC : CxOk own cc ml G A R C) {ix a0 : Nat} {o : Option Nat} (ho : o = some a0) (w1 : Cond.methodLink own ix objectInit ∈ TBg) (w2 : Cond.instanceMethod objectInit ∈ TBg) (w3 : Cond.code objectInit ⟨#[0xb1]⟩ 1 none ∈ TBg) (hf : 1 ≤ R.frames) (hl : (st.map fun v => v.category).sum + 12 ≤ R.locals) (d : decode cc pc = .ok (.invokespecial ix, 3)) (h : RR C Z A G ml (pc + 3) lv st ph k n) : RR C Z A G ml pc lv (va_rf o :: st) ph k n := by
  intro H locs ls a b c z
  subst ho
  have hts := ts_in (args := xa C) hC.2.2.2.2.1
  have hRR := hC.2.2.2.2.2.2.2.2.2.2.2
  exact W.objInit hC.1 hC.2.1 hC.2.2.2.1 (hts _ w1) (hts _ w2) (hts _ w3) rfl (z.1.trans hC.2.2.1.symm) rfl d (by rw [hRR]; exact hf) (by rw [hRR]; show 2 * 0 + _ + 12 ≤ _; omega) (h H locs ls a b c z)
theorem r_VI (hC : CxOk own cc ml G A R C) (hAo : Ao (xs C)) {y : MethodName} {w : Cond} {bytes : ByteArray} {maxL na ix f l mc ms ci a0 : Nat} {ret : Option FieldType} (args : List Value) {o : Option Nat} {Q : Int32 → PH → Prop} {X : String → PH → Prop} {q : vw_C} {rc : String} (hcal : CalV rc y w bytes maxL ret na) (hml : ML own ix y) (hc : vwCl[ci]? = some q) (hq : q.1 = rc) (hn : args.length = na)
    (hct : Ct G y w f l mc ms (.ref a0 :: args) ph (oI Q) X) (ho : isO ph o ci a0) (hR : f + 1 ≤ R.frames ∧ 8 + (maxL + 11) + l ≤ R.locals) (hk : k + mc ≤ R.cells ∧ n + ms ≤ R.slots) (hst : (st.map fun v => v.category).sum ≤ 8) (hs0 : st0 = args.reverse ++ va_rf o :: st) (d : decode cc pc = .ok (.invokevirtual ix, 3))
    (kx : ∀ (E : String) (u : PH), X E u → RX C Z A G ml pc lv st u E (k + mc) (n + ms)) (kk : ∀ (v : Int32) (u : PH), Q v u → RR C Z A G ml (pc + 3) lv (.int v :: st) u (k + mc) (n + ms)) : RR C Z A G ml pc lv st0 ph k n := by
  subst hs0
  exact r_callV hC hAo hcal hml hc hq hn hct ho hR hk hst d kx (fun r u ⟨v, e, h⟩ => by subst e; exact kk v u h)
theorem r_VJ (hC : CxOk own cc ml G A R C) (hAo : Ao (xs C)) {y : MethodName} {w : Cond} {bytes : ByteArray} {maxL na ix f l mc ms ci a0 : Nat} {ret : Option FieldType} (args : List Value) {o : Option Nat} {Q : Int64 → PH → Prop} {X : String → PH → Prop} {q : vw_C} {rc : String} (hcal : CalV rc y w bytes maxL ret na) (hml : ML own ix y) (hc : vwCl[ci]? = some q) (hq : q.1 = rc) (hn : args.length = na)
    (hct : Ct G y w f l mc ms (.ref a0 :: args) ph (oJ Q) X) (ho : isO ph o ci a0) (hR : f + 1 ≤ R.frames ∧ 8 + (maxL + 11) + l ≤ R.locals) (hk : k + mc ≤ R.cells ∧ n + ms ≤ R.slots) (hst : (st.map fun v => v.category).sum ≤ 8) (hs0 : st0 = args.reverse ++ va_rf o :: st) (d : decode cc pc = .ok (.invokevirtual ix, 3))
    (kx : ∀ (E : String) (u : PH), X E u → RX C Z A G ml pc lv st u E (k + mc) (n + ms)) (kk : ∀ (v : Int64) (u : PH), Q v u → RR C Z A G ml (pc + 3) lv (.long v :: st) u (k + mc) (n + ms)) : RR C Z A G ml pc lv st0 ph k n := by
  subst hs0
  exact r_callV hC hAo hcal hml hc hq hn hct ho hR hk hst d kx (fun r u ⟨v, e, h⟩ => by subst e; exact kk v u h)
theorem r_VR (hC : CxOk own cc ml G A R C) (hAo : Ao (xs C)) {y : MethodName} {w : Cond} {bytes : ByteArray} {maxL na ix f l mc ms ci a0 : Nat} {ret : Option FieldType} (args : List Value) {o : Option Nat} {Q : Option Nat → PH → Prop} {X : String → PH → Prop} {q : vw_C} {rc : String} (hcal : CalV rc y w bytes maxL ret na) (hml : ML own ix y) (hc : vwCl[ci]? = some q) (hq : q.1 = rc) (hn : args.length = na)
    (hct : Ct G y w f l mc ms (.ref a0 :: args) ph (oR Q) X) (ho : isO ph o ci a0) (hR : f + 1 ≤ R.frames ∧ 8 + (maxL + 11) + l ≤ R.locals) (hk : k + mc ≤ R.cells ∧ n + ms ≤ R.slots) (hst : (st.map fun v => v.category).sum ≤ 8) (hs0 : st0 = args.reverse ++ va_rf o :: st) (d : decode cc pc = .ok (.invokevirtual ix, 3))
    (kx : ∀ (E : String) (u : PH), X E u → RX C Z A G ml pc lv st u E (k + mc) (n + ms)) (kk : ∀ (v : Option Nat) (u : PH), Q v u → RR C Z A G ml (pc + 3) lv (va_rf v :: st) u (k + mc) (n + ms)) : RR C Z A G ml pc lv st0 ph k n := by
  subst hs0
  exact r_callV hC hAo hcal hml hc hq hn hct ho hR hk hst d kx (fun r u ⟨v, e, h⟩ => by subst e; exact kk v u h)
theorem r_VV (hC : CxOk own cc ml G A R C) (hAo : Ao (xs C)) {y : MethodName} {w : Cond} {bytes : ByteArray} {maxL na ix f l mc ms ci a0 : Nat} {ret : Option FieldType} (args : List Value) {o : Option Nat} {Q : PH → Prop} {X : String → PH → Prop} {q : vw_C} {rc : String} (hcal : CalV rc y w bytes maxL ret na) (hml : ML own ix y) (hc : vwCl[ci]? = some q) (hq : q.1 = rc) (hn : args.length = na)
    (hct : Ct G y w f l mc ms (.ref a0 :: args) ph (oV Q) X) (ho : isO ph o ci a0) (hR : f + 1 ≤ R.frames ∧ 8 + (maxL + 11) + l ≤ R.locals) (hk : k + mc ≤ R.cells ∧ n + ms ≤ R.slots) (hst : (st.map fun v => v.category).sum ≤ 8) (hs0 : st0 = args.reverse ++ va_rf o :: st) (d : decode cc pc = .ok (.invokevirtual ix, 3))
    (kx : ∀ (E : String) (u : PH), X E u → RX C Z A G ml pc lv st u E (k + mc) (n + ms)) (kk : ∀ (u : PH), Q u → RR C Z A G ml (pc + 3) lv st u (k + mc) (n + ms)) : RR C Z A G ml pc lv st0 ph k n := by
  subst hs0
  exact r_callV hC hAo hcal hml hc hq hn hct ho hR hk hst d kx (fun r u ⟨e, h⟩ => by subst e; exact kk u h)
theorem r_SI (hC : CxOk own cc ml G A R C) (hAo : Ao (xs C)) {y : MethodName} {w : Cond} {bytes : ByteArray} {maxL na ix f l mc ms : Nat} {ret : Option FieldType} (args : List Value) {Q : Int32 → PH → Prop} {X : String → PH → Prop} (hcal : CalS y w bytes maxL ret na) (hml : ML own ix y) (hn : args.length = na)
    (hct : Ct G y w f l mc ms args ph (oI Q) X) (hR : f + 1 ≤ R.frames ∧ 8 + (maxL + 11) + l ≤ R.locals) (hk : k + mc ≤ R.cells ∧ n + ms ≤ R.slots) (hst : (st.map fun v => v.category).sum ≤ 8) (hs0 : st0 = args.reverse ++ st) (d : decode cc pc = .ok (.invokestatic ix, 3))
    (kx : ∀ (E : String) (u : PH), X E u → RX C Z A G ml pc lv st u E (k + mc) (n + ms)) (kk : ∀ (v : Int32) (u : PH), Q v u → RR C Z A G ml (pc + 3) lv (.int v :: st) u (k + mc) (n + ms)) : RR C Z A G ml pc lv st0 ph k n := by
  subst hs0
  exact r_callS hC hAo hcal hml hn hct hR hk hst d kx (fun r u ⟨v, e, h⟩ => by subst e; exact kk v u h)
theorem r_SJ (hC : CxOk own cc ml G A R C) (hAo : Ao (xs C)) {y : MethodName} {w : Cond} {bytes : ByteArray} {maxL na ix f l mc ms : Nat} {ret : Option FieldType} (args : List Value) {Q : Int64 → PH → Prop} {X : String → PH → Prop} (hcal : CalS y w bytes maxL ret na) (hml : ML own ix y) (hn : args.length = na)
    (hct : Ct G y w f l mc ms args ph (oJ Q) X) (hR : f + 1 ≤ R.frames ∧ 8 + (maxL + 11) + l ≤ R.locals) (hk : k + mc ≤ R.cells ∧ n + ms ≤ R.slots) (hst : (st.map fun v => v.category).sum ≤ 8) (hs0 : st0 = args.reverse ++ st) (d : decode cc pc = .ok (.invokestatic ix, 3))
    (kx : ∀ (E : String) (u : PH), X E u → RX C Z A G ml pc lv st u E (k + mc) (n + ms)) (kk : ∀ (v : Int64) (u : PH), Q v u → RR C Z A G ml (pc + 3) lv (.long v :: st) u (k + mc) (n + ms)) : RR C Z A G ml pc lv st0 ph k n := by
  subst hs0
  exact r_callS hC hAo hcal hml hn hct hR hk hst d kx (fun r u ⟨v, e, h⟩ => by subst e; exact kk v u h)
theorem r_SR (hC : CxOk own cc ml G A R C) (hAo : Ao (xs C)) {y : MethodName} {w : Cond} {bytes : ByteArray} {maxL na ix f l mc ms : Nat} {ret : Option FieldType} (args : List Value) {Q : Option Nat → PH → Prop} {X : String → PH → Prop} (hcal : CalS y w bytes maxL ret na) (hml : ML own ix y) (hn : args.length = na)
    (hct : Ct G y w f l mc ms args ph (oR Q) X) (hR : f + 1 ≤ R.frames ∧ 8 + (maxL + 11) + l ≤ R.locals) (hk : k + mc ≤ R.cells ∧ n + ms ≤ R.slots) (hst : (st.map fun v => v.category).sum ≤ 8) (hs0 : st0 = args.reverse ++ st) (d : decode cc pc = .ok (.invokestatic ix, 3))
    (kx : ∀ (E : String) (u : PH), X E u → RX C Z A G ml pc lv st u E (k + mc) (n + ms)) (kk : ∀ (v : Option Nat) (u : PH), Q v u → RR C Z A G ml (pc + 3) lv (va_rf v :: st) u (k + mc) (n + ms)) : RR C Z A G ml pc lv st0 ph k n := by
  subst hs0
  exact r_callS hC hAo hcal hml hn hct hR hk hst d kx (fun r u ⟨v, e, h⟩ => by subst e; exact kk v u h)
theorem r_SV (hC : CxOk own cc ml G A R C) (hAo : Ao (xs C)) {y : MethodName} {w : Cond} {bytes : ByteArray} {maxL na ix f l mc ms : Nat} {ret : Option FieldType} (args : List Value) {Q : PH → Prop} {X : String → PH → Prop} (hcal : CalS y w bytes maxL ret na) (hml : ML own ix y) (hn : args.length = na)
    (hct : Ct G y w f l mc ms args ph (oV Q) X) (hR : f + 1 ≤ R.frames ∧ 8 + (maxL + 11) + l ≤ R.locals) (hk : k + mc ≤ R.cells ∧ n + ms ≤ R.slots) (hst : (st.map fun v => v.category).sum ≤ 8) (hs0 : st0 = args.reverse ++ st) (d : decode cc pc = .ok (.invokestatic ix, 3))
    (kx : ∀ (E : String) (u : PH), X E u → RX C Z A G ml pc lv st u E (k + mc) (n + ms)) (kk : ∀ (u : PH), Q u → RR C Z A G ml (pc + 3) lv st u (k + mc) (n + ms)) : RR C Z A G ml pc lv st0 ph k n := by
  subst hs0
  exact r_callS hC hAo hcal hml hn hct hR hk hst d kx (fun r u ⟨e, h⟩ => by subst e; exact kk u h)
theorem r_PI (hC : CxOk own cc ml G A R C) (hAo : Ao (xs C)) {y : MethodName} {w : Cond} {bytes : ByteArray} {maxL na ix f l mc ms ci a0 : Nat} {ret : Option FieldType} (args : List Value) {o : Option Nat} {Q : Int32 → PH → Prop} {X : String → PH → Prop} {q : vw_C} (hcal : CalSU own y w bytes maxL ret na) (hml : Cond.methodLink own ix y ∈ TBg) (hc : vwCl[ci]? = some q) (hn : args.length = na)
    (hct : Ct G y w f l mc ms (.ref a0 :: args) ph (oI Q) X) (ho : isO ph o ci a0) (hR : f + 1 ≤ R.frames ∧ 8 + (maxL + 11) + l ≤ R.locals) (hk : k + mc ≤ R.cells ∧ n + ms ≤ R.slots) (hst : (st.map fun v => v.category).sum ≤ 8) (hs0 : st0 = args.reverse ++ va_rf o :: st) (d : decode cc pc = .ok (.invokespecial ix, 3))
    (kx : ∀ (E : String) (u : PH), X E u → RX C Z A G ml pc lv st u E (k + mc) (n + ms)) (kk : ∀ (v : Int32) (u : PH), Q v u → RR C Z A G ml (pc + 3) lv (.int v :: st) u (k + mc) (n + ms)) : RR C Z A G ml pc lv st0 ph k n := by
  subst hs0
  exact r_callSU hC hAo hcal hml hc hn hct ho hR hk hst d kx (fun r u ⟨v, e, h⟩ => by subst e; exact kk v u h)
theorem r_PR (hC : CxOk own cc ml G A R C) (hAo : Ao (xs C)) {y : MethodName} {w : Cond} {bytes : ByteArray} {maxL na ix f l mc ms ci a0 : Nat} {ret : Option FieldType} (args : List Value) {o : Option Nat} {Q : Option Nat → PH → Prop} {X : String → PH → Prop} {q : vw_C} (hcal : CalSU own y w bytes maxL ret na) (hml : Cond.methodLink own ix y ∈ TBg) (hc : vwCl[ci]? = some q) (hn : args.length = na)
    (hct : Ct G y w f l mc ms (.ref a0 :: args) ph (oR Q) X) (ho : isO ph o ci a0) (hR : f + 1 ≤ R.frames ∧ 8 + (maxL + 11) + l ≤ R.locals) (hk : k + mc ≤ R.cells ∧ n + ms ≤ R.slots) (hst : (st.map fun v => v.category).sum ≤ 8) (hs0 : st0 = args.reverse ++ va_rf o :: st) (d : decode cc pc = .ok (.invokespecial ix, 3))
    (kx : ∀ (E : String) (u : PH), X E u → RX C Z A G ml pc lv st u E (k + mc) (n + ms)) (kk : ∀ (v : Option Nat) (u : PH), Q v u → RR C Z A G ml (pc + 3) lv (va_rf v :: st) u (k + mc) (n + ms)) : RR C Z A G ml pc lv st0 ph k n := by
  subst hs0
  exact r_callSU hC hAo hcal hml hc hn hct ho hR hk hst d kx (fun r u ⟨v, e, h⟩ => by subst e; exact kk v u h)
theorem r_PV (hC : CxOk own cc ml G A R C) (hAo : Ao (xs C)) {y : MethodName} {w : Cond} {bytes : ByteArray} {maxL na ix f l mc ms ci a0 : Nat} {ret : Option FieldType} (args : List Value) {o : Option Nat} {Q : PH → Prop} {X : String → PH → Prop} {q : vw_C} (hcal : CalSU own y w bytes maxL ret na) (hml : Cond.methodLink own ix y ∈ TBg) (hc : vwCl[ci]? = some q) (hn : args.length = na)
    (hct : Ct G y w f l mc ms (.ref a0 :: args) ph (oV Q) X) (ho : isO ph o ci a0) (hR : f + 1 ≤ R.frames ∧ 8 + (maxL + 11) + l ≤ R.locals) (hk : k + mc ≤ R.cells ∧ n + ms ≤ R.slots) (hst : (st.map fun v => v.category).sum ≤ 8) (hs0 : st0 = args.reverse ++ va_rf o :: st) (d : decode cc pc = .ok (.invokespecial ix, 3))
    (kx : ∀ (E : String) (u : PH), X E u → RX C Z A G ml pc lv st u E (k + mc) (n + ms)) (kk : ∀ (u : PH), Q u → RR C Z A G ml (pc + 3) lv st u (k + mc) (n + ms)) : RR C Z A G ml pc lv st0 ph k n := by
  subst hs0
  exact r_callSU hC hAo hcal hml hc hn hct ho hR hk hst d kx (fun r u ⟨e, h⟩ => by subst e; exact kk u h)
theorem r_UI (hC : CxOk own cc ml G A R C) (hAo : Ao (xs C)) {x y : MethodName} {w : Cond} {bytes : ByteArray} {maxL na ix f l mc ms ci a0 : Nat} {ret : Option FieldType} (args : List Value) {o : Option Nat} {Q : Int32 → PH → Prop} {X : String → PH → Prop} {q : vw_C} {rc : String} (hcal : CalU rc x y w bytes maxL ret na) (hml : Cond.methodLink own ix x ∈ TBg) (hc : vwCl[ci]? = some q) (hq : q.1 = rc) (hn : args.length = na)
    (hct : Ct G y w f l mc ms (.ref a0 :: args) ph (oI Q) X) (ho : isO ph o ci a0) (hR : f + 1 ≤ R.frames ∧ 8 + (maxL + 11) + l ≤ R.locals) (hk : k + mc ≤ R.cells ∧ n + ms ≤ R.slots) (hst : (st.map fun v => v.category).sum ≤ 8) (hs0 : st0 = args.reverse ++ va_rf o :: st) (d : decode cc pc = .ok (.invokevirtual ix, 3))
    (kx : ∀ (E : String) (u : PH), X E u → RX C Z A G ml pc lv st u E (k + mc) (n + ms)) (kk : ∀ (v : Int32) (u : PH), Q v u → RR C Z A G ml (pc + 3) lv (.int v :: st) u (k + mc) (n + ms)) : RR C Z A G ml pc lv st0 ph k n := by
  subst hs0
  exact r_callU hC hAo hcal hml hc hq hn hct ho hR hk hst d kx (fun r u ⟨v, e, h⟩ => by subst e; exact kk v u h)
theorem r_IV (hC : CxOk own cc ml G A R C) (hAo : Ao (xs C)) {y : MethodName} {w : Cond} {bytes : ByteArray} {maxL na ix f l mc ms a0 : Nat} (args : List Value) {Q : PH → Prop} {X : String → PH → Prop} {o : Option Nat} (hcal : CalI y w bytes maxL na) (hml : ML own ix y) (hn : args.length = na) (ho : o = some a0)
    (hct : Ct G y w f l mc ms (.ref a0 :: args) ph (oV Q) X) (hR : f + 1 ≤ R.frames ∧ 8 + (maxL + 11) + l ≤ R.locals) (hk : k + mc ≤ R.cells ∧ n + ms ≤ R.slots) (hst : (st.map fun v => v.category).sum ≤ 8) (hs0 : st0 = args.reverse ++ va_rf o :: st) (d : decode cc pc = .ok (.invokespecial ix, 3))
    (kx : ∀ (E : String) (u : PH), X E u → RX C Z A G ml pc lv st u E (k + mc) (n + ms)) (kk : ∀ (u : PH), Q u → RR C Z A G ml (pc + 3) lv st u (k + mc) (n + ms)) : RR C Z A G ml pc lv st0 ph k n := by
  subst hs0
  exact r_callI hC hAo hcal hml hn ho hct hR hk hst d kx (fun r u ⟨e, h⟩ => by subst e; exact kk u h)
end WRAP
