/-! a method with an exception table -/
def HHL : List (Nat × Nat × Nat × Nat) := [(0, 179, 600, 147), (180, 187, 600, 147), (188, 218, 600, 147), (219, 225, 600, 147), (226, 232, 600, 147), (233, 239, 600, 147), (240, 247, 600, 147), (248, 261, 600, 147), (262, 269, 600, 147), (270, 276, 600, 147), (277, 284, 600, 147), (285, 298, 600, 147), (299, 312, 600, 147), (313, 319, 600, 147), (320, 334, 600, 147), (335, 341, 600, 147), (342, 359, 600, 147), (360, 366, 600, 147), (367, 381, 600, 147), (382, 388, 600, 147), (389, 395, 600, 147), (396, 403, 600, 147), (404, 420, 600, 147), (421, 428, 600, 147), (429, 440, 600, 147), (441, 450, 600, 147), (451, 462, 600, 147), (463, 483, 600, 147), (484, 490, 600, 147), (491, 497, 600, 147), (498, 504, 600, 147), (505, 510, 600, 147), (511, 523, 600, 147), (524, 538, 600, 147), (539, 552, 600, 147), (553, 559, 600, 147), (560, 574, 600, 147), (575, 584, 600, 147), (585, 592, 600, 147), (593, 599, 600, 147), (0, 179, 606, 151), (180, 187, 606, 151), (188, 218, 606, 151), (219, 225, 606, 151), (226, 232, 606, 151), (233, 239, 606, 151), (240, 247, 606, 151), (248, 261, 606, 151), (262, 269, 606, 151), (270, 276, 606, 151), (277, 284, 606, 151), (285, 298, 606, 151), (299, 312, 606, 151), (313, 319, 606, 151), (320, 334, 606, 151), (335, 341, 606, 151), (342, 359, 606, 151), (360, 366, 606, 151), (367, 381, 606, 151), (382, 388, 606, 151), (389, 395, 606, 151), (396, 403, 606, 151), (404, 420, 606, 151), (421, 428, 606, 151), (429, 440, 606, 151), (441, 450, 606, 151), (451, 462, 606, 151), (463, 483, 606, 151), (484, 490, 606, 151), (491, 497, 606, 151), (498, 504, 606, 151), (505, 510, 606, 151), (511, 523, 606, 151), (524, 538, 606, 151), (539, 552, 606, 151), (553, 559, 606, 151), (560, 574, 606, 151), (575, 584, 606, 151), (585, 592, 606, 151), (593, 599, 606, 151), (0, 179, 612, 155), (180, 187, 612, 155), (188, 218, 612, 155), (219, 225, 612, 155), (226, 232, 612, 155), (233, 239, 612, 155), (240, 247, 612, 155), (248, 261, 612, 155), (262, 269, 612, 155), (270, 276, 612, 155), (277, 284, 612, 155), (285, 298, 612, 155), (299, 312, 612, 155), (313, 319, 612, 155), (320, 334, 612, 155), (335, 341, 612, 155), (342, 359, 612, 155), (360, 366, 612, 155), (367, 381, 612, 155), (382, 388, 612, 155), (389, 395, 612, 155), (396, 403, 612, 155), (404, 420, 612, 155), (421, 428, 612, 155), (429, 440, 612, 155), (441, 450, 612, 155), (451, 462, 612, 155), (463, 483, 612, 155), (484, 490, 612, 155), (491, 497, 612, 155), (498, 504, 612, 155), (505, 510, 612, 155), (511, 523, 612, 155), (524, 538, 612, 155), (539, 552, 612, 155), (553, 559, 612, 155), (560, 574, 612, 155), (575, 584, 612, 155), (585, 592, 612, 155), (593, 599, 612, 155), (0, 179, 618, 159), (180, 187, 618, 159), (188, 218, 618, 159), (219, 225, 618, 159), (226, 232, 618, 159), (233, 239, 618, 159), (240, 247, 618, 159), (248, 261, 618, 159), (262, 269, 618, 159), (270, 276, 618, 159), (277, 284, 618, 159), (285, 298, 618, 159), (299, 312, 618, 159), (313, 319, 618, 159), (320, 334, 618, 159), (335, 341, 618, 159), (342, 359, 618, 159), (360, 366, 618, 159), (367, 381, 618, 159), (382, 388, 618, 159), (389, 395, 618, 159), (396, 403, 618, 159), (404, 420, 618, 159), (421, 428, 618, 159), (429, 440, 618, 159), (441, 450, 618, 159), (451, 462, 618, 159), (463, 483, 618, 159), (484, 490, 618, 159), (491, 497, 618, 159), (498, 504, 618, 159), (505, 510, 618, 159), (511, 523, 618, 159), (524, 538, 618, 159), (539, 552, 618, 159), (553, 559, 618, 159), (560, 574, 618, 159), (575, 584, 618, 159), (585, 592, 618, 159), (593, 599, 618, 159), (0, 179, 624, 163), (180, 187, 624, 163), (188, 218, 624, 163), (219, 225, 624, 163), (226, 232, 624, 163), (233, 239, 624, 163), (240, 247, 624, 163), (248, 261, 624, 163), (262, 269, 624, 163), (270, 276, 624, 163), (277, 284, 624, 163), (285, 298, 624, 163), (299, 312, 624, 163), (313, 319, 624, 163), (320, 334, 624, 163), (335, 341, 624, 163), (342, 359, 624, 163), (360, 366, 624, 163), (367, 381, 624, 163), (382, 388, 624, 163), (389, 395, 624, 163), (396, 403, 624, 163), (404, 420, 624, 163), (421, 428, 624, 163), (429, 440, 624, 163), (441, 450, 624, 163), (451, 462, 624, 163), (463, 483, 624, 163), (484, 490, 624, 163), (491, 497, 624, 163), (498, 504, 624, 163), (505, 510, 624, 163), (511, 523, 624, 163), (524, 538, 624, 163), (539, 552, 624, 163), (553, 559, 624, 163), (560, 574, 624, 163), (575, 584, 624, 163), (585, 592, 624, 163), (593, 599, 624, 163), (0, 179, 630, 167), (180, 187, 630, 167), (188, 218, 630, 167), (219, 225, 630, 167), (226, 232, 630, 167), (233, 239, 630, 167), (240, 247, 630, 167), (248, 261, 630, 167), (262, 269, 630, 167), (270, 276, 630, 167), (277, 284, 630, 167), (285, 298, 630, 167), (299, 312, 630, 167), (313, 319, 630, 167), (320, 334, 630, 167), (335, 341, 630, 167), (342, 359, 630, 167), (360, 366, 630, 167), (367, 381, 630, 167), (382, 388, 630, 167), (389, 395, 630, 167), (396, 403, 630, 167), (404, 420, 630, 167), (421, 428, 630, 167), (429, 440, 630, 167), (441, 450, 630, 167), (451, 462, 630, 167), (463, 483, 630, 167), (484, 490, 630, 167), (491, 497, 630, 167), (498, 504, 630, 167), (505, 510, 630, 167), (511, 523, 630, 167), (524, 538, 630, 167), (539, 552, 630, 167), (553, 559, 630, 167), (560, 574, 630, 167), (575, 584, 630, 167), (585, 592, 630, 167), (593, 599, 630, 167)]
def fnd (pc j : Nat) (earl : List Nat) : List ExceptionTableEntry → Option Nat
  | [] => none
  | z :: T => if covers z pc = true then (if z.catchType = j then some z.handlerPc else if z.catchType ∈ earl then fnd pc j earl T else none) else fnd pc j earl T
theorem fnd_spec {pc j h : Nat} {earl : List Nat} : ∀ {T : List ExceptionTableEntry}, fnd pc j earl T = some h → ∃ (pre : List ExceptionTableEntry) (x : ExceptionTableEntry) (suf : List ExceptionTableEntry), T = pre ++ x :: suf ∧ covers x pc = true ∧ x.catchType = j ∧ x.handlerPc = h ∧ ∀ z ∈ pre, covers z pc = false ∨ z.catchType ∈ earl := by
  intro T
  induction T with
  | nil => intro h9; cases h9
  | cons z T ih =>
    intro h9
    unfold fnd at h9
    by_cases c1 : covers z pc = true
    · rw [if_pos c1] at h9
      by_cases c2 : z.catchType = j
      · rw [if_pos c2] at h9
        exact ⟨[], z, T, rfl, c1, c2, Option.some.inj h9, fun q hq => by cases hq⟩
      · rw [if_neg c2] at h9
        by_cases c3 : z.catchType ∈ earl
        · rw [if_pos c3] at h9
          obtain ⟨pre, x, suf, e1, e2, e3, e4, e5⟩ := ih h9
          exact ⟨z :: pre, x, suf, by rw [e1]; rfl, e2, e3, e4, fun q hq => by
            rcases List.mem_cons.mp hq with rfl | hq
            · exact Or.inr c3
            · exact e5 q hq⟩
        · rw [if_neg c3] at h9
          cases h9
    · rw [if_neg c1] at h9
      obtain ⟨pre, x, suf, e1, e2, e3, e4, e5⟩ := ih h9
      exact ⟨z :: pre, x, suf, by rw [e1]; rfl, e2, e3, e4, fun q hq => by
        rcases List.mem_cons.mp hq with rfl | hq
        · exact Or.inl (by simpa using c1)
        · exact e5 q hq⟩
theorem ct_ofH {G : GG} {y : MethodName} {bytes : ByteArray} {ml f l k n : Nat} {ret : Option FieldType} {hh : List (Nat × Nat × Nat × Nat)} {args : List Value} {ph : PH} {Q : Option Value → PH → Prop} {X : String → PH → Prop} {lv0 : List (Nat × Value)} (hy : plainName y.cls = true) (hlen : (lg_sl args).length ≤ ml) (hlv : lv_args 0 args = lv0)
    (body : ∀ (C : Cx) (A : Nat → Prop), CxOk y.cls bytes ml G A (rmk f l k n) C → Ao (xs C) → (xc C).exceptionTable.toList = tableOf hh → (xt C).sig.returnType = ret → (xt C).name = y.name → RR C (ZM C G A Q X k n) A G ml 0 lv0 [] ph 0 0) : Ct G y (.codeWith y bytes ml ret hh) f l k n args ph Q X := by
  intro L hL sz
  refine vx_ofWH (cc := bytes) (maxL := ml) (ret := ret) (hh := hh) hy rfl ?_
  intro p e s m args' below meth c s₁ B hml hv
  have hex : c.exceptionTable.toList = tableOf hh := vx_table (x := y) B (atoms_spec (ws := [Cond.codeWith y bytes ml ret hh]) B.pre _ List.mem_cons_self)
  obtain ⟨rfl, hsz, h1, h2, h3, h4, h5, h6⟩ := hv
  have hl := lv_entry args (n := ml) hlen
  rw [lg_entry_eq]
  generalize (lg_sl args ++ List.replicate (ml - (lg_sl args).length) Slot.unset).toArray = ls at hl ⊢
  rw [hlv] at hl
  have key := body (p, L, e, rmk f l k n, s, m, args.toArray, below, meth, c) (Af ph sz) ⟨B.exec, B.bytes, hml, findClass_of_methodNamed B.named, h2, h3, h4, h5, hL, B.notSynchronized, (fun q hq => Or.inr (by rw [← hsz]; exact hq)), rfl⟩ h6 hex B.returns (name_of_methodNamed B.named B.method).1
  exact key s.heap [] ls h1 (fun a e h9 h10 => Or.inl ⟨e, h9, h10⟩) va_S.rf hl
def CalSX (y : MethodName) (w : Cond) (bytes : ByteArray) (maxL : Nat) (ret : Option FieldType) (hh : List (Nat × Nat × Nat × Nat)) (na : Nat) : Prop := w = .codeWith y bytes maxL ret hh ∧ w ∈ TBg ∧ Cond.initialized y.cls ∈ TBg ∧ Cond.static y ∈ TBg ∧ y.cls ≠ "java/lang/invoke/MethodHandle" ∧ y.cls ≠ "java/lang/invoke/VarHandle" ∧ (parseMethodDescriptor y.desc).map (fun d => d.parameters.length) = some na
theorem idx_in {x lo hi : Int} {n : Nat} (h0 : (hi - lo).toNat < n) (h1 : ¬ x < lo) (h2 : ¬ hi < x) : (x - lo).toNat < n ∧ x = lo + ((x - lo).toNat : Int) := by omega
section LAWROWS
variable {C : Cx} {Z : State → Prop} {A : Nat → Prop} {G : GG} {ml pc : Nat} {lv : List (Nat × Value)} {st st0 : List Value} {ph ph' : PH} {k n : Nat} {own : String} {cc : ByteArray} {R : Room}
theorem r_callSX (hC : CxOk own cc ml G A R C) (hAo : Ao (xs C)) {y : MethodName} {w : Cond} {bytes : ByteArray} {maxL na ix f l mc ms : Nat} {ret : Option FieldType} {hh : List (Nat × Nat × Nat × Nat)} {args : List Value} {Q : Option Value → PH → Prop} {X : String → PH → Prop} (hcal : CalSX y w bytes maxL ret hh na) (hml : Cond.methodLink own ix y ∈ TBg) (hn : args.length = na)
    (hct : Ct G y w f l mc ms args ph Q X) (hR : f + 1 ≤ R.frames ∧ 8 + (maxL + 11) + l ≤ R.locals) (hk : k + mc ≤ R.cells ∧ n + ms ≤ R.slots) (hst : (st.map fun v => v.category).sum ≤ 8) (d : decode cc pc = .ok (.invokestatic ix, 3))
    (kx : ∀ (E : String) (u : PH), X E u → RX C Z A G ml pc lv st u E (k + mc) (n + ms)) (kk : ∀ (r : Option Value) (u : PH), Q r u → RR C Z A G ml (pc + 3) lv (r.toList ++ st) u (k + mc) (n + ms)) : RR C Z A G ml pc lv (args.reverse ++ st) ph k n := by
  intro H locs ls a b c z
  obtain ⟨hw, w1, w2, w3, n1, n2, n3⟩ := hcal
  subst hw
  have hts := ts_in (args := xa C) hC.2.2.2.2.1
  have hRR := hC.2.2.2.2.2.2.2.2.2.2.2
  have hp := call_pre hC hAo (args := args) a b c
  have hM := hct (xl C) hC.2.2.2.2.2.2.2.2.1 H.size
  exact call_out hC b c z (vx_runSX (As := args) (rest := st) (g := F0 (xm C) pc ls (args.reverse ++ st)) (cal_fix hC) hM ⟨⟨rfl, rfl, by rw [hRR]; exact hR.1, by rw [hRR]; exact hR.2, cal_w hC w1, List.mem_singleton.mpr rfl⟩, hts _ w1, hts _ w2, ⟨n1, n2⟩, cal_n n3, hts _ hml, hts _ w3⟩ hp rfl hn z.1 rfl (lv_room hst) d (by rw [hRR]; exact hk)) kx kk
theorem r_SXJ (hC : CxOk own cc ml G A R C) (hAo : Ao (xs C)) {y : MethodName} {w : Cond} {bytes : ByteArray} {maxL na ix f l mc ms : Nat} {ret : Option FieldType} {hh : List (Nat × Nat × Nat × Nat)} (args : List Value) {Q : Int64 → PH → Prop} {X : String → PH → Prop} (hcal : CalSX y w bytes maxL ret hh na) (hml : Cond.methodLink own ix y ∈ TBg) (hn : args.length = na)
    (hct : Ct G y w f l mc ms args ph (oJ Q) X) (hR : f + 1 ≤ R.frames ∧ 8 + (maxL + 11) + l ≤ R.locals) (hk : k + mc ≤ R.cells ∧ n + ms ≤ R.slots) (hst : (st.map fun v => v.category).sum ≤ 8) (hs0 : st0 = args.reverse ++ st) (d : decode cc pc = .ok (.invokestatic ix, 3))
    (kx : ∀ (E : String) (u : PH), X E u → RX C Z A G ml pc lv st u E (k + mc) (n + ms)) (kk : ∀ (v : Int64) (u : PH), Q v u → RR C Z A G ml (pc + 3) lv (.long v :: st) u (k + mc) (n + ms)) : RR C Z A G ml pc lv st0 ph k n := by
  subst hs0
  exact r_callSX hC hAo hcal hml hn hct hR hk hst d kx (fun r u ⟨v, e, h⟩ => by subst e; exact kk v u h)
theorem r_table (hC : CxOk own cc ml G A R C) {dflt lo hi : Int} {offs : Array Int} {len : Nat} {x : Int32} (d : decode cc pc = .ok (.tableswitch dflt lo hi offs, len)) (hsz : (hi - lo).toNat < offs.size)
    (kin : ∀ (j : Nat) (off : Int), offs[j]? = some off → x.toInt = lo + (j : Int) → ∃ tgt : Nat, (pc : Int) + off = (tgt : Int) ∧ RR C Z A G ml tgt lv st ph k n)
    (kout : (x.toInt < lo ∨ hi < x.toInt) → ∃ tgt : Nat, (pc : Int) + dflt = (tgt : Int) ∧ RR C Z A G ml tgt lv st ph k n) : RR C Z A G ml pc lv (.int x :: st) ph k n := by
  intro H locs ls a b c z
  by_cases h1 : x.toInt < lo
  · obtain ⟨tgt, e, h⟩ := kout (Or.inl h1)
    exact lv_tableOut hC.1 hC.2.1 d (Or.inl h1) e (h H locs ls a b c z)
  by_cases h2 : hi < x.toInt
  · obtain ⟨tgt, e, h⟩ := kout (Or.inr h2)
    exact lv_tableOut hC.1 hC.2.1 d (Or.inr h2) e (h H locs ls a b c z)
  obtain ⟨hib, hie⟩ := idx_in hsz h1 h2
  obtain ⟨tgt, e, h⟩ := kin (x.toInt - lo).toNat (offs[(x.toInt - lo).toNat]'hib) (Array.getElem?_eq_getElem hib) hie
  exact lv_tableIn hC.1 hC.2.1 d h1 h2 (Array.getElem?_eq_getElem hib) e (h H locs ls a b c z)
theorem i32_of {x c : Int32} {z : Int} (h : x.toInt = z) (e : z = c.toInt) : x = c := Int32.toInt_inj.mp (h.trans e)
theorem r_catch (hC : CxOk own cc ml G A R C) {hh : List (Nat × Nat × Nat × Nat)} (hT : (xc C).exceptionTable.toList = tableOf hh) (hAo : Ao (xs C)) {j h : Nat} {E : String} {earl : List Nat} (hf : fnd pc j earl (tableOf hh) = some h) (hj : j ≠ 0) (hE : Cond.classLink own j E ∈ TBg) (hcast : Cond.castable E E ∈ TBg) (hearl : ∀ i ∈ earl, i ≠ 0 ∧ ∃ nm : String, Cond.classLink own i nm ∈ TBg ∧ (E, nm) ∈ NCL)
    (kk : ∀ q : Nat, RR C Z A G ml h lv [va_rf (some q)] ph k n) : RX C Z A G ml pc lv st ph E k n := by
  intro H locs ls q ce a b c z hce hv hcl
  have hts := ts_in (args := xa C) hC.2.2.2.2.1
  obtain ⟨pre, x, suf, e1, e2, e3, e4, e5⟩ := fnd_spec hf
  refine vx_catch (name := E) hC.2.2.2.1 pre x suf (hT.trans e1) (fun z hz => (e5 z hz).imp id (fun h9 => ?_)) e2 (by rw [e3]; exact hj) (by rw [e3]; exact hts _ hE) (hts _ hcast) hce hv hcl ?_
  · obtain ⟨i1, nm, i2, i3⟩ := hearl _ h9
    exact ⟨i1, nm, hts _ i2, hAo.2 _ i3⟩
  · rw [e4]
    exact kk q H locs ls a b c z
end LAWROWS
def xcall (Q : Int64 → PH → Prop) (E : String) (u : PH) : Prop := (E = "java/lang/IndexOutOfBoundsException" ∧ Q (-1001000) u) ∨ (E = "java/lang/IllegalArgumentException" ∧ Q (-1002000) u) ∨ (E = "java/lang/IllegalStateException" ∧ Q (-1003000) u) ∨ (E = "java/lang/UnsupportedOperationException" ∧ Q (-1004000) u) ∨ (E = "java/util/NoSuchElementException" ∧ Q (-1005000) u)
