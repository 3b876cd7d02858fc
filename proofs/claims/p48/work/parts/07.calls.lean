/-! making things -/
section NEWS
variable {C : Cx} {Z : State → Prop} {A : Nat → Prop} {G : GG} {ml pc : Nat} {lv : List (Nat × Value)} {st : List Value} {ph ph' : PH} {k n : Nat} {own : String} {cc : ByteArray} {R : Room}
theorem r_new (hC : CxOk own cc ml G A R C) {ci N ix : Nat} {Cn : String} {T : u_T} {ty : Nat → FieldType} {fs : List Value} (g : Nat) (hg : g < 1000) (hc : vwCl[ci]? = some (Cn, T, N)) (hin : ∀ w ∈ u_ws Cn T N, w ∈ TBg) (hty : ∀ k, k < N → parseFieldDescriptor (T k).2.2.1 = some (ty k)) (w1 : Cond.classLink own ix Cn ∈ TBg) (w2 : Cond.instantiable Cn N ∈ TBg) (w3 : Cond.initialized Cn ∈ TBg) (hl : fs.length = N) (hfs : ∀ j, j < N → defaultValue (ty j) = vp_V fs j) (hk : k + 1 ≤ R.cells) (hn : n + N ≤ R.slots) (d : decode cc pc = .ok (.new ix, 3))
    (h : ∀ a : Nat, ph a = none → RR C Z A G ml (pc + 3) lv (va_rf (some a) :: st) (hset ph a (g, .inl (ci, fs))) (k + 1) (n + N)) : RR C Z A G ml pc lv st ph k n := by
  intro H locs ls a b c z
  have hts := ts_in (args := xa C) hC.2.2.2.2.1
  have hKn := hC.2.2.2.2.2.1 ci _ hc
  have hR := hC.2.2.2.2.2.2.2.2.2.2.2
  refine W.newcK hC.1 hC.2.1 hC.2.2.2.1 (hts _ w1) (hts _ w2) (hts _ w3) rfl d (by rw [hR]; exact hk) (by rw [hR]; exact hn) hKn.2.1 rfl fun H1 kC hkC e1 z1 o1 => ?_
  exact h H.size a.fresh H1 _ ls (a.push (Or.inr ⟨hg, _, hc, hl, (u_born ty hts hin hKn hkC e1 hty).to hfs⟩) o1) (b.set (fun _ => hC.2.2.2.2.2.2.2.2.2.2.1 _ c.1)) ⟨Nat.le_trans c.1 (by omega), fun x h1 h2 => (o1 x (Nat.lt_of_lt_of_le h1 c.1)).trans (c.2.1 x h1 h2), c.2.2⟩ z
theorem r_newa (hC : CxOk own cc ml G A R C) {atype : ArrayType} {ty : FieldType} {x : Int32} {N : Nat} {y} (g : Nat) (hg : g < 1000) (hty : newarray.typeOf atype = ty) (hra : ∀ c, ty ≠ .object c) (hy : ∀ cA : ClassId, vp_cell cA (N, y) = arrV cA N (fun _ => defaultValue ty)) (w1 : Cond.arrayClass ty ∈ TBg) (hx : ¬ x < 0) (hN : x.toNatClampNeg = N) (hb : N * componentBytes ty ≤ 536870912) (hk : k + 1 ≤ R.cells) (hn : n + N ≤ R.slots) (d : decode cc pc = .ok (.newarray atype, 2))
    (h : ∀ a : Nat, ph a = none → RR C Z A G ml (pc + 2) lv (va_rf (some a) :: st) (hset ph a (g, .inr (ty, N, y))) (k + 1) (n + N)) : RR C Z A G ml pc lv (.int x :: st) ph k n := by
  intro H locs ls a b c z
  subst hty
  have hts := ts_in (args := xa C) hC.2.2.2.2.1
  have hR := hC.2.2.2.2.2.2.2.2.2.2.2
  refine va_newaK hC.1 hC.2.1 (hts _ w1) rfl d rfl hx hN hb (by rw [hR]; exact hk) (by rw [hR]; exact hn) rfl fun H1 cA e1 z1 o1 hAr hNm => ?_
  refine h H.size a.fresh H1 _ ls (a.push (Or.inr ⟨hg, cA, by rw [hy]; exact e1, hAr, ?_⟩) o1) (b.set (fun _ => hC.2.2.2.2.2.2.2.2.2.2.1 _ c.1)) ⟨Nat.le_trans c.1 (by omega), fun x h1 h2 => (o1 x (Nat.lt_of_lt_of_le h1 c.1)).trans (c.2.1 x h1 h2), c.2.2⟩ z
  cases atype <;> exact hNm
theorem r_anew (hC : CxOk own cc ml G A R C) {cn : String} {ix : Nat} {x : Int32} {N : Nat} (g : Nat) (hg : g < 1000) (w1 : Cond.classLink own ix cn ∈ TBg) (w2 : va_AO cn (xs C)) (hx : ¬ x < 0) (hN : x.toNatClampNeg = N) (hb : N * 4 ≤ 536870912) (hk : k + 1 ≤ R.cells) (hn : n + N ≤ R.slots) (d : decode cc pc = .ok (.anewarray ix, 3))
    (h : ∀ a : Nat, ph a = none → RR C Z A G ml (pc + 3) lv (va_rf (some a) :: st) (hset ph a (g, .inr (.object cn, N, .inr (.inr (.inr (.inr (fun _ => none))))))) (k + 1) (n + N)) : RR C Z A G ml pc lv (.int x :: st) ph k n := by
  intro H locs ls a b c z
  subst hN
  have hts := ts_in (args := xa C) hC.2.2.2.2.1
  have hR := hC.2.2.2.2.2.2.2.2.2.2.2
  refine W.anew hC.1 hC.2.1 hC.2.2.2.1 (hts _ w1) (va_AO.use w2) rfl d rfl hx hb (by rw [hR]; exact hk) (by rw [hR]; exact hn) fun cA kA comp f1 f2 f3 f4 => ?_
  generalize hH1 : H.push ({ cls := cA, slots := Array.replicate x.toNatClampNeg .null, vm := .none } : Cell) = H1
  have z1 : H1.size = H.size + 1 := by rw [← hH1, Array.size_push]
  have e1 : H1[H.size]? = some (arrV cA x.toNatClampNeg (fun _ => .null)) := by rw [← hH1, Array.getElem?_push_size, ← arrV_new]
  have o1 : ∀ q : Nat, q < H.size → H1[q]? = H[q]? := fun q hq => by rw [← hH1, Array.getElem?_push, if_neg (Nat.ne_of_lt hq)]
  exact h H.size a.fresh H1 _ ls (a.push (Or.inr ⟨hg, cA, by rw [vp_cell_q]; exact e1, fun N z => ⟨(fun k h => by cases h), kA, f2, comp, f3⟩, kA, comp, f2, f3, f4, f1⟩) o1) (b.set (fun _ => hC.2.2.2.2.2.2.2.2.2.2.1 _ c.1)) ⟨Nat.le_trans c.1 (by omega), fun x h1 h2 => (o1 x (Nat.lt_of_lt_of_le h1 c.1)).trans (c.2.1 x h1 h2), c.2.2⟩ z
end NEWS
/-! contracts: a method's start, its end, its throw; over the whole map -/
def Af (ph : PH) (sz : Nat) : Nat → Prop := fun q => (∃ e : Ent, ph q = some e ∧ e.1 < 1000) ∨ sz ≤ q
def NCL : List (String × String) := [("java/lang/IllegalArgumentException", "java/lang/IndexOutOfBoundsException"), ("java/lang/IllegalStateException", "java/lang/IndexOutOfBoundsException"), ("java/lang/IllegalStateException", "java/lang/IllegalArgumentException"), ("java/lang/UnsupportedOperationException", "java/lang/IndexOutOfBoundsException"), ("java/lang/UnsupportedOperationException", "java/lang/IllegalArgumentException"), ("java/lang/UnsupportedOperationException", "java/lang/IllegalStateException"), ("java/util/NoSuchElementException", "java/lang/IndexOutOfBoundsException"), ("java/util/NoSuchElementException", "java/lang/IllegalArgumentException"), ("java/util/NoSuchElementException", "java/lang/IllegalStateException"), ("java/util/NoSuchElementException", "java/lang/UnsupportedOperationException")]
def Ao (U : State) : Prop := (∀ c ∈ AOL, va_AO c U) ∧ ∀ q ∈ NCL, va_Nc q.1 q.2 U
theorem Ao.moved {u U : State} (hvm : u.vm.Alike U.vm) (h : Ao u) : Ao U := ⟨fun c hc => (h.1 c hc).moved hvm, fun q hq => (h.2 q hq).moved hvm⟩
def PcG (G : GG) (args : List Value) (ph : PH) (sz : Nat) : Array Value → State → Prop := fun a U => a = args.toArray ∧ U.heap.size = sz ∧ hs G.1 U ph U.heap ∧ Tab U ∧ Kn G.1 U ∧ Ss G.2 U ∧ St (Af ph sz) U U.heap ∧ Ao U
def QcG (G : GG) (A : Nat → Prop) (Q : Option Value → PH → Prop) : Array Value → State → Outcome → State → Prop := fun _ s oc t => (∃ (r : Option Value) (u : PH), oc = .returned r ∧ Q r u ∧ hs G.1 t u t.heap ∧ dm A u) ∧ va_F A s t
def XcG (G : GG) (A : Nat → Prop) (X : String → PH → Prop) : String → State → State → Prop := fun E s t => (∃ u : PH, X E u ∧ hs G.1 t u t.heap ∧ dm A u) ∧ va_F A s t
def rmk (f l k n : Nat) : Room := { frames := f, cells := k, slots := n, locals := l }
/-- the contract of y -/
def Ct (G : GG) (y : MethodName) (w : Cond) (f l k n : Nat) (args : List Value) (ph : PH) (Q : Option Value → PH → Prop) (X : String → PH → Prop) : Prop :=
  ∀ (L : Launch), L.stackTraces = false → ∀ sz : Nat, vx_Met L y [w] (rmk f l k n) (PcG G args ph sz) (QcG G (Af ph sz) Q) (XcG G (Af ph sz) X) k n (Af ph sz)
def oI (Q : Int32 → PH → Prop) : Option Value → PH → Prop := fun r u => ∃ v : Int32, r = some (.int v) ∧ Q v u
def oJ (Q : Int64 → PH → Prop) : Option Value → PH → Prop := fun r u => ∃ v : Int64, r = some (.long v) ∧ Q v u
def oR (Q : Option Nat → PH → Prop) : Option Value → PH → Prop := fun r u => ∃ v : Option Nat, r = some (va_rf v) ∧ Q v u
def oV (Q : PH → Prop) : Option Value → PH → Prop := fun r u => r = none ∧ Q u
theorem PcG.blind {G : GG} {args : List Value} {ph : PH} {sz : Nat} : FrameBlind (PcG G args ph sz) := by
  intro a U g mk h
  obtain ⟨h1, h2, h3, h4, h5, h6, h7, h8⟩ := h
  exact ⟨h1, h2, h3.moved (U := U.calling g mk a) (Vm.Alike.refl U.vm), Tab.same (U := U) (V := U.calling g mk a) rfl h4, h5.moved (U := U.calling g mk a) (Vm.Alike.refl U.vm), Ss.same (U := U) (V := U.calling g mk a) rfl h6, St.moved (U := U.calling g mk a) (Vm.Alike.refl U.vm) h7, h8.moved (U := U.calling g mk a) (Vm.Alike.refl U.vm)⟩
section CALLS
variable {C : Cx} {Z : State → Prop} {A : Nat → Prop} {G : GG} {ml pc : Nat} {lv : List (Nat × Value)} {st : List Value} {ph ph' : PH} {k n : Nat} {own : String} {cc : ByteArray} {R : Room}
theorem call_pre (hC : CxOk own cc ml G A R C) (hAo : Ao (xs C)) {H : Heap} {locs : List Loc} {args : List Value} (a : hs G.1 (xs C) ph H) (b : dm A ph) (c : va_S A (xs C).heap H locs) : FrameBlind (PcG G args ph H.size) ∧ ∀ U : State, U.heap = H → (xs C).WarmedH U.vm → PcG G args ph H.size args.toArray U := by
  refine ⟨PcG.blind, fun U hU hW => ⟨rfl, by rw [hU], by rw [hU]; exact a.moved hW.alike, hC.2.2.2.2.1.warm hW, hC.2.2.2.2.2.1.moved hW.alike, hC.2.2.2.2.2.2.1.warm hW, ?_, hAo.moved hW.alike⟩⟩
  rw [hU]
  refine St.moved hW.alike ((hC.2.2.2.2.2.2.2.1.kept c.2.1).narrow fun q hq => ?_)
  rcases hq with ⟨e, h1, h2⟩ | h1
  · exact b q e h1 h2
  · exact hC.2.2.2.2.2.2.2.2.2.2.1 q (Nat.le_trans c.1 h1)
/-- behind a call -/
theorem call_out (hC : CxOk own cc ml G A R C) {H : Heap} {locs : List Loc} {ls : Array Slot} {mc ms : Nat} {st0 rest : List Value} {aa : Array Value} {Q : Option Value → PH → Prop} {X : String → PH → Prop} (b : dm A ph) (c : va_S A (xs C).heap H locs) (z : lv_has ls ml lv)
    (hr : vx_Run (xp C) (xl C) (xe C) (xR C) (xs C) (xm C) (xa C) (xb C) (xt C) (xc C) H locs k n mc ms (F0 (xm C) pc ls st0) rest (QcG G (Af ph H.size) Q aa) (XcG G (Af ph H.size) X) (Af ph H.size))
    (kx : ∀ (E : String) (u : PH), X E u → RX C Z A G ml pc lv rest u E (k + mc) (n + ms)) (kk : ∀ (r : Option Value) (u : PH), Q r u → RR C Z A G ml (pc + 3) lv (r.toList ++ rest) u (k + mc) (n + ms)) : WW C H locs k n Z (F0 (xm C) pc ls st0) := by
  have hAA : ∀ q, Af ph H.size q → A q := by
    intro q hq
    rcases hq with ⟨e, h1, h2⟩ | h1
    · exact b q e h1 h2
    · exact hC.2.2.2.2.2.2.2.2.2.2.1 q (Nat.le_trans c.1 h1)
  intro T hT Y
  rcases hr T hT Y with ⟨v, st₀, t, T', L, h0, Y', hL, e1, e2, ⟨⟨r, u, hv, hp, hb, hd⟩, hF⟩, sp⟩ | ⟨q, st₀, t, T', L, E, ce, h0, Y', hL, e1, e2, ⟨⟨u, hp, hb, hd⟩, hF⟩, hce, hcv, hcl, sp⟩
  · cases hv
    obtain ⟨k1, k2, k3⟩ := vx_keep h0 e1 c (fun q _ h => hAA q h) hAA hL hF
    have hal : (xs C).vm.Alike t.vm := by rw [← e2]; exact Y'.warmed.alike
    obtain ⟨t2, a1, b1⟩ := kk _ u hp T'.heap (locs ++ L) ls (by rw [e1]; exact hb.moved hal.symm) (fun a e h1 h2 => hAA a (hd a e h1 h2)) k3 z T' rfl Y'
    exact ⟨t2, sp t2 a1, b1⟩
  · obtain ⟨k1, k2, k3⟩ := vx_keep h0 e1 c (fun q _ h => hAA q h) hAA hL hF
    have hal : (xs C).vm.Alike t.vm := by rw [← e2]; exact Y'.warmed.alike
    obtain ⟨t2, a1, b1⟩ := kx E u hp T'.heap (locs ++ L) ls q ce (by rw [e1]; exact hb.moved hal.symm) (fun a e h1 h2 => hAA a (hd a e h1 h2)) k3 z (by rw [e1]; exact hce) hcv hcl T' rfl Y'
    exact ⟨t2, sp.trans a1, b1⟩
/-- what the tables say of a callee -/
def CalV (rc : String) (y : MethodName) (w : Cond) (bytes : ByteArray) (maxL : Nat) (ret : Option FieldType) (na : Nat) : Prop := w = .code y bytes maxL ret ∧ w ∈ TBg ∧ Cond.initialized y.cls ∈ TBg ∧ Cond.instanceMethod y ∈ TBg ∧ Cond.selects rc y y ∈ TBg ∧ y.cls ≠ "java/lang/invoke/MethodHandle" ∧ y.cls ≠ "java/lang/invoke/VarHandle" ∧ (parseMethodDescriptor y.desc).map (fun d => d.parameters.length) = some na
def CalI (y : MethodName) (w : Cond) (bytes : ByteArray) (maxL : Nat) (na : Nat) : Prop := w = .code y bytes maxL none ∧ w ∈ TBg ∧ Cond.initialized y.cls ∈ TBg ∧ Cond.instanceMethod y ∈ TBg ∧ y.name = "<init>" ∧ y.cls ≠ "java/lang/invoke/MethodHandle" ∧ y.cls ≠ "java/lang/invoke/VarHandle" ∧ (parseMethodDescriptor y.desc).map (fun d => d.parameters.length) = some na
def CalS (y : MethodName) (w : Cond) (bytes : ByteArray) (maxL : Nat) (ret : Option FieldType) (na : Nat) : Prop := w = .code y bytes maxL ret ∧ w ∈ TBg ∧ Cond.initialized y.cls ∈ TBg ∧ Cond.static y ∈ TBg ∧ y.cls ≠ "java/lang/invoke/MethodHandle" ∧ y.cls ≠ "java/lang/invoke/VarHandle" ∧ (parseMethodDescriptor y.desc).map (fun d => d.parameters.length) = some na
theorem cal_n {y : MethodName} {na : Nat} (h : (parseMethodDescriptor y.desc).map (fun d => d.parameters.length) = some na) : ∀ sig, parseMethodDescriptor y.desc = some sig → na = sig.parameters.length := by
  intro sig h2
  rw [h2] at h
  exact (Option.some.inj h).symm
theorem cal_fix (hC : CxOk own cc ml G A R C) : CallFix (xp C) (xm C) (xc C) cc ml (xs C) (xa C) TBg own := ⟨hC.1, hC.2.1, hC.2.2.1, hC.2.2.2.1, ts_in hC.2.2.2.2.1⟩
theorem cal_w (hC : CxOk own cc ml G A R C) {w : Cond} (hw : w ∈ TBg) : ∀ w' ∈ [w], ∀ (a' : Array Value) (U : State), (xs C).WarmedH U.vm → w'.before a' U = true := by
  intro w' h a' U hW
  rw [List.mem_singleton.mp h]
  exact hC.2.2.2.2.1.warm hW w hw a'
theorem r_callV (hC : CxOk own cc ml G A R C) (hAo : Ao (xs C)) {y : MethodName} {w : Cond} {bytes : ByteArray} {maxL na ix f l mc ms ci a0 : Nat} {ret : Option FieldType} {args : List Value} {o : Option Nat} {Q : Option Value → PH → Prop} {X : String → PH → Prop} {q : vw_C} {rc : String} (hcal : CalV rc y w bytes maxL ret na) (hml : ML own ix y) (hc : vwCl[ci]? = some q) (hq : q.1 = rc) (hn : args.length = na)
    (hct : Ct G y w f l mc ms (.ref a0 :: args) ph Q X) (ho : isO ph o ci a0) (hR : f + 1 ≤ R.frames ∧ 8 + (maxL + 11) + l ≤ R.locals) (hk : k + mc ≤ R.cells ∧ n + ms ≤ R.slots) (hst : (st.map fun v => v.category).sum ≤ 8) (d : decode cc pc = .ok (.invokevirtual ix, 3))
    (kx : ∀ (E : String) (u : PH), X E u → RX C Z A G ml pc lv st u E (k + mc) (n + ms)) (kk : ∀ (r : Option Value) (u : PH), Q r u → RR C Z A G ml (pc + 3) lv (r.toList ++ st) u (k + mc) (n + ms)) : RR C Z A G ml pc lv (args.reverse ++ va_rf o :: st) ph k n := by
  intro H locs ls a b c z
  obtain ⟨hw, w1, w2, w3, w4, n1, n2, n3⟩ := hcal
  subst hw
  obtain ⟨rfl, g, fs, he⟩ := ho
  have hts := ts_in (args := xa C) hC.2.2.2.2.1
  have hRR := hC.2.2.2.2.2.2.2.2.2.2.2
  obtain ⟨q', cell, hq', g1, g2, g3, g4, -⟩ := a.obj he
  cases hq'.symm.trans hc
  have hfc : (xs C).vm.findClass rc = some cell.cls := by rw [← hq, g2]; exact (hC.2.2.2.2.2.1 ci q hc).2.1
  have hp := call_pre hC hAo (args := .ref a0 :: args) a b c
  have hM := hct (xl C) hC.2.2.2.2.2.2.2.2.1 H.size
  rcases hml with hml | ⟨host, hml⟩
  · exact call_out hC b c z (vx_runV (C := rc) (b := a0) (As := args) (rest := st) (g := F0 (xm C) pc ls (args.reverse ++ .ref a0 :: st)) (cal_fix hC) hM ⟨⟨rfl, rfl, by rw [hRR]; exact hR.1, by rw [hRR]; exact hR.2, cal_w hC w1, List.mem_singleton.mpr rfl, hts _ w1, hts _ w2, ⟨n1, n2⟩, cal_n n3, hts _ hml⟩, hts _ w3, hts _ w4⟩ ⟨hp.1, ⟨cell, g1, g4, hfc⟩, hp.2⟩ rfl hn z.1 rfl (lv_room hst) d (by rw [hRR]; exact hk)) kx kk
  · exact call_out hC b c z (vx_runVN (C := rc) (host := host) (b := a0) (As := args) (rest := st) (g := F0 (xm C) pc ls (args.reverse ++ .ref a0 :: st)) (cal_fix hC) hM ⟨⟨⟨rfl, rfl, by rw [hRR]; exact hR.1, by rw [hRR]; exact hR.2, cal_w hC w1, List.mem_singleton.mpr rfl⟩, hts _ w1, hts _ w2, ⟨n1, n2⟩, cal_n n3, hts _ hml⟩, hts _ w3, hts _ w4⟩ ⟨hp.1, ⟨cell, g1, g4, hfc⟩, hp.2⟩ rfl hn z.1 rfl (lv_room hst) d (by rw [hRR]; exact hk)) kx kk
theorem r_callS (hC : CxOk own cc ml G A R C) (hAo : Ao (xs C)) {y : MethodName} {w : Cond} {bytes : ByteArray} {maxL na ix f l mc ms : Nat} {ret : Option FieldType} {args : List Value} {Q : Option Value → PH → Prop} {X : String → PH → Prop} (hcal : CalS y w bytes maxL ret na) (hml : ML own ix y) (hn : args.length = na)
    (hct : Ct G y w f l mc ms args ph Q X) (hR : f + 1 ≤ R.frames ∧ 8 + (maxL + 11) + l ≤ R.locals) (hk : k + mc ≤ R.cells ∧ n + ms ≤ R.slots) (hst : (st.map fun v => v.category).sum ≤ 8) (d : decode cc pc = .ok (.invokestatic ix, 3))
    (kx : ∀ (E : String) (u : PH), X E u → RX C Z A G ml pc lv st u E (k + mc) (n + ms)) (kk : ∀ (r : Option Value) (u : PH), Q r u → RR C Z A G ml (pc + 3) lv (r.toList ++ st) u (k + mc) (n + ms)) : RR C Z A G ml pc lv (args.reverse ++ st) ph k n := by
  intro H locs ls a b c z
  obtain ⟨hw, w1, w2, w3, n1, n2, n3⟩ := hcal
  subst hw
  have hts := ts_in (args := xa C) hC.2.2.2.2.1
  have hRR := hC.2.2.2.2.2.2.2.2.2.2.2
  have hp := call_pre hC hAo (args := args) a b c
  have hM := hct (xl C) hC.2.2.2.2.2.2.2.2.1 H.size
  rcases hml with hml | ⟨host, hml⟩
  · exact call_out hC b c z (vx_runS (As := args) (rest := st) (g := F0 (xm C) pc ls (args.reverse ++ st)) (cal_fix hC) hM ⟨⟨rfl, rfl, by rw [hRR]; exact hR.1, by rw [hRR]; exact hR.2, cal_w hC w1, List.mem_singleton.mpr rfl, hts _ w1, hts _ w2, ⟨n1, n2⟩, cal_n n3, hts _ hml⟩, hts _ w3⟩ hp rfl hn z.1 rfl (lv_room hst) d (by rw [hRR]; exact hk)) kx kk
  · exact call_out hC b c z (vx_runSN (host := host) (As := args) (rest := st) (g := F0 (xm C) pc ls (args.reverse ++ st)) (cal_fix hC) hM ⟨⟨⟨rfl, rfl, by rw [hRR]; exact hR.1, by rw [hRR]; exact hR.2, cal_w hC w1, List.mem_singleton.mpr rfl⟩, hts _ w1, hts _ w2, ⟨n1, n2⟩, cal_n n3, hts _ hml⟩, hts _ w3, trivial⟩ hp rfl hn z.1 rfl (lv_room hst) d (by rw [hRR]; exact hk)) kx kk
theorem r_callI (hC : CxOk own cc ml G A R C) (hAo : Ao (xs C)) {y : MethodName} {w : Cond} {bytes : ByteArray} {maxL na ix f l mc ms a0 : Nat} {args : List Value} {Q : Option Value → PH → Prop} {X : String → PH → Prop} {o : Option Nat} (hcal : CalI y w bytes maxL na) (hml : ML own ix y) (hn : args.length = na) (ho : o = some a0)
    (hct : Ct G y w f l mc ms (.ref a0 :: args) ph Q X) (hR : f + 1 ≤ R.frames ∧ 8 + (maxL + 11) + l ≤ R.locals) (hk : k + mc ≤ R.cells ∧ n + ms ≤ R.slots) (hst : (st.map fun v => v.category).sum ≤ 8) (d : decode cc pc = .ok (.invokespecial ix, 3))
    (kx : ∀ (E : String) (u : PH), X E u → RX C Z A G ml pc lv st u E (k + mc) (n + ms)) (kk : ∀ (r : Option Value) (u : PH), Q r u → RR C Z A G ml (pc + 3) lv (r.toList ++ st) u (k + mc) (n + ms)) : RR C Z A G ml pc lv (args.reverse ++ va_rf o :: st) ph k n := by
  intro H locs ls a b c z
  obtain ⟨hw, w1, w2, w3, n0, n1, n2, n3⟩ := hcal
  subst hw
  subst ho
  have hts := ts_in (args := xa C) hC.2.2.2.2.1
  have hRR := hC.2.2.2.2.2.2.2.2.2.2.2
  have hp := call_pre hC hAo (args := .ref a0 :: args) a b c
  have hM := hct (xl C) hC.2.2.2.2.2.2.2.2.1 H.size
  rcases hml with hml | ⟨host, hml⟩
  · exact call_out hC b c z (vx_runI (b := a0) (As := args) (rest := st) (g := F0 (xm C) pc ls (args.reverse ++ .ref a0 :: st)) (cal_fix hC) hM ⟨⟨rfl, rfl, by rw [hRR]; exact hR.1, by rw [hRR]; exact hR.2, cal_w hC w1, List.mem_singleton.mpr rfl, hts _ w1, hts _ w2, ⟨n1, n2⟩, cal_n n3, hts _ hml⟩, n0, hts _ w3⟩ hp rfl hn z.1 rfl (lv_room hst) d (by rw [hRR]; exact hk)) kx kk
  · exact call_out hC b c z (vx_runIN (host := host) (b := a0) (As := args) (rest := st) (g := F0 (xm C) pc ls (args.reverse ++ .ref a0 :: st)) (cal_fix hC) hM ⟨⟨⟨rfl, rfl, by rw [hRR]; exact hR.1, by rw [hRR]; exact hR.2, cal_w hC w1, List.mem_singleton.mpr rfl⟩, hts _ w1, hts _ w2, ⟨n1, n2⟩, cal_n n3, hts _ hml⟩, n0, hts _ w3⟩ hp rfl hn z.1 rfl (lv_room hst) d (by rw [hRR]; exact hk)) kx kk
/-- what the tables say of a method met by an overriding one (x named, y met on an rc); of a method of the class above called by super -/
def CalU (rc : String) (x y : MethodName) (w : Cond) (bytes : ByteArray) (maxL : Nat) (ret : Option FieldType) (na : Nat) : Prop := w = .code y bytes maxL ret ∧ w ∈ TBg ∧ Cond.initialized y.cls ∈ TBg ∧ Cond.sameMethod x.cls x.cls x.name x.desc ∈ TBg ∧ Cond.selects rc x y ∈ TBg ∧ Cond.instanceMethod y ∈ TBg ∧ Cond.instanceMethod x ∈ TBg ∧ (∃ (b0 : ByteArray) (m0 : Nat) (r0 : Option FieldType), Cond.code x b0 m0 r0 ∈ TBg) ∧ x.cls ≠ "java/lang/invoke/MethodHandle" ∧ x.cls ≠ "java/lang/invoke/VarHandle" ∧ (parseMethodDescriptor x.desc).map (fun d => d.parameters.length) = some na
def CalSU (own : String) (y : MethodName) (w : Cond) (bytes : ByteArray) (maxL : Nat) (ret : Option FieldType) (na : Nat) : Prop := w = .code y bytes maxL ret ∧ w ∈ TBg ∧ Cond.initialized y.cls ∈ TBg ∧ Cond.instanceMethod y ∈ TBg ∧ Cond.sameMethod y.cls y.cls y.name y.desc ∈ TBg ∧ Cond.superclass own y.cls ∈ TBg ∧ y.name ≠ "<init>" ∧ (parseMethodDescriptor y.desc).map (fun d => d.parameters.length) = some na
theorem r_callU (hC : CxOk own cc ml G A R C) (hAo : Ao (xs C)) {x y : MethodName} {w : Cond} {bytes : ByteArray} {maxL na ix f l mc ms ci a0 : Nat} {ret : Option FieldType} {args : List Value} {o : Option Nat} {Q : Option Value → PH → Prop} {X : String → PH → Prop} {q : vw_C} {rc : String} (hcal : CalU rc x y w bytes maxL ret na) (hml : Cond.methodLink own ix x ∈ TBg) (hc : vwCl[ci]? = some q) (hq : q.1 = rc) (hn : args.length = na)
    (hct : Ct G y w f l mc ms (.ref a0 :: args) ph Q X) (ho : isO ph o ci a0) (hR : f + 1 ≤ R.frames ∧ 8 + (maxL + 11) + l ≤ R.locals) (hk : k + mc ≤ R.cells ∧ n + ms ≤ R.slots) (hst : (st.map fun v => v.category).sum ≤ 8) (d : decode cc pc = .ok (.invokevirtual ix, 3))
    (kx : ∀ (E : String) (u : PH), X E u → RX C Z A G ml pc lv st u E (k + mc) (n + ms)) (kk : ∀ (r : Option Value) (u : PH), Q r u → RR C Z A G ml (pc + 3) lv (r.toList ++ st) u (k + mc) (n + ms)) : RR C Z A G ml pc lv (args.reverse ++ va_rf o :: st) ph k n := by
  intro H locs ls a b c z
  obtain ⟨hw, w1, w2, w3, w4, w5, w6, ⟨b0, m0, r0, w7⟩, n1, n2, n3⟩ := hcal
  subst hw
  obtain ⟨rfl, g, fs, he⟩ := ho
  have hts := ts_in (args := xa C) hC.2.2.2.2.1
  have hRR := hC.2.2.2.2.2.2.2.2.2.2.2
  obtain ⟨q', cell, hq', g1, g2, g3, g4, -⟩ := a.obj he
  cases hq'.symm.trans hc
  have hfc : (xs C).vm.findClass rc = some cell.cls := by rw [← hq, g2]; exact (hC.2.2.2.2.2.1 ci q hc).2.1
  have hp := call_pre hC hAo (args := .ref a0 :: args) a b c
  have hM := hct (xl C) hC.2.2.2.2.2.2.2.2.1 H.size
  exact call_out hC b c z (vx_runU (C := rc) (owner := x.cls) (b := a0) (As := args) (rest := st) (g := F0 (xm C) pc ls (args.reverse ++ .ref a0 :: st)) (cal_fix hC) hM ⟨⟨rfl, rfl, by rw [hRR]; exact hR.1, by rw [hRR]; exact hR.2, cal_w hC w1, List.mem_singleton.mpr rfl⟩, hts _ w1, hts _ w2, ⟨n1, n2⟩, cal_n n3, hts _ hml, hts _ w3, va_Decl.of (hts _ w6) (hts _ w7), hts _ w4, hts _ w5⟩ ⟨hp.1, ⟨cell, g1, g4, hfc⟩, hp.2⟩ rfl hn z.1 rfl (lv_room hst) d (by rw [hRR]; exact hk)) kx kk
theorem r_callSU (hC : CxOk own cc ml G A R C) (hAo : Ao (xs C)) {y : MethodName} {w : Cond} {bytes : ByteArray} {maxL na ix f l mc ms ci a0 : Nat} {ret : Option FieldType} {args : List Value} {o : Option Nat} {Q : Option Value → PH → Prop} {X : String → PH → Prop} {q : vw_C} (hcal : CalSU own y w bytes maxL ret na) (hml : Cond.methodLink own ix y ∈ TBg) (hc : vwCl[ci]? = some q) (hn : args.length = na)
    (hct : Ct G y w f l mc ms (.ref a0 :: args) ph Q X) (ho : isO ph o ci a0) (hR : f + 1 ≤ R.frames ∧ 8 + (maxL + 11) + l ≤ R.locals) (hk : k + mc ≤ R.cells ∧ n + ms ≤ R.slots) (hst : (st.map fun v => v.category).sum ≤ 8) (d : decode cc pc = .ok (.invokespecial ix, 3))
    (kx : ∀ (E : String) (u : PH), X E u → RX C Z A G ml pc lv st u E (k + mc) (n + ms)) (kk : ∀ (r : Option Value) (u : PH), Q r u → RR C Z A G ml (pc + 3) lv (r.toList ++ st) u (k + mc) (n + ms)) : RR C Z A G ml pc lv (args.reverse ++ va_rf o :: st) ph k n := by
  intro H locs ls a b c z
  obtain ⟨hw, w1, w2, w3, w4, w5, n1, n3⟩ := hcal
  subst hw
  obtain ⟨rfl, g, fs, he⟩ := ho
  have hts := ts_in (args := xa C) hC.2.2.2.2.1
  have hRR := hC.2.2.2.2.2.2.2.2.2.2.2
  obtain ⟨q', cell, hq', g1, g2, g3, g4, -⟩ := a.obj he
  cases hq'.symm.trans hc
  have hat := (hC.2.2.2.2.2.1 ci q hc).2
  have hp := call_pre hC hAo (args := .ref a0 :: args) a b c
  have hM := hct (xl C) hC.2.2.2.2.2.2.2.2.1 H.size
  exact call_out hC b c z (vx_runSU (C := q.1) (b := a0) (As := args) (rest := st) (g := F0 (xm C) pc ls (args.reverse ++ .ref a0 :: st)) hat (cal_fix hC) hM ⟨⟨rfl, rfl, by rw [hRR]; exact hR.1, by rw [hRR]; exact hR.2, cal_w hC w1, List.mem_singleton.mpr rfl⟩, hts _ hml, hts _ w4, hts _ w5, hts _ w3, hts _ w2, hts _ w1, n1, cal_n n3⟩ ⟨hp.1, ⟨cell, g1, g4, by rw [g2]; exact hat.1⟩, hp.2⟩ rfl hn z.1 rfl (lv_room hst) d (by rw [hRR]; exact hk)) kx kk
end CALLS
