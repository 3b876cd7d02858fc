/-! THE WORLD AS A MAP: addresses to entries; an entry has a tag (the place that made it; from 1000 on: never written) and what it holds -/
abbrev Ent : Type := Nat × ((Nat × List Value) ⊕ (FieldType × vp_A))
abbrev PH : Type := Nat → Option Ent
def hset (ph : PH) (a : Nat) (e : Ent) : PH := fun q => if q = a then some e else ph q
theorem hset_same {ph : PH} {a : Nat} {e : Ent} : hset ph a e a = some e := if_pos rfl
theorem hset_ne {ph : PH} {a q : Nat} {e : Ent} (h : q ≠ a) : hset ph a e q = ph q := if_neg h
def hval (x : (Nat → Int32) ⊕ (Nat → Int64) ⊕ (Nat → UInt32) ⊕ (Nat → UInt64) ⊕ (Nat → Option Nat)) (j : Nat) : Value := match x with
  | .inl f => .int (f j)
  | .inr (.inl f) => .long (f j)
  | .inr (.inr (.inl f)) => .float (f j)
  | .inr (.inr (.inr (.inl f))) => .double (f j)
  | .inr (.inr (.inr (.inr f))) => va_rf (f j)
/-- a thing that is never written: an object (the listed fields), an array -/
def hRO (D : va_G) (U : State) (H : Heap) (a : Nat) (x : (Nat × List Value) ⊕ (FieldType × vp_A)) : Prop := match x with
  | .inl o => ∃ (r : vw_C) (cell : Cell), vwCl[o.1]? = some r ∧ H[a]? = some cell ∧ cell.cls = D.1 o.1 ∧ cell.vm ≠ .unknown ∧ cell.vm.isStatics = false ∧ ∀ (k : Nat) (v : Value), k < r.2.2 → o.2[k]? = some v → cell.slots[D.2 o.1 k]? = some v
  | .inr y => ∃ cell : Cell, H[a]? = some cell ∧ U.isArrayOf cell y.1 ∧ cell.vm ≠ .unknown ∧ y.2.1 ≤ cell.slots.size ∧ cell.slots.size.toInt32 = Int32.ofNat y.2.1 ∧ ∀ j : Nat, j < y.2.1 → cell.slots[j]? = some (hval y.2.2 j)
def hRW (D : va_G) (U : State) (H : Heap) (a : Nat) (x : (Nat × List Value) ⊕ (FieldType × vp_A)) : Prop := match x with
  | .inl o => ∃ r : vw_C, vwCl[o.1]? = some r ∧ o.2.length = r.2.2 ∧ t_OB a (D.1 o.1) r.2.2 (D.2 o.1) H (vp_V o.2)
  | .inr y => ∃ cA : ClassId, H[a]? = some (vp_cell cA y.2) ∧ ArrOfT U cA y.1 ∧ va_RA U cA y.1
def hE (D : va_G) (U : State) (H : Heap) (a : Nat) (e : Ent) : Prop := (1000 ≤ e.1 ∧ hRO D U H a e.2) ∨ (e.1 < 1000 ∧ hRW D U H a e.2)
def hs (D : va_G) (U : State) (ph : PH) (H : Heap) : Prop := ∀ (a : Nat) (e : Ent), ph a = some e → hE D U H a e
def dm (A : Nat → Prop) (ph : PH) : Prop := ∀ (a : Nat) (e : Ent), ph a = some e → e.1 < 1000 → A a
theorem hRO.kept {D : va_G} {U : State} {H H1 : Heap} {a : Nat} {x} (h : hRO D U H a x) (hq : H1[a]? = H[a]?) : hRO D U H1 a x := by
  cases x with
  | inl o => obtain ⟨r, cell, h1, h2, h3⟩ := h; exact ⟨r, cell, h1, hq.trans h2, h3⟩
  | inr y => obtain ⟨cell, h1, h3⟩ := h; exact ⟨cell, hq.trans h1, h3⟩
theorem hRW.kept {D : va_G} {U : State} {H H1 : Heap} {a : Nat} {x} (h : hRW D U H a x) (hq : H1[a]? = H[a]?) : hRW D U H1 a x := by
  cases x with
  | inl o => obtain ⟨r, h1, h2, h3⟩ := h; exact ⟨r, h1, h2, h3.kept hq⟩
  | inr y => obtain ⟨cA, h1, h3⟩ := h; exact ⟨cA, hq.trans h1, h3⟩
theorem hE.kept {D : va_G} {U : State} {H H1 : Heap} {a : Nat} {e : Ent} (h : hE D U H a e) (hq : H1[a]? = H[a]?) : hE D U H1 a e := h.elim (fun z => Or.inl ⟨z.1, z.2.kept hq⟩) (fun z => Or.inr ⟨z.1, z.2.kept hq⟩)
theorem hRO.moved {D : va_G} {u U : State} {H : Heap} {a : Nat} {x} (hvm : u.vm.Alike U.vm) (h : hRO D u H a x) : hRO D U H a x := by
  cases x with
  | inl o => exact h
  | inr y => obtain ⟨cell, h1, h2, h3⟩ := h; exact ⟨cell, h1, State.isArrayOf_alike hvm h2, h3⟩
theorem hRW.moved {D : va_G} {u U : State} {H : Heap} {a : Nat} {x} (hvm : u.vm.Alike U.vm) (h : hRW D u H a x) : hRW D U H a x := by
  cases x with
  | inl o => exact h
  | inr y => obtain ⟨cA, h1, h2, h3⟩ := h; exact ⟨cA, h1, arrOfT_moved hvm h2, h3.moved hvm⟩
theorem hE.moved {D : va_G} {u U : State} {H : Heap} {a : Nat} {e : Ent} (hvm : u.vm.Alike U.vm) (h : hE D u H a e) : hE D U H a e := h.elim (fun z => Or.inl ⟨z.1, z.2.moved hvm⟩) (fun z => Or.inr ⟨z.1, z.2.moved hvm⟩)
theorem hs.moved {D : va_G} {u U : State} {ph : PH} {H : Heap} (hvm : u.vm.Alike U.vm) (h : hs D u ph H) : hs D U ph H := fun a e he => (h a e he).moved hvm
theorem hE.lt {D : va_G} {U : State} {H : Heap} {a : Nat} {e : Ent} (h : hE D U H a e) : a < H.size := by
  obtain ⟨g, x⟩ := e
  rcases h with ⟨-, h⟩ | ⟨-, h⟩ <;> cases x with
  | inl o => first
    | (obtain ⟨r, cell, h1, h2, -⟩ := h; exact (Array.getElem?_eq_some_iff.mp h2).1)
    | (obtain ⟨r, h1, -, cell, h2, -⟩ := h; exact (Array.getElem?_eq_some_iff.mp h2).1)
  | inr y => first
    | (obtain ⟨cell, h2, -⟩ := h; exact (Array.getElem?_eq_some_iff.mp h2).1)
theorem hs.set {D : va_G} {U : State} {ph : PH} {H H1 : Heap} {a : Nat} {e : Ent} (h : hs D U ph H) (h1 : hE D U H1 a e) (oq : ∀ q : Nat, q ≠ a → H1[q]? = H[q]?) : hs D U (hset ph a e) H1 := by
  intro q x hx
  by_cases hq : q = a
  · subst hq
    rw [hset_same] at hx
    cases hx
    exact h1
  · rw [hset_ne hq] at hx
    exact (h q x hx).kept (oq q hq)
theorem hs.push {D : va_G} {U : State} {ph : PH} {H H1 : Heap} {e : Ent} (h : hs D U ph H) (h1 : hE D U H1 H.size e) (oq : ∀ q : Nat, q < H.size → H1[q]? = H[q]?) : hs D U (hset ph H.size e) H1 := by
  intro q x hx
  by_cases hq : q = H.size
  · subst hq
    rw [hset_same] at hx
    cases hx
    exact h1
  · rw [hset_ne hq] at hx
    exact (h q x hx).kept (oq q (h q x hx).lt)
theorem hs.fresh {D : va_G} {U : State} {ph : PH} {H : Heap} (h : hs D U ph H) : ph H.size = none := by
  cases hx : ph H.size with
  | none => rfl
  | some e => exact absurd (h _ _ hx).lt (Nat.lt_irrefl _)
theorem dm.set {A : Nat → Prop} {ph : PH} {a : Nat} {e : Ent} (h : dm A ph) (ha : e.1 < 1000 → A a) : dm A (hset ph a e) := by
  intro q x hx hl
  by_cases hq : q = a
  · subst hq
    rw [hset_same] at hx
    cases hx
    exact ha hl
  · rw [hset_ne hq] at hx
    exact h q x hx hl
/-- the receiver's cell -/
theorem hs.obj {D : va_G} {U : State} {ph : PH} {H : Heap} (h : hs D U ph H) {a g ci : Nat} {fs : List Value} (he : ph a = some (g, .inl (ci, fs))) : ∃ (r : vw_C) (cell : Cell), vwCl[ci]? = some r ∧ H[a]? = some cell ∧ cell.cls = D.1 ci ∧ cell.vm ≠ .unknown ∧ cell.vm.isStatics = false ∧ ∀ (k : Nat) (v : Value), k < r.2.2 → fs[k]? = some v → cell.slots[D.2 ci k]? = some v := by
  rcases h a _ he with ⟨-, r, cell, h1, h2, h3⟩ | ⟨-, r, h1, h2, cell, q1, q2, q3, q4⟩
  · exact ⟨r, cell, h1, h2, h3⟩
  · refine ⟨r, cell, h1, q1, q2, by rw [q3]; exact (fun z => by cases z), by rw [q3]; rfl, fun k v hk hv => ?_⟩
    rw [q4 k hk]
    have hv' : fs[k]? = some v := hv
    simp [vp_V, hv']
theorem hs.arr {D : va_G} {U : State} {ph : PH} {H : Heap} (h : hs D U ph H) {a g n : Nat} {ty : FieldType} {x} (he : ph a = some (g, .inr (ty, n, x))) : ∃ cell : Cell, H[a]? = some cell ∧ U.isArrayOf cell ty ∧ cell.vm ≠ .unknown ∧ n ≤ cell.slots.size ∧ cell.slots.size.toInt32 = Int32.ofNat n ∧ ∀ j : Nat, j < n → cell.slots[j]? = some (hval x j) := by
  rcases h a _ he with ⟨-, h1⟩ | ⟨-, cA, h1, h2, -⟩
  · exact h1
  · have h3 : ∃ f : Nat → Value, vp_cell cA (n, x) = arrV cA n f ∧ ∀ j, f j = hval x j := by
      rcases x with x | x | x | x | x <;> exact ⟨_, rfl, fun j => rfl⟩
    obtain ⟨f, h4, h5⟩ := h3
    have h1' : H[a]? = some (arrV cA n f) := by rw [← h4]; exact h1
    refine ⟨arrV cA n f, h1', h2 n f, (fun z => by cases z), by rw [arrV_size]; exact Nat.le_refl _, by rw [arrV_size] <;> rfl, fun j hj => ?_⟩
    rw [arrV_read _ _ hj, h5 j]
/-! THE TABLES' WORDS -/
def wmw (w : Cond) : Bool := goodWord w || (match w with | .castable _ _ => true | .fieldLinkNest .. => true | .methodLinkNest .. => true | .declares _ => true | _ => false)
/-- private methods of AbstractStringBuilder, met on a StringBuilder: what selects them follows of their rows -/
def sbPriv : List MethodName := [⟨"java/lang/AbstractStringBuilder", "ensureCapacityInternal", "(I)V"⟩, ⟨"java/lang/AbstractStringBuilder", "newCapacity", "(I)I"⟩, ⟨"java/lang/AbstractStringBuilder", "putStringAt", "(ILjava/lang/String;)V"⟩, ⟨"java/lang/AbstractStringBuilder", "inflateIfNeededFor", "(Ljava/lang/String;)V"⟩]
def TBx : List Cond := lw_tbl ++ sbPriv.map (fun y => Cond.selects "java/lang/StringBuilder" y y)
theorem sel_priv {C : String} {y : MethodName} {s : State} {args : Array Value} {n : Nat} (hy : y.cls ≠ "java/lang/invoke/MethodHandle" ∧ y.cls ≠ "java/lang/invoke/VarHandle")
    {y0 : MethodName} {C0 : String} (h0 : (Cond.selects C0 y0 y0).before args s = true) (hy0 : y0.cls = y.cls) (hins : (Cond.instantiable C n).before args s = true) (hpriv : (Cond.privateMethod y).before args s = true) (hinst : (Cond.instanceMethod y).before args s = true) (hini : (Cond.initialized y.cls).before args s = true) :
    (Cond.selects C y y).before args s = true := by
  obtain ⟨c, k, hc, hk, -, hniab, -, -⟩ := Cond.instantiable_spec hins
  have hni : k.isInterface = false := (Bool.or_eq_false_iff.mp hniab).1
  obtain ⟨mk, methM, hnamed, hmethM, -, -⟩ := Cond.instanceMethod_spec hinst
  have hfound : s.methodFound? y.cls y.name y.desc = some mk := State.methodFound?_of_named hnamed hy
  have hsel : selectMethod {} s.vm c mk = .method mk := selectMethod_private hmethM (Cond.privateMethod_at hpriv mk methM hnamed hmethM)
  obtain ⟨kP, hkP, -⟩ := className_of_methodNamed hnamed
  have hfP := findClass_of_methodNamed hnamed
  have hinitP : kP.init = .initialized := Cond.initialized_spec hfP hkP hini
  obtain ⟨c2, r2, m2, q1, q2, q3, q4, kQ, hkQ, hkQi⟩ := Cond.selects_spec h0
  have hfQ := findClass_of_methodNamed q3
  rw [hy0] at hfQ
  have hcc : m2.cls = mk.cls := Option.some.inj (hfQ.symm.trans hfP)
  rw [hcc] at hkQ
  have hkPi : kP.isInterface = false := by rw [← Option.some.inj (hkQ.symm.trans hkP)]; exact hkQi
  simp only [Cond.before, Cond.holds, Cond.value, hc, hfound, hnamed, hsel, hk, hkP]
  simp [hni, hinitP, hkPi]
def TBg : List Cond := TBx.filter wmw
theorem wmw_at {w : Cond} {s U : State} {a a' : Array Value} (hm : wmw w = true) (hW : s.WarmedH U.vm) (h : w.before a s = true) : w.before a' U = true := by
  unfold wmw at hm
  rw [Bool.or_eq_true] at hm
  rcases hm with hg | hg
  · exact word_at hW (good_of_word hg) h
  · cases w <;> first
      | exact va_Nw.use rfl (va_Nw.warmC hW (va_Nw.of rfl h))
      | exact va_Nw.use rfl (va_Nw.warmF hW (va_Nw.of rfl h))
      | exact va_Nw.use rfl (va_Nw.warmM hW (va_Nw.of rfl h))
      | exact va_tabs rfl (rfl : (s.setVm U.vm).vm = U.vm) (by rw [Cond.declares_setVm hW.alike]; exact h)
      | cases hg
def Tab (U : State) : Prop := ∀ w ∈ TBg, ∀ a : Array Value, w.before a U = true
theorem tbg {i : Nat} {w : Cond} (h : TBx[i]? = some w) (hw : wmw w = true) : w ∈ TBg := List.mem_filter.mpr ⟨List.mem_of_getElem? h, hw⟩
theorem Tab.warm {s U : State} (hW : s.WarmedH U.vm) (h : Tab s) : Tab U := fun w hw _ => wmw_at (List.mem_filter.mp hw).2 hW (h w hw #[])
theorem Tab.same {U V : State} (hv : V.vm = U.vm) (h : Tab U) : Tab V := h.warm (by rw [hv]; exact State.WarmedH.refl U)
theorem Tab.of {s : State} {a : Array Value} (h : ∀ w ∈ lw_tbl, w.before a s = true) : Tab s := by
  intro w hw _
  obtain ⟨h1, h2⟩ := List.mem_filter.mp hw
  refine wmw_at h2 (State.WarmedH.refl s) (a := a) ?_
  rcases List.mem_append.mp h1 with h3 | h3
  · exact h w h3
  · obtain ⟨y, hy, rfl⟩ := List.mem_map.mp h3
    have key : ∀ y ∈ sbPriv, (y.cls ≠ "java/lang/invoke/MethodHandle" ∧ y.cls ≠ "java/lang/invoke/VarHandle") ∧ (Cond.selects "java/lang/StringBuilder" ⟨"java/lang/AbstractStringBuilder", "isLatin1", "()Z"⟩ ⟨"java/lang/AbstractStringBuilder", "isLatin1", "()Z"⟩ ∈ lw_tbl ∧ "java/lang/AbstractStringBuilder" = y.cls) ∧ Cond.instantiable "java/lang/StringBuilder" 4 ∈ lw_tbl ∧ Cond.privateMethod y ∈ lw_tbl ∧ Cond.instanceMethod y ∈ lw_tbl ∧ Cond.initialized y.cls ∈ lw_tbl := by decide +kernel
    obtain ⟨k1, ⟨k0, k6⟩, k2, k3, k4, k5⟩ := key y hy
    exact sel_priv k1 (h _ k0) k6 (h _ k2) (h _ k3) (h _ k4) (h _ k5)
def Kn (D : va_G) (U : State) : Prop := ∀ (ci : Nat) (q : vw_C), vwCl[ci]? = some q → u_Kn U q.1 q.2.1 q.2.2 (D.1 ci) (D.2 ci)
theorem Kn.moved {D : va_G} {u U : State} (hvm : u.vm.Alike U.vm) (h : Kn D u) : Kn D U := fun c q hq => u_Kn_moved hvm (h c q hq)
/-- statics: what a throw reads, what String reads -/
def St (A : Nat → Prop) (U : State) (H : Heap) : Prop := vx_Zq Bundle.tN "UNASSIGNED_STACK" Bundle.steD A U H ∧ vx_Zq Bundle.tN "SUPPRESSED_SENTINEL" Bundle.listD A U H ∧ va_Z "java/lang/String" "COMPACT_STRINGS" "Z" (.int 1) A U H ∧ va_Zq "jdk/internal/util/Preconditions" "SIOOBE_FORMATTER" "Ljava/util/function/BiFunction;" A U H
theorem St.moved {A : Nat → Prop} {u U : State} {H : Heap} (hvm : u.vm.Alike U.vm) (h : St A u H) : St A U H := ⟨vx_Zq.moved hvm h.1, vx_Zq.moved hvm h.2.1, va_Z.moved hvm h.2.2.1, va_Zq.moved hvm h.2.2.2⟩
theorem St.kept {A : Nat → Prop} {U : State} {H H1 : Heap} (h : St A U H) (hq : ∀ a : Nat, a < H.size → ¬ A a → H1[a]? = H[a]?) : St A U H1 := ⟨h.1.kept hq, h.2.1.kept hq, h.2.2.1.kept hq, h.2.2.2.kept hq⟩
theorem St.narrow {A B : Nat → Prop} {U : State} {H : Heap} (h : St A U H) (hAB : ∀ q, B q → A q) : St B U H := ⟨h.1.narrow hAB, h.2.1.narrow hAB, h.2.2.1.narrow hAB, h.2.2.2.narrow hAB⟩
