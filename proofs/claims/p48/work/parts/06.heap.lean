/-! what an instruction asks of the map -/
def gV (ph : PH) (r : Option Nat) (ci k : Nat) (v : Value) : Prop := ∃ (a g : Nat) (fs : List Value), r = some a ∧ ph a = some (g, .inl (ci, fs)) ∧ fs[k]? = some v
abbrev gI (ph : PH) (r : Option Nat) (ci k : Nat) (v : Int32) : Prop := gV ph r ci k (.int v)
abbrev gR (ph : PH) (r : Option Nat) (ci k : Nat) (v : Option Nat) : Prop := gV ph r ci k (va_rf v)
def pV (ph : PH) (r : Option Nat) (ci k : Nat) (v : Value) (ph' : PH) : Prop := ∃ (a g : Nat) (fs : List Value), r = some a ∧ ph a = some (g, .inl (ci, fs)) ∧ g < 1000 ∧ k < fs.length ∧ ph' = hset ph a (g, .inl (ci, fs.set k v))
def aI (ph : PH) (ty : FieldType) (r : Option Nat) (i v : Int32) : Prop := ∃ (a g n : Nat) (f : Nat → Int32), r = some a ∧ ph a = some (g, .inr (ty, n, .inl f)) ∧ vp_in i n ∧ v = f i.toNatClampNeg
def aJ (ph : PH) (r : Option Nat) (i : Int32) (v : Int64) : Prop := ∃ (a g n : Nat) (f : Nat → Int64), r = some a ∧ ph a = some (g, .inr (.long, n, .inr (.inl f))) ∧ vp_in i n ∧ v = f i.toNatClampNeg
def aQ (ph : PH) (r : Option Nat) (i : Int32) (v : Option Nat) : Prop := ∃ (a g n : Nat) (c : String) (f : Nat → Option Nat), r = some a ∧ ph a = some (g, .inr (.object c, n, .inr (.inr (.inr (.inr f))))) ∧ vp_in i n ∧ v = f i.toNatClampNeg
def sI (ph : PH) (ty : FieldType) (r : Option Nat) (i x : Int32) (ph' : PH) : Prop := ∃ (a g n : Nat) (f : Nat → Int32), r = some a ∧ ph a = some (g, .inr (ty, n, .inl f)) ∧ g < 1000 ∧ vp_in i n ∧ ph' = hset ph a (g, .inr (ty, n, .inl (upd f i.toNatClampNeg x)))
def sJ (ph : PH) (r : Option Nat) (i : Int32) (x : Int64) (ph' : PH) : Prop := ∃ (a g n : Nat) (f : Nat → Int64), r = some a ∧ ph a = some (g, .inr (.long, n, .inr (.inl f))) ∧ g < 1000 ∧ vp_in i n ∧ ph' = hset ph a (g, .inr (.long, n, .inr (.inl (vp_updL f i.toNatClampNeg x))))
/-- an object of class ci goes into a row of references to it -/
def sQ (ph : PH) (ci : Nat) (r : Option Nat) (i : Int32) (x : Option Nat) (ph' : PH) : Prop := ∃ (a g n b gb : Nat) (fs : List Value) (c : vw_C) (f : Nat → Option Nat), r = some a ∧ x = some b ∧ vwCl[ci]? = some c ∧ ph b = some (gb, .inl (ci, fs)) ∧ ph a = some (g, .inr (.object c.1, n, .inr (.inr (.inr (.inr f))))) ∧ g < 1000 ∧ vp_in i n ∧ ph' = hset ph a (g, .inr (.object c.1, n, .inr (.inr (.inr (.inr (va_up f i.toNatClampNeg (some b)))))))
def aL (ph : PH) (r : Option Nat) (v : Int32) : Prop := ∃ (a g n : Nat) (ty : FieldType) (x : (Nat → Int32) ⊕ (Nat → Int64) ⊕ (Nat → UInt32) ⊕ (Nat → UInt64) ⊕ (Nat → Option Nat)), r = some a ∧ ph a = some (g, .inr (ty, n, x)) ∧ v = Int32.ofNat n
def isO (ph : PH) (r : Option Nat) (ci a : Nat) : Prop := r = some a ∧ ∃ (g : Nat) (fs : List Value), ph a = some (g, .inl (ci, fs))
def FL (own : String) (ix : Nat) (ref nm ds : String) : Prop := Cond.fieldLink own ix ref nm ds ∈ TBg ∨ ∃ host : String, Cond.fieldLinkNest own ix ref nm ds host ∈ TBg
def ML (own : String) (ix : Nat) (y : MethodName) : Prop := Cond.methodLink own ix y ∈ TBg ∨ ∃ host : String, Cond.methodLinkNest own ix y host ∈ TBg
section HEAP
variable {C : Cx} {Z : State → Prop} {A : Nat → Prop} {G : GG} {ml pc : Nat} {lv : List (Nat × Value)} {st : List Value} {ph ph' : PH} {k n : Nat} {own : String} {cc : ByteArray} {R : Room}
theorem ts_in {s : State} {args : Array Value} (h : Tab s) : ∀ w ∈ TBg, w.before args s = true := fun w hw => h w hw _
theorem r_get (hC : CxOk own cc ml G A R C) {ci kf N ix : Nat} {Cn ref : String} {T : u_T} {r : Option Nat} {v : Value} (hc : vwCl[ci]? = some (Cn, T, N)) (hk : kf < N) (hin : ∀ w ∈ u_ws Cn T N, w ∈ TBg) (hw : FL own ix ref (T kf).2.1 (T kf).2.2.1) (hr : (T kf).1 = ref) (d : decode cc pc = .ok (.getfield ix, 3)) (hg : gV ph r ci kf v) (h : RR C Z A G ml (pc + 3) lv (v :: st) ph k n) : RR C Z A G ml pc lv (va_rf r :: st) ph k n := by
  intro H locs ls a b c z
  obtain ⟨a0, g0, fs, rfl, e0, e1⟩ := hg
  obtain ⟨q, cell, h1, h2, h3, h4, h5, h6⟩ := a.obj e0
  cases h1.symm.trans hc
  obtain ⟨hS, hfc, kC, hkC, hkind⟩ := hC.2.2.2.2.2.1 ci _ hc
  obtain ⟨cf, kf', fi, f, hi, hsl⟩ := hS kf hk
  have hts := ts_in (args := xa C) hC.2.2.2.2.1
  have hst := (u_facts hfc hkC (u_lays hts hin hk) hi).1
  have hv : cell.slots[f.slot]? = some v := by rw [hsl]; exact h6 kf v hk e1
  subst hr
  rcases hw with hw | ⟨host, hw⟩
  · exact W.getf hC.1 hC.2.1 hC.2.2.2.1 (hts _ hw) hi hst h2 h4 hv rfl rfl d (h H locs ls a b c z)
  · exact va_Wgetf hC.1 hC.2.1 hC.2.2.2.1 (hts _ hw) hi hst h2 h4 hv rfl rfl d (h H locs ls a b c z)
theorem hRW_obj {D : va_G} {U : State} {H : Heap} {a g ci : Nat} {fs : List Value} (h : hE D U H a (g, .inl (ci, fs))) (hg : g < 1000) : ∃ r : vw_C, vwCl[ci]? = some r ∧ fs.length = r.2.2 ∧ t_OB a (D.1 ci) r.2.2 (D.2 ci) H (vp_V fs) := by
  rcases h with ⟨h1, -⟩ | ⟨-, h1⟩
  · exact absurd hg (Nat.not_lt.mpr h1)
  · exact h1
theorem hRW_arr {D : va_G} {U : State} {H : Heap} {a g : Nat} {ty : FieldType} {x : vp_A} (h : hE D U H a (g, .inr (ty, x))) (hg : g < 1000) : ∃ cA : ClassId, H[a]? = some (vp_cell cA x) ∧ ArrOfT U cA ty ∧ va_RA U cA ty := by
  rcases h with ⟨h1, -⟩ | ⟨-, h1⟩
  · exact absurd hg (Nat.not_lt.mpr h1)
  · exact h1
theorem k_apart {s : State} {D : va_G} {ci N : Nat} {Cn : String} {T : u_T} (hT : Tab s) (hK : Kn D s) (hc : vwCl[ci]? = some (Cn, T, N)) (hin : ∀ w ∈ u_ws Cn T N, w ∈ TBg) (ty : Nat → FieldType) (hty : ∀ k, k < N → parseFieldDescriptor (T k).2.2.1 = some (ty k)) (hnm : ∀ a, a < N → ∀ b, b < N → a ≠ b → (T a).2.1 ≠ (T b).2.1) : ∀ x y, x < N → y < N → x ≠ y → (D.2 ci) x ≠ (D.2 ci) y := by
  intro x y hx hy hne
  have hts := ts_in (args := #[]) hT
  obtain ⟨hS, -⟩ := hK ci _ hc
  obtain ⟨_, _, _, fa, hia, ea⟩ := hS x hx
  obtain ⟨_, _, _, fb, hib, eb⟩ := hS y hy
  rw [← ea, ← eb]
  refine u_apart (u_lays hts hin hx) (u_lays hts hin hy) hia hib ?_
  rw [(State.fieldFound?_type hia (hty x hx)).1, (State.fieldFound?_type hib (hty y hy)).1]
  exact hnm x hx y hy hne
theorem r_put (hC : CxOk own cc ml G A R C) {ci kf N ix : Nat} {Cn ref : String} {T : u_T} {r : Option Nat} {v : Value} {ty0 : Nat → FieldType} {ty : FieldType} (hc : vwCl[ci]? = some (Cn, T, N)) (hk : kf < N) (hin : ∀ w ∈ u_ws Cn T N, w ∈ TBg) (hty : ∀ k, k < N → parseFieldDescriptor (T k).2.2.1 = some (ty0 k)) (hnm : ∀ a, a < N → ∀ b, b < N → a ≠ b → (T a).2.1 ≠ (T b).2.1) (hw : FL own ix ref (T kf).2.1 (T kf).2.2.1) (hr : (T kf).1 = ref) (hfin : (T kf).2.2.2 = false) (hd : parseFieldDescriptor (T kf).2.2.1 = some ty) (hn : narrow ty v = v) (hfit : fits ty v = true) (d : decode cc pc = .ok (.putfield ix, 3)) (hg : pV ph r ci kf v ph') (h : RR C Z A G ml (pc + 3) lv st ph' k n) : RR C Z A G ml pc lv (v :: va_rf r :: st) ph k n := by
  intro H locs ls a b c z
  obtain ⟨a0, g0, fs, rfl, e0, e1, e2, rfl⟩ := hg
  have hap := k_apart hC.2.2.2.2.1 hC.2.2.2.2.2.1 hc hin ty0 hty hnm
  obtain ⟨q, h1, h2, cell, q1, q2, q3, q4⟩ := hRW_obj (a _ _ e0) e1
  cases h1.symm.trans hc
  obtain ⟨hS, hfc, kC, hkC, hkind⟩ := hC.2.2.2.2.2.1 ci _ hc
  obtain ⟨cf, kf', fi, f, hi, hsl⟩ := hS kf hk
  have hts := ts_in (args := xa C) hC.2.2.2.2.1
  have hlay := hts _ (hin _ (u_in_lay hk))
  unfold u_lay at hlay
  rw [if_neg (by rw [hfin]; decide)] at hlay
  have hst := (u_facts hfc hkC (u_lays hts hin hk) hi).1
  have h6 := u_store hfc hkC hkind hlay hi hd hn hfit
  subst hr
  have fin : ∀ H' : Heap, H'[a0]? = some (cell.setSlot f.slot v) → H'.size = H.size → (∀ q, q ≠ a0 → H'[q]? = H[q]?) → WW C H' (locs ++ [⟨a0, f.slot⟩]) k n Z (F0 (xm C) (pc + 3) ls st) := by
    intro H' e1' e2' e3
    rw [hsl] at e1' ⊢
    refine h H' _ ls (a.set (Or.inr ⟨e1, _, hc, by rw [List.length_set]; exact h2, t_OB.to (V := updV (vp_V fs) kf v) ⟨_, e1', q2, q3, t_set q4 hap hk v⟩ (fun j _ => vp_updV_set e2 v j)⟩) e3) (b.set (fun _ => b _ _ e0 e1)) (c.put e2' e3 (b _ _ e0 e1)) z
  rcases hw with hw | ⟨host, hw⟩
  · exact W.putK hC.1 hC.2.1 (f := f) ⟨hC.2.2.2.1, hts _ hw, ⟨_, _, _, hi⟩, hst⟩ (by rw [q2]; exact h6) q1 q3 (by rw [hsl]; exact k2_hasslot (q4 kf hk)) rfl rfl d fin
  · exact va_WputK hC.1 hC.2.1 (f := f) hC.2.2.2.1 (hts _ hw) hi hst (by rw [q2]; exact h6) q1 q3 (by rw [hsl]; exact k2_hasslot (q4 kf hk)) rfl rfl d fin
theorem r_putF (hC : CxOk own cc ml G A R C) (hin2 : (xt C).name = "<init>") {ci kf N ix : Nat} {Cn ref : String} {T : u_T} {r : Option Nat} {v : Value} {ty0 : Nat → FieldType} {ty : FieldType} (hc : vwCl[ci]? = some (Cn, T, N)) (hk : kf < N) (hin : ∀ w ∈ u_ws Cn T N, w ∈ TBg) (hty : ∀ k, k < N → parseFieldDescriptor (T k).2.2.1 = some (ty0 k)) (hnm : ∀ a, a < N → ∀ b, b < N → a ≠ b → (T a).2.1 ≠ (T b).2.1) (hw : Cond.fieldLink own ix ref (T kf).2.1 (T kf).2.2.1 ∈ TBg) (hr : (T kf).1 = ref) (hro : ref = own) (hfin : (T kf).2.2.2 = true) (hd : parseFieldDescriptor (T kf).2.2.1 = some ty) (hn : narrow ty v = v) (hfit : fits ty v = true) (d : decode cc pc = .ok (.putfield ix, 3)) (hg : pV ph r ci kf v ph') (h : RR C Z A G ml (pc + 3) lv st ph' k n) : RR C Z A G ml pc lv (v :: va_rf r :: st) ph k n := by
  intro H locs ls a b c z
  obtain ⟨a0, g0, fs, rfl, e0, e1, e2, rfl⟩ := hg
  have hap := k_apart hC.2.2.2.2.1 hC.2.2.2.2.2.1 hc hin ty0 hty hnm
  obtain ⟨q, h1, h2, cell, q1, q2, q3, q4⟩ := hRW_obj (a _ _ e0) e1
  cases h1.symm.trans hc
  obtain ⟨hS, hfc, kC, hkC, hkind⟩ := hC.2.2.2.2.2.1 ci _ hc
  obtain ⟨cf, kf', fi, f, hi, hsl⟩ := hS kf hk
  have hts := ts_in (args := xa C) hC.2.2.2.2.1
  have hlay := hts _ (hin _ (u_in_lay hk))
  unfold u_lay at hlay
  rw [if_pos hfin] at hlay
  have hst := (u_facts hfc hkC (u_lays hts hin hk) hi).1
  have hcf : (xm C).cls = cf := by
    obtain ⟨_, _, c', _, _, _, -, -, hf', -, -, -, hown2, -⟩ := Cond.laysFinal_spec hlay
    have e1 : c' = cf := by have := hi.symm.trans hf'; simp at this; exact this.1.symm
    rw [hr, hro] at hown2
    rw [← e1]; exact Option.some.inj (hC.2.2.2.1.symm.trans hown2)
  have h6 := u_fits hfc hkC hkind (Or.inr hlay) hi hd hn hfit
  subst hr
  refine W.putFinK hC.1 hC.2.1 hC.2.2.2.1 (hts _ hw) hi hst hcf hin2 (by rw [q2]; exact h6) q1 q3 (by rw [hsl]; exact k2_hasslot (q4 kf hk)) rfl rfl d fun H' e1' e2' e3 => ?_
  rw [hsl] at e1' ⊢
  exact h H' _ ls (a.set (Or.inr ⟨e1, _, hc, by rw [List.length_set]; exact h2, t_OB.to (V := updV (vp_V fs) kf v) ⟨_, e1', q2, q3, t_set q4 hap hk v⟩ (fun j _ => vp_updV_set e2 v j)⟩) e3) (b.set (fun _ => b _ _ e0 e1)) (c.put e2' e3 (b _ _ e0 e1)) z
theorem vin_of {i : Int32} {n : Nat} {cell : Cell} (h : vp_in i n) (hs : n ≤ cell.slots.size) : ¬ (i < 0 ∨ cell.slots.size ≤ i.toNatClampNeg) := fun q => h (q.elim Or.inl (fun q => Or.inr (Nat.le_trans hs q)))
theorem vin_lt {i : Int32} {n : Nat} (h : vp_in i n) : i.toNatClampNeg < n := Nat.not_le.mp fun q => h (Or.inr q)
theorem r_iald (hC : CxOk own cc ml G A R C) {r : Option Nat} {i v : Int32} (d : decode cc pc = .ok (.iaload, 1)) (hg : aI ph .int r i v) (h : RR C Z A G ml (pc + 1) lv (.int v :: st) ph k n) : RR C Z A G ml pc lv (.int i :: va_rf r :: st) ph k n := by
  intro H locs ls a b c z
  obtain ⟨a0, g0, N, f, rfl, e0, e1, rfl⟩ := hg
  obtain ⟨cell, h1, h2, h3, h4, h5, h6⟩ := a.arr e0
  exact W.iald hC.1 hC.2.1 h1 h2 h3 (vin_of e1 h4) (h6 _ (vin_lt e1)) rfl rfl d (h H locs ls a b c z)
theorem r_cald (hC : CxOk own cc ml G A R C) {r : Option Nat} {i v : Int32} (d : decode cc pc = .ok (.caload, 1)) (hg : aI ph .char r i v) (h : RR C Z A G ml (pc + 1) lv (.int v :: st) ph k n) : RR C Z A G ml pc lv (.int i :: va_rf r :: st) ph k n := by
  intro H locs ls a b c z
  obtain ⟨a0, g0, N, f, rfl, e0, e1, rfl⟩ := hg
  obtain ⟨cell, h1, h2, h3, h4, h5, h6⟩ := a.arr e0
  exact W.cald hC.1 hC.2.1 h1 h2 h3 (vin_of e1 h4) (h6 _ (vin_lt e1)) rfl rfl d (h H locs ls a b c z)
theorem r_bald (hC : CxOk own cc ml G A R C) {r : Option Nat} {i v : Int32} (d : decode cc pc = .ok (.baload, 1)) (hg : aI ph .byte r i v) (h : RR C Z A G ml (pc + 1) lv (.int v :: st) ph k n) : RR C Z A G ml pc lv (.int i :: va_rf r :: st) ph k n := by
  intro H locs ls a b c z
  obtain ⟨a0, g0, N, f, rfl, e0, e1, rfl⟩ := hg
  obtain ⟨cell, h1, h2, h3, h4, h5, h6⟩ := a.arr e0
  exact W.bald hC.1 hC.2.1 h1 h2 h3 (vin_of e1 h4) (h6 _ (vin_lt e1)) rfl rfl d (h H locs ls a b c z)
theorem r_lald (hC : CxOk own cc ml G A R C) {r : Option Nat} {i : Int32} {v : Int64} (d : decode cc pc = .ok (.laload, 1)) (hg : aJ ph r i v) (h : RR C Z A G ml (pc + 1) lv (.long v :: st) ph k n) : RR C Z A G ml pc lv (.int i :: va_rf r :: st) ph k n := by
  intro H locs ls a b c z
  obtain ⟨a0, g0, N, f, rfl, e0, e1, rfl⟩ := hg
  obtain ⟨cell, h1, h2, h3, h4, h5, h6⟩ := a.arr e0
  exact W.lald hC.1 hC.2.1 h1 h2 h3 (vin_of e1 h4) (h6 _ (vin_lt e1)) rfl rfl d (h H locs ls a b c z)
theorem r_aald (hC : CxOk own cc ml G A R C) {r : Option Nat} {i : Int32} {v : Option Nat} (d : decode cc pc = .ok (.aaload, 1)) (hg : aQ ph r i v) (h : RR C Z A G ml (pc + 1) lv (va_rf v :: st) ph k n) : RR C Z A G ml pc lv (.int i :: va_rf r :: st) ph k n := by
  intro H locs ls a b c z
  obtain ⟨a0, g0, N, c0, f, rfl, e0, e1, rfl⟩ := hg
  obtain ⟨cell, h1, h2, h3, h4, h5, h6⟩ := a.arr e0
  exact W.aald hC.1 hC.2.1 h1 h2 rfl h3 (vin_of e1 h4) (h6 _ (vin_lt e1)) rfl rfl d (h H locs ls a b c z)
theorem r_alen (hC : CxOk own cc ml G A R C) {r : Option Nat} {v : Int32} (d : decode cc pc = .ok (.arraylength, 1)) (hg : aL ph r v) (h : RR C Z A G ml (pc + 1) lv (.int v :: st) ph k n) : RR C Z A G ml pc lv (va_rf r :: st) ph k n := by
  intro H locs ls a b c z
  obtain ⟨a0, g0, N, ty, x, rfl, e0, rfl⟩ := hg
  obtain ⟨cell, h1, h2, h3, h4, h5, h6⟩ := a.arr e0
  exact W.alen (n := Int32.ofNat N) hC.1 hC.2.1 h1 h2 h5 rfl rfl d (h H locs ls a b c z)
theorem upd_cell_i {cA : ClassId} {N : Nat} {f : Nat → Int32} {j : Nat} {x : Int32} : (vp_cell cA (N, .inl f)).setSlot j (.int x) = vp_cell cA (N, .inl (upd f j x)) := by
  rw [vp_cell_i, vp_cell_i, arrV_store]
  congr 1
  funext q
  by_cases hq : q = j
  · subst hq
    simp [updV, upd]
  · simp [updV, upd, hq]
theorem upd_cell_l {cA : ClassId} {N : Nat} {f : Nat → Int64} {j : Nat} {x : Int64} : (vp_cell cA (N, .inr (.inl f))).setSlot j (.long x) = vp_cell cA (N, .inr (.inl (vp_updL f j x))) := by
  rw [vp_cell_l, vp_cell_l, arrV_store]
  congr 1
  funext q
  by_cases hq : q = j
  · subst hq
    simp [updV, vp_updL]
  · simp [updV, vp_updL, hq]
theorem upd_cell_q {cA : ClassId} {N : Nat} {f : Nat → Option Nat} {j : Nat} {x : Option Nat} : (vp_cell cA (N, .inr (.inr (.inr (.inr f))))).setSlot j (va_rf x) = vp_cell cA (N, .inr (.inr (.inr (.inr (va_up f j x))))) := by
  rw [vp_cell_q, vp_cell_q, arrV_store]
  congr 1
  funext q
  by_cases hq : q = j
  · subst hq
    simp [updV, va_up]
  · simp [updV, va_up, hq]
theorem size_cell {cA : ClassId} {N : Nat} {x} : (vp_cell cA (N, x)).slots.size = N := by
  rcases x with x | x | x | x | x <;> exact arrV_size _ _ _
theorem vm_cell {cA : ClassId} {x : vp_A} : (vp_cell cA x).vm = .none := by
  obtain ⟨N, x | x | x | x | x⟩ := x <;> rfl
theorem arrOf_cell {U : State} {cA : ClassId} {ty : FieldType} {x : vp_A} (h : ArrOfT U cA ty) : U.isArrayOf (vp_cell cA x) ty := by
  obtain ⟨N, x | x | x | x | x⟩ := x <;> exact h N _
theorem r_iast (hC : CxOk own cc ml G A R C) {r : Option Nat} {i x : Int32} (d : decode cc pc = .ok (.iastore, 1)) (hg : sI ph .int r i x ph') (h : RR C Z A G ml (pc + 1) lv st ph' k n) : RR C Z A G ml pc lv (.int x :: .int i :: va_rf r :: st) ph k n := by
  intro H locs ls a b c z
  obtain ⟨a0, g0, N, f, rfl, e0, e2, e1, rfl⟩ := hg
  obtain ⟨cA, h1, h2, h3⟩ := hRW_arr (a _ _ e0) e2
  refine W.iast hC.1 hC.2.1 h1 (arrOf_cell h2) (by rw [vm_cell]; exact fun q => by cases q) (by rw [size_cell]; exact e1) rfl rfl d fun H1 e z1 oq => ?_
  rw [upd_cell_i] at e
  exact h H1 _ ls (a.set (Or.inr ⟨e2, cA, e, h2, h3⟩) oq) (b.set (fun _ => b _ _ e0 e2)) (c.put z1 oq (b _ _ e0 e2)) z
theorem r_cast (hC : CxOk own cc ml G A R C) {r : Option Nat} {i x : Int32} (hx : (narrow .char (.int x)) = .int x) (d : decode cc pc = .ok (.castore, 1)) (hg : sI ph .char r i x ph') (h : RR C Z A G ml (pc + 1) lv st ph' k n) : RR C Z A G ml pc lv (.int x :: .int i :: va_rf r :: st) ph k n := by
  intro H locs ls a b c z
  obtain ⟨a0, g0, N, f, rfl, e0, e2, e1, rfl⟩ := hg
  obtain ⟨cA, h1, h2, h3⟩ := hRW_arr (a _ _ e0) e2
  refine W.cast hC.1 hC.2.1 h1 (arrOf_cell h2) (by rw [vm_cell]; exact fun q => by cases q) (by rw [size_cell]; exact e1) rfl rfl d fun H1 e z1 oq => ?_
  rw [hx, upd_cell_i] at e
  exact h H1 _ ls (a.set (Or.inr ⟨e2, cA, e, h2, h3⟩) oq) (b.set (fun _ => b _ _ e0 e2)) (c.put z1 oq (b _ _ e0 e2)) z
theorem r_bast (hC : CxOk own cc ml G A R C) {r : Option Nat} {i x : Int32} (hx : (narrow .byte (.int x)) = .int x) (d : decode cc pc = .ok (.bastore, 1)) (hg : sI ph .byte r i x ph') (h : RR C Z A G ml (pc + 1) lv st ph' k n) : RR C Z A G ml pc lv (.int x :: .int i :: va_rf r :: st) ph k n := by
  intro H locs ls a b c z
  obtain ⟨a0, g0, N, f, rfl, e0, e2, e1, rfl⟩ := hg
  obtain ⟨cA, h1, h2, h3⟩ := hRW_arr (a _ _ e0) e2
  refine W.bast hC.1 hC.2.1 h1 (arrOf_cell h2) (by rw [vm_cell]; exact fun q => by cases q) (by rw [size_cell]; exact e1) rfl rfl d fun H1 e z1 oq => ?_
  rw [hx, upd_cell_i] at e
  exact h H1 _ ls (a.set (Or.inr ⟨e2, cA, e, h2, h3⟩) oq) (b.set (fun _ => b _ _ e0 e2)) (c.put z1 oq (b _ _ e0 e2)) z
theorem r_last (hC : CxOk own cc ml G A R C) {r : Option Nat} {i : Int32} {x : Int64} (d : decode cc pc = .ok (.lastore, 1)) (hg : sJ ph r i x ph') (h : RR C Z A G ml (pc + 1) lv st ph' k n) : RR C Z A G ml pc lv (.long x :: .int i :: va_rf r :: st) ph k n := by
  intro H locs ls a b c z
  obtain ⟨a0, g0, N, f, rfl, e0, e2, e1, rfl⟩ := hg
  obtain ⟨cA, h1, h2, h3⟩ := hRW_arr (a _ _ e0) e2
  refine W.last hC.1 hC.2.1 h1 (arrOf_cell h2) (by rw [vm_cell]; exact fun q => by cases q) (by rw [size_cell]; exact e1) rfl rfl d fun H1 e z1 oq => ?_
  rw [upd_cell_l] at e
  exact h H1 _ ls (a.set (Or.inr ⟨e2, cA, e, h2, h3⟩) oq) (b.set (fun _ => b _ _ e0 e2)) (c.put z1 oq (b _ _ e0 e2)) z
theorem r_aast (hC : CxOk own cc ml G A R C) {ci : Nat} {r x : Option Nat} {i : Int32} (d : decode cc pc = .ok (.aastore, 1)) (hg : sQ ph ci r i x ph') (h : RR C Z A G ml (pc + 1) lv st ph' k n) : RR C Z A G ml pc lv (va_rf x :: .int i :: va_rf r :: st) ph k n := by
  intro H locs ls a b c z
  obtain ⟨a0, g0, N, b0, gb, fs, cl, f, rfl, rfl, hc, eb, e0, e2, e1, rfl⟩ := hg
  obtain ⟨cA, h1, h2, h3⟩ := hRW_arr (a _ _ e0) e2
  obtain ⟨q, cellV, hq, g1, g2, g3, g4, -⟩ := a.obj eb
  cases hq.symm.trans hc
  have hcls := (hC.2.2.2.2.2.1 ci _ hc).2
  obtain ⟨kA, comp, k1, k2, k3, k4⟩ := h3
  have hcomp : comp = G.1.1 ci := Option.some.inj (k3.symm.trans hcls.1)
  subst hcomp
  obtain ⟨kC, hkC, -⟩ := hcls.2
  have hlt := vin_lt e1
  have h0 : ¬ i < 0 := fun q => e1 (Or.inl q)
  refine W.aast hC.1 hC.2.1 h1 (fun q h => by rw [vm_cell] at h; cases h) (fun h => by rw [vm_cell] at h; cases h) k1 k2 rfl hkC ⟨h0, by rw [size_cell]; exact hlt⟩ g1 (fun q h => by rw [h] at g4; cases g4) (by rw [g2]; exact hkC) (by rw [g2]; exact va_assign hcls) rfl rfl d fun H1 e z1 oq => ?_
  have e' : H1[a0]? = some (vp_cell cA (N, .inr (.inr (.inr (.inr (va_up f i.toNatClampNeg (some b0))))))) := by rw [e, ← upd_cell_q]; rfl
  exact h H1 _ ls (a.set (Or.inr ⟨e2, cA, e', h2, kA, _, k1, k2, k3, k4⟩) oq) (b.set (fun _ => b _ _ e0 e2)) (c.put z1 oq (b _ _ e0 e2)) z
end HEAP
