/-! the world: all that the class holds -/
/-- texts and what was there from the first -/
def hiT : Nat → Bool := fun t => Nat.ble 1000 t || t == 100 || t == 101 || t == 200 || t == 201
/-- what is never written over -/
def Hi (p q : PH) : Prop := ∀ (a : Nat) (e : Ent), p a = some e → hiT e.1 = true → q a = some e
/-- what has a tag that isn't in T stays -/
def Sv (T : Nat → Bool) (p q : PH) : Prop := (∀ (a : Nat) (e : Ent), p a = some e → T e.1 = false → q a = some e) ∧ Hi p q
theorem Keep.sv {T : Nat → Bool} {p q : PH} (h : Keep T p q) (hT : ∀ t : Nat, hiT t = true → T t = false) : Sv T p q := ⟨fun a e h1 h2 => h.at h1 h2, fun a e h1 h2 => h.at h1 (hT _ h2)⟩
theorem Ext.sv {P : Nat → Prop} {T : Nat → Bool} {p q : PH} (h : Ext P p q) (hP : ∀ (a : Nat) (e : Ent), P a → p a = some e → T e.1 = true ∧ hiT e.1 = false) : Sv T p q := ⟨fun a e h1 h2 => h a e (fun h9 => by
  rw [(hP a e h9 h1).1] at h2
  cases h2) h1, fun a e h1 h2 => h a e (fun h9 => absurd ((hP a e h9 h1).2.symm.trans h2) (by decide)) h1⟩
theorem Tp.sv {T : Nat → Bool} {p q : PH} (h : Sv T p q) {t ts n : Nat} {f : Nat → Int32} (hT : Tp p t ts n f) (h1 : T 110 = false) (h2 : T 202 = false) : Tp q t ts n f := ⟨h.1 _ _ hT.1 h1, h.1 _ _ hT.2.1 h2, hT.2.2⟩
theorem GrA.sv {T : Nat → Bool} {p q : PH} (h : Sv T p q) {g ge st lt : Nat} {E : Nat → Int32} (hG : GrA p g ge st lt E) (h1 : T 106 = false) (h2 : T 230 = false) : GrA q g ge st lt E := ⟨hG.1, h.1 _ _ hG.2.1 h1, h.1 _ _ hG.2.2 h2⟩
theorem Bl.sv {T : Nat → Bool} {p q : PH} (h : Sv T p q) {b bg lt : Nat} {f : Nat → Int32} (hB : Bl p b bg lt f) (h1 : T 104 = false) (h2 : T 231 = false) : Bl q b bg lt f := ⟨hB.1, h.1 _ _ hB.2.1 h1, h.1 _ _ hB.2.2.1 h2, hB.2.2.2⟩
theorem Arr.sv {T : Nat → Bool} {p q : PH} (h : Sv T p q) {a g n : Nat} (hA : Arr p a g n) (h1 : T g = false) : Arr q a g n := by
  obtain ⟨f, e⟩ := hA
  exact ⟨f, h.1 _ _ e h1⟩
def ArL (pz ph : PH) (a g n : Nat) : Prop := Arr ph a g n ∧ Hi pz ph
theorem ArL.sv {T : Nat → Bool} {pz p q : PH} (h : Sv T p q) {a g n : Nat} (hA : ArL pz p a g n) (h1 : T g = false) : ArL pz q a g n := ⟨hA.1.sv h h1, fun a e h2 h3 => h.2 a e (hA.2 a e h2 h3) h3⟩
theorem ArL.keep {T : Nat → Bool} {pz p q : PH} (h : Keep T p q) (hT : ∀ t : Nat, hiT t = true → T t = false) {a g n : Nat} (hA : ArL pz p a g n) : ArL pz q a g n := ⟨hA.1.keep h, fun a e h2 h3 => h.at (hA.2 a e h2 h3) (hT _ h3)⟩
/-- the shifts -/
def ShW (ph : PH) (sa sn : Nat) (sD : Nat → Nat × Nat × (Nat → Int32)) : Prop := sn ≤ 8 ∧ ∃ (f : Nat → Option Nat) (sg se : Nat → Nat), ph sa = some (203, .inr (.object "Shiftgate$Graph", 8, (.inr (.inr (.inr (.inr f)))))) ∧ (∀ j : Nat, j < 8 → f j = if j < sn then some (sg j) else none) ∧ (∀ j : Nat, j < sn → GrA ph (sg j) (se j) (sD j).1 (sD j).2.1 (sD j).2.2) ∧ ∀ i j : Nat, i < sn → j < sn → se i = se j → i = j
theorem ShW.sv {T : Nat → Bool} {p q : PH} (h : Sv T p q) {sa sn : Nat} {sD : Nat → Nat × Nat × (Nat → Int32)} (hS : ShW p sa sn sD) (h1 : T 203 = false) (h2 : T 106 = false) (h3 : T 230 = false) : ShW q sa sn sD := by
  obtain ⟨hn, f, sg, se, e1, e2, e3, e4⟩ := hS
  exact ⟨hn, f, sg, se, h.1 _ _ e1 h1, e2, fun j hj => (e3 j hj).sv h h2 h3, e4⟩
/-- the codes -/
def CoW (ph : PH) (ca cn : Nat) : Prop := cn ≤ 6 ∧ ∃ (f : Nat → Option Nat) (cb cg cl : Nat → Nat) (cf : Nat → Nat → Int32), ph ca = some (204, .inr (.object "Shiftgate$Block", 6, (.inr (.inr (.inr (.inr f)))))) ∧ (∀ j : Nat, j < 6 → f j = if j < cn then some (cb j) else none) ∧ (∀ j : Nat, j < cn → Bl ph (cb j) (cg j) (cl j) (cf j)) ∧ ∀ i j : Nat, i < cn → j < cn → cg i = cg j → i = j
theorem CoW.sv {T : Nat → Bool} {p q : PH} (h : Sv T p q) {ca cn : Nat} (hS : CoW p ca cn) (h1 : T 204 = false) (h2 : T 104 = false) (h3 : T 231 = false) : CoW q ca cn := by
  obtain ⟨hn, f, cb, cg, cl, cf, e1, e2, e3, e4⟩ := hS
  exact ⟨hn, f, cb, cg, cl, cf, h.1 _ _ e1 h1, e2, fun j hj => (e3 j hj).sv h h2 h3, e4⟩
/-- a table of the class: 1 to 5 rows and columns, of digits, and 0 outside -/
def TbD (ph : PH) (t ta : Nat) (D : Nat × Nat × (Nat → Int64)) : Prop := Tb ph t ta D.1 D.2.1 D.2.2 ∧ (1 ≤ D.1 ∧ D.1 ≤ 5 ∧ 1 ≤ D.2.1 ∧ D.2.1 ≤ 5) ∧ (∀ i : Nat, i < 144 → Dg (D.2.2 i)) ∧ Zr D.1 D.2.1 D.2.2
/-- the matrices, which are none of the three tables of the algebra -/
def MaW (ph : PH) (ma mn : Nat) (mD : Nat → Nat × Nat × (Nat → Int64)) (B : Nat → Nat) (a0 a1 a2 : Nat) : Prop := mn ≤ 8 ∧ ∃ (f : Nat → Option Nat) (ta tb : Nat → Nat), ph ma = some (205, .inr (.object "Shiftgate$Table", 8, (.inr (.inr (.inr (.inr f)))))) ∧ (∀ j : Nat, j < 8 → f j = if j < mn then some (ta j) else none) ∧ (∀ j : Nat, j < mn → TbD ph (ta j) (tb j) (mD j) ∧ (ta j ≠ B 0 ∧ ta j ≠ B 1 ∧ ta j ≠ B 2 ∧ tb j ≠ a0 ∧ tb j ≠ a1 ∧ tb j ≠ a2)) ∧ ∀ i j : Nat, i < mn → j < mn → (ta i = ta j ∨ tb i = tb j) → i = j
theorem Tb.sv {T : Nat → Bool} {p q : PH} (h : Sv T p q) {t ta r c : Nat} {f : Nat → Int64} (hT : Tb p t ta r c f) (h1 : T 109 = false) (h2 : T 219 = false) : Tb q t ta r c f := ⟨hT.1, h.1 _ _ hT.2.1 h1, h.1 _ _ hT.2.2 h2⟩
theorem MaW.sv {T : Nat → Bool} {p q : PH} (h : Sv T p q) {ma mn a0 a1 a2 : Nat} {mD : Nat → Nat × Nat × (Nat → Int64)} {B : Nat → Nat} (hM : MaW p ma mn mD B a0 a1 a2) (h1 : T 205 = false) (h2 : T 109 = false) (h3 : T 219 = false) : MaW q ma mn mD B a0 a1 a2 := by
  obtain ⟨hn, f, ta, tb, e1, e2, e3, e4⟩ := hM
  exact ⟨hn, f, ta, tb, h.1 _ _ e1 h1, e2, fun j hj => ⟨⟨(e3 j hj).1.1.sv h h2 h3, (e3 j hj).1.2⟩, (e3 j hj).2⟩, e4⟩
theorem RdA.sv {T : Nat → Bool} {p q : PH} (h : Sv T p q) {r : Nat} {A : Nat → Nat} (hR : RdA p r A) (h0 : T 107 = false) (h1 : ∀ t : Nat, 206 ≤ t → t ≤ 215 → T t = false) : RdA q r A := by
  obtain ⟨e0, e1, e2, e3, e4, e5, e6, e7, e8, e9, e10⟩ := hR
  exact ⟨h.1 _ _ e0 h0, e1.sv h (h1 _ (by decide) (by decide)), e2.sv h (h1 _ (by decide) (by decide)), e3.sv h (h1 _ (by decide) (by decide)), e4.sv h (h1 _ (by decide) (by decide)), e5.sv h (h1 _ (by decide) (by decide)), e6.sv h (h1 _ (by decide) (by decide)), e7.sv h (h1 _ (by decide) (by decide)), e8.sv h (h1 _ (by decide) (by decide)), e9.sv h (h1 _ (by decide) (by decide)), e10.sv h (h1 _ (by decide) (by decide))⟩
theorem TbE.sv {T : Nat → Bool} {p q : PH} (h : Sv T p q) {t ta : Nat} (hT : TbE p t ta) (h1 : T 109 = false) (h2 : T 219 = false) : TbE q t ta := by
  obtain ⟨r, c, f, k⟩ := hT
  exact ⟨r, c, f, k.sv h h1 h2⟩
theorem AlA.sv {T : Nat → Bool} {p q : PH} (h : Sv T p q) {al a0 a1 a2 : Nat} {B : Nat → Nat} (hA : AlA p al B a0 a1 a2) (h0 : T 103 = false) (h1 : T 109 = false) (h2 : T 219 = false) (h3 : T 220 = false) (h4 : T 223 = false) (h5 : T 224 = false) : AlA q al B a0 a1 a2 := by
  obtain ⟨hO, t0, t1, t2, ⟨fK, eK⟩, ⟨fN, eN⟩, ⟨fL, eL⟩, d⟩ := hA
  exact ⟨h.1 _ _ hO h0, t0.sv h h1 h2, t1.sv h h1 h2, t2.sv h h1 h2, ⟨fK, h.1 _ _ eK h3⟩, ⟨fN, h.1 _ _ eN h4⟩, ⟨fL, h.1 _ _ eL h5⟩, d⟩
theorem AlA.keep {T : Nat → Bool} {p q : PH} (h : Keep T p q) {al a0 a1 a2 : Nat} {B : Nat → Nat} (hA : AlA p al B a0 a1 a2) (h2 : T 219 = false) : AlA q al B a0 a1 a2 := by
  obtain ⟨hO, ⟨r0, c0, f0, b0, t0, t0'⟩, ⟨r1, c1, f1, b1, t1, t1'⟩, ⟨r2, c2, f2, b2, t2, t2'⟩, ⟨fK, eK⟩, ⟨fN, eN⟩, ⟨fL, eL⟩, d⟩ := hA
  exact ⟨h.obj hO, ⟨r0, c0, f0, b0, h.obj t0, h.at t0' h2⟩, ⟨r1, c1, f1, b1, h.obj t1, h.at t1' h2⟩, ⟨r2, c2, f2, b2, h.obj t2, h.at t2' h2⟩, h.rowJ eK, h.rowJ eN, h.rowJ eL, d⟩
theorem Rp.sv {T : Nat → Bool} {p q : PH} (h : Sv T p q) {rp rl rv rr rs : Nat} {ln ls : Nat → Nat} (hR : Rp p rp rl rv rr rs ln ls) (h0 : T 108 = false) (h1 : T 226 = false) (h2 : T 227 = false) (h3 : T 228 = false) (h4 : T 229 = false) : Rp q rp rl rv rr rs ln ls := by
  obtain ⟨e, ⟨f1, e1, p1⟩, ⟨f2, e2, p2⟩, a1, a2⟩ := hR
  exact ⟨h.1 _ _ e h0, ⟨f1, h.1 _ _ e1 h1, p1⟩, ⟨f2, h.1 _ _ e2 h2, p2⟩, a1.sv h h3, a2.sv h h4⟩
/-- the object itself -/
def HbO (ph : PH) (b : Nat) (V : Nat → Nat) (sn cn mn : Nat) : Prop := ph b = some (112, .inl (12, [.ref (V 0), .ref (V 1), .int (Int32.ofNat sn), .ref (V 2), .int (Int32.ofNat cn), .ref (V 3), .int (Int32.ofNat mn), .ref (V 4), .ref (V 5), .ref (V 6), .ref (V 7), .ref (V 8)]))
def Wa (V A B : Nat → Nat) (cn : Nat) (pz : PH) (b sn : Nat) (sD : Nat → Nat × Nat × (Nat → Int32)) (mn : Nat) (mD : Nat → Nat × Nat × (Nat → Int64)) (tn : Nat) (tf : Nat → Int32) (ln ls : Nat → Nat) (ph : PH) : Prop := HbO ph b V sn cn mn ∧ Tp ph (V 0) (V 9) tn tf ∧ ShW ph (V 1) sn sD ∧ CoW ph (V 2) cn ∧ MaW ph (V 3) mn mD B (V 10) (V 11) (V 12) ∧ RdA ph (V 4) A ∧ (Wy ph (V 5) (V 13) (V 14) ∧ ArL pz ph (V 13) 217 24) ∧ AlA ph (V 6) B (V 10) (V 11) (V 12) ∧ Rp ph (V 8) (V 15) (V 16) (V 17) (V 18) ln ls
def Wd (pz : PH) (b sn : Nat) (sD : Nat → Nat × Nat × (Nat → Int32)) (mn : Nat) (mD : Nat → Nat × Nat × (Nat → Int64)) (tn : Nat) (tf : Nat → Int32) (ln ls : Nat → Nat) (ph : PH) : Prop := ∃ (V A B : Nat → Nat) (cn : Nat), Wa V A B cn pz b sn sD mn mD tn tf ln ls ph
/-- what may be written over at any time -/
def TS : Nat → Bool := fun t => (206 ≤ t && t ≤ 217) || t == 223 || t == 224 || t == 228 || t == 229
section WORLD
variable {pz : PH} {b sn mn tn : Nat} {sD : Nat → Nat × Nat × (Nat → Int32)} {mD : Nat → Nat × Nat × (Nat → Int64)} {tf : Nat → Int32} {ln ls : Nat → Nat} {p q : PH}
theorem ts_hi : ∀ t : Nat, hiT t = true → TS t = false := by
  intro t h
  simp [hiT] at h
  simp [TS]
  omega
theorem Wd.keep (h : Keep TS p q) (hW : Wd pz b sn sD mn mD tn tf ln ls p) : Wd pz b sn sD mn mD tn tf ln ls q := by
  obtain ⟨V, A, B, cn, h0, h1, h2, h3, h4, h5, ⟨h6, h6'⟩, h7, h8⟩ := hW
  exact ⟨V, A, B, cn, h.obj h0, h1.sv (h.sv ts_hi) rfl rfl, h2.sv (h.sv ts_hi) rfl rfl rfl, h3.sv (h.sv ts_hi) rfl rfl rfl, h4.sv (h.sv ts_hi) rfl rfl rfl, h5.keep h, ⟨h.obj h6, h6'.keep h ts_hi⟩, h7.keep h rfl, h8.keep h rfl rfl⟩
/-- the tables of the algebra and its coefficients have changed -/
theorem Wa.alg {V A B : Nat → Nat} {cn : Nat} {P : Nat → Prop} (h : Fr P p q) (hP : ∀ a : Nat, P a → alP B (V 10) (V 11) (V 12) a) (hA : AlA q (V 6) B (V 10) (V 11) (V 12)) (hW : Wa V A B cn pz b sn sD mn mD tn tf ln ls p) : Wa V A B cn pz b sn sD mn mD tn tf ln ls q := by
  obtain ⟨h0, h1, h2, h3, h4, h5, ⟨h6, h6'⟩, h7, h8⟩ := hW
  have hs : Sv (fun t => t == 109 || t == 219 || t == 220) p q := h.ext.sv (fun a e hPa he => by
    obtain ⟨hO, ⟨r0, c0, f0, b0, t0, t0'⟩, ⟨r1, c1, f1, b1, t1, t1'⟩, ⟨r2, c2, f2, b2, t2, t2'⟩, ⟨fK, eK⟩, -⟩ := h7
    rcases hP a hPa with h9 | h9 | h9 | h9 | h9 | h9 | h9 <;> subst h9
    · cases he.symm.trans t0; exact ⟨rfl, rfl⟩
    · cases he.symm.trans t0'; exact ⟨rfl, rfl⟩
    · cases he.symm.trans t1; exact ⟨rfl, rfl⟩
    · cases he.symm.trans t1'; exact ⟨rfl, rfl⟩
    · cases he.symm.trans t2; exact ⟨rfl, rfl⟩
    · cases he.symm.trans t2'; exact ⟨rfl, rfl⟩
    · cases he.symm.trans eK; exact ⟨rfl, rfl⟩)
  obtain ⟨hn, f, ta, tb, e1, e2, e3, e4⟩ := h4
  have hM : MaW q (V 3) mn mD B (V 10) (V 11) (V 12) := by
    refine ⟨hn, f, ta, tb, hs.1 _ _ e1 rfl, e2, fun j hj => ⟨⟨(e3 j hj).1.1.fr h (fun h9 => ?_) (fun h9 => ?_), (e3 j hj).1.2⟩, (e3 j hj).2⟩, e4⟩
    · obtain ⟨⟨⟨-, k1, k2⟩, -⟩, n0, n1, n2, m0, m1, m2⟩ := e3 j hj
      obtain ⟨hO, ⟨r0, c0, f0, b0, t0, t0'⟩, ⟨r1, c1, f1, b1, t1, t1'⟩, ⟨r2, c2, f2, b2, t2, t2'⟩, ⟨fK, eK⟩, -⟩ := h7
      rcases hP _ h9 with h8 | h8 | h8 | h8 | h8 | h8 | h8
      · exact n0 h8
      · exact tag_ne k1 t0' (by decide) h8
      · exact n1 h8
      · exact tag_ne k1 t1' (by decide) h8
      · exact n2 h8
      · exact tag_ne k1 t2' (by decide) h8
      · exact tag_ne k1 eK (by decide) h8
    · obtain ⟨⟨⟨-, k1, k2⟩, -⟩, n0, n1, n2, m0, m1, m2⟩ := e3 j hj
      obtain ⟨hO, ⟨r0, c0, f0, b0, t0, t0'⟩, ⟨r1, c1, f1, b1, t1, t1'⟩, ⟨r2, c2, f2, b2, t2, t2'⟩, ⟨fK, eK⟩, -⟩ := h7
      rcases hP _ h9 with h8 | h8 | h8 | h8 | h8 | h8 | h8
      · exact tag_ne k2 t0 (by decide) h8
      · exact m0 h8
      · exact tag_ne k2 t1 (by decide) h8
      · exact m1 h8
      · exact tag_ne k2 t2 (by decide) h8
      · exact m2 h8
      · exact tag_ne k2 eK (by decide) h8
  refine ⟨hs.1 _ _ h0 rfl, h1.sv hs rfl rfl, h2.sv hs rfl rfl rfl, h3.sv hs rfl rfl rfl, hM, h5.sv hs rfl (fun t t1 t2 => ?_), ⟨hs.1 _ _ h6 rfl, h6'.sv hs rfl⟩, hA, h8.sv hs rfl rfl rfl rfl rfl⟩
  have h9 : ¬ t = 109 ∧ ¬ t = 219 ∧ ¬ t = 220 := by omega
  simp [h9.1, h9.2.1, h9.2.2]
end WORLD
theorem Wd.re {pz pw : PH} {b sn mn tn : Nat} {sD : Nat → Nat × Nat × (Nat → Int32)} {mD : Nat → Nat × Nat × (Nat → Int64)} {tf : Nat → Int32} {ln ls : Nat → Nat} {p : PH} (hW : Wd pz b sn sD mn mD tn tf ln ls p) (h : Hi pw p) : Wd pw b sn sD mn mD tn tf ln ls p := by
  obtain ⟨V, A, B, cn, h0, h1, h2, h3, h4, h5, ⟨h6, h6'⟩, h7, h8⟩ := hW
  exact ⟨V, A, B, cn, h0, h1, h2, h3, h4, h5, ⟨h6, h6'.1, h⟩, h7, h8⟩
theorem Wd.ext {pz : PH} {b sn mn tn : Nat} {sD : Nat → Nat × Nat × (Nat → Int32)} {mD : Nat → Nat × Nat × (Nat → Int64)} {tf : Nat → Int32} {ln ls : Nat → Nat} {p q : PH} (h : Ext (fun _ => False) p q) (hW : Wd pz b sn sD mn mD tn tf ln ls p) : Wd pz b sn sD mn mD tn tf ln ls q := by
  have hs : Sv (fun _ => false) p q := h.sv (fun a e hP _ => hP.elim)
  obtain ⟨V, A, B, cn, h0, h1, h2, h3, h4, h5, ⟨h6, h6'⟩, h7, h8⟩ := hW
  exact ⟨V, A, B, cn, hs.1 _ _ h0 rfl, h1.sv hs rfl rfl, h2.sv hs rfl rfl rfl, h3.sv hs rfl rfl rfl, h4.sv hs rfl rfl rfl, h5.sv hs rfl (fun _ _ _ => rfl), ⟨hs.1 _ _ h6 rfl, h6'.sv hs rfl⟩, h7.sv hs rfl rfl rfl rfl rfl rfl, h8.sv hs rfl rfl rfl rfl rfl⟩
section FACE
variable {pz : PH} {b sn mn tn : Nat} {sD : Nat → Nat × Nat × (Nat → Int32)} {mD : Nat → Nat × Nat × (Nat → Int64)} {tf : Nat → Int32} {ln ls : Nat → Nat} {ph : PH} {X : String → PH → Prop} {V A B : Nat → Nat} {cn : Nat}
theorem g_demandRange {x lo hi : Nat} {Q : PH → Prop} (hx : x < 2 ^ 31) (hlo : lo < 2 ^ 31) (hhi : hi < 2 ^ 31) (h : lo ≤ x → x ≤ hi → Q ph) (hE : ¬ (lo ≤ x ∧ x ≤ hi) → X "java/lang/IllegalArgumentException" ph) : w_X11_demandRange (Int32.ofNat x) (Int32.ofNat lo) (Int32.ofNat hi) ph Q X := by
  unfold w_X11_demandRange
  rw [on_lt hx hlo, on_le hx hhi]
  exact ⟨fun h9 => hE (by omega), fun h9 => ⟨fun h8 => h (by omega) h8, fun h8 => hE (by omega)⟩⟩
theorem g_shiftOrNull {x : Int32} {Q : Option Nat → PH → Prop} (h0 : HbO ph b V sn cn mn) (hS : ShW ph (V 1) sn sD) (h : ∀ j g ge : Nat, j < sn → x = Int32.ofNat j → GrA ph g ge (sD j).1 (sD j).2.1 (sD j).2.2 → Q (some g) ph) (hn : (∀ j : Nat, j < sn → ¬ x = Int32.ofNat j) → Q none ph) : w_X11_shiftOrNull b x ph Q X := by
  obtain ⟨hs8, f, sg, se, e1, e2, e3, e4⟩ := hS
  unfold w_X11_shiftOrNull
  refine ⟨fun h9 => hn fun j hj ej => ?_, fun h9 => ?_⟩
  · rw [ej] at h9
    exact on_neg (by omega) h9
  obtain ⟨i, hi, rfl⟩ := of_pos h9
  rw [ex_gI h0 rfl, on_le (by omega) hi]
  refine ⟨fun h8 => hn fun j hj ej => ?_, fun h8 => ?_⟩
  · rw [on_inj hi (by omega)] at ej
    omega
  rw [ex_gR h0 (v0 := some (V 1)) rfl, ex_aL e1, on_le (by omega) hi]
  refine ⟨fun h7 => absurd h7 (by omega), fun _ => ?_⟩
  rw [ex_gR h0 (v0 := some (V 1)) rfl, ex_aQ e1 (on_in (by omega) (by omega)), on_nat hi, e2 i (by omega), if_pos (by omega)]
  exact h i (sg i) (se i) (by omega) rfl (e3 i (by omega))
theorem g_shiftAt {x : Int32} {Q : Option Nat → PH → Prop} (h0 : HbO ph b V sn cn mn) (hS : ShW ph (V 1) sn sD) (h : ∀ j g ge : Nat, j < sn → x = Int32.ofNat j → GrA ph g ge (sD j).1 (sD j).2.1 (sD j).2.2 → Q (some g) ph) (hn : (∀ j : Nat, j < sn → ¬ x = Int32.ofNat j) → X "java/lang/IndexOutOfBoundsException" ph) : w_X11_shiftAt b x ph Q X := by
  unfold w_X11_shiftAt
  rw [ex_isO h0]
  exact g_shiftOrNull h0 hS (fun j g ge hj ej G => ⟨fun _ => h j g ge hj ej G, fun h9 => absurd h9 (by simp)⟩) (fun h9 => ⟨fun h8 => absurd rfl h8, fun _ => hn h9⟩)
end FACE
