/-! System.arraycopy between rows of bytes -/
def cB (ph : PH) (src : Option Nat) (sp : Int32) (dst : Option Nat) (dp n : Int32) (ph' : PH) : Prop := ∃ (b ga n0 : Nat) (f : Nat → Int32) (a gb n1 : Nat) (g : Nat → Int32), src = some b ∧ dst = some a ∧ ph b = some (ga, .inr (.byte, n0, .inl f)) ∧ ph a = some (gb, .inr (.byte, n1, .inl g)) ∧ gb < 1000 ∧ ¬ sp < 0 ∧ ¬ dp < 0 ∧ ¬ n < 0 ∧ sp.toNatClampNeg + n.toNatClampNeg ≤ n0 ∧ dp.toNatClampNeg + n.toNatClampNeg ≤ n1 ∧ n0 < 2 ^ 31 ∧ (∀ i : Nat, i < n.toNatClampNeg → fits .byte (.int (f (sp.toNatClampNeg + i))) = true) ∧ ph' = hset ph a (gb, .inr (.byte, n1, .inl (va_cpy f g sp.toNatClampNeg dp.toNatClampNeg n.toNatClampNeg)))
section COPY
variable {C : Cx} {Z : State → Prop} {A : Nat → Prop} {G : GG} {ml pc : Nat} {lv : List (Nat × Value)} {st : List Value} {ph ph' : PH} {k n : Nat} {own : String} {cc : ByteArray} {R : Room}
theorem r_copyB (hC : CxOk own cc ml G A R C) {ix : Nat} {src dst : Option Nat} {sp dp m : Int32} (w1 : Cond.methodLink own ix arraycopyName ∈ TBg) (w2 : Cond.native arraycopyName ∈ TBg) (w3 : Cond.static arraycopyName ∈ TBg) (w4 : Cond.initialized "java/lang/System" ∈ TBg) (hf : 1 ≤ R.frames) (hl : (st.map fun v => v.category).sum + (nativeFrameWords "java/lang/System" "arraycopy" 5 + 11) ≤ R.locals) (d : decode cc pc = .ok (.invokestatic ix, 3)) (hg : cB ph src sp dst dp m ph') (h : RR C Z A G ml (pc + 3) lv st ph' k n) : RR C Z A G ml pc lv (.int m :: .int dp :: va_rf dst :: .int sp :: va_rf src :: st) ph k n := by
  intro H locs ls a b c z
  obtain ⟨b0, ga, n0, f, a0, gb, n1, g, rfl, rfl, e0, e1, e2, h1, h2, h3, h4, h5, h6, h7, rfl⟩ := hg
  have nn : ∀ z : Int32, ¬ z < 0 → z.toInt = (z.toNatClampNeg : Int) := by
    intro z hz
    have hz0 : (0 : Int) ≤ z.toInt := by
      have := Int32.not_lt.mp hz
      simpa using Int32.le_iff_toInt_le.mp this
    show z.toInt = ((z.toInt.toNat : Nat) : Int)
    omega
  have hts := ts_in (args := xa C) hC.2.2.2.2.1
  have hRR := hC.2.2.2.2.2.2.2.2.2.2.2
  obtain ⟨scr, hs1, hs2, hs3, hs4, -, hs5⟩ := a.arr e0
  obtain ⟨cA, q1, q2, q3⟩ := hRW_arr (a _ _ e1) e2
  obtain ⟨hs6, k0, hk0, cm0, hkk0⟩ := hs2
  obtain ⟨-, k1, hk1, cm1, hkk1⟩ := q2 n1 (fun j => .int (g j))
  intro T hT Y
  obtain ⟨vm', X', step⟩ := Y.arraycopy hC.1 hC.2.2.2.1 (hts _ w1) (hts _ w2) (hts _ w3) (hts _ w4) (src := b0) (dst := a0) (cs := scr) (cd := vp_cell cA (n1, .inl g)) (srcPos := sp) (destPos := dp) (n := m) (by rw [hT]; exact hs1) (by rw [hT]; exact q1)
    hs6 (fun _ h => by cases h) hs3 (fun h => by cases h) hk0 hk1 hkk0 hkk1 (by simp [refKind]) h1 h2 h3
    (by rw [nn sp h1, nn m h3]; omega)
    (by rw [nn dp h2, nn m h3]; show ¬ _ > ((arrV cA n1 (fun j => .int (g j))).slots.size : Int); rw [arrV_size]; omega)
    (fun vm₁ _ i hi => by
      have e : scr.slots.getD (sp.toNatClampNeg + i) .null = .int (f (sp.toNatClampNeg + i)) := by
        rw [Array.getD_eq_getD_getElem?, hs5 _ (by omega)]
        rfl
      refine ⟨?_, ?_⟩
      · rw [e]
        exact h7 i hi
      · rw [e]
        exact trivial)
    (g := F0 (xm C) pc ls (.int m :: .int dp :: .ref a0 :: .int sp :: .ref b0 :: st)) rfl (by rw [hC.2.2.1]; exact z.1) (rest := st) rfl (by rw [hC.2.1]; exact d) (by rw [hRR]; exact hf) (by rw [hRR]; show 2 * 0 + _ + _ ≤ _; omega)
  have e9 : copied scr (vp_cell cA (n1, .inl g)) sp dp m = vp_cell cA (n1, .inl (va_cpy f g sp.toNatClampNeg dp.toNatClampNeg m.toNatClampNeg)) := va_copiedX (fun z => .int z) scr cA f g hs5 h4
  rw [e9] at X' step
  have hl0 : a0 < H.size := (Array.getElem?_eq_some_iff.mp q1).1
  have hheap : ((T.setVm vm').setCell a0 (vp_cell cA (n1, .inl (va_cpy f g sp.toNatClampNeg dp.toNatClampNeg m.toNatClampNeg)))).heap = H.setIfInBounds a0 (vp_cell cA (n1, .inl (va_cpy f g sp.toNatClampNeg dp.toNatClampNeg m.toNatClampNeg))) := by rw [← hT]; rfl
  have oq : ∀ q : Nat, q ≠ a0 → (H.setIfInBounds a0 (vp_cell cA (n1, .inl (va_cpy f g sp.toNatClampNeg dp.toNatClampNeg m.toNatClampNeg))))[q]? = H[q]? := fun q hq => by simp [Array.getElem?_setIfInBounds, Ne.symm hq]
  obtain ⟨t, a1, b1⟩ := h _ _ ls (a.set (Or.inr ⟨e2, cA, (show (H.setIfInBounds a0 _)[a0]? = some _ by simp [Array.getElem?_setIfInBounds, hl0]), q2, q3⟩) oq) (b.set (fun _ => b _ _ e1 e2)) ⟨by simp; exact c.1, fun q g1 g2 => by
      rw [oq q (fun e => g2 (by rw [e]; exact b _ _ e1 e2))]
      exact c.2.1 q g1 g2, fun q hq => by
      rcases List.mem_append.mp hq with h | h
      · exact c.2.2 q h
      · obtain ⟨z, -, hz⟩ := List.mem_map.mp h
        rw [← hz]
        exact b _ _ e1 e2⟩ z _ hheap X'
  exact ⟨t, step t a1, b1⟩
theorem r_min (hC : CxOk own cc ml G A R C) {ix : Nat} {x y : Int32} (w1 : Cond.methodLink own ix Lib.Math.min.name ∈ TBg) (w2 : Cond.static Lib.Math.min.name ∈ TBg) (w3 : Cond.initialized "java/lang/Math" ∈ TBg) (w4 : Cond.code Lib.Math.min.name Lib.Math.min.code 2 (some .int) ∈ TBg) (hf : 1 ≤ R.frames) (hl : (st.map fun v => v.category).sum + 13 ≤ R.locals) (hk : k ≤ R.cells) (hn : n ≤ R.slots) (d : decode cc pc = .ok (.invokestatic ix, 3)) (h : RR C Z A G ml (pc + 3) lv (.int (if y < x then y else x) :: st) ph k n) : RR C Z A G ml pc lv (.int y :: .int x :: st) ph k n := by
  intro H locs ls a b c z
  have hts := ts_in (args := xa C) hC.2.2.2.2.1
  have hRR := hC.2.2.2.2.2.2.2.2.2.2.2
  exact va_mmin hC.1 hC.2.1 (hC.2.2.1.trans z.1.symm) hC.2.2.2.1 (hts _ w1) (hts _ w2) (hts _ w3) (hts _ w4) (by rw [hRR]; exact hf) (by rw [hRR]; exact hl) (by rw [hRR]; exact hk) (by rw [hRR]; exact hn) d (h H locs ls a b c z)
end COPY
