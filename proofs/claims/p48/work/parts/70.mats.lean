/-! the matrices -/
theorem mk_sQ {ph : PH} {a g n b gb ci : Nat} {i : Int32} {fs : List Value} {cs : String} {f : Nat → Option Nat} {P : PH → Prop} (hc : ∃ c : vw_C, vwCl[ci]? = some c ∧ c.1 = cs) (hb : ph b = some (gb, .inl (ci, fs))) (ha : ph a = some (g, .inr (.object cs, n, .inr (.inr (.inr (.inr f)))))) (hg : g < 1000) (hi : vp_in i n) (h : P (hset ph a (g, .inr (.object cs, n, .inr (.inr (.inr (.inr (va_up f i.toNatClampNeg (some b))))))))) : ∃ ph' : PH, sQ ph ci (some a) i (some b) ph' ∧ P ph' := by
  obtain ⟨c, c1, rfl⟩ := hc
  exact ⟨_, ⟨a, g, n, b, gb, fs, c, f, rfl, rfl, c1, hb, ha, hg, hi, rfl⟩, h⟩
theorem vu_s {f : Nat → Option Nat} {i : Nat} {x : Option Nat} : va_up f i x i = x := by
  simp [va_up]
theorem vu_n {f : Nat → Option Nat} {i j : Nat} {x : Option Nat} (h : j ≠ i) : va_up f i x j = f j := by
  simp [va_up, h]
def upD {T : Type} (f : Nat → T) (i : Nat) (v : T) : Nat → T := fun j => if j = i then v else f j
theorem ud_s {T : Type} {f : Nat → T} {i : Nat} {v : T} : upD f i v i = v := if_pos rfl
theorem ud_n {T : Type} {f : Nat → T} {i j : Nat} {v : T} (h : j ≠ i) : upD f i v j = f j := if_neg h
def gtF (D : Nat × Nat × (Nat → Int64)) : Int32 := (tAt D.1 D.2.1 D.2.2 0 0).toInt32
def trF (D : Nat × Nat × (Nat → Int64)) (k : Nat) : Int64 := tr D.1 (pwr D.1 (tAt D.1 D.1 D.2.2) k)
section MATS
variable {pz : PH} {b sn mn tn : Nat} {sD : Nat → Nat × Nat × (Nat → Int32)} {mD : Nat → Nat × Nat × (Nat → Int64)} {tf : Nat → Int32} {ln ls : Nat → Nat} {ph : PH} {X : String → PH → Prop} {V A B : Nat → Nat} {cn : Nat}
theorem Wa.mat {t tt j : Nat} (hWa : Wa V A B cn pz b sn sD mn mD tn tf ln ls ph) (hj : j < mn) (f : Nat → Option Nat) (ta tb : Nat → Nat) (m1 : ph (V 3) = some (205, .inr (.object "Shiftgate$Table", 8, .inr (.inr (.inr (.inr f)))))) (m2 : ∀ j : Nat, j < 8 → f j = if j < mn then some (ta j) else none) (m3 : ∀ j : Nat, j < mn → TbD ph (ta j) (tb j) (mD j) ∧ (ta j ≠ B 0 ∧ ta j ≠ B 1 ∧ ta j ≠ B 2 ∧ tb j ≠ V 10 ∧ tb j ≠ V 11 ∧ tb j ≠ V 12)) (m4 : ∀ i j : Nat, i < mn → j < mn → (ta i = ta j ∨ tb i = tb j) → i = j) (ht : t = ta j) (htt : tt = tb j) (q : PH) (D : Nat × Nat × (Nat → Int64)) (hF : Fr (two t tt) ph q) (hD : TbD q t tt D) : Wd pz b sn sD mn (upD mD j D) tn tf ln ls q := by
  subst ht
  subst htt
  obtain ⟨h0, h1, h2, h3, ⟨hm8, -⟩, h5, ⟨h6, h6'⟩, h7, h8⟩ := hWa
  obtain ⟨⟨T, -⟩, n0, n1, n2, o0, o1, o2⟩ := m3 j hj
  have hs : Sv (fun t => t == 109 || t == 219) ph q := hF.ext.sv (fun a e hPa he => by
    rcases hPa with h9 | h9 <;> subst h9
    · cases he.symm.trans T.2.1; exact ⟨rfl, rfl⟩
    · cases he.symm.trans T.2.2; exact ⟨rfl, rfl⟩)
  have hA : AlA q (V 6) B (V 10) (V 11) (V 12) := by
    obtain ⟨hO, ⟨r0, c0, f0, t0⟩, ⟨r1, c1, f1, t1⟩, ⟨r2, c2, f2, t2⟩, ⟨fK, eK⟩, ⟨fN, eN⟩, ⟨fL, eL⟩, d⟩ := h7
    refine ⟨hs.1 _ _ hO rfl, ⟨r0, c0, f0, t0.fr hF (fun h9 => h9.elim (fun h8 => n0 h8.symm) (tag_ne t0.2.1 T.2.2 (by decide))) (fun h9 => h9.elim (tag_ne t0.2.2 T.2.1 (by decide)) (fun h8 => o0 h8.symm))⟩, ⟨r1, c1, f1, t1.fr hF (fun h9 => h9.elim (fun h8 => n1 h8.symm) (tag_ne t1.2.1 T.2.2 (by decide))) (fun h9 => h9.elim (tag_ne t1.2.2 T.2.1 (by decide)) (fun h8 => o1 h8.symm))⟩, ⟨r2, c2, f2, t2.fr hF (fun h9 => h9.elim (fun h8 => n2 h8.symm) (tag_ne t2.2.1 T.2.2 (by decide))) (fun h9 => h9.elim (tag_ne t2.2.2 T.2.1 (by decide)) (fun h8 => o2 h8.symm))⟩, ⟨fK, hs.1 _ _ eK rfl⟩, ⟨fN, hs.1 _ _ eN rfl⟩, ⟨fL, hs.1 _ _ eL rfl⟩, d⟩
  refine ⟨V, A, B, cn, hs.1 _ _ h0 rfl, h1.sv hs rfl rfl, h2.sv hs rfl rfl rfl, h3.sv hs rfl rfl rfl, ⟨hm8, f, ta, tb, hs.1 _ _ m1 rfl, m2, fun i hi => ?_, m4⟩, h5.sv hs rfl (fun t t1 t2 => ?_), ⟨hs.1 _ _ h6 rfl, h6'.sv hs rfl⟩, hA, h8.sv hs rfl rfl rfl rfl rfl⟩
  · by_cases hij : i = j
    · subst hij
      rw [ud_s]
      exact ⟨hD, n0, n1, n2, o0, o1, o2⟩
    · rw [ud_n hij]
      obtain ⟨⟨T', k⟩, d⟩ := m3 i hi
      exact ⟨⟨T'.fr hF (fun h9 => h9.elim (fun h8 => hij (m4 i j hi hj (Or.inl h8))) (tag_ne T'.2.1 T.2.2 (by decide))) (fun h9 => h9.elim (tag_ne T'.2.2 T.2.1 (by decide)) (fun h8 => hij (m4 i j hi hj (Or.inr h8)))), k⟩, d⟩
  · have h9 : ¬ t = 109 ∧ ¬ t = 219 := by omega
    simp [h9.1, h9.2]
theorem g_matrixAt {x : Int32} {Q : Option Nat → PH → Prop} (hWa : Wa V A B cn pz b sn sD mn mD tn tf ln ls ph) (h : ∀ j t tt : Nat, j < mn → x = Int32.ofNat j → TbD ph t tt (mD j) → (t ≠ B 0 ∧ t ≠ B 1 ∧ t ≠ B 2 ∧ tt ≠ V 10 ∧ tt ≠ V 11 ∧ tt ≠ V 12) → (∀ (q : PH) (D : Nat × Nat × (Nat → Int64)), Fr (two t tt) ph q → TbD q t tt D → Wd pz b sn sD mn (upD mD j D) tn tf ln ls q) → Q (some t) ph) (hn : (∀ j : Nat, j < mn → ¬ x = Int32.ofNat j) → X "java/lang/IndexOutOfBoundsException" ph) : w_X11_matrixAt b x ph Q X := by
  obtain ⟨h0, h1, h2, h3, ⟨hm8, f, ta, tb, m1, m2, m3, m4⟩, h5⟩ := id hWa
  have no : (∀ j : Nat, j < mn → ¬ x = Int32.ofNat j) → w_X11_matrixAt_31 Q X none ph := fun h9 => ⟨fun h8 => absurd rfl h8, fun _ => hn h9⟩
  unfold w_X11_matrixAt
  refine ⟨fun h9 => no fun j hj ej => ?_, fun h9 => ?_⟩
  · rw [ej] at h9
    exact on_neg (by omega) h9
  obtain ⟨i, hi, rfl⟩ := of_pos h9
  rw [ex_gI h0 rfl, on_le (by omega) hi]
  refine ⟨fun h8 => no fun j hj ej => ?_, fun h8 => ?_⟩
  · rw [on_inj hi (by omega)] at ej
    omega
  rw [ex_gR h0 (v0 := some (V 3)) rfl, ex_aL m1, on_le (by omega) hi]
  refine ⟨fun h7 => absurd h7 (by omega), fun _ => ?_⟩
  rw [ex_gR h0 (v0 := some (V 3)) rfl, ex_aQ m1 (on_in (by omega) (by omega)), on_nat hi, m2 i (by omega), if_pos (by omega)]
  refine ⟨fun _ => ?_, fun h6 => absurd h6 (by simp)⟩
  exact h i (ta i) (tb i) (by omega) rfl (m3 i (by omega)).1 (m3 i (by omega)).2 (fun q D hF hD => hWa.mat (by omega) f ta tb m1 m2 m3 m4 rfl rfl q D hF hD)
theorem g_demandCell {t tt i j : Nat} {D : Nat × Nat × (Nat → Int64)} {Q : PH → Prop} (hi : i < 2 ^ 20) (hj : j < 2 ^ 20) (hT : TbD ph t tt D) (h : i < D.1 → j < D.2.1 → Q ph) (hn : ¬ (i < D.1 ∧ j < D.2.1) → X "java/lang/IndexOutOfBoundsException" ph) : w_X11_demandCell (some t) (Int32.ofNat i) (Int32.ofNat j) ph Q X := by
  obtain ⟨⟨hb, e1, e2⟩, hb2, -⟩ := hT
  unfold w_X11_demandCell
  refine ⟨fun h9 => absurd h9 (on_neg (by omega)), fun _ => ?_⟩
  rw [ex_gI e1 rfl, on_le (by omega) (by omega)]
  refine ⟨fun h9 => hn (by omega), fun h9 => ⟨fun h8 => absurd h8 (on_neg (by omega)), fun _ => ?_⟩⟩
  rw [ex_gI e1 rfl, on_lt (by omega) (by omega)]
  exact ⟨fun h8 => h (by omega) h8, fun h8 => hn (by omega)⟩
theorem Dg.i32 {x : Int64} (h : Dg x) : ∃ k : Nat, k ≤ 9 ∧ x.toInt32 = Int32.ofNat k := by
  obtain ⟨k, hk, rfl⟩ := h
  have key : ∀ k : Fin 10, (Int64.ofNat k.val).toInt32 = Int32.ofNat k.val := by decide
  exact ⟨k, hk, key ⟨k, by omega⟩⟩
theorem TbD.dg {t tt : Nat} {D : Nat × Nat × (Nat → Int64)} (hT : TbD ph t tt D) (i j : Nat) : Dg (tAt D.1 D.2.1 D.2.2 i j) := by
  unfold tAt
  by_cases h : i < D.1 ∧ j < D.2.1
  · rw [if_pos h]
    exact hT.2.2.1 _ (by have := hT.2.1; omega)
  · rw [if_neg h]
    exact ⟨0, by omega, rfl⟩
theorem a_get {x : Int32} {Q : Int32 → PH → Prop} (hW : Wd pz b sn sD mn mD tn tf ln ls ph) (h : ∀ j : Nat, j < mn → x = Int32.ofNat j → Q (gtF (mD j)) ph) (hn : (∀ j : Nat, j < mn → ¬ x = Int32.ofNat j) → X "java/lang/IndexOutOfBoundsException" ph) : w_X11_get b x (0 : Int32) (0 : Int32) ph Q X := by
  obtain ⟨V, A, B, cn, hWa⟩ := hW
  unfold w_X11_get
  rw [ex_isO hWa.1]
  refine g_matrixAt hWa (fun j t tt hj ej T _ _ => ?_) hn
  refine g_demandCell (i := 0) (j := 0) (by omega) (by omega) T (fun _ _ => ?_) (fun h9 => absurd ⟨T.2.1.1, T.2.1.2.2.1⟩ h9)
  rw [ex_isO T.1.2.1]
  exact g_at (i := 0) (j := 0) (by omega) (by omega) T.1 (h j hj ej)
theorem g_demandSquare {t tt : Nat} {D : Nat × Nat × (Nat → Int64)} {Q : PH → Prop} (hT : TbD ph t tt D) (h : D.1 = D.2.1 → Q ph) (hn : ¬ D.1 = D.2.1 → X "java/lang/UnsupportedOperationException" ph) : w_X11_demandSquare (some t) ph Q X := by
  obtain ⟨⟨hb, e1, e2⟩, hb2, -⟩ := hT
  unfold w_X11_demandSquare
  rw [ex_gI e1 rfl, ex_gI e1 rfl, on_inj (by omega) (by omega)]
  exact ⟨h, hn⟩
theorem a_trace {x : Int32} {k : Nat} {Q : Int64 → PH → Prop} (hk : k + 1 ≤ 8) (hW : Wd pz b sn sD mn mD tn tf ln ls ph) (h : ∀ (j : Nat) (ph' : PH), j < mn → x = Int32.ofNat j → (mD j).1 = (mD j).2.1 → Wd pz b sn sD mn mD tn tf ln ls ph' → Q (trF (mD j) k) ph') (hu : ∀ j : Nat, j < mn → x = Int32.ofNat j → ¬ (mD j).1 = (mD j).2.1 → X "java/lang/UnsupportedOperationException" ph) (hn : (∀ j : Nat, j < mn → ¬ x = Int32.ofNat j) → X "java/lang/IndexOutOfBoundsException" ph) : w_X11_trace b x (Int32.ofNat (k + 1)) ph Q X := by
  obtain ⟨V, A, B, cn, hWa⟩ := id hW
  obtain ⟨h0, h1, h2, h3, h4, h5, h6, h7, h8⟩ := id hWa
  unfold w_X11_trace
  rw [ex_isO h0]
  refine g_matrixAt hWa (fun j t tt hj ej T d _ => ?_) hn
  refine g_demandRange (lo := 1) (hi := 8) (by omega) (by omega) (by omega) (fun _ _ => ?_) (fun h9 => absurd ⟨by omega, by omega⟩ h9)
  refine g_demandSquare T (fun hsq => ?_) (fun hsq => hu j hj ej hsq)
  obtain ⟨hO, ⟨r0, c0, f0, T0⟩, ⟨r1, c1, f1, T1⟩, ⟨r2, c2, f2, T2⟩, ⟨fK, eK⟩, ⟨fN, eN⟩, ⟨fL, eL⟩, n01, n02, n12, m01, m02, m12⟩ := id h7
  rw [ex_gR h0 (v0 := some (V 6)) rfl, ex_isO hO]
  obtain ⟨d0, d1, d2, o0, o1, o2⟩ := d
  have Tq : Tb ph t tt (mD j).1 (mD j).1 (mD j).2.2 := by
    have h9 := T.1
    rw [← hsq] at h9
    exact h9
  refine g_powerOf (by omega) hO T0 T1 Tq n01 m01 d0 o0 d1 o1 (fun p u ua f' hF E0 E1 U hp => ?_)
  rw [ex_isO U.2.1]
  refine g_diagonalSum U ?_
  have e : sumJ (mD j).1 (fun i => tAt (mD j).1 (mD j).1 f' i i) = trF (mD j) k := sumJ_eq fun i hi => hp i i hi hi
  rw [e]
  have q1 : ∀ a : Nat, four (B 0) (V 10) (B 1) (V 11) a → alP B (V 10) (V 11) (V 12) a := fun a h9 => by
    rcases h9 with h9 | h9 | h9 | h9
    · exact Or.inl h9
    · exact Or.inr (Or.inl h9)
    · exact Or.inr (Or.inr (Or.inl h9))
    · exact Or.inr (Or.inr (Or.inr (Or.inl h9)))
  have nn : ∀ (a tg : Nat) (y : (Nat × List Value) ⊕ (FieldType × vp_A)), ph a = some (tg, y) → tg ≠ 109 → tg ≠ 219 → p a = some (tg, y) := fun a tg y ha t1 t2 => (hF a (fun h9 => by
    rcases h9 with h9 | h9 | h9 | h9
    · exact tag_ne ha T0.2.1 t1 h9
    · exact tag_ne ha T0.2.2 t2 h9
    · exact tag_ne ha T1.2.1 t1 h9
    · exact tag_ne ha T1.2.2 t2 h9)).trans ha
  have z1 : ¬ four (B 0) (V 10) (B 1) (V 11) (B 2) := fun h9 => by
    rcases h9 with h9 | h9 | h9 | h9
    · exact n02 h9.symm
    · exact tag_ne T2.2.1 T0.2.2 (by decide) h9
    · exact n12 h9.symm
    · exact tag_ne T2.2.1 T1.2.2 (by decide) h9
  have z2 : ¬ four (B 0) (V 10) (B 1) (V 11) (V 12) := fun h9 => by
    rcases h9 with h9 | h9 | h9 | h9
    · exact tag_ne T2.2.2 T0.2.1 (by decide) h9
    · exact m02 h9.symm
    · exact tag_ne T2.2.2 T1.2.1 (by decide) h9
    · exact m12 h9.symm
  refine h j p hj ej hsq ⟨V, A, B, cn, hWa.alg hF q1 ⟨nn _ _ _ hO (by decide) (by decide), E0, E1, ⟨_, _, _, T2.fr hF z1 z2⟩, ⟨fK, nn _ _ _ eK (by decide) (by decide)⟩, ⟨fN, nn _ _ _ eN (by decide) (by decide)⟩, ⟨fL, nn _ _ _ eL (by decide) (by decide)⟩, n01, n02, n12, m01, m02, m12⟩⟩
theorem a_put {x : Int32} {i j v : Nat} {Q : Int32 → PH → Prop} (hi : i < 2 ^ 20) (hj : j < 2 ^ 20) (hv : v < 2 ^ 20) (hW : Wd pz b sn sD mn mD tn tf ln ls ph) (h : ∀ (k : Nat) (mD' : Nat → Nat × Nat × (Nat → Int64)) (ph' : PH), k ≤ 9 → Wd pz b sn sD mn mD' tn tf ln ls ph' → Q (Int32.ofNat k) ph') (hn : X "java/lang/IndexOutOfBoundsException" ph) (ha : X "java/lang/IllegalArgumentException" ph) : w_X11_put b x (Int32.ofNat i) (Int32.ofNat j) (Int32.ofNat v) ph Q X := by
  obtain ⟨V, A, B, cn, hWa⟩ := id hW
  unfold w_X11_put
  rw [ex_isO hWa.1]
  refine g_matrixAt hWa (fun m t tt hm em T _ hch => ?_) (fun _ => hn)
  refine g_demandCell hi hj T (fun hi' hj' => ?_) (fun _ => hn)
  refine g_demandRange (lo := 0) (hi := 9) (by omega) (by omega) (by omega) (fun _ hv9 => ?_) (fun _ => ha)
  rw [ex_isO T.1.2.1]
  refine g_at (by omega) (by omega) T.1 ?_
  rw [ex_isO T.1.2.1]
  refine g_write (by omega) (by omega) T.1 (fun p k1 T1 => ?_)
  obtain ⟨k, hk, ek⟩ := (T.dg i j).i32
  rw [ek]
  have hc12 : (mD m).2.1 ≤ 12 := by have := T.2.1; omega
  refine h k _ p hk (hch p ((mD m).1, (mD m).2.1, tPut (mD m).1 (mD m).2.1 (mD m).2.2 i j (Int32.ofNat v).toInt64) k1 ⟨T1, T.2.1, fun q hq => ?_, T.2.2.2.put hc12⟩)
  show Dg (tPut (mD m).1 (mD m).2.1 (mD m).2.2 i j (Int32.ofNat v).toInt64 q)
  unfold tPut
  by_cases h9 : i < (mD m).1 ∧ j < (mD m).2.1
  · rw [if_pos h9]
    by_cases h8 : q = 12 * i + j
    · rw [h8, vl_s]
      exact ⟨v, by omega, to64 (by omega)⟩
    · rw [vl_n h8]
      exact T.2.2.1 q hq
  · rw [if_neg h9]
    exact T.2.2.1 q hq
theorem Dg.sub {x : Int64} {v : Nat} (h : Dg x) (hv : Int64.ofNat v ≤ x) (hv2 : v < 2 ^ 20) : Dg (x - Int64.ofNat v) ∧ v ≤ 9 := by
  obtain ⟨k, hk, rfl⟩ := h
  rw [oj_le (by omega) (by omega)] at hv
  refine ⟨⟨k - v, by omega, ?_⟩, by omega⟩
  have h5 : Int64.ofNat k = Int64.ofNat (k - v) + Int64.ofNat v := by
    rw [oj_add, show k - v + v = k by omega]
  rw [h5]
  exact Int64.add_sub_cancel _ _
theorem a_split {x : Int32} {i j v : Nat} {Q : Int32 → PH → Prop} (hi : i < 2 ^ 20) (hj : j < 2 ^ 20) (hv : v < 2 ^ 20) (hW : Wd pz b sn sD mn mD tn tf ln ls ph) (h : ∀ (m k : Nat) (D : Nat × Nat × (Nat → Int64)) (ph' : PH), m < mn → x = Int32.ofNat m → k ≤ 6 → (mD m).1 = (mD m).2.1 → D.1 = D.2.1 → trF D 2 = trF (mD m) 2 → Wd pz b sn sD mn (upD mD m D) tn tf ln ls ph' → Q (Int32.ofNat k) ph') (hn : X "java/lang/IndexOutOfBoundsException" ph) (ha : X "java/lang/IllegalArgumentException" ph) (hu : X "java/lang/UnsupportedOperationException" ph) (hs : X "java/lang/IllegalStateException" ph) : w_X11_split b x (Int32.ofNat i) (Int32.ofNat j) (Int32.ofNat v) ph Q X := by
  obtain ⟨V, A, B, cn, hWa⟩ := id hW
  unfold w_X11_split
  rw [ex_isO hWa.1]
  refine g_matrixAt hWa (fun m t tt hm em T _ hch => ?_) (fun _ => hn)
  refine g_demandCell hi hj T (fun hi' hj' => ⟨fun h9 => absurd h9 (on_neg (by omega)), fun _ => ?_⟩) (fun _ => hn)
  rw [ex_isO T.1.2.1]
  refine g_at (by omega) (by omega) T.1 ⟨fun hle => ?_, fun _ => ha⟩
  rw [lgc_le, to64 (by omega)] at hle
  refine g_demandSquare T (fun hsq => ?_) (fun _ => hu)
  have hb := T.2.1
  rw [ex_gI T.1.2.1 rfl, show (5 : Int32) = Int32.ofNat 5 from rfl, on_lt (by omega) (by omega)]
  refine ⟨fun h5 => ?_, fun _ => hs⟩
  rw [ex_isO T.1.2.1, to64 (by omega)]
  have Tq : Tb ph t tt (mD m).1 (mD m).1 (mD m).2.2 := by
    have h9 := T.1
    rw [← hsq] at h9
    exact h9
  have Zq : Zr (mD m).1 (mD m).1 (mD m).2.2 := by
    have h9 := T.2.2.2
    rw [← hsq] at h9
    exact h9
  refine g_splitAt (by omega) hi' (by omega) Tq Zq (fun p f' k1 T1 Z1 hE => ?_)
  rw [ex_gI T1.2.1 rfl]
  have hdg : ∀ a c : Nat, Dg (tAt (mD m).1 (mD m).1 (mD m).2.2 a c) := fun a c => by
    have h9 := T.dg a c
    rw [← hsq] at h9
    exact h9
  have hle2 : Int64.ofNat v ≤ tAt (mD m).1 (mD m).1 (mD m).2.2 i j := by
    rw [← hsq] at hle
    exact hle
  obtain ⟨s1, s2⟩ := (hdg i j).sub hle2 (by omega)
  have hEE : ∀ k c : Nat, Dg (EE (mD m).1 (tAt (mD m).1 (mD m).1 (mD m).2.2) i j (Int64.ofNat v) k c) := by
    intro k c
    unfold EE
    split
    · split
      · exact s1
      · exact ⟨0, by omega, rfl⟩
    · split
      · exact ⟨v, s2, rfl⟩
      · exact hdg k c
  have hBB : ∀ k c : Nat, Dg (BB (mD m).1 (tAt (mD m).1 (mD m).1 (mD m).2.2) i j (Int64.ofNat v) k c) := by
    intro k c
    unfold BB
    split
    · exact hEE _ _
    · exact hEE _ _
  have hb' : 1 ≤ (mD m).1 + 1 ∧ (mD m).1 + 1 ≤ 5 ∧ 1 ≤ (mD m).1 + 1 ∧ (mD m).1 + 1 ≤ 5 := ⟨by omega, by omega, by omega, by omega⟩
  refine h m ((mD m).1 + 1) ((mD m).1 + 1, (mD m).1 + 1, f') p hm em (by omega) hsq rfl ?_ (hch p _ k1 ⟨T1, hb', fun q hq => ?_, Z1⟩)
  · have e1 : trF ((mD m).1 + 1, (mD m).1 + 1, f') 2 = tr ((mD m).1 + 1) (pwr ((mD m).1 + 1) (BB (mD m).1 (tAt (mD m).1 (mD m).1 (mD m).2.2) i j (Int64.ofNat v)) 2) := sumJ_eq fun i hi => pwr_eq hE 2 i i hi hi
    rw [e1]
    exact tr_split hi' (by omega)
  · have hq1 : q = 12 * (q / 12) + q % 12 := by omega
    have hq2 : q % 12 < 12 := by omega
    have hq3 : q / 12 < 12 := by omega
    show Dg (f' q)
    generalize q / 12 = a at hq1 hq3
    generalize q % 12 = c at hq1 hq2
    subst hq1
    by_cases h9 : a < (mD m).1 + 1 ∧ c < (mD m).1 + 1
    · have h8 := hE a c h9.1 h9.2
      rw [show tAt ((mD m).1 + 1) ((mD m).1 + 1) f' a c = f' (12 * a + c) from if_pos h9] at h8
      rw [h8]
      exact hBB a c
    · rw [Z1 a c hq3 hq2 h9]
      exact ⟨0, by omega, rfl⟩
theorem a_matrix {r c : Nat} {Q : Int32 → PH → Prop} (hr : 1 ≤ r ∧ r ≤ 5) (hc : 1 ≤ c ∧ c ≤ 5) (hW : Wd pz b sn sD mn mD tn tf ln ls ph) (h : ∀ (mD' : Nat → Nat × Nat × (Nat → Int64)) (ph' : PH), Wd pz b sn sD (mn + 1) mD' tn tf ln ls ph' → Q (Int32.ofNat mn) ph') (hs : X "java/lang/IllegalStateException" ph) : w_X11_matrix b (Int32.ofNat r) (Int32.ofNat c) ph Q X := by
  obtain ⟨V, A, B, cn, h0, h1, h2, h3, ⟨hm8, f, ta, tb, m1, m2, m3, m4⟩, h5, ⟨h6, h6'⟩, h7, h8⟩ := id hW
  unfold w_X11_matrix
  refine g_demandRange (lo := 1) (hi := 5) (by omega) (by omega) (by omega) (fun _ _ => ?_) (fun h9 => absurd hr h9)
  refine g_demandRange (lo := 1) (hi := 5) (by omega) (by omega) (by omega) (fun _ _ => ?_) (fun h9 => absurd hc h9)
  rw [ex_gI h0 rfl]
  refine ⟨fun h9 => absurd h9 (on_neg (by omega)), fun _ => ?_⟩
  rw [ex_gI h0 rfl, ex_gR h0 (v0 := some (V 3)) rfl, ex_aL m1, on_lt (by omega) (by omega)]
  refine ⟨fun hlt => ?_, fun _ => hs⟩
  intro t p0 ht hp0
  subst hp0
  refine ⟨t, rfl, ?_⟩
  unfold w_X8_init
  refine ⟨t, rfl, ?_⟩
  intro tt p1 htt hp1
  subst hp1
  have hne : tt ≠ t := fun h9 => by
    rw [h9, hset_same] at htt
    cases htt
  have htt0 : ph tt = none := (hset_ne hne).symm.trans htt
  rw [ex_pW (fs' := [.int 0, .int 0, va_rf (some tt)]) (hset_at hne.symm hset_same) (by decide) (show 2 < 3 by decide) rfl]
  have K1 : Ext (fun q => q = t ∨ q = tt) ph (hset (hset (hset ph t (109, .inl (9, [.int 0, .int 0, .null]))) tt (219, .inr (.long, 144, .inr (.inl (fun _ => 0))))) t (109, .inl (9, [.int 0, .int 0, va_rf (some tt)]))) := (Ext.new ht).tr ((Ext.new htt).tr (Ext.set (Or.inl rfl)))
  have T1 : Tb (hset (hset (hset ph t (109, .inl (9, [.int 0, .int 0, .null]))) tt (219, .inr (.long, 144, .inr (.inl (fun _ => 0))))) t (109, .inl (9, [.int 0, .int 0, va_rf (some tt)]))) t tt 0 0 (fun _ => 0) := ⟨⟨by omega, by omega⟩, hset_same, hset_at hne hset_same⟩
  generalize hset (hset (hset ph t (109, .inl (9, [.int 0, .int 0, .null]))) tt (219, .inr (.long, 144, .inr (.inl (fun _ => 0))))) t (109, .inl (9, [.int 0, .int 0, va_rf (some tt)])) = p2 at K1 T1 ⊢
  rw [ex_isO T1.2.1]
  refine g_reshape (by omega) (by omega) T1 (fun p3 f3 k3 T3 z3 => ?_)
  have P1 : ∀ q : Nat, q = t ∨ q = tt → ph q = none := fun q h9 => h9.elim (fun h8 => by rw [h8]; exact ht) (fun h8 => by rw [h8]; exact htt0)
  have K3 : Ext (fun _ => False) ph p3 := (K1.tr (k3.ext)).fresh P1
  have h0' : HbO p3 b V sn cn mn := K3 _ _ id h0
  have m1' := K3 _ _ id m1
  rw [ex_gR h0' (v0 := some (V 3)) rfl, ex_gI h0' rfl]
  have hbm : b ≠ V 3 := tag_ne h0' m1' (by decide)
  refine mk_sQ ⟨_, rfl, rfl⟩ T3.2.1 m1' (by decide) (on_in hlt (by omega)) ?_
  rw [on_nat (by omega), ex_gI (hset_at hbm h0') rfl, on_succ, ex_pW (fs' := [.ref (V 0), .ref (V 1), .int (Int32.ofNat sn), .ref (V 2), .int (Int32.ofNat cn), .ref (V 3), .int (Int32.ofNat (mn + 1)), .ref (V 4), .ref (V 5), .ref (V 6), .ref (V 7), .ref (V 8)]) (hset_at hbm h0') (by decide) (show 6 < 12 by decide) rfl, ex_gI hset_same rfl, on_pred]
  have hsv : Sv (fun t => t == 112 || t == 205) ph (hset (hset p3 (V 3) (205, .inr (.object "Shiftgate$Table", 8, .inr (.inr (.inr (.inr (va_up f mn (some t)))))))) b (112, .inl (12, [.ref (V 0), .ref (V 1), .int (Int32.ofNat sn), .ref (V 2), .int (Int32.ofNat cn), .ref (V 3), .int (Int32.ofNat (mn + 1)), .ref (V 4), .ref (V 5), .ref (V 6), .ref (V 7), .ref (V 8)]))) := by
    refine ⟨fun a e ha he => ?_, fun a e ha he => ?_⟩
    · exact hset_at (fun h9 => by
        subst h9
        cases ha.symm.trans h0
        cases he) (hset_at (fun h9 => by
        subst h9
        cases ha.symm.trans m1
        cases he) (K3 a e id ha))
    · exact hset_at (fun h9 => by
        subst h9
        cases ha.symm.trans h0
        exact absurd (show false = true from he) (by decide)) (hset_at (fun h9 => by
        subst h9
        cases ha.symm.trans m1
        exact absurd (show false = true from he) (by decide)) (K3 a e id ha))
  have keepT : Tb (hset (hset p3 (V 3) (205, .inr (.object "Shiftgate$Table", 8, .inr (.inr (.inr (.inr (va_up f mn (some t)))))))) b (112, .inl (12, [.ref (V 0), .ref (V 1), .int (Int32.ofNat sn), .ref (V 2), .int (Int32.ofNat cn), .ref (V 3), .int (Int32.ofNat (mn + 1)), .ref (V 4), .ref (V 5), .ref (V 6), .ref (V 7), .ref (V 8)]))) t tt r c f3 := ⟨T3.1, hset_at (tag_ne T3.2.1 h0' (by decide)) (hset_at (tag_ne T3.2.1 m1' (by decide)) T3.2.1), hset_at (tag_ne T3.2.2 h0' (by decide)) (hset_at (tag_ne T3.2.2 m1' (by decide)) T3.2.2)⟩
  have hmb : V 3 ≠ b := hbm.symm
  have old : ∀ a : Nat, (∃ e : Ent, ph a = some e) → a ≠ t ∧ a ≠ tt := fun a ⟨e, he⟩ => ⟨fun h9 => (by rw [h9, ht] at he; cases he), fun h9 => (by rw [h9, htt0] at he; cases he)⟩
  refine h (upD mD mn (r, c, f3)) _ ⟨V, A, B, cn, hset_same, h1.sv hsv rfl rfl, h2.sv hsv rfl rfl rfl, h3.sv hsv rfl rfl rfl, ⟨by omega, va_up f mn (some t), upD ta mn t, upD tb mn tt, hset_at hmb hset_same, fun j hj => ?_, fun j hj => ?_, fun i j hi hj hij => ?_⟩, h5.sv hsv rfl (fun t t1 t2 => ?_), ⟨hsv.1 _ _ h6 rfl, h6'.sv hsv rfl⟩, h7.sv hsv rfl rfl rfl rfl rfl rfl, h8.sv hsv rfl rfl rfl rfl rfl⟩
  · by_cases hjm : j = mn
    · rw [hjm, vu_s, ud_s, if_pos (by omega)]
    · rw [vu_n hjm, ud_n hjm, m2 j hj]
      by_cases h9 : j < mn
      · rw [if_pos h9, if_pos (by omega)]
      · rw [if_neg h9, if_neg (by omega)]
  · by_cases hjm : j = mn
    · rw [hjm, ud_s, ud_s, ud_s]
      refine ⟨⟨keepT, ⟨hr.1, hr.2, hc.1, hc.2⟩, fun i hi => ⟨0, by omega, z3 i hi⟩, fun i k hi hk _ => z3 _ (by omega)⟩, ?_⟩
      obtain ⟨hO, ⟨r0, c0, f0, T0⟩, ⟨r1, c1, f1, T1⟩, ⟨r2, c2, f2, T2⟩, -⟩ := h7
      exact ⟨(old _ ⟨_, T0.2.1⟩).1.symm, (old _ ⟨_, T1.2.1⟩).1.symm, (old _ ⟨_, T2.2.1⟩).1.symm, (old _ ⟨_, T0.2.2⟩).2.symm, (old _ ⟨_, T1.2.2⟩).2.symm, (old _ ⟨_, T2.2.2⟩).2.symm⟩
    · rw [ud_n hjm, ud_n hjm, ud_n hjm]
      obtain ⟨⟨T', k⟩, d⟩ := m3 j (by omega)
      exact ⟨⟨T'.sv hsv rfl rfl, k⟩, d⟩
  · by_cases him : i = mn
    · by_cases hjm : j = mn
      · omega
      · rw [him, ud_s, ud_s, ud_n hjm, ud_n hjm] at hij
        obtain ⟨⟨T', k⟩, d⟩ := m3 j (by omega)
        exact hij.elim (fun h9 => absurd h9.symm (old _ ⟨_, T'.2.1⟩).1) (fun h9 => absurd h9.symm (old _ ⟨_, T'.2.2⟩).2)
    · by_cases hjm : j = mn
      · rw [hjm, ud_s, ud_s, ud_n him, ud_n him] at hij
        obtain ⟨⟨T', k⟩, d⟩ := m3 i (by omega)
        exact hij.elim (fun h9 => absurd h9 (old _ ⟨_, T'.2.1⟩).1) (fun h9 => absurd h9 (old _ ⟨_, T'.2.2⟩).2)
      · rw [ud_n him, ud_n him, ud_n hjm, ud_n hjm] at hij
        exact m4 i j (by omega) (by omega) hij
  · have h9 : ¬ t = 112 ∧ ¬ t = 205 := by omega
    simp [h9.1, h9.2]
end MATS
