/-! codes and images in the world -/
section CODES
variable {pz : PH} {b sn mn tn : Nat} {sD : Nat → Nat × Nat × (Nat → Int32)} {mD : Nat → Nat × Nat × (Nat → Int64)} {tf : Nat → Int32} {ln ls : Nat → Nat} {ph : PH} {X : String → PH → Prop} {V A B : Nat → Nat} {cn : Nat}
theorem g_codeAt {x : Int32} {Q : Option Nat → PH → Prop} (hWa : Wa V A B cn pz b sn sD mn mD tn tf ln ls ph) (h : ∀ (c cg lt : Nat) (f : Nat → Int32), Bl ph c cg lt f → (∀ (q : PH) (f' : Nat → Int32), Fr (fun q => q = cg) ph q → Bl q c cg lt f' → Wd pz b sn sD mn mD tn tf ln ls q) → Q (some c) ph) (hn : X "java/lang/IndexOutOfBoundsException" ph) : w_X11_codeAt b x ph Q X := by
  obtain ⟨h0, h1, h2, ⟨hc6, f, cb, cg, cl, cf, c1, c2, c3, c4⟩, h4, h5, ⟨h6, h6'⟩, h7, h8⟩ := id hWa
  have no : w_X11_codeAt_31 Q X none ph := ⟨fun h8 => absurd rfl h8, fun _ => hn⟩
  unfold w_X11_codeAt
  refine ⟨fun _ => no, fun h9 => ?_⟩
  obtain ⟨i, hi, rfl⟩ := of_pos h9
  rw [ex_gI h0 rfl, on_le (by omega) hi]
  refine ⟨fun _ => no, fun k8 => ?_⟩
  rw [ex_gR h0 (v0 := some (V 2)) rfl, ex_aL c1, on_le (by omega) hi]
  refine ⟨fun k7 => absurd k7 (by omega), fun _ => ?_⟩
  rw [ex_gR h0 (v0 := some (V 2)) rfl, ex_aQ c1 (on_in (by omega) (by omega)), on_nat hi, c2 i (by omega), if_pos (by omega)]
  refine ⟨fun _ => ?_, fun h6 => absurd h6 (by simp)⟩
  have hic : i < cn := by omega
  have Bi := c3 i hic
  refine h (cb i) (cg i) (cl i) (cf i) Bi (fun q f' hF hB => ?_)
  have hs : Sv (fun t => t == 231) ph q := hF.ext.sv (fun a e hPa he => by
    have h9 : a = cg i := hPa
    subst h9
    cases he.symm.trans Bi.2.2.1
    exact ⟨rfl, rfl⟩)
  refine ⟨V, A, B, cn, hs.1 _ _ h0 rfl, h1.sv hs rfl rfl, h2.sv hs rfl rfl rfl, ⟨hc6, f, cb, cg, cl, upD cf i f', hs.1 _ _ c1 rfl, c2, fun j hj => ?_, c4⟩, h4.sv hs rfl rfl rfl, h5.sv hs rfl (fun t t1 t2 => ?_), ⟨hs.1 _ _ h6 rfl, h6'.sv hs rfl⟩, h7.sv hs rfl rfl rfl rfl rfl rfl, h8.sv hs rfl rfl rfl rfl rfl⟩
  · by_cases hij : j = i
    · subst hij
      rw [ud_s]
      exact hB
    · rw [ud_n hij]
      have Bj := c3 j hj
      exact ⟨Bj.1, hs.1 _ _ Bj.2.1 rfl, (hF (cg j) (fun h9 => hij (c4 j i hj hic h9))).trans Bj.2.2.1, Bj.2.2.2⟩
  · have h9 : ¬ t = 231 := by omega
    simp [h9]
theorem a_code {lt : Nat} {Q : Int32 → PH → Prop} (hl : 2 ≤ lt ∧ lt ≤ 3) (hW : Wd pz b sn sD mn mD tn tf ln ls ph) (h : ∀ (k : Nat) (ph' : PH), k ≤ 6 → Wd pz b sn sD mn mD tn tf ln ls ph' → Q (Int32.ofNat k) ph') (hs : X "java/lang/IllegalStateException" ph) : w_X11_code b (Int32.ofNat lt) ph Q X := by
  obtain ⟨V, A, B, cn, h0, h1, h2, ⟨hc6, f, cb, cg, cl, cf, c1, c2, c3, c4⟩, h4, h5, ⟨h6, h6'⟩, h7, h8⟩ := id hW
  unfold w_X11_code
  refine g_demandRange (lo := 2) (hi := 3) (by omega) (by omega) (by omega) (fun _ _ => ?_) (fun h9 => absurd hl h9)
  rw [ex_gI h0 rfl]
  refine ⟨fun h9 => absurd h9 (on_neg (by omega)), fun _ => ?_⟩
  rw [ex_gI h0 rfl, ex_gR h0 (v0 := some (V 2)) rfl, ex_aL c1, on_lt (by omega) (by omega)]
  refine ⟨fun hlt => ?_, fun _ => hs⟩
  rw [ex_gR h0 (v0 := some (V 2)) rfl, ex_gI h0 rfl]
  intro t p0 ht hp0
  subst hp0
  refine ⟨t, rfl, ?_⟩
  unfold w_X1_init
  refine ⟨t, rfl, ?_⟩
  rw [ex_pW (fs' := [.int (Int32.ofNat lt), .null]) hset_same (by decide) (show 0 < 2 by decide) rfl, hset_hset]
  intro tt p1 htt hp1
  subst hp1
  have hne : tt ≠ t := fun h9 => by
    rw [h9, hset_same] at htt
    cases htt
  have htt0 : ph tt = none := (hset_ne hne).symm.trans htt
  rw [ex_pW (fs' := [.int (Int32.ofNat lt), va_rf (some tt)]) (hset_at hne.symm hset_same) (by decide) (show 1 < 2 by decide) rfl]
  have K1 : Ext (fun q => q = t ∨ q = tt) ph (hset (hset (hset ph t (104, .inl (4, [.int (Int32.ofNat lt), .null]))) tt (231, .inr (.int, 9, .inl (fun _ => 0)))) t (104, .inl (4, [.int (Int32.ofNat lt), va_rf (some tt)]))) := (Ext.new ht).tr ((Ext.new htt).tr (Ext.set (Or.inl rfl)))
  have T1 : Bl (hset (hset (hset ph t (104, .inl (4, [.int (Int32.ofNat lt), .null]))) tt (231, .inr (.int, 9, .inl (fun _ => 0)))) t (104, .inl (4, [.int (Int32.ofNat lt), va_rf (some tt)]))) t tt lt (fun _ => 0) := ⟨hl, hset_same, hset_at hne hset_same, fun i hi => ⟨0, by omega, rfl⟩⟩
  generalize hset (hset (hset ph t (104, .inl (4, [.int (Int32.ofNat lt), .null]))) tt (231, .inr (.int, 9, .inl (fun _ => 0)))) t (104, .inl (4, [.int (Int32.ofNat lt), va_rf (some tt)])) = p3 at K1 T1 ⊢
  have P1 : ∀ q : Nat, q = t ∨ q = tt → ph q = none := fun q h9 => h9.elim (fun h8 => by rw [h8]; exact ht) (fun h8 => by rw [h8]; exact htt0)
  have K3 : Ext (fun _ => False) ph p3 := K1.fresh P1
  have h0' : HbO p3 b V sn cn mn := K3 _ _ id h0
  have m1' := K3 _ _ id c1
  have hbm : b ≠ V 2 := tag_ne h0' m1' (by decide)
  refine mk_sQ ⟨_, rfl, rfl⟩ T1.2.1 m1' (by decide) (on_in hlt (by omega)) ?_
  rw [on_nat (by omega), ex_gI (hset_at hbm h0') rfl, on_succ, ex_pW (fs' := [.ref (V 0), .ref (V 1), .int (Int32.ofNat sn), .ref (V 2), .int (Int32.ofNat (cn + 1)), .ref (V 3), .int (Int32.ofNat mn), .ref (V 4), .ref (V 5), .ref (V 6), .ref (V 7), .ref (V 8)]) (hset_at hbm h0') (by decide) (show 4 < 12 by decide) rfl, ex_gI hset_same rfl, on_pred]
  have hsv : Sv (fun t => t == 112 || t == 204) ph (hset (hset p3 (V 2) (204, .inr (.object "Shiftgate$Block", 6, .inr (.inr (.inr (.inr (va_up f cn (some t)))))))) b (112, .inl (12, [.ref (V 0), .ref (V 1), .int (Int32.ofNat sn), .ref (V 2), .int (Int32.ofNat (cn + 1)), .ref (V 3), .int (Int32.ofNat mn), .ref (V 4), .ref (V 5), .ref (V 6), .ref (V 7), .ref (V 8)]))) := by
    refine ⟨fun a e ha he => ?_, fun a e ha he => ?_⟩
    · exact hset_at (fun h9 => by
        subst h9
        cases ha.symm.trans h0
        cases he) (hset_at (fun h9 => by
        subst h9
        cases ha.symm.trans c1
        cases he) (K3 a e id ha))
    · exact hset_at (fun h9 => by
        subst h9
        cases ha.symm.trans h0
        exact absurd (show false = true from he) (by decide)) (hset_at (fun h9 => by
        subst h9
        cases ha.symm.trans c1
        exact absurd (show false = true from he) (by decide)) (K3 a e id ha))
  have keepT : Bl (hset (hset p3 (V 2) (204, .inr (.object "Shiftgate$Block", 6, .inr (.inr (.inr (.inr (va_up f cn (some t)))))))) b (112, .inl (12, [.ref (V 0), .ref (V 1), .int (Int32.ofNat sn), .ref (V 2), .int (Int32.ofNat (cn + 1)), .ref (V 3), .int (Int32.ofNat mn), .ref (V 4), .ref (V 5), .ref (V 6), .ref (V 7), .ref (V 8)]))) t tt lt (fun _ => 0) := ⟨T1.1, hset_at (tag_ne T1.2.1 h0' (by decide)) (hset_at (tag_ne T1.2.1 m1' (by decide)) T1.2.1), hset_at (tag_ne T1.2.2.1 h0' (by decide)) (hset_at (tag_ne T1.2.2.1 m1' (by decide)) T1.2.2.1), T1.2.2.2⟩
  have old : ∀ a : Nat, (∃ e : Ent, ph a = some e) → a ≠ tt := fun a ⟨e, he⟩ h9 => by
    rw [h9, htt0] at he
    cases he
  refine h cn _ hc6 ⟨V, A, B, cn + 1, hset_same, h1.sv hsv rfl rfl, h2.sv hsv rfl rfl rfl, ⟨by omega, va_up f cn (some t), upD cb cn t, upD cg cn tt, upD cl cn lt, upD cf cn (fun _ => 0), hset_at hbm.symm hset_same, fun j hj => ?_, fun j hj => ?_, fun i j hi hj hij => ?_⟩, h4.sv hsv rfl rfl rfl, h5.sv hsv rfl (fun t t1 t2 => ?_), ⟨hsv.1 _ _ h6 rfl, h6'.sv hsv rfl⟩, h7.sv hsv rfl rfl rfl rfl rfl rfl, h8.sv hsv rfl rfl rfl rfl rfl⟩
  · by_cases hjm : j = cn
    · rw [hjm, vu_s, ud_s, if_pos (by omega)]
    · rw [vu_n hjm, ud_n hjm, c2 j hj]
      by_cases h9 : j < cn
      · rw [if_pos h9, if_pos (by omega)]
      · rw [if_neg h9, if_neg (by omega)]
  · by_cases hjm : j = cn
    · rw [hjm, ud_s, ud_s, ud_s, ud_s]
      exact keepT
    · rw [ud_n hjm, ud_n hjm, ud_n hjm, ud_n hjm]
      exact (c3 j (by omega)).sv hsv rfl rfl
  · by_cases him : i = cn
    · by_cases hjm : j = cn
      · omega
      · rw [him, ud_s, ud_n hjm] at hij
        exact absurd hij.symm (old _ ⟨_, (c3 j (by omega)).2.2.1⟩)
    · by_cases hjm : j = cn
      · rw [hjm, ud_s, ud_n him] at hij
        exact absurd hij (old _ ⟨_, (c3 i (by omega)).2.2.1⟩)
      · rw [ud_n him, ud_n hjm] at hij
        exact c4 i j (by omega) (by omega) hij
  · have h9 : ¬ t = 112 ∧ ¬ t = 204 := by omega
    simp [h9.1, h9.2]
theorem a_set {x p q r : Int32} {Q : Int32 → PH → Prop} (hW : Wd pz b sn sD mn mD tn tf ln ls ph) (h : ∀ (k : Nat) (ph' : PH), k < 1000 → Wd pz b sn sD mn mD tn tf ln ls ph' → Q (Int32.ofNat k) ph') (hn : X "java/lang/IndexOutOfBoundsException" ph) (ha : X "java/lang/IllegalArgumentException" ph) : w_X11_set b x p q r ph Q X := by
  obtain ⟨V, A, B, cn, hWa⟩ := id hW
  unfold w_X11_set
  rw [ex_isO hWa.1]
  refine g_codeAt hWa (fun c cg lt f hB hch => ?_) hn
  refine g_letterOfA (fun l1 _ => g_letterOfA (fun l2 _ => g_letterOfA (fun l3 _ => ?_)))
  rw [ex_isO hB.2.1]
  refine g_bHas hB (fun i hi ei => ⟨fun h9 => absurd h9 (by decide), fun _ => ?_⟩) (fun _ => ⟨fun _ => ha, fun h9 => absurd rfl h9⟩)
  rw [ex_isO hB.2.1]
  refine g_bHas hB (fun j hj ej => ⟨fun h9 => absurd h9 (by decide), fun _ => ?_⟩) (fun _ => ⟨fun _ => ha, fun h9 => absurd rfl h9⟩)
  rw [ex_isO hB.2.1]
  refine g_bHas hB (fun k hk ek => ⟨fun _ => ?_, fun h9 => absurd h9 (by decide)⟩) (fun _ => ⟨fun h9 => absurd rfl h9, fun _ => ha⟩)
  subst ek
  rw [ex_isO hB.2.1]
  refine g_givenA hB (fun a ha' => ?_)
  rw [ex_isO hB.2.1]
  refine g_give hk hB (fun p f' hF hB' => ?_)
  exact g_signOf ha' (fun hc _ => ⟨hc, h (97 + a) p (by omega) (hch p f' hF hB')⟩)
theorem a_slide {x : Int32} {Q : Int32 → PH → Prop} (hW : Wd pz b sn sD mn mD tn tf ln ls ph) (h : ∀ (tf' : Nat → Int32) (ph' : PH), tn ≤ 40 → Wd pz b sn sD mn mD (tn - 1) tf' ln ls ph' → Q (Int32.ofNat (tn - 1)) ph') (hn : X "java/lang/IndexOutOfBoundsException" ph) (hu : X "java/lang/UnsupportedOperationException" ph) : w_X11_slide b x ph Q X := by
  obtain ⟨V, A, B, cn, hWa⟩ := id hW
  obtain ⟨h0, h1, -⟩ := id hWa
  have h40 := h1.2.2.1
  unfold w_X11_slide
  rw [ex_isO h0]
  refine g_codeAt hWa (fun c cg lt f hB hch => ?_) hn
  rw [ex_gR h0 (v0 := some (V 0)) rfl, ex_gI h1.1 rfl, show (2 : Int32) = Int32.ofNat 2 from rfl, on_lt (by omega) (by omega)]
  refine ⟨fun _ => hu, fun h9 => ?_⟩
  rw [ex_gR h0 (v0 := some (V 0)) rfl, ex_gI hB.2.1 rfl, ex_isO h1.1]
  refine g_hasOnlyLetters hB.1.2 h1 ⟨fun h9 => absurd rfl h9, fun _ => hu⟩ (fun _ => ⟨fun _ => ?_, fun h9 => absurd h9 (by decide)⟩)
  rw [ex_gR h0 (v0 := some (V 0)) rfl, ex_isO h1.1]
  refine g_slideBy (by omega) h1 hB (fun p f' hE hT => ?_)
  have W2 := hWa.tape hE hT
  obtain ⟨k0, k1, -⟩ := id W2
  rw [ex_gR k0 (v0 := some (V 0)) rfl, ex_gI k1.1 rfl]
  exact h f' p h40 ⟨V, A, B, cn, W2⟩
theorem a_image {x y : Int32} {Q : Int32 → PH → Prop} (hW : Wd pz b sn sD mn mD tn tf ln ls ph) (h : ∀ (j : Nat) (D : Nat × Nat × (Nat → Int32)) (ph' : PH), j < sn → y = Int32.ofNat j → (∀ k : Nat, 1 ≤ wdN D k ∧ wdN D k ≤ wdN (sD j) (k + 1)) → Wd pz b (sn + 1) (upD sD sn D) mn mD tn tf ln ls ph' → Q (Int32.ofNat sn) ph') (hn : X "java/lang/IndexOutOfBoundsException" ph) (hu : X "java/lang/UnsupportedOperationException" ph) (hs : X "java/lang/IllegalStateException" ph) : w_X11_image b x y ph Q X := by
  obtain ⟨V, A, B, cn, hWa⟩ := id hW
  obtain ⟨h0, h1, h2, -⟩ := id hWa
  unfold w_X11_image
  rw [ex_isO h0]
  refine g_codeAt hWa (fun c cg lt f hB _ => ?_) hn
  rw [ex_isO h0]
  refine g_shiftAt h0 h2 (fun j g ge hj ej G => ?_) (fun _ => hn)
  have b1 := G.1
  have b2 := hB.1
  rw [ex_gI hB.2.1 rfl, ex_gI G.2.1 rfl, on_inj (by omega) (by omega)]
  refine ⟨fun hl => ?_, fun _ => hu⟩
  rw [ex_isO G.2.1]
  refine g_liveSet G.gr (g_countPairs G.gr ?_)
  have hcp : cpN (sD j).1 (sD j).2.1 (sD j).2.2 ≤ 189 := by
    have h9 := sumN_le (n := (sD j).2.1) (B := 63) (f := fun a => bc (rdL (sD j).1 (sD j).2.2 (live (sD j).1 (sD j).2.1 (sD j).2.2) (live (sD j).1 (sD j).2.1 (sD j).2.2) a)) (fun a _ => by
      have := bc_lt (rdL (sD j).1 (sD j).2.2 (live (sD j).1 (sD j).2.1 (sD j).2.2) (live (sD j).1 (sD j).2.1 (sD j).2.2) a)
      omega)
    have h8 : cpN (sD j).1 (sD j).2.1 (sD j).2.2 ≤ (sD j).2.1 * 63 := h9
    omega
  rw [show (1 : Int32) = Int32.ofNat 1 from rfl, on_lt (by omega) (by omega), show (24 : Int32) = Int32.ofNat 24 from rfl, on_le (by omega) (by omega)]
  refine ⟨fun _ => hu, fun hc1 => ⟨fun hc2 => ?_, fun _ => hu⟩⟩
  rw [ex_isO h0]
  refine g_demandRoom hW (fun h8 => ?_) (fun _ => hs)
  subst hl
  have hgv : ∀ a d : Nat, a < (sD j).2.1 → d < (sD j).2.1 → (f (3 * a + d)).toNatClampNeg < (sD j).2.1 ∧ f (3 * a + d) = Int32.ofNat (f (3 * a + d)).toNatClampNeg := by
    intro a d ha hd
    obtain ⟨e, he, ee⟩ := hB.2.2.2 (3 * a + d) (by omega)
    rw [ee, on_nat (by omega)]
    exact ⟨he, rfl⟩
  have hrk := cp_rk (E := (sD j).2.2) (lt := (sD j).2.1) (show (sD j).1 ≤ 24 by omega) (by omega)
  refine g_byImage (gv := fun a d => (f (3 * a + d)).toNatClampNeg) hB hgv G.gr rfl (by omega) hc2 (fun p g2 ge2 EH hg hge hK G2 hE => ?_)
  refine g_addShift hW h8 hK hg hge (D := (_, _, EH)) G2 (fun p2 hW2 => h j _ p2 hj ej (fun k => ⟨?_, ?_⟩) hW2)
  · exact cw_pos hc2 (img_live (by omega) (by omega) hrk.symm (by omega) hc2 (fun a d ha hd => (hgv a d ha hd).1) hE) k
  · exact img_words (by omega) (by omega) hrk.symm hc2 (fun a d ha hd => (hgv a d ha hd).1) hE k
end CODES
