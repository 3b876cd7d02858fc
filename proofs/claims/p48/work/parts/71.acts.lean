/-! what changes the world -/
section ACTS
variable {pz : PH} {b sn mn tn : Nat} {sD : Nat → Nat × Nat × (Nat → Int32)} {mD : Nat → Nat × Nat × (Nat → Int64)} {tf : Nat → Int32} {ln ls : Nat → Nat} {ph : PH} {X : String → PH → Prop} {V A B : Nat → Nat} {cn : Nat}
theorem Wa.tape {q : PH} {tn' : Nat} {tf' : Nat → Int32} (hWa : Wa V A B cn pz b sn sD mn mD tn tf ln ls ph) (hE : Ext (two (V 0) (V 9)) ph q) (hT : Tp q (V 0) (V 9) tn' tf') : Wa V A B cn pz b sn sD mn mD tn' tf' ln ls q := by
  obtain ⟨h0, h1, h2, h3, h4, h5, ⟨h6, h6'⟩, h7, h8⟩ := hWa
  have hs : Sv (fun t => t == 110 || t == 202) ph q := hE.sv (fun a e hPa he => by
    rcases hPa with h9 | h9 <;> subst h9
    · cases he.symm.trans h1.1; exact ⟨rfl, rfl⟩
    · cases he.symm.trans h1.2.1; exact ⟨rfl, rfl⟩)
  refine ⟨hs.1 _ _ h0 rfl, hT, h2.sv hs rfl rfl rfl, h3.sv hs rfl rfl rfl, h4.sv hs rfl rfl rfl, h5.sv hs rfl (fun t t1 t2 => ?_), ⟨hs.1 _ _ h6 rfl, h6'.sv hs rfl⟩, h7.sv hs rfl rfl rfl rfl rfl rfl, h8.sv hs rfl rfl rfl rfl rfl⟩
  have h9 : ¬ t = 110 ∧ ¬ t = 202 := by omega
  simp [h9.1, h9.2]
theorem Wa.repl {q : PH} {ln' ls' : Nat → Nat} (hWa : Wa V A B cn pz b sn sD mn mD tn tf ln ls ph) (hE : Fr (fun q => q = V 15 ∨ q = V 16) ph q) (hT : Rp q (V 8) (V 15) (V 16) (V 17) (V 18) ln' ls') : Wa V A B cn pz b sn sD mn mD tn tf ln' ls' q := by
  obtain ⟨h0, h1, h2, h3, h4, h5, ⟨h6, h6'⟩, h7, h8⟩ := hWa
  have hs : Sv (fun t => t == 226 || t == 227) ph q := hE.ext.sv (fun a e hPa he => by
    obtain ⟨e0, ⟨f1, e1, p1⟩, ⟨f2, e2, p2⟩, -⟩ := h8
    rcases hPa with h9 | h9 <;> subst h9
    · cases he.symm.trans e1; exact ⟨rfl, rfl⟩
    · cases he.symm.trans e2; exact ⟨rfl, rfl⟩)
  refine ⟨hs.1 _ _ h0 rfl, h1.sv hs rfl rfl, h2.sv hs rfl rfl rfl, h3.sv hs rfl rfl rfl, h4.sv hs rfl rfl rfl, h5.sv hs rfl (fun t t1 t2 => ?_), ⟨hs.1 _ _ h6 rfl, h6'.sv hs rfl⟩, h7.sv hs rfl rfl rfl rfl rfl rfl, hT⟩
  have h9 : ¬ t = 226 ∧ ¬ t = 227 := by omega
  simp [h9.1, h9.2]
theorem Wa.shf {t tt j : Nat} (hWa : Wa V A B cn pz b sn sD mn mD tn tf ln ls ph) (hj : j < sn) (f : Nat → Option Nat) (sg se : Nat → Nat) (m1 : ph (V 1) = some (203, .inr (.object "Shiftgate$Graph", 8, .inr (.inr (.inr (.inr f)))))) (m2 : ∀ j : Nat, j < 8 → f j = if j < sn then some (sg j) else none) (m3 : ∀ j : Nat, j < sn → GrA ph (sg j) (se j) (sD j).1 (sD j).2.1 (sD j).2.2) (m4 : ∀ i j : Nat, i < sn → j < sn → se i = se j → i = j) (ht : t = sg j) (htt : tt = se j) (q : PH) (D : Nat × Nat × (Nat → Int32)) (hF : Fr (fun q => q = tt) ph q) (hD : GrA q t tt D.1 D.2.1 D.2.2) : Wd pz b sn (upD sD j D) mn mD tn tf ln ls q := by
  subst ht
  subst htt
  obtain ⟨h0, h1, ⟨hs8, -⟩, h3, h4, h5, ⟨h6, h6'⟩, h7, h8⟩ := hWa
  have G := m3 j hj
  have hs : Sv (fun t => t == 230) ph q := hF.ext.sv (fun a e hPa he => by
    have h9 : a = se j := hPa
    subst h9
    cases he.symm.trans G.2.2
    exact ⟨rfl, rfl⟩)
  refine ⟨V, A, B, cn, hs.1 _ _ h0 rfl, h1.sv hs rfl rfl, ⟨hs8, f, sg, se, hs.1 _ _ m1 rfl, m2, fun i hi => ?_, m4⟩, h3.sv hs rfl rfl rfl, h4.sv hs rfl rfl rfl, h5.sv hs rfl (fun t t1 t2 => ?_), ⟨hs.1 _ _ h6 rfl, h6'.sv hs rfl⟩, h7.sv hs rfl rfl rfl rfl rfl rfl, h8.sv hs rfl rfl rfl rfl rfl⟩
  · by_cases hij : i = j
    · subst hij
      rw [ud_s]
      exact hD
    · rw [ud_n hij]
      have G' := m3 i hi
      exact ⟨G'.1, hs.1 _ _ G'.2.1 rfl, (hF (se i) (fun h9 => hij (m4 i j hi hj h9))).trans G'.2.2⟩
  · have h9 : ¬ t = 230 := by omega
    simp [h9]
theorem g_shiftAt2 {x : Int32} {Q : Option Nat → PH → Prop} (hWa : Wa V A B cn pz b sn sD mn mD tn tf ln ls ph) (h : ∀ j g ge : Nat, j < sn → x = Int32.ofNat j → GrA ph g ge (sD j).1 (sD j).2.1 (sD j).2.2 → (∀ (q : PH) (D : Nat × Nat × (Nat → Int32)), Fr (fun q => q = ge) ph q → GrA q g ge D.1 D.2.1 D.2.2 → Wd pz b sn (upD sD j D) mn mD tn tf ln ls q) → Q (some g) ph) (hn : X "java/lang/IndexOutOfBoundsException" ph) : w_X11_shiftAt b x ph Q X := by
  obtain ⟨h0, h1, ⟨hs8, f, sg, se, e1, e2, e3, e4⟩, -⟩ := id hWa
  unfold w_X11_shiftAt
  rw [ex_isO h0]
  unfold w_X11_shiftOrNull
  refine ⟨fun h9 => ⟨fun h8 => absurd rfl h8, fun _ => hn⟩, fun h9 => ?_⟩
  obtain ⟨i, hi, rfl⟩ := of_pos h9
  rw [ex_gI h0 rfl, on_le (by omega) hi]
  refine ⟨fun h8 => ⟨fun h8 => absurd rfl h8, fun _ => hn⟩, fun h8 => ?_⟩
  rw [ex_gR h0 (v0 := some (V 1)) rfl, ex_aL e1, on_le (by omega) hi]
  refine ⟨fun h7 => absurd h7 (by omega), fun _ => ?_⟩
  rw [ex_gR h0 (v0 := some (V 1)) rfl, ex_aQ e1 (on_in (by omega) (by omega)), on_nat hi, e2 i (by omega), if_pos (by omega)]
  refine ⟨fun _ => ?_, fun h6 => absurd h6 (by simp)⟩
  exact h i (sg i) (se i) (by omega) rfl (e3 i (by omega)) (fun q D hF hD => hWa.shf (by omega) f sg se e1 e2 e3 e4 rfl rfl q D hF hD)
theorem g_demandRoom {Q : PH → Prop} (hW : Wd pz b sn sD mn mD tn tf ln ls ph) (h : sn < 8 → Q ph) (hs : ¬ sn < 8 → X "java/lang/IllegalStateException" ph) : w_X11_demandRoomForShift b ph Q X := by
  obtain ⟨V, A, B, cn, h0, h1, ⟨hs8, f, sg, se, e1, e2, e3, e4⟩, -⟩ := hW
  unfold w_X11_demandRoomForShift
  rw [ex_gI h0 rfl]
  refine ⟨fun h9 => absurd h9 (on_neg (by omega)), fun _ => ?_⟩
  rw [ex_gI h0 rfl, ex_gR h0 (v0 := some (V 1)) rfl, ex_aL e1, on_lt (by omega) (by omega)]
  exact ⟨h, hs⟩
theorem g_addShift {p0 : PH} {g ge : Nat} {D : Nat × Nat × (Nat → Int32)} {Q : Int32 → PH → Prop} (hW : Wd pz b sn sD mn mD tn tf ln ls p0) (hsn : sn < 8) (hK : Ext (fun _ => False) p0 ph) (hg : p0 g = none) (hge : p0 ge = none) (G : GrA ph g ge D.1 D.2.1 D.2.2) (h : ∀ ph' : PH, Wd pz b (sn + 1) (upD sD sn D) mn mD tn tf ln ls ph' → Q (Int32.ofNat sn) ph') : (∃ a : Nat, isO ph (some b) 12 a ∧ w_X11_addShift a (some g) ph Q X) := by
  obtain ⟨V, A, B, cn, h0, h1, ⟨hs8, f, sg, se, e1, e2, e3, e4⟩, h3, h4, h5, ⟨h6, h6'⟩, h7, h8⟩ := hW
  have h0' : HbO ph b V sn cn mn := hK _ _ id h0
  have e1' := hK _ _ id e1
  have hbm : b ≠ V 1 := tag_ne h0' e1' (by decide)
  rw [ex_isO h0']
  unfold w_X11_addShift
  rw [ex_gI h0' rfl]
  refine ⟨fun h9 => absurd h9 (on_neg (by omega)), fun _ => ?_⟩
  rw [ex_gR h0' (v0 := some (V 1)) rfl, ex_aL e1', on_le (by omega) (by omega)]
  refine ⟨fun h9 => absurd h9 (by omega), fun _ => ?_⟩
  rw [ex_gR h0' (v0 := some (V 1)) rfl]
  refine mk_sQ ⟨_, rfl, rfl⟩ G.2.1 e1' (by decide) (on_in hsn (by omega)) ?_
  rw [on_nat (by omega), ex_gI (hset_at hbm h0') rfl, on_succ, ex_pW (fs' := [.ref (V 0), .ref (V 1), .int (Int32.ofNat (sn + 1)), .ref (V 2), .int (Int32.ofNat cn), .ref (V 3), .int (Int32.ofNat mn), .ref (V 4), .ref (V 5), .ref (V 6), .ref (V 7), .ref (V 8)]) (hset_at hbm h0') (by decide) (show 2 < 12 by decide) rfl]
  have hsv : Sv (fun t => t == 112 || t == 203) p0 (hset (hset ph (V 1) (203, .inr (.object "Shiftgate$Graph", 8, .inr (.inr (.inr (.inr (va_up f sn (some g)))))))) b (112, .inl (12, [.ref (V 0), .ref (V 1), .int (Int32.ofNat (sn + 1)), .ref (V 2), .int (Int32.ofNat cn), .ref (V 3), .int (Int32.ofNat mn), .ref (V 4), .ref (V 5), .ref (V 6), .ref (V 7), .ref (V 8)]))) := by
    refine ⟨fun a e ha he => ?_, fun a e ha he => ?_⟩
    · exact hset_at (fun h9 => by
        subst h9
        cases ha.symm.trans h0
        cases he) (hset_at (fun h9 => by
        subst h9
        cases ha.symm.trans e1
        cases he) (hK a e id ha))
    · exact hset_at (fun h9 => by
        subst h9
        cases ha.symm.trans h0
        exact absurd (show false = true from he) (by decide)) (hset_at (fun h9 => by
        subst h9
        cases ha.symm.trans e1
        exact absurd (show false = true from he) (by decide)) (hK a e id ha))
  have keepG : GrA (hset (hset ph (V 1) (203, .inr (.object "Shiftgate$Graph", 8, .inr (.inr (.inr (.inr (va_up f sn (some g)))))))) b (112, .inl (12, [.ref (V 0), .ref (V 1), .int (Int32.ofNat (sn + 1)), .ref (V 2), .int (Int32.ofNat cn), .ref (V 3), .int (Int32.ofNat mn), .ref (V 4), .ref (V 5), .ref (V 6), .ref (V 7), .ref (V 8)]))) g ge D.1 D.2.1 D.2.2 := ⟨G.1, hset_at (tag_ne G.2.1 h0' (by decide)) (hset_at (tag_ne G.2.1 e1' (by decide)) G.2.1), hset_at (tag_ne G.2.2 h0' (by decide)) (hset_at (tag_ne G.2.2 e1' (by decide)) G.2.2)⟩
  have old : ∀ a : Nat, (∃ e : Ent, p0 a = some e) → a ≠ ge := fun a ⟨e, he⟩ h9 => by
    rw [h9, hge] at he
    cases he
  refine h _ ⟨V, A, B, cn, hset_same, h1.sv hsv rfl rfl, ⟨by omega, va_up f sn (some g), upD sg sn g, upD se sn ge, hset_at hbm.symm hset_same, fun j hj => ?_, fun j hj => ?_, fun i j hi hj hij => ?_⟩, h3.sv hsv rfl rfl rfl, h4.sv hsv rfl rfl rfl, h5.sv hsv rfl (fun t t1 t2 => ?_), ⟨hsv.1 _ _ h6 rfl, h6'.sv hsv rfl⟩, h7.sv hsv rfl rfl rfl rfl rfl rfl, h8.sv hsv rfl rfl rfl rfl rfl⟩
  · by_cases hjm : j = sn
    · rw [hjm, vu_s, ud_s, if_pos (by omega)]
    · rw [vu_n hjm, ud_n hjm, e2 j hj]
      by_cases h9 : j < sn
      · rw [if_pos h9, if_pos (by omega)]
      · rw [if_neg h9, if_neg (by omega)]
  · by_cases hjm : j = sn
    · rw [hjm, ud_s, ud_s, ud_s]
      exact keepG
    · rw [ud_n hjm, ud_n hjm, ud_n hjm]
      exact (e3 j (by omega)).sv hsv rfl rfl
  · by_cases him : i = sn
    · by_cases hjm : j = sn
      · omega
      · rw [him, ud_s, ud_n hjm] at hij
        exact absurd hij.symm (old _ ⟨_, (e3 j (by omega)).2.2⟩)
    · by_cases hjm : j = sn
      · rw [hjm, ud_s, ud_n him] at hij
        exact absurd hij (old _ ⟨_, (e3 i (by omega)).2.2⟩)
      · rw [ud_n him, ud_n hjm] at hij
        exact e4 i j (by omega) (by omega) hij
  · have h9 : ¬ t = 112 ∧ ¬ t = 203 := by omega
    simp [h9.1, h9.2]
theorem a_shift {st lt : Nat} {Q : Int32 → PH → Prop} (h1 : 1 ≤ st ∧ st ≤ 12) (h2 : 2 ≤ lt ∧ lt ≤ 3) (hW : Wd pz b sn sD mn mD tn tf ln ls ph) (h : ∀ (D : Nat × Nat × (Nat → Int32)) (ph' : PH), Wd pz b (sn + 1) (upD sD sn D) mn mD tn tf ln ls ph' → Q (Int32.ofNat sn) ph') (hs : X "java/lang/IllegalStateException" ph) : w_X11_shift b (Int32.ofNat st) (Int32.ofNat lt) ph Q X := by
  unfold w_X11_shift
  refine g_demandRange (lo := 1) (hi := 12) (by omega) (by omega) (by omega) (fun _ _ => ?_) (fun h9 => absurd h1 h9)
  refine g_demandRange (lo := 2) (hi := 3) (by omega) (by omega) (by omega) (fun _ _ => ?_) (fun h9 => absurd h2 h9)
  refine hW.obj ?_
  refine g_demandRoom hW (fun h8 => ?_) (fun _ => hs)
  intro g p1 hg hp1
  subst hp1
  refine ⟨g, rfl, ?_⟩
  refine g_X3_init rfl ⟨by omega, by omega, h2.1, h2.2⟩ hset_same (fun p2 ge hge k2 G => ?_)
  have hgg : ge ≠ g := fun h9 => by
    rw [h9, hset_same] at hge
    cases hge
  have hge2 : ph ge = none := (hset_ne hgg).symm.trans hge
  have K : Ext (fun q => q = g) ph p2 := (Ext.new hg).tr k2
  exact g_addShift hW h8 (K.fresh (fun q h9 => by rw [h9]; exact hg)) hg hge2 (D := (st, lt, fun _ => 0)) G (fun p hW' => h _ p hW')
theorem a_forbid {lt : Nat} {Q : Int32 → PH → Prop} (h2 : 2 ≤ lt ∧ lt ≤ 3) (hW : Wd pz b sn sD mn mD tn tf ln ls ph) (h : ∀ (D : Nat × Nat × (Nat → Int32)) (tf' : Nat → Int32) (ph' : PH), Wd pz b (sn + 1) (upD sD sn D) mn mD 0 tf' ln ls ph' → Q (Int32.ofNat sn) ph') (hs : X "java/lang/IllegalStateException" ph) (hu : X "java/lang/UnsupportedOperationException" ph) : w_X11_forbid b (Int32.ofNat lt) ph Q X := by
  obtain ⟨V, A, B, cn, h0, h1, -⟩ := id hW
  unfold w_X11_forbid
  refine g_demandRange (lo := 2) (hi := 3) (by omega) (by omega) (by omega) (fun _ _ => ?_) (fun h9 => absurd h2 h9)
  rw [ex_gR h0 (v0 := some (V 0)) rfl, ex_isO h1.1]
  refine g_isForbidden h1 ⟨fun h9 => absurd rfl h9, fun _ => hu⟩ ⟨fun _ => ?_, fun h9 => absurd h9 (by decide)⟩
  rw [ex_isO h0]
  refine g_demandRoom hW (fun h8 => ?_) (fun _ => hs)
  rw [ex_gR h0 (v0 := some (V 0)) rfl]
  refine g_byForbidden h2 h1 (fun p g ge E hg hge hK G => ?_)
  refine g_addShift hW h8 hK hg hge (D := (lt * lt, lt, E)) G (fun p2 hW2 => ?_)
  obtain ⟨V', A', B', cn', hWa'⟩ := hW2
  obtain ⟨k0, k1, -⟩ := id hWa'
  rw [ex_gR k0 (v0 := some (V' 0)) rfl, ex_isO k1.1]
  unfold w_X9_empty
  rw [ex_pW (fs' := [.ref (V' 9), .int 0]) k1.1 (by decide) (show 1 < 2 by decide) rfl]
  exact h _ tf _ ⟨V', A', B', cn', hWa'.tape (Ext.set (Or.inl rfl)) ⟨hset_same, hset_at (tag_ne k1.2.1 k1.1 (by decide)) k1.2.1, by omega, fun i hi => absurd hi (Nat.not_lt_zero i)⟩⟩
theorem a_gaps {k : Nat} {Q : Int32 → PH → Prop} (hk : k < 2 ^ 20) (hW : Wd pz b sn sD mn mD tn tf ln ls ph) (h : ∀ (D : Nat × Nat × (Nat → Int32)) (ph' : PH), Wd pz b (sn + 1) (upD sD sn D) mn mD tn tf ln ls ph' → Q (Int32.ofNat sn) ph') (ha : X "java/lang/IllegalArgumentException" ph) (hs : X "java/lang/IllegalStateException" ph) : w_X11_gaps b (Int32.ofNat k) ph Q X := by
  unfold w_X11_gaps
  refine g_demandRange (lo := 1) (hi := 255) (by omega) (by omega) (by omega) (fun k1 k2 => ?_) (fun _ => ha)
  refine hW.obj ?_
  refine g_demandRoom hW (fun h8 => ?_) (fun _ => hs)
  refine g_byGaps ⟨k1, k2⟩ (fun p g ge st E hg hge hK G => ?_)
  exact g_addShift hW h8 hK hg hge (D := (st, 2, E)) G (fun p2 hW2 => h _ p2 hW2)
theorem a_edge {x fr c to v : Int32} {Q : Int32 → PH → Prop} (hW : Wd pz b sn sD mn mD tn tf ln ls ph) (h : ∀ (w : Int32) (sD' : Nat → Nat × Nat × (Nat → Int32)) (ph' : PH), (w = 0 ∨ w = 1) → Wd pz b sn sD' mn mD tn tf ln ls ph' → Q w ph') (hn : X "java/lang/IndexOutOfBoundsException" ph) (ha : X "java/lang/IllegalArgumentException" ph) : w_X11_edge b x fr c to v ph Q X := by
  obtain ⟨V, A, B, cn, hWa⟩ := id hW
  unfold w_X11_edge
  rw [ex_isO hWa.1]
  refine g_shiftAt2 hWa (fun j g ge hj ej G hch => ?_) hn
  refine g_letterOfA (fun l _ => ?_)
  rw [ex_isO G.2.1]
  refine g_hasLetter G.gr (fun a ha' ea => ⟨fun h9 => absurd h9 (by decide), fun _ => ?_⟩) (fun _ => ⟨fun _ => ha, fun h9 => absurd rfl h9⟩)
  rw [ex_isO G.2.1]
  refine g_hasState G.gr (fun i hi ei => ⟨fun h9 => absurd h9 (by decide), fun _ => ?_⟩) (fun _ => ⟨fun _ => ha, fun h9 => absurd rfl h9⟩)
  rw [ex_isO G.2.1]
  refine g_hasState G.gr (fun k hk ek => ⟨fun _ => ?_, fun h9 => absurd h9 (by decide)⟩) (fun _ => ⟨fun h9 => absurd rfl h9, fun _ => ha⟩)
  subst ei
  subst ea
  rw [ex_isO G.2.1]
  refine g_targets hi ha' G.gr ?_
  have last : ∀ w : Int32, (w = 0 ∨ w = 1) → nZ w → (∃ a76 : Nat, isO ph (some g) 6 a76 ∧ (w_X3_tell a76 (Int32.ofNat i) (Int32.ofNat a) to v ph (fun ph76 => nZ w ∧ Q w ph76) X)) := by
    intro w hw hz
    rw [ex_isO G.2.1]
    exact g_tell G (fun p E' hF G' _ => ⟨hz, h w _ p hw (hch p (_, _, E') hF G')⟩)
  exact w_hasBit (fun _ => last 1 (Or.inr rfl) rfl) (fun _ => last 0 (Or.inl rfl) rfl)
theorem a_type {x : Int32} {Q : Int32 → PH → Prop} (hx : Sg x) (ht : tn < 40) (hW : Wd pz b sn sD mn mD tn tf ln ls ph) (h : ∀ (tf' : Nat → Int32) (ph' : PH), Wd pz b sn sD mn mD (tn + 1) tf' ln ls ph' → Q (Int32.ofNat (tn + 1)) ph') : w_X11_type b x ph Q X := by
  obtain ⟨V, A, B, cn, hWa⟩ := id hW
  obtain ⟨h0, h1, -⟩ := id hWa
  unfold w_X11_type
  refine g_isSign hx ⟨fun _ => ?_, fun h9 => absurd h9 (by decide)⟩
  rw [ex_gR h0 (v0 := some (V 0)) rfl, ex_gI h1.1 rfl, show (40 : Int32) = Int32.ofNat 40 from rfl, on_lt (by omega) (by omega)]
  refine ⟨fun _ => ?_, fun h9 => absurd ht h9⟩
  rw [ex_gR h0 (v0 := some (V 0)) rfl, ex_isO h1.1]
  unfold w_X9_append
  rw [ex_gI h1.1 rfl]
  refine ⟨fun h9 => absurd h9 (on_neg (by omega)), fun _ => ?_⟩
  rw [ex_gI h1.1 rfl, ex_gR h1.1 (v0 := some (V 9)) rfl, ex_aL h1.2.1, on_le (by omega) (by omega)]
  refine ⟨fun h9 => absurd h9 (by omega), fun _ => ?_⟩
  have hne : V 0 ≠ V 9 := tag_ne h1.1 h1.2.1 (by decide)
  rw [ex_gR h1.1 (v0 := some (V 9)) rfl, ex_gI h1.1 rfl]
  refine ⟨hx.nc, ?_⟩
  rw [ex_sI h1.2.1 (by decide) (on_in ht (by omega)), on_nat (by omega), ex_gI (hset_at hne h1.1) rfl, on_succ, ex_pW (fs' := [.ref (V 9), .int (Int32.ofNat (tn + 1))]) (hset_at hne h1.1) (by decide) (show 1 < 2 by decide) rfl]
  have T2 : Tp (hset (hset ph (V 9) (202, .inr (.char, 40, .inl (upd tf tn x)))) (V 0) (110, .inl (10, [.ref (V 9), .int (Int32.ofNat (tn + 1))]))) (V 0) (V 9) (tn + 1) (upd tf tn x) := ⟨hset_same, hset_at hne.symm hset_same, by omega, fun i hi => by
    by_cases h9 : i = tn
    · rw [h9, pk_us]
      exact hx
    · rw [pk_un h9]
      exact h1.2.2.2 i (by omega)⟩
  have W2 := hWa.tape ((Ext.set (P := two (V 0) (V 9)) (Or.inr rfl)).tr (Ext.set (Or.inl rfl))) T2
  obtain ⟨k0, k1, -⟩ := id W2
  rw [ex_gR k0 (v0 := some (V 0)) rfl, ex_gI k1.1 rfl]
  exact h _ _ ⟨V, A, B, cn, W2⟩
theorem a_clear {Q : Int32 → PH → Prop} (hW : Wd pz b sn sD mn mD tn tf ln ls ph) (h : ∀ ph' : PH, tn ≤ 40 → Wd pz b sn sD mn mD 0 tf ln ls ph' → Q (Int32.ofNat tn) ph') : w_X11_clear b ph Q X := by
  obtain ⟨V, A, B, cn, hWa⟩ := id hW
  obtain ⟨h0, h1, -⟩ := id hWa
  unfold w_X11_clear
  rw [ex_gR h0 (v0 := some (V 0)) rfl, ex_gI h1.1 rfl, ex_gR h0 (v0 := some (V 0)) rfl, ex_isO h1.1]
  unfold w_X9_empty
  rw [ex_pW (fs' := [.ref (V 9), .int 0]) h1.1 (by decide) (show 1 < 2 by decide) rfl]
  exact h _ h1.2.2.1 ⟨V, A, B, cn, hWa.tape (Ext.set (Or.inl rfl)) ⟨hset_same, hset_at (tag_ne h1.2.1 h1.1 (by decide)) h1.2.1, by omega, fun i hi => absurd hi (Nat.not_lt_zero i)⟩⟩
theorem a_becomes {x : Int32} {Q : Int32 → PH → Prop} (hW : Wd pz b sn sD mn mD tn tf ln ls ph) (h : ∀ (k : Nat) (ln' ls' : Nat → Nat) (ph' : PH), k ≤ 4 → Wd pz b sn sD mn mD 0 tf ln' ls' ph' → Q (Int32.ofNat k) ph') (ha : X "java/lang/IllegalArgumentException" ph) (hu : X "java/lang/UnsupportedOperationException" ph) : w_X11_becomes b x ph Q X := by
  obtain ⟨V, A, B, cn, hWa⟩ := id hW
  obtain ⟨h0, h1, h2, h3, h4, h5, h6, h7, h8⟩ := id hWa
  unfold w_X11_becomes
  refine g_letterOf (fun _ => ⟨fun h9 => absurd h9 (by decide), fun _ => ha⟩) (fun a ha' _ => ⟨fun _ => ?_, fun h9 => absurd ((on_le (i := 0) (by omega) (by omega)).mpr (Nat.zero_le a)) h9⟩)
  have h40 := h1.2.2.1
  rw [ex_gR h0 (v0 := some (V 0)) rfl, ex_gI h1.1 rfl]
  refine ⟨fun _ => hu, fun _ => ?_⟩
  rw [ex_gR h0 (v0 := some (V 0)) rfl, ex_gI h1.1 rfl, show (4 : Int32) = Int32.ofNat 4 from rfl, on_lt (by omega) (by omega)]
  refine ⟨fun _ => hu, fun h9 => ?_⟩
  rw [ex_gR h0 (v0 := some (V 0)) rfl, ex_isO h1.1]
  refine g_hasOnlyLetters (lt := 3) (by omega) h1 ⟨fun h9 => absurd rfl h9, fun _ => hu⟩ (fun hL => ⟨fun _ => ?_, fun h9 => absurd h9 (by decide)⟩)
  rw [ex_gR h0 (v0 := some (V 8)) rfl, ex_isO h8.1]
  refine g_lengthOf ha' h8 ?_
  rw [ex_gR h0 (v0 := some (V 8)) rfl, ex_gR h0 (v0 := some (V 0)) rfl, ex_isO h8.1]
  refine g_learn ha' (by omega) h8 h1 hL (fun p ln' ls' hF hR => ?_)
  have W2 := hWa.repl hF hR
  obtain ⟨k0, k1, -⟩ := id W2
  rw [ex_gR k0 (v0 := some (V 0)) rfl, ex_isO k1.1]
  unfold w_X9_empty
  rw [ex_pW (fs' := [.ref (V 9), .int 0]) k1.1 (by decide) (show 1 < 2 by decide) rfl]
  have hlen : ln a ≤ 4 := by
    obtain ⟨-, ⟨f1, e1, p1⟩, -⟩ := h8
    exact (p1 a ha').1
  exact h (ln a) ln' ls' _ hlen ⟨V, A, B, cn, W2.tape (Ext.set (Or.inl rfl)) ⟨hset_same, hset_at (tag_ne k1.2.1 k1.1 (by decide)) k1.2.1, by omega, fun i hi => absurd hi (Nat.not_lt_zero i)⟩⟩
end ACTS
