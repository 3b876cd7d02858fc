/-! what is asked of the world -/
def liF (D : Nat × Nat × (Nat → Int32)) : Int32 := live D.1 D.2.1 D.2.2
def wdN (D : Nat × Nat × (Nat → Int32)) (n : Nat) : Nat := cw D.1 D.2.1 D.2.2 (liF D) n (liF D)
def ptN (D : Nat × Nat × (Nat → Int32)) (n : Nat) : Nat := pts D.1 D.2.1 D.2.2 (liF D) n (D.2.1 ^ n)
def paN (D : Nat × Nat × (Nat → Int32)) : Nat := parts D.1 D.2.1 D.2.2
theorem ts_TC : ∀ t : Nat, TS t = false → TC t = false := by
  intro t h
  simp [TS] at h
  simp [TC]
  omega
theorem ts_TR : ∀ t : Nat, TS t = false → TR t = false := by
  intro t h
  simp [TS] at h
  simp [TR]
  omega
theorem ts_TM : ∀ t : Nat, TS t = false → TM t = false := by
  intro t h
  simp [TS] at h
  simp [TM]
  omega
theorem ts_TF : ∀ t : Nat, TS t = false → TF t = false := by
  intro t h
  simp [TS] at h
  simp [TF]
  omega
theorem ts_TW : ∀ t : Nat, TS t = false → TW t = false := by
  intro t h
  simp [TS] at h
  simp [TW]
  omega
theorem ts_TG : ∀ t : Nat, TS t = false → TG t = false := by
  intro t h
  simp [TS] at h
  simp [TG]
  omega
theorem ts_TX : ∀ t : Nat, TS t = false → TX t = false := by
  intro t h
  simp [TS] at h
  simp [TX]
  omega
section ASK
variable {pz : PH} {b sn mn tn : Nat} {sD : Nat → Nat × Nat × (Nat → Int32)} {mD : Nat → Nat × Nat × (Nat → Int64)} {tf : Nat → Int32} {ln ls : Nat → Nat} {ph : PH} {X : String → PH → Prop}
theorem Wd.hi (hW : Wd pz b sn sD mn mD tn tf ln ls ph) : Hi pz ph := by
  obtain ⟨V, A, B, cn, h0, h1, h2, h3, h4, h5, ⟨h6, h6'⟩, -⟩ := hW
  exact h6'.2
theorem Wd.bnd (hW : Wd pz b sn sD mn mD tn tf ln ls ph) {j : Nat} (hj : j < sn) : 1 ≤ (sD j).1 ∧ (sD j).1 ≤ 24 ∧ 2 ≤ (sD j).2.1 ∧ (sD j).2.1 ≤ 3 := by
  obtain ⟨V, A, B, cn, h0, h1, ⟨hs8, f, sg, se, e1, e2, e3, e4⟩, -⟩ := hW
  exact (e3 j hj).1
theorem Wd.sn8 (hW : Wd pz b sn sD mn mD tn tf ln ls ph) : sn ≤ 8 := by
  obtain ⟨V, A, B, cn, h0, h1, ⟨hs8, f, sg, se, e1, e2, e3, e4⟩, -⟩ := hW
  exact hs8
theorem Wd.mn8 (hW : Wd pz b sn sD mn mD tn tf ln ls ph) : mn ≤ 8 := by
  obtain ⟨V, A, B, cn, h0, h1, -, -, ⟨hs8, -⟩, -⟩ := hW
  exact hs8
theorem Wd.obj (hW : Wd pz b sn sD mn mD tn tf ln ls ph) {P : Nat → Prop} (h : P b) : ∃ a : Nat, isO ph (some b) 12 a ∧ P a := by
  obtain ⟨V, A, B, cn, h0, -⟩ := hW
  rw [ex_isO h0]
  exact h
theorem a_states {x : Int32} {Q : Int32 → PH → Prop} (hW : Wd pz b sn sD mn mD tn tf ln ls ph) (h : ∀ j : Nat, j < sn → x = Int32.ofNat j → Q (Int32.ofNat (bc (liF (sD j)))) ph) (hn : (∀ j : Nat, j < sn → ¬ x = Int32.ofNat j) → X "java/lang/IndexOutOfBoundsException" ph) : w_X11_states b x ph Q X := by
  obtain ⟨V, A, B, cn, h0, h1, h2, -⟩ := id hW
  unfold w_X11_states
  rw [ex_isO h0]
  refine g_shiftAt h0 h2 (fun j g ge hj ej G => ?_) hn
  rw [ex_isO G.2.1]
  refine g_liveSet G.gr (g_bitCount ?_)
  rw [bc_I]
  exact h j hj ej
theorem a_words {x : Int32} {n : Nat} {Q : Int32 → PH → Prop} (hn10 : n ≤ 10) (hW : Wd pz b sn sD mn mD tn tf ln ls ph) (h : ∀ (j : Nat) (ph' : PH), j < sn → x = Int32.ofNat j → Wd pz b sn sD mn mD tn tf ln ls ph' → Q (Int32.ofNat (wdN (sD j) n)) ph') (hn : (∀ j : Nat, j < sn → ¬ x = Int32.ofNat j) → X "java/lang/IndexOutOfBoundsException" ph) : w_X11_words b x (Int32.ofNat n) ph Q X := by
  obtain ⟨V, A, B, cn, h0, h1, h2, h3, h4, h5, -⟩ := id hW
  obtain ⟨hO, ⟨f0, k0⟩, ⟨f1, k1⟩, ⟨f2, k2⟩, -⟩ := id h5
  unfold w_X11_words
  rw [ex_isO h0]
  refine g_shiftAt h0 h2 (fun j g ge hj ej G => ?_) hn
  refine g_demandRange (lo := 0) (hi := 10) (by omega) (by omega) (by omega) (fun _ _ => ?_) (fun h9 => absurd ⟨Nat.zero_le _, hn10⟩ h9)
  rw [ex_gR h0 (v0 := some (V 4)) rfl, ex_isO hO]
  exact g_countWords hn10 hO G.gr k0 k1 k2 (fun p hK => h j p hj ej (hW.keep (hK.mono ts_TC)))
theorem a_points {x : Int32} {n : Nat} {Q : Int32 → PH → Prop} (hn1 : 1 ≤ n) (hn7 : n ≤ 7) (hW : Wd pz b sn sD mn mD tn tf ln ls ph) (h : ∀ (j : Nat) (ph' : PH), j < sn → x = Int32.ofNat j → Wd pz b sn sD mn mD tn tf ln ls ph' → Q (Int32.ofNat (ptN (sD j) n)) ph') (hn : (∀ j : Nat, j < sn → ¬ x = Int32.ofNat j) → X "java/lang/IndexOutOfBoundsException" ph) : w_X11_points b x (Int32.ofNat n) ph Q X := by
  obtain ⟨V, A, B, cn, h0, h1, h2, h3, h4, h5, -⟩ := id hW
  obtain ⟨hO, -, -, -, ⟨f3, k3⟩, -⟩ := id h5
  unfold w_X11_points
  rw [ex_isO h0]
  refine g_shiftAt h0 h2 (fun j g ge hj ej G => ?_) hn
  refine g_demandRange (lo := 1) (hi := 7) (by omega) (by omega) (by omega) (fun _ _ => ?_) (fun h9 => absurd ⟨hn1, hn7⟩ h9)
  rw [ex_gR h0 (v0 := some (V 4)) rfl, ex_isO hO]
  exact g_countPoints hn7 hO k3 G.gr (fun p hK => h j p hj ej (hW.keep (hK.mono ts_TR)))
theorem a_parts {x : Int32} {Q : Int32 → PH → Prop} (hW : Wd pz b sn sD mn mD tn tf ln ls ph) (h : ∀ (j : Nat) (ph' : PH), j < sn → x = Int32.ofNat j → Wd pz b sn sD mn mD tn tf ln ls ph' → Q (Int32.ofNat (paN (sD j))) ph') (hn : (∀ j : Nat, j < sn → ¬ x = Int32.ofNat j) → X "java/lang/IndexOutOfBoundsException" ph) : w_X11_parts b x ph Q X := by
  obtain ⟨V, A, B, cn, h0, h1, h2, h3, h4, h5, ⟨h6, ⟨f6, k6⟩, -⟩, -⟩ := id hW
  unfold w_X11_parts
  rw [ex_gR h0 (v0 := some (V 5)) rfl, ex_isO h0]
  refine g_shiftAt h0 h2 (fun j g ge hj ej G => ?_) hn
  rw [ex_isO h6]
  exact g_countParts h6 k6 G.gr (fun p hK => h j p hj ej (hW.keep (hK.mono ts_TW)))
theorem a_isIrreducible {x : Int32} {Q : Int32 → PH → Prop} (hW : Wd pz b sn sD mn mD tn tf ln ls ph) (h0' : ∀ (j : Nat) (ph' : PH), j < sn → x = Int32.ofNat j → Wd pz b sn sD mn mD tn tf ln ls ph' → Q 0 ph') (h1' : ∀ (j : Nat) (ph' : PH), j < sn → x = Int32.ofNat j → Wd pz b sn sD mn mD tn tf ln ls ph' → 1 ≤ paN (sD j) → Q 1 ph') (hn : (∀ j : Nat, j < sn → ¬ x = Int32.ofNat j) → X "java/lang/IndexOutOfBoundsException" ph) : w_X11_isIrreducible b x ph Q X := by
  obtain ⟨V, A, B, cn, h0, h1, h2, h3, h4, h5, ⟨h6, ⟨f6, k6⟩, -⟩, -⟩ := id hW
  unfold w_X11_isIrreducible
  rw [ex_gR h0 (v0 := some (V 5)) rfl, ex_isO h0]
  refine g_shiftAt h0 h2 (fun j g ge hj ej G => ?_) hn
  rw [ex_isO h6]
  exact g_isOnePart h6 k6 G.gr (fun p hK => ⟨rfl, h0' j p hj ej (hW.keep (hK.mono ts_TW))⟩) (fun p s hK hs hp => ⟨rfl, h1' j p hj ej (hW.keep (hK.mono ts_TW)) (parts_pos G.1.2.1 hs hp)⟩)
theorem a_futures {x : Int32} {Q : Int32 → PH → Prop} (hW : Wd pz b sn sD mn mD tn tf ln ls ph) (h : ∀ (j c : Nat) (ph' : PH), j < sn → x = Int32.ofNat j → c ≤ 60 → (¬ liF (sD j) = 0 → 1 ≤ c) → Wd pz b sn sD mn mD tn tf ln ls ph' → Q (Int32.ofNat c) ph') (hm : ∀ (j : Nat) (ph' : PH), j < sn → x = Int32.ofNat j → Wd pz b sn sD mn mD tn tf ln ls ph' → X "java/lang/UnsupportedOperationException" ph') (hn : (∀ j : Nat, j < sn → ¬ x = Int32.ofNat j) → X "java/lang/IndexOutOfBoundsException" ph) : w_X11_futures b x ph Q X := by
  obtain ⟨V, A, B, cn, h0, h1, h2, h3, h4, h5, -⟩ := id hW
  unfold w_X11_futures
  rw [ex_gR h0 (v0 := some (V 4)) rfl, ex_isO h0]
  refine g_shiftAt h0 h2 (fun j g ge hj ej G => ?_) hn
  rw [ex_isO h5.1]
  refine g_countFutures h5 G.gr (fun p c hK hc hcl => ⟨fun _ => h j c p hj ej hc hcl (hW.keep (hK.mono ts_TF)), fun h9 => absurd ((on_le (i := 0) (by omega) (by omega)).mpr (Nat.zero_le c)) h9⟩) (fun p hK => ⟨fun h9 => absurd h9 (by decide), fun _ => hm j p hj ej (hW.keep (hK.mono ts_TF))⟩)
theorem a_areSame {x y : Int32} {Q : Int32 → PH → Prop} (hW : Wd pz b sn sD mn mD tn tf ln ls ph) (h0' : ∀ ph' : PH, Wd pz b sn sD mn mD tn tf ln ls ph' → Q 0 ph') (h1' : ∀ (i j : Nat) (ph' : PH), i < sn → x = Int32.ofNat i → j < sn → y = Int32.ofNat j → Wd pz b sn sD mn mD tn tf ln ls ph' → (∀ n : Nat, wdN (sD i) n = wdN (sD j) n ∧ ptN (sD i) n = ptN (sD j) n) → Q 1 ph') (hn : X "java/lang/IndexOutOfBoundsException" ph) (hu : ∀ ph' : PH, Wd pz b sn sD mn mD tn tf ln ls ph' → X "java/lang/UnsupportedOperationException" ph') : w_X11_areSame b x y ph Q X := by
  obtain ⟨V, A, B, cn, h0, h1, h2, h3, h4, h5, -⟩ := id hW
  obtain ⟨hO, -, -, -, -, -, -, -, -, ⟨f8, k8⟩, ⟨f9, k9⟩⟩ := id h5
  unfold w_X11_areSame
  rw [ex_isO h0]
  refine g_shiftAt h0 h2 (fun i g ge hi ei G => ?_) (fun _ => hn)
  rw [ex_isO h0]
  refine g_shiftAt h0 h2 (fun j g' ge' hj ej G' => ?_) (fun _ => hn)
  rw [ex_gI G.2.1 rfl, ex_gI G'.2.1 rfl]
  refine ⟨fun hl => ?_, fun _ => hu ph hW⟩
  have b1 := G.1
  have b2 := G'.1
  rw [on_inj (by omega) (by omega)] at hl
  rw [ex_gR h0 (v0 := some (V 4)) rfl, ex_isO hO]
  have G2 : Gr ph g' (sD j).1 (sD i).2.1 (sD j).2.2 := by
    rw [hl]
    exact G'.gr
  refine g_match hO ⟨k8, k9⟩ G.gr G2 (fun p hK => ⟨fun _ => ⟨fun _ => ⟨rfl, h0' p (hW.keep (hK.mono ts_TM))⟩, fun h9 => absurd h9 (by decide)⟩, fun h9 => absurd (by decide) h9⟩) (fun p hK => ⟨fun h9 => absurd h9 (by decide), fun _ => hu p (hW.keep (hK.mono ts_TM))⟩) (fun p Bi hK hB hBL => ⟨fun _ => ⟨fun h9 => absurd rfl h9, fun _ => ⟨rfl, h1' i j p hi ei hj ej (hW.keep (hK.mono ts_TM)) (fun n => ⟨?_, ?_⟩)⟩⟩, fun h9 => absurd (by decide) h9⟩)
  · unfold wdN liF
    rw [← hl]
    exact cw_bis (by omega) (by omega) hB n _ _ hBL
  · unfold ptN liF
    rw [← hl]
    exact pts_bis (by omega) hB hBL
theorem a_series {x : Int32} {Q : Int64 → PH → Prop} (hW : Wd pz b sn sD mn mD tn tf ln ls ph) (h : ∀ (j : Nat) (ph' : PH), j < sn → x = Int32.ofNat j → bc (liF (sD j)) ≤ 12 → Wd pz b sn sD mn mD tn tf ln ls ph' → Q 1 ph') (hu : ∀ j : Nat, j < sn → x = Int32.ofNat j → ¬ bc (liF (sD j)) ≤ 12 → X "java/lang/UnsupportedOperationException" ph) (hn : (∀ j : Nat, j < sn → ¬ x = Int32.ofNat j) → X "java/lang/IndexOutOfBoundsException" ph) : w_X11_series b x (0 : Int32) ph Q X := by
  obtain ⟨V, A, B, cn, hWa⟩ := id hW
  obtain ⟨h0, h1, h2, h3, h4, h5, h6, h7, h8⟩ := id hWa
  unfold w_X11_series
  rw [ex_isO h0]
  refine g_shiftAt h0 h2 (fun j g ge hj ej G => ?_) hn
  refine g_demandRange (x := 0) (lo := 0) (hi := 24) (by omega) (by omega) (by omega) (fun _ _ => ?_) (fun h9 => absurd ⟨Nat.le_refl 0, Nat.zero_le _⟩ h9)
  rw [ex_isO G.2.1]
  refine g_liveSet G.gr (g_bitCount ?_)
  have hb := bc_lt (liF (sD j))
  rw [bc_I, show (12 : Int32) = Int32.ofNat 12 from rfl, on_le (by unfold liF at hb; omega) (by omega)]
  refine ⟨fun h9 => ?_, fun h9 => hu j hj ej h9⟩
  rw [ex_gR h0 (v0 := some (V 6)) rfl, ex_isO h7.1]
  exact g_graphCoefficient h9 h7 G.gr (fun p hK hA => h j p hj ej h9 ⟨V, A, B, cn, hWa.alg hK (fun _ h => h) hA⟩)
theorem a_growth {x : Int32} {n : Nat} {lo : Bool} {Q : Int64 → PH → Prop} (hn5 : n ≤ 5) (hW : Wd pz b sn sD mn mD tn tf ln ls ph) (h : ∀ (j c : Nat) (ph' : PH), j < sn → x = Int32.ofNat j → c < 2 ^ 62 → Bst lo (sD j).1 (sD j).2.1 (sD j).2.2 (liF (sD j)) (vs (sD j).1 (sD j).2.1 (sD j).2.2 (liF (sD j)) n) 24 c → Wd pz b sn sD mn mD tn tf ln ls ph' → Q (Int64.ofNat c) ph') (hu : ∀ j : Nat, j < sn → x = Int32.ofNat j → liF (sD j) = 0 → X "java/lang/UnsupportedOperationException" ph) (hn : (∀ j : Nat, j < sn → ¬ x = Int32.ofNat j) → X "java/lang/IndexOutOfBoundsException" ph) : w_X11_growth b x (Int32.ofNat n) (if lo = true then 1 else 0) ph Q X := by
  obtain ⟨V, A, B, cn, h0, h1, h2, h3, h4, h5, h6, h7, h8⟩ := id hW
  obtain ⟨hO, -, -, -, -, ⟨fN, eN⟩, ⟨fL, eL⟩, -⟩ := id h7
  unfold w_X11_growth
  rw [ex_isO h0]
  refine g_shiftAt h0 h2 (fun j g ge hj ej G => ?_) hn
  refine g_demandRange (lo := 0) (hi := 6) (by omega) (by omega) (by omega) (fun _ _ => ?_) (fun h9 => absurd ⟨Nat.zero_le _, by omega⟩ h9)
  rw [ex_isO G.2.1]
  refine g_liveSet G.gr ⟨fun hl => ?_, fun hl => hu j hj ej hl⟩
  rw [ex_gR h0 (v0 := some (V 6)) rfl, ex_isO hO]
  exact g_findBound hn5 hO G.gr eN eL hl (fun p c hK hc hB => h j c p hj ej hc hB (hW.keep (hK.mono ts_TG)))
theorem a_complexity {Q : Int32 → PH → Prop} (hW : Wd pz b sn sD mn mD tn tf ln ls ph) (h : ∀ ph' : PH, Wd pz b sn sD mn mD tn tf ln ls ph' → Q (Int32.ofNat (cxF ln ls)) ph') : w_X11_complexity b (3 : Int32) ph Q X := by
  obtain ⟨V, A, B, cn, h0, h1, h2, h3, h4, h5, h6, h7, h8⟩ := id hW
  unfold w_X11_complexity
  refine g_demandRange (x := 3) (lo := 1) (hi := 8) (by omega) (by omega) (by omega) (fun _ _ => ?_) (fun h9 => absurd ⟨by omega, by omega⟩ h9)
  rw [ex_gR h0 (v0 := some (V 8)) rfl, ex_isO h8.1]
  exact g_countUnlike h8 (fun p hK => h p (hW.keep (hK.mono ts_TX)))
theorem a_signAt {k : Nat} {Q : Int32 → PH → Prop} (hk : k < 40) (hW : Wd pz b sn sD mn mD tn tf ln ls ph) (h : k < tn → Q (tf k) ph) (hn : ¬ k < tn → X "java/util/NoSuchElementException" ph) : w_X11_signAt b (Int32.ofNat k) ph Q X := by
  obtain ⟨V, A, B, cn, h0, h1, -⟩ := id hW
  have h40 := h1.2.2.1
  unfold w_X11_signAt
  refine ⟨fun h9 => absurd h9 (on_neg (by omega)), fun _ => ?_⟩
  rw [ex_gR h0 (v0 := some (V 0)) rfl, ex_gI h1.1 rfl, on_lt (by omega) (by omega)]
  refine ⟨fun h9 => ?_, hn⟩
  rw [ex_gR h0 (v0 := some (V 0)) rfl, ex_isO h1.1]
  refine g_tat h1 (fun hno => absurd rfl (hno k h9)) (fun i hi ei => ?_)
  rw [on_inj (by omega) (by omega)] at ei
  subst ei
  exact ⟨(h1.2.2.2 k hi).nc, h h9⟩
theorem a_checksum {Q : Int64 → PH → Prop} (hW : Wd pz b sn sD mn mD tn tf ln ls ph) (h : ∀ v : Int64, v = (List.range sn).foldl (fun s j => (((31 : Int64) * s) + (Int32.ofNat (bc (liF (sD j)))).toInt64) + (((7 : Int32) * Int32.ofNat (ceF (sD j).2.2)).toInt64)) 0 → Q v ph) : w_X11_checksum b ph Q X := by
  obtain ⟨V, A, B, cn, h0, h1, h2, -⟩ := id hW
  have hs8 := h2.1
  unfold w_X11_checksum
  refine ⟨sn + 1, upto0 (P := fun fu i => w_X11_checksum_4 Q X fu (some b) ((List.range i).foldl (fun s j => (((31 : Int64) * s) + (Int32.ofNat (bc (liF (sD j)))).toInt64) + (((7 : Int32) * Int32.ofNat (ceF (sD j).2.2)).toInt64)) 0) (Int32.ofNat i) ph) fun fu i hi ih => ?_⟩
  unfold w_X11_checksum_4
  rw [ex_gI h0 rfl, on_le (by omega) (by omega)]
  refine ⟨fun h9 => ?_, fun h9 => ?_⟩
  · refine h _ ?_
    rw [show i = sn by omega]
  rw [ex_isO h0]
  refine g_shiftOrNull h0 h2 (fun j g ge hj ej G => ⟨fun h8 => absurd h8 (by simp), fun _ => ?_⟩) (fun hno => absurd rfl (hno i (by omega)))
  rw [on_inj (by omega) (by omega)] at ej
  subst ej
  rw [ex_isO G.2.1]
  refine g_liveSet G.gr (g_bitCount ?_)
  rw [ex_isO G.2.1]
  refine g_countEdges G.gr ?_
  intro v hv
  subst hv
  have h7 := ih hj
  rw [List.range_succ, List.foldl_append] at h7
  rw [on_succ, bc_I]
  exact h7
theorem a_isSound {Q : Int32 → PH → Prop} (hW : Wd pz b sn sD mn mD tn tf ln ls ph) (h : Q 1 ph) : w_X11_isSound b ph Q X := by
  obtain ⟨V, A, B, cn, h0, h1, ⟨hs8, f, sg, se, e1, e2, e3, e4⟩, ⟨hc6, fc, cb, cg, cl, cf, c1, c2, c3, c4⟩, ⟨hm8, fm, ta, tb, m1, m2, m3, m4⟩, -⟩ := id hW
  unfold w_X11_isSound
  rw [ex_gR h0 (v0 := some (V 0)) rfl, ex_isO h1.1]
  refine g_tapeIn h1 ⟨fun h9 => absurd h9 (by decide), fun _ => ?_⟩
  rw [ex_gI h0 rfl, show (8 : Int32) = Int32.ofNat 8 from rfl, on_lt (by omega) (by omega)]
  refine ⟨fun h9 => absurd h9 (by omega), fun _ => ?_⟩
  rw [ex_gI h0 rfl, show (6 : Int32) = Int32.ofNat 6 from rfl, on_lt (by omega) (by omega)]
  refine ⟨fun h9 => absurd h9 (by omega), fun _ => ?_⟩
  rw [ex_gI h0 rfl, on_lt (by omega) (by omega)]
  refine ⟨fun h9 => absurd h9 (by omega), fun _ => ?_⟩
  refine ⟨9, upto0 (n := 8) (P := fun fu i => w_X11_isSound_45 Q X fu (some b) 1 (Int32.ofNat i) ph) fun fu i hi ih => ?_⟩
  unfold w_X11_isSound_45
  rw [ex_gR h0 (v0 := some (V 1)) rfl, ex_aL e1, on_le (by omega) (by omega), on_succ]
  refine ⟨fun _ => ?_, fun h9 => ?_⟩
  · refine ⟨7, upto0 (n := 6) (P := fun fu i => w_X11_isSound_109 Q X fu (some b) 1 (Int32.ofNat i) ph) fun fu i hi ih => ?_⟩
    unfold w_X11_isSound_109
    rw [ex_gR h0 (v0 := some (V 2)) rfl, ex_aL c1, on_le (by omega) (by omega), on_succ]
    refine ⟨fun _ => ?_, fun h9 => ?_⟩
    · refine ⟨9, upto0 (n := 8) (P := fun fu i => w_X11_isSound_173 Q X fu (some b) 1 (Int32.ofNat i) ph) fun fu i hi ih => ?_⟩
      unfold w_X11_isSound_173
      rw [ex_gR h0 (v0 := some (V 3)) rfl, ex_aL m1, on_le (by omega) (by omega), on_succ]
      refine ⟨fun _ => ⟨rfl, h⟩, fun h9 => ?_⟩
      rw [ex_gR h0 (v0 := some (V 3)) rfl, ex_aQ m1 (on_in (by omega) (by omega)), on_nat (by omega), m2 i (by omega)]
      refine ⟨fun h8 => absurd h8 (by decide), fun _ => ?_⟩
      by_cases him : i < mn
      · rw [if_pos him]
        refine ⟨fun _ => ?_, fun h8 => absurd h8 (by simp)⟩
        rw [ex_gI h0 rfl, on_le (by omega) (by omega)]
        refine ⟨fun h8 => absurd h8 (by omega), fun _ => ?_⟩
        obtain ⟨⟨T, hb, hd, -⟩, -⟩ := m3 i him
        rw [ex_isO T.2.1]
        exact g_tableIn T hb hd ⟨fun h8 => absurd h8 (by decide), fun _ => ih (by omega)⟩
      · rw [if_neg him]
        refine ⟨fun h8 => absurd rfl h8, fun _ => ?_⟩
        rw [ex_gI h0 rfl, on_lt (by omega) (by omega)]
        exact ⟨fun h8 => absurd h8 him, fun _ => ih (by omega)⟩
    · rw [ex_gR h0 (v0 := some (V 2)) rfl, ex_aQ c1 (on_in (by omega) (by omega)), on_nat (by omega), c2 i (by omega)]
      refine ⟨fun h8 => absurd h8 (by decide), fun _ => ?_⟩
      by_cases him : i < cn
      · rw [if_pos him]
        refine ⟨fun _ => ?_, fun h8 => absurd h8 (by simp)⟩
        rw [ex_gI h0 rfl, on_le (by omega) (by omega)]
        refine ⟨fun h8 => absurd h8 (by omega), fun _ => ?_⟩
        rw [ex_isO (c3 i him).2.1]
        exact g_blockIn (c3 i him) ⟨fun h8 => absurd h8 (by decide), fun _ => ih (by omega)⟩
      · rw [if_neg him]
        refine ⟨fun h8 => absurd rfl h8, fun _ => ?_⟩
        rw [ex_gI h0 rfl, on_lt (by omega) (by omega)]
        exact ⟨fun h8 => absurd h8 him, fun _ => ih (by omega)⟩
  · rw [ex_gR h0 (v0 := some (V 1)) rfl, ex_aQ e1 (on_in (by omega) (by omega)), on_nat (by omega), e2 i (by omega)]
    refine ⟨fun h8 => absurd h8 (by decide), fun _ => ?_⟩
    by_cases him : i < sn
    · rw [if_pos him]
      refine ⟨fun _ => ?_, fun h8 => absurd h8 (by simp)⟩
      rw [ex_gI h0 rfl, on_le (by omega) (by omega)]
      refine ⟨fun h8 => absurd h8 (by omega), fun _ => ?_⟩
      rw [ex_isO (e3 i him).2.1]
      exact g_graphIn (e3 i him).gr ⟨fun h8 => absurd h8 (by decide), fun _ => ih (by omega)⟩
    · rw [if_neg him]
      refine ⟨fun h8 => absurd rfl h8, fun _ => ?_⟩
      rw [ex_gI h0 rfl, on_lt (by omega) (by omega)]
      exact ⟨fun h8 => absurd h8 him, fun _ => ih (by omega)⟩
end ASK
