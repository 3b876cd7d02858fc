/-! the series begins with 1 -/
def TbE (ph : PH) (t ta : Nat) : Prop := ∃ (r c : Nat) (f : Nat → Int64), Tb ph t ta r c f
theorem TbE.fr {P : Nat → Prop} {p q : PH} {t ta : Nat} (h : Fr P p q) (hT : TbE p t ta) (h1 : ¬ P t) (h2 : ¬ P ta) : TbE q t ta := by
  obtain ⟨r, c, f, T⟩ := hT
  exact ⟨r, c, f, T.fr h h1 h2⟩
theorem Gr.fr {P : Nat → Prop} {p q : PH} {g st lt : Nat} {E : Nat → Int32} (h : Fr P p q) (hG : Gr p g st lt E) (hP : ∀ a : Nat, P a → ∃ (t : Nat) (x : (Nat × List Value) ⊕ (FieldType × vp_A)), p a = some (t, x) ∧ t ≠ 106 ∧ t ≠ 230) : Gr q g st lt E := by
  obtain ⟨hb, ge, e1, e2⟩ := hG
  refine ⟨hb, ge, (h g fun h9 => ?_).trans e1, (h ge fun h9 => ?_).trans e2⟩
  · obtain ⟨t, x, k1, k2, -⟩ := hP g h9
    exact tag_ne k1 e1 k2 rfl
  · obtain ⟨t, x, k1, -, k2⟩ := hP ge h9
    exact tag_ne k1 e2 k2 rfl
def AlA (ph : PH) (al : Nat) (B : Nat → Nat) (a0 a1 a2 : Nat) : Prop := AlO ph al B ∧ TbE ph (B 0) a0 ∧ TbE ph (B 1) a1 ∧ TbE ph (B 2) a2 ∧ (∃ f : Nat → Int64, ph (B 3) = some (220, .inr (.long, 25, .inr (.inl f)))) ∧ (∃ f : Nat → Int64, ph (B 6) = some (223, .inr (.long, 24, .inr (.inl f)))) ∧ (∃ f : Nat → Int64, ph (B 7) = some (224, .inr (.long, 24, .inr (.inl f)))) ∧ (B 0 ≠ B 1 ∧ B 0 ≠ B 2 ∧ B 1 ≠ B 2 ∧ a0 ≠ a1 ∧ a0 ≠ a2 ∧ a1 ≠ a2)
def alP (B : Nat → Nat) (a0 a1 a2 : Nat) : Nat → Prop := fun q => q = B 0 ∨ q = a0 ∨ q = B 1 ∨ q = a1 ∨ q = B 2 ∨ q = a2 ∨ q = B 3
section SERIES
variable {ph : PH} {al g st lt t ta n : Nat} {B : Nat → Nat} {E : Nat → Int32} {L : Int32} {f : Nat → Int64} {X : String → PH → Prop}
theorem Tb.tags {r c : Nat} (hT : Tb ph t ta r c f) : ∀ a : Nat, two t ta a → ∃ (t : Nat) (x : (Nat × List Value) ⊕ (FieldType × vp_A)), ph a = some (t, x) ∧ t ≠ 106 ∧ t ≠ 230 := by
  intro a h
  rcases h with rfl | rfl
  · exact ⟨_, _, hT.2.1, by decide, by decide⟩
  · exact ⟨_, _, hT.2.2, by decide, by decide⟩
theorem AlO.fr {P : Nat → Prop} {p q : PH} (h : Fr P p q) (hA : AlO p al B) (hP : ¬ P al) : AlO q al B := (h al hP).trans hA
theorem g_countRow {i w : Nat} {Q : PH → Prop} (hi : i < st) (hw : w ≤ 24) (hA : AlO ph al B) (ht : B 2 = t) (hG : Gr ph g st lt E) (hT : Tb ph t ta n n f) (h : ∀ (ph' : PH) (f' : Nat → Int64), Fr (two t ta) ph ph' → Tb ph' t ta n n f' → Q ph') : w_X0_countRow al (some g) L (Int32.ofNat i) (Int32.ofNat w) ph Q X := by
  obtain ⟨⟨-, hst, h2, h3⟩, -⟩ := id hG
  have hal : ¬ two t ta al := fun h9 => h9.elim (tag_ne hA hT.2.1 (by decide)) (tag_ne hA hT.2.2 (by decide))
  unfold w_X0_countRow
  refine ⟨st + 1, (upto0 (P := fun fu j => ∀ (p : PH) (f : Nat → Int64) (c : Nat), c ≤ j → Fr (two t ta) ph p → Tb p t ta n n f → w_X0_countRow_6 Q X fu (some al) (some g) L (Int32.ofNat i) (Int32.ofNat w) (Int32.ofNat c) (Int32.ofNat j) p) fun fu j hj ih => ?_) ph f 0 (Nat.le_refl _) (Fr.rf ph) hT⟩
  intro p f c hc hK T
  have hA1 := hA.fr hK hal
  have hG1 := hG.fr hK hT.tags
  obtain ⟨-, ge, e1, e2⟩ := id hG1
  unfold w_X0_countRow_6
  rw [ex_gI e1 rfl, on_le (by omega) (by omega)]
  refine ⟨fun _ => h p f hK T, fun h9 => ?_⟩
  refine w_hasBit (fun h7 => ⟨fun h6 => absurd h6 (by decide), fun _ => ?_⟩) (fun h7 => ⟨fun _ => ?_, fun h6 => absurd rfl h6⟩)
  · refine ⟨lt + 1, (upto0 (P := fun fu2 a => ∀ x : Int32, w_X0_countRow_30 Q X (fun x0 x1 x2 x3 x4 x5 x6 ph => w_X0_countRow_6 Q X fu x0 x1 x2 x3 x4 x5 x6 ph) fu2 (some al) (some g) L (Int32.ofNat i) (Int32.ofNat w) (Int32.ofNat c) (Int32.ofNat j) x (Int32.ofNat a) p) fun fu2 a ha iha => ?_) 0⟩
    intro x
    unfold w_X0_countRow_30
    rw [ex_gI e1 rfl, on_le (by omega) (by omega)]
    refine ⟨fun _ => ?_, fun h8 => ?_⟩
    · rw [ex_gR hA1 (v0 := some t) (by rw [ht]; rfl), ex_isO T.2.1]
      refine g_write (by omega) (by omega) T (fun p2 k2 T2 => ?_)
      rw [on_succ, on_succ]
      exact ih (by omega) p2 _ (c + 1) (by omega) (hK.tr k2) T2
    · rw [ex_isO e1]
      refine g_targets hi (by omega) hG1 ?_
      intro y _
      rw [on_succ]
      exact iha (by omega) y
  · rw [on_succ]
    exact ih (by omega) p f c (by omega) hK T
theorem g_countBetween {Q : PH → Prop} (hn : bc (live st lt E) ≤ 12) (hA : AlO ph al B) (ht : B 2 = t) (hG : Gr ph g st lt E) (hT : TbE ph t ta) (h : ∀ (ph' : PH) (f' : Nat → Int64), Fr (two t ta) ph ph' → Tb ph' t ta (bc (live st lt E)) (bc (live st lt E)) f' → Q ph') : w_X0_countBetween al (some g) ph Q X := by
  obtain ⟨r0, c0, f0, T0⟩ := hT
  obtain ⟨⟨-, hst, h2, h3⟩, ge, e1, e2⟩ := id hG
  have hal : ¬ two t ta al := fun h9 => h9.elim (tag_ne hA T0.2.1 (by decide)) (tag_ne hA T0.2.2 (by decide))
  unfold w_X0_countBetween
  rw [ex_isO e1]
  refine g_liveSet hG (g_bitCount ?_)
  rw [bc_I, ex_gR hA (v0 := some t) (by rw [ht]; rfl), ex_isO T0.2.1]
  refine g_reshape hn hn T0 (fun p1 f1 k1 T1 _ => ?_)
  refine ⟨st + 1, (upto0 (P := fun fu j => ∀ (p : PH) (f : Nat → Int64) (c : Nat), c ≤ j → Fr (two t ta) ph p → Tb p t ta (bc (live st lt E)) (bc (live st lt E)) f → w_X0_countBetween_25 Q X fu (some al) (some g) (live st lt E) (Int32.ofNat c) (Int32.ofNat j) p) fun fu j hj ih => ?_) p1 f1 0 (Nat.le_refl _) k1 T1⟩
  intro p f c hc hK T
  have hA1 := hA.fr hK hal
  have hG1 := hG.fr hK T0.tags
  obtain ⟨-, ge, e1, e2⟩ := id hG1
  unfold w_X0_countBetween_25
  rw [ex_gI e1 rfl, on_le (by omega) (by omega)]
  refine ⟨fun _ => h p f hK T, fun h9 => ?_⟩
  refine w_hasBit (fun h7 => ⟨fun h6 => absurd h6 (by decide), fun _ => ?_⟩) (fun h7 => ⟨fun _ => ?_, fun h6 => absurd rfl h6⟩)
  · rw [ex_isO hA1]
    refine g_countRow (by omega) (by omega) hA1 ht hG1 T (fun p2 f2 k2 T2 => ?_)
    rw [on_succ, on_succ]
    exact ih (by omega) p2 f2 (c + 1) (by omega) (hK.tr k2) T2
  · rw [on_succ]
    exact ih (by omega) p f c (by omega) hK T
theorem g_keepCoefficient {k : Nat} {v : Int64} {fK : Nat → Int64} {Q : PH → Prop} (hk : k < 25) (hA : AlO ph al B) (eK : ph (B 3) = some (220, .inr (.long, 25, .inr (.inl fK)))) (h : Q (hset ph (B 3) (220, .inr (.long, 25, .inr (.inl (vp_updL fK k v)))))) : w_X0_keepCoefficient al (Int32.ofNat k) v ph Q X := by
  unfold w_X0_keepCoefficient
  refine ⟨fun h9 => absurd h9 (on_neg (by omega)), fun _ => ?_⟩
  rw [ex_gR hA (v0 := some (B 3)) rfl, ex_aL eK, on_le (by omega) (by omega)]
  refine ⟨fun h9 => absurd h9 (by omega), fun _ => ?_⟩
  rw [ex_gR hA (v0 := some (B 3)) rfl, ex_sJ eK (by decide) (on_in (by omega) (by omega)), on_nat (by omega)]
  exact h
theorem g_coefficientOf {a0 a1 : Nat} {fl : Nat → Int64} {fK : Nat → Int64} {Q : Int64 → PH → Prop} (hA : AlO ph al B) (hT0 : TbE ph (B 0) a0) (hT1 : TbE ph (B 1) a1) (hl : Tb ph t ta n n fl) (eK : ph (B 3) = some (220, .inr (.long, 25, .inr (.inl fK)))) (n0 : B 0 ≠ B 1) (n1 : a0 ≠ a1) (n2 : t ≠ B 0) (n3 : ta ≠ a0) (n4 : t ≠ B 1) (n5 : ta ≠ a1) (h : ∀ ph' : PH, Fr (fun q => four (B 0) a0 (B 1) a1 q ∨ q = B 3) ph ph' → TbE ph' (B 0) a0 → TbE ph' (B 1) a1 → (∃ f : Nat → Int64, ph' (B 3) = some (220, .inr (.long, 25, .inr (.inl f)))) → Q 1 ph') : w_X0_coefficientOf al (some t) (0 : Int32) ph Q X := by
  obtain ⟨r0, c0, f0, T0⟩ := id hT0
  obtain ⟨r1, c1, f1, T1⟩ := id hT1
  have hn : n ≤ 12 := hl.1.1
  have q0 : ∀ q : Nat, two (B 0) a0 q → four (B 0) a0 (B 1) a1 q ∨ q = B 3 := fun q h9 => Or.inl (h9.elim Or.inl (fun h8 => Or.inr (Or.inl h8)))
  have q1 : ∀ q : Nat, two (B 1) a1 q → four (B 0) a0 (B 1) a1 q ∨ q = B 3 := fun q h9 => Or.inl (h9.elim (fun h8 => Or.inr (Or.inr (Or.inl h8))) (fun h8 => Or.inr (Or.inr (Or.inr h8))))
  have d1 : ¬ two (B 0) a0 (B 1) := fun h9 => h9.elim (fun h8 => n0 h8.symm) (tag_ne T1.2.1 T0.2.2 (by decide))
  have d2 : ¬ two (B 0) a0 a1 := fun h9 => h9.elim (tag_ne T1.2.2 T0.2.1 (by decide)) (fun h8 => n1 h8.symm)
  have d3 : ¬ two (B 1) a1 (B 0) := fun h9 => h9.elim n0 (tag_ne T0.2.1 T1.2.2 (by decide))
  have d4 : ¬ two (B 1) a1 a0 := fun h9 => h9.elim (tag_ne T0.2.2 T1.2.1 (by decide)) n1
  have s0 : ¬ two (B 0) a0 (B 3) := fun h9 => h9.elim (tag_ne eK T0.2.1 (by decide)) (tag_ne eK T0.2.2 (by decide))
  have s1 : ¬ two (B 1) a1 (B 3) := fun h9 => h9.elim (tag_ne eK T1.2.1 (by decide)) (tag_ne eK T1.2.2 (by decide))
  have u1 : B 0 ≠ B 3 := tag_ne T0.2.1 eK (by decide)
  have u2 : a0 ≠ B 3 := tag_ne T0.2.2 eK (by decide)
  have u3 : B 1 ≠ B 3 := tag_ne T1.2.1 eK (by decide)
  have u4 : a1 ≠ B 3 := tag_ne T1.2.2 eK (by decide)
  have l1 : ¬ (four (B 0) a0 (B 1) a1 t ∨ t = B 3) := fun h9 => by
    rcases h9 with (h9 | h9 | h9 | h9) | h9
    · exact n2 h9
    · exact tag_ne hl.2.1 T0.2.2 (by decide) h9
    · exact n4 h9
    · exact tag_ne hl.2.1 T1.2.2 (by decide) h9
    · exact tag_ne hl.2.1 eK (by decide) h9
  have l2 : ¬ (four (B 0) a0 (B 1) a1 ta ∨ ta = B 3) := fun h9 => by
    rcases h9 with (h9 | h9 | h9 | h9) | h9
    · exact tag_ne hl.2.2 T0.2.1 (by decide) h9
    · exact n3 h9
    · exact tag_ne hl.2.2 T1.2.1 (by decide) h9
    · exact n5 h9
    · exact tag_ne hl.2.2 eK (by decide) h9
  have l3 : ¬ (four (B 0) a0 (B 1) a1 al ∨ al = B 3) := fun h9 => by
    rcases h9 with (h9 | h9 | h9 | h9) | h9
    · exact tag_ne hA T0.2.1 (by decide) h9
    · exact tag_ne hA T0.2.2 (by decide) h9
    · exact tag_ne hA T1.2.1 (by decide) h9
    · exact tag_ne hA T1.2.2 (by decide) h9
    · exact tag_ne hA eK (by decide) h9
  unfold w_X0_coefficientOf
  rw [ex_gR hA (v0 := some (B 0)) rfl, ex_gR hA (v0 := some (B 1)) rfl, ex_gI hl.2.1 rfl, ex_gI hl.2.1 rfl, ex_isO T0.2.1]
  refine g_reshape hn hn T0 (fun p1 f1' k1 T0' _ => ?_)
  have A1 : AlO p1 al B := hA.fr (k1.mono q0) l3
  have eK1 : p1 (B 3) = some (220, .inr (.long, 25, .inr (.inl fK))) := (k1 _ s0).trans eK
  have T1' := T1.fr k1 d1 d2
  rw [ex_gR A1 (v0 := some (B 3)) rfl]
  refine g_fillJ eK1 (by decide) (by decide) (fun fK2 _ => ?_)
  have k2 : Fr (fun q => four (B 0) a0 (B 1) a1 q ∨ q = B 3) p1 (hset p1 (B 3) (220, .inr (.long, 25, .inr (.inl fK2)))) := Fr.set (Or.inr rfl)
  have A2 := A1.fr k2 l3
  rw [ex_isO A2]
  refine g_keepCoefficient (k := 0) (by decide) A2 hset_same ?_
  rw [hset_hset]
  have k3 : Fr (fun q => four (B 0) a0 (B 1) a1 q ∨ q = B 3) ph (hset p1 (B 3) (220, .inr (.long, 25, .inr (.inl (vp_updL fK2 0 1))))) := (k1.mono q0).tr (Fr.set (Or.inr rfl))
  have T0a : Tb (hset p1 (B 3) (220, .inr (.long, 25, .inr (.inl (vp_updL fK2 0 1))))) (B 0) a0 n n f1' := ⟨T0'.1, hset_at u1 T0'.2.1, hset_at u2 T0'.2.2⟩
  have T1a : Tb (hset p1 (B 3) (220, .inr (.long, 25, .inr (.inl (vp_updL fK2 0 1))))) (B 1) a1 r1 c1 f1 := ⟨T1'.1, hset_at u3 T1'.2.1, hset_at u4 T1'.2.2⟩
  have key := upfrom (n := n + 1) (s := 1) (P := fun fu k => ∀ (p : PH) (x xa y ya ry cy : Nat) (fx fy fk : Nat → Int64) (v : Int64), (x = B 0 ∧ xa = a0 ∧ y = B 1 ∧ ya = a1 ∨ x = B 1 ∧ xa = a1 ∧ y = B 0 ∧ ya = a0) → Fr (fun q => four (B 0) a0 (B 1) a1 q ∨ q = B 3) ph p → Tb p x xa n n fx → Tb p y ya ry cy fy → p (B 3) = some (220, .inr (.long, 25, .inr (.inl fk))) → fk 0 = 1 → w_X0_coefficientOf_44 Q X fu (some al) (some t) (0 : Int32) (some x) (some y) v (Int32.ofNat k) p) (by omega) (fun fu k hk1 hk ih => by
    intro p x xa y ya ry cy fx fy fk v hxy hK Tx Ty ek hk0
    have A3 := hA.fr hK l3
    have Tl := hl.fr hK l1 l2
    unfold w_X0_coefficientOf_44
    rw [ex_gI Tl.2.1 rfl, on_lt (by omega) (by omega)]
    refine ⟨fun h9 => ⟨fun h8 => absurd h8 (by decide), fun _ => ?_⟩, fun h9 => ?_⟩
    · rw [ex_gR A3 (v0 := some (B 3)) rfl, ex_aL ek]
      refine ⟨fun h8 => absurd h8 (by decide), fun _ => ?_⟩
      rw [ex_gR A3 (v0 := some (B 3)) rfl, ex_aJ ek (show vp_in (0 : Int32) 25 from on_in (i := 0) (by decide) (by decide))]
      rw [show fk (0 : Int32).toNatClampNeg = 1 from hk0]
      rcases hxy with ⟨rfl, rfl, rfl, rfl⟩ | ⟨rfl, rfl, rfl, rfl⟩
      · exact h p hK ⟨_, _, _, Tx⟩ ⟨_, _, _, Ty⟩ ⟨_, ek⟩
      · exact h p hK ⟨_, _, _, Ty⟩ ⟨_, _, _, Tx⟩ ⟨_, ek⟩
    have dist : x ≠ y ∧ xa ≠ ya ∧ t ≠ y ∧ ta ≠ ya ∧ (¬ two y ya x ∧ ¬ two y ya xa ∧ ¬ two y ya (B 3)) ∧ (¬ two x xa y ∧ ¬ two x xa ya ∧ ¬ two x xa (B 3)) ∧ (x ≠ B 3 ∧ xa ≠ B 3 ∧ y ≠ B 3 ∧ ya ≠ B 3) ∧ (∀ q : Nat, two y ya q → four (B 0) a0 (B 1) a1 q ∨ q = B 3) ∧ (∀ q : Nat, two x xa q → four (B 0) a0 (B 1) a1 q ∨ q = B 3) := by
      rcases hxy with ⟨rfl, rfl, rfl, rfl⟩ | ⟨rfl, rfl, rfl, rfl⟩
      · exact ⟨n0, n1, n4, n5, ⟨d3, d4, s1⟩, ⟨d1, d2, s0⟩, ⟨u1, u2, u3, u4⟩, q1, q0⟩
      · exact ⟨n0.symm, n1.symm, n2, n3, ⟨d1, d2, s0⟩, ⟨d3, d4, s1⟩, ⟨u3, u4, u1, u2⟩, q0, q1⟩
    obtain ⟨x1, x2, x3, x4, ⟨y1, y2, y3⟩, ⟨z1, z2, z3⟩, ⟨w1, w2, w3, w4⟩, x7, x8⟩ := dist
    refine ⟨n + 1, (upto0 (P := fun fu2 i => ∀ (p : PH) (fx : Nat → Int64), Fr (fun q => four (B 0) a0 (B 1) a1 q ∨ q = B 3) ph p → Tb p x xa n n fx → Tb p y ya ry cy fy → p (B 3) = some (220, .inr (.long, 25, .inr (.inl fk))) → w_X0_coefficientOf_56 Q X (fun x0 x1 x2 x3 x4 x5 x7 ph => w_X0_coefficientOf_44 Q X fu x0 x1 x2 x3 x4 x5 x7 ph) fu2 (some al) (some t) (0 : Int32) (some x) (some y) v (Int32.ofNat k) (Int32.ofNat i) p) fun fu2 i hi ihi => ?_) p fx hK Tx Ty ek⟩
    intro p fx hK Tx Ty ek
    have Tl := hl.fr hK l1 l2
    unfold w_X0_coefficientOf_56
    rw [ex_gI Tl.2.1 rfl, on_le (by omega) (by omega)]
    refine ⟨fun h8 => ?_, fun h8 => ?_⟩
    · rw [ex_isO Ty.2.1]
      refine g_multiply Ty Tl Tx x3 x4 x1 x2 (fun p2 f2 k4 T2 _ => ?_)
      rw [ex_isO T2.2.1]
      refine g_diagonalSum T2 ⟨fun h7 => ?_, fun v2 _ => ?_⟩
      · rw [to64 (by omega), show (0 : Int64) = Int64.ofNat 0 from rfl, oj_inj (by omega) (by omega)] at h7
        omega
      have hK2 := hK.tr (k4.mono x7)
      have A4 := hA.fr hK2 l3
      have ek2 := (k4 _ y3).trans ek
      have Tx2 := Tx.fr k4 y1 y2
      rw [ex_isO A4]
      refine g_keepCoefficient (by omega) A4 ek2 ?_
      rw [on_succ]
      refine ih (by omega) _ y ya x xa n n f2 fx _ v2 ?_ (hK2.tr (Fr.set (Or.inr rfl))) ⟨T2.1, hset_at w3 T2.2.1, hset_at w4 T2.2.2⟩ ⟨Tx2.1, hset_at w1 Tx2.2.1, hset_at w2 Tx2.2.2⟩ hset_same ?_
      · rcases hxy with ⟨rfl, rfl, rfl, rfl⟩ | ⟨rfl, rfl, rfl, rfl⟩
        · exact Or.inr ⟨rfl, rfl, rfl, rfl⟩
        · exact Or.inl ⟨rfl, rfl, rfl, rfl⟩
      · rw [vl_n (by omega)]
        exact hk0
    · rw [ex_isO Tx.2.1]
      refine g_at (by omega) (by omega) Tx ?_
      rw [ex_isO Tx.2.1]
      refine g_write (by omega) (by omega) Tx (fun p2 k4 T2 => ?_)
      rw [on_succ]
      exact ihi (by omega) p2 _ (hK.tr (k4.mono x8)) T2 (Ty.fr k4 z1 z2) ((k4 _ z3).trans ek)) _ (B 0) a0 (B 1) a1 r1 c1 f1' f1 _ 1 (Or.inl ⟨rfl, rfl, rfl, rfl⟩) k3 T0a T1a hset_same vl_s
  exact ⟨_, key⟩
theorem g_graphCoefficient {a0 a1 a2 : Nat} {Q : Int64 → PH → Prop} (hn : bc (live st lt E) ≤ 12) (hA : AlA ph al B a0 a1 a2) (hG : Gr ph g st lt E) (h : ∀ ph' : PH, Fr (alP B a0 a1 a2) ph ph' → AlA ph' al B a0 a1 a2 → Q 1 ph') : w_X0_graphCoefficient al (some g) (0 : Int32) ph Q X := by
  obtain ⟨hO, ⟨r0, c0, f0, T0⟩, ⟨r1, c1, f1, T1⟩, ⟨r2, c2, f2, T2⟩, ⟨fK, eK⟩, ⟨fN, eN⟩, ⟨fL, eL⟩, n01, n02, n12, m01, m02, m12⟩ := id hA
  have d0 : ¬ two (B 2) a2 (B 0) := fun h9 => h9.elim n02 (tag_ne T0.2.1 T2.2.2 (by decide))
  have d1 : ¬ two (B 2) a2 a0 := fun h9 => h9.elim (tag_ne T0.2.2 T2.2.1 (by decide)) m02
  have d2 : ¬ two (B 2) a2 (B 1) := fun h9 => h9.elim n12 (tag_ne T1.2.1 T2.2.2 (by decide))
  have d3 : ¬ two (B 2) a2 a1 := fun h9 => h9.elim (tag_ne T1.2.2 T2.2.1 (by decide)) m12
  have d4 : ¬ two (B 2) a2 (B 3) := fun h9 => h9.elim (tag_ne eK T2.2.1 (by decide)) (tag_ne eK T2.2.2 (by decide))
  have d5 : ¬ two (B 2) a2 al := fun h9 => h9.elim (tag_ne hO T2.2.1 (by decide)) (tag_ne hO T2.2.2 (by decide))
  have o1 : ¬ alP B a0 a1 a2 al := fun h9 => by
    rcases h9 with h9 | h9 | h9 | h9 | h9 | h9 | h9
    · exact tag_ne hO T0.2.1 (by decide) h9
    · exact tag_ne hO T0.2.2 (by decide) h9
    · exact tag_ne hO T1.2.1 (by decide) h9
    · exact tag_ne hO T1.2.2 (by decide) h9
    · exact tag_ne hO T2.2.1 (by decide) h9
    · exact tag_ne hO T2.2.2 (by decide) h9
    · exact tag_ne hO eK (by decide) h9
  have oN : ∀ (a : Nat) (tt : Nat) (x : (Nat × List Value) ⊕ (FieldType × vp_A)), ph a = some (tt, x) → tt ≠ 109 → tt ≠ 219 → tt ≠ 220 → ¬ alP B a0 a1 a2 a := fun a tt x ha h1 h2 h3 h9 => by
    rcases h9 with h9 | h9 | h9 | h9 | h9 | h9 | h9
    · exact tag_ne ha T0.2.1 h1 h9
    · exact tag_ne ha T0.2.2 h2 h9
    · exact tag_ne ha T1.2.1 h1 h9
    · exact tag_ne ha T1.2.2 h2 h9
    · exact tag_ne ha T2.2.1 h1 h9
    · exact tag_ne ha T2.2.2 h2 h9
    · exact tag_ne ha eK h3 h9
  have x1 : ∀ q : Nat, two (B 2) a2 q → alP B a0 a1 a2 q := fun q h9 => h9.elim (fun h8 => Or.inr (Or.inr (Or.inr (Or.inr (Or.inl h8))))) (fun h8 => Or.inr (Or.inr (Or.inr (Or.inr (Or.inr (Or.inl h8))))))
  have x2 : ∀ q : Nat, four (B 0) a0 (B 1) a1 q ∨ q = B 3 → alP B a0 a1 a2 q := fun q h9 => by
    rcases h9 with (h9 | h9 | h9 | h9) | h9
    · exact Or.inl h9
    · exact Or.inr (Or.inl h9)
    · exact Or.inr (Or.inr (Or.inl h9))
    · exact Or.inr (Or.inr (Or.inr (Or.inl h9)))
    · exact Or.inr (Or.inr (Or.inr (Or.inr (Or.inr (Or.inr h9)))))
  unfold w_X0_graphCoefficient
  rw [ex_isO hO]
  refine g_countBetween hn hO rfl hG ⟨_, _, _, T2⟩ (fun p1 f' k1 T2' => ?_)
  have O1 := hO.fr k1 d5
  rw [ex_gR O1 (v0 := some (B 2)) rfl, ex_isO O1]
  have T0' := T0.fr k1 d0 d1
  have T1' := T1.fr k1 d2 d3
  have eK' := (k1 _ d4).trans eK
  refine g_coefficientOf O1 ⟨_, _, _, T0'⟩ ⟨_, _, _, T1'⟩ T2' eK' n01 m01 n02.symm m02.symm n12.symm m12.symm (fun p2 k2 U0 U1 U3 => ?_)
  have kk : Fr (alP B a0 a1 a2) ph p2 := (k1.mono x1).tr (k2.mono x2)
  have t1 : ¬ (four (B 0) a0 (B 1) a1 (B 2) ∨ B 2 = B 3) := fun h9 => by
    rcases h9 with (h9 | h9 | h9 | h9) | h9
    · exact n02 h9.symm
    · exact tag_ne T2.2.1 T0.2.2 (by decide) h9
    · exact n12 h9.symm
    · exact tag_ne T2.2.1 T1.2.2 (by decide) h9
    · exact tag_ne T2.2.1 eK (by decide) h9
  have t2 : ¬ (four (B 0) a0 (B 1) a1 a2 ∨ a2 = B 3) := fun h9 => by
    rcases h9 with (h9 | h9 | h9 | h9) | h9
    · exact tag_ne T2.2.2 T0.2.1 (by decide) h9
    · exact m02 h9.symm
    · exact tag_ne T2.2.2 T1.2.1 (by decide) h9
    · exact m12 h9.symm
    · exact tag_ne T2.2.2 eK (by decide) h9
  exact h p2 kk ⟨hO.fr kk o1, U0, U1, ⟨_, _, _, T2'.fr k2 t1 t2⟩, U3, ⟨fN, (kk _ (oN _ _ _ eN (by decide) (by decide) (by decide))).trans eN⟩, ⟨fL, (kk _ (oN _ _ _ eL (by decide) (by decide) (by decide))).trans eL⟩, n01, n02, n12, m01, m02, m12⟩
end SERIES
