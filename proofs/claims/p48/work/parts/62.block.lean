/-! codes -/
def Bl (ph : PH) (b bg lt : Nat) (f : Nat → Int32) : Prop := (2 ≤ lt ∧ lt ≤ 3) ∧ ph b = some (104, .inl (4, [.int (Int32.ofNat lt), .ref bg])) ∧ ph bg = some (231, .inr (.int, 9, .inl f)) ∧ ∀ i : Nat, i < 9 → ∃ a : Nat, a < lt ∧ f i = Int32.ofNat a
theorem Bl.ext {P : Nat → Prop} {p q : PH} {b bg lt : Nat} {f : Nat → Int32} (h : Ext P p q) (hT : Bl p b bg lt f) (h1 : ¬ P b) (h2 : ¬ P bg) : Bl q b bg lt f := ⟨hT.1, h b _ h1 hT.2.1, h bg _ h2 hT.2.2.1, hT.2.2.2⟩
section BLOCK
variable {ph : PH} {b bg lt : Nat} {f : Nat → Int32} {X : String → PH → Prop}
theorem g_bHas {x : Int32} {Q : Int32 → PH → Prop} (hB : Bl ph b bg lt f) (h1 : ∀ i : Nat, i < lt → x = Int32.ofNat i → Q 1 ph) (h0 : (∀ i : Nat, i < lt → ¬ x = Int32.ofNat i) → Q 0 ph) : w_X1_hasLetter b x ph Q X := by
  obtain ⟨⟨b3, b4⟩, e1, e2, -⟩ := hB
  unfold w_X1_hasLetter
  refine ⟨fun h => ⟨rfl, h0 fun i hi e => ?_⟩, fun h => ?_⟩
  · rw [e] at h
    exact on_neg (by omega) h
  · rw [ex_gI e1 rfl]
    obtain ⟨i, hi, rfl⟩ := of_pos h
    rw [on_le (by omega) hi]
    refine ⟨fun h9 => ⟨rfl, h0 fun j hj e => ?_⟩, fun h9 => ⟨rfl, h1 i (by omega) rfl⟩⟩
    rw [on_inj hi (by omega)] at e
    omega
theorem g_given {x y : Int32} {Q : Int32 → PH → Prop} (hB : Bl ph b bg lt f) (h0 : (¬ ∃ i j : Nat, i < lt ∧ j < lt ∧ x = Int32.ofNat i ∧ y = Int32.ofNat j) → Q 0 ph) (h1 : ∀ i j : Nat, i < lt → j < lt → x = Int32.ofNat i → y = Int32.ofNat j → Q (f (3 * i + j)) ph) : w_X1_given b x y ph Q X := by
  obtain ⟨⟨b3, b4⟩, e1, e2, e3⟩ := id hB
  unfold w_X1_given
  intro v5 h5
  rw [ex_isO e1]
  refine g_bHas hB (fun i hi ei => ⟨fun h9 => absurd h9 (by decide), fun _ => ?_⟩) (fun hno => ⟨fun _ => h0 fun ⟨i, j, hi, hj, ex, ey⟩ => hno i hi ex, fun h9 => absurd rfl h9⟩)
  rw [ex_isO e1]
  refine g_bHas hB (fun j hj ej => ⟨fun h9 => absurd h9 (by decide), fun _ => ?_⟩) (fun hno => ⟨fun _ => h0 fun ⟨i, j, hi, hj, ex, ey⟩ => hno j hj ey, fun h9 => absurd rfl h9⟩)
  subst ei
  subst ej
  rw [on_3] at h5
  subst h5
  rw [ex_gR e1 (v0 := some bg) rfl, ex_aL e2, on_le (by omega) (by omega)]
  refine ⟨fun h9 => absurd h9 (by omega), fun _ => ?_⟩
  rw [ex_gR e1 (v0 := some bg) rfl, ex_aI e2 (on_in (by omega) (by omega)), on_nat (by omega)]
  exact h1 i j hi hj rfl rfl
theorem g_givenA {x y : Int32} {Q : Int32 → PH → Prop} (hB : Bl ph b bg lt f) (h : ∀ a : Nat, a < 3 → Q (Int32.ofNat a) ph) : w_X1_given b x y ph Q X := g_given hB (fun _ => h 0 (by decide)) (fun i j hi hj _ _ => by
  obtain ⟨a, ha, e⟩ := hB.2.2.2 (3 * i + j) (by have := hB.1; omega)
  rw [e]
  exact h a (by have := hB.1; omega))
theorem g_give {x y : Int32} {c : Nat} {Q : PH → Prop} (hc : c < lt) (hB : Bl ph b bg lt f) (h : ∀ (ph' : PH) (f' : Nat → Int32), Fr (fun q => q = bg) ph ph' → Bl ph' b bg lt f' → Q ph') : w_X1_give b x y (Int32.ofNat c) ph Q X := by
  obtain ⟨⟨b3, b4⟩, e1, e2, e3⟩ := id hB
  have hne : b ≠ bg := tag_ne e1 e2 (by decide)
  unfold w_X1_give
  intro v5 h5
  rw [ex_isO e1]
  refine g_bHas hB (fun i hi ei => ⟨fun h9 => absurd h9 (by decide), fun _ => ?_⟩) (fun hno => ⟨fun _ => h ph f (Fr.rf ph) hB, fun h9 => absurd rfl h9⟩)
  rw [ex_isO e1]
  refine g_bHas hB (fun j hj ej => ⟨fun h9 => absurd h9 (by decide), fun _ => ?_⟩) (fun hno => ⟨fun _ => h ph f (Fr.rf ph) hB, fun h9 => absurd rfl h9⟩)
  subst ei
  subst ej
  rw [on_3] at h5
  subst h5
  rw [ex_gR e1 (v0 := some bg) rfl, ex_aL e2, on_le (by omega) (by omega)]
  refine ⟨fun h9 => absurd h9 (by omega), fun _ => ?_⟩
  rw [ex_gR e1 (v0 := some bg) rfl, ex_sI e2 (by decide) (on_in (by omega) (by omega)), on_nat (by omega)]
  refine h _ _ (Fr.set rfl) ⟨⟨b3, b4⟩, hset_at hne e1, hset_same, fun k hk => ?_⟩
  by_cases h9 : k = 3 * i + j
  · rw [h9, pk_us]
    exact ⟨c, hc, rfl⟩
  · rw [pk_un h9]
    exact e3 k hk
theorem g_signOf {a : Nat} {Q : Int32 → PH → Prop} (ha : a < 3) (h : nC (Int32.ofNat (97 + a)) → Sg (Int32.ofNat (97 + a)) → Q (Int32.ofNat (97 + a)) ph) : w_X9_signOf (Int32.ofNat a) ph Q X := by
  have key : ∀ a : Fin 3, (((97 : Int32) + Int32.ofNat a.val).toUInt32 % 65536).toInt32 = Int32.ofNat (97 + a.val) := by decide
  have e := key ⟨a, ha⟩
  simp only at e
  have hs : Sg (Int32.ofNat (97 + a)) := by
    have h3 : a = 0 ∨ a = 1 ∨ a = 2 := by omega
    rcases h3 with rfl | rfl | rfl
    · exact Or.inl rfl
    · exact Or.inr (Or.inl rfl)
    · exact Or.inr (Or.inr (Or.inl rfl))
  unfold w_X9_signOf
  rw [e]
  exact ⟨hs.nc, h hs.nc hs⟩
theorem g_slideBy {t ts n : Nat} {ft : Nat → Int32} {Q : PH → Prop} (hn : 2 ≤ n) (hT : Tp ph t ts n ft) (hB : Bl ph b bg lt f) (h : ∀ (ph' : PH) (f' : Nat → Int32), Ext (two t ts) ph ph' → Tp ph' t ts (n - 1) f' → Q ph') : w_X9_slideBy t (some b) ph Q X := by
  have hn40 := hT.2.2.1
  have d1 : ¬ two t ts b := fun h9 => h9.elim (tag_ne hB.2.1 hT.1 (by decide)) (tag_ne hB.2.1 hT.2.1 (by decide))
  have d2 : ¬ two t ts bg := fun h9 => h9.elim (tag_ne hB.2.2.1 hT.1 (by decide)) (tag_ne hB.2.2.1 hT.2.1 (by decide))
  have hne : t ≠ ts := tag_ne hT.1 hT.2.1 (by decide)
  have tail : ∀ (p : PH) (f' : Nat → Int32), Ext (two t ts) ph p → Tp p t ts n f' → w_X9_slideBy_52 Q X (some t) p := by
    intro p f' hK T
    unfold w_X9_slideBy_52
    rw [ex_gI T.1 rfl, show (0 : Int32) = Int32.ofNat 0 from rfl, on_le (by omega) (by omega)]
    refine ⟨fun h9 => absurd h9 (by omega), fun _ => ?_⟩
    rw [ex_gI T.1 rfl, show (1 : Int32) = Int32.ofNat 1 from rfl, on_sub (by omega), ex_pW (fs' := [.ref ts, .int (Int32.ofNat (n - 1))]) T.1 (by decide) (show 1 < 2 by decide) rfl]
    refine h _ f' (hK.tr (Ext.set (Or.inl rfl))) ⟨hset_same, hset_at hne.symm T.2.1, by omega, fun i hi => T.2.2.2 i (by omega)⟩
  unfold w_X9_slideBy
  refine ⟨n - 1 + 1, (upto0 (n := n - 1) (P := fun fu i => ∀ (p : PH) (f' : Nat → Int32), Ext (two t ts) ph p → Tp p t ts n f' → w_X9_slideBy_2 Q X fu (some t) (some b) (Int32.ofNat i) p) fun fu i hi ih => ?_) ph ft (Ext.rf ph) hT⟩
  intro p f' hK T
  have B := hB.ext hK d1 d2
  unfold w_X9_slideBy_2
  rw [ex_gI T.1 rfl, on_succ, on_le (by omega) (by omega)]
  refine ⟨fun _ => tail p f' hK T, fun h9 => ?_⟩
  rw [ex_gR T.1 (v0 := some ts) rfl, ex_aL T.2.1, on_le (by omega) (by omega)]
  refine ⟨fun h8 => absurd h8 (by omega), fun _ => ?_⟩
  rw [ex_gR T.1 (v0 := some ts) rfl, ex_isO T.1]
  refine g_letterAtA T (fun v1 _ => ?_)
  rw [ex_isO T.1]
  refine g_letterAtA T (fun v2 _ => ?_)
  rw [ex_isO B.2.1]
  refine g_givenA B (fun a ha => g_signOf ha (fun hc hs => ⟨hc, ?_⟩))
  rw [ex_sI T.2.1 (by decide) (on_in (by omega) (by omega)), on_nat (by omega)]
  refine ih (by omega) _ _ (hK.tr (Ext.set (Or.inr rfl))) ⟨hset_at hne T.1, hset_same, hn40, fun j hj => ?_⟩
  by_cases h7 : j = i
  · rw [h7, pk_us]
    exact hs
  · rw [pk_un h7]
    exact T.2.2.2 j hj
end BLOCK
