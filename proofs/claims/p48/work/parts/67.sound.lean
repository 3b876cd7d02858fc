/-! what a substitution learns; how many edges; what is in its bounds -/
section SOUND
variable {ph : PH} {X : String → PH → Prop}
theorem g_learn {rp rl rv rr rs t ts n a : Nat} {ln ls : Nat → Nat} {ft : Nat → Int32} {Q : PH → Prop} (ha : a < 3) (hn : n ≤ 4) (hR : Rp ph rp rl rv rr rs ln ls) (hT : Tp ph t ts n ft) (hL : ∀ i : Nat, i < n → ∃ c : Nat, c < 3 ∧ ft i = Int32.ofNat (97 + c)) (h : ∀ (ph' : PH) (ln' ls' : Nat → Nat), Fr (fun q => q = rl ∨ q = rv) ph ph' → Rp ph' rp rl rv rr rs ln' ls' → Q ph') : w_X7_learn rp (Int32.ofNat a) (some t) ph Q X := by
  obtain ⟨e, ⟨f1, e1, p1⟩, ⟨f2, e2, p2⟩, ⟨f3, e3⟩, ⟨f4, e4⟩⟩ := id hR
  have x1 : rv ≠ rl := tag_ne e2 e1 (by decide)
  have d : ∀ q : Nat, q = rp ∨ q = rr ∨ q = rs ∨ q = t ∨ q = ts → ¬ (q = rl ∨ q = rv) := by
    intro q hq h9
    rcases hq with rfl | rfl | rfl | rfl | rfl
    · exact h9.elim (tag_ne e e1 (by decide)) (tag_ne e e2 (by decide))
    · exact h9.elim (tag_ne e3 e1 (by decide)) (tag_ne e3 e2 (by decide))
    · exact h9.elim (tag_ne e4 e1 (by decide)) (tag_ne e4 e2 (by decide))
    · exact h9.elim (tag_ne hT.1 e1 (by decide)) (tag_ne hT.1 e2 (by decide))
    · exact h9.elim (tag_ne hT.2.1 e1 (by decide)) (tag_ne hT.2.1 e2 (by decide))
  unfold w_X7_learn
  refine ⟨n + 1, (upto0 (P := fun fu i => ∀ (u : PH) (ls' : Nat → Nat) (f : Nat → Int32), Fr (fun q => q = rl ∨ q = rv) ph u → u rl = some (226, .inr (.int, 3, .inl f1)) → u rv = some (227, .inr (.int, 12, .inl f)) → (∀ i : Nat, i < 12 → ls' i < 3 ∧ f i = Int32.ofNat (ls' i)) → w_X7_learn_2 Q X fu (some rp) (Int32.ofNat a) (some t) (Int32.ofNat i) u) fun fu i hi ih => ?_) ph ls f2 (Fr.rf ph) e1 e2 p2⟩
  intro u ls' f hK e1 e2 p2
  have T := hT.ext hK.ext (d t (Or.inr (Or.inr (Or.inr (Or.inl rfl))))) (d ts (Or.inr (Or.inr (Or.inr (Or.inr rfl)))))
  have e' := (hK rp (d rp (Or.inl rfl))).trans e
  have e3' := (hK rr (d rr (Or.inr (Or.inl rfl)))).trans e3
  have e4' := (hK rs (d rs (Or.inr (Or.inr (Or.inl rfl))))).trans e4
  unfold w_X7_learn_2
  rw [ex_gI T.1 rfl, on_le (by omega) (by omega)]
  refine ⟨fun h9 => ?_, fun h9 => ?_⟩
  · unfold w_X7_learn_55
    refine ⟨fun h8 => absurd h8 (on_neg (by omega)), fun _ => ?_⟩
    rw [ex_gR e' (v0 := some rl) rfl, ex_aL e1, on_le (by omega) (by omega)]
    refine ⟨fun h8 => absurd h8 (by omega), fun _ => ?_⟩
    rw [ex_gR e' (v0 := some rl) rfl, ex_gI T.1 rfl, ex_sI e1 (by decide) (on_in (by omega) (by omega)), on_nat (by omega)]
    refine h _ (upN ln a n) ls' (hK.tr (Fr.set (Or.inl rfl))) ⟨hset_at (fun h7 => d rp (Or.inl rfl) (Or.inl h7)) e', ⟨_, hset_same, fun c hc => ?_⟩, ⟨f, hset_at x1 e2, p2⟩, ⟨f3, hset_at (fun h7 => d rr (Or.inr (Or.inl rfl)) (Or.inl h7)) e3'⟩, ⟨f4, hset_at (fun h7 => d rs (Or.inr (Or.inr (Or.inl rfl))) (Or.inl h7)) e4'⟩⟩
    by_cases h6 : c = a
    · rw [h6, pk_us, un_s]
      exact ⟨hn, rfl⟩
    · rw [pk_un h6, un_n h6]
      exact p1 c hc
  rw [show (4 : Int32) = Int32.ofNat 4 from rfl, on_le (by omega) (by omega)]
  refine ⟨fun h8 => absurd h8 (by omega), fun _ v20 h20 => ?_⟩
  rw [show Int32.ofNat 4 = (4 : Int32) from rfl, on_4] at h20
  subst h20
  refine ⟨fun h8 => absurd h8 (on_neg (by omega)), fun _ => ?_⟩
  rw [ex_gR e' (v0 := some rv) rfl, ex_aL e2, on_le (by omega) (by omega)]
  refine ⟨fun h8 => absurd h8 (by omega), fun _ => ?_⟩
  rw [ex_gR e' (v0 := some rv) rfl, ex_isO T.1, on_succ]
  obtain ⟨c, hc, ec⟩ := hL i (by omega)
  have put : ∀ c : Nat, c < 3 → (∃ ph48 : PH, sI u .int (some rv) (Int32.ofNat (4 * a + i)) (Int32.ofNat c) ph48 ∧ (w_X7_learn_2 Q X fu (some rp) (Int32.ofNat a) (some t) (Int32.ofNat (i + 1)) ph48)) := by
    intro c hc
    rw [ex_sI e2 (by decide) (on_in (by omega) (by omega)), on_nat (by omega)]
    refine ih (by omega) _ (upN ls' (4 * a + i) c) _ (hK.tr (Fr.set (Or.inr rfl))) (hset_at x1.symm e1) hset_same (fun j hj => ?_)
    by_cases h6 : j = 4 * a + i
    · rw [h6, pk_us, un_s]
      exact ⟨hc, rfl⟩
    · rw [pk_un h6, un_n h6]
      exact p2 j hj
  unfold w_X9_letterAt
  rw [ex_isO T.1]
  refine g_tat T (fun hno => absurd rfl (hno i (by omega))) (fun j hj ej => ?_)
  rw [on_inj (by omega) (by omega)] at ej
  subst ej
  rw [ec]
  refine g_letterOf (fun h7 => absurd ⟨?_, ?_⟩ h7) (fun c' hc' e7 => put c' hc')
  · rw [show (97 : Int32) = Int32.ofNat 97 from rfl, on_le (by omega) (by omega)]
    omega
  · rw [show (99 : Int32) = Int32.ofNat 99 from rfl, on_le (by omega) (by omega)]
    omega
def ceF (E : Nat → Int32) : Nat := sumN 72 (fun i => bc (E i))
theorem g_countEdges {g st lt : Nat} {E : Nat → Int32} {Q : Int32 → PH → Prop} (hG : Gr ph g st lt E) (h : Q (Int32.ofNat (ceF E)) ph) : w_X3_countEdges g ph Q X := by
  obtain ⟨-, ge, e1, e2⟩ := id hG
  unfold w_X3_countEdges
  refine ⟨73, upto0 (n := 72) (P := fun fu i => w_X3_countEdges_4 Q X fu (some g) (Int32.ofNat (sumN i (fun i => bc (E i)))) (Int32.ofNat i) ph) fun fu i hi ih => ?_⟩
  unfold w_X3_countEdges_4
  rw [ex_gR e1 (v0 := some ge) rfl, ex_aL e2, on_le (by omega) (by omega)]
  refine ⟨fun h9 => ?_, fun h9 => ?_⟩
  · rw [show i = 72 by omega]
    exact h
  rw [ex_gR e1 (v0 := some ge) rfl, ex_aI e2 (on_in (by omega) (by omega)), on_nat (by omega)]
  refine g_bitCount ?_
  intro v hv
  rw [bc_I, on_add] at hv
  subst hv
  rw [on_succ]
  exact ih (by omega)
theorem g_isSign {x : Int32} {Q : Int32 → PH → Prop} (hx : Sg x) (h : Q 1 ph) : w_X9_isSign x ph Q X := by
  unfold w_X9_isSign
  rcases hx with rfl | rfl | rfl | rfl
  · exact ⟨fun h9 => absurd h9 (by decide), fun _ => ⟨fun h9 => absurd h9 (by decide), fun _ => ⟨fun _ => ⟨rfl, h⟩, fun h9 => absurd (by decide) h9⟩⟩⟩
  · exact ⟨fun h9 => absurd h9 (by decide), fun _ => ⟨fun h9 => absurd h9 (by decide), fun _ => ⟨fun _ => ⟨rfl, h⟩, fun h9 => absurd (by decide) h9⟩⟩⟩
  · exact ⟨fun h9 => absurd h9 (by decide), fun _ => ⟨fun h9 => absurd h9 (by decide), fun _ => ⟨fun _ => ⟨rfl, h⟩, fun h9 => absurd (by decide) h9⟩⟩⟩
  · exact ⟨fun _ => ⟨fun h9 => absurd h9 (by decide), fun _ => ⟨fun h9 => absurd h9 (by decide), fun _ => ⟨fun h9 => absurd h9 (by decide), fun _ => ⟨fun h9 => absurd rfl h9, fun _ => ⟨rfl, h⟩⟩⟩⟩⟩, fun h9 => absurd (by decide) h9⟩
theorem g_tapeIn {t ts n : Nat} {f : Nat → Int32} {Q : Int32 → PH → Prop} (hT : Tp ph t ts n f) (h : Q 1 ph) : w_X9_isInBounds t ph Q X := by
  obtain ⟨e1, e2, hn, hs⟩ := id hT
  unfold w_X9_isInBounds
  rw [ex_gI e1 rfl]
  refine ⟨fun h9 => absurd h9 (on_neg (by omega)), fun _ => ?_⟩
  rw [ex_gI e1 rfl, ex_gR e1 (v0 := some ts) rfl, ex_aL e2, on_lt (by omega) (by omega)]
  refine ⟨fun h9 => absurd h9 (by omega), fun _ => ?_⟩
  refine ⟨n + 1, upto0 (P := fun fu i => w_X9_isInBounds_27 Q X fu (some t) 1 (Int32.ofNat i) ph) fun fu i hi ih => ?_⟩
  unfold w_X9_isInBounds_27
  rw [ex_gI e1 rfl, on_le (by omega) (by omega), on_succ]
  refine ⟨fun _ => ⟨rfl, h⟩, fun h9 => ⟨fun h8 => absurd h8 (by decide), fun _ => ?_⟩⟩
  rw [ex_isO e1]
  refine g_tat hT (fun hno => absurd rfl (hno i (by omega))) (fun j hj ej => ?_)
  exact g_isSign (hs j hj) ⟨fun h8 => absurd h8 (by decide), fun _ => ih (by omega)⟩
theorem g_graphIn {g st lt : Nat} {E : Nat → Int32} {Q : Int32 → PH → Prop} (hG : Gr ph g st lt E) (h : Q 1 ph) : w_X3_isInBounds g ph Q X := by
  obtain ⟨⟨b1, b2, b3, b4⟩, ge, e1, e2⟩ := id hG
  unfold w_X3_isInBounds
  rw [ex_gI e1 rfl, show (1 : Int32) = Int32.ofNat 1 from rfl, on_lt (by omega) (by omega)]
  refine ⟨fun h9 => absurd h9 (by omega), fun _ => ?_⟩
  rw [ex_gI e1 rfl, show (24 : Int32) = Int32.ofNat 24 from rfl, on_lt (by omega) (by omega)]
  refine ⟨fun h9 => absurd h9 (by omega), fun _ => ?_⟩
  rw [ex_gI e1 rfl, show (2 : Int32) = Int32.ofNat 2 from rfl, on_lt (by omega) (by omega)]
  refine ⟨fun h9 => absurd h9 (by omega), fun _ => ?_⟩
  rw [ex_gI e1 rfl, show (3 : Int32) = Int32.ofNat 3 from rfl, on_lt (by omega) (by omega)]
  exact ⟨fun h9 => absurd h9 (by omega), fun _ => ⟨rfl, h⟩⟩
theorem g_blockIn {b bg lt : Nat} {f : Nat → Int32} {Q : Int32 → PH → Prop} (hB : Bl ph b bg lt f) (h : Q 1 ph) : w_X1_isInBounds b ph Q X := by
  obtain ⟨⟨b1, b2⟩, e1, e2, e3⟩ := id hB
  unfold w_X1_isInBounds
  rw [ex_gI e1 rfl, show (2 : Int32) = Int32.ofNat 2 from rfl, on_lt (by omega) (by omega)]
  refine ⟨fun h9 => absurd h9 (by omega), fun _ => ?_⟩
  rw [ex_gI e1 rfl, show (3 : Int32) = Int32.ofNat 3 from rfl, on_lt (by omega) (by omega)]
  refine ⟨fun h9 => absurd h9 (by omega), fun _ => ?_⟩
  refine ⟨10, upto0 (n := 9) (P := fun fu i => w_X1_isInBounds_24 Q X fu (some b) 1 (Int32.ofNat i) ph) fun fu i hi ih => ?_⟩
  unfold w_X1_isInBounds_24
  rw [ex_gR e1 (v0 := some bg) rfl, ex_aL e2, on_le (by omega) (by omega), on_succ]
  refine ⟨fun _ => ⟨rfl, h⟩, fun h9 => ⟨fun h8 => absurd h8 (by decide), fun _ => ?_⟩⟩
  rw [ex_gR e1 (v0 := some bg) rfl, ex_aI e2 (on_in (by omega) (by omega)), on_nat (by omega), ex_isO e1]
  refine g_bHas hB (fun j hj ej => ⟨fun h8 => absurd h8 (by decide), fun _ => ih (by omega)⟩) (fun hno => ?_)
  obtain ⟨a, ha, ea⟩ := e3 i (by omega)
  exact absurd ea (hno a ha)
/-- a long that is a digit -/
def Dg (x : Int64) : Prop := ∃ k : Nat, k ≤ 9 ∧ x = Int64.ofNat k
theorem g_tableIn {t ta r c : Nat} {f : Nat → Int64} {Q : Int32 → PH → Prop} (hT : Tb ph t ta r c f) (hb : 1 ≤ r ∧ r ≤ 5 ∧ 1 ≤ c ∧ c ≤ 5) (hd : ∀ i : Nat, i < 144 → Dg (f i)) (h : Q 1 ph) : w_X8_isInBounds t ph Q X := by
  obtain ⟨-, e1, e2⟩ := id hT
  unfold w_X8_isInBounds
  rw [ex_gI e1 rfl, show (1 : Int32) = Int32.ofNat 1 from rfl, on_lt (by omega) (by omega)]
  refine ⟨fun h9 => absurd h9 (by omega), fun _ => ?_⟩
  rw [ex_gI e1 rfl, show (5 : Int32) = Int32.ofNat 5 from rfl, on_lt (by omega) (by omega)]
  refine ⟨fun h9 => absurd h9 (by omega), fun _ => ?_⟩
  rw [ex_gI e1 rfl, on_lt (by omega) (by omega)]
  refine ⟨fun h9 => absurd h9 (by omega), fun _ => ?_⟩
  rw [ex_gI e1 rfl, on_lt (by omega) (by omega)]
  refine ⟨fun h9 => absurd h9 (by omega), fun _ => ?_⟩
  refine ⟨145, upto0 (n := 144) (P := fun fu i => w_X8_isInBounds_40 Q X fu (some t) (Int32.ofNat 1) (Int32.ofNat i) ph) fun fu i hi ih => ?_⟩
  unfold w_X8_isInBounds_40
  rw [ex_gR e1 (v0 := some ta) rfl, ex_aL e2, on_le (by omega) (by omega), on_succ]
  refine ⟨fun _ => ⟨rfl, h⟩, fun h9 => ⟨fun h8 => absurd h8 (by decide), fun _ => ?_⟩⟩
  obtain ⟨k, hk, ek⟩ := hd i (by omega)
  rw [ex_gR e1 (v0 := some ta) rfl, ex_aJ e2 (on_in (by omega) (by omega)), on_nat (by omega), ek, lgc_lt, show (0 : Int64) = Int64.ofNat 0 from rfl, oj_lt (by omega) (by omega)]
  refine ⟨fun h8 => absurd h8 (by omega), fun _ => ?_⟩
  rw [ex_gR e1 (v0 := some ta) rfl, ex_aJ e2 (on_in (by omega) (by omega)), on_nat (by omega), ek, lgc_gt, show (9 : Int64) = Int64.ofNat 9 from rfl, oj_lt (by omega) (by omega)]
  exact ⟨fun h8 => absurd h8 (by omega), fun _ => ih (by omega)⟩
end SOUND
