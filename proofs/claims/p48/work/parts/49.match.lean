/-! two graphs held against one another -/
def TM : Nat → Bool := fun t => t == 214 || t == 215
def Pr (ph : PH) (A : Nat → Nat) (fF fS : Nat → Int32) : Prop := ph (A 8) = some (214, .inr (.int, 400, .inl fF)) ∧ ph (A 9) = some (215, .inr (.int, 400, .inl fS))
section MATCH
variable {ph : PH} {r c : Nat} {A : Nat → Nat} {fF fS : Nat → Int32} {S T : Int32} {X : String → PH → Prop}
theorem g_isUnlike {Q : Int32 → PH → Prop} (h0 : (S = 0 ↔ T = 0) → Q 0 ph) (h1 : ¬ (S = 0 ↔ T = 0) → Q 1 ph) : w_X6_isUnlike S T ph Q X := by
  unfold w_X6_isUnlike w_X6_isUnlike_9 w_X6_isUnlike_18
  refine ⟨fun a => ⟨fun b => ⟨fun _ => ⟨rfl, h0 ⟨fun x => absurd x a, fun x => absurd x b⟩⟩, fun x => absurd rfl x⟩, fun b => ⟨fun x => absurd x (by decide), fun _ => ⟨rfl, h1 fun x => a (x.mpr b)⟩⟩⟩, fun a => ⟨fun b => ⟨fun x => absurd x (by decide), fun _ => ⟨rfl, h1 fun x => b (x.mp a)⟩⟩, fun b => ⟨fun _ => ⟨rfl, h0 ⟨fun _ => b, fun _ => a⟩⟩, fun x => absurd rfl x⟩⟩⟩
theorem g_keepPair {Q : PH → Prop} (hc : c < 400) (hr : RdO ph r A) (hp : Pr ph A fF fS) (h : ∀ ph' : PH, Keep TM ph ph' → Pr ph' A (upd fF c S) (upd fS c T) → Q ph') : w_X6_keepPair r (Int32.ofNat c) S T ph Q X := by
  obtain ⟨e1, e2⟩ := hp
  have n1 : A 9 ≠ A 8 := tag_ne e2 e1 (by decide)
  unfold w_X6_keepPair
  refine ⟨fun h9 => absurd h9 (on_neg (by omega)), fun _ => ?_⟩
  rw [ex_gR hr (v0 := some (A 8)) rfl, ex_aL e1, on_le (by omega) (by omega)]
  refine ⟨fun h9 => absurd h9 (by omega), fun _ => ?_⟩
  rw [ex_gR hr (v0 := some (A 9)) rfl, ex_aL e2, on_le (by omega) (by omega)]
  refine ⟨fun h9 => absurd h9 (by omega), fun _ => ?_⟩
  rw [ex_gR hr (v0 := some (A 8)) rfl, ex_sI e1 (by decide) (on_in hc (by omega)), on_nat (by omega)]
  have k1 := Keep.setI (T := TM) (f' := upd fF c S) e1 rfl
  have e1' := hset_same (ph := ph) (a := A 8) (e := (214, .inr (.int, 400, .inl (upd fF c S))))
  have e2' := hset_at (e := (214, .inr (.int, 400, .inl (upd fF c S)))) n1 e2
  generalize hset ph (A 8) (214, .inr (.int, 400, .inl (upd fF c S))) = p1 at k1 e1' e2' ⊢
  have hr1 : RdO p1 r A := k1.obj hr
  rw [ex_gR hr1 (v0 := some (A 9)) rfl, ex_sI e2' (by decide) (on_in hc (by omega)), on_nat (by omega)]
  exact h _ (k1.tr (Keep.setI e2' rfl)) ⟨hset_at n1.symm e1', hset_same⟩
theorem g_isMet {Q : Int32 → PH → Prop} (hc : c ≤ 400) (hr : RdO ph r A) (hp : Pr ph A fF fS) (h1 : ∀ k : Nat, k < c → fF k = S → fS k = T → Q 1 ph) (h0 : Q 0 ph) : w_X6_isMet r S T (Int32.ofNat c) ph Q X := by
  obtain ⟨e1, e2⟩ := hp
  unfold w_X6_isMet
  refine ⟨c + 1, upto0 (P := fun fu i => w_X6_isMet_3 Q X fu (some r) S T (Int32.ofNat c) (Int32.ofNat i) ph) fun fu i hi ih => ?_⟩
  unfold w_X6_isMet_3
  rw [on_le (by omega) (by omega)]
  refine ⟨fun _ => ⟨rfl, h0⟩, fun h9 => ?_⟩
  rw [ex_gR hr (v0 := some (A 8)) rfl, ex_aL e1, on_le (by omega) (by omega)]
  refine ⟨fun h8 => absurd h8 (by omega), fun _ => ?_⟩
  rw [ex_gR hr (v0 := some (A 9)) rfl, ex_aL e2, on_le (by omega) (by omega)]
  refine ⟨fun h8 => absurd h8 (by omega), fun _ => ?_⟩
  rw [ex_gR hr (v0 := some (A 8)) rfl, ex_aI e1 (on_in (by omega) (by omega)), on_nat (by omega), on_succ]
  refine ⟨fun _ => ih (by omega), fun h7 => ?_⟩
  rw [ex_gR hr (v0 := some (A 9)) rfl, ex_aI e2 (on_in (by omega) (by omega)), on_nat (by omega)]
  exact ⟨fun _ => ih (by omega), fun h6 => ⟨rfl, h1 i (by omega) h7 h6⟩⟩
end MATCH
section MATCH2
variable {r g g' st st' lt : Nat} {A : Nat → Nat} {E E' : Nat → Int32} {X : String → PH → Prop}
theorem g_match {ph : PH} {fF fS : Nat → Int32} {Q : Int32 → PH → Prop} (hr : RdO ph r A) (hp : Pr ph A fF fS) (hG : Gr ph g st lt E) (hG' : Gr ph g' st' lt E') (h0 : ∀ ph' : PH, Keep TM ph ph' → Q 0 ph') (hm : ∀ ph' : PH, Keep TM ph ph' → Q (-1) ph') (h1 : ∀ (ph' : PH) (B : Int32 → Int32 → Prop), Keep TM ph ph' → Bis lt (rdL st E (live st lt E)) (rdL st' E' (live st' lt E')) B → B (live st lt E) (live st' lt E') → Q 1 ph') : w_X6_match r (some g) (some g') ph Q X := by
  obtain ⟨⟨-, hst, h2, h3⟩, ge, e1, e2⟩ := id hG
  obtain ⟨⟨-, hst', -, -⟩, ge', e1', e2'⟩ := id hG'
  unfold w_X6_match
  rw [ex_isO e1]
  refine g_liveSet hG ?_
  rw [ex_isO e1']
  refine g_liveSet hG' ?_
  generalize hL : live st lt E = L at h1 ⊢
  generalize hL' : live st' lt E' = L' at h1 ⊢
  refine g_isUnlike (fun hLL => ⟨fun _ => ?_, fun h9 => absurd rfl h9⟩) (fun _ => ⟨fun h9 => absurd h9 (by decide), fun _ => h0 ph (Keep.rf ph)⟩)
  rw [ex_isO hr]
  refine g_keepPair (c := 0) (by decide) hr hp (fun p1 k1 hp1 => ?_)
  -- the pairs that are met, of which the first i are done
  refine ⟨401, (upto0 (n := 400) (P := fun fu i => ∀ (c : Nat) (p : PH) (fF fS : Nat → Int32), c ≤ 400 → i ≤ c → Keep TM ph p → Pr p A fF fS → fF 0 = L → fS 0 = L' → 0 < c → (∀ j : Nat, j < c → (fF j = 0 ↔ fS j = 0)) → (∀ j : Nat, j < i → ¬ fF j = 0 → ∀ a : Nat, a < lt → ∃ k : Nat, k < c ∧ fF k = rdL st E L (fF j) a ∧ fS k = rdL st' E' L' (fS j) a) → w_X6_match_36 Q X fu (some r) (some g) (some g') L L' (Int32.ofNat c) (Int32.ofNat i) p) fun fu i hi ih => ?_) 1 p1 _ _ (by decide) (by decide) k1 hp1 pk_us pk_us (by decide) (fun j hj => ?_) (fun j hj => by omega)⟩
  · intro c p fF fS hc hic hK hp2 ha hb hc0 hal hpr
    have fin : i = c → Q 1 p := by
      intro h9
      refine h1 p (fun S T => ∃ k : Nat, k < c ∧ fF k = S ∧ fS k = T) hK ?_ ⟨0, hc0, ha, hb⟩
      rintro S T ⟨k, hk, rfl, rfl⟩
      refine ⟨hal k hk, fun a ha' => ?_⟩
      by_cases h8 : fF k = 0
      · refine ⟨k, hk, ?_, ?_⟩
        · rw [h8, rdL_zero hst]
        · rw [(hal k hk).mp h8, rdL_zero hst']
      · exact hpr k (by omega) h8 a ha'
    have hr1 : RdO p r A := hK.obj hr
    obtain ⟨f1, f2⟩ := id hp2
    unfold w_X6_match_36
    rw [on_le (by omega) (by omega)]
    refine ⟨fun h9 => fin (by omega), fun h9 => ?_⟩
    rw [ex_gR hr1 (v0 := some (A 8)) rfl, ex_aL f1, on_le (by omega) (by omega)]
    refine ⟨fun h8 => absurd h8 (by omega), fun _ => ?_⟩
    rw [ex_gR hr1 (v0 := some (A 9)) rfl, ex_aL f2, on_le (by omega) (by omega)]
    refine ⟨fun h8 => absurd h8 (by omega), fun _ => ?_⟩
    rw [ex_gR hr1 (v0 := some (A 8)) rfl, ex_aI f1 (on_in (by omega) (by omega)), on_nat (by omega), ex_gR hr1 (v0 := some (A 9)) rfl, ex_aI f2 (on_in (by omega) (by omega)), on_nat (by omega)]
    -- the letters of pair i
    refine ⟨lt + 1, (upto0 (P := fun fu2 a => ∀ (c' : Nat) (p : PH) (fF' fS' : Nat → Int32), c' ≤ 400 → c ≤ c' → Keep TM ph p → Pr p A fF' fS' → (∀ j : Nat, j < c → fF' j = fF j ∧ fS' j = fS j) → (∀ j : Nat, j < c' → (fF' j = 0 ↔ fS' j = 0)) → (∀ b : Nat, b < a → ∃ k : Nat, k < c' ∧ fF' k = rdL st E L (fF i) b ∧ fS' k = rdL st' E' L' (fS i) b) → w_X6_match_84 Q X (fun x0 x1 x2 x3 x4 x5 x6 ph => w_X6_match_36 Q X fu x0 x1 x2 x3 x4 x5 x6 ph) fu2 (some r) (some g) (some g') L L' (Int32.ofNat c') (Int32.ofNat i) (fF i) (fS i) (Int32.ofNat a) p) fun fu2 a hla iha => ?_) c p fF fS hc (Nat.le_refl _) hK hp2 (fun j _ => ⟨rfl, rfl⟩) hal (fun b hb => by omega)⟩
    intro c' p fF' fS' hc' hcc hK' hp' hsm hal' hdone
    have hG1 := hK'.gr hG rfl
    have hG1' := hK'.gr hG' rfl
    have hr2 : RdO p r A := hK'.obj hr
    obtain ⟨-, geA, eA1, eA2⟩ := id hG1
    obtain ⟨-, geB, eB1, eB2⟩ := id hG1'
    have next : (¬ fF i = 0 → a = lt) → w_X6_match_36 Q X fu (some r) (some g) (some g') L L' (Int32.ofNat c') (Int32.ofNat i + 1) p := by
      intro h9
      rw [on_succ]
      refine ih (by omega) c' p fF' fS' hc' (by omega) hK' hp' ((hsm 0 hc0).1.trans ha) ((hsm 0 hc0).2.trans hb) (by omega) hal' (fun j hj hj0 b hb => ?_)
      have hjc : j < c := by omega
      rw [(hsm j hjc).1] at hj0 ⊢
      rw [(hsm j hjc).2]
      by_cases h8 : j = i
      · subst h8
        have h7 := h9 hj0
        exact hdone b (by omega)
      · obtain ⟨k, k1, k2, k3⟩ := hpr j (by omega) hj0 b hb
        exact ⟨k, by omega, (hsm k k1).1.trans k2, (hsm k k1).2.trans k3⟩
    unfold w_X6_match_84
    rw [ex_gI eA1 rfl, on_le (by omega) (by omega)]
    refine ⟨fun h9 => next (fun _ => by omega), fun h9 => ⟨fun h8 => next (fun h7 => absurd h8 h7), fun h8 => ?_⟩⟩
    rw [ex_isO eA1]
    refine g_read (by omega) hG1 ?_
    intro S hS
    have hS2 : S = rdL st E L (fF i) a := hS
    rw [ex_isO eB1]
    refine g_read (by omega) hG1' ?_
    intro T hT
    have hT2 : T = rdL st' E' L' (fS i) a := hT
    refine g_isUnlike (fun hST => ⟨fun _ => ?_, fun h7 => absurd rfl h7⟩) (fun _ => ⟨fun h7 => absurd h7 (by decide), fun _ => h0 p hK'⟩)
    rw [ex_isO hr2]
    refine g_isMet hc' hr2 hp' (fun k k1 k2 k3 => ⟨fun _ => ?_, fun h7 => absurd h7 (by decide)⟩) ⟨fun h7 => absurd rfl h7, fun _ => ⟨fun h7 => ?_, fun h7 => hm p hK'⟩⟩
    · rw [on_succ]
      refine iha (by omega) c' p fF' fS' hc' hcc hK' hp' hsm hal' (fun b hb => ?_)
      by_cases h6 : b = a
      · rw [h6]
        exact ⟨k, k1, k2.trans hS2, k3.trans hT2⟩
      · exact hdone b (by omega)
    · rw [show (400 : Int32) = Int32.ofNat 400 from rfl, on_lt (by omega) (by omega)] at h7
      rw [ex_isO hr2]
      refine g_keepPair h7 hr2 hp' (fun p3 k3 hp3 => ?_)
      rw [on_succ, on_succ]
      have un : ∀ j : Nat, j < c' → upd fF' c' S j = fF' j ∧ upd fS' c' T j = fS' j := fun j hj => ⟨pk_un (by omega), pk_un (by omega)⟩
      refine iha (by omega) (c' + 1) p3 _ _ (by omega) (by omega) (hK'.tr k3) hp3 (fun j hj => ?_) (fun j hj => ?_) (fun b hb => ?_)
      · rw [(un j (by omega)).1, (un j (by omega)).2]
        exact hsm j hj
      · by_cases h6 : j = c'
        · rw [h6, pk_us, pk_us]
          exact hST
        · rw [(un j (by omega)).1, (un j (by omega)).2]
          exact hal' j (by omega)
      · by_cases h6 : b = a
        · refine ⟨c', by omega, ?_, ?_⟩
          · rw [pk_us, h6]
            exact hS2
          · rw [pk_us, h6]
            exact hT2
        · obtain ⟨k, k1, k2, k3⟩ := hdone b (by omega)
          exact ⟨k, by omega, (un k k1).1.trans k2, (un k k1).2.trans k3⟩
  · rw [show j = 0 by omega, pk_us, pk_us]
    exact hLL
end MATCH2
