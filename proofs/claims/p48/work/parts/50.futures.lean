/-! unlike futures -/
def Arr (ph : PH) (a g n : Nat) : Prop := ∃ f : Nat → Int32, ph a = some (g, .inr (.int, n, .inl f))
theorem Arr.keep {T : Nat → Bool} {p q : PH} (h : Keep T p q) {a g n : Nat} (ha : Arr p a g n) : Arr q a g n := by
  obtain ⟨f, e⟩ := ha
  exact h.row e
def RdA (ph : PH) (r : Nat) (A : Nat → Nat) : Prop := RdO ph r A ∧ Arr ph (A 0) 206 1024 ∧ Arr ph (A 1) 207 1024 ∧ Arr ph (A 2) 208 1024 ∧ Arr ph (A 3) 209 7 ∧ Arr ph (A 4) 210 60 ∧ Arr ph (A 5) 211 180 ∧ Arr ph (A 6) 212 60 ∧ Arr ph (A 7) 213 60 ∧ Arr ph (A 8) 214 400 ∧ Arr ph (A 9) 215 400
theorem RdA.keep {T : Nat → Bool} {p q : PH} (h : Keep T p q) {r : Nat} {A : Nat → Nat} (ha : RdA p r A) : RdA q r A := by
  obtain ⟨h0, h1, h2, h3, h4, h5, h6, h7, h8, h9, h10⟩ := ha
  exact ⟨h.obj h0, h1.keep h, h2.keep h, h3.keep h, h4.keep h, h5.keep h, h6.keep h, h7.keep h, h8.keep h, h9.keep h, h10.keep h⟩
def TF : Nat → Bool := fun t => t == 210 || t == 211 || t == 212 || t == 213
section FUT
variable {ph : PH} {r g st lt : Nat} {A : Nat → Nat} {E : Nat → Int32} {X : String → PH → Prop}
theorem g_keepSet {c : Nat} {S : Int32} {Q : PH → Prop} (hc : c < 60) (hr : RdA ph r A) (h : ∀ ph' : PH, Keep TF ph ph' → Q ph') : w_X6_keepSet r (Int32.ofNat c) S ph Q X := by
  obtain ⟨h0, -, -, -, -, ⟨f, e⟩, -⟩ := hr
  unfold w_X6_keepSet
  refine ⟨fun h9 => absurd h9 (on_neg (by omega)), fun _ => ?_⟩
  rw [ex_gR h0 (v0 := some (A 4)) rfl, ex_aL e, on_le (by omega) (by omega)]
  refine ⟨fun h9 => absurd h9 (by omega), fun _ => ?_⟩
  rw [ex_gR h0 (v0 := some (A 4)) rfl, ex_sI e (by decide) (on_in hc (by omega))]
  exact h _ (Keep.setI e rfl)
theorem g_placeOfSet {c : Nat} {S : Int32} {Q : Int32 → PH → Prop} (hc : c ≤ 60) (hr : RdA ph r A) (h : ∀ v : Int32, Q v ph) : w_X6_placeOfSet r S (Int32.ofNat c) ph Q X := by
  obtain ⟨h0, -, -, -, -, ⟨f, e⟩, -⟩ := hr
  unfold w_X6_placeOfSet
  refine ⟨c + 1, upto0 (P := fun fu i => w_X6_placeOfSet_2 Q X fu (some r) S (Int32.ofNat c) (Int32.ofNat i) ph) fun fu i hi ih => ?_⟩
  unfold w_X6_placeOfSet_2
  rw [on_le (by omega) (by omega)]
  refine ⟨fun _ => h _, fun h9 => ?_⟩
  rw [ex_gR h0 (v0 := some (A 4)) rfl, ex_aL e, on_le (by omega) (by omega)]
  refine ⟨fun h8 => absurd h8 (by omega), fun _ => ?_⟩
  rw [ex_gR h0 (v0 := some (A 4)) rfl, ex_aI e (on_in (by omega) (by omega)), on_succ]
  exact ⟨fun _ => ih (by omega), fun _ => h _⟩
theorem on_3 {i a : Nat} : ((3 : Int32) * Int32.ofNat i) + Int32.ofNat a = Int32.ofNat (3 * i + a) := by
  rw [Int32.ofNat_add, Int32.ofNat_mul]
  rfl
theorem g_noteMove {i a : Nat} {v : Int32} {Q : PH → Prop} (hi : i < 60) (ha : a < 3) (hr : RdA ph r A) (h : ∀ ph' : PH, Keep TF ph ph' → Q ph') : w_X6_noteMove r (Int32.ofNat i) (Int32.ofNat a) v ph Q X := by
  obtain ⟨h0, -, -, -, -, -, ⟨f, e⟩, -⟩ := hr
  unfold w_X6_noteMove
  intro v5 h5
  rw [on_3] at h5
  subst h5
  refine ⟨fun h9 => absurd h9 (on_neg (by omega)), fun _ => ?_⟩
  rw [ex_gR h0 (v0 := some (A 5)) rfl, ex_aL e, on_le (by omega) (by omega)]
  refine ⟨fun h9 => absurd h9 (by omega), fun _ => ?_⟩
  rw [ex_gR h0 (v0 := some (A 5)) rfl, ex_sI e (by decide) (on_in (by omega) (by omega))]
  exact h _ (Keep.setI e rfl)
theorem g_collectSets {Q : Int32 → PH → Prop} (hr : RdA ph r A) (hG : Gr ph g st lt E) (h : ∀ (ph' : PH) (c : Nat), Keep TF ph ph' → c ≤ 60 → (¬ live st lt E = 0 → 1 ≤ c) → Q (Int32.ofNat c) ph') (hm : ∀ ph' : PH, Keep TF ph ph' → Q (-1) ph') : w_X6_collectSets r (some g) ph Q X := by
  obtain ⟨⟨-, hst, h2, h3⟩, ge, e1, e2⟩ := id hG
  unfold w_X6_collectSets
  rw [ex_isO e1]
  refine g_liveSet hG ?_
  have tail : ∀ c0 : Nat, c0 ≤ 1 → (¬ live st lt E = 0 → 1 ≤ c0) → w_X6_collectSets_14 Q X (some r) (some g) (live st lt E) (Int32.ofNat c0) ph := by
    intro c0 hc0 hc1
    unfold w_X6_collectSets_14
    rw [ex_isO hr.1]
    refine g_keepSet (c := 0) (by decide) hr (fun p1 k1 => ?_)
    refine ⟨61, (upto0 (n := 60) (P := fun fu i => ∀ (c : Nat) (p : PH), c ≤ 60 → i ≤ 60 → (¬ live st lt E = 0 → 1 ≤ c) → Keep TF ph p → w_X6_collectSets_24 Q X fu (some r) (some g) (live st lt E) (Int32.ofNat c) (Int32.ofNat i) p) fun fu i hi ih => ?_) c0 p1 (by omega) (by omega) hc1 k1⟩
    intro c p hc hi60 hcl hK
    have hr1 := hr.keep hK
    obtain ⟨-, -, -, -, -, ⟨f, e⟩, -⟩ := id hr1
    unfold w_X6_collectSets_24
    rw [on_le (by omega) (by omega)]
    refine ⟨fun _ => h p c hK hc hcl, fun h9 => ?_⟩
    rw [ex_gR hr1.1 (v0 := some (A 4)) rfl, ex_aL e, on_le (by omega) (by omega)]
    refine ⟨fun h8 => h p c hK hc hcl, fun h8 => ?_⟩
    refine ⟨lt + 1, (upto0 (P := fun fu2 a => ∀ (c : Nat) (p : PH), c ≤ 60 → (¬ live st lt E = 0 → 1 ≤ c) → Keep TF ph p → w_X6_collectSets_43 Q X (fun x0 x1 x2 x3 x4 ph => w_X6_collectSets_24 Q X fu x0 x1 x2 x3 x4 ph) fu2 (some r) (some g) (live st lt E) (Int32.ofNat c) (Int32.ofNat i) (Int32.ofNat a) p) fun fu2 a hla iha => ?_) c p hc hcl hK⟩
    intro c p hc hcl hK
    have hr1 := hr.keep hK
    have hG1 := hK.gr hG rfl
    obtain ⟨-, ge1, e11, e12⟩ := id hG1
    obtain ⟨-, -, -, -, -, ⟨f, e⟩, -⟩ := id hr1
    unfold w_X6_collectSets_43
    rw [ex_gI e11 rfl, on_le (by omega) (by omega)]
    refine ⟨fun _ => ?_, fun h7 => ?_⟩
    · rw [on_succ]
      exact ih (by omega) c p hc (by omega) hcl hK
    · have note : ∀ (c : Nat) (v : Int32) (p : PH), c ≤ 60 → (¬ live st lt E = 0 → 1 ≤ c) → Keep TF ph p → w_X6_collectSets_111 Q X (fun x0 x1 x2 x3 x4 x5 ph => w_X6_collectSets_43 Q X (fun x0 x1 x2 x3 x4 ph => w_X6_collectSets_24 Q X fu x0 x1 x2 x3 x4 ph) fu2 x0 x1 x2 x3 x4 x5 ph) (some r) (some g) (live st lt E) (Int32.ofNat c) (Int32.ofNat i) (Int32.ofNat a) v p := by
        intro c v p hc hcl hK
        have hr2 := hr.keep hK
        unfold w_X6_collectSets_111
        rw [ex_isO hr2.1]
        refine g_noteMove (by omega) (by omega) hr2 (fun p2 k2 => ?_)
        rw [on_succ]
        exact iha (by omega) c p2 hc hcl (hK.tr k2)
      have mid : ∀ (S v : Int32), w_X6_collectSets_85 Q X (fun x0 x1 x2 x3 x4 x5 ph => w_X6_collectSets_43 Q X (fun x0 x1 x2 x3 x4 ph => w_X6_collectSets_24 Q X fu x0 x1 x2 x3 x4 ph) fu2 x0 x1 x2 x3 x4 x5 ph) (some r) (some g) (live st lt E) (Int32.ofNat c) (Int32.ofNat i) (Int32.ofNat a) S v p := by
        intro S v
        unfold w_X6_collectSets_85
        refine ⟨fun _ => note c v p hc hcl hK, fun _ => ⟨fun h6 => ?_, fun _ => hm p hK⟩⟩
        rw [show (60 : Int32) = Int32.ofNat 60 from rfl, on_lt (by omega) (by omega)] at h6
        rw [ex_isO hr1.1]
        refine g_keepSet h6 hr1 (fun p2 k2 => ?_)
        rw [on_succ]
        exact note (c + 1) v p2 (by omega) (fun _ => by omega) (hK.tr k2)
      rw [ex_gR hr1.1 (v0 := some (A 4)) rfl, ex_aI e (on_in (by omega) (by omega)), ex_isO e11]
      refine g_read (by omega) hG1 ?_
      intro S hS
      refine ⟨fun _ => ?_, fun _ => mid S _⟩
      rw [ex_isO hr1.1]
      exact g_placeOfSet hc hr1 (fun v => mid S v)
  exact ⟨fun h9 => tail 1 (by omega) (fun _ => by omega), fun h9 => tail 0 (by omega) (fun h8 => absurd h9 h8)⟩
theorem g_kindOf {x : Int32} {Q : Int32 → PH → Prop} (hr : RdA ph r A) (h : ∀ v : Int32, Q v ph) : w_X6_kindOf r x ph Q X := by
  obtain ⟨h0, -, -, -, -, -, -, ⟨f, e⟩, -⟩ := hr
  unfold w_X6_kindOf
  refine ⟨fun _ => h _, fun h9 => ?_⟩
  obtain ⟨i, hi, rfl⟩ := of_pos h9
  rw [ex_gR h0 (v0 := some (A 6)) rfl, ex_aL e, on_le (by omega) (by omega)]
  refine ⟨fun _ => h _, fun h8 => ?_⟩
  rw [ex_gR h0 (v0 := some (A 6)) rfl, ex_aI e (on_in (by omega) (by omega))]
  exact h _
theorem g_kindBehind {x a : Int32} {Q : Int32 → PH → Prop} (hr : RdA ph r A) (h : ∀ v : Int32, Q v ph) : w_X6_kindBehind r x a ph Q X := by
  obtain ⟨h0, -, -, -, -, -, ⟨f, e⟩, -⟩ := id hr
  unfold w_X6_kindBehind
  intro v5 _
  refine ⟨fun _ => h _, fun h9 => ?_⟩
  obtain ⟨i, hi, rfl⟩ := of_pos h9
  rw [ex_gR h0 (v0 := some (A 5)) rfl, ex_aL e, on_le (by omega) (by omega)]
  refine ⟨fun _ => h _, fun h8 => ?_⟩
  rw [ex_gR h0 (v0 := some (A 5)) rfl, ex_aI e (on_in (by omega) (by omega)), ex_isO h0]
  exact g_kindOf hr h
theorem g_firstLike {i : Nat} {Q : Int32 → PH → Prop} (hi60 : i ≤ 60) (hl3 : lt ≤ 3) (hr : RdA ph r A) (h : ∀ k : Nat, k ≤ i → Q (Int32.ofNat k) ph) : w_X6_firstLike r (Int32.ofNat i) (Int32.ofNat lt) ph Q X := by
  unfold w_X6_firstLike
  refine ⟨i + 1, upto0 (P := fun fu j => w_X6_firstLike_2 Q X fu (some r) (Int32.ofNat i) (Int32.ofNat lt) (Int32.ofNat j) ph) fun fu j hj ih => ?_⟩
  unfold w_X6_firstLike_2
  rw [on_le (by omega) (by omega)]
  refine ⟨fun _ => h _ (Nat.le_refl _), fun h9 => ?_⟩
  have join : ∀ v : Int32, w_X6_firstLike_71 Q X (fun x0 x1 x2 x3 ph => w_X6_firstLike_2 Q X fu x0 x1 x2 x3 ph) (some r) (Int32.ofNat i) (Int32.ofNat lt) (Int32.ofNat j) v ph := by
    intro v
    unfold w_X6_firstLike_71
    rw [on_succ]
    exact ⟨fun _ => ih (by omega), fun _ => h j hj⟩
  have loop : ∀ v : Int32, ∃ fu30 : Nat, w_X6_firstLike_30 Q X (fun x0 x1 x2 x3 ph => w_X6_firstLike_2 Q X fu x0 x1 x2 x3 ph) fu30 (some r) (Int32.ofNat i) (Int32.ofNat lt) (Int32.ofNat j) v (0 : Int32) ph := by
    intro v0
    refine ⟨lt + 1, (upto0 (P := fun fu2 a => ∀ v : Int32, w_X6_firstLike_30 Q X (fun x0 x1 x2 x3 ph => w_X6_firstLike_2 Q X fu x0 x1 x2 x3 ph) fu2 (some r) (Int32.ofNat i) (Int32.ofNat lt) (Int32.ofNat j) v (Int32.ofNat a) ph) fun fu2 a hla iha => ?_) v0⟩
    intro v
    unfold w_X6_firstLike_30
    rw [on_le (by omega) (by omega)]
    refine ⟨fun _ => join v, fun h8 => ⟨fun _ => join v, fun _ => ?_⟩⟩
    rw [ex_isO hr.1]
    refine g_kindBehind hr (fun v1 => ?_)
    rw [ex_isO hr.1]
    refine g_kindBehind hr (fun v2 => ?_)
    rw [on_succ]
    exact ⟨fun _ => iha (by omega) _, fun _ => iha (by omega) _⟩
  rw [ex_isO hr.1]
  refine g_kindOf hr (fun v1 => ?_)
  rw [ex_isO hr.1]
  refine g_kindOf hr (fun v2 => ?_)
  exact ⟨fun _ => loop _, fun _ => loop _⟩
theorem g_refine {c : Nat} {Q : Int32 → PH → Prop} (hc : c ≤ 60) (hl3 : lt ≤ 3) (hr : RdA ph r A) (h : ∀ (ph' : PH) (k : Nat), Keep TF ph ph' → k ≤ 60 → Q (Int32.ofNat k) ph') : w_X6_refine r (Int32.ofNat c) (Int32.ofNat lt) ph Q X := by
  unfold w_X6_refine
  refine ⟨c + 1, (upto0 (P := fun fu i => ∀ (k : Nat) (p : PH), k ≤ i → Keep TF ph p → w_X6_refine_5 Q X fu (some r) (Int32.ofNat c) (Int32.ofNat lt) (Int32.ofNat k) (Int32.ofNat i) p) fun fu i hi ih => ?_) 0 ph (Nat.le_refl _) (Keep.rf ph)⟩
  intro k p hk hK
  have hr1 := hr.keep hK
  obtain ⟨h0, -, -, -, -, -, -, -, ⟨f7, e7⟩, -⟩ := id hr1
  have second : ∃ fu79 : Nat, w_X6_refine_79 Q X fu79 (some r) (Int32.ofNat c) (Int32.ofNat k) (0 : Int32) p := by
    refine ⟨c + 1, (upto0 (P := fun fu i => ∀ p : PH, Keep TF ph p → w_X6_refine_79 Q X fu (some r) (Int32.ofNat c) (Int32.ofNat k) (Int32.ofNat i) p) fun fu j hj ihj => ?_) p hK⟩
    intro p hK
    have hr1 := hr.keep hK
    obtain ⟨h0, -, -, -, -, -, -, ⟨f6, e6⟩, ⟨f7, e7⟩, -⟩ := id hr1
    unfold w_X6_refine_79
    rw [on_le (by omega) (by omega)]
    refine ⟨fun _ => h p k hK (by omega), fun h9 => ?_⟩
    rw [ex_gR h0 (v0 := some (A 6)) rfl, ex_aL e6, on_le (by omega) (by omega)]
    refine ⟨fun h8 => absurd h8 (by omega), fun _ => ?_⟩
    rw [ex_gR h0 (v0 := some (A 7)) rfl, ex_aL e7, on_le (by omega) (by omega)]
    refine ⟨fun h8 => absurd h8 (by omega), fun _ => ?_⟩
    rw [ex_gR h0 (v0 := some (A 6)) rfl, ex_gR h0 (v0 := some (A 7)) rfl, ex_aI e7 (on_in (by omega) (by omega)), ex_sI e6 (by decide) (on_in (by omega) (by omega)), on_succ]
    exact ihj (by omega) _ (hK.tr (Keep.setI e6 rfl))
  unfold w_X6_refine_5
  rw [on_le (by omega) (by omega)]
  refine ⟨fun _ => second, fun h9 => ?_⟩
  rw [ex_gR h0 (v0 := some (A 7)) rfl, ex_aL e7, on_le (by omega) (by omega)]
  refine ⟨fun _ => second, fun _ => ?_⟩
  rw [ex_isO h0]
  refine g_firstLike (by omega) hl3 hr1 (fun m hm => ⟨fun h8 => ?_, fun h8 => ⟨fun h7 => absurd h7 (on_neg (by omega)), fun _ => ?_⟩⟩)
  · rw [ex_gR h0 (v0 := some (A 7)) rfl, ex_sI e7 (by decide) (on_in (by omega) (by omega)), on_succ, on_succ]
    exact ih (by omega) _ _ (by omega) (hK.tr (Keep.setI e7 rfl))
  · rw [on_le (by omega) (by omega)] at h8
    rw [ex_gR h0 (v0 := some (A 7)) rfl, ex_gR h0 (v0 := some (A 7)) rfl, ex_aI e7 (on_in (by omega) (by omega)), ex_sI e7 (by decide) (on_in (by omega) (by omega)), on_succ]
    exact ih (by omega) _ _ (by omega) (hK.tr (Keep.setI e7 rfl))
theorem g_countFutures {Q : Int32 → PH → Prop} (hr : RdA ph r A) (hG : Gr ph g st lt E) (h : ∀ (ph' : PH) (c : Nat), Keep TF ph ph' → c ≤ 60 → (¬ live st lt E = 0 → 1 ≤ c) → Q (Int32.ofNat c) ph') (hm : ∀ ph' : PH, Keep TF ph ph' → Q (-1) ph') : w_X6_countFutures r (some g) ph Q X := by
  obtain ⟨⟨-, hst, h2, h3⟩, ge, e1, e2⟩ := id hG
  unfold w_X6_countFutures
  rw [ex_isO hr.1]
  refine g_collectSets hr hG (fun p1 c k1 hc hcl => ⟨fun _ => ?_, fun h9 => absurd (show (0 : Int32) ≤ Int32.ofNat c from (on_le (i := 0) (by omega) (by omega)).mpr (by omega)) h9⟩) (fun p1 k1 => ⟨fun h9 => absurd h9 (by decide), fun _ => hm p1 k1⟩)
  have tail : ∀ k0 : Nat, k0 ≤ 1 → (¬ live st lt E = 0 → 1 ≤ k0) → w_X6_countFutures_21 Q X (some r) (some g) (Int32.ofNat c) (Int32.ofNat k0) p1 := by
    intro k0 hk0 hkl
    have hr1 := hr.keep k1
    obtain ⟨h0, -, -, -, -, -, -, ⟨f6, e6⟩, -⟩ := id hr1
    unfold w_X6_countFutures_21
    rw [ex_gR h0 (v0 := some (A 6)) rfl]
    refine g_fill e6 (by decide) (by decide) (fun f' _ => ?_)
    refine ⟨61, (upto0 (n := 60) (P := fun fu i => ∀ (k : Nat) (p : PH), k ≤ 60 → (¬ live st lt E = 0 → 1 ≤ k) → Keep TF ph p → w_X6_countFutures_33 Q X fu (some r) (some g) (Int32.ofNat c) (Int32.ofNat k) (Int32.ofNat i) p) fun fu i hi ih => ?_) k0 _ (by omega) hkl (k1.tr (Keep.setI e6 rfl))⟩
    intro k p hk hkl hK
    have hr2 := hr.keep hK
    obtain ⟨-, ge1, e11, e12⟩ := hK.gr hG rfl
    unfold w_X6_countFutures_33
    rw [show (60 : Int32) = Int32.ofNat 60 from rfl, on_le (by omega) (by omega)]
    refine ⟨fun _ => h p k hK hk hkl, fun h9 => ?_⟩
    rw [ex_gI e11 rfl, ex_isO hr2.1]
    refine g_refine hc h3 hr2 (fun p2 m k2 hm2 => ?_)
    rw [on_lt (by omega) (by omega)]
    refine ⟨fun h8 => ?_, fun _ => h p2 k (hK.tr k2) hk hkl⟩
    rw [on_succ]
    exact ih (by omega) m p2 hm2 (fun _ => by omega) (hK.tr k2)
  refine ⟨fun h9 => tail 0 (by omega) (fun h8 => ?_), fun h9 => tail 1 (by omega) (fun _ => by omega)⟩
  have h7 : c ≤ 0 := (on_le (by omega) (by omega)).mp h9
  have := hcl h8
  omega
end FUT
