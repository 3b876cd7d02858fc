/-! the buffer -/
def Sg (x : Int32) : Prop := x = 97 ∨ x = 98 ∨ x = 99 ∨ x = 44
def Tp (ph : PH) (t ts n : Nat) (f : Nat → Int32) : Prop := ph t = some (110, .inl (10, [.ref ts, .int (Int32.ofNat n)])) ∧ ph ts = some (202, .inr (.char, 40, .inl f)) ∧ n ≤ 40 ∧ ∀ i : Nat, i < n → Sg (f i)
theorem Sg.nc {x : Int32} (h : Sg x) : nC x := by
  rcases h with rfl | rfl | rfl | rfl <;> rfl
section TAPE
variable {ph : PH} {t ts n : Nat} {f : Nat → Int32} {X : String → PH → Prop}
theorem g_letterOf {x : Int32} {Q : Int32 → PH → Prop} (h0 : ¬ (97 ≤ x ∧ x ≤ 99) → Q (-1) ph) (h1 : ∀ a : Nat, a < 3 → x = Int32.ofNat (97 + a) → Q (Int32.ofNat a) ph) : w_X9_letterOf x ph Q X := by
  unfold w_X9_letterOf
  refine ⟨fun h9 => h0 fun h8 => ?_, fun h9 => ⟨fun h8 => h0 fun h7 => ?_, fun h8 => ?_⟩⟩
  · rw [Int32.lt_iff_toInt_lt] at h9
    have := Int32.le_iff_toInt_le.mp h8.1
    omega
  · rw [Int32.lt_iff_toInt_lt] at h8
    have := Int32.le_iff_toInt_le.mp h7.2
    omega
  · obtain ⟨i, hi, rfl⟩ := of_pos (x := x) (fun h7 => h9 (by
      rw [Int32.lt_iff_toInt_lt] at h7 ⊢
      have e1 : (97 : Int32).toInt = 97 := by decide
      have e2 : (0 : Int32).toInt = 0 := by decide
      omega))
    rw [show (97 : Int32) = Int32.ofNat 97 from rfl, on_lt (by omega) (by omega)] at h9
    rw [show (99 : Int32) = Int32.ofNat 99 from rfl, on_lt (by omega) (by omega)] at h8
    have h7 := h1 (i - 97) (by omega) (by rw [show 97 + (i - 97) = i by omega])
    have h6 : Int32.ofNat i - (97 : Int32) = Int32.ofNat (i - 97) := by
      have h5 : Int32.ofNat i = Int32.ofNat (i - 97) + Int32.ofNat 97 := by
        rw [on_add, show i - 97 + 97 = i by omega]
      rw [h5]
      exact Int32.add_sub_cancel _ _
    rw [h6]
    exact h7
theorem g_tat {x : Int32} {Q : Int32 → PH → Prop} (hT : Tp ph t ts n f) (h0 : (∀ i : Nat, i < n → ¬ x = Int32.ofNat i) → Q 0 ph) (h1 : ∀ i : Nat, i < n → x = Int32.ofNat i → Q (f i) ph) : w_X9_at t x ph Q X := by
  obtain ⟨e1, e2, hn, hs⟩ := hT
  unfold w_X9_at
  refine ⟨fun h9 => ⟨rfl, h0 fun i hi e => ?_⟩, fun h9 => ?_⟩
  · rw [e] at h9
    exact on_neg (by omega) h9
  obtain ⟨i, hi, rfl⟩ := of_pos h9
  rw [ex_gI e1 rfl, on_le (by omega) hi]
  refine ⟨fun h8 => ⟨rfl, h0 fun j hj e => ?_⟩, fun h8 => ?_⟩
  · rw [on_inj hi (by omega)] at e
    omega
  rw [ex_gR e1 (v0 := some ts) rfl, ex_aL e2, on_le (by omega) hi]
  refine ⟨fun h7 => absurd h7 (by omega), fun _ => ?_⟩
  rw [ex_gR e1 (v0 := some ts) rfl, ex_aI e2 (on_in (by omega) (by omega)), on_nat hi]
  exact ⟨(hs i (by omega)).nc, h1 i (by omega) rfl⟩
theorem g_letterAt {x : Int32} {Q : Int32 → PH → Prop} (hT : Tp ph t ts n f) (h0 : Q (-1) ph) (h1 : ∀ a i : Nat, a < 3 → i < n → x = Int32.ofNat i → f i = Int32.ofNat (97 + a) → Q (Int32.ofNat a) ph) : w_X9_letterAt t x ph Q X := by
  unfold w_X9_letterAt
  rw [ex_isO hT.1]
  exact g_tat hT (fun _ => g_letterOf (fun _ => h0) (fun a ha e => absurd e (by
    intro h9
    have h8 := (on_inj (i := 0) (j := 97 + a) (by omega) (by omega)).mp h9
    omega))) (fun i hi e => g_letterOf (fun _ => h0) (fun a ha e2 => h1 a i ha hi e e2))
/-- any letter or none -/
def La (v : Int32) : Prop := v = -1 ∨ ∃ a : Nat, a < 3 ∧ v = Int32.ofNat a
theorem g_letterAtA {x : Int32} {Q : Int32 → PH → Prop} (hT : Tp ph t ts n f) (h : ∀ v : Int32, La v → Q v ph) : w_X9_letterAt t x ph Q X := g_letterAt hT (h _ (Or.inl rfl)) (fun a i ha _ _ _ => h _ (Or.inr ⟨a, ha, rfl⟩))
theorem g_letterOfA {x : Int32} {Q : Int32 → PH → Prop} (h : ∀ v : Int32, La v → Q v ph) : w_X9_letterOf x ph Q X := g_letterOf (fun _ => h _ (Or.inl rfl)) (fun a ha _ => h _ (Or.inr ⟨a, ha, rfl⟩))
theorem g_endsWord {x : Int32} {Q : Int32 → PH → Prop} (hT : Tp ph t ts n f) (h0 : Q 0 ph) (h1 : Q 1 ph) : w_X9_endsWord t x ph Q X := by
  unfold w_X9_endsWord
  rw [ex_gI hT.1 rfl]
  refine ⟨fun _ => ⟨rfl, h1⟩, fun _ => ?_⟩
  rw [ex_isO hT.1]
  exact g_tat hT (fun _ => ⟨fun _ => ⟨rfl, h0⟩, fun _ => ⟨rfl, h1⟩⟩) (fun i _ _ => ⟨fun _ => ⟨rfl, h0⟩, fun _ => ⟨rfl, h1⟩⟩)
theorem g_isForbidden {lt : Int32} {Q : Int32 → PH → Prop} (hT : Tp ph t ts n f) (h0 : Q 0 ph) (h1 : Q 1 ph) : w_X9_isForbidden t lt ph Q X := by
  have hn := hT.2.2.1
  unfold w_X9_isForbidden
  refine ⟨n + 1 + 1, (upto0 (n := n + 1) (P := fun fu i => ∀ r : Int32, w_X9_isForbidden_4 Q X fu (some t) lt r (Int32.ofNat i) ph) fun fu i hi ih => ?_) 0⟩
  intro r
  unfold w_X9_isForbidden_4
  rw [ex_gI hT.1 rfl, on_lt (by omega) (by omega)]
  refine ⟨fun _ => ⟨rfl, h1⟩, fun h9 => ?_⟩
  rw [ex_gI hT.1 rfl]
  refine ⟨fun _ => ⟨rfl, h1⟩, fun _ => ?_⟩
  rw [ex_isO hT.1]
  refine g_letterAtA hT (fun v _ => ?_)
  rw [ex_isO hT.1, on_succ]
  refine g_endsWord hT ⟨fun _ => ⟨fun _ => ⟨rfl, h0⟩, fun _ => ⟨fun _ => ih (by omega) _, fun _ => ⟨rfl, h0⟩⟩⟩, fun h8 => absurd rfl h8⟩ ⟨fun h8 => absurd h8 (by decide), fun _ => ⟨fun _ => ⟨rfl, h0⟩, fun _ => ⟨fun _ => ih (by omega) _, fun _ => ⟨rfl, h0⟩⟩⟩⟩
theorem on_sub {a b : Nat} (h : b ≤ a) : Int32.ofNat a - Int32.ofNat b = Int32.ofNat (a - b) := by
  have h5 : Int32.ofNat a = Int32.ofNat (a - b) + Int32.ofNat b := by
    rw [on_add, show a - b + b = a by omega]
  rw [h5]
  exact Int32.add_sub_cancel _ _
theorem g_standsIn {s e : Nat} {x y z : Int32} {Q : Int32 → PH → Prop} (hs : s ≤ e) (he : e ≤ 40) (hT : Tp ph t ts n f) (h0 : Q 0 ph) (h1 : Q 1 ph) : w_X9_standsIn t (Int32.ofNat s) (Int32.ofNat e) x y z ph Q X := by
  unfold w_X9_standsIn
  intro v3 h3
  rw [on_sub hs] at h3
  subst h3
  refine ⟨4 + 1, upto0 (n := 4) (P := fun fu o => w_X9_standsIn_8 Q X fu (some t) (Int32.ofNat s) x y z (Int32.ofNat (e - s)) (Int32.ofNat o) ph) fun fu o ho ih => ?_⟩
  unfold w_X9_standsIn_8
  rw [on_add, show (3 : Int32) = Int32.ofNat 3 from rfl, on_lt (by omega) (by omega), show (0 : Int32) = Int32.ofNat 0 from rfl, on_le (by omega) (by omega)]
  refine ⟨fun _ => ⟨rfl, h0⟩, fun h9 => ⟨fun _ => ⟨rfl, h0⟩, fun h8 => ?_⟩⟩
  refine ⟨e - s + 1, (upto0 (n := e - s) (P := fun fu2 i => ∀ v : Int32, w_X9_standsIn_28 Q X (fun x0 x1 x3 x4 x5 x6 x7 ph => w_X9_standsIn_8 Q X fu x0 x1 x3 x4 x5 x6 x7 ph) fu2 (some t) (Int32.ofNat s) x y z (Int32.ofNat (e - s)) (Int32.ofNat o) v (Int32.ofNat i) ph) fun fu2 i hi ihi => ?_) 1⟩
  intro v
  unfold w_X9_standsIn_28
  rw [on_le (by omega) (by omega), on_succ]
  refine ⟨fun _ => ⟨fun _ => ih (by omega), fun _ => ⟨rfl, h1⟩⟩, fun h7 v40 _ => ?_⟩
  have mid : ∀ w : Int32, w_X9_standsIn_64 Q X (fun x0 x1 x3 x4 x5 x6 x7 x8 x9 ph => w_X9_standsIn_28 Q X (fun x0 x1 x3 x4 x5 x6 x7 ph => w_X9_standsIn_8 Q X fu x0 x1 x3 x4 x5 x6 x7 ph) fu2 x0 x1 x3 x4 x5 x6 x7 x8 x9 ph) (some t) (Int32.ofNat s) x y z (Int32.ofNat (e - s)) (Int32.ofNat o) v (Int32.ofNat i) w ph := by
    intro w
    unfold w_X9_standsIn_64
    rw [on_succ]
    refine ⟨fun _ => ihi (by omega) _, fun _ => ?_⟩
    rw [ex_isO hT.1]
    exact g_letterAtA hT (fun q _ => ⟨fun _ => ihi (by omega) _, fun _ => ihi (by omega) _⟩)
  exact ⟨fun _ => ⟨fun _ => mid _, fun _ => mid _⟩, fun _ => mid _⟩
theorem g_bars {x y z : Int32} {Q : Int32 → PH → Prop} (hT : Tp ph t ts n f) (h0 : Q 0 ph) (h1 : Q 1 ph) : w_X9_bars t x y z ph Q X := by
  have hn := hT.2.2.1
  unfold w_X9_bars
  refine ⟨n + 1 + 1, (upto0 (n := n + 1) (P := fun fu i => ∀ s : Nat, s ≤ i → w_X9_bars_6 Q X fu (some t) x y z (Int32.ofNat s) (Int32.ofNat i) ph) fun fu i hi ih => ?_) 0 (Nat.le_refl _)⟩
  intro s hs
  unfold w_X9_bars_6
  rw [ex_gI hT.1 rfl, on_lt (by omega) (by omega)]
  refine ⟨fun _ => ⟨rfl, h0⟩, fun h9 => ?_⟩
  rw [ex_isO hT.1, on_succ]
  refine g_endsWord hT ⟨fun _ => ih (by omega) s (by omega), fun h8 => absurd rfl h8⟩ ⟨fun h8 => absurd h8 (by decide), fun _ => ?_⟩
  rw [ex_isO hT.1]
  refine g_standsIn hs (by omega) hT ⟨fun _ v hv => ?_, fun h8 => absurd rfl h8⟩ ⟨fun h8 => absurd h8 (by decide), fun _ => ⟨rfl, h1⟩⟩
  rw [hv]
  exact ih (by omega) (i + 1) (Nat.le_refl _)
theorem g_hasOnlyLetters {lt : Nat} {Q : Int32 → PH → Prop} (hlt : lt ≤ 3) (hT : Tp ph t ts n f) (h0 : Q 0 ph) (h1 : (∀ i : Nat, i < n → ∃ a : Nat, a < lt ∧ f i = Int32.ofNat (97 + a)) → Q 1 ph) : w_X9_hasOnlyLetters t (Int32.ofNat lt) ph Q X := by
  have hn := hT.2.2.1
  unfold w_X9_hasOnlyLetters
  refine ⟨n + 1, (upto0 (P := fun fu i => (∀ j : Nat, j < i → ∃ a : Nat, a < lt ∧ f j = Int32.ofNat (97 + a)) → w_X9_hasOnlyLetters_2 Q X fu (some t) (Int32.ofNat lt) (Int32.ofNat i) ph) fun fu i hi ih => ?_) (fun j hj => by omega)⟩
  intro hd
  unfold w_X9_hasOnlyLetters_2
  rw [ex_gI hT.1 rfl, on_le (by omega) (by omega)]
  refine ⟨fun h9 => ⟨rfl, h1 fun j hj => hd j (by omega)⟩, fun h9 => ?_⟩
  rw [ex_isO hT.1, on_succ]
  refine g_letterAt hT ⟨fun _ => ⟨rfl, h0⟩, fun h8 => absurd (by decide) h8⟩ (fun a j ha hj e1 e2 => ⟨fun _ => ⟨rfl, h0⟩, fun _ => ?_⟩)
  rw [on_inj (by omega) (by omega)] at e1
  subst e1
  rw [on_lt (by omega) (by omega)]
  refine ⟨fun h8 => ih (by omega) (fun k hk => ?_), fun _ => ⟨rfl, h0⟩⟩
  by_cases hki : k = i
  · subst hki
    exact ⟨a, h8, e2⟩
  · exact hd k (by omega)
end TAPE
/-! graphs are made -/
def GrA (ph : PH) (g ge st lt : Nat) (E : Nat → Int32) : Prop := (1 ≤ st ∧ st ≤ 24 ∧ 2 ≤ lt ∧ lt ≤ 3) ∧ ph g = some (106, .inl (6, [.int (Int32.ofNat st), .int (Int32.ofNat lt), .ref ge])) ∧ ph ge = some (230, .inr (.int, 72, .inl E))
theorem GrA.gr {ph : PH} {g ge st lt : Nat} {E : Nat → Int32} (h : GrA ph g ge st lt E) : Gr ph g st lt E := ⟨h.1, ge, h.2.1, h.2.2⟩
section MADE
variable {ph : PH} {g ge st lt : Nat} {E : Nat → Int32} {X : String → PH → Prop}
theorem g_hasLetter {x : Int32} {Q : Int32 → PH → Prop} (hG : Gr ph g st lt E) (h1 : ∀ i : Nat, i < lt → x = Int32.ofNat i → Q 1 ph) (h0 : (∀ i : Nat, i < lt → ¬ x = Int32.ofNat i) → Q 0 ph) : w_X3_hasLetter g x ph Q X := by
  obtain ⟨⟨b1, b2, b3, b4⟩, ge, e1, e2⟩ := hG
  unfold w_X3_hasLetter
  refine ⟨fun h => ⟨rfl, h0 fun i hi e => ?_⟩, fun h => ?_⟩
  · rw [e] at h
    exact on_neg (by omega) h
  · rw [ex_gI e1 rfl]
    obtain ⟨i, hi, rfl⟩ := of_pos h
    rw [on_le (by omega) hi]
    refine ⟨fun h9 => ⟨rfl, h0 fun j hj e => ?_⟩, fun h9 => ⟨rfl, h1 i (by omega) rfl⟩⟩
    rw [on_inj hi (by omega)] at e
    omega
theorem on_24 {i a : Nat} : (Int32.ofNat a * (24 : Int32)) + Int32.ofNat i = Int32.ofNat (24 * a + i) := by
  rw [Int32.ofNat_add, Int32.ofNat_mul, Int32.mul_comm]
  rfl
theorem g_tell {x c y v : Int32} {Q : PH → Prop} (hG : GrA ph g ge st lt E) (h : ∀ (ph' : PH) (E' : Nat → Int32), Fr (fun q => q = ge) ph ph' → GrA ph' g ge st lt E' → (∀ i a j : Nat, i < st → a < lt → j < st → x = Int32.ofNat i → c = Int32.ofNat a → y = Int32.ofNat j → ¬ v = 0 → E' = upd E (24 * a + i) (E (24 * a + i) ||| ((1 : Int32) <<< (Int32.ofNat j &&& 31)))) → Q ph') : w_X3_tell g x c y v ph Q X := by
  have hGr := hG.gr
  obtain ⟨⟨b1, b2, b3, b4⟩, e1, e2⟩ := id hG
  have hne : g ≠ ge := tag_ne e1 e2 (by decide)
  unfold w_X3_tell
  intro v6 h6
  rw [ex_isO e1]
  have no : (¬ ∃ i a j : Nat, i < st ∧ a < lt ∧ j < st ∧ x = Int32.ofNat i ∧ c = Int32.ofNat a ∧ y = Int32.ofNat j) → w_X3_tell_37 Q X (some g) y v v6 0 ph := by
    intro h9
    unfold w_X3_tell_37
    exact ⟨fun _ => h ph E (Fr.rf ph) hG (fun i a j hi ha hj ex ec ey _ => absurd ⟨i, a, j, hi, ha, hj, ex, ec, ey⟩ h9), fun h8 => absurd rfl h8⟩
  refine g_hasState hGr (fun i hi ei => ⟨fun h9 => absurd h9 (by decide), fun _ => ?_⟩) (fun hno => ⟨fun _ => no fun ⟨i, a, j, hi, ha, hj, ex, ec, ey⟩ => hno i hi ex, fun h9 => absurd rfl h9⟩)
  rw [ex_isO e1]
  refine g_hasLetter hGr (fun a ha ea => ⟨fun h9 => absurd h9 (by decide), fun _ => ?_⟩) (fun hno => ⟨fun _ => no fun ⟨i, a, j, hi, ha, hj, ex, ec, ey⟩ => hno a ha ec, fun h9 => absurd rfl h9⟩)
  rw [ex_isO e1]
  refine g_hasState hGr (fun j hj ej => ⟨fun h9 => absurd h9 (by decide), fun _ => ?_⟩) (fun hno => ⟨fun _ => no fun ⟨i, a, j, hi, ha, hj, ex, ec, ey⟩ => hno j hj ey, fun h9 => absurd rfl h9⟩)
  subst ei
  subst ea
  subst ej
  rw [on_24] at h6
  subst h6
  have un : ∀ i' a' j' : Nat, i' < st → a' < lt → j' < st → Int32.ofNat i = Int32.ofNat i' → Int32.ofNat a = Int32.ofNat a' → Int32.ofNat j = Int32.ofNat j' → i' = i ∧ a' = a ∧ j' = j := fun i' a' j' k1 k2 k3 e1 e2 e3 => ⟨((on_inj (by omega) (by omega)).mp e1).symm, ((on_inj (by omega) (by omega)).mp e2).symm, ((on_inj (by omega) (by omega)).mp e3).symm⟩
  unfold w_X3_tell_37
  refine ⟨fun h9 => absurd h9 (by decide), fun _ => ⟨fun h9 => absurd h9 (on_neg (by omega)), fun _ => ?_⟩⟩
  rw [ex_gR e1 (v0 := some ge) rfl, ex_aL e2, on_le (by omega) (by omega)]
  refine ⟨fun h9 => absurd h9 (by omega), fun _ v62 h62 => ?_⟩
  subst h62
  rw [ex_gR e1 (v0 := some ge) rfl]
  refine ⟨fun h0 => ?_, fun h0 => ?_⟩
  · rw [ex_gR e1 (v0 := some ge) rfl, ex_aI e2 (on_in (by omega) (by omega)), ex_sI e2 (by decide) (on_in (by omega) (by omega))]
    exact h _ _ (Fr.set rfl) ⟨⟨b1, b2, b3, b4⟩, hset_at hne e1, hset_same⟩ (fun _ _ _ _ _ _ _ _ _ h8 => absurd h0 h8)
  · rw [ex_gR e1 (v0 := some ge) rfl, ex_aI e2 (on_in (by omega) (by omega)), ex_sI e2 (by decide) (on_in (by omega) (by omega)), on_nat (by omega)]
    refine h _ _ (Fr.set rfl) ⟨⟨b1, b2, b3, b4⟩, hset_at hne e1, hset_same⟩ (fun i' a' j' k1 k2 k3 e1 e2 e3 _ => ?_)
    obtain ⟨rfl, rfl, rfl⟩ := un i' a' j' k1 k2 k3 e1 e2 e3
    rfl
/-- what was there stays: a thing that is made changes nothing else -/
def Ext (P : Nat → Prop) (ph ph' : PH) : Prop := ∀ (q : Nat) (e : Ent), ¬ P q → ph q = some e → ph' q = some e
theorem Ext.rf {P : Nat → Prop} (ph : PH) : Ext P ph ph := fun _ _ _ h => h
theorem Ext.tr {P : Nat → Prop} {a b c : PH} (h1 : Ext P a b) (h2 : Ext P b c) : Ext P a c := fun q e hq h => h2 q e hq (h1 q e hq h)
theorem Ext.mono {P U : Nat → Prop} {a b : PH} (h : Ext P a b) (hp : ∀ q : Nat, P q → U q) : Ext U a b := fun q e hq h9 => h q e (fun h8 => hq (hp q h8)) h9
theorem Ext.new {P : Nat → Prop} {ph : PH} {a : Nat} {e : Ent} (h : ph a = none) : Ext P ph (hset ph a e) := fun q e' _ hq => (hset_ne fun h9 => by
  rw [h9, h] at hq
  cases hq).trans hq
theorem Ext.set {P : Nat → Prop} {ph : PH} {a : Nat} {e : Ent} (h : P a) : Ext P ph (hset ph a e) := fun q e' hq h9 => (hset_ne fun h8 => hq (by rw [h8]; exact h)).trans h9
theorem Fr.ext {P : Nat → Prop} {a b : PH} (h : Fr P a b) : Ext P a b := fun q e hq h9 => (h q hq).trans h9
/-- a new graph: its object lies at g, and nothing that was there is at g or at its edges -/
theorem g_X3_init {o : List Value} {Q : PH → Prop} (ho : o.length = 3) (hb : 1 ≤ st ∧ st ≤ 24 ∧ 2 ≤ lt ∧ lt ≤ 3) (e : ph g = some (106, .inl (6, o))) (h : ∀ (ph' : PH) (ge : Nat), ph ge = none → Ext (fun q => q = g) ph ph' → GrA ph' g ge st lt (fun _ => 0) → Q ph') : w_X3_init g (Int32.ofNat st) (Int32.ofNat lt) ph Q X := by
  obtain ⟨a, b, c, rfl⟩ : ∃ a b c : Value, o = [a, b, c] := by
    match o, ho with
    | [a, b, c], _ => exact ⟨a, b, c, rfl⟩
  unfold w_X3_init
  refine ⟨g, rfl, ?_⟩
  rw [ex_pW (fs' := [.int (Int32.ofNat st), b, c]) e (by decide) (show 0 < 3 by decide) rfl, ex_pW (fs' := [.int (Int32.ofNat st), .int (Int32.ofNat lt), c]) hset_same (by decide) (show 1 < 3 by decide) rfl, hset_hset]
  intro ge p hn hp
  subst hp
  have hge : ge ≠ g := fun h9 => by
    rw [h9, hset_same] at hn
    cases hn
  rw [ex_pW (fs' := [.int (Int32.ofNat st), .int (Int32.ofNat lt), va_rf (some ge)]) (hset_at hge.symm hset_same) (by decide) (show 2 < 3 by decide) rfl]
  have hn2 : ph ge = none := (hset_ne hge).symm.trans hn
  refine h _ ge hn2 ((Ext.set (P := fun q => q = g) rfl).tr ((Ext.new hn).tr (Ext.set (P := fun q => q = g) rfl))) ⟨hb, hset_same, hset_at hge hset_same⟩
end MADE
