/-! what stays: tags and shapes, and all that isn't in T -/
def shp (e e' : Ent) : Prop := e'.1 = e.1 ∧ match e.2 with
  | .inl o => e'.2 = .inl o
  | .inr (ty, n, .inl _) => ∃ f : Nat → Int32, e'.2 = .inr (ty, n, .inl f)
  | .inr (ty, n, .inr (.inl _)) => ∃ f : Nat → Int64, e'.2 = .inr (ty, n, .inr (.inl f))
  | .inr (ty, n, .inr (.inr x)) => e'.2 = .inr (ty, n, .inr (.inr x))
theorem shp.rf (e : Ent) : shp e e := by
  obtain ⟨g, x⟩ := e
  rcases x with o | ⟨ty, n, x⟩
  · exact ⟨rfl, rfl⟩
  · rcases x with x | x | x
    · exact ⟨rfl, x, rfl⟩
    · exact ⟨rfl, x, rfl⟩
    · exact ⟨rfl, rfl⟩
theorem shp.tr {a b c : Ent} (h1 : shp a b) (h2 : shp b c) : shp a c := by
  obtain ⟨g, x⟩ := a
  obtain ⟨g', x'⟩ := b
  obtain ⟨e1, h1⟩ := h1
  obtain ⟨e2, h2⟩ := h2
  refine ⟨e2.trans e1, ?_⟩
  rcases x with o | ⟨ty, n, x⟩
  · have h3 : x' = .inl o := h1
    subst h3
    exact h2
  · rcases x with x | x | x
    · obtain ⟨f, h3⟩ := h1
      have h4 : x' = .inr (ty, n, .inl f) := h3
      subst h4
      exact h2
    · obtain ⟨f, h3⟩ := h1
      have h4 : x' = .inr (ty, n, .inr (.inl f)) := h3
      subst h4
      exact h2
    · have h4 : x' = .inr (ty, n, .inr (.inr x)) := h1
      subst h4
      exact h2
def Keep (T : Nat → Bool) (ph ph' : PH) : Prop := ∀ (q : Nat) (e : Ent), ph q = some e → ∃ e' : Ent, ph' q = some e' ∧ shp e e' ∧ (T e.1 = false → e' = e)
theorem Keep.rf {T : Nat → Bool} (ph : PH) : Keep T ph ph := fun q e h => ⟨e, h, shp.rf e, fun _ => rfl⟩
theorem Keep.tr {T : Nat → Bool} {a b c : PH} (h1 : Keep T a b) (h2 : Keep T b c) : Keep T a c := by
  intro q e h
  obtain ⟨e', k1, k2, k3⟩ := h1 q e h
  obtain ⟨e'', m1, m2, m3⟩ := h2 q e' k1
  refine ⟨e'', m1, k2.tr m2, fun h9 => ?_⟩
  have h8 : e' = e := k3 h9
  rw [← h8] at h9
  exact (m3 h9).trans h8
theorem Keep.mono {T U : Nat → Bool} {a b : PH} (h : Keep T a b) (hTU : ∀ t : Nat, U t = false → T t = false) : Keep U a b := fun q e h9 => by
  obtain ⟨e', k1, k2, k3⟩ := h q e h9
  exact ⟨e', k1, k2, fun h8 => k3 (hTU _ h8)⟩
theorem Keep.at {T : Nat → Bool} {a b : PH} (h : Keep T a b) {q : Nat} {e : Ent} (he : a q = some e) (ht : T e.1 = false) : b q = some e := by
  obtain ⟨e', k1, -, k3⟩ := h q e he
  rw [k1, k3 ht]
theorem Keep.obj {T : Nat → Bool} {a b : PH} (h : Keep T a b) {q g : Nat} {o : Nat × List Value} (he : a q = some (g, .inl o)) : b q = some (g, .inl o) := by
  obtain ⟨⟨g', x'⟩, k1, ⟨k2, k3⟩, -⟩ := h q _ he
  have h1 : g' = g := k2
  have h2 : x' = .inl o := k3
  rw [k1, h1, h2]
theorem Keep.row {T : Nat → Bool} {a b : PH} (h : Keep T a b) {q g n : Nat} {ty : FieldType} {f : Nat → Int32} (he : a q = some (g, .inr (ty, n, .inl f))) : ∃ f' : Nat → Int32, b q = some (g, .inr (ty, n, .inl f')) := by
  obtain ⟨⟨g', x'⟩, k1, ⟨k2, f', k3⟩, -⟩ := h q _ he
  have h1 : g' = g := k2
  have h2 : x' = .inr (ty, n, .inl f') := k3
  exact ⟨f', by rw [k1, h1, h2]⟩
theorem Keep.rowJ {T : Nat → Bool} {a b : PH} (h : Keep T a b) {q g n : Nat} {ty : FieldType} {f : Nat → Int64} (he : a q = some (g, .inr (ty, n, .inr (.inl f)))) : ∃ f' : Nat → Int64, b q = some (g, .inr (ty, n, .inr (.inl f'))) := by
  obtain ⟨⟨g', x'⟩, k1, ⟨k2, f', k3⟩, -⟩ := h q _ he
  have h1 : g' = g := k2
  have h2 : x' = .inr (ty, n, .inr (.inl f')) := k3
  exact ⟨f', by rw [k1, h1, h2]⟩
theorem Keep.set {T : Nat → Bool} {ph : PH} {q : Nat} {e e' : Ent} (he : ph q = some e) (ht : T e.1 = true) (hs : shp e e') : Keep T ph (hset ph q e') := by
  intro a x hx
  by_cases h : a = q
  · subst h
    cases hx.symm.trans he
    exact ⟨e', hset_same, hs, fun h9 => by rw [ht] at h9; cases h9⟩
  · exact ⟨x, by rw [hset_ne h]; exact hx, shp.rf x, fun _ => rfl⟩
theorem Keep.setI {T : Nat → Bool} {ph : PH} {q g n : Nat} {ty : FieldType} {f f' : Nat → Int32} (he : ph q = some (g, .inr (ty, n, .inl f))) (ht : T g = true) : Keep T ph (hset ph q (g, .inr (ty, n, .inl f'))) := Keep.set he ht ⟨rfl, f', rfl⟩
theorem Keep.setJ {T : Nat → Bool} {ph : PH} {q g n : Nat} {ty : FieldType} {f f' : Nat → Int64} (he : ph q = some (g, .inr (ty, n, .inr (.inl f)))) (ht : T g = true) : Keep T ph (hset ph q (g, .inr (ty, n, .inr (.inl f')))) := Keep.set he ht ⟨rfl, f', rfl⟩
theorem Keep.new {T : Nat → Bool} {ph : PH} {q : Nat} {e : Ent} (h : ph q = none) : Keep T ph (hset ph q e) := by
  intro a x hx
  have h9 : a ≠ q := fun h8 => by
    subst h8
    rw [h] at hx
    cases hx
  exact ⟨x, by rw [hset_ne h9]; exact hx, shp.rf x, fun _ => rfl⟩
theorem Keep.gr {T : Nat → Bool} {a b : PH} (h : Keep T a b) {g st lt : Nat} {E : Nat → Int32} (hG : Gr a g st lt E) (ht : T 230 = false) : Gr b g st lt E := by
  obtain ⟨hb, ge, e1, e2⟩ := hG
  exact ⟨hb, ge, h.obj e1, h.at e2 ht⟩
theorem hset_hset {ph : PH} {q : Nat} {e e' : Ent} : hset (hset ph q e) q e' = hset ph q e' := by
  funext a
  by_cases h : a = q
  · rw [h, hset_same, hset_same]
  · rw [hset_ne h, hset_ne h, hset_ne h]
theorem tag_ne {ph : PH} {a b g g' : Nat} {x x' : (Nat × List Value) ⊕ (FieldType × vp_A)} (h1 : ph a = some (g, x)) (h2 : ph b = some (g', x')) (h : g ≠ g') : a ≠ b := fun h9 => by
  subst h9
  cases h1.symm.trans h2
  exact h rfl
theorem hset_at {ph : PH} {q a : Nat} {e : Ent} {o : Option Ent} (h : q ≠ a) (hq : ph q = o) : hset ph a e q = o := (hset_ne h).trans hq
/-- Arrays.fill of ints -/
theorem g_fill {ph : PH} {a g n : Nat} {f : Nat → Int32} {x : Int32} {Q : PH → Prop} {X : String → PH → Prop} (he : ph a = some (g, .inr (.int, n, .inl f))) (hg : g < 1000) (hn : n < 2 ^ 31 - 1) (h : ∀ f' : Nat → Int32, (∀ j : Nat, j < n → f' j = x) → Q (hset ph a (g, .inr (.int, n, .inl f')))) : w_J7_fill_53178 (some a) x ph Q X := by
  have key : ∀ (d i fu : Nat) (f' : Nat → Int32), i + d = n → d < fu → (∀ j : Nat, j < i → f' j = x) → w_J7_fill_53178_5 Q X fu (some a) x (Int32.ofNat i) (Int32.ofNat n) (hset ph a (g, .inr (.int, n, .inl f'))) := by
    intro d
    induction d with
    | zero =>
      intro i fu f' h1 h2 h3
      obtain ⟨fu, rfl⟩ : ∃ k, fu = k + 1 := ⟨fu - 1, by omega⟩
      unfold w_J7_fill_53178_5
      rw [on_le (by omega) (by omega)]
      exact ⟨fun _ => h f' (fun j hj => h3 j (by omega)), fun h9 => absurd (by omega) h9⟩
    | succ d ih =>
      intro i fu f' h1 h2 h3
      obtain ⟨fu, rfl⟩ : ∃ k, fu = k + 1 := ⟨fu - 1, by omega⟩
      unfold w_J7_fill_53178_5
      rw [on_le (by omega) (by omega)]
      refine ⟨fun h9 => absurd h9 (by omega), fun _ => ?_⟩
      rw [ex_sI hset_same hg (on_in (by omega) (by omega)), hset_hset, on_nat (by omega), on_succ]
      refine ih (i + 1) fu _ (by omega) (by omega) (fun j hj => ?_)
      by_cases hji : j = i
      · rw [hji, pk_us]
      · rw [pk_un hji]
        exact h3 j (by omega)
  unfold w_J7_fill_53178
  rw [ex_aL he]
  refine ⟨n + 1, ?_⟩
  have h0 : hset ph a (g, .inr (.int, n, .inl f)) = ph := by
    funext q
    by_cases hq : q = a
    · rw [hq, hset_same, he]
    · rw [hset_ne hq]
  have h1 := key n 0 (n + 1) f (by omega) (by omega) (fun j hj => by omega)
  rw [h0] at h1
  exact h1
