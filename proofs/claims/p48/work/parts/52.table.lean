/-! tables -/
theorem ex_pW {ph : PH} {a g ci k : Nat} {fs fs' : List Value} {P : PH → Prop} {v : Value} (h : ph a = some (g, .inl (ci, fs))) (hg : g < 1000) (hk : k < fs.length) (hs : fs.set k v = fs') : (∃ ph' : PH, pV ph (some a) ci k v ph' ∧ P ph') ↔ P (hset ph a (g, .inl (ci, fs'))) := by
  subst hs
  exact ex_pV h hg hk
def Fr (P : Nat → Prop) (ph ph' : PH) : Prop := ∀ q : Nat, ¬ P q → ph' q = ph q
theorem Fr.rf {P : Nat → Prop} (ph : PH) : Fr P ph ph := fun _ _ => rfl
theorem Fr.tr {P : Nat → Prop} {a b c : PH} (h1 : Fr P a b) (h2 : Fr P b c) : Fr P a c := fun q h => (h2 q h).trans (h1 q h)
theorem Fr.mono {P U : Nat → Prop} {a b : PH} (h : Fr P a b) (hp : ∀ q : Nat, P q → U q) : Fr U a b := fun q hq => h q fun h9 => hq (hp q h9)
theorem Fr.set {P : Nat → Prop} {ph : PH} {a : Nat} {e : Ent} (h : P a) : Fr P ph (hset ph a e) := fun q hq => hset_ne fun h9 => hq (by rw [h9]; exact h)
def Tb (ph : PH) (t ta r c : Nat) (f : Nat → Int64) : Prop := (r ≤ 12 ∧ c ≤ 12) ∧ ph t = some (109, .inl (9, [.int (Int32.ofNat r), .int (Int32.ofNat c), .ref ta])) ∧ ph ta = some (219, .inr (.long, 144, .inr (.inl f)))
def two (t ta : Nat) : Nat → Prop := fun q => q = t ∨ q = ta
theorem Tb.fr {P : Nat → Prop} {p q : PH} {t ta r c : Nat} {f : Nat → Int64} (h : Fr P p q) (hT : Tb p t ta r c f) (h1 : ¬ P t) (h2 : ¬ P ta) : Tb q t ta r c f := ⟨hT.1, (h t h1).trans hT.2.1, (h ta h2).trans hT.2.2⟩
theorem Tb.ne {ph : PH} {t ta r c : Nat} {f : Nat → Int64} (hT : Tb ph t ta r c f) : t ≠ ta := tag_ne hT.2.1 hT.2.2 (by decide)
theorem vl_s {f : Nat → Int64} {i : Nat} {x : Int64} : vp_updL f i x i = x := by
  simp [vp_updL]
theorem vl_n {f : Nat → Int64} {i j : Nat} {x : Int64} (h : j ≠ i) : vp_updL f i x j = f j := by
  simp [vp_updL, h]
/-- Arrays.fill of longs -/
theorem g_fillJ {ph : PH} {a g n : Nat} {f : Nat → Int64} {x : Int64} {Q : PH → Prop} {X : String → PH → Prop} (he : ph a = some (g, .inr (.long, n, .inr (.inl f)))) (hg : g < 1000) (hn : n < 2 ^ 31 - 1) (h : ∀ f' : Nat → Int64, (∀ j : Nat, j < n → f' j = x) → Q (hset ph a (g, .inr (.long, n, .inr (.inl f'))))) : w_J7_fill_d0a16 (some a) x ph Q X := by
  have h0 : hset ph a (g, .inr (.long, n, .inr (.inl f))) = ph := by
    funext q
    by_cases hq : q = a
    · rw [hq, hset_same, he]
    · rw [hset_ne hq]
  unfold w_J7_fill_d0a16
  rw [ex_aL he]
  have key := upto0 (n := n) (P := fun fu i => ∀ f' : Nat → Int64, (∀ j : Nat, j < i → f' j = x) → w_J7_fill_d0a16_6 Q X fu (some a) x (Int32.ofNat i) (Int32.ofNat n) (hset ph a (g, .inr (.long, n, .inr (.inl f'))))) (fun fu i hi ih => by
    intro f' hf
    unfold w_J7_fill_d0a16_6
    rw [on_le (by omega) (by omega)]
    refine ⟨fun h9 => h f' (fun j hj => hf j (by omega)), fun h9 => ?_⟩
    rw [ex_sJ hset_same hg (on_in (by omega) (by omega)), hset_hset, on_nat (by omega), on_succ]
    refine ih (by omega) _ (fun j hj => ?_)
    by_cases hji : j = i
    · rw [hji, vl_s]
    · rw [vl_n hji]
      exact hf j (by omega)) f (fun j hj => by omega)
  rw [h0] at key
  exact ⟨n + 1, key⟩
def tAt (r c : Nat) (f : Nat → Int64) (i j : Nat) : Int64 := if i < r ∧ j < c then f (12 * i + j) else 0
def tPut (r c : Nat) (f : Nat → Int64) (i j : Nat) (v : Int64) : Nat → Int64 := if i < r ∧ j < c then vp_updL f (12 * i + j) v else f
theorem on_12 {i a : Nat} : ((12 : Int32) * Int32.ofNat i) + Int32.ofNat a = Int32.ofNat (12 * i + a) := by
  rw [Int32.ofNat_add, Int32.ofNat_mul]
  rfl
section TABLE
variable {ph : PH} {t ta r c : Nat} {f : Nat → Int64} {X : String → PH → Prop}
theorem g_placeOf {i j : Nat} {Q : Int32 → PH → Prop} (hi : i < 2 ^ 20) (hj : j < 2 ^ 20) (hT : Tb ph t ta r c f) (h1 : i < r → j < c → Q (Int32.ofNat (12 * i + j)) ph) (h0 : ¬ (i < r ∧ j < c) → Q (-1) ph) : w_X8_placeOf t (Int32.ofNat i) (Int32.ofNat j) ph Q X := by
  obtain ⟨⟨b1, b2⟩, e1, e2⟩ := hT
  have no : ¬ (i < r ∧ j < c) → w_X8_placeOf_35 Q X (Int32.ofNat i) (Int32.ofNat j) 0 ph := fun h9 => ⟨fun _ => h0 h9, fun h8 => absurd rfl h8⟩
  unfold w_X8_placeOf
  refine ⟨fun h9 => absurd h9 (on_neg (by omega)), fun _ => ?_⟩
  rw [ex_gI e1 rfl, on_le (by omega) (by omega)]
  refine ⟨fun h9 => no (by omega), fun h9 => ⟨fun h8 => absurd h8 (on_neg (by omega)), fun _ => ?_⟩⟩
  rw [ex_gI e1 rfl, on_le (by omega) (by omega)]
  refine ⟨fun h8 => no (by omega), fun h8 => ?_⟩
  rw [show (12 : Int32) = Int32.ofNat 12 from rfl, on_le (by omega) (by omega)]
  refine ⟨fun h7 => absurd h7 (by omega), fun _ => ⟨fun h7 => absurd h7 (by decide), fun _ => ?_⟩⟩
  have h6 := h1 (by omega) (by omega)
  rw [← on_12] at h6
  exact h6
theorem g_at {i j : Nat} {Q : Int64 → PH → Prop} (hi : i < 2 ^ 20) (hj : j < 2 ^ 20) (hT : Tb ph t ta r c f) (h : Q (tAt r c f i j) ph) : w_X8_at t (Int32.ofNat i) (Int32.ofNat j) ph Q X := by
  unfold w_X8_at
  rw [ex_isO hT.2.1]
  refine g_placeOf hi hj hT (fun h1 h2 => ⟨fun h9 => ?_, fun _ => ?_⟩) (fun h9 => ⟨fun _ => ?_, fun h8 => absurd (by decide) h8⟩)
  · exact absurd h9 (on_neg (by omega))
  · obtain ⟨⟨b1, b2⟩, e1, e2⟩ := hT
    rw [ex_gR e1 (v0 := some ta) rfl, ex_aL e2, on_le (by omega) (by omega)]
    refine ⟨fun h9 => absurd h9 (by omega), fun _ => ?_⟩
    rw [ex_gR e1 (v0 := some ta) rfl, ex_aJ e2 (on_in (by omega) (by omega)), on_nat (by omega)]
    rw [show tAt r c f i j = f (12 * i + j) from if_pos ⟨h1, h2⟩] at h
    exact h
  · rw [show tAt r c f i j = 0 from if_neg h9] at h
    exact h
theorem g_write {i j : Nat} {v : Int64} {Q : PH → Prop} (hi : i < 2 ^ 20) (hj : j < 2 ^ 20) (hT : Tb ph t ta r c f) (h : ∀ ph' : PH, Fr (two t ta) ph ph' → Tb ph' t ta r c (tPut r c f i j v) → Q ph') : w_X8_write t (Int32.ofNat i) (Int32.ofNat j) v ph Q X := by
  unfold w_X8_write
  rw [ex_isO hT.2.1]
  refine g_placeOf hi hj hT (fun h1 h2 => ⟨fun h9 => ?_, fun _ => ?_⟩) (fun h9 => ⟨fun _ => ?_, fun h8 => absurd (by decide) h8⟩)
  · exact absurd h9 (on_neg (by have := hT.1; omega))
  · obtain ⟨⟨b1, b2⟩, e1, e2⟩ := id hT
    rw [ex_gR e1 (v0 := some ta) rfl, ex_aL e2, on_le (by omega) (by omega)]
    refine ⟨fun h9 => absurd h9 (by omega), fun _ => ?_⟩
    rw [ex_gR e1 (v0 := some ta) rfl, ex_sJ e2 (by decide) (on_in (by omega) (by omega)), on_nat (by omega)]
    refine h _ (Fr.set (Or.inr rfl)) ⟨⟨b1, b2⟩, hset_at hT.ne e1, ?_⟩
    rw [hset_same, show tPut r c f i j v = vp_updL f (12 * i + j) v from if_pos ⟨h1, h2⟩]
  · refine h ph (Fr.rf ph) ?_
    rw [show tPut r c f i j v = f from if_neg h9]
    exact hT
theorem tPut_in {i j : Nat} {v : Int64} (hi : i < r) (hj : j < c) : tAt r c (tPut r c f i j v) i j = v := by
  unfold tAt tPut
  rw [if_pos ⟨hi, hj⟩, if_pos ⟨hi, hj⟩, vl_s]
theorem tPut_out {i j k l : Nat} {v : Int64} (hc : c ≤ 12) (h : ¬ (k = i ∧ l = j)) : tAt r c (tPut r c f i j v) k l = tAt r c f k l := by
  unfold tAt tPut
  by_cases h1 : i < r ∧ j < c
  · rw [if_pos h1]
    by_cases h2 : k < r ∧ l < c
    · rw [if_pos h2, if_pos h2, vl_n (by omega)]
    · rw [if_neg h2, if_neg h2]
  · rw [if_neg h1]
theorem g_reshape {r' c' : Nat} {Q : PH → Prop} (hr : r' ≤ 12) (hc : c' ≤ 12) (hT : Tb ph t ta r c f) (h : ∀ (ph' : PH) (f' : Nat → Int64), Fr (two t ta) ph ph' → Tb ph' t ta r' c' f' → (∀ i : Nat, i < 144 → f' i = 0) → Q ph') : w_X8_reshape t (Int32.ofNat r') (Int32.ofNat c') ph Q X := by
  have hne := hT.ne
  obtain ⟨⟨b1, b2⟩, e1, e2⟩ := id hT
  unfold w_X8_reshape
  rw [ex_pW (fs' := [.int (Int32.ofNat r'), .int (Int32.ofNat c), .ref ta]) e1 (by decide) (show 0 < 3 by decide) rfl, ex_pW (fs' := [.int (Int32.ofNat r'), .int (Int32.ofNat c'), .ref ta]) hset_same (by decide) (show 1 < 3 by decide) rfl, hset_hset, ex_gR hset_same (v0 := some ta) rfl]
  refine g_fillJ (hset_at hne.symm e2) (by decide) (by decide) (fun f' hf => ?_)
  refine h _ f' ((Fr.set (Or.inl rfl)).tr (Fr.set (Or.inr rfl))) ⟨⟨hr, hc⟩, hset_at hne hset_same, hset_same⟩ hf
end TABLE
