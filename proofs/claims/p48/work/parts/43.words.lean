/-! the count of words -/
def sumN : Nat → (Nat → Nat) → Nat
  | 0, _ => 0
  | n + 1, f => sumN n f + f n
theorem sumN_le {n B : Nat} {f : Nat → Nat} (h : ∀ i : Nat, i < n → f i ≤ B) : sumN n f ≤ n * B := by
  induction n with
  | zero => exact Nat.zero_le _
  | succ n ih =>
    have h1 := ih (fun i hi => h i (by omega))
    have h2 := h n (by omega)
    show sumN n f + f n ≤ (n + 1) * B
    rw [Nat.add_mul]
    omega
theorem sumN_mono {n m : Nat} {f : Nat → Nat} (h : n ≤ m) : sumN n f ≤ sumN m f := by
  induction m with
  | zero =>
    rw [show n = 0 by omega]
    exact Nat.le_refl _
  | succ m ih =>
    by_cases hn : n = m + 1
    · rw [hn]
      exact Nat.le_refl _
    · exact Nat.le_trans (ih (by omega)) (Nat.le_add_right _ _)
/-- the states reached from S by a letter, of those in L -/
def rdL (st : Nat) (E : Nat → Int32) (L S : Int32) (a : Nat) : Int32 := orF st (rdF E a S) &&& L
def cw (st lt : Nat) (E : Nat → Int32) (L : Int32) : Nat → Int32 → Nat
  | 0, S => if S = 0 then 0 else 1
  | n + 1, S => if S = 0 then 0 else sumN lt (fun a => cw st lt E L n (rdL st E L S a))
theorem cw_le {st lt : Nat} {E : Nat → Int32} {L : Int32} (hl : lt ≤ 3) : ∀ (n : Nat) (S : Int32), cw st lt E L n S ≤ 3 ^ n := by
  intro n
  induction n with
  | zero =>
    intro S
    unfold cw
    split <;> decide
  | succ n ih =>
    intro S
    unfold cw
    split
    · exact Nat.zero_le _
    · refine Nat.le_trans (sumN_le (fun i _ => ih _)) ?_
      rw [Nat.pow_succ, Nat.mul_comm]
      exact Nat.mul_le_mul_left _ hl
theorem pow3_le {n : Nat} (h : n ≤ 10) : 3 ^ n ≤ 59049 := Nat.le_trans (Nat.pow_le_pow_right (by decide) h) (by decide)
/-- the Reader's three rows of what is counted -/
def Rd (ph : PH) (r aS aL aC : Nat) (rs : List Value) : Prop := ph r = some (107, .inl (7, .ref aS :: .ref aL :: .ref aC :: rs))
def TC : Nat → Bool := fun t => t == 206 || t == 207 || t == 208
def Ca (st lt : Nat) (E : Nat → Int32) (L : Int32) (ph : PH) (aS aL aC : Nat) : Prop := ∃ fS fL fC : Nat → Int32, ph aS = some (206, .inr (.int, 1024, .inl fS)) ∧ ph aL = some (207, .inr (.int, 1024, .inl fL)) ∧ ph aC = some (208, .inr (.int, 1024, .inl fC)) ∧ ∀ s : Nat, s < 1024 → fL s = -1 ∨ ∃ n : Nat, n ≤ 10 ∧ fL s = Int32.ofNat n ∧ fC s = Int32.ofNat (cw st lt E L n (fS s))
section WORDS
variable {g st lt r aS aL aC : Nat} {E : Nat → Int32} {L : Int32} {rs : List Value} {X : String → PH → Prop}
theorem g_recall {ph : PH} {s n : Nat} {S : Int32} {Q : Int32 → PH → Prop} (hr : Rd ph r aS aL aC rs) (hc : Ca st lt E L ph aS aL aC) (hs : s < 1024) (hn : n ≤ 10) (h1 : Q (-1) ph) (h2 : Q (Int32.ofNat (cw st lt E L n S)) ph) : w_X6_recall r (Int32.ofNat s) S (Int32.ofNat n) ph Q X := by
  obtain ⟨fS, fL, fC, e1, e2, e3, hi⟩ := hc
  unfold w_X6_recall
  refine ⟨fun h9 => absurd h9 (on_neg (by omega)), fun _ => ?_⟩
  rw [ex_gR hr (v0 := some aS) rfl, ex_aL e1, on_le (by omega) (by omega)]
  refine ⟨fun _ => h1, fun _ => ?_⟩
  rw [ex_gR hr (v0 := some aL) rfl, ex_aL e2, on_le (by omega) (by omega)]
  refine ⟨fun _ => h1, fun _ => ?_⟩
  rw [ex_gR hr (v0 := some aC) rfl, ex_aL e3, on_lt (by omega) (by omega)]
  refine ⟨fun _ => ?_, fun _ => h1⟩
  rw [ex_gR hr (v0 := some aS) rfl, ex_aI e1 (on_in hs (by omega)), on_nat (by omega)]
  refine ⟨fun _ => h1, fun hS => ?_⟩
  rw [ex_gR hr (v0 := some aL) rfl, ex_aI e2 (on_in hs (by omega)), on_nat (by omega)]
  refine ⟨fun _ => h1, fun hL => ?_⟩
  rw [ex_gR hr (v0 := some aC) rfl, ex_aI e3 (on_in hs (by omega)), on_nat (by omega)]
  rcases hi s hs with h9 | ⟨m, m1, m2, m3⟩
  · rw [h9] at hL
    exact absurd (show (-1 : Int32) < 0 by decide) (by rw [hL]; exact on_neg (by omega))
  · rw [m2, on_inj (by omega) (by omega)] at hL
    rw [m3, hS, hL]
    exact h2
theorem g_keep {ph : PH} {s n : Nat} {S : Int32} {Q : PH → Prop} (hr : Rd ph r aS aL aC rs) (hc : Ca st lt E L ph aS aL aC) (hs : s < 1024) (hn : n ≤ 10) (h : ∀ ph' : PH, Keep TC ph ph' → Ca st lt E L ph' aS aL aC → Q ph') : w_X6_keep r (Int32.ofNat s) S (Int32.ofNat n) (Int32.ofNat (cw st lt E L n S)) ph Q X := by
  obtain ⟨fS, fL, fC, e1, e2, e3, hi⟩ := hc
  have n1 : aL ≠ aS := tag_ne e2 e1 (by decide)
  have n2 : aC ≠ aS := tag_ne e3 e1 (by decide)
  have n3 : aC ≠ aL := tag_ne e3 e2 (by decide)
  have r1 : r ≠ aS := tag_ne hr e1 (by decide)
  have r2 : r ≠ aL := tag_ne hr e2 (by decide)
  unfold w_X6_keep
  refine ⟨fun h9 => absurd h9 (on_neg (by omega)), fun _ => ?_⟩
  rw [ex_gR hr (v0 := some aS) rfl, ex_aL e1, on_le (by omega) (by omega)]
  refine ⟨fun h9 => absurd hs (by omega), fun _ => ?_⟩
  rw [ex_gR hr (v0 := some aL) rfl, ex_aL e2, on_le (by omega) (by omega)]
  refine ⟨fun h9 => absurd hs (by omega), fun _ => ?_⟩
  rw [ex_gR hr (v0 := some aC) rfl, ex_aL e3, on_le (by omega) (by omega)]
  refine ⟨fun h9 => absurd hs (by omega), fun _ => ?_⟩
  rw [ex_gR hr (v0 := some aS) rfl, ex_sI e1 (by decide) (on_in hs (by omega)), on_nat (by omega)]
  have k1 := Keep.setI (T := TC) (f' := upd fS s S) e1 rfl
  have hr1 := hset_at (e := (206, .inr (.int, 1024, .inl (upd fS s S)))) r1 hr
  have e2' := hset_at (e := (206, .inr (.int, 1024, .inl (upd fS s S)))) n1 e2
  have e3' := hset_at (e := (206, .inr (.int, 1024, .inl (upd fS s S)))) n2 e3
  have e1' := hset_same (ph := ph) (a := aS) (e := (206, .inr (.int, 1024, .inl (upd fS s S))))
  generalize hset ph aS (206, .inr (.int, 1024, .inl (upd fS s S))) = p1 at k1 hr1 e1' e2' e3' ⊢
  rw [ex_gR hr1 (v0 := some aL) rfl, ex_sI e2' (by decide) (on_in hs (by omega)), on_nat (by omega)]
  have k2 := Keep.setI (T := TC) (f' := upd fL s (Int32.ofNat n)) e2' rfl
  have hr2 := hset_at (e := (207, .inr (.int, 1024, .inl (upd fL s (Int32.ofNat n))))) r2 hr1
  have e1'' := hset_at (e := (207, .inr (.int, 1024, .inl (upd fL s (Int32.ofNat n))))) n1.symm e1'
  have e3'' := hset_at (e := (207, .inr (.int, 1024, .inl (upd fL s (Int32.ofNat n))))) n3 e3'
  have e2'' := hset_same (ph := p1) (a := aL) (e := (207, .inr (.int, 1024, .inl (upd fL s (Int32.ofNat n)))))
  generalize hset p1 aL (207, .inr (.int, 1024, .inl (upd fL s (Int32.ofNat n)))) = p2 at k2 hr2 e1'' e2'' e3'' ⊢
  rw [ex_gR hr2 (v0 := some aC) rfl, ex_sI e3'' (by decide) (on_in hs (by omega)), on_nat (by omega)]
  refine h _ ((k1.tr k2).tr (Keep.setI e3'' rfl)) ⟨upd fS s S, upd fL s (Int32.ofNat n), upd fC s (Int32.ofNat (cw st lt E L n S)), hset_at n2.symm e1'', hset_at n3.symm e2'', hset_same, fun t ht => ?_⟩
  by_cases hts : t = s
  · subst hts
    rw [pk_us, pk_us, pk_us]
    exact Or.inr ⟨n, hn, rfl, rfl⟩
  · rw [pk_un hts, pk_un hts, pk_un hts]
    exact hi t ht
theorem Ca.keep {ph ph' : PH} (h : Keep (fun _ => false) ph ph') (hc : Ca st lt E L ph aS aL aC) : Ca st lt E L ph' aS aL aC := by
  obtain ⟨fS, fL, fC, e1, e2, e3, hi⟩ := hc
  exact ⟨fS, fL, fC, h.at e1 rfl, h.at e2 rfl, h.at e3 rfl, hi⟩
end WORDS
