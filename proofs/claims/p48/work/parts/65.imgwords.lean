/-! the words of an image -/
section IW
variable {st lt : Nat} {E : Nat → Int32} {L : Int32}
theorem cw_mono (hst : st ≤ 24) : ∀ (n : Nat) (S T : Int32), sub S T → cw st lt E L n S ≤ cw st lt E L n T := by
  intro n
  induction n with
  | zero =>
    intro S T h
    by_cases h1 : S = 0
    · rw [h1, cw_zero]
      exact Nat.zero_le _
    · obtain ⟨j, hj⟩ := bt_ne.mp h1
      have h2 : ¬ T = 0 := bt_ne.mpr ⟨j, h j hj⟩
      rw [show cw st lt E L 0 S = 1 from if_neg h1, show cw st lt E L 0 T = 1 from if_neg h2]
      exact Nat.le_refl _
  | succ n ih =>
    intro S T h
    rw [cw_succ hst, cw_succ hst]
    exact sumN_mon fun a _ => ih _ _ (rdL_mono hst h)
theorem sumN_add2 {n : Nat} {f g : Nat → Nat} : sumN n (fun i => f i + g i) = sumN n f + sumN n g := by
  induction n with
  | zero => rfl
  | succ n ih =>
    show sumN n (fun i => f i + g i) + (f n + g n) = (sumN n f + f n) + (sumN n g + g n)
    rw [ih]
    omega
theorem cw_or (hst : st ≤ 24) : ∀ (n : Nat) (S T : Int32), cw st lt E L n (S ||| T) ≤ cw st lt E L n S + cw st lt E L n T := by
  intro n
  induction n with
  | zero =>
    intro S T
    by_cases h1 : S = 0
    · by_cases h2 : T = 0
      · rw [h1, h2, show (0 : Int32) ||| 0 = 0 from rfl, cw_zero]
        exact Nat.zero_le _
      · rw [show cw st lt E L 0 T = 1 from if_neg h2]
        have h3 : cw st lt E L 0 (S ||| T) ≤ 1 := by
          show (if (S ||| T) = 0 then 0 else 1) ≤ 1
          split <;> decide
        omega
    · rw [show cw st lt E L 0 S = 1 from if_neg h1]
      have h3 : cw st lt E L 0 (S ||| T) ≤ 1 := by
        show (if (S ||| T) = 0 then 0 else 1) ≤ 1
        split <;> decide
      omega
  | succ n ih =>
    intro S T
    rw [cw_succ hst, cw_succ hst, cw_succ hst, ← sumN_add2]
    refine sumN_mon fun a _ => ?_
    have e : rdL st E L (S ||| T) a = rdL st E L S a ||| rdL st E L T a := bt_ext fun j => by
      rw [bt_or, bt_rdL hst, bt_rdL hst, bt_rdL hst]
      constructor
      · rintro ⟨⟨i, h1, h2, h3⟩, h4⟩
        rcases bt_or.mp h2 with h2 | h2
        · exact Or.inl ⟨⟨i, h1, h2, h3⟩, h4⟩
        · exact Or.inr ⟨⟨i, h1, h2, h3⟩, h4⟩
      · rintro (⟨⟨i, h1, h2, h3⟩, h4⟩ | ⟨⟨i, h1, h2, h3⟩, h4⟩)
        · exact ⟨⟨i, h1, bt_or.mpr (Or.inl h2), h3⟩, h4⟩
        · exact ⟨⟨i, h1, bt_or.mpr (Or.inr h2), h3⟩, h4⟩
    rw [e]
    exact ih _ _
theorem cw_orF (hst : st ≤ 24) {n : Nat} {f : Nat → Int32} : ∀ k : Nat, cw st lt E L n (orF k f) ≤ sumN k (fun i => cw st lt E L n (f i)) := by
  intro k
  induction k with
  | zero =>
    show cw st lt E L n 0 ≤ 0
    rw [cw_zero]
    exact Nat.le_refl _
  | succ k ih => exact Nat.le_trans (cw_or hst n _ _) (Nat.add_le_add_right ih _)
theorem rk_surj {j : Nat} : ∀ m : Nat, j < rk st lt E m → ∃ i : Nat, i < m ∧ va st lt E i = 1 ∧ rk st lt E i = j := by
  intro m
  induction m with
  | zero => intro h; exact absurd h (Nat.not_lt_zero j)
  | succ m ih =>
    intro h
    rw [rk_succ] at h
    by_cases h1 : j < rk st lt E m
    · obtain ⟨i, hi, h2⟩ := ih h1
      exact ⟨i, by omega, h2⟩
    · have h2 := va_le (st := st) (lt := lt) (E := E) (i := m)
      exact ⟨m, by omega, by omega, by omega⟩
def SaF (st lt : Nat) (E : Nat → Int32) (Z : Int32) (a : Nat) : Int32 := orF 24 (fun s => if va st lt E (3 * s + a) = 1 ∧ bn Z (rk st lt E (3 * s + a)) = 1 then (1 : Int32) <<< (Int32.ofNat s &&& 31) else 0)
theorem bt_SaF {Z : Int32} {a s : Nat} : bt (SaF st lt E Z a) s ↔ s < 24 ∧ va st lt E (3 * s + a) = 1 ∧ bt Z (rk st lt E (3 * s + a)) := by
  unfold SaF
  rw [bt_orF]
  constructor
  · rintro ⟨i, hi, h⟩
    by_cases h1 : va st lt E (3 * i + a) = 1 ∧ bn Z (rk st lt E (3 * i + a)) = 1
    · rw [if_pos h1, bt_one (by omega)] at h
      subst h
      exact ⟨hi, h1.1, bn_bt.mp h1.2⟩
    · rw [if_neg h1] at h
      exact absurd h bt_zero
  · rintro ⟨hs, h1, h2⟩
    refine ⟨s, hs, ?_⟩
    rw [if_pos ⟨h1, bn_bt.mpr h2⟩]
    exact (bt_one (by omega)).mpr rfl
theorem sumN_pick {g X : Nat} : ∀ n : Nat, g < n → sumN n (fun c => if g = c then X else 0) = X := by
  intro n
  induction n with
  | zero => intro h; omega
  | succ n ih =>
    intro h
    show sumN n (fun c => if g = c then X else 0) + (if g = n then X else 0) = X
    by_cases h1 : g = n
    · rw [if_pos h1, sumN_eq (g := fun _ => 0) (fun i hi => if_neg (by omega))]
      have z : ∀ k : Nat, sumN k (fun _ => 0) = 0 := by
        intro k
        induction k with
        | zero => rfl
        | succ k ihk => exact ihk
      rw [z, Nat.zero_add]
    · rw [if_neg h1, ih (by omega)]
      rfl
end IW
section IW2
variable {st lt n : Nat} {E EH : Nat → Int32} {gv : Nat → Nat → Nat}
theorem img_live (hst : st ≤ 24) (hlt : lt ≤ 3) (hn : rk st lt E 72 = n) (hn1 : 1 ≤ n) (hn2 : n ≤ 24) (hgv : ∀ a c : Nat, a < lt → c < lt → gv a c < lt) (hE : ∀ x j : Nat, bt (EH x) j ↔ ∃ s : Nat, s < st ∧ ∃ a : Nat, a < lt ∧ EdP st lt E gv s a x j) : ¬ live n lt EH = 0 := by
  -- from a pair to a pair
  have edge : ∀ s a t b : Nat, a < lt → b < lt → va st lt E (3 * s + a) = 1 → va st lt E (3 * t + b) = 1 → bt (E (24 * b + s)) t → bt (allT lt EH (rk st lt E (3 * s + a))) (rk st lt E (3 * t + b)) := by
    intro s a t b ha hb h1 h2 h3
    have q1 := (va_iff (by omega)).mp h1
    have q2 := (va_iff (by omega)).mp h2
    refine bt_allT.mpr ⟨gv a b, hgv a b ha hb, (hE _ _).mpr ⟨s, q1.2.1, a, ha, h1, b, hb, rfl, t, by omega, h3, h2, rfl⟩⟩
  have hF : sub (((1 : Int32) <<< (Int32.ofNat n &&& 31)) - 1) (lvStep n lt EH (((1 : Int32) <<< (Int32.ofNat n &&& 31)) - 1)) := by
    intro j hj
    have hjn := (bt_mask hn2).mp hj
    obtain ⟨i, hi, hv, hr⟩ := rk_surj (st := st) (lt := lt) (E := E) (j := j) 72 (by omega)
    have ei : i = 3 * (i / 3) + i % 3 := by omega
    have ha3 : i % 3 < 3 := by omega
    generalize i / 3 = s at ei
    generalize i % 3 = a at ei ha3
    subst ei
    subst hr
    obtain ⟨ha, hs, hbt⟩ := (va_iff ha3).mp hv
    obtain ⟨⟨r, hr1, hr2, hr3⟩, hsL⟩ := (bt_rdL hst).mp hbt
    refine bt_and.mpr ⟨bt_and.mpr ⟨hj, (bt_enF hn2).mpr ?_⟩, (bt_leF hn2).mpr ⟨hjn, bt_ne.mpr ?_⟩⟩
    · obtain ⟨q, hq, b, hb, hqr⟩ := live_in hst hr2
      have hv2 : va st lt E (3 * r + b) = 1 := (va_iff (by omega)).mpr ⟨hb, hr1, (bt_rdL hst).mpr ⟨⟨q, live_lt hst hq, hq, hqr⟩, hr2⟩⟩
      have hlt2 : rk st lt E (3 * r + b) < n := by
        rw [← hn]
        exact rk_lt hv2 (by omega)
      exact ⟨_, hlt2, (bt_mask hn2).mpr hlt2, edge r b s a hb ha hv2 hv hr3⟩
    · obtain ⟨b, hb, t, ht1, ht2⟩ := live_out hst hsL
      have htt := live_lt hst ht2
      have hv2 : va st lt E (3 * t + b) = 1 := (va_iff (by omega)).mpr ⟨hb, htt, (bt_rdL hst).mpr ⟨⟨s, hs, hsL, ht1⟩, ht2⟩⟩
      have hlt2 : rk st lt E (3 * t + b) < n := by
        rw [← hn]
        exact rk_lt hv2 (by omega)
      exact ⟨_, bt_and.mpr ⟨edge s a t b ha hb hv hv2 ht1, (bt_mask hn2).mpr hlt2⟩⟩
  have h1 := live_most hn2 (fun j hj => (bt_mask hn2).mp hj) hF
  exact bt_ne.mpr ⟨0, h1 0 ((bt_mask hn2).mpr (by omega))⟩
theorem img_step (hst : st ≤ 24) (hlt : lt ≤ 3) (hn : rk st lt E 72 = n) (hn2 : n ≤ 24) (hgv : ∀ a c : Nat, a < lt → c < lt → gv a c < lt) (hE : ∀ x j : Nat, bt (EH x) j ↔ ∃ s : Nat, s < st ∧ ∃ a : Nat, a < lt ∧ EdP st lt E gv s a x j) : ∀ (k : Nat) (Z : Int32), (∀ j : Nat, bt Z j → j < n) → cw n lt EH (live n lt EH) k Z ≤ sumN lt (fun a => cw st lt E (live st lt E) k (SaF st lt E Z a)) := by
  intro k
  induction k with
  | zero =>
    intro Z hZ
    by_cases h : Z = 0
    · rw [h, cw_zero]
      exact Nat.zero_le _
    · obtain ⟨j, hj⟩ := bt_ne.mp h
      obtain ⟨i, hi, hv, hr⟩ := rk_surj (st := st) (lt := lt) (E := E) (j := j) 72 (by rw [hn]; exact hZ j hj)
      have ei : i = 3 * (i / 3) + i % 3 := by omega
      have ha3 : i % 3 < 3 := by omega
      have hs24 : i / 3 < 24 := by omega
      generalize i / 3 = s at ei hs24
      generalize i % 3 = a at ei ha3
      subst ei
      subst hr
      obtain ⟨ha, hs, hbt⟩ := (va_iff ha3).mp hv
      have h2 : ¬ SaF st lt E Z a = 0 := bt_ne.mpr ⟨s, bt_SaF.mpr ⟨hs24, hv, hj⟩⟩
      have h3 := sumN_ge (f := fun a => cw st lt E (live st lt E) 0 (SaF st lt E Z a)) ha
      rw [show cw n lt EH (live n lt EH) 0 Z = 1 from if_neg h]
      have h4 : cw st lt E (live st lt E) 0 (SaF st lt E Z a) = 1 := if_neg h2
      have h5 : 1 ≤ sumN lt (fun a => cw st lt E (live st lt E) 0 (SaF st lt E Z a)) := by
        rw [← h4]
        exact h3
      exact h5
  | succ k ih =>
    intro Z hZ
    rw [cw_succ hn2]
    have h1 : sumN lt (fun c => cw n lt EH (live n lt EH) k (rdL n EH (live n lt EH) Z c)) ≤ sumN lt (fun c => sumN lt (fun b => sumN lt (fun a => if gv a b = c then cw st lt E (live st lt E) k (rdL st E (live st lt E) (SaF st lt E Z a) b) else 0))) := by
      refine sumN_mon fun c hc => ?_
      refine Nat.le_trans (ih _ (fun j hj => live_lt hn2 (rdL_sub j hj))) ?_
      refine sumN_mon fun b hb => ?_
      have hs : sub (SaF st lt E (rdL n EH (live n lt EH) Z c) b) (orF lt (fun a => if gv a b = c then rdL st E (live st lt E) (SaF st lt E Z a) b else 0)) := by
        intro t ht
        obtain ⟨ht24, hv, hbt⟩ := bt_SaF.mp ht
        obtain ⟨⟨i, hi, hZi, hEi⟩, -⟩ := (bt_rdL hn2).mp hbt
        obtain ⟨s, hs, a, ha, hva, b', hb', hx, t', ht', hd1, hd2, hd3⟩ := (hE _ _).mp hEi
        have e1 := rk_inj hv hd2 hd3
        have e2 : t' = t := by omega
        have e3 : b' = b := by omega
        subst e2
        subst e3
        have hra : rk st lt E (3 * s + a) < n := by
          rw [← hn]
          exact rk_lt hva (by omega)
        have e4 : gv a b' = c := by omega
        have e5 : i = rk st lt E (3 * s + a) := by omega
        subst e5
        refine bt_orF.mpr ⟨a, ha, ?_⟩
        rw [if_pos e4]
        obtain ⟨-, -, hbL⟩ := (va_iff (by omega)).mp hv
        exact (bt_rdL hst).mpr ⟨⟨s, hs, bt_SaF.mpr ⟨by omega, hva, hZi⟩, hd1⟩, rdL_sub _ hbL⟩
      refine Nat.le_trans (cw_mono hst k _ _ hs) (Nat.le_trans (cw_orF hst lt) ?_)
      refine sumN_mon fun a _ => ?_
      by_cases h9 : gv a b = c
      · rw [if_pos h9, if_pos h9]
        exact Nat.le_refl _
      · rw [if_neg h9, if_neg h9, cw_zero]
        exact Nat.le_refl _
    refine Nat.le_trans h1 (Nat.le_of_eq ?_)
    rw [sumN_swap]
    have h2 : ∀ b : Nat, b < lt → sumN lt (fun c => sumN lt (fun a => if gv a b = c then cw st lt E (live st lt E) k (rdL st E (live st lt E) (SaF st lt E Z a) b) else 0)) = sumN lt (fun a => cw st lt E (live st lt E) k (rdL st E (live st lt E) (SaF st lt E Z a) b)) := by
      intro b hb
      rw [sumN_swap]
      exact sumN_eq fun a ha => sumN_pick lt (hgv a b ha hb)
    rw [sumN_eq h2, sumN_swap]
    exact sumN_eq fun a _ => (cw_succ hst).symm
theorem img_words (hst : st ≤ 24) (hlt : lt ≤ 3) (hn : rk st lt E 72 = n) (hn2 : n ≤ 24) (hgv : ∀ a c : Nat, a < lt → c < lt → gv a c < lt) (hE : ∀ x j : Nat, bt (EH x) j ↔ ∃ s : Nat, s < st ∧ ∃ a : Nat, a < lt ∧ EdP st lt E gv s a x j) (k : Nat) : cw n lt EH (live n lt EH) k (live n lt EH) ≤ cw st lt E (live st lt E) (k + 1) (live st lt E) := by
  refine Nat.le_trans (img_step hst hlt hn hn2 hgv hE k _ (fun j hj => live_lt hn2 hj)) ?_
  rw [cw_succ hst]
  refine sumN_mon fun a ha => cw_mono hst k _ _ fun s hs => ?_
  obtain ⟨-, hv, -⟩ := bt_SaF.mp hs
  exact ((va_iff (by omega)).mp hv).2.2
theorem cw_pos (hst : st ≤ 24) (h : ¬ live st lt E = 0) : ∀ k : Nat, 1 ≤ cw st lt E (live st lt E) k (live st lt E) := by
  intro k
  induction k with
  | zero =>
    rw [show cw st lt E (live st lt E) 0 (live st lt E) = 1 from if_neg h]
    exact Nat.le_refl _
  | succ k ih => exact Nat.le_trans ih (cw_up (S := 0) hst rfl k _ (fun _ h => h))
end IW2
