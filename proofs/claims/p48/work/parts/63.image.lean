/-! the image of a shift -/
def va (st lt : Nat) (E : Nat → Int32) (i : Nat) : Nat := if i % 3 < lt ∧ i / 3 < st then bn (rdL st E (live st lt E) (live st lt E) (i % 3)) (i / 3) else 0
def rk (st lt : Nat) (E : Nat → Int32) (i : Nat) : Nat := sumN i (va st lt E)
def cpN (st lt : Nat) (E : Nat → Int32) : Nat := sumN lt (fun a => bc (rdL st E (live st lt E) (live st lt E) a))
def Nm (ph : PH) (m st lt : Nat) (E : Nat → Int32) : Prop := ∃ f : Nat → Int32, ph m = some (232, .inr (.int, 72, .inl f)) ∧ ∀ i : Nat, i < 72 → f i = if va st lt E i = 1 then Int32.ofNat (rk st lt E i) else -1
section IMG
variable {ph : PH} {g st lt : Nat} {E : Nat → Int32} {X : String → PH → Prop}
theorem va_le {i : Nat} : va st lt E i ≤ 1 := by
  unfold va
  split
  · exact bn_le
  · decide
theorem bn_bt {S : Int32} {j : Nat} : bn S j = 1 ↔ bt S j := by
  unfold bn bt
  cases S.toBitVec.getLsbD j
  · exact ⟨fun h => absurd h (by decide), fun h => absurd h (by decide)⟩
  · exact ⟨fun _ => rfl, fun _ => rfl⟩
theorem bn_0 {S : Int32} {j : Nat} (h : ¬ bt S j) : bn S j = 0 := by
  have h1 := bn_le (S := S) (j := j)
  have h2 : ¬ bn S j = 1 := fun h9 => h (bn_bt.mp h9)
  omega
theorem va_iff {s a : Nat} (ha : a < 3) : va st lt E (3 * s + a) = 1 ↔ a < lt ∧ s < st ∧ bt (rdL st E (live st lt E) (live st lt E) a) s := by
  unfold va
  rw [show (3 * s + a) % 3 = a by omega, show (3 * s + a) / 3 = s by omega]
  by_cases h : a < lt ∧ s < st
  · rw [if_pos h, bn_bt]
    exact ⟨fun h9 => ⟨h.1, h.2, h9⟩, fun h9 => h9.2.2⟩
  · rw [if_neg h]
    exact ⟨fun h9 => absurd h9 (by decide), fun h9 => absurd ⟨h9.1, h9.2.1⟩ h⟩
theorem rk_succ {i : Nat} : rk st lt E (i + 1) = rk st lt E i + va st lt E i := rfl
theorem rk_lt {i j : Nat} (hv : va st lt E i = 1) (h : i < j) : rk st lt E i < rk st lt E j := by
  have h1 : rk st lt E (i + 1) ≤ rk st lt E j := sumN_mono h
  rw [rk_succ, hv] at h1
  omega
theorem rk_inj {i j : Nat} (hi : va st lt E i = 1) (hj : va st lt E j = 1) (h : rk st lt E i = rk st lt E j) : i = j := by
  refine Classical.byContradiction fun h9 => ?_
  by_cases h8 : i < j
  · have := rk_lt hi h8
    omega
  · have := rk_lt hj (show j < i by omega)
    omega
theorem rk_le (i : Nat) : rk st lt E i ≤ i := sumN_le' (fun _ => va_le) i
theorem cp_rk (hst : st ≤ 24) (hlt : lt = 2 ∨ lt = 3) : cpN st lt E = rk st lt E 72 := by
  unfold rk
  rw [show 72 = 3 * 24 from rfl, sumN_block, sumN_swap]
  have e : ∀ a : Nat, a < lt → sumN 24 (fun s => va st lt E (3 * s + a)) = bc (rdL st E (live st lt E) (live st lt E) a) := by
    intro a ha
    rw [bc_cd (fun j hj => by
      have h1 := live_lt hst (rdL_sub j hj)
      omega)]
    refine sumN_eq fun s hs => ?_
    show va st lt E (3 * s + a) = bn (rdL st E (live st lt E) (live st lt E) a) s
    unfold va
    rw [show (3 * s + a) % 3 = a by omega, show (3 * s + a) / 3 = s by omega]
    by_cases h : a < lt ∧ s < st
    · rw [if_pos h]
    · rw [if_neg h]
      refine (bn_0 fun h9 => h ⟨ha, live_lt hst (rdL_sub s h9)⟩).symm
  have z : ∀ a : Nat, lt ≤ a → a < 3 → sumN 24 (fun s => va st lt E (3 * s + a)) = 0 := by
    intro a ha ha3
    have h1 : sumN 24 (fun s => va st lt E (3 * s + a)) = sumN 24 (fun _ => 0) := sumN_eq fun s _ => by
      unfold va
      rw [show (3 * s + a) % 3 = a by omega, if_neg (by omega)]
    rw [h1]
    rfl
  unfold cpN
  rcases hlt with rfl | rfl
  · show 0 + bc _ + bc _ = 0 + sumN 24 (fun s => va st 2 E (3 * s + 0)) + sumN 24 (fun s => va st 2 E (3 * s + 1)) + sumN 24 (fun s => va st 2 E (3 * s + 2))
    rw [e 0 (by decide), e 1 (by decide), z 2 (by decide) (by decide), Nat.add_zero]
  · show 0 + bc _ + bc _ + bc _ = 0 + sumN 24 (fun s => va st 3 E (3 * s + 0)) + sumN 24 (fun s => va st 3 E (3 * s + 1)) + sumN 24 (fun s => va st 3 E (3 * s + 2))
    rw [e 0 (by decide), e 1 (by decide), e 2 (by decide)]
theorem g_arrivals {a : Nat} {L : Int32} {Q : Int32 → PH → Prop} (ha : a < lt) (hG : Gr ph g st lt E) (h : Q (rdL st E L L a) ph) : w_X5_arrivals (some g) L (Int32.ofNat a) ph Q X := by
  obtain ⟨-, ge, e1, e2⟩ := id hG
  unfold w_X5_arrivals
  rw [ex_isO e1]
  exact g_read ha hG h
theorem g_countPairs {Q : Int32 → PH → Prop} (hG : Gr ph g st lt E) (h : Q (Int32.ofNat (cpN st lt E)) ph) : w_X5_countPairs (some g) (live st lt E) ph Q X := by
  obtain ⟨⟨-, hst, h2, h3⟩, ge, e1, e2⟩ := id hG
  unfold w_X5_countPairs
  refine ⟨lt + 1, upto0 (P := fun fu a => w_X5_countPairs_4 Q X fu (some g) (live st lt E) (Int32.ofNat (sumN a (fun a => bc (rdL st E (live st lt E) (live st lt E) a)))) (Int32.ofNat a) ph) fun fu a ha ih => ?_⟩
  unfold w_X5_countPairs_4
  rw [ex_gI e1 rfl, on_le (by omega) (by omega)]
  refine ⟨fun h9 => ?_, fun h9 => ?_⟩
  · rw [show a = lt by omega]
    exact h
  refine g_arrivals (by omega) hG (g_bitCount ?_)
  intro v hv
  rw [bc_I, on_add] at hv
  subst hv
  rw [on_succ]
  exact ih (by omega)
theorem g_numberPairs {Q : Option Nat → PH → Prop} (hG : Gr ph g st lt E) (h : ∀ (ph' : PH) (m : Nat), ph m = none → Ext (fun q => q = m) ph ph' → Nm ph' m st lt E → Q (some m) ph') : w_X5_numberPairs (some g) (live st lt E) ph Q X := by
  obtain ⟨⟨-, hst, h2, h3⟩, ge, e1, e2⟩ := id hG
  unfold w_X5_numberPairs
  intro m p0 hm hp0
  subst hp0
  have x1 : g ≠ m := fun h9 => by
    rw [h9, hm] at e1
    cases e1
  have x2 : ge ≠ m := fun h9 => by
    rw [h9, hm] at e2
    cases e2
  refine g_fill hset_same (by decide) (by decide) (fun f0 hf0 => ?_)
  rw [hset_hset]
  have gr : ∀ p : PH, Ext (fun q => q = m) ph p → Gr p g st lt E := fun p hK => ⟨hG.1, ge, hK g _ x1 e1, hK ge _ x2 e2⟩
  refine ⟨lt + 1, (upto0 (P := fun fu a => ∀ (p : PH) (f : Nat → Int32), Ext (fun q => q = m) ph p → p m = some (232, .inr (.int, 72, .inl f)) → (∀ i : Nat, i < 72 → f i = if i % 3 < a ∧ va st lt E i = 1 then 0 else -1) → w_X5_numberPairs_12 Q X fu (some g) (live st lt E) (some m) (Int32.ofNat a) p) fun fu a ha ih => ?_) _ f0 (Ext.set rfl) hset_same (fun i hi => by rw [hf0 i hi, if_neg (by omega)])⟩
  intro p f hK ef hf
  have hG1 := gr p hK
  obtain ⟨-, ge1, e11, e12⟩ := id hG1
  unfold w_X5_numberPairs_12
  rw [ex_gI e11 rfl, on_le (by omega) (by omega)]
  refine ⟨fun h9 => ?_, fun h9 => ?_⟩
  · -- the numbers in their order
    refine ⟨73, (upto0 (n := 72) (P := fun fu2 i => ∀ (p : PH) (f : Nat → Int32), Ext (fun q => q = m) ph p → p m = some (232, .inr (.int, 72, .inl f)) → (∀ j : Nat, j < 72 → f j = if va st lt E j = 1 then (if j < i then Int32.ofNat (rk st lt E j) else 0) else -1) → w_X5_numberPairs_87 Q X fu2 (some m) (Int32.ofNat (rk st lt E i)) (Int32.ofNat i) p) fun fu2 i hi ihi => ?_) p f hK ef (fun j hj => ?_)⟩
    · intro p f hK ef hf
      have hri := rk_le (st := st) (lt := lt) (E := E) i
      unfold w_X5_numberPairs_87
      rw [ex_aL ef, on_le (by omega) (by omega)]
      refine ⟨fun h8 => h p m hm hK ⟨f, ef, fun j hj => ?_⟩, fun h8 => ?_⟩
      · rw [hf j hj, if_pos (show j < i by omega)]
      rw [ex_aI ef (on_in (by omega) (by omega)), on_nat (by omega), hf i (by omega), if_neg (show ¬ i < i by omega), on_succ]
      by_cases hv : va st lt E i = 1
      · rw [if_pos hv]
        refine ⟨fun h7 => absurd h7 (by decide), fun _ => ?_⟩
        rw [ex_sI ef (by decide) (on_in (by omega) (by omega)), on_nat (by omega), on_succ]
        have e9 : rk st lt E (i + 1) = rk st lt E i + 1 := by rw [rk_succ, hv]
        rw [← e9]
        refine ihi (by omega) _ _ (hK.tr (Ext.set rfl)) hset_same (fun j hj => ?_)
        by_cases hji : j = i
        · rw [hji, pk_us, if_pos hv, if_pos (by omega)]
        · rw [pk_un hji, hf j hj]
          by_cases h6 : j < i
          · rw [if_pos h6, if_pos (show j < i + 1 by omega)]
          · rw [if_neg h6, if_neg (show ¬ j < i + 1 by omega)]
      · rw [if_neg hv]
        refine ⟨fun _ => ?_, fun h7 => absurd (by decide) h7⟩
        have e9 : rk st lt E (i + 1) = rk st lt E i := by
          have h1 := va_le (st := st) (lt := lt) (E := E) (i := i)
          rw [rk_succ]
          omega
        rw [← e9]
        refine ihi (by omega) p f hK ef (fun j hj => ?_)
        rw [hf j hj]
        by_cases hvj : va st lt E j = 1
        · rw [if_pos hvj, if_pos hvj]
          have hji : j ≠ i := fun h5 => hv (by rw [← h5]; exact hvj)
          by_cases h6 : j < i
          · rw [if_pos h6, if_pos (by omega)]
          · rw [if_neg h6, if_neg (by omega)]
        · rw [if_neg hvj, if_neg hvj]
    · rw [hf j hj, if_neg (show ¬ j < 0 by omega)]
      by_cases hvj : va st lt E j = 1
      · have h8 : j % 3 < a := by
          have h7 : va st lt E j ≠ 0 := by omega
          unfold va at h7
          by_cases h6 : j % 3 < lt ∧ j / 3 < st
          · omega
          · rw [if_neg h6] at h7
            omega
        rw [if_pos ⟨h8, hvj⟩, if_pos hvj]
      · rw [if_neg (fun h8 => hvj h8.2), if_neg hvj]
  · refine g_arrivals (by omega) hG1 ?_
    refine ⟨st + 1, (upto0 (P := fun fu2 s => ∀ (p : PH) (f : Nat → Int32), Ext (fun q => q = m) ph p → p m = some (232, .inr (.int, 72, .inl f)) → (∀ i : Nat, i < 72 → f i = if (i % 3 < a ∨ i % 3 = a ∧ i / 3 < s) ∧ va st lt E i = 1 then 0 else -1) → w_X5_numberPairs_31 Q X (fun x0 x1 x2 x3 ph => w_X5_numberPairs_12 Q X fu x0 x1 x2 x3 ph) fu2 (some g) (live st lt E) (some m) (Int32.ofNat a) (rdL st E (live st lt E) (live st lt E) a) (Int32.ofNat s) p) fun fu2 s hs ihs => ?_) p f hK ef (fun i hi => ?_)⟩
    · intro p f hK ef hf
      have hG1 := gr p hK
      obtain ⟨-, ge1, e11, e12⟩ := id hG1
      unfold w_X5_numberPairs_31
      rw [ex_gI e11 rfl, on_le (by omega) (by omega)]
      refine ⟨fun h8 => ?_, fun h8 v46 h46 => ?_⟩
      · rw [on_succ]
        refine ih (by omega) p f hK ef (fun i hi => ?_)
        rw [hf i hi]
        by_cases hvi : va st lt E i = 1
        · have h5 : i / 3 < st := by
            have h7 : va st lt E i ≠ 0 := by omega
            unfold va at h7
            by_cases h6 : i % 3 < lt ∧ i / 3 < st
            · exact h6.2
            · rw [if_neg h6] at h7
              omega
          by_cases h4 : i % 3 < a + 1
          · rw [if_pos ⟨by omega, hvi⟩, if_pos ⟨h4, hvi⟩]
          · rw [if_neg (fun h3 => h4 (by omega)), if_neg (fun h3 => h4 h3.1)]
        · rw [if_neg (fun h3 => hvi h3.2), if_neg (fun h3 => hvi h3.2)]
      · rw [on_3] at h46
        subst h46
        have hva := va_iff (st := st) (lt := lt) (E := E) (s := s) (a := a) (by omega)
        have m1 : (3 * s + a) % 3 = a := by omega
        have m2 : (3 * s + a) / 3 = s := by omega
        rw [on_succ]
        refine w_hasBit (fun h7 => ⟨fun h6 => absurd h6 (by decide), fun _ => ?_⟩) (fun h7 => ⟨fun _ => ?_, fun h6 => absurd rfl h6⟩)
        · have hv1 := hva.mpr ⟨by omega, by omega, (hb_bt (by omega)).mp h7⟩
          rw [ex_aL ef, on_le (by omega) (by omega)]
          refine ⟨fun h6 => absurd h6 (by omega), fun _ => ?_⟩
          rw [ex_sI ef (by decide) (on_in (by omega) (by omega)), on_nat (by omega)]
          refine ihs (by omega) _ _ (hK.tr (Ext.set rfl)) hset_same (fun i hi => ?_)
          by_cases hji : i = 3 * s + a
          · rw [hji, pk_us, if_pos ⟨by omega, hv1⟩]
          · rw [pk_un hji, hf i hi]
            by_cases h4 : (i % 3 < a ∨ i % 3 = a ∧ i / 3 < s) ∧ va st lt E i = 1
            · rw [if_pos h4, if_pos ⟨by omega, h4.2⟩]
            · rw [if_neg h4, if_neg (fun h3 => h4 ⟨by omega, h3.2⟩)]
        · have hv0 : ¬ va st lt E (3 * s + a) = 1 := fun h5 => h7 ((hb_bt (by omega)).mpr (hva.mp h5).2.2)
          refine ihs (by omega) p f hK ef (fun i hi => ?_)
          rw [hf i hi]
          by_cases h4 : (i % 3 < a ∨ i % 3 = a ∧ i / 3 < s) ∧ va st lt E i = 1
          · rw [if_pos h4, if_pos ⟨by omega, h4.2⟩]
          · rw [if_neg h4, if_neg (fun h3 => h4 ⟨by
              have h5 : i ≠ 3 * s + a := fun h6 => hv0 (by rw [← h6]; exact h3.2)
              omega, h3.2⟩)]
    · rw [hf i hi]
      by_cases h4 : i % 3 < a ∧ va st lt E i = 1
      · rw [if_pos h4, if_pos ⟨Or.inl h4.1, h4.2⟩]
      · rw [if_neg h4, if_neg (fun h3 => h4 ⟨by omega, h3.2⟩)]
theorem g_numberOf {m s a : Nat} {Q : Int32 → PH → Prop} (hs : s < 24) (ha : a < 3) (hN : Nm ph m st lt E) (h : Q (if va st lt E (3 * s + a) = 1 then Int32.ofNat (rk st lt E (3 * s + a)) else -1) ph) : w_X5_numberOf (some m) (Int32.ofNat s) (Int32.ofNat a) ph Q X := by
  obtain ⟨f, ef, hf⟩ := hN
  unfold w_X5_numberOf
  intro v5 h5
  rw [on_3] at h5
  subst h5
  refine ⟨fun h9 => absurd h9 (on_neg (by omega)), fun _ => ?_⟩
  rw [ex_aL ef, on_le (by omega) (by omega)]
  refine ⟨fun h9 => absurd h9 (by omega), fun _ => ?_⟩
  rw [ex_aI ef (on_in (by omega) (by omega)), on_nat (by omega), hf _ (by omega)]
  exact h
end IMG
