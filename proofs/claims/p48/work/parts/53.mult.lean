/-! tables times one another -/
def sumJ : Nat → (Nat → Int64) → Int64
  | 0, _ => 0
  | n + 1, f => sumJ n f + f n
section MULT
variable {ph : PH} {t ta l la r ra lr lc rr rc r0 c0 : Nat} {f f0 fl fr : Nat → Int64} {X : String → PH → Prop}
theorem g_multiply {Q : PH → Prop} (hT : Tb ph t ta r0 c0 f0) (hl : Tb ph l la lr lc fl) (hr : Tb ph r ra rr rc fr) (n1 : l ≠ t) (n2 : la ≠ ta) (n3 : r ≠ t) (n4 : ra ≠ ta) (h : ∀ (ph' : PH) (f' : Nat → Int64), Fr (two t ta) ph ph' → Tb ph' t ta lr rc f' → (∀ i j : Nat, i < lr → j < rc → tAt lr rc f' i j = sumJ lc (fun m => tAt lr lc fl i m * tAt rr rc fr m j)) → Q ph') : w_X8_multiply t (some l) (some r) ph Q X := by
  obtain ⟨⟨bl1, bl2⟩, l1, l2⟩ := id hl
  obtain ⟨⟨br1, br2⟩, r1, r2⟩ := id hr
  have m1 : ¬ two t ta l := fun h9 => h9.elim n1 (tag_ne l1 hT.2.2 (by decide))
  have m2 : ¬ two t ta la := fun h9 => h9.elim (tag_ne l2 hT.2.1 (by decide)) n2
  have m3 : ¬ two t ta r := fun h9 => h9.elim n3 (tag_ne r1 hT.2.2 (by decide))
  have m4 : ¬ two t ta ra := fun h9 => h9.elim (tag_ne r2 hT.2.1 (by decide)) n4
  unfold w_X8_multiply
  rw [ex_gI l1 rfl, ex_gI r1 rfl, ex_isO hT.2.1]
  refine g_reshape bl1 br2 hT (fun p1 f1 k1 T1 _ => ?_)
  refine ⟨lr + 1, (upto0 (P := fun fu i => ∀ (p : PH) (f : Nat → Int64), Fr (two t ta) ph p → Tb p t ta lr rc f → (∀ k j : Nat, k < i → j < rc → tAt lr rc f k j = sumJ lc (fun m => tAt lr lc fl k m * tAt rr rc fr m j)) → w_X8_multiply_14 Q X fu (some t) (some l) (some r) (Int32.ofNat i) p) fun fu i hi ih => ?_) p1 f1 k1 T1 (fun k j hk => by omega)⟩
  intro p f hK T hd
  unfold w_X8_multiply_14
  rw [ex_gI T.2.1 rfl, on_le (by omega) (by omega)]
  refine ⟨fun h9 => h p f hK T (fun k j hk hj => hd k j (by omega) hj), fun h9 => ?_⟩
  refine ⟨rc + 1, (upto0 (P := fun fu2 j => ∀ (p : PH) (f : Nat → Int64), Fr (two t ta) ph p → Tb p t ta lr rc f → (∀ k l : Nat, k < i → l < rc → tAt lr rc f k l = sumJ lc (fun m => tAt lr lc fl k m * tAt rr rc fr m l)) → (∀ l : Nat, l < j → tAt lr rc f i l = sumJ lc (fun m => tAt lr lc fl i m * tAt rr rc fr m l)) → w_X8_multiply_25 Q X (fun x0 x1 x2 x3 ph => w_X8_multiply_14 Q X fu x0 x1 x2 x3 ph) fu2 (some t) (some l) (some r) (Int32.ofNat i) (Int32.ofNat j) p) fun fu2 j hj ihj => ?_) p f hK T hd (fun l hl => by omega)⟩
  intro p f hK T hd hdj
  unfold w_X8_multiply_25
  rw [ex_gI T.2.1 rfl, on_le (by omega) (by omega)]
  refine ⟨fun h8 => ?_, fun h8 => ?_⟩
  · rw [on_succ]
    refine ih (by omega) p f hK T (fun k l hk hl => ?_)
    by_cases h7 : k = i
    · rw [h7]
      exact hdj l (by omega)
    · exact hd k l (by omega) hl
  · have Tl := hl.fr hK m1 m2
    have Tr := hr.fr hK m3 m4
    refine ⟨lc + 1, upto0 (P := fun fu3 m => w_X8_multiply_40 Q X (fun x0 x1 x2 x3 x4 ph => w_X8_multiply_25 Q X (fun x0 x1 x2 x3 ph => w_X8_multiply_14 Q X fu x0 x1 x2 x3 ph) fu2 x0 x1 x2 x3 x4 ph) fu3 (some t) (some l) (some r) (Int32.ofNat i) (Int32.ofNat j) (sumJ m (fun m => tAt lr lc fl i m * tAt rr rc fr m j)) (Int32.ofNat m) p) fun fu3 m hm ihm => ?_⟩
    unfold w_X8_multiply_40
    rw [ex_gI Tl.2.1 rfl, on_le (by omega) (by omega)]
    refine ⟨fun h7 => ?_, fun h7 => ?_⟩
    · rw [ex_isO T.2.1, show m = lc by omega]
      refine g_write (by omega) (by omega) T (fun p2 k2 T2 => ?_)
      rw [on_succ]
      refine ihj (by omega) p2 _ (hK.tr k2) T2 (fun k l hk hl => ?_) (fun l hl => ?_)
      · rw [tPut_out br2 (by omega)]
        exact hd k l hk hl
      · by_cases h6 : l = j
        · rw [h6, tPut_in (by omega) (by omega)]
        · rw [tPut_out br2 (by omega)]
          exact hdj l (by omega)
    · rw [ex_isO Tl.2.1]
      refine g_at (by omega) (by omega) Tl ?_
      rw [ex_isO Tr.2.1]
      refine g_at (by omega) (by omega) Tr ?_
      intro v hv
      subst hv
      rw [on_succ]
      exact ihm (by omega)
theorem g_diagonalSum {Q : Int64 → PH → Prop} (hT : Tb ph t ta r0 c0 f) (h : Q (sumJ r0 (fun i => tAt r0 c0 f i i)) ph) : w_X8_diagonalSum t ph Q X := by
  have hb := hT.1
  unfold w_X8_diagonalSum
  refine ⟨r0 + 1, upto0 (P := fun fu i => w_X8_diagonalSum_4 Q X fu (some t) (sumJ i (fun i => tAt r0 c0 f i i)) (Int32.ofNat i) ph) fun fu i hi ih => ?_⟩
  unfold w_X8_diagonalSum_4
  rw [ex_gI hT.2.1 rfl, on_le (by omega) (by omega)]
  refine ⟨fun h9 => ?_, fun h9 => ?_⟩
  · rw [show i = r0 by omega]
    exact h
  · rw [ex_isO hT.2.1]
    refine g_at (by omega) (by omega) hT ?_
    intro v hv
    subst hv
    rw [on_succ]
    exact ih (by omega)
theorem g_copyFrom {Q : PH → Prop} (hT : Tb ph t ta r0 c0 f0) (hl : Tb ph l la lr lc fl) (n1 : l ≠ t) (n2 : la ≠ ta) (h : ∀ (ph' : PH) (f' : Nat → Int64), Fr (two t ta) ph ph' → Tb ph' t ta lr lc f' → (∀ i j : Nat, i < lr → j < lc → tAt lr lc f' i j = tAt lr lc fl i j) → Q ph') : w_X8_copyFrom t (some l) ph Q X := by
  obtain ⟨⟨bl1, bl2⟩, l1, l2⟩ := id hl
  have m1 : ¬ two t ta l := fun h9 => h9.elim n1 (tag_ne l1 hT.2.2 (by decide))
  have m2 : ¬ two t ta la := fun h9 => h9.elim (tag_ne l2 hT.2.1 (by decide)) n2
  unfold w_X8_copyFrom
  rw [ex_gI l1 rfl, ex_gI l1 rfl, ex_isO hT.2.1]
  refine g_reshape bl1 bl2 hT (fun p1 f1 k1 T1 _ => ?_)
  refine ⟨lr + 1, (upto0 (P := fun fu i => ∀ (p : PH) (f : Nat → Int64), Fr (two t ta) ph p → Tb p t ta lr lc f → (∀ k j : Nat, k < i → j < lc → tAt lr lc f k j = tAt lr lc fl k j) → w_X8_copyFrom_14 Q X fu (some t) (some l) (Int32.ofNat i) p) fun fu i hi ih => ?_) p1 f1 k1 T1 (fun k j hk => by omega)⟩
  intro p f hK T hd
  unfold w_X8_copyFrom_14
  rw [ex_gI T.2.1 rfl, on_le (by omega) (by omega)]
  refine ⟨fun h9 => h p f hK T (fun k j hk hj => hd k j (by omega) hj), fun h9 => ?_⟩
  refine ⟨lc + 1, (upto0 (P := fun fu2 j => ∀ (p : PH) (f : Nat → Int64), Fr (two t ta) ph p → Tb p t ta lr lc f → (∀ k l : Nat, k < i → l < lc → tAt lr lc f k l = tAt lr lc fl k l) → (∀ l : Nat, l < j → tAt lr lc f i l = tAt lr lc fl i l) → w_X8_copyFrom_24 Q X (fun x0 x1 x2 ph => w_X8_copyFrom_14 Q X fu x0 x1 x2 ph) fu2 (some t) (some l) (Int32.ofNat i) (Int32.ofNat j) p) fun fu2 j hj ihj => ?_) p f hK T hd (fun l hl => by omega)⟩
  intro p f hK T hd hdj
  unfold w_X8_copyFrom_24
  rw [ex_gI T.2.1 rfl, on_le (by omega) (by omega)]
  refine ⟨fun h8 => ?_, fun h8 => ?_⟩
  · rw [on_succ]
    refine ih (by omega) p f hK T (fun k l hk hl => ?_)
    by_cases h7 : k = i
    · rw [h7]
      exact hdj l (by omega)
    · exact hd k l (by omega) hl
  · have Tl := hl.fr hK m1 m2
    rw [ex_isO Tl.2.1]
    refine g_at (by omega) (by omega) Tl ?_
    rw [ex_isO T.2.1]
    refine g_write (by omega) (by omega) T (fun p2 k2 T2 => ?_)
    rw [on_succ]
    refine ihj (by omega) p2 _ (hK.tr k2) T2 (fun k l hk hl => ?_) (fun l hl => ?_)
    · rw [tPut_out bl2 (by omega)]
      exact hd k l hk hl
    · by_cases h6 : l = j
      · rw [h6, tPut_in (by omega) (by omega)]
      · rw [tPut_out bl2 (by omega)]
        exact hdj l (by omega)
end MULT
/-! the powers of a square table -/
def pwr (n : Nat) (M : Nat → Nat → Int64) : Nat → Nat → Nat → Int64
  | 0 => M
  | k + 1 => fun i j => sumJ n (fun m => pwr n M k i m * M m j)
def tr (n : Nat) (M : Nat → Nat → Int64) : Int64 := sumJ n (fun i => M i i)
theorem sumJ_eq {n : Nat} {f g : Nat → Int64} (h : ∀ i : Nat, i < n → f i = g i) : sumJ n f = sumJ n g := by
  induction n with
  | zero => rfl
  | succ n ih =>
    show sumJ n f + f n = sumJ n g + g n
    rw [ih fun i hi => h i (by omega), h n (by omega)]
def Alg (ph : PH) (al t0 t1 : Nat) (rs : List Value) : Prop := ph al = some (103, .inl (3, .ref t0 :: .ref t1 :: rs))
def four (a b c d : Nat) : Nat → Prop := fun q => q = a ∨ q = b ∨ q = c ∨ q = d
section POWER
variable {ph : PH} {al t0 a0 t1 a1 l la n r0 c0 r1 c1 : Nat} {f0 f1 fl : Nat → Int64} {rs : List Value} {X : String → PH → Prop}
theorem g_powerOf {k : Nat} {Q : Option Nat → PH → Prop} (hk : k < 100) (hA : Alg ph al t0 t1 rs) (hT0 : Tb ph t0 a0 r0 c0 f0) (hT1 : Tb ph t1 a1 r1 c1 f1) (hl : Tb ph l la n n fl) (n0 : t0 ≠ t1) (n1 : a0 ≠ a1) (n2 : l ≠ t0) (n3 : la ≠ a0) (n4 : l ≠ t1) (n5 : la ≠ a1) (h : ∀ (ph' : PH) (t ta : Nat) (f' : Nat → Int64), Fr (four t0 a0 t1 a1) ph ph' → (∃ (r c : Nat) (f : Nat → Int64), Tb ph' t0 a0 r c f) → (∃ (r c : Nat) (f : Nat → Int64), Tb ph' t1 a1 r c f) → Tb ph' t ta n n f' → (∀ i j : Nat, i < n → j < n → tAt n n f' i j = pwr n (tAt n n fl) k i j) → Q (some t) ph') : w_X0_powerOf al (some l) (Int32.ofNat (k + 1)) ph Q X := by
  have q1 : ∀ q : Nat, two t0 a0 q → four t0 a0 t1 a1 q := fun q h9 => h9.elim Or.inl (fun h8 => Or.inr (Or.inl h8))
  have q2 : ∀ q : Nat, two t1 a1 q → four t0 a0 t1 a1 q := fun q h9 => h9.elim (fun h8 => Or.inr (Or.inr (Or.inl h8))) (fun h8 => Or.inr (Or.inr (Or.inr h8)))
  have l1 : ¬ four t0 a0 t1 a1 l := fun h9 => by
    rcases h9 with h9 | h9 | h9 | h9
    · exact n2 h9
    · exact tag_ne hl.2.1 hT0.2.2 (by decide) h9
    · exact n4 h9
    · exact tag_ne hl.2.1 hT1.2.2 (by decide) h9
  have l2 : ¬ four t0 a0 t1 a1 la := fun h9 => by
    rcases h9 with h9 | h9 | h9 | h9
    · exact tag_ne hl.2.2 hT0.2.1 (by decide) h9
    · exact n3 h9
    · exact tag_ne hl.2.2 hT1.2.1 (by decide) h9
    · exact n5 h9
  have d1 : ¬ two t0 a0 t1 := fun h9 => h9.elim (fun h8 => n0 h8.symm) (tag_ne hT1.2.1 hT0.2.2 (by decide))
  have d2 : ¬ two t0 a0 a1 := fun h9 => h9.elim (tag_ne hT1.2.2 hT0.2.1 (by decide)) (fun h8 => n1 h8.symm)
  have d3 : ¬ two t1 a1 t0 := fun h9 => h9.elim n0 (tag_ne hT0.2.1 hT1.2.2 (by decide))
  have d4 : ¬ two t1 a1 a0 := fun h9 => h9.elim (tag_ne hT0.2.2 hT1.2.1 (by decide)) n1
  unfold w_X0_powerOf
  rw [ex_gR hA (v0 := some t0) rfl, ex_gR hA (v0 := some t1) rfl, ex_isO hT0.2.1]
  refine g_copyFrom hT0 hl n2 n3 (fun p1 f1' k1 T1 hc => ?_)
  -- the round i has the power i - 1 in one of the two
  have key := upfrom (n := k + 1) (s := 1) (P := fun fu i => ∀ (p : PH) (x xa y ya ry cy : Nat) (fx fy : Nat → Int64), (x = t0 ∧ xa = a0 ∧ y = t1 ∧ ya = a1 ∨ x = t1 ∧ xa = a1 ∧ y = t0 ∧ ya = a0) → Fr (four t0 a0 t1 a1) ph p → Tb p x xa n n fx → Tb p y ya ry cy fy → (∀ a b : Nat, a < n → b < n → tAt n n fx a b = pwr n (tAt n n fl) (i - 1) a b) → w_X0_powerOf_19 Q X fu (some l) (Int32.ofNat (k + 1)) (some x) (some y) (Int32.ofNat i) p)  (by omega) (fun fu i hs1 hi ih => by
    intro p x xa y ya ry cy fx fy hxy hK Tx Ty hp
    unfold w_X0_powerOf_19
    rw [on_le (by omega) (by omega)]
    refine ⟨fun h9 => ?_, fun h9 => ?_⟩
    · rw [show i - 1 = k by omega] at hp
      rcases hxy with ⟨rfl, rfl, rfl, rfl⟩ | ⟨rfl, rfl, rfl, rfl⟩
      · exact h p _ _ fx hK ⟨n, n, fx, Tx⟩ ⟨ry, cy, fy, Ty⟩ Tx hp
      · exact h p _ _ fx hK ⟨ry, cy, fy, Ty⟩ ⟨n, n, fx, Tx⟩ Tx hp
    · have Tl := hl.fr hK l1 l2
      have dist : x ≠ y ∧ xa ≠ ya ∧ l ≠ y ∧ la ≠ ya ∧ ¬ two y ya x ∧ ¬ two y ya xa ∧ (∀ q : Nat, two y ya q → four t0 a0 t1 a1 q) := by
        rcases hxy with ⟨rfl, rfl, rfl, rfl⟩ | ⟨rfl, rfl, rfl, rfl⟩
        · exact ⟨n0, n1, n4, n5, d3, d4, q2⟩
        · exact ⟨n0.symm, n1.symm, n2, n3, d1, d2, q1⟩
      obtain ⟨x1, x2, x3, x4, x5, x6, x7⟩ := dist
      rw [ex_isO Ty.2.1]
      refine g_multiply Ty Tx Tl x1 x2 x3 x4 (fun p2 f2 k2 T2 hm => ?_)
      rw [on_succ]
      refine ih (by omega) p2 y ya x xa n n f2 fx ?_ (hK.tr (k2.mono x7)) T2 (Tx.fr k2 x5 x6) (fun a b ha hb => ?_)
      · rcases hxy with ⟨rfl, rfl, rfl, rfl⟩ | ⟨rfl, rfl, rfl, rfl⟩
        · exact Or.inr ⟨rfl, rfl, rfl, rfl⟩
        · exact Or.inl ⟨rfl, rfl, rfl, rfl⟩
      · rw [hm a b ha hb]
        rw [show i + 1 - 1 = (i - 1) + 1 by omega]
        exact sumJ_eq fun m hm2 => by rw [hp a m ha hm2]) p1 t0 a0 t1 a1 r1 c1 f1' f1 (Or.inl ⟨rfl, rfl, rfl, rfl⟩) (k1.mono q1) T1 (hT1.fr k1 d1 d2) hc
  exact ⟨_, key⟩
end POWER
