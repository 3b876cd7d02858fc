/-! a table is split -/
def Zr (r c : Nat) (f : Nat → Int64) : Prop := ∀ i j : Nat, i < 12 → j < 12 → ¬ (i < r ∧ j < c) → f (12 * i + j) = 0
theorem Zr.put {r c i j : Nat} {f : Nat → Int64} {v : Int64} (hc : c ≤ 12) (h : Zr r c f) : Zr r c (tPut r c f i j v) := by
  intro k l hk hl h9
  unfold tPut
  by_cases h1 : i < r ∧ j < c
  · rw [if_pos h1, vl_n (by omega)]
    exact h k l hk hl h9
  · rw [if_neg h1]
    exact h k l hk hl h9
/-- the rows of a table, the row r of which is parted at column c -/
def EE (n : Nat) (a : Nat → Nat → Int64) (r c : Nat) (v : Int64) (k j : Nat) : Int64 := if k = n then (if j = c then a r c - v else 0) else if k = r ∧ j = c then v else a k j
def BB (n : Nat) (a : Nat → Nat → Int64) (r c : Nat) (v : Int64) (k j : Nat) : Int64 := if j = n then EE n a r c v k r else EE n a r c v k j
section SPLIT
variable {ph : PH} {t ta n : Nat} {f : Nat → Int64} {X : String → PH → Prop}
theorem sumJ_delta {g : Nat → Int64} {i : Nat} : ∀ n : Nat, i < n → sumJ n (fun k => (if k = i then 1 else 0) * g k) = g i := by
  intro n
  induction n with
  | zero => intro h; omega
  | succ n ih =>
    intro h
    show sumJ n (fun k => (if k = i then 1 else 0) * g k) + (if n = i then 1 else 0) * g n = g i
    by_cases h9 : n = i
    · subst h9
      rw [if_pos rfl, sumJ_eq (g := fun _ => 0) (fun k hk => by rw [if_neg (by omega)]; exact Int64.zero_mul), sumJ_zero, Int64.one_mul, Int64.zero_add]
    · rw [if_neg h9, ih (by omega), Int64.zero_mul, Int64.add_zero]
theorem tr_split {a : Nat → Nat → Int64} {r c : Nat} {v : Int64} (hr : r < n) (hc : c < n) : tr (n + 1) (pwr (n + 1) (BB n a r c v) 2) = tr n (pwr n a 2) := by
  have h := tr3 (n := n) (m := n + 1) (R := fun i k => if k = n then (if i = r then 1 else 0) else (if k = i then 1 else 0)) (S := fun k j => EE n a r c v k j)
  have eA : ∀ i j : Nat, i < n → j < n → sumJ (n + 1) (fun k => (if k = n then (if i = r then 1 else 0) else (if k = i then 1 else 0)) * EE n a r c v k j) = a i j := by
    intro i j hi hj
    show sumJ n (fun k => (if k = n then (if i = r then 1 else 0) else (if k = i then 1 else 0)) * EE n a r c v k j) + (if n = n then (if i = r then 1 else 0) else (if n = i then 1 else 0)) * EE n a r c v n j = a i j
    rw [if_pos rfl, sumJ_eq (g := fun k => (if k = i then 1 else 0) * EE n a r c v k j) (fun k hk => by rw [if_neg (show ¬ k = n by omega)]), sumJ_delta n hi]
    unfold EE
    rw [if_neg (show ¬ i = n by omega), if_pos rfl]
    by_cases h1 : i = r
    · rw [if_pos h1]
      by_cases h2 : j = c
      · rw [if_pos ⟨h1, h2⟩, if_pos h2, Int64.one_mul, h1, h2, Int64.add_comm, Int64.sub_add_cancel]
      · rw [if_neg (fun h3 => h2 h3.2), if_neg h2, Int64.mul_zero, Int64.add_zero]
    · rw [if_neg h1, if_neg (fun h3 => h1 h3.1), Int64.zero_mul, Int64.add_zero]
  have eB : ∀ k j : Nat, k < n + 1 → j < n + 1 → sumJ n (fun i => EE n a r c v k i * (if j = n then (if i = r then 1 else 0) else (if j = i then 1 else 0))) = BB n a r c v k j := by
    intro k j hk hj
    unfold BB
    by_cases h1 : j = n
    · rw [if_pos h1, sumJ_eq (g := fun i => (if i = r then 1 else 0) * EE n a r c v k i) (fun i hi => by rw [if_pos h1, Int64.mul_comm]), sumJ_delta n hr]
    · rw [if_neg h1, sumJ_eq (g := fun i => (if i = j then 1 else 0) * EE n a r c v k i) (fun i hi => by
        rw [if_neg h1, Int64.mul_comm]
        by_cases h2 : j = i
        · rw [if_pos h2, if_pos h2.symm]
        · rw [if_neg h2, if_neg (fun h3 => h2 h3.symm)]), sumJ_delta n (by omega)]
  have h1 := sumJ_eq (n := n) (fun i hi => pwr_eq (N := a) eA 2 i i hi hi)
  have h2 := sumJ_eq (n := n + 1) (fun i hi => pwr_eq (N := BB n a r c v) eB 2 i i hi hi)
  exact h2.symm.trans (h.symm.trans h1)
theorem g_splitAt {r c : Nat} {v : Int64} {Q : PH → Prop} (hn : n ≤ 8) (hr : r < n) (hc : c < n) (hT : Tb ph t ta n n f) (hZ : Zr n n f) (h : ∀ (ph' : PH) (f' : Nat → Int64), Fr (two t ta) ph ph' → Tb ph' t ta (n + 1) (n + 1) f' → Zr (n + 1) (n + 1) f' → (∀ k j : Nat, k < n + 1 → j < n + 1 → tAt (n + 1) (n + 1) f' k j = BB n (tAt n n f) r c v k j) → Q ph') : w_X8_splitAt t (Int32.ofNat r) (Int32.ofNat c) v ph Q X := by
  obtain ⟨⟨b1, b2⟩, e1, e2⟩ := id hT
  unfold w_X8_splitAt
  rw [ex_gI e1 rfl, ex_isO e1]
  refine g_at (by omega) (by omega) hT ?_
  intro v14 h14
  subst h14
  rw [ex_gI e1 rfl, on_succ, ex_pW (fs' := [.int (Int32.ofNat (n + 1)), .int (Int32.ofNat n), .ref ta]) e1 (by decide) (show 0 < 3 by decide) rfl, ex_gI hset_same rfl, on_succ, ex_pW (fs' := [.int (Int32.ofNat (n + 1)), .int (Int32.ofNat (n + 1)), .ref ta]) hset_same (by decide) (show 1 < 3 by decide) rfl, hset_hset]
  have k1 : Fr (two t ta) ph (hset ph t (109, .inl (9, [.int (Int32.ofNat (n + 1)), .int (Int32.ofNat (n + 1)), .ref ta]))) := Fr.set (Or.inl rfl)
  have T1 : Tb (hset ph t (109, .inl (9, [.int (Int32.ofNat (n + 1)), .int (Int32.ofNat (n + 1)), .ref ta]))) t ta (n + 1) (n + 1) f := ⟨⟨by omega, by omega⟩, hset_same, hset_at hT.ne.symm e2⟩
  have Z1 : Zr (n + 1) (n + 1) f := fun i j hi hj h9 => hZ i j hi hj (by omega)
  have A1 : ∀ k j : Nat, k < n + 1 → j < n + 1 → tAt (n + 1) (n + 1) f k j = tAt n n f k j := by
    intro k j hk hj
    unfold tAt
    rw [if_pos ⟨hk, hj⟩]
    by_cases h9 : k < n ∧ j < n
    · rw [if_pos h9]
    · rw [if_neg h9]
      exact hZ k j (by omega) (by omega) h9
  generalize hset ph t (109, .inl (9, [.int (Int32.ofNat (n + 1)), .int (Int32.ofNat (n + 1)), .ref ta])) = p1 at k1 T1 ⊢
  rw [ex_isO T1.2.1]
  refine g_write (by omega) (by omega) T1 (fun p2 k2 T2 => ?_)
  rw [ex_isO T2.2.1]
  refine g_write (by omega) (by omega) T2 (fun p3 k3 T3 => ?_)
  have Z3 := (Z1.put (i := r) (j := c) (v := v) (by omega)).put (i := n) (j := c) (v := tAt n n f r c - v) (by omega)
  have A3 : ∀ k j : Nat, k < n + 1 → j < n + 1 → tAt (n + 1) (n + 1) (tPut (n + 1) (n + 1) (tPut (n + 1) (n + 1) f r c v) n c (tAt n n f r c - v)) k j = EE n (tAt n n f) r c v k j := by
    intro k j hk hj
    unfold EE
    by_cases h1 : k = n
    · rw [if_pos h1]
      by_cases h2 : j = c
      · rw [if_pos h2, h1, h2, tPut_in (by omega) (by omega)]
      · rw [if_neg h2, tPut_out (by omega) (by omega), tPut_out (by omega) (by omega), A1 k j hk hj]
        exact if_neg (by omega)
    · rw [if_neg h1, tPut_out (by omega) (by omega)]
      by_cases h2 : k = r ∧ j = c
      · rw [if_pos h2, h2.1, h2.2, tPut_in (by omega) (by omega)]
      · rw [if_neg h2, tPut_out (by omega) h2, A1 k j hk hj]
  generalize tPut (n + 1) (n + 1) (tPut (n + 1) (n + 1) f r c v) n c (tAt n n f r c - v) = f3 at T3 Z3 A3 ⊢
  have E0 : ∀ k : Nat, EE n (tAt n n f) r c v k n = 0 := by
    intro k
    unfold EE
    by_cases h1 : k = n
    · rw [if_pos h1, if_neg (by omega)]
    · rw [if_neg h1, if_neg (by omega)]
      exact if_neg (by omega)
  refine ⟨n + 1 + 1, (upto0 (P := fun fu i => ∀ (p : PH) (f' : Nat → Int64), Fr (two t ta) ph p → Tb p t ta (n + 1) (n + 1) f' → Zr (n + 1) (n + 1) f' → (∀ k j : Nat, k < n + 1 → j < n + 1 → tAt (n + 1) (n + 1) f' k j = if k < i then BB n (tAt n n f) r c v k j else EE n (tAt n n f) r c v k j) → w_X8_splitAt_55 Q X fu (some t) (Int32.ofNat r) (Int32.ofNat n) (Int32.ofNat i) p) fun fu i hi ih => ?_) p3 f3 ((k1.tr k2).tr k3) T3 Z3 (fun k j hk hj => by rw [if_neg (by omega)]; exact A3 k j hk hj)⟩
  intro p f' hK T Z hA
  unfold w_X8_splitAt_55
  rw [ex_gI T.2.1 rfl, on_le (by omega) (by omega)]
  refine ⟨fun h9 => h p f' hK T Z (fun k j hk hj => by rw [hA k j hk hj, if_pos (by omega)]), fun h9 => ?_⟩
  rw [ex_isO T.2.1]
  refine g_at (by omega) (by omega) T ?_
  rw [ex_isO T.2.1, hA i r (by omega) (by omega), if_neg (by omega)]
  refine g_write (by omega) (by omega) T (fun p4 k4 T4 => ?_)
  rw [on_succ]
  refine ih (by omega) p4 _ (hK.tr k4) T4 (Z.put (by omega)) (fun k j hk hj => ?_)
  by_cases h1 : k = i ∧ j = n
  · rw [h1.1, h1.2, tPut_in (by omega) (by omega), if_pos (by omega)]
    exact (if_pos rfl).symm
  · rw [tPut_out (by omega) h1, hA k j hk hj]
    by_cases h2 : k < i
    · rw [if_pos h2, if_pos (by omega)]
    · rw [if_neg h2]
      by_cases h3 : k < i + 1
      · rw [if_pos h3]
        exact (if_neg (by omega)).symm
      · rw [if_neg h3]
end SPLIT
