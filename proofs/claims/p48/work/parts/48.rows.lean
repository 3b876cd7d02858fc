/-! rows of letters, and points -/
def rrd (st : Nat) (E : Nat → Int32) (L : Int32) (dg : Nat → Nat) : Nat → Int32 → Int32
  | 0, S => S
  | k + 1, S => rdL st E L (rrd st E L dg k S) (dg k)
def dgs (lt t i : Nat) : Nat := t / lt ^ i % lt
section ROWS
variable {st lt : Nat} {E : Nat → Int32} {L : Int32} {dg : Nat → Nat}
theorem rrd_zero {S : Int32} {i : Nat} (hst : st ≤ 24) (h : rrd st E L dg i S = 0) : ∀ d : Nat, rrd st E L dg (i + d) S = 0 := by
  intro d
  induction d with
  | zero => exact h
  | succ d ih =>
    show rdL st E L (rrd st E L dg (i + d) S) (dg (i + d)) = 0
    rw [ih, rdL_zero hst]
theorem rrd_0 (hst : st ≤ 24) (n : Nat) : rrd st E L dg n 0 = 0 := by
  have h := rrd_zero (E := E) (L := L) (dg := dg) (S := 0) (i := 0) hst rfl n
  rw [Nat.zero_add] at h
  exact h
theorem rrd_first {S : Int32} : ∀ n : Nat, rrd st E L dg (n + 1) S = rrd st E L (fun i => dg (i + 1)) n (rdL st E L S (dg 0)) := by
  intro n
  induction n with
  | zero => rfl
  | succ n ih =>
    show rdL st E L (rrd st E L dg (n + 1) S) (dg (n + 1)) = rdL st E L (rrd st E L (fun i => dg (i + 1)) n (rdL st E L S (dg 0))) (dg (n + 1))
    rw [ih]
theorem rrd_mono {S T : Int32} (hst : st ≤ 24) (h : sub S T) : ∀ n : Nat, sub (rrd st E L dg n S) (rrd st E L dg n T) := by
  intro n
  induction n with
  | zero => exact h
  | succ n ih => exact rdL_mono hst ih
theorem rrd_sub {S : Int32} {n : Nat} (hn : 0 < n) : sub (rrd st E L dg n S) L := by
  obtain ⟨k, rfl⟩ : ∃ k, n = k + 1 := ⟨n - 1, by omega⟩
  exact rdL_sub
theorem dgs_lt {t i : Nat} (h : 0 < lt) : dgs lt t i < lt := Nat.mod_lt _ h
/-! one row after another -/
theorem pow_div {t i : Nat} : t / lt ^ (i + 1) = t / lt ^ i / lt := by
  rw [Nat.pow_succ, Nat.div_div_eq_div_mul]
theorem div_up {x : Nat} (h2 : 2 ≤ lt) (h3 : lt ≤ 3) (h : x % lt + 1 < lt) : (x + 1) % lt = x % lt + 1 ∧ (x + 1) / lt = x / lt := by
  have h4 : lt = 2 ∨ lt = 3 := by omega
  rcases h4 with rfl | rfl <;> omega
theorem div_carry {x : Nat} (h2 : 2 ≤ lt) (h3 : lt ≤ 3) (h : ¬ x % lt + 1 < lt) : (x + 1) % lt = 0 ∧ (x + 1) / lt = x / lt + 1 := by
  have h4 : lt = 2 ∨ lt = 3 := by omega
  rcases h4 with rfl | rfl <;> omega
theorem div_same {t i : Nat} (h : (t + 1) / lt ^ i = t / lt ^ i) : ∀ d : Nat, (t + 1) / lt ^ (i + d) = t / lt ^ (i + d) := by
  intro d
  induction d with
  | zero => exact h
  | succ d ih =>
    rw [show i + (d + 1) = (i + d) + 1 by omega, pow_div, pow_div, ih]
end ROWS
def Row (ph : PH) (r ar lt n t : Nat) : Prop := ∃ f : Nat → Int32, ph ar = some (209, .inr (.int, 7, .inl f)) ∧ ∀ i : Nat, i < n → f i = Int32.ofNat (dgs lt t i)
def RdO (ph : PH) (r : Nat) (A : Nat → Nat) : Prop := ph r = some (107, .inl (7, [.ref (A 0), .ref (A 1), .ref (A 2), .ref (A 3), .ref (A 4), .ref (A 5), .ref (A 6), .ref (A 7), .ref (A 8), .ref (A 9), .ref (A 10)]))
def TR : Nat → Bool := fun t => t == 209
section POINTS
variable {ph : PH} {g st lt r n : Nat} {A : Nat → Nat} {E : Nat → Int32} {L : Int32} {X : String → PH → Prop}
theorem g_readRow {t : Nat} {S : Int32} {Q : Int32 → PH → Prop} (hn : n ≤ 7) (hr : RdO ph r A) (hG : Gr ph g st lt E) (hR : Row ph r (A 3) lt n t) (h : Q (rrd st E L (dgs lt t) n S) ph) : w_X6_readRow r (some g) L S (Int32.ofNat n) ph Q X := by
  have hst := hG.1.2.1
  have hlt := hG.1.2.2.1
  obtain ⟨f, ef, hf⟩ := hR
  obtain ⟨-, ge, e1, e2⟩ := id hG
  unfold w_X6_readRow
  refine ⟨n + 1, upto0 (P := fun fu i => w_X6_readRow_6 Q X fu (some r) (some g) L (Int32.ofNat n) (rrd st E L (dgs lt t) i S) (Int32.ofNat i) ph) fun fu i hi ih => ?_⟩
  unfold w_X6_readRow_6
  rw [on_le (by omega) (by omega)]
  refine ⟨fun h9 => ?_, fun h9 => ?_⟩
  · rw [show i = n by omega]
    exact h
  · rw [ex_gR hr (v0 := some (A 3)) rfl, ex_aL ef, on_le (by omega) (by omega)]
    refine ⟨fun h8 => absurd h8 (by omega), fun _ => ⟨fun h8 => ?_, fun h8 => ?_⟩⟩
    · have h7 := rrd_zero hst h8 (n - i)
      rw [show i + (n - i) = n by omega] at h7
      rw [h8, ← h7]
      exact h
    · rw [ex_gR hr (v0 := some (A 3)) rfl, ex_aI ef (on_in (by omega) (by omega)), on_nat (by omega), hf i (by omega), ex_isO e1]
      refine g_read (dgs_lt (by omega)) hG ?_
      intro v hv
      subst hv
      rw [on_succ]
      exact ih (by omega)
theorem g_isPoint {t : Nat} {Q : Int32 → PH → Prop} (hn : n ≤ 7) (hr : RdO ph r A) (hG : Gr ph g st lt E) (hR : Row ph r (A 3) lt n t) (h1 : ¬ itr (rrd st E L (dgs lt t) n) 24 L = 0 → Q 1 ph) (h0 : itr (rrd st E L (dgs lt t) n) 24 L = 0 → Q 0 ph) : w_X6_isPoint r (some g) L (Int32.ofNat n) ph Q X := by
  have hst := hG.1.2.1
  have hz : ∀ k : Nat, itr (rrd st E L (dgs lt t) n) k 0 = 0 := itr_stay (rrd_0 hst n)
  unfold w_X6_isPoint
  refine ⟨25, (upto0 (n := 24) (P := fun fu i => ∀ S : Int32, itr (rrd st E L (dgs lt t) n) (24 - i) S = itr (rrd st E L (dgs lt t) n) 24 L → w_X6_isPoint_6 Q X fu (some r) (some g) L (Int32.ofNat n) S (Int32.ofNat i) ph) fun fu i hi ih => ?_) L rfl⟩
  intro S hS
  have fin : itr (rrd st E L (dgs lt t) n) 24 L = S → w_X6_isPoint_49 Q X S ph := by
    intro h9
    unfold w_X6_isPoint_49
    refine ⟨fun h8 => ⟨rfl, h0 (h9.trans h8)⟩, fun h8 => ⟨rfl, h1 fun h7 => h8 (h9.symm.trans h7)⟩⟩
  have hs0 : S = 0 → itr (rrd st E L (dgs lt t) n) 24 L = S := by
    intro h9
    rw [← hS, h9, hz]
  unfold w_X6_isPoint_6
  rw [show (24 : Int32) = Int32.ofNat 24 from rfl, on_le (by omega) (by omega)]
  refine ⟨fun h9 => ?_, fun h9 => ⟨fun h8 => fin (hs0 h8), fun h8 => ?_⟩⟩
  · refine fin ?_
    rw [← hS, show i = 24 by omega]
    rfl
  · rw [ex_isO hr]
    refine g_readRow hn hr hG hR ⟨fun h7 => ?_, fun h7 => fin ?_⟩
    · rw [on_succ]
      refine ih (by omega) _ ?_
      rw [← hS, show 24 - i = (24 - (i + 1)) + 1 by omega]
      rfl
    · rw [← hS]
      exact itr_stay h7 _
theorem g_isAdvanced {t : Nat} {Q : Int32 → PH → Prop} (hn : n ≤ 7) (h2 : 2 ≤ lt) (h3 : lt ≤ 3) (hr : RdO ph r A) (hR : Row ph r (A 3) lt n t) (h1 : ∀ ph' : PH, Keep TR ph ph' → (t + 1) / lt ^ n = t / lt ^ n → Row ph' r (A 3) lt n (t + 1) → Q 1 ph') (h0 : ∀ ph' : PH, Keep TR ph ph' → (t + 1) / lt ^ n = t / lt ^ n + 1 → Q 0 ph') : w_X6_isAdvanced r (Int32.ofNat lt) (Int32.ofNat n) ph Q X := by
  obtain ⟨f0, ef0, hf0⟩ := hR
  unfold w_X6_isAdvanced
  refine ⟨n + 1, (upto0 (P := fun fu i => ∀ (p : PH) (f : Nat → Int32), Keep TR ph p → p (A 3) = some (209, .inr (.int, 7, .inl f)) → (t + 1) / lt ^ i = t / lt ^ i + 1 → (∀ j : Nat, j < i → f j = Int32.ofNat (dgs lt (t + 1) j)) → (∀ j : Nat, i ≤ j → j < n → f j = Int32.ofNat (dgs lt t j)) → w_X6_isAdvanced_2 Q X fu (some r) (Int32.ofNat lt) (Int32.ofNat n) (Int32.ofNat i) p) fun fu i hi ih => ?_) ph f0 (Keep.rf ph) ef0 (by rw [Nat.pow_zero, Nat.div_one, Nat.div_one]) (fun j hj => by omega) (fun j _ hj => hf0 j hj)⟩
  intro p f hK ef hd ha hb
  have hr' : RdO p r A := hK.obj hr
  unfold w_X6_isAdvanced_2
  rw [on_le (by omega) (by omega)]
  refine ⟨fun h9 => ⟨rfl, h0 p hK ?_⟩, fun h9 => ?_⟩
  · rw [show n = i by omega]
    exact hd
  rw [ex_gR hr' (v0 := some (A 3)) rfl, ex_aL ef, on_le (by omega) (by omega)]
  refine ⟨fun h8 => absurd h8 (by omega), fun _ => ?_⟩
  have hlt : dgs lt t i < lt := dgs_lt (by omega)
  rw [ex_gR hr' (v0 := some (A 3)) rfl, ex_aI ef (on_in (by omega) (by omega)), on_nat (by omega), hb i (Nat.le_refl _) (by omega), on_succ, on_le (by omega) (by omega)]
  refine ⟨fun h8 => ?_, fun h8 => ?_⟩
  · obtain ⟨c1, c2⟩ := div_carry (x := t / lt ^ i) h2 h3 (show ¬ dgs lt t i + 1 < lt by omega)
    rw [ex_gR hr' (v0 := some (A 3)) rfl, ex_sI ef (by decide) (on_in (by omega) (by omega)), on_nat (by omega), on_succ]
    refine ih (by omega) _ _ (hK.tr (Keep.setI ef rfl)) hset_same ?_ (fun j hj => ?_) (fun j hj hj2 => ?_)
    · rw [pow_div, pow_div, hd, c2]
    · by_cases h7 : j = i
      · rw [h7, pk_us]
        show (0 : Int32) = Int32.ofNat ((t + 1) / lt ^ i % lt)
        rw [hd, c1]
        rfl
      · rw [pk_un h7]
        exact ha j (by omega)
    · rw [pk_un (by omega)]
      exact hb j (by omega) hj2
  · obtain ⟨c1, c2⟩ := div_up (x := t / lt ^ i) h2 h3 (show dgs lt t i + 1 < lt by omega)
    rw [ex_gR hr' (v0 := some (A 3)) rfl, ex_aI ef (on_in (by omega) (by omega)), ex_sI ef (by decide) (on_in (by omega) (by omega)), on_nat (by omega), hb i (Nat.le_refl _) (by omega)]
    have c3 : (t + 1) / lt ^ (i + 1) = t / lt ^ (i + 1) := by rw [pow_div, pow_div, hd, c2]
    refine ⟨rfl, h1 _ (hK.tr (Keep.setI ef rfl)) ?_ ⟨_, hset_same, fun j hj => ?_⟩⟩
    · have c4 := div_same c3 (n - (i + 1))
      rw [show i + 1 + (n - (i + 1)) = n by omega] at c4
      exact c4
    · by_cases h7 : j = i
      · rw [h7, pk_us, on_succ]
        show Int32.ofNat (dgs lt t i + 1) = Int32.ofNat ((t + 1) / lt ^ i % lt)
        rw [hd, c1]
        rfl
      · rw [pk_un h7]
        by_cases h6 : j < i
        · exact ha j h6
        · rw [hb j (by omega) hj]
          have c4 := div_same c3 (j - (i + 1))
          rw [show i + 1 + (j - (i + 1)) = j by omega] at c4
          show Int32.ofNat (t / lt ^ j % lt) = Int32.ofNat ((t + 1) / lt ^ j % lt)
          rw [c4]
/-- how many rows are points -/
def pts (st lt : Nat) (E : Nat → Int32) (L : Int32) (n m : Nat) : Nat := sumN m (fun t => if itr (rrd st E L (dgs lt t) n) 24 L = 0 then 0 else 1)
theorem pts_le {m : Nat} : pts st lt E L n m ≤ m := by
  have h := sumN_le (n := m) (B := 1) (f := fun t => if itr (rrd st E L (dgs lt t) n) 24 L = 0 then 0 else 1) fun t _ => by
    show (if itr (rrd st E L (dgs lt t) n) 24 L = 0 then 0 else 1) ≤ 1
    split <;> decide
  unfold pts
  omega
theorem pow_le (h3 : lt ≤ 3) (hn : n ≤ 7) : lt ^ n ≤ 2187 := Nat.le_trans (Nat.pow_le_pow_left h3 n) (Nat.le_trans (Nat.pow_le_pow_right (by decide) hn) (by decide))
theorem g_countPoints {fr : Nat → Int32} {Q : Int32 → PH → Prop} (hn : n ≤ 7) (hr : RdO ph r A) (er : ph (A 3) = some (209, .inr (.int, 7, .inl fr))) (hG : Gr ph g st lt E) (h : ∀ ph' : PH, Keep TR ph ph' → Q (Int32.ofNat (pts st lt E (live st lt E) n (lt ^ n))) ph') : w_X6_countPoints r (some g) (Int32.ofNat n) ph Q X := by
  obtain ⟨⟨-, hst, h2, h3⟩, ge, e1, e2⟩ := id hG
  have hp := pow_le h3 hn
  have hp0 : 0 < lt ^ n := Nat.pow_pos (by omega)
  unfold w_X6_countPoints
  rw [ex_isO e1]
  refine g_liveSet hG ?_
  rw [ex_gR hr (v0 := some (A 3)) rfl]
  refine g_fill er (by decide) (by decide) (fun f' hf => ?_)
  refine ⟨(lt ^ n - 1) + 1, (upto0 (P := fun fu t => ∀ p : PH, Keep TR ph p → Row p r (A 3) lt n t → w_X6_countPoints_19 Q X fu (some r) (some g) (Int32.ofNat n) (live st lt E) (Int32.ofNat (pts st lt E (live st lt E) n t)) (Int32.ofNat t) p) fun fu t ht ih => ?_) _ (Keep.setI er rfl) ⟨f', hset_same, fun i hi => ?_⟩⟩
  · intro p hK hR
    have hr1 : RdO p r A := hK.obj hr
    have hG1 := hK.gr hG rfl
    have hpt : pts st lt E (live st lt E) n t ≤ t := pts_le
    have tail : ∀ c : Nat, pts st lt E (live st lt E) n (t + 1) = c → w_X6_countPoints_40 Q X (fun x0 x1 x2 x3 x4 x5 ph => w_X6_countPoints_19 Q X fu x0 x1 x2 x3 x4 x5 ph) (some r) (some g) (Int32.ofNat n) (live st lt E) (Int32.ofNat c) (Int32.ofNat t) p := by
      intro c hc
      obtain ⟨-, ge1, e11, e12⟩ := id hG1
      unfold w_X6_countPoints_40
      rw [ex_gI e11 rfl, ex_isO hr1]
      refine g_isAdvanced hn h2 h3 hr1 hR (fun ph' k1 k2 k3 => ⟨fun _ => ?_, fun h9 => absurd h9 (by decide)⟩) (fun ph' k1 k2 => ⟨fun h9 => absurd rfl h9, fun _ => ?_⟩)
      · rw [on_succ, ← hc]
        refine ih ?_ ph' (hK.tr k1) k3
        have k4 : t / lt ^ n = 0 := Nat.div_eq_of_lt (by omega)
        rw [k4] at k2
        have k5 : t + 1 < lt ^ n := Classical.byContradiction fun h9 => by
          have h8 := Nat.div_pos (show lt ^ n ≤ t + 1 by omega) hp0
          omega
        omega
      · have k4 : ¬ t + 1 < lt ^ n := fun h9 => by
          rw [Nat.div_eq_of_lt h9] at k2
          exact absurd k2 (Nat.succ_ne_zero _).symm
        rw [← hc, show t + 1 = lt ^ n by omega]
        exact h ph' (hK.tr k1)
    unfold w_X6_countPoints_19
    rw [show (2187 : Int32) = Int32.ofNat 2187 from rfl, on_le (by omega) (by omega)]
    refine ⟨fun h9 => absurd h9 (by omega), fun _ => ?_⟩
    rw [ex_isO hr1]
    refine g_isPoint hn hr1 hG1 hR (fun h9 => ⟨fun h8 => absurd h8 (by decide), fun _ => ?_⟩) (fun h9 => ⟨fun _ => ?_, fun h8 => absurd rfl h8⟩)
    · rw [on_succ]
      refine tail _ ?_
      show pts st lt E (live st lt E) n t + (if itr (rrd st E (live st lt E) (dgs lt t) n) 24 (live st lt E) = 0 then 0 else 1) = _
      rw [if_neg h9]
    · refine tail _ ?_
      show pts st lt E (live st lt E) n t + (if itr (rrd st E (live st lt E) (dgs lt t) n) 24 (live st lt E) = 0 then 0 else 1) = _
      rw [if_pos h9]
      rfl
  · rw [hf i (by omega)]
    show (0 : Int32) = Int32.ofNat (0 / lt ^ i % lt)
    rw [Nat.zero_div, Nat.zero_mod]
    rfl
end POINTS
/-! points are words -/
section PW
variable {st lt : Nat} {E : Nat → Int32} {L : Int32}
theorem sumN_swap {n m : Nat} {f : Nat → Nat → Nat} : sumN n (fun i => sumN m (fun j => f i j)) = sumN m (fun j => sumN n (fun i => f i j)) := by
  induction n with
  | zero =>
    show 0 = sumN m (fun j => 0)
    induction m with
    | zero => rfl
    | succ m ih =>
      show 0 = sumN m (fun j => 0) + 0
      rw [← ih]
  | succ n ih =>
    show sumN n (fun i => sumN m (fun j => f i j)) + sumN m (fun j => f n j) = sumN m (fun j => sumN n (fun i => f i j) + f n j)
    rw [ih]
    clear ih
    induction m with
    | zero => rfl
    | succ m ih =>
      show (sumN m (fun j => sumN n (fun i => f i j)) + sumN n (fun i => f i m)) + (sumN m (fun j => f n j) + f n m) = sumN m (fun j => sumN n (fun i => f i j) + f n j) + (sumN n (fun i => f i m) + f n m)
      rw [← ih]
      omega
theorem sumN_add {m : Nat} {f : Nat → Nat} : ∀ n : Nat, sumN (m + n) f = sumN m f + sumN n (fun i => f (m + i)) := by
  intro n
  induction n with
  | zero => rfl
  | succ n ih =>
    show sumN (m + n) f + f (m + n) = sumN m f + (sumN n (fun i => f (m + i)) + f (m + n))
    rw [ih]
    omega
theorem sumN_block {m : Nat} {f : Nat → Nat} : ∀ n : Nat, sumN (m * n) f = sumN n (fun u => sumN m (fun a => f (m * u + a))) := by
  intro n
  induction n with
  | zero => rfl
  | succ n ih =>
    rw [Nat.mul_succ, sumN_add, ih]
    rfl
theorem dgs_0 {u a : Nat} (ha : a < lt) : dgs lt (lt * u + a) 0 = a := by
  unfold dgs
  rw [Nat.pow_zero, Nat.div_one, Nat.mul_add_mod, Nat.mod_eq_of_lt ha]
theorem dgs_s {u a i : Nat} (ha : a < lt) : dgs lt (lt * u + a) (i + 1) = dgs lt u i := by
  unfold dgs
  rw [Nat.pow_succ, Nat.mul_comm (lt ^ i) lt, ← Nat.div_div_eq_div_mul, Nat.mul_add_div (by omega), Nat.div_eq_of_lt ha, Nat.add_zero]
theorem cw_rows (hst : st ≤ 24) : ∀ (n : Nat) (S : Int32), sumN (lt ^ n) (fun t => if rrd st E L (dgs lt t) n S = 0 then 0 else 1) = cw st lt E L n S := by
  intro n
  induction n with
  | zero =>
    intro S
    show 0 + (if S = 0 then 0 else 1) = if S = 0 then 0 else 1
    rw [Nat.zero_add]
  | succ n ih =>
    intro S
    rw [Nat.pow_succ, Nat.mul_comm, sumN_block, sumN_swap, cw_succ hst]
    refine sumN_eq fun a ha => ?_
    rw [← ih]
    refine sumN_eq fun u _ => ?_
    rw [rrd_first, dgs_0 ha, show (fun i => dgs lt (lt * u + a) (i + 1)) = dgs lt u from funext fun i => dgs_s ha]
theorem pts_cw {n : Nat} (hst : st ≤ 24) : pts st lt E L n (lt ^ n) ≤ cw st lt E L n L := by
  rw [← cw_rows hst]
  refine sumN_mon fun t _ => ?_
  by_cases h : rrd st E L (dgs lt t) n L = 0
  · have h1 : itr (rrd st E L (dgs lt t) n) 24 L = 0 := by
      show itr (rrd st E L (dgs lt t) n) 23 (rrd st E L (dgs lt t) n L) = 0
      rw [h]
      exact itr_stay (rrd_0 hst n) _
    rw [if_pos h, if_pos h1]
    exact Nat.le_refl _
  · rw [if_neg h]
    split <;> decide
theorem rrd_bis {st' : Nat} {E' : Nat → Int32} {L' : Int32} {B : Int32 → Int32 → Prop} {dg : Nat → Nat} (hB : Bis lt (rdL st E L) (rdL st' E' L') B) (hd : ∀ i : Nat, dg i < lt) {S T : Int32} (h : B S T) : ∀ n : Nat, B (rrd st E L dg n S) (rrd st' E' L' dg n T) := by
  intro n
  induction n with
  | zero => exact h
  | succ n ih => exact (hB _ _ ih).2 _ (hd n)
theorem pts_bis {st' n m : Nat} {E' : Nat → Int32} {L' : Int32} {B : Int32 → Int32 → Prop} (hlt : 0 < lt) (hB : Bis lt (rdL st E L) (rdL st' E' L') B) (h : B L L') : pts st lt E L n m = pts st' lt E' L' n m := by
  refine sumN_eq fun t _ => ?_
  have key : ∀ (k : Nat) (S T : Int32), B S T → B (itr (rrd st E L (dgs lt t) n) k S) (itr (rrd st' E' L' (dgs lt t) n) k T) := by
    intro k
    induction k with
    | zero => intro S T h; exact h
    | succ k ih => intro S T h; exact ih _ _ (rrd_bis hB (fun i => dgs_lt hlt) h n)
  have h1 := (hB _ _ (key 24 L L' h)).1
  by_cases h2 : itr (rrd st E L (dgs lt t) n) 24 L = 0
  · rw [if_pos h2, if_pos (h1.mp h2)]
  · rw [if_neg h2, if_neg (fun h3 => h2 (h1.mpr h3))]
end PW
