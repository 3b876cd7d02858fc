/-! a round of the law: what is asked of each shift -/
section ROUND
variable {pz : PH} {b sn mn tn : Nat} {sD : Nat → Nat × Nat × (Nat → Int32)} {mD : Nat → Nat × Nat × (Nat → Int64)} {tf : Nat → Int32} {ln ls : Nat → Nat} {ph : PH} {X : String → PH → Prop} {G : GG} {Q : Int32 → PH → Prop} {x0 : Option Nat} {x2 x3 x4 x5 : Int32} {KJ : Option Nat → Option Nat → Int32 → Int32 → Int32 → Int32 → Int32 → PH → Prop}
theorem liF_zero (hW : Wd pz b sn sD mn mD tn tf ln ls ph) {j : Nat} (hj : j < sn) : bc (liF (sD j)) = 0 ↔ liF (sD j) = 0 := bc_zero fun i hi => by
  have h1 := (hW.bnd hj).2.1
  have h2 := live_lt h1 hi
  omega
theorem s1383 {j : Nat} (hW : Wd pz b sn sD mn mD tn tf ln ls ph) (hj : j < sn) (h : ∀ p : PH, Wd pz b sn sD mn mD tn tf ln ls p → KJ x0 (some b) x2 x3 x4 x5 (Int32.ofNat j + 1) p) : w_L_law_1383 G Q X KJ x0 (some b) x2 x3 x4 x5 (Int32.ofNat j) (Int64.ofNat (bc (liF (sD j)))) ph := by
  have h8 := hW.sn8
  have hb := bc_lt (liF (sD j))
  unfold w_L_law_1383
  rw [lgc_gt, show (12 : Int64) = Int64.ofNat 12 from rfl, oj_lt (by omega) (by omega)]
  refine ⟨fun _ => h ph hW, fun h9 => ?_⟩
  refine c_series hW (fun i p hi ei hb2 hp => ⟨fun _ => h p hp, fun h7 => absurd (lgc_eq.mpr rfl) h7⟩) (fun i hi ei hb2 => ?_) (fun hno => absurd rfl (hno j hj))
  rw [on_inj (by omega) (by omega)] at ei
  subst ei
  omega
theorem c_low {x : Int32} {n : Nat} {Q : Int64 → PH → Prop} (hn5 : n ≤ 5) (hW : Wd pz b sn sD mn mD tn tf ln ls ph) (h : ∀ (j c : Nat) (ph' : PH), j < sn → x = Int32.ofNat j → c < 2 ^ 62 → Bst true (sD j).1 (sD j).2.1 (sD j).2.2 (liF (sD j)) (vs (sD j).1 (sD j).2.1 (sD j).2.2 (liF (sD j)) n) 24 c → Wd pz b sn sD mn mD tn tf ln ls ph' → Q (Int64.ofNat c) ph') (hu : ∀ j : Nat, j < sn → x = Int32.ofNat j → liF (sD j) = 0 → Q (-1004000) ph) (hn : (∀ j : Nat, j < sn → ¬ x = Int32.ofNat j) → Q (-1001000) ph) : w_L_call_ (some b) (16 : Int32) x (Int32.ofNat n) (1 : Int32) ph Q X := c_growth (lo := true) hn5 hW h hu hn
theorem c_high {x : Int32} {n : Nat} {Q : Int64 → PH → Prop} (hn5 : n ≤ 5) (hW : Wd pz b sn sD mn mD tn tf ln ls ph) (h : ∀ (j c : Nat) (ph' : PH), j < sn → x = Int32.ofNat j → c < 2 ^ 62 → Bst false (sD j).1 (sD j).2.1 (sD j).2.2 (liF (sD j)) (vs (sD j).1 (sD j).2.1 (sD j).2.2 (liF (sD j)) n) 24 c → Wd pz b sn sD mn mD tn tf ln ls ph' → Q (Int64.ofNat c) ph') (hu : ∀ j : Nat, j < sn → x = Int32.ofNat j → liF (sD j) = 0 → Q (-1004000) ph) (hn : (∀ j : Nat, j < sn → ¬ x = Int32.ofNat j) → Q (-1001000) ph) : w_L_call_ (some b) (16 : Int32) x (Int32.ofNat n) (0 : Int32) ph Q X := c_growth (lo := false) hn5 hW h hu hn
theorem s1302 {j : Nat} (hW : Wd pz b sn sD mn mD tn tf ln ls ph) (hj : j < sn) (h : ∀ p : PH, Wd pz b sn sD mn mD tn tf ln ls p → KJ x0 (some b) x2 x3 x4 x5 (Int32.ofNat j + 1) p) : w_L_law_1302 G Q X KJ x0 (some b) x2 x3 x4 x5 (Int32.ofNat j) (Int64.ofNat (bc (liF (sD j)))) ph := by
  have h8 := hW.sn8
  have hb := bc_lt (liF (sD j))
  have hst := (hW.bnd hj).2.1
  unfold w_L_law_1302
  rw [lgc_le, show (0 : Int64) = Int64.ofNat 0 from rfl, oj_le (by omega) (by omega)]
  refine ⟨fun _ => s1383 hW hj h, fun hpos => ?_⟩
  have hl : ¬ liF (sD j) = 0 := fun h9 => hpos (by rw [(liF_zero hW hj).mpr h9]; exact Nat.le_refl 0)
  have nu : ∀ {R : Prop} (i : Nat), i < sn → Int32.ofNat j = Int32.ofNat i → liF (sD i) = 0 → R := fun i hi ei h9 => by
    rw [on_inj (by omega) (by omega)] at ei
    subst ei
    exact absurd h9 hl
  have nn : ∀ {R : Prop}, (∀ i : Nat, i < sn → ¬ Int32.ofNat j = Int32.ofNat i) → R := fun hno => absurd rfl (hno j hj)
  refine c_low (n := 2) (by omega) hW (fun i c1 p1 hi ei k1 B1 W1 => ?_) nu nn
  rw [on_inj (by omega) (by omega)] at ei
  subst ei
  refine c_high (n := 2) (by omega) W1 (fun i c2 p2 hi ei k2 B2 W2 => ?_) nu nn
  rw [on_inj (by omega) (by omega)] at ei
  subst ei
  have t1 := low_high rfl B1 B2
  rw [lgc_gt, oj_lt (by omega) (by omega)]
  refine ⟨fun h9 => absurd t1 (by omega), fun _ => ?_⟩
  refine c_low (n := 3) (by omega) W2 (fun i c3 p3 hi ei k3 B3 W3 => ?_) nu nn
  rw [on_inj (by omega) (by omega)] at ei
  subst ei
  refine c_low (n := 2) (by omega) W3 (fun i c4 p4 hi ei k4 B4 W4 => ?_) nu nn
  rw [on_inj (by omega) (by omega)] at ei
  subst ei
  have t2 := low_up hst rfl B4 B3
  rw [lgc_lt, oj_lt (by omega) (by omega)]
  refine ⟨fun h9 => absurd t2 (by omega), fun _ => ?_⟩
  refine c_high (n := 3) (by omega) W4 (fun i c5 p5 hi ei k5 B5 W5 => ?_) nu nn
  rw [on_inj (by omega) (by omega)] at ei
  subst ei
  refine c_high (n := 2) (by omega) W5 (fun i c6 p6 hi ei k6 B6 W6 => ?_) nu nn
  rw [on_inj (by omega) (by omega)] at ei
  subst ei
  have t3 := high_down hst rfl B6 B5
  rw [lgc_le, oj_le (by omega) (by omega)]
  exact ⟨fun _ => s1383 W6 hj h, fun h9 => absurd t3 h9⟩
theorem s1278 {j : Nat} (hW : Wd pz b sn sD mn mD tn tf ln ls ph) (hj : j < sn) (h : ∀ p : PH, Wd pz b sn sD mn mD tn tf ln ls p → KJ x0 (some b) x2 x3 x4 x5 (Int32.ofNat j + 1) p) : w_L_law_1278 G Q X KJ x0 (some b) x2 x3 x4 x5 (Int32.ofNat j) (Int64.ofNat (bc (liF (sD j)))) (Int64.ofNat (paN (sD j))) ph := by
  have h8 := hW.sn8
  unfold w_L_law_1278
  refine c_isIrr hW (fun i p hi ei hp => ⟨fun _ => s1302 hp hj h, fun h9 => absurd h9 (by decide)⟩) (fun i p hi ei hp h1 => ⟨fun h9 => absurd (lgc_eq.mpr rfl) h9, fun _ => ⟨fun _ => s1302 hp hj h, fun h9 => absurd ?_ h9⟩⟩) (fun hno => absurd rfl (hno j hj))
  rw [on_inj (by omega) (by omega)] at ei
  subst ei
  have h2 := paN_le (hW.bnd hj).2.1
  rw [lgc_ge, show (1 : Int64) = Int64.ofNat 1 from rfl, oj_le (by omega) (by omega)]
  exact h1
theorem s1154 {j : Nat} (hW : Wd pz b sn sD mn mD tn tf ln ls ph) (hj : j < sn) (h : ∀ p : PH, Wd pz b sn sD mn mD tn tf ln ls p → KJ x0 (some b) x2 x3 x4 x5 (Int32.ofNat j + 1) p) : ∃ fu : Nat, fu ≤ 7 ∧ w_L_law_1154 G Q X KJ fu x0 (some b) x2 x3 x4 x5 (Int32.ofNat j) (Int64.ofNat (bc (liF (sD j)))) (Int64.ofNat (wdN (sD j) 0)) (1 : Int32) ph := by
  have h8 := hW.sn8
  obtain ⟨bs1, bs2, bs3, bs4⟩ := hW.bnd hj
  have hb := bc_lt (liF (sD j))
  have key := upfrom (n := 5) (s := 1) (P := fun fu i => ∀ p : PH, Wd pz b sn sD mn mD tn tf ln ls p → w_L_law_1154 G Q X KJ fu x0 (some b) x2 x3 x4 x5 (Int32.ofNat j) (Int64.ofNat (bc (liF (sD j)))) (Int64.ofNat (wdN (sD j) (i - 1))) (Int32.ofNat i) p) (by omega) (fun fu i hi1 hi ih => by
    intro p hp
    unfold w_L_law_1154
    rw [show (5 : Int32) = Int32.ofNat 5 from rfl, on_le (by omega) (by omega)]
    refine ⟨fun h9 => ?_, fun h9 => ?_⟩
    · have tail : ∀ (v : Int64) (p2 : PH), Wd pz b sn sD mn mD tn tf ln ls p2 → (¬ liF (sD j) = 0 → ¬ v = 0) → w_L_call_ (some b) (9 : Int32) (Int32.ofNat j) (0 : Int32) (0 : Int32) p2 (fun v1252 ph1252 => ((lg_cmp (Int64.ofNat (bc (liF (sD j)))) (0 : Int64)) ≤ 0 → w_L_law_1278 G Q X (fun x0 x1 x2 x3 x4 x5 x15 ph => KJ x0 x1 x2 x3 x4 x5 x15 ph) x0 (some b) x2 x3 x4 x5 (Int32.ofNat j) (Int64.ofNat (bc (liF (sD j)))) v1252 ph1252) ∧ (¬ ((lg_cmp (Int64.ofNat (bc (liF (sD j)))) (0 : Int64)) ≤ 0) → ((lg_cmp v (0 : Int64)) = 0 → nZ (0 : Int32) ∧ Q (0 : Int32) ph1252) ∧ (¬ ((lg_cmp v (0 : Int64)) = 0) → ((lg_cmp v1252 (1 : Int64)) < 0 → nZ (0 : Int32) ∧ Q (0 : Int32) ph1252) ∧ (¬ ((lg_cmp v1252 (1 : Int64)) < 0) → w_L_law_1278 G Q X (fun x0 x1 x2 x3 x4 x5 x15 ph => KJ x0 x1 x2 x3 x4 x5 x15 ph) x0 (some b) x2 x3 x4 x5 (Int32.ofNat j) (Int64.ofNat (bc (liF (sD j)))) v1252 ph1252)))) X := by
        intro v p2 hp2 hv
        refine c_parts hp2 (fun k p3 hk ek hp3 => ?_) (fun hno => absurd rfl (hno j hj))
        rw [on_inj (by omega) (by omega)] at ek
        subst ek
        have hpa := paN_le (hW.bnd hj).2.1
        have next := s1278 (G := G) (Q := Q) (X := X) (x0 := x0) (x2 := x2) (x3 := x3) (x4 := x4) (x5 := x5) hp3 hj h
        rw [lgc_le, show (0 : Int64) = Int64.ofNat 0 from rfl, oj_le (by omega) (by omega)]
        refine ⟨fun _ => next, fun hpos => ⟨fun h7 => ?_, fun _ => ⟨fun h7 => ?_, fun _ => next⟩⟩⟩
        · have hl : ¬ liF (sD j) = 0 := fun h6 => hpos (by rw [(liF_zero hW hj).mpr h6]; exact Nat.le_refl 0)
          exact absurd (lgc_eq.mp h7) (hv hl)
        · have hl : ¬ liF (sD j) = 0 := fun h6 => hpos (by rw [(liF_zero hW hj).mpr h6]; exact Nat.le_refl 0)
          have h5 : 1 ≤ paN (sD j) := parts_live bs2 hl
          rw [lgc_lt, show (1 : Int64) = Int64.ofNat 1 from rfl, oj_lt (by omega) (by omega)] at h7
          omega
      refine c_futures hp (fun k c p2 hk ek hc hcl hp2 => tail _ p2 hp2 (fun hl => ?_)) (fun k p2 hk ek hp2 => tail _ p2 hp2 (fun _ => by decide)) (fun hno => absurd rfl (hno j hj))
      rw [on_inj (by omega) (by omega)] at ek
      subst ek
      have h5 := hcl hl
      intro h6
      rw [show (0 : Int64) = Int64.ofNat 0 from rfl, oj_inj (by omega) (by omega)] at h6
      omega
    · refine c_words (by omega) hp (fun k p2 hk ek hp2 => ?_) (fun hno => absurd rfl (hno j hj))
      rw [on_inj (by omega) (by omega)] at ek
      subst ek
      refine c_points hi1 (by omega) hp2 (fun k p3 hk ek hp3 => ?_) (fun hno => absurd rfl (hno j hj))
      rw [on_inj (by omega) (by omega)] at ek
      subst ek
      have w1 := wdN_le (D := sD j) (n := i) bs4 (by omega)
      have w0 := wdN_le (D := sD j) (n := i - 1) bs4 (by omega)
      have q1 := ptN_le (D := sD j) (n := i) bs4 (by omega)
      have up : wdN (sD j) (i - 1) ≤ wdN (sD j) i := by
        have h7 := cw_up (S := 0) (st := (sD j).1) (lt := (sD j).2.1) (E := (sD j).2.2) (L := liF (sD j)) bs2 rfl (i - 1) (liF (sD j)) (fun _ h6 => h6)
        rw [show i - 1 + 1 = i by omega] at h7
        exact h7
      have up3 : wdN (sD j) i ≤ 3 * wdN (sD j) (i - 1) := by
        have h7 := cw_3 (st := (sD j).1) (lt := (sD j).2.1) (E := (sD j).2.2) (L := liF (sD j)) bs2 bs4 (i - 1) (liF (sD j))
        rw [show i - 1 + 1 = i by omega] at h7
        exact h7
      have pw : ptN (sD j) i ≤ wdN (sD j) i := pts_cw bs2
      rw [lgc_lt, oj_lt (by omega) (by omega)]
      refine ⟨fun h7 => absurd h7 (by omega), fun _ => ?_⟩
      rw [show (3 : Int64) = Int64.ofNat 3 from rfl, oj_mul, lgc_gt, oj_lt (by omega) (by omega)]
      refine ⟨fun h7 => absurd h7 (by omega), fun _ => ?_⟩
      rw [lgc_lt, show (0 : Int64) = Int64.ofNat 0 from rfl, oj_lt (by omega) (by omega)]
      refine ⟨fun h7 => absurd h7 (by omega), fun _ => ?_⟩
      rw [lgc_le, oj_le (by omega) (by omega), on_succ]
      exact ⟨fun _ => ih (by omega) p3 hp3, fun h7 => absurd pw h7⟩) ph hW
  exact ⟨_, by decide, key⟩
theorem wdN_0 {D : Nat × Nat × (Nat → Int32)} : wdN D 0 = if liF D = 0 then 0 else 1 := rfl
theorem s1102 {KR : Option Nat → Option Nat → Int32 → Int32 → Int32 → Int32 → PH → Prop} (hW : Wd pz b sn sD mn mD tn tf ln ls ph) (h : ∀ p : PH, Wd pz b sn sD mn mD tn tf ln ls p → KR x0 (some b) (Int32.ofNat sn) x3 x4 (x5 + 1) p) : ∃ fu : Nat, fu ≤ 10 ∧ w_L_law_1102 G Q X KR fu x0 (some b) (Int32.ofNat sn) x3 x4 x5 (0 : Int32) ph := by
  have h8 := hW.sn8
  refine ⟨sn + 1, by omega, (upto0 (P := fun fu j => ∀ p : PH, Wd pz b sn sD mn mD tn tf ln ls p → w_L_law_1102 G Q X KR fu x0 (some b) (Int32.ofNat sn) x3 x4 x5 (Int32.ofNat j) p) fun fu j hj ih => ?_) ph hW⟩
  intro p hp
  unfold w_L_law_1102
  rw [on_le (by omega) (by omega)]
  refine ⟨fun _ => hp.obj (a_isSound hp ⟨fun _ => h p hp, fun h9 => absurd h9 (by decide)⟩), fun h9 => ?_⟩
  have hjs : j < sn := by omega
  refine c_states hp (fun k hk ek => ?_) (fun hno => absurd rfl (hno j hjs))
  rw [on_inj (by omega) (by omega)] at ek
  subst ek
  refine c_words (n := 0) (by omega) hp (fun k p2 hk ek hp2 => ?_) (fun hno => absurd rfl (hno j hjs))
  rw [on_inj (by omega) (by omega)] at ek
  subst ek
  have hb := bc_lt (liF (sD j))
  have next := s1154 (G := G) (Q := Q) (X := X) (x0 := x0) (x2 := Int32.ofNat sn) (x3 := x3) (x4 := x4) (x5 := x5) (KJ := fun x0 x1 x2 x3 x4 x5 x15 ph => w_L_law_1102 G Q X KR fu x0 x1 x2 x3 x4 x5 x15 ph) hp2 hjs (fun p3 hp3 => by
    rw [on_succ]
    exact ih (by omega) p3 hp3)
  rw [lgc_le, show (0 : Int64) = Int64.ofNat 0 from rfl, oj_le (by omega) (by omega)]
  refine ⟨fun h7 => ?_, fun h7 => ?_⟩
  · have hl : liF (sD j) = 0 := (liF_zero hW hjs).mp (by omega)
    have e : wdN (sD j) 0 = 0 := by rw [wdN_0, if_pos hl]
    unfold w_L_law_1145
    refine ⟨fun _ => next, fun h6 => absurd (lgc_eq.mpr ?_) h6⟩
    rw [e]
  · have hl : ¬ liF (sD j) = 0 := fun h6 => h7 (by rw [(liF_zero hW hjs).mpr h6]; exact Nat.le_refl 0)
    have e : wdN (sD j) 0 = 1 := by rw [wdN_0, if_neg hl]
    unfold w_L_law_1145
    refine ⟨fun _ => next, fun h6 => absurd (lgc_eq.mpr ?_) h6⟩
    rw [e]
    rfl
/-- after an act: all is well -/
theorem s1047_ok {KR : Option Nat → Option Nat → Int32 → Int32 → Int32 → Int32 → PH → Prop} {n0 k : Nat} {x10 : Int64} {x14 : Int32} (hk : k < 2000000) (hW : Wd pz b sn sD mn mD tn tf ln ls ph) (hs : (x14 = 0 ∧ n0 = sn) ∨ (x14 = 1 ∧ n0 = k ∧ sn = n0 + 1)) (h : ∀ p : PH, Wd pz b sn sD mn mD tn tf ln ls p → KR x0 (some b) (Int32.ofNat sn) x3 x4 (x5 + 1) p) : w_L_law_1047 G Q X KR x0 (some b) (Int32.ofNat n0) x3 x4 x5 x10 (Int64.ofNat k) x14 ph := by
  have big : 0 < lg_cmp (Int64.ofNat k) (-1001000 : Int64) := by
    rw [lgc_gt, Int64.lt_iff_toInt_lt, oj_int (by omega)]
    have e : (-1001000 : Int64).toInt = -1001000 := by decide
    rw [e]
    omega
  have h8 := hW.sn8
  have last : ∀ s0 : Nat, n0 + s0 = sn → w_L_law_1073 G Q X KR x0 (some b) x3 x4 x5 x10 (Int64.ofNat k) (Int32.ofNat s0) (Int32.ofNat n0) ph := by
    intro s0 e
    unfold w_L_law_1073
    intro v hv
    rw [on_add, e] at hv
    subst hv
    exact ⟨fun _ => s1102 hW h, fun h9 => absurd big h9⟩
  rcases hs with ⟨rfl, e⟩ | ⟨rfl, e1, e2⟩
  · unfold w_L_law_1047 w_L_law_1062
    exact ⟨fun _ => ⟨fun _ => last 0 (by omega), fun h9 => absurd rfl h9⟩, fun h9 => absurd rfl h9⟩
  · unfold w_L_law_1047 w_L_law_1062
    refine ⟨fun h9 => absurd h9 (by decide), fun _ => ⟨fun _ => ⟨fun h9 => absurd h9 (by decide), fun _ => last 1 (by omega)⟩, fun h9 => absurd (lgc_eq.mpr ?_) h9⟩⟩
    rw [to64 (by omega), e1]
/-- after an act that was refused: the state is as it was -/
theorem s1047_er {KR : Option Nat → Option Nat → Int32 → Int32 → Int32 → Int32 → PH → Prop} {v : Int64} (hv : Er v) (hW : Wd pz b sn sD mn mD tn tf ln ls ph) (h : ∀ p : PH, Wd pz b sn sD mn mD tn tf ln ls p → KR x0 (some b) (Int32.ofNat sn) x3 (Int32.ofNat mn) (x5 + 1) p) : w_L_law_1047 G Q X KR x0 (some b) (Int32.ofNat sn) x3 (Int32.ofNat mn) x5 (stF sn sD mn mD tn tf ln ls) v (0 : Int32) ph := by
  have small : ¬ 0 < lg_cmp v (-1001000 : Int64) := by
    rcases hv with rfl | rfl | rfl | rfl | rfl <;> decide
  unfold w_L_law_1047 w_L_law_1062 w_L_law_1073
  refine ⟨fun _ => ⟨fun _ v hv => ?_, fun h9 => absurd rfl h9⟩, fun h9 => absurd rfl h9⟩
  have hv2 : v = Int32.ofNat sn := hv.trans (Int32.add_zero _)
  subst hv2
  refine ⟨fun h9 => absurd h9 small, fun _ => l_state hW (fun p hp => ⟨fun _ => s1102 hp h, fun h9 => absurd (lgc_eq.mpr rfl) h9⟩)⟩
end ROUND
