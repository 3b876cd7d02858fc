/-! a round of the law: the deed -/
theorem on_k1 (r : Nat) : (1 : Int32) + Int32.ofNat r = Int32.ofNat (1 + r) := on_add 1 r
theorem on_k2 (r : Nat) : (2 : Int32) + Int32.ofNat r = Int32.ofNat (2 + r) := on_add 2 r
theorem er_neg {v : Int64} (h : Er v) : lg_cmp v (0 : Int64) < 0 := by
  rcases h with rfl | rfl | rfl | rfl | rfl <;> decide
theorem er_n1 {v : Int64} (h : Er v) : ¬ lg_cmp v (1 : Int64) = 0 := by
  rcases h with rfl | rfl | rfl | rfl | rfl <;> decide
theorem nn_neg {k : Nat} (h : k < 2 ^ 62) : ¬ lg_cmp (Int64.ofNat k) (0 : Int64) < 0 := by
  rw [lgc_lt, show (0 : Int64) = Int64.ofNat 0 from rfl, oj_lt (by omega) (by omega)]
  omega
section DEEDS
variable {pz : PH} {b sn mn tn cc : Nat} {sD : Nat → Nat × Nat × (Nat → Int32)} {mD : Nat → Nat × Nat × (Nat → Int64)} {tf : Nat → Int32} {ln ls : Nat → Nat} {ph : PH} {X : String → PH → Prop} {G : GG} {Q : Int32 → PH → Prop} {x0 : Option Nat} {x5 x7 x8 x9 : Int32} {KR : Option Nat → Option Nat → Int32 → Int32 → Int32 → Int32 → PH → Prop}
/-- the rounds behind hold, whatever the world is then -/
def HK (pz : PH) (b cc : Nat) (x0 : Option Nat) (x5 : Int32) (KR : Option Nat → Option Nat → Int32 → Int32 → Int32 → Int32 → PH → Prop) : Prop := ∀ (sn : Nat) (sD : Nat → Nat × Nat × (Nat → Int32)) (mn : Nat) (mD : Nat → Nat × Nat × (Nat → Int64)) (tn : Nat) (tf : Nat → Int32) (ln ls : Nat → Nat) (cc' : Nat) (p : PH), cc' ≤ cc + 1 → Wd pz b sn sD mn mD tn tf ln ls p → KR x0 (some b) (Int32.ofNat sn) (Int32.ofNat cc') (Int32.ofNat mn) (x5 + 1) p
theorem d_er {v : Int64} (hK : HK pz b cc x0 x5 KR) (hv : Er v) (hW : Wd pz b sn sD mn mD tn tf ln ls ph) : w_L_law_1047 G Q X KR x0 (some b) (Int32.ofNat sn) (Int32.ofNat cc) (Int32.ofNat mn) x5 (stF sn sD mn mD tn tf ln ls) v (0 : Int32) ph := s1047_er hv hW (fun p hp => hK _ _ _ _ _ _ _ _ _ p (by omega) hp)
theorem d_ok {k sn' mn' tn' cc' : Nat} {sD' : Nat → Nat × Nat × (Nat → Int32)} {mD' : Nat → Nat × Nat × (Nat → Int64)} {tf' : Nat → Int32} {ln' ls' : Nat → Nat} {v10 : Int64} (hK : HK pz b cc x0 x5 KR) (hk : k < 2000000) (hc : cc' ≤ cc + 1) (hW : Wd pz b sn' sD' mn' mD' tn' tf' ln' ls' ph) : w_L_law_1047 G Q X KR x0 (some b) (Int32.ofNat sn') (Int32.ofNat cc') (Int32.ofNat mn') x5 v10 (Int64.ofNat k) (0 : Int32) ph := s1047_ok hk hW (Or.inl ⟨rfl, rfl⟩) (fun p hp => hK _ _ _ _ _ _ _ _ _ p hc hp)
theorem d_new {sn0 tn' : Nat} {sD' : Nat → Nat × Nat × (Nat → Int32)} {tf' : Nat → Int32} {v10 : Int64} (hK : HK pz b cc x0 x5 KR) (hW : Wd pz b (sn0 + 1) sD' mn mD tn' tf' ln ls ph) : w_L_law_1047 G Q X KR x0 (some b) (Int32.ofNat sn0) (Int32.ofNat cc) (Int32.ofNat mn) x5 v10 (Int64.ofNat sn0) (1 : Int32) ph := s1047_ok (by have := hW.sn8; omega) hW (Or.inr ⟨rfl, rfl, rfl⟩) (fun p hp => hK _ _ _ _ _ _ _ _ _ p (by omega) hp)
/-- an image's words are held against its shift's -/
theorem d_606 {j : Nat} {D : Nat × Nat × (Nat → Int32)} (hK : HK pz b cc x0 x5 KR) (hj : j < sn) (hD : ∀ k : Nat, 1 ≤ wdN D k ∧ wdN D k ≤ wdN (sD j) (k + 1)) (hW : Wd pz b (sn + 1) (upD sD sn D) mn mD tn tf ln ls ph) {v10 : Int64} : ∃ fu : Nat, fu ≤ 7 ∧ w_L_law_606 G Q X (fun x0 x1 x2 x3 x4 x5 x10 x12 x14 ph => w_L_law_1047 G Q X KR x0 x1 x2 x3 x4 x5 x10 x12 x14 ph) fu x0 (some b) (Int32.ofNat sn) (Int32.ofNat cc) (Int32.ofNat mn) x5 (Int32.ofNat j) v10 (Int64.ofNat sn) (1 : Int32) (1 : Int32) ph := by
  have h8 := hW.sn8
  have key := upfrom (n := 5) (s := 1) (P := fun fu i => ∀ p : PH, Wd pz b (sn + 1) (upD sD sn D) mn mD tn tf ln ls p → w_L_law_606 G Q X (fun x0 x1 x2 x3 x4 x5 x10 x12 x14 ph => w_L_law_1047 G Q X KR x0 x1 x2 x3 x4 x5 x10 x12 x14 ph) fu x0 (some b) (Int32.ofNat sn) (Int32.ofNat cc) (Int32.ofNat mn) x5 (Int32.ofNat j) v10 (Int64.ofNat sn) (1 : Int32) (Int32.ofNat i) p) (by omega) (fun fu i hi1 hi ih => by
    intro p hp
    unfold w_L_law_606
    rw [show (5 : Int32) = Int32.ofNat 5 from rfl, on_le (by omega) (by omega), Int64.toInt32_ofNat', on_succ]
    refine ⟨fun _ => d_new hK hp, fun h9 => ⟨fun h7 => absurd h7 (by decide), fun _ => ?_⟩⟩
    refine c_words (by omega) hp (fun k p2 hk ek hp2 => ?_) (fun hno => absurd rfl (hno sn (by omega)))
    rw [on_inj (by omega) (by omega)] at ek
    subst ek
    refine c_words (by omega) hp2 (fun k p3 hk3 ek hp3 => ?_) (fun hno => absurd rfl (hno j (by omega)))
    rw [on_inj (by omega) (by omega)] at ek
    subst ek
    rw [ud_s, ud_n (show j ≠ sn by omega)]
    have b1 := hp.bnd (j := sn) (by omega)
    have b2 := hp.bnd (j := j) (by omega)
    rw [ud_s] at b1
    rw [ud_n (show j ≠ sn by omega)] at b2
    have w1 := wdN_le (D := D) (n := i) b1.2.2.2 (by omega)
    have w2 := wdN_le (D := sD j) (n := i + 1) b2.2.2.2 (by omega)
    obtain ⟨d1, d2⟩ := hD i
    rw [lgc_gt, oj_lt (by omega) (by omega)]
    refine ⟨fun h7 => absurd h7 (by omega), fun _ => ?_⟩
    refine c_words (by omega) hp3 (fun k p4 hk4 ek hp4 => ?_) (fun hno => absurd rfl (hno sn (by omega)))
    rw [on_inj (by omega) (by omega)] at ek
    subst ek
    rw [ud_s, lgc_ge, show (1 : Int64) = Int64.ofNat 1 from rfl, oj_le (by omega) (by omega)]
    exact ⟨fun _ => ih (by omega) p4 hp4, fun h7 => absurd d1 h7⟩) ph hW
  exact ⟨_, by decide, key⟩
/-- shifts that are the same are held against one another -/
theorem d_969 {i j : Nat} (hK : HK pz b cc x0 x5 KR) (hi : i < sn) (hj : j < sn) (hD : ∀ n : Nat, wdN (sD i) n = wdN (sD j) n ∧ ptN (sD i) n = ptN (sD j) n) (hW : Wd pz b sn sD mn mD tn tf ln ls ph) {v10 : Int64} : ∃ fu : Nat, fu ≤ 7 ∧ w_L_law_969 G Q X (fun x0 x1 x2 x3 x4 x5 x10 x12 x14 ph => w_L_law_1047 G Q X KR x0 x1 x2 x3 x4 x5 x10 x12 x14 ph) fu x0 (some b) (Int32.ofNat sn) (Int32.ofNat cc) (Int32.ofNat mn) x5 (Int32.ofNat i) v10 (1 : Int64) (0 : Int32) (Int32.ofNat j) (0 : Int32) ph := by
  have h8 := hW.sn8
  refine ⟨6, by decide, (upto0 (n := 5) (P := fun fu k => ∀ p : PH, Wd pz b sn sD mn mD tn tf ln ls p → w_L_law_969 G Q X (fun x0 x1 x2 x3 x4 x5 x10 x12 x14 ph => w_L_law_1047 G Q X KR x0 x1 x2 x3 x4 x5 x10 x12 x14 ph) fu x0 (some b) (Int32.ofNat sn) (Int32.ofNat cc) (Int32.ofNat mn) x5 (Int32.ofNat i) v10 (1 : Int64) (0 : Int32) (Int32.ofNat j) (Int32.ofNat k) p) fun fu k hk ih => ?_) ph hW⟩
  intro p hp
  unfold w_L_law_969
  rw [show (5 : Int32) = Int32.ofNat 5 from rfl, on_le (by omega) (by omega), on_succ]
  refine ⟨fun _ => d_ok (k := 1) (v10 := v10) hK (by omega) (by omega) hp, fun h9 => ⟨fun h7 => absurd (lgc_eq.mpr rfl) h7, fun _ => ?_⟩⟩
  refine c_words (by omega) hp (fun m p2 hm em hp2 => ?_) (fun hno => absurd rfl (hno i hi))
  rw [on_inj (by omega) (by omega)] at em
  subst em
  refine c_words (by omega) hp2 (fun m p3 hm em hp3 => ?_) (fun hno => absurd rfl (hno j hj))
  rw [on_inj (by omega) (by omega)] at em
  subst em
  refine ⟨fun h7 => absurd (lgc_eq.mpr (by rw [(hD k).1])) h7, fun _ => ?_⟩
  rw [show (0 : Int32) = Int32.ofNat 0 from rfl, on_le (by omega) (by omega)]
  refine ⟨fun _ => ih (by omega) p3 hp3, fun h7 => ?_⟩
  refine c_points (by omega) (by omega) hp3 (fun m p4 hm em hp4 => ?_) (fun hno => absurd rfl (hno i hi))
  rw [on_inj (by omega) (by omega)] at em
  subst em
  refine c_points (by omega) (by omega) hp4 (fun m p5 hm em hp5 => ?_) (fun hno => absurd rfl (hno j hj))
  rw [on_inj (by omega) (by omega)] at em
  subst em
  exact ⟨fun _ => ih (by omega) p5 hp5, fun h6 => absurd (lgc_eq.mpr (by rw [(hD k).2])) h6⟩
/-- the deed of a round -/
theorem s239 (hcc : cc < 1000) (hK : HK pz b cc x0 x5 KR) (hW : Wd pz b sn sD mn mD tn tf ln ls ph) : w_L_law_239 G Q X KR x0 (some b) (Int32.ofNat sn) (Int32.ofNat cc) (Int32.ofNat mn) x5 x7 x8 x9 ph := by
  have h8 := hW.sn8
  have m8 := hW.mn8
  unfold w_L_law_239
  refine l_state hW (fun p hp => ?_)
  rw [on_succ, on_succ, on_succ]
  refine ⟨fun _ => ⟨fun _ => ⟨fun _ => ⟨fun _ => ⟨fun _ => ⟨fun _ => ⟨fun _ => ⟨fun _ => ⟨fun _ => ⟨fun _ => ⟨fun _ => ⟨fun _ => ?SAME, fun _ => ?SPLIT⟩, fun _ => ?PUT⟩, fun _ => ?MATRIX⟩, fun _ => ?SET⟩, fun _ => ?IMAGE⟩, fun _ => ?BECOMES⟩, fun _ => ?CODE⟩, fun _ => ?GAPS⟩, fun _ => ?SLIDE⟩, fun _ => ?FORBID⟩, fun _ => ?EDGE⟩, fun _ => ?SHIFT⟩
  case SHIFT =>
    refine g_low (n := 6) (by omega) (by omega) (fun r1 => g_low (n := 2) (by omega) (by omega) (fun r2 => ?_))
    rw [on_k1, on_k2]
    exact c_shift ⟨by omega, by omega⟩ ⟨by omega, by omega⟩ hp (fun D p2 hp2 => ⟨fun h9 => absurd h9 (nn_neg (by omega)), fun _ => d_new hK hp2⟩) (fun v p2 hv hp2 => ⟨fun _ => d_er hK hv hp2, fun h9 => absurd (er_neg hv) h9⟩)
  case EDGE =>
    refine g_low (n := 6) (by omega) (by omega) (fun r1 => g_low (n := 3) (by omega) (by omega) (fun r2 => g_low (n := 6) (by omega) (by omega) (fun r3 => g_low (n := 6) (by omega) (by omega) (fun r4 => ?_))))
    have key : ∀ v : Int32, w_L_law_360 G Q X (fun x0 x1 x2 x3 x4 x5 x10 x12 x14 ph => w_L_law_1047 G Q X (fun x0 x1 x2 x3 x4 x5 ph => KR x0 x1 x2 x3 x4 x5 ph) x0 x1 x2 x3 x4 x5 x10 x12 x14 ph) x0 (some b) (Int32.ofNat sn) (Int32.ofNat cc) (Int32.ofNat mn) x5 (stF sn sD mn mD tn tf ln ls) (0 : Int32) v (Int32.ofNat (lwR (x7 >>> ((7 : Int32) &&& 31)) 6)) ((97 : Int32) + Int32.ofNat (lwR (x7 >>> ((4 : Int32) &&& 31)) 3)) (Int32.ofNat (lwR x7 6)) x8 (2 : Int32) (some b) p := by
      intro v
      unfold w_L_law_360
      refine c_edge hp (fun w sD' p2 hw hp2 => ?_) (fun w p2 hw hp2 => d_er hK hw hp2)
      rcases hw with rfl | rfl
      · exact d_ok (k := 0) hK (by omega) (by omega) hp2
      · exact d_ok (k := 1) hK (by omega) (by omega) hp2
    exact ⟨fun _ => key _, fun _ => key _⟩
  case FORBID =>
    refine g_low (n := 2) (by omega) (by omega) (fun r1 => ?_)
    rw [on_k2]
    exact c_forbid ⟨by omega, by omega⟩ hp (fun D tf' p2 hp2 => ⟨fun h9 => absurd h9 (nn_neg (by omega)), fun _ => d_new hK hp2⟩) (fun v p2 hv hp2 => ⟨fun _ => d_er hK hv hp2, fun h9 => absurd (er_neg hv) h9⟩)
  case SLIDE =>
    refine g_low (by omega) (by omega) (fun r1 => ?_)
    exact c_slide hp (fun tn' tf' p2 ht hp2 => d_ok hK (by omega) (by omega) hp2) (fun v p2 hv hp2 => d_er hK hv hp2)
  case GAPS =>
    refine g_low (n := 257) (by omega) (by omega) (fun r1 => ?_)
    exact c_gaps (by omega) hp (fun D p2 hp2 => ⟨fun h9 => absurd h9 (nn_neg (by omega)), fun _ => d_new hK hp2⟩) (fun v p2 hv hp2 => ⟨fun _ => d_er hK hv hp2, fun h9 => absurd (er_neg hv) h9⟩)
  case CODE =>
    refine g_low (n := 2) (by omega) (by omega) (fun r1 => ?_)
    rw [on_k2]
    refine c_code ⟨by omega, by omega⟩ hp (fun k p2 hk hp2 => ⟨fun h9 => absurd h9 (nn_neg (by omega)), fun _ v hv => ?_⟩) (fun v p2 hv hp2 => ⟨fun _ w hw => ?_, fun h9 => absurd (er_neg hv) h9⟩)
    · rw [hv]
      exact d_ok hK (by omega) (by omega) hp2
    · rw [hw, Int32.add_zero]
      exact d_er hK hv hp2
  case BECOMES =>
    refine g_low (n := 4) (by omega) (by omega) (fun r1 => ?_)
    exact c_becomes hp (fun k ln' ls' p2 hk hp2 => d_ok hK (by omega) (by omega) hp2) (fun v p2 hv hp2 => d_er hK hv hp2)
  case IMAGE =>
    refine g_low (by omega) (by omega) (fun r1 => ?_)
    refine c_image hp (fun j D p2 hj ej hD hp2 => ⟨fun h9 => absurd h9 (nn_neg (by omega)), fun _ => ?_⟩) (fun v p2 hv hp2 => ⟨fun _ => ⟨1, by decide, ?_⟩, fun h9 => absurd (er_neg hv) h9⟩)
    · rw [ej]
      exact d_606 hK hj hD hp2
    · unfold w_L_law_606
      exact ⟨fun _ => d_er hK hv hp2, fun _ => ⟨fun _ => d_er hK hv hp2, fun h9 => absurd rfl h9⟩⟩
  case SET =>
    refine g_low (by omega) (by omega) (fun r1 => g_low (n := 3) (by omega) (by omega) (fun r2 => g_low (n := 3) (by omega) (by omega) (fun r3 => g_low (n := 3) (by omega) (by omega) (fun r4 => ?_))))
    exact c_set hp (fun k p2 hk hp2 => d_ok hK (by omega) (by omega) hp2) (fun v p2 hv hp2 => d_er hK hv hp2)
  case MATRIX =>
    refine g_low (n := 3) (by omega) (by omega) (fun r1 => g_low (n := 3) (by omega) (by omega) (fun r2 => ?_))
    rw [on_k1, on_k1]
    refine c_matrix ⟨by omega, by omega⟩ ⟨by omega, by omega⟩ hp (fun mD' p2 hp2 => ⟨fun h9 => absurd h9 (nn_neg (by omega)), fun _ v hv => ?_⟩) (fun v p2 hv hp2 => ⟨fun _ w hw => ?_, fun h9 => absurd (er_neg hv) h9⟩)
    · rw [hv]
      exact d_ok hK (by omega) (by omega) hp2
    · rw [hw, Int32.add_zero]
      exact d_er hK hv hp2
  case PUT =>
    refine g_low (by omega) (by omega) (fun r1 => g_low (n := 3) (by omega) (by omega) (fun r2 => g_low (n := 3) (by omega) (by omega) (fun r3 => g_low (n := 11) (by omega) (by omega) (fun r4 => ?_))))
    exact c_put (by omega) (by omega) (by omega) hp (fun k mD' p2 hk hp2 => d_ok hK (by omega) (by omega) hp2) (fun v p2 hv hp2 => d_er hK hv hp2)
  case SPLIT =>
    refine g_low (by omega) (by omega) (fun r1 => ?_)
    have rest : ∀ (y : Int64) (p2 : PH), Wd pz b sn sD mn mD tn tf ln ls p2 → (∀ m : Nat, m < mn → Int32.ofNat (lwR x7 (mn + 1)) = Int32.ofNat m → (mD m).1 = (mD m).2.1 → y = trF (mD m) 2) → w_L_low (x7 >>> ((3 : Int32) &&& 31)) (3 : Int32) p2 (fun v883 ph883 => w_L_low (x7 >>> ((5 : Int32) &&& 31)) (3 : Int32) ph883 (fun v891 ph891 => w_L_low (x7 >>> ((7 : Int32) &&& 31)) (3 : Int32) ph891 (fun v900 ph900 => w_L_call (some b) (26 : Int32) (Int32.ofNat (lwR x7 (mn + 1))) v883 v891 v900 (0 : Int32) ph900 (fun v904 ph904 => ((lg_cmp v904 (0 : Int64)) < 0 → w_L_law_1047 G Q X (fun x0 x1 x2 x3 x4 x5 ph => KR x0 x1 x2 x3 x4 x5 ph) x0 (some b) (Int32.ofNat sn) (Int32.ofNat cc) (Int32.ofNat mn) x5 (stF sn sD mn mD tn tf ln ls) v904 (0 : Int32) ph904) ∧ (¬ ((lg_cmp v904 (0 : Int64)) < 0) → w_L_call_ (some b) (30 : Int32) (Int32.ofNat (lwR x7 (mn + 1))) (3 : Int32) (0 : Int32) ph904 (fun v923 ph923 => ((lg_cmp v923 y) = 0 → w_L_law_1047 G Q X (fun x0 x1 x2 x3 x4 x5 ph => KR x0 x1 x2 x3 x4 x5 ph) x0 (some b) (Int32.ofNat sn) (Int32.ofNat cc) (Int32.ofNat mn) x5 (stF sn sD mn mD tn tf ln ls) v904 (0 : Int32) ph923) ∧ (¬ ((lg_cmp v923 y) = 0) → nZ (0 : Int32) ∧ Q (0 : Int32) ph923)) X)) X) X) X) X := by
      intro y p2 hp2 hy
      refine g_low (n := 3) (by omega) (by omega) (fun r2 => g_low (n := 3) (by omega) (by omega) (fun r3 => g_low (n := 3) (by omega) (by omega) (fun r4 => ?_)))
      refine c_split (by omega) (by omega) (by omega) hp2 (fun m k D p3 hm em hk hsq hsq2 htr hp3 => ⟨fun h9 => absurd h9 (nn_neg (by omega)), fun _ => ?_⟩) (fun v p3 hv hp3 => ⟨fun _ => d_er hK hv hp3, fun h9 => absurd (er_neg hv) h9⟩)
      have hy2 := hy m hm em hsq
      rw [em]
      refine c_trace (k := 2) (by omega) hp3 (fun m2 p4 hm2 em2 hsq3 hp4 => ?_) (fun m2 hm2 em2 hsq3 => ?_) (fun hno => absurd rfl (hno m hm))
      · rw [on_inj (by omega) (by omega)] at em2
        subst em2
        rw [ud_s]
        exact ⟨fun _ => d_ok hK (by omega) (by omega) hp4, fun h9 => absurd (lgc_eq.mpr (htr.trans hy2.symm)) h9⟩
      · rw [on_inj (by omega) (by omega)] at em2
        subst em2
        rw [ud_s] at hsq3
        exact absurd hsq2 hsq3
    refine c_trace (k := 2) (by omega) hp (fun m p2 hm em hsq hp2 => rest _ p2 hp2 (fun m2 hm2 em2 hsq2 => ?_)) (fun m hm em hsq => rest _ p hp (fun m2 hm2 em2 hsq2 => ?_)) (fun hno => rest _ p hp (fun m2 hm2 em2 hsq2 => absurd em2 (hno m2 hm2)))
    · rw [em, on_inj (by omega) (by omega)] at em2
      rw [em2]
    · rw [em, on_inj (by omega) (by omega)] at em2
      subst em2
      exact absurd hsq2 hsq
  case SAME =>
    refine g_low (by omega) (by omega) (fun r1 => ?_)
    have quick : ∀ (v : Int64) (p2 : PH), ¬ (lg_cmp v (1 : Int64)) = 0 → w_L_law_1047 G Q X KR x0 (some b) (Int32.ofNat sn) (Int32.ofNat cc) (Int32.ofNat mn) x5 (stF sn sD mn mD tn tf ln ls) v (0 : Int32) p2 → ∀ w : Int32, ∃ fu969 : Nat, fu969 ≤ 7 ∧ w_L_law_969 G Q X (fun x0 x1 x2 x3 x4 x5 x10 x12 x14 ph => w_L_law_1047 G Q X (fun x0 x1 x2 x3 x4 x5 ph => KR x0 x1 x2 x3 x4 x5 ph) x0 x1 x2 x3 x4 x5 x10 x12 x14 ph) fu969 x0 (some b) (Int32.ofNat sn) (Int32.ofNat cc) (Int32.ofNat mn) x5 x8 (stF sn sD mn mD tn tf ln ls) v (0 : Int32) w (0 : Int32) p2 := by
      intro v p2 hv h1 w
      refine ⟨1, by decide, ?_⟩
      unfold w_L_law_969
      exact ⟨fun _ => h1, fun _ => ⟨fun _ => h1, fun h9 => absurd h9 hv⟩⟩
    refine c_areSame hp (fun p2 hp2 => g_low (by omega) (by omega) (fun _ => quick 0 p2 (by decide) (d_ok (k := 0) hK (by omega) (by omega) hp2) _)) (fun i j p2 hi ei hj ej hp2 hD => g_low (by omega) (by omega) (fun _ => ?_)) (fun v p2 hv hp2 => g_low (by omega) (by omega) (fun _ => quick v p2 (er_n1 hv) (d_er hK hv hp2) _))
    rw [ei, ej]
    exact d_969 hK hi hj hD hp2
end DEEDS
