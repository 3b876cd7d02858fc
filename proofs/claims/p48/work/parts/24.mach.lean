set_option maxRecDepth 20000 in
theorem b_X10_follow_41 {C : Cx} {Z : State → Prop} {A : Nat → Prop} {G : GG} {Q : PH → Prop} {X : String → PH → Prop} {K30 : Option Nat → Int32 → PH → Prop} (hC : CxOk RX10 cX10_follow 4 G A (rmk 2 47 0 0) C) (hAo : Ao (xs C)) (hr : HV C Z A G 4 cX10_follow 0 0 Q) (hx : HX C Z A G 4 0 0 X) (hn : HN C Z A G 4 RX10 cX10_follow 0 0 (rmk 2 47 0 0) X) (hnw : HNW C Z A G 4 RX10 cX10_follow 0 0 (rmk 2 47 0 0) X) (hnx : HNX C Z A G 4 RX10 cX10_follow 0 0 (rmk 2 47 0 0) X) (hi : True) (hK30 : ∀ (x0 : Option Nat) (x2 : Int32) (ph : PH), K30 x0 x2 ph → RR C Z A G 4 30 [(0, va_rf x0), (2, .int x2)] [] ph 0 0) : ∀ (fu : Nat) (x0 : Option Nat) (x2 : Int32) (x3 : Int32) (ph : PH), w_X10_follow_41 Q X K30 fu x0 x2 x3 ph → RR C Z A G 4 41 [(0, va_rf x0), (2, .int x2), (3, .int x3)] [] ph 0 0 := by
  intro fu
  induction fu with
  | zero => intro x0 x2 x3 ph h; exact h.elim
  | succ fu ih =>
    intro x0 x2 x3 ph h
    refine r_iload_n hC dX10_follow_41 rfl 2 rfl ?_
    refine r_aload_n hC dX10_follow_42 rfl 0 rfl ?_
    obtain ⟨v43, g43, h⟩ := h
    refine r_get hC (ci := 11) (kf := 0) (N := 2) (Cn := RX10) (T := TX10) rfl (by decide) tin_X10 fl_X10_9 rfl dX10_follow_43 g43 ?_
    obtain ⟨v46, g46, h⟩ := h
    refine r_alen hC dX10_follow_46 g46 ?_
    refine r_icmp_ge (tgt := 84) hC dX10_follow_47 (by decide) (fun c9 => ?_) (fun c9 => ?_)
    · have h := h.1 c9
      refine r_iinc (w := 1) (v := x2 + 1) (lv' := [(2, .int (x2 + 1)), (0, va_rf x0), (3, .int x3)]) hC dX10_follow_84 rfl rfl (by decide) (by first | rfl | simp [lvs1, List.filter, cat_rf, cat_i, cat_j]) ?_
      refine r_goto (tgt := 30) hC dX10_follow_87 (by decide) ?_
      exact RR.wid (by decide) (by decide) (RR.sub [1, 0] rfl (hK30 _ _ _ h))
    · have h := h.2 c9
      refine r_aload_n hC dX10_follow_50 rfl 0 rfl ?_
      obtain ⟨v51, g51, h⟩ := h
      refine r_get hC (ci := 11) (kf := 0) (N := 2) (Cn := RX10) (T := TX10) rfl (by decide) tin_X10 fl_X10_9 rfl dX10_follow_51 g51 ?_
      refine r_iload_n hC dX10_follow_54 rfl 2 rfl ?_
      obtain ⟨v55, g55, h⟩ := h
      refine r_iald hC dX10_follow_55 g55 ?_
      refine r_iload_n hC dX10_follow_56 rfl 1 rfl ?_
      refine r_SI hC hAo [.int v55, .int x2] cal_X11_hasBit ml_X10_24 rfl (c_X11_hasBit G _ _ _ _ _ h) ⟨by decide, by decide⟩ ⟨by decide, by decide⟩ (by simp only [List.map_nil, List.map_cons, List.sum_nil, List.sum_cons, cat_rf, cat_i, cat_j]; decide) rfl dX10_follow_57 (fun E u hx9 => hx _ _ _ _ _ _ _ (by decide) (by decide) hx9) (fun v57 ph57 h => ?_)
      refine RR.wid (k' := 0) (n' := 0) (by decide) (by decide) ?_
      refine r_if_eq (tgt := 78) hC dX10_follow_60 (by decide) (fun c9 => ?_) (fun c9 => ?_)
      · have h := h.1 c9
        refine r_iinc (w := 2) (v := x3 + 1) (lv' := [(3, .int (x3 + 1)), (0, va_rf x0), (2, .int x2)]) hC dX10_follow_78 rfl rfl (by decide) (by first | rfl | simp [lvs1, List.filter, cat_rf, cat_i, cat_j]) ?_
        refine r_goto (tgt := 41) hC dX10_follow_81 (by decide) ?_
        exact RR.wid (by decide) (by decide) (RR.sub [1, 2, 0] rfl (ih _ _ _ _ h))
      · have h := h.2 c9
        refine r_aload_n hC dX10_follow_63 rfl 0 rfl ?_
        obtain ⟨v64, g64, h⟩ := h
        refine r_get hC (ci := 11) (kf := 0) (N := 2) (Cn := RX10) (T := TX10) rfl (by decide) tin_X10 fl_X10_9 rfl dX10_follow_64 g64 ?_
        refine r_iload_n hC dX10_follow_67 rfl 2 rfl ?_
        refine r_dup2 hC dX10_follow_68 (by first | rfl | exact cat_rf _) (by first | rfl | exact cat_rf _) ?_
        obtain ⟨v69, g69, h⟩ := h
        refine r_iald hC dX10_follow_69 g69 ?_
        refine r_aload_n hC dX10_follow_70 rfl 0 rfl ?_
        obtain ⟨v71, g71, h⟩ := h
        refine r_get hC (ci := 11) (kf := 0) (N := 2) (Cn := RX10) (T := TX10) rfl (by decide) tin_X10 fl_X10_9 rfl dX10_follow_71 g71 ?_
        refine r_iload_n hC dX10_follow_74 rfl 1 rfl ?_
        obtain ⟨v75, g75, h⟩ := h
        refine r_iald hC dX10_follow_75 g75 ?_
        refine r_ior hC dX10_follow_76 ?_
        obtain ⟨ph77, g77, h⟩ := h
        refine r_iast hC dX10_follow_77 g77 ?_
        refine r_iinc (w := 2) (v := x3 + 1) (lv' := [(3, .int (x3 + 1)), (0, va_rf x0), (2, .int x2)]) hC dX10_follow_78 rfl rfl (by decide) (by first | rfl | simp [lvs1, List.filter, cat_rf, cat_i, cat_j]) ?_
        refine r_goto (tgt := 41) hC dX10_follow_81 (by decide) ?_
        exact RR.wid (by decide) (by decide) (RR.sub [1, 2, 0] rfl (ih _ _ _ _ h))
set_option maxRecDepth 20000 in
theorem b_X10_follow_30 {C : Cx} {Z : State → Prop} {A : Nat → Prop} {G : GG} {Q : PH → Prop} {X : String → PH → Prop} (hC : CxOk RX10 cX10_follow 4 G A (rmk 2 47 0 0) C) (hAo : Ao (xs C)) (hr : HV C Z A G 4 cX10_follow 0 0 Q) (hx : HX C Z A G 4 0 0 X) (hn : HN C Z A G 4 RX10 cX10_follow 0 0 (rmk 2 47 0 0) X) (hnw : HNW C Z A G 4 RX10 cX10_follow 0 0 (rmk 2 47 0 0) X) (hnx : HNX C Z A G 4 RX10 cX10_follow 0 0 (rmk 2 47 0 0) X) (hi : True) : ∀ (fu : Nat) (x0 : Option Nat) (x2 : Int32) (ph : PH), w_X10_follow_30 Q X fu x0 x2 ph → RR C Z A G 4 30 [(0, va_rf x0), (2, .int x2)] [] ph 0 0 := by
  intro fu
  induction fu with
  | zero => intro x0 x2 ph h; exact h.elim
  | succ fu ih =>
    intro x0 x2 ph h
    refine r_iload_n hC dX10_follow_30 rfl 1 rfl ?_
    refine r_aload_n hC dX10_follow_31 rfl 0 rfl ?_
    obtain ⟨v32, g32, h⟩ := h
    refine r_get hC (ci := 11) (kf := 0) (N := 2) (Cn := RX10) (T := TX10) rfl (by decide) tin_X10 fl_X10_9 rfl dX10_follow_32 g32 ?_
    obtain ⟨v35, g35, h⟩ := h
    refine r_alen hC dX10_follow_35 g35 ?_
    refine r_icmp_ge (tgt := 90) hC dX10_follow_36 (by decide) (fun c9 => ?_) (fun c9 => ?_)
    · have h := h.1 c9
      exact hr _ _ _ _ _ dX10_follow_90 (by decide) (by decide) h
    · have h := h.2 c9
      refine r_iconst (v := 0) hC dX10_follow_39 (by decide) ?_
      refine r_istore_n (i := 3) (lv' := [(3, .int (0 : Int32)), (0, va_rf x0), (2, .int x2)]) hC dX10_follow_40 rfl (by decide) (by first | rfl | simp [lvs1, lvs2, List.filter, cat_rf, cat_i, cat_j]) ?_
      have k41_30 : ∀ (x0 : Option Nat) (x2 : Int32) (ph : PH), w_X10_follow_30 Q X fu x0 x2 ph → RR C Z A G 4 30 [(0, va_rf x0), (2, .int x2)] [] ph 0 0 := by
        intro x0 x2 ph h
        exact RR.wid (by decide) (by decide) (RR.sub [0, 1] rfl (ih _ _ _ h))
      obtain ⟨fu41, h⟩ := h
      exact RR.wid (by decide) (by decide) (RR.sub [1, 2, 0] rfl (b_X10_follow_41 hC hAo hr hx hn hnw hnx hi k41_30 fu41 _ _ _ _ h))
set_option maxRecDepth 20000 in
theorem b_X10_follow_2 {C : Cx} {Z : State → Prop} {A : Nat → Prop} {G : GG} {Q : PH → Prop} {X : String → PH → Prop} (hC : CxOk RX10 cX10_follow 4 G A (rmk 2 47 0 0) C) (hAo : Ao (xs C)) (hr : HV C Z A G 4 cX10_follow 0 0 Q) (hx : HX C Z A G 4 0 0 X) (hn : HN C Z A G 4 RX10 cX10_follow 0 0 (rmk 2 47 0 0) X) (hnw : HNW C Z A G 4 RX10 cX10_follow 0 0 (rmk 2 47 0 0) X) (hnx : HNX C Z A G 4 RX10 cX10_follow 0 0 (rmk 2 47 0 0) X) (hi : True) : ∀ (fu : Nat) (x0 : Option Nat) (x1 : Option Nat) (x2 : Int32) (ph : PH), w_X10_follow_2 Q X fu x0 x1 x2 ph → RR C Z A G 4 2 [(0, va_rf x0), (1, va_rf x1), (2, .int x2)] [] ph 0 0 := by
  intro fu
  induction fu with
  | zero => intro x0 x1 x2 ph h; exact h.elim
  | succ fu ih =>
    intro x0 x1 x2 ph h
    refine r_iload_n hC dX10_follow_2 rfl 2 rfl ?_
    refine r_aload_n hC dX10_follow_3 rfl 0 rfl ?_
    obtain ⟨v4, g4, h⟩ := h
    refine r_get hC (ci := 11) (kf := 0) (N := 2) (Cn := RX10) (T := TX10) rfl (by decide) tin_X10 fl_X10_9 rfl dX10_follow_4 g4 ?_
    obtain ⟨v7, g7, h⟩ := h
    refine r_alen hC dX10_follow_7 g7 ?_
    refine r_icmp_ge (tgt := 28) hC dX10_follow_8 (by decide) (fun c9 => ?_) (fun c9 => ?_)
    · have h := h.1 c9
      refine r_iconst (v := 0) hC dX10_follow_28 (by decide) ?_
      refine r_istore_n (i := 2) (lv' := [(2, .int (0 : Int32)), (0, va_rf x0), (1, va_rf x1)]) hC dX10_follow_29 rfl (by decide) (by first | rfl | simp [lvs1, lvs2, List.filter, cat_rf, cat_i, cat_j]) ?_
      obtain ⟨fu30, h⟩ := h
      exact RR.wid (by decide) (by decide) (RR.sub [1, 0] rfl (b_X10_follow_30 hC hAo hr hx hn hnw hnx hi  fu30 _ _ _ h))
    · have h := h.2 c9
      refine r_aload_n hC dX10_follow_11 rfl 0 rfl ?_
      obtain ⟨v12, g12, h⟩ := h
      refine r_get hC (ci := 11) (kf := 0) (N := 2) (Cn := RX10) (T := TX10) rfl (by decide) tin_X10 fl_X10_9 rfl dX10_follow_12 g12 ?_
      refine r_iload_n hC dX10_follow_15 rfl 2 rfl ?_
      refine r_aload_n hC dX10_follow_16 rfl 1 rfl ?_
      refine r_iload_n hC dX10_follow_17 rfl 2 rfl ?_
      obtain ⟨a18, o18, h⟩ := h
      refine r_VI hC hAo [.int x2] cal_X3_allTargets ml_X10_18 (ci := 6) rfl rfl rfl (c_X3_allTargets G _ _ _ _ _ h) o18 ⟨by decide, by decide⟩ ⟨by decide, by decide⟩ (by simp only [List.map_nil, List.map_cons, List.sum_nil, List.sum_cons, cat_rf, cat_i, cat_j]; decide) rfl dX10_follow_18 (fun E u hx9 => hx _ _ _ _ _ _ _ (by decide) (by decide) hx9) (fun v18 ph18 h => ?_)
      refine RR.wid (k' := 0) (n' := 0) (by decide) (by decide) ?_
      obtain ⟨ph21, g21, h⟩ := h
      refine r_iast hC dX10_follow_21 g21 ?_
      refine r_iinc (w := 2) (v := x2 + 1) (lv' := [(2, .int (x2 + 1)), (0, va_rf x0), (1, va_rf x1)]) hC dX10_follow_22 rfl rfl (by decide) (by first | rfl | simp [lvs1, List.filter, cat_rf, cat_i, cat_j]) ?_
      refine r_goto (tgt := 2) hC dX10_follow_25 (by decide) ?_
      exact RR.wid (by decide) (by decide) (RR.sub [1, 2, 0] rfl (ih _ _ _ _ h))
set_option maxRecDepth 20000 in
theorem c_X10_follow (G : GG) (x0 : Nat) (x1 : Option Nat) (ph : PH) (Q : PH → Prop) (X : String → PH → Prop) (h : w_X10_follow x0 x1 ph Q X) : Ct G yX10_follow (.code yX10_follow cX10_follow 4 none) 2 47 0 0 [va_rf (some x0), va_rf x1] ph (oV Q) X := by
  refine ct_of (lv0 := [(0, va_rf (some x0)), (1, va_rf x1)]) (by decide +kernel) (by simp [lg_sl, cat_rf, cat_i, cat_j]) (by simp [lv_args, cat_rf, cat_i, cat_j]) ?_
  intro C A hC hAo hex hrt hnm
  have hr : HV C (ZM C G A (oV Q) X 0 0) A G 4 cX10_follow 0 0 Q := fun pc lv ph k n d hk hn hq => e_v hC hrt pc lv ph k n d hk hn ⟨rfl, hq⟩
  have hx := e_x (Q := oV Q) (X := X) (mc := 0) (ms := 0) hC hex
  have hn := e_n (Q := oV Q) (X := X) (mc := 0) (ms := 0) hC hex
  have hnw := e_nw (Q := oV Q) (X := X) (mc := 0) (ms := 0) hC hex
  have hnx := e_nx (Q := oV Q) (X := X) (mc := 0) (ms := 0) hC hex
  have hi : True := trivial
  generalize ZM C G A (oV Q) X 0 0 = Z at *
  refine r_iconst (v := 0) hC dX10_follow_0 (by decide) ?_
  refine r_istore_n (i := 2) (lv' := [(2, .int (0 : Int32)), (0, va_rf (some x0)), (1, va_rf x1)]) hC dX10_follow_1 rfl (by decide) (by first | rfl | simp [lvs1, lvs2, List.filter, cat_rf, cat_i, cat_j]) ?_
  obtain ⟨fu2, h⟩ := h
  exact RR.wid (by decide) (by decide) (RR.sub [1, 2, 0] rfl (b_X10_follow_2 hC hAo hr hx hn hnw hnx hi  fu2 _ _ _ _ h))
set_option maxRecDepth 20000 in
theorem c_X10_reachOf (G : GG) (x0 : Nat) (x1 : Int32) (ph : PH) (Q : Int32 → PH → Prop) (X : String → PH → Prop) (h : w_X10_reachOf x0 x1 ph Q X) : Ct G yX10_reachOf (.code yX10_reachOf cX10_reachOf 2 (some (.int))) 0 0 0 0 [va_rf (some x0), .int x1] ph (oI Q) X := by
  refine ct_of (lv0 := [(0, va_rf (some x0)), (1, .int x1)]) (by decide +kernel) (by simp [lg_sl, cat_rf, cat_i, cat_j]) (by simp [lv_args, cat_rf, cat_i, cat_j]) ?_
  intro C A hC hAo hex hrt hnm
  have hr : HI C (ZM C G A (oI Q) X 0 0) A G 2 cX10_reachOf 0 0 Q := fun pc lv v ph k n d hk hn hq => e_i hC hrt pc lv v ph k n d hk hn ⟨v, rfl, hq⟩
  have hx := e_x (Q := oI Q) (X := X) (mc := 0) (ms := 0) hC hex
  have hn := e_n (Q := oI Q) (X := X) (mc := 0) (ms := 0) hC hex
  have hnw := e_nw (Q := oI Q) (X := X) (mc := 0) (ms := 0) hC hex
  have hnx := e_nx (Q := oI Q) (X := X) (mc := 0) (ms := 0) hC hex
  have hi : True := trivial
  generalize ZM C G A (oI Q) X 0 0 = Z at *
  refine r_iload_n hC dX10_reachOf_0 rfl 1 rfl ?_
  refine r_if_lt (tgt := 22) hC dX10_reachOf_1 (by decide) (fun c9 => ?_) (fun c9 => ?_)
  · have h := h.1 c9
    refine r_iconst (v := 0) hC dX10_reachOf_22 (by decide) ?_
    exact hr _ _ _ _ _ _ dX10_reachOf_23 (by decide) (by decide) h
  · have h := h.2 c9
    refine r_iload_n hC dX10_reachOf_4 rfl 1 rfl ?_
    refine r_aload_n hC dX10_reachOf_5 rfl 0 rfl ?_
    obtain ⟨v6, g6, h⟩ := h
    refine r_get hC (ci := 11) (kf := 0) (N := 2) (Cn := RX10) (T := TX10) rfl (by decide) tin_X10 fl_X10_9 rfl dX10_reachOf_6 g6 ?_
    obtain ⟨v9, g9, h⟩ := h
    refine r_alen hC dX10_reachOf_9 g9 ?_
    refine r_icmp_ge (tgt := 22) hC dX10_reachOf_10 (by decide) (fun c9 => ?_) (fun c9 => ?_)
    · have h := h.1 c9
      refine r_iconst (v := 0) hC dX10_reachOf_22 (by decide) ?_
      exact hr _ _ _ _ _ _ dX10_reachOf_23 (by decide) (by decide) h
    · have h := h.2 c9
      refine r_aload_n hC dX10_reachOf_13 rfl 0 rfl ?_
      obtain ⟨v14, g14, h⟩ := h
      refine r_get hC (ci := 11) (kf := 0) (N := 2) (Cn := RX10) (T := TX10) rfl (by decide) tin_X10 fl_X10_9 rfl dX10_reachOf_14 g14 ?_
      refine r_iload_n hC dX10_reachOf_17 rfl 1 rfl ?_
      obtain ⟨v18, g18, h⟩ := h
      refine r_iald hC dX10_reachOf_18 g18 ?_
      refine r_goto (tgt := 23) hC dX10_reachOf_19 (by decide) ?_
      exact hr _ _ _ _ _ _ dX10_reachOf_23 (by decide) (by decide) h
set_option maxRecDepth 20000 in
theorem b_X10_partOf_4 {C : Cx} {Z : State → Prop} {A : Nat → Prop} {G : GG} {Q : Int32 → PH → Prop} {X : String → PH → Prop} (hC : CxOk RX10 cX10_partOf 4 G A (rmk 1 21 0 0) C) (hAo : Ao (xs C)) (hr : HI C Z A G 4 cX10_partOf 0 0 Q) (hx : HX C Z A G 4 0 0 X) (hn : HN C Z A G 4 RX10 cX10_partOf 0 0 (rmk 1 21 0 0) X) (hnw : HNW C Z A G 4 RX10 cX10_partOf 0 0 (rmk 1 21 0 0) X) (hnx : HNX C Z A G 4 RX10 cX10_partOf 0 0 (rmk 1 21 0 0) X) (hi : True) : ∀ (fu : Nat) (x0 : Option Nat) (x1 : Int32) (x2 : Int32) (x3 : Int32) (ph : PH), w_X10_partOf_4 Q X fu x0 x1 x2 x3 ph → RR C Z A G 4 4 [(0, va_rf x0), (1, .int x1), (2, .int x2), (3, .int x3)] [] ph 0 0 := by
  intro fu
  induction fu with
  | zero => intro x0 x1 x2 x3 ph h; exact h.elim
  | succ fu ih =>
    intro x0 x1 x2 x3 ph h
    refine r_iload_n hC dX10_partOf_4 rfl 3 rfl ?_
    refine r_aload_n hC dX10_partOf_5 rfl 0 rfl ?_
    obtain ⟨v6, g6, h⟩ := h
    refine r_get hC (ci := 11) (kf := 0) (N := 2) (Cn := RX10) (T := TX10) rfl (by decide) tin_X10 fl_X10_9 rfl dX10_partOf_6 g6 ?_
    obtain ⟨v9, g9, h⟩ := h
    refine r_alen hC dX10_partOf_9 g9 ?_
    refine r_icmp_ge (tgt := 50) hC dX10_partOf_10 (by decide) (fun c9 => ?_) (fun c9 => ?_)
    · have h := h.1 c9
      refine r_iload_n hC dX10_partOf_50 rfl 2 rfl ?_
      exact hr _ _ _ _ _ _ dX10_partOf_51 (by decide) (by decide) h
    · have h := h.2 c9
      refine r_aload_n hC dX10_partOf_13 rfl 0 rfl ?_
      refine r_iload_n hC dX10_partOf_14 rfl 1 rfl ?_
      obtain ⟨a15, o15, h⟩ := h
      refine r_VI hC hAo [.int x1] cal_X10_reachOf ml_X10_28 (ci := 11) rfl rfl rfl (c_X10_reachOf G _ _ _ _ _ h) o15 ⟨by decide, by decide⟩ ⟨by decide, by decide⟩ (by simp only [List.map_nil, List.map_cons, List.sum_nil, List.sum_cons, cat_rf, cat_i, cat_j]; decide) rfl dX10_partOf_15 (fun E u hx9 => hx _ _ _ _ _ _ _ (by decide) (by decide) hx9) (fun v15 ph15 h => ?_)
      refine RR.wid (k' := 0) (n' := 0) (by decide) (by decide) ?_
      refine r_iload_n hC dX10_partOf_18 rfl 3 rfl ?_
      refine r_SI hC hAo [.int v15, .int x3] cal_X11_hasBit ml_X10_24 rfl (c_X11_hasBit G _ _ _ _ _ h) ⟨by decide, by decide⟩ ⟨by decide, by decide⟩ (by simp only [List.map_nil, List.map_cons, List.sum_nil, List.sum_cons, cat_rf, cat_i, cat_j]; decide) rfl dX10_partOf_19 (fun E u hx9 => hx _ _ _ _ _ _ _ (by decide) (by decide) hx9) (fun v19 ph19 h => ?_)
      refine RR.wid (k' := 0) (n' := 0) (by decide) (by decide) ?_
      refine r_if_eq (tgt := 44) hC dX10_partOf_22 (by decide) (fun c9 => ?_) (fun c9 => ?_)
      · have h := h.1 c9
        refine r_iinc (w := 3) (v := x3 + 1) (lv' := [(3, .int (x3 + 1)), (0, va_rf x0), (1, .int x1), (2, .int x2)]) hC dX10_partOf_44 rfl rfl (by decide) (by first | rfl | simp [lvs1, List.filter, cat_rf, cat_i, cat_j]) ?_
        refine r_goto (tgt := 4) hC dX10_partOf_47 (by decide) ?_
        exact RR.wid (by decide) (by decide) (RR.sub [1, 2, 3, 0] rfl (ih _ _ _ _ _ h))
      · have h := h.2 c9
        refine r_aload_n hC dX10_partOf_25 rfl 0 rfl ?_
        obtain ⟨v26, g26, h⟩ := h
        refine r_get hC (ci := 11) (kf := 0) (N := 2) (Cn := RX10) (T := TX10) rfl (by decide) tin_X10 fl_X10_9 rfl dX10_partOf_26 g26 ?_
        refine r_iload_n hC dX10_partOf_29 rfl 3 rfl ?_
        obtain ⟨v30, g30, h⟩ := h
        refine r_iald hC dX10_partOf_30 g30 ?_
        refine r_iload_n hC dX10_partOf_31 rfl 1 rfl ?_
        refine r_SI hC hAo [.int v30, .int x1] cal_X11_hasBit ml_X10_24 rfl (c_X11_hasBit G _ _ _ _ _ h) ⟨by decide, by decide⟩ ⟨by decide, by decide⟩ (by simp only [List.map_nil, List.map_cons, List.sum_nil, List.sum_cons, cat_rf, cat_i, cat_j]; decide) rfl dX10_partOf_32 (fun E u hx9 => hx _ _ _ _ _ _ _ (by decide) (by decide) hx9) (fun v32 ph32 h => ?_)
        refine RR.wid (k' := 0) (n' := 0) (by decide) (by decide) ?_
        refine r_if_eq (tgt := 44) hC dX10_partOf_35 (by decide) (fun c9 => ?_) (fun c9 => ?_)
        · have h := h.1 c9
          refine r_iinc (w := 3) (v := x3 + 1) (lv' := [(3, .int (x3 + 1)), (0, va_rf x0), (1, .int x1), (2, .int x2)]) hC dX10_partOf_44 rfl rfl (by decide) (by first | rfl | simp [lvs1, List.filter, cat_rf, cat_i, cat_j]) ?_
          refine r_goto (tgt := 4) hC dX10_partOf_47 (by decide) ?_
          exact RR.wid (by decide) (by decide) (RR.sub [1, 2, 3, 0] rfl (ih _ _ _ _ _ h))
        · have h := h.2 c9
          refine r_iload_n hC dX10_partOf_38 rfl 2 rfl ?_
          refine r_iconst (v := 1) hC dX10_partOf_39 (by decide) ?_
          refine r_iload_n hC dX10_partOf_40 rfl 3 rfl ?_
          refine r_ishl hC dX10_partOf_41 ?_
          refine r_ior hC dX10_partOf_42 ?_
          obtain ⟨v43, ev43⟩ : ∃ z : Int32, z = x2 ||| ((1 : Int32) <<< (x3 &&& 31)) := ⟨_, rfl⟩
          have h := h v43 ev43
          refine RR.to (st' := [.int v43]) (by rw [ev43]) ?_
          refine r_istore_n (i := 2) (lv' := [(2, .int v43), (0, va_rf x0), (1, .int x1), (3, .int x3)]) hC dX10_partOf_43 rfl (by decide) (by first | rfl | simp [lvs1, lvs2, List.filter, cat_rf, cat_i, cat_j]) ?_
          refine r_iinc (w := 3) (v := x3 + 1) (lv' := [(3, .int (x3 + 1)), (2, .int v43), (0, va_rf x0), (1, .int x1)]) hC dX10_partOf_44 rfl rfl (by decide) (by first | rfl | simp [lvs1, List.filter, cat_rf, cat_i, cat_j]) ?_
          refine r_goto (tgt := 4) hC dX10_partOf_47 (by decide) ?_
          exact RR.wid (by decide) (by decide) (RR.sub [2, 3, 1, 0] rfl (ih _ _ _ _ _ h))
set_option maxRecDepth 20000 in
theorem c_X10_partOf (G : GG) (x0 : Nat) (x1 : Int32) (ph : PH) (Q : Int32 → PH → Prop) (X : String → PH → Prop) (h : w_X10_partOf x0 x1 ph Q X) : Ct G yX10_partOf (.code yX10_partOf cX10_partOf 4 (some (.int))) 1 21 0 0 [va_rf (some x0), .int x1] ph (oI Q) X := by
  refine ct_of (lv0 := [(0, va_rf (some x0)), (1, .int x1)]) (by decide +kernel) (by simp [lg_sl, cat_rf, cat_i, cat_j]) (by simp [lv_args, cat_rf, cat_i, cat_j]) ?_
  intro C A hC hAo hex hrt hnm
  have hr : HI C (ZM C G A (oI Q) X 0 0) A G 4 cX10_partOf 0 0 Q := fun pc lv v ph k n d hk hn hq => e_i hC hrt pc lv v ph k n d hk hn ⟨v, rfl, hq⟩
  have hx := e_x (Q := oI Q) (X := X) (mc := 0) (ms := 0) hC hex
  have hn := e_n (Q := oI Q) (X := X) (mc := 0) (ms := 0) hC hex
  have hnw := e_nw (Q := oI Q) (X := X) (mc := 0) (ms := 0) hC hex
  have hnx := e_nx (Q := oI Q) (X := X) (mc := 0) (ms := 0) hC hex
  have hi : True := trivial
  generalize ZM C G A (oI Q) X 0 0 = Z at *
  refine r_iconst (v := 0) hC dX10_partOf_0 (by decide) ?_
  refine r_istore_n (i := 2) (lv' := [(2, .int (0 : Int32)), (0, va_rf (some x0)), (1, .int x1)]) hC dX10_partOf_1 rfl (by decide) (by first | rfl | simp [lvs1, lvs2, List.filter, cat_rf, cat_i, cat_j]) ?_
  refine r_iconst (v := 0) hC dX10_partOf_2 (by decide) ?_
  refine r_istore_n (i := 3) (lv' := [(3, .int (0 : Int32)), (2, .int (0 : Int32)), (0, va_rf (some x0)), (1, .int x1)]) hC dX10_partOf_3 rfl (by decide) (by first | rfl | simp [lvs1, lvs2, List.filter, cat_rf, cat_i, cat_j]) ?_
  obtain ⟨fu4, h⟩ := h
  exact RR.wid (by decide) (by decide) (RR.sub [2, 3, 1, 0] rfl (b_X10_partOf_4 hC hAo hr hx hn hnw hnx hi  fu4 _ _ _ _ _ h))
set_option maxRecDepth 20000 in
theorem b_X10_countParts_40 {C : Cx} {Z : State → Prop} {A : Nat → Prop} {G : GG} {Q : Int32 → PH → Prop} {X : String → PH → Prop} {K9 : Option Nat → Option Nat → Int32 → Int32 → PH → Prop} (hC : CxOk RX10 cX10_countParts 6 G A (rmk 3 70 0 0) C) (hAo : Ao (xs C)) (hr : HI C Z A G 6 cX10_countParts 0 0 Q) (hx : HX C Z A G 6 0 0 X) (hn : HN C Z A G 6 RX10 cX10_countParts 0 0 (rmk 3 70 0 0) X) (hnw : HNW C Z A G 6 RX10 cX10_countParts 0 0 (rmk 3 70 0 0) X) (hnx : HNX C Z A G 6 RX10 cX10_countParts 0 0 (rmk 3 70 0 0) X) (hi : True) (hK9 : ∀ (x0 : Option Nat) (x1 : Option Nat) (x2 : Int32) (x3 : Int32) (ph : PH), K9 x0 x1 x2 x3 ph → RR C Z A G 6 9 [(0, va_rf x0), (1, va_rf x1), (2, .int x2), (3, .int x3)] [] ph 0 0) : ∀ (x0 : Option Nat) (x1 : Option Nat) (x2 : Int32) (x3 : Int32) (x4 : Int32) (s0 : Int32) (ph : PH), w_X10_countParts_40 Q X K9 x0 x1 x2 x3 x4 s0 ph → RR C Z A G 6 40 [(0, va_rf x0), (1, va_rf x1), (2, .int x2), (3, .int x3), (4, .int x4)] [.int s0] ph 0 0 := by
  intro x0 x1 x2 x3 x4 s0 ph h
  refine r_istore (i := 5) (lv' := [(5, .int s0), (0, va_rf x0), (1, va_rf x1), (2, .int x2), (3, .int x3), (4, .int x4)]) hC dX10_countParts_40 (by decide) (by first | rfl | simp [lvs1, lvs2, List.filter, cat_rf, cat_i, cat_j]) ?_
  refine r_iload hC dX10_countParts_42 5 rfl ?_
  refine r_if_eq (tgt := 55) hC dX10_countParts_44 (by decide) (fun c9 => ?_) (fun c9 => ?_)
  · have h := h.1 c9
    refine r_iinc (w := 4) (v := x3 + 1) (lv' := [(3, .int (x3 + 1)), (5, .int s0), (0, va_rf x0), (1, va_rf x1), (2, .int x2), (4, .int x4)]) hC dX10_countParts_55 rfl rfl (by decide) (by first | rfl | simp [lvs1, List.filter, cat_rf, cat_i, cat_j]) ?_
    refine r_goto (tgt := 9) hC dX10_countParts_58 (by decide) ?_
    exact RR.wid (by decide) (by decide) (RR.sub [2, 3, 4, 0] rfl (hK9 _ _ _ _ _ h))
  · have h := h.2 c9
    refine r_iload hC dX10_countParts_47 0 rfl ?_
    refine r_if_eq (tgt := 55) hC dX10_countParts_49 (by decide) (fun c9 => ?_) (fun c9 => ?_)
    · have h := h.1 c9
      refine r_iinc (w := 4) (v := x3 + 1) (lv' := [(3, .int (x3 + 1)), (5, .int s0), (0, va_rf x0), (1, va_rf x1), (2, .int x2), (4, .int x4)]) hC dX10_countParts_55 rfl rfl (by decide) (by first | rfl | simp [lvs1, List.filter, cat_rf, cat_i, cat_j]) ?_
      refine r_goto (tgt := 9) hC dX10_countParts_58 (by decide) ?_
      exact RR.wid (by decide) (by decide) (RR.sub [2, 3, 4, 0] rfl (hK9 _ _ _ _ _ h))
    · have h := h.2 c9
      refine r_iinc (w := 3) (v := x2 + 1) (lv' := [(2, .int (x2 + 1)), (5, .int s0), (0, va_rf x0), (1, va_rf x1), (3, .int x3), (4, .int x4)]) hC dX10_countParts_52 rfl rfl (by decide) (by first | rfl | simp [lvs1, List.filter, cat_rf, cat_i, cat_j]) ?_
      refine r_iinc (w := 4) (v := x3 + 1) (lv' := [(3, .int (x3 + 1)), (2, .int (x2 + 1)), (5, .int s0), (0, va_rf x0), (1, va_rf x1), (4, .int x4)]) hC dX10_countParts_55 rfl rfl (by decide) (by first | rfl | simp [lvs1, List.filter, cat_rf, cat_i, cat_j]) ?_
      refine r_goto (tgt := 9) hC dX10_countParts_58 (by decide) ?_
      exact RR.wid (by decide) (by decide) (RR.sub [3, 4, 1, 0] rfl (hK9 _ _ _ _ _ h))
set_option maxRecDepth 20000 in
theorem b_X10_countParts_9 {C : Cx} {Z : State → Prop} {A : Nat → Prop} {G : GG} {Q : Int32 → PH → Prop} {X : String → PH → Prop} (hC : CxOk RX10 cX10_countParts 6 G A (rmk 3 70 0 0) C) (hAo : Ao (xs C)) (hr : HI C Z A G 6 cX10_countParts 0 0 Q) (hx : HX C Z A G 6 0 0 X) (hn : HN C Z A G 6 RX10 cX10_countParts 0 0 (rmk 3 70 0 0) X) (hnw : HNW C Z A G 6 RX10 cX10_countParts 0 0 (rmk 3 70 0 0) X) (hnx : HNX C Z A G 6 RX10 cX10_countParts 0 0 (rmk 3 70 0 0) X) (hi : True) : ∀ (fu : Nat) (x0 : Option Nat) (x1 : Option Nat) (x2 : Int32) (x3 : Int32) (ph : PH), w_X10_countParts_9 Q X fu x0 x1 x2 x3 ph → RR C Z A G 6 9 [(0, va_rf x0), (1, va_rf x1), (2, .int x2), (3, .int x3)] [] ph 0 0 := by
  intro fu
  induction fu with
  | zero => intro x0 x1 x2 x3 ph h; exact h.elim
  | succ fu ih =>
    intro x0 x1 x2 x3 ph h
    refine r_iload_n hC dX10_countParts_9 rfl 3 rfl ?_
    refine r_aload_n hC dX10_countParts_10 rfl 1 rfl ?_
    obtain ⟨v11, g11, h⟩ := h
    refine r_get hC (ci := 6) (kf := 0) (N := 3) (Cn := RX3) (T := TX3) rfl (by decide) tin_X3 fl_X10_35 rfl dX10_countParts_11 g11 ?_
    refine r_icmp_ge (tgt := 61) hC dX10_countParts_14 (by decide) (fun c9 => ?_) (fun c9 => ?_)
    · have h := h.1 c9
      refine r_iload_n hC dX10_countParts_61 rfl 2 rfl ?_
      exact hr _ _ _ _ _ _ dX10_countParts_62 (by decide) (by decide) h
    · have h := h.2 c9
      refine r_aload_n hC dX10_countParts_17 rfl 0 rfl ?_
      refine r_iload_n hC dX10_countParts_18 rfl 3 rfl ?_
      obtain ⟨a19, o19, h⟩ := h
      refine r_VI hC hAo [.int x3] cal_X10_partOf ml_X10_39 (ci := 11) rfl rfl rfl (c_X10_partOf G _ _ _ _ _ h) o19 ⟨by decide, by decide⟩ ⟨by decide, by decide⟩ (by simp only [List.map_nil, List.map_cons, List.sum_nil, List.sum_cons, cat_rf, cat_i, cat_j]; decide) rfl dX10_countParts_19 (fun E u hx9 => hx _ _ _ _ _ _ _ (by decide) (by decide) hx9) (fun v19 ph19 h => ?_)
      refine RR.wid (k' := 0) (n' := 0) (by decide) (by decide) ?_
      refine r_istore (i := 4) (lv' := [(4, .int v19), (0, va_rf x0), (1, va_rf x1), (2, .int x2), (3, .int x3)]) hC dX10_countParts_22 (by decide) (by first | rfl | simp [lvs1, lvs2, List.filter, cat_rf, cat_i, cat_j]) ?_
      refine r_iload hC dX10_countParts_24 0 rfl ?_
      refine r_iconst (v := 1) hC dX10_countParts_26 (by decide) ?_
      refine r_iload_n hC dX10_countParts_27 rfl 4 rfl ?_
      refine r_ishl hC dX10_countParts_28 ?_
      refine r_iconst (v := 1) hC dX10_countParts_29 (by decide) ?_
      refine r_isub hC dX10_countParts_30 ?_
      refine r_iand hC dX10_countParts_31 ?_
      refine r_if_ne (tgt := 39) hC dX10_countParts_32 (by decide) (fun c9 => ?_) (fun c9 => ?_)
      · have h := h.1 c9
        refine r_iconst (v := 0) hC dX10_countParts_39 (by decide) ?_
        have k40_9 : ∀ (x0 : Option Nat) (x1 : Option Nat) (x2 : Int32) (x3 : Int32) (ph : PH), w_X10_countParts_9 Q X fu x0 x1 x2 x3 ph → RR C Z A G 6 9 [(0, va_rf x0), (1, va_rf x1), (2, .int x2), (3, .int x3)] [] ph 0 0 := by
          intro x0 x1 x2 x3 ph h
          exact RR.wid (by decide) (by decide) (RR.sub [0, 1, 2, 3] rfl (ih _ _ _ _ _ h))
        exact RR.wid (by decide) (by decide) (RR.sub [1, 2, 3, 4, 0] rfl (b_X10_countParts_40 hC hAo hr hx hn hnw hnx hi k40_9 _ _ _ _ _ _ _ h))
      · have h := h.2 c9
        refine r_iconst (v := 1) hC dX10_countParts_35 (by decide) ?_
        refine r_goto (tgt := 40) hC dX10_countParts_36 (by decide) ?_
        have k40_9 : ∀ (x0 : Option Nat) (x1 : Option Nat) (x2 : Int32) (x3 : Int32) (ph : PH), w_X10_countParts_9 Q X fu x0 x1 x2 x3 ph → RR C Z A G 6 9 [(0, va_rf x0), (1, va_rf x1), (2, .int x2), (3, .int x3)] [] ph 0 0 := by
          intro x0 x1 x2 x3 ph h
          exact RR.wid (by decide) (by decide) (RR.sub [0, 1, 2, 3] rfl (ih _ _ _ _ _ h))
        exact RR.wid (by decide) (by decide) (RR.sub [1, 2, 3, 4, 0] rfl (b_X10_countParts_40 hC hAo hr hx hn hnw hnx hi k40_9 _ _ _ _ _ _ _ h))
set_option maxRecDepth 20000 in
theorem c_X10_countParts (G : GG) (x0 : Nat) (x1 : Option Nat) (ph : PH) (Q : Int32 → PH → Prop) (X : String → PH → Prop) (h : w_X10_countParts x0 x1 ph Q X) : Ct G yX10_countParts (.code yX10_countParts cX10_countParts 6 (some (.int))) 3 70 0 0 [va_rf (some x0), va_rf x1] ph (oI Q) X := by
  refine ct_of (lv0 := [(0, va_rf (some x0)), (1, va_rf x1)]) (by decide +kernel) (by simp [lg_sl, cat_rf, cat_i, cat_j]) (by simp [lv_args, cat_rf, cat_i, cat_j]) ?_
  intro C A hC hAo hex hrt hnm
  have hr : HI C (ZM C G A (oI Q) X 0 0) A G 6 cX10_countParts 0 0 Q := fun pc lv v ph k n d hk hn hq => e_i hC hrt pc lv v ph k n d hk hn ⟨v, rfl, hq⟩
  have hx := e_x (Q := oI Q) (X := X) (mc := 0) (ms := 0) hC hex
  have hn := e_n (Q := oI Q) (X := X) (mc := 0) (ms := 0) hC hex
  have hnw := e_nw (Q := oI Q) (X := X) (mc := 0) (ms := 0) hC hex
  have hnx := e_nx (Q := oI Q) (X := X) (mc := 0) (ms := 0) hC hex
  have hi : True := trivial
  generalize ZM C G A (oI Q) X 0 0 = Z at *
  refine r_aload_n hC dX10_countParts_0 rfl 0 rfl ?_
  refine r_aload_n hC dX10_countParts_1 rfl 1 rfl ?_
  obtain ⟨a2, o2, h⟩ := h
  refine r_VV hC hAo [va_rf x1] cal_X10_follow ml_X10_31 (ci := 11) rfl rfl rfl (c_X10_follow G _ _ _ _ _ h) o2 ⟨by decide, by decide⟩ ⟨by decide, by decide⟩ (by simp only [List.map_nil, List.map_cons, List.sum_nil, List.sum_cons, cat_rf, cat_i, cat_j]; decide) rfl dX10_countParts_2 (fun E u hx9 => hx _ _ _ _ _ _ _ (by decide) (by decide) hx9) (fun ph2 h => ?_)
  refine RR.wid (k' := 0) (n' := 0) (by decide) (by decide) ?_
  refine r_iconst (v := 0) hC dX10_countParts_5 (by decide) ?_
  refine r_istore_n (i := 2) (lv' := [(2, .int (0 : Int32)), (0, va_rf (some x0)), (1, va_rf x1)]) hC dX10_countParts_6 rfl (by decide) (by first | rfl | simp [lvs1, lvs2, List.filter, cat_rf, cat_i, cat_j]) ?_
  refine r_iconst (v := 0) hC dX10_countParts_7 (by decide) ?_
  refine r_istore_n (i := 3) (lv' := [(3, .int (0 : Int32)), (2, .int (0 : Int32)), (0, va_rf (some x0)), (1, va_rf x1)]) hC dX10_countParts_8 rfl (by decide) (by first | rfl | simp [lvs1, lvs2, List.filter, cat_rf, cat_i, cat_j]) ?_
  obtain ⟨fu9, h⟩ := h
  exact RR.wid (by decide) (by decide) (RR.sub [2, 3, 1, 0] rfl (b_X10_countParts_9 hC hAo hr hx hn hnw hnx hi  fu9 _ _ _ _ _ h))
set_option maxRecDepth 20000 in
theorem c_X11_parts (G : GG) (x0 : Nat) (x1 : Int32) (ph : PH) (Q : Int32 → PH → Prop) (X : String → PH → Prop) (h : w_X11_parts x0 x1 ph Q X) : Ct G yX11_parts (.code yX11_parts cX11_parts 2 (some (.int))) 7 112 1 6 [va_rf (some x0), .int x1] ph (oI Q) X := by
  refine ct_of (lv0 := [(0, va_rf (some x0)), (1, .int x1)]) (by decide +kernel) (by simp [lg_sl, cat_rf, cat_i, cat_j]) (by simp [lv_args, cat_rf, cat_i, cat_j]) ?_
  intro C A hC hAo hex hrt hnm
  have hr : HI C (ZM C G A (oI Q) X 1 6) A G 2 cX11_parts 1 6 Q := fun pc lv v ph k n d hk hn hq => e_i hC hrt pc lv v ph k n d hk hn ⟨v, rfl, hq⟩
  have hx := e_x (Q := oI Q) (X := X) (mc := 1) (ms := 6) hC hex
  have hn := e_n (Q := oI Q) (X := X) (mc := 1) (ms := 6) hC hex
  have hnw := e_nw (Q := oI Q) (X := X) (mc := 1) (ms := 6) hC hex
  have hnx := e_nx (Q := oI Q) (X := X) (mc := 1) (ms := 6) hC hex
  have hi : True := trivial
  generalize ZM C G A (oI Q) X 1 6 = Z at *
  refine r_aload_n hC dX11_parts_0 rfl 0 rfl ?_
  obtain ⟨v1, g1, h⟩ := h
  refine r_get hC (ci := 12) (kf := 8) (N := 12) (Cn := RX11) (T := TX11) rfl (by decide) tin_X11 fl_X11_44 rfl dX11_parts_1 g1 ?_
  refine r_aload_n hC dX11_parts_4 rfl 0 rfl ?_
  refine r_iload_n hC dX11_parts_5 rfl 1 rfl ?_
  obtain ⟨a6, o6, h⟩ := h
  refine r_VR hC hAo [.int x1] cal_X11_shiftAt ml_X11_110 (ci := 12) rfl rfl rfl (c_X11_shiftAt G _ _ _ _ _ h) o6 ⟨by decide, by decide⟩ ⟨by decide, by decide⟩ (by simp only [List.map_nil, List.map_cons, List.sum_nil, List.sum_cons, cat_rf, cat_i, cat_j]; decide) rfl dX11_parts_6 (fun E u hx9 => hx _ _ _ _ _ _ _ (by decide) (by decide) hx9) (fun v6 ph6 h => ?_)
  refine RR.wid (k' := 1) (n' := 6) (by decide) (by decide) ?_
  obtain ⟨a9, o9, h⟩ := h
  refine r_VI hC hAo [va_rf v6] cal_X10_countParts ml_X11_185 (ci := 11) rfl rfl rfl (c_X10_countParts G _ _ _ _ _ h) o9 ⟨by decide, by decide⟩ ⟨by decide, by decide⟩ (by simp only [List.map_nil, List.map_cons, List.sum_nil, List.sum_cons, cat_rf, cat_i, cat_j]; decide) rfl dX11_parts_9 (fun E u hx9 => hx _ _ _ _ _ _ _ (by decide) (by decide) hx9) (fun v9 ph9 h => ?_)
  refine RR.wid (k' := 1) (n' := 6) (by decide) (by decide) ?_
  exact hr _ _ _ _ _ _ dX11_parts_12 (by decide) (by decide) h
set_option maxRecDepth 20000 in
theorem b_X10_isOnePart_12 {C : Cx} {Z : State → Prop} {A : Nat → Prop} {G : GG} {Q : Int32 → PH → Prop} {X : String → PH → Prop} (hC : CxOk RX10 cX10_isOnePart 4 G A (rmk 4 93 0 0) C) (hAo : Ao (xs C)) (hr : HZ C Z A G 4 cX10_isOnePart 0 0 Q) (hx : HX C Z A G 4 0 0 X) (hn : HN C Z A G 4 RX10 cX10_isOnePart 0 0 (rmk 4 93 0 0) X) (hnw : HNW C Z A G 4 RX10 cX10_isOnePart 0 0 (rmk 4 93 0 0) X) (hnx : HNX C Z A G 4 RX10 cX10_isOnePart 0 0 (rmk 4 93 0 0) X) (hi : True) : ∀ (fu : Nat) (x0 : Option Nat) (x1 : Option Nat) (x2 : Int32) (x3 : Int32) (ph : PH), w_X10_isOnePart_12 Q X fu x0 x1 x2 x3 ph → RR C Z A G 4 12 [(0, va_rf x0), (1, va_rf x1), (2, .int x2), (3, .int x3)] [] ph 0 0 := by
  intro fu
  induction fu with
  | zero => intro x0 x1 x2 x3 ph h; exact h.elim
  | succ fu ih =>
    intro x0 x1 x2 x3 ph h
    refine r_iload_n hC dX10_isOnePart_12 rfl 3 rfl ?_
    refine r_aload_n hC dX10_isOnePart_13 rfl 1 rfl ?_
    obtain ⟨v14, g14, h⟩ := h
    refine r_get hC (ci := 6) (kf := 0) (N := 3) (Cn := RX3) (T := TX3) rfl (by decide) tin_X3 fl_X10_35 rfl dX10_isOnePart_14 g14 ?_
    refine r_icmp_ge (tgt := 49) hC dX10_isOnePart_17 (by decide) (fun c9 => ?_) (fun c9 => ?_)
    · have h := h.1 c9
      refine r_iconst (v := 0) hC dX10_isOnePart_49 (by decide) ?_
      exact hr _ _ _ _ _ _ dX10_isOnePart_50 (by decide) (by decide) h
    · have h := h.2 c9
      refine r_iload_n hC dX10_isOnePart_20 rfl 2 rfl ?_
      refine r_iload_n hC dX10_isOnePart_21 rfl 3 rfl ?_
      refine r_SI hC hAo [.int x2, .int x3] cal_X11_hasBit ml_X10_24 rfl (c_X11_hasBit G _ _ _ _ _ h) ⟨by decide, by decide⟩ ⟨by decide, by decide⟩ (by simp only [List.map_nil, List.map_cons, List.sum_nil, List.sum_cons, cat_rf, cat_i, cat_j]; decide) rfl dX10_isOnePart_22 (fun E u hx9 => hx _ _ _ _ _ _ _ (by decide) (by decide) hx9) (fun v22 ph22 h => ?_)
      refine RR.wid (k' := 0) (n' := 0) (by decide) (by decide) ?_
      refine r_if_eq (tgt := 43) hC dX10_isOnePart_25 (by decide) (fun c9 => ?_) (fun c9 => ?_)
      · have h := h.1 c9
        refine r_iinc (w := 3) (v := x3 + 1) (lv' := [(3, .int (x3 + 1)), (0, va_rf x0), (1, va_rf x1), (2, .int x2)]) hC dX10_isOnePart_43 rfl rfl (by decide) (by first | rfl | simp [lvs1, List.filter, cat_rf, cat_i, cat_j]) ?_
        refine r_goto (tgt := 12) hC dX10_isOnePart_46 (by decide) ?_
        exact RR.wid (by decide) (by decide) (RR.sub [1, 2, 3, 0] rfl (ih _ _ _ _ _ h))
      · have h := h.2 c9
        refine r_aload_n hC dX10_isOnePart_28 rfl 0 rfl ?_
        refine r_iload_n hC dX10_isOnePart_29 rfl 3 rfl ?_
        obtain ⟨a30, o30, h⟩ := h
        refine r_VI hC hAo [.int x3] cal_X10_partOf ml_X10_39 (ci := 11) rfl rfl rfl (c_X10_partOf G _ _ _ _ _ h) o30 ⟨by decide, by decide⟩ ⟨by decide, by decide⟩ (by simp only [List.map_nil, List.map_cons, List.sum_nil, List.sum_cons, cat_rf, cat_i, cat_j]; decide) rfl dX10_isOnePart_30 (fun E u hx9 => hx _ _ _ _ _ _ _ (by decide) (by decide) hx9) (fun v30 ph30 h => ?_)
        refine RR.wid (k' := 0) (n' := 0) (by decide) (by decide) ?_
        refine r_iload_n hC dX10_isOnePart_33 rfl 2 rfl ?_
        refine r_icmp_ne (tgt := 41) hC dX10_isOnePart_34 (by decide) (fun c9 => ?_) (fun c9 => ?_)
        · have h := h.1 c9
          refine r_iconst (v := 0) hC dX10_isOnePart_41 (by decide) ?_
          exact hr _ _ _ _ _ _ dX10_isOnePart_42 (by decide) (by decide) h
        · have h := h.2 c9
          refine r_iconst (v := 1) hC dX10_isOnePart_37 (by decide) ?_
          refine r_goto (tgt := 42) hC dX10_isOnePart_38 (by decide) ?_
          exact hr _ _ _ _ _ _ dX10_isOnePart_42 (by decide) (by decide) h
set_option maxRecDepth 20000 in
theorem c_X10_isOnePart (G : GG) (x0 : Nat) (x1 : Option Nat) (ph : PH) (Q : Int32 → PH → Prop) (X : String → PH → Prop) (h : w_X10_isOnePart x0 x1 ph Q X) : Ct G yX10_isOnePart (.code yX10_isOnePart cX10_isOnePart 4 (some (.boolean))) 4 93 0 0 [va_rf (some x0), va_rf x1] ph (oI Q) X := by
  refine ct_of (lv0 := [(0, va_rf (some x0)), (1, va_rf x1)]) (by decide +kernel) (by simp [lg_sl, cat_rf, cat_i, cat_j]) (by simp [lv_args, cat_rf, cat_i, cat_j]) ?_
  intro C A hC hAo hex hrt hnm
  have hr : HZ C (ZM C G A (oI Q) X 0 0) A G 4 cX10_isOnePart 0 0 Q := fun pc lv v ph k n d hk hn hq => e_s hC (ty := .boolean) hrt pc lv v ph k n d hk hn ⟨hq.1, v, rfl, hq.2⟩
  have hx := e_x (Q := oI Q) (X := X) (mc := 0) (ms := 0) hC hex
  have hn := e_n (Q := oI Q) (X := X) (mc := 0) (ms := 0) hC hex
  have hnw := e_nw (Q := oI Q) (X := X) (mc := 0) (ms := 0) hC hex
  have hnx := e_nx (Q := oI Q) (X := X) (mc := 0) (ms := 0) hC hex
  have hi : True := trivial
  generalize ZM C G A (oI Q) X 0 0 = Z at *
  refine r_aload_n hC dX10_isOnePart_0 rfl 0 rfl ?_
  refine r_aload_n hC dX10_isOnePart_1 rfl 1 rfl ?_
  obtain ⟨a2, o2, h⟩ := h
  refine r_VV hC hAo [va_rf x1] cal_X10_follow ml_X10_31 (ci := 11) rfl rfl rfl (c_X10_follow G _ _ _ _ _ h) o2 ⟨by decide, by decide⟩ ⟨by decide, by decide⟩ (by simp only [List.map_nil, List.map_cons, List.sum_nil, List.sum_cons, cat_rf, cat_i, cat_j]; decide) rfl dX10_isOnePart_2 (fun E u hx9 => hx _ _ _ _ _ _ _ (by decide) (by decide) hx9) (fun ph2 h => ?_)
  refine RR.wid (k' := 0) (n' := 0) (by decide) (by decide) ?_
  refine r_aload_n hC dX10_isOnePart_5 rfl 1 rfl ?_
  obtain ⟨a6, o6, h⟩ := h
  refine r_VI hC hAo [] cal_X3_liveSet ml_X10_42 (ci := 6) rfl rfl rfl (c_X3_liveSet G _ _ _ _ h) o6 ⟨by decide, by decide⟩ ⟨by decide, by decide⟩ (by simp only [List.map_nil, List.map_cons, List.sum_nil, List.sum_cons, cat_rf, cat_i, cat_j]; decide) rfl dX10_isOnePart_6 (fun E u hx9 => hx _ _ _ _ _ _ _ (by decide) (by decide) hx9) (fun v6 ph6 h => ?_)
  refine RR.wid (k' := 0) (n' := 0) (by decide) (by decide) ?_
  refine r_istore_n (i := 2) (lv' := [(2, .int v6), (0, va_rf (some x0)), (1, va_rf x1)]) hC dX10_isOnePart_9 rfl (by decide) (by first | rfl | simp [lvs1, lvs2, List.filter, cat_rf, cat_i, cat_j]) ?_
  refine r_iconst (v := 0) hC dX10_isOnePart_10 (by decide) ?_
  refine r_istore_n (i := 3) (lv' := [(3, .int (0 : Int32)), (2, .int v6), (0, va_rf (some x0)), (1, va_rf x1)]) hC dX10_isOnePart_11 rfl (by decide) (by first | rfl | simp [lvs1, lvs2, List.filter, cat_rf, cat_i, cat_j]) ?_
  obtain ⟨fu12, h⟩ := h
  exact RR.wid (by decide) (by decide) (RR.sub [2, 3, 1, 0] rfl (b_X10_isOnePart_12 hC hAo hr hx hn hnw hnx hi  fu12 _ _ _ _ _ h))
set_option maxRecDepth 20000 in
theorem c_X11_isIrreducible (G : GG) (x0 : Nat) (x1 : Int32) (ph : PH) (Q : Int32 → PH → Prop) (X : String → PH → Prop) (h : w_X11_isIrreducible x0 x1 ph Q X) : Ct G yX11_isIrreducible (.code yX11_isIrreducible cX11_isIrreducible 2 (some (.boolean))) 7 116 1 6 [va_rf (some x0), .int x1] ph (oI Q) X := by
  refine ct_of (lv0 := [(0, va_rf (some x0)), (1, .int x1)]) (by decide +kernel) (by simp [lg_sl, cat_rf, cat_i, cat_j]) (by simp [lv_args, cat_rf, cat_i, cat_j]) ?_
  intro C A hC hAo hex hrt hnm
  have hr : HZ C (ZM C G A (oI Q) X 1 6) A G 2 cX11_isIrreducible 1 6 Q := fun pc lv v ph k n d hk hn hq => e_s hC (ty := .boolean) hrt pc lv v ph k n d hk hn ⟨hq.1, v, rfl, hq.2⟩
  have hx := e_x (Q := oI Q) (X := X) (mc := 1) (ms := 6) hC hex
  have hn := e_n (Q := oI Q) (X := X) (mc := 1) (ms := 6) hC hex
  have hnw := e_nw (Q := oI Q) (X := X) (mc := 1) (ms := 6) hC hex
  have hnx := e_nx (Q := oI Q) (X := X) (mc := 1) (ms := 6) hC hex
  have hi : True := trivial
  generalize ZM C G A (oI Q) X 1 6 = Z at *
  refine r_aload_n hC dX11_isIrreducible_0 rfl 0 rfl ?_
  obtain ⟨v1, g1, h⟩ := h
  refine r_get hC (ci := 12) (kf := 8) (N := 12) (Cn := RX11) (T := TX11) rfl (by decide) tin_X11 fl_X11_44 rfl dX11_isIrreducible_1 g1 ?_
  refine r_aload_n hC dX11_isIrreducible_4 rfl 0 rfl ?_
  refine r_iload_n hC dX11_isIrreducible_5 rfl 1 rfl ?_
  obtain ⟨a6, o6, h⟩ := h
  refine r_VR hC hAo [.int x1] cal_X11_shiftAt ml_X11_110 (ci := 12) rfl rfl rfl (c_X11_shiftAt G _ _ _ _ _ h) o6 ⟨by decide, by decide⟩ ⟨by decide, by decide⟩ (by simp only [List.map_nil, List.map_cons, List.sum_nil, List.sum_cons, cat_rf, cat_i, cat_j]; decide) rfl dX11_isIrreducible_6 (fun E u hx9 => hx _ _ _ _ _ _ _ (by decide) (by decide) hx9) (fun v6 ph6 h => ?_)
  refine RR.wid (k' := 1) (n' := 6) (by decide) (by decide) ?_
  obtain ⟨a9, o9, h⟩ := h
  refine r_VI hC hAo [va_rf v6] cal_X10_isOnePart ml_X11_198 (ci := 11) rfl rfl rfl (c_X10_isOnePart G _ _ _ _ _ h) o9 ⟨by decide, by decide⟩ ⟨by decide, by decide⟩ (by simp only [List.map_nil, List.map_cons, List.sum_nil, List.sum_cons, cat_rf, cat_i, cat_j]; decide) rfl dX11_isIrreducible_9 (fun E u hx9 => hx _ _ _ _ _ _ _ (by decide) (by decide) hx9) (fun v9 ph9 h => ?_)
  refine RR.wid (k' := 1) (n' := 6) (by decide) (by decide) ?_
  exact hr _ _ _ _ _ _ dX11_isIrreducible_12 (by decide) (by decide) h
set_option maxRecDepth 20000 in
theorem c_X6_keepSet (G : GG) (x0 : Nat) (x1 : Int32) (x2 : Int32) (ph : PH) (Q : PH → Prop) (X : String → PH → Prop) (h : w_X6_keepSet x0 x1 x2 ph Q X) : Ct G yX6_keepSet (.code yX6_keepSet cX6_keepSet 3 none) 0 0 0 0 [va_rf (some x0), .int x1, .int x2] ph (oV Q) X := by
  refine ct_of (lv0 := [(0, va_rf (some x0)), (1, .int x1), (2, .int x2)]) (by decide +kernel) (by simp [lg_sl, cat_rf, cat_i, cat_j]) (by simp [lv_args, cat_rf, cat_i, cat_j]) ?_
  intro C A hC hAo hex hrt hnm
  have hr : HV C (ZM C G A (oV Q) X 0 0) A G 3 cX6_keepSet 0 0 Q := fun pc lv ph k n d hk hn hq => e_v hC hrt pc lv ph k n d hk hn ⟨rfl, hq⟩
  have hx := e_x (Q := oV Q) (X := X) (mc := 0) (ms := 0) hC hex
  have hn := e_n (Q := oV Q) (X := X) (mc := 0) (ms := 0) hC hex
  have hnw := e_nw (Q := oV Q) (X := X) (mc := 0) (ms := 0) hC hex
  have hnx := e_nx (Q := oV Q) (X := X) (mc := 0) (ms := 0) hC hex
  have hi : True := trivial
  generalize ZM C G A (oV Q) X 0 0 = Z at *
  refine r_iload_n hC dX6_keepSet_0 rfl 1 rfl ?_
  refine r_if_lt (tgt := 20) hC dX6_keepSet_1 (by decide) (fun c9 => ?_) (fun c9 => ?_)
  · have h := h.1 c9
    exact hr _ _ _ _ _ dX6_keepSet_20 (by decide) (by decide) h
  · have h := h.2 c9
    refine r_iload_n hC dX6_keepSet_4 rfl 1 rfl ?_
    refine r_aload_n hC dX6_keepSet_5 rfl 0 rfl ?_
    obtain ⟨v6, g6, h⟩ := h
    refine r_get hC (ci := 7) (kf := 4) (N := 11) (Cn := RX6) (T := TX6) rfl (by decide) tin_X6 fl_X6_24 rfl dX6_keepSet_6 g6 ?_
    obtain ⟨v9, g9, h⟩ := h
    refine r_alen hC dX6_keepSet_9 g9 ?_
    refine r_icmp_ge (tgt := 20) hC dX6_keepSet_10 (by decide) (fun c9 => ?_) (fun c9 => ?_)
    · have h := h.1 c9
      exact hr _ _ _ _ _ dX6_keepSet_20 (by decide) (by decide) h
    · have h := h.2 c9
      refine r_aload_n hC dX6_keepSet_13 rfl 0 rfl ?_
      obtain ⟨v14, g14, h⟩ := h
      refine r_get hC (ci := 7) (kf := 4) (N := 11) (Cn := RX6) (T := TX6) rfl (by decide) tin_X6 fl_X6_24 rfl dX6_keepSet_14 g14 ?_
      refine r_iload_n hC dX6_keepSet_17 rfl 1 rfl ?_
      refine r_iload_n hC dX6_keepSet_18 rfl 2 rfl ?_
      obtain ⟨ph19, g19, h⟩ := h
      refine r_iast hC dX6_keepSet_19 g19 ?_
      exact hr _ _ _ _ _ dX6_keepSet_20 (by decide) (by decide) h
set_option maxRecDepth 20000 in
theorem b_X6_placeOfSet_2 {C : Cx} {Z : State → Prop} {A : Nat → Prop} {G : GG} {Q : Int32 → PH → Prop} {X : String → PH → Prop} (hC : CxOk RX6 cX6_placeOfSet 4 G A (rmk 0 0 0 0) C) (hAo : Ao (xs C)) (hr : HI C Z A G 4 cX6_placeOfSet 0 0 Q) (hx : HX C Z A G 4 0 0 X) (hn : HN C Z A G 4 RX6 cX6_placeOfSet 0 0 (rmk 0 0 0 0) X) (hnw : HNW C Z A G 4 RX6 cX6_placeOfSet 0 0 (rmk 0 0 0 0) X) (hnx : HNX C Z A G 4 RX6 cX6_placeOfSet 0 0 (rmk 0 0 0 0) X) (hi : True) : ∀ (fu : Nat) (x0 : Option Nat) (x1 : Int32) (x2 : Int32) (x3 : Int32) (ph : PH), w_X6_placeOfSet_2 Q X fu x0 x1 x2 x3 ph → RR C Z A G 4 2 [(0, va_rf x0), (1, .int x1), (2, .int x2), (3, .int x3)] [] ph 0 0 := by
  intro fu
  induction fu with
  | zero => intro x0 x1 x2 x3 ph h; exact h.elim
  | succ fu ih =>
    intro x0 x1 x2 x3 ph h
    refine r_iload_n hC dX6_placeOfSet_2 rfl 3 rfl ?_
    refine r_iload_n hC dX6_placeOfSet_3 rfl 2 rfl ?_
    refine r_icmp_ge (tgt := 34) hC dX6_placeOfSet_4 (by decide) (fun c9 => ?_) (fun c9 => ?_)
    · have h := h.1 c9
      refine r_iload_n hC dX6_placeOfSet_34 rfl 2 rfl ?_
      exact hr _ _ _ _ _ _ dX6_placeOfSet_35 (by decide) (by decide) h
    · have h := h.2 c9
      refine r_iload_n hC dX6_placeOfSet_7 rfl 3 rfl ?_
      refine r_aload_n hC dX6_placeOfSet_8 rfl 0 rfl ?_
      obtain ⟨v9, g9, h⟩ := h
      refine r_get hC (ci := 7) (kf := 4) (N := 11) (Cn := RX6) (T := TX6) rfl (by decide) tin_X6 fl_X6_24 rfl dX6_placeOfSet_9 g9 ?_
      obtain ⟨v12, g12, h⟩ := h
      refine r_alen hC dX6_placeOfSet_12 g12 ?_
      refine r_icmp_ge (tgt := 34) hC dX6_placeOfSet_13 (by decide) (fun c9 => ?_) (fun c9 => ?_)
      · have h := h.1 c9
        refine r_iload_n hC dX6_placeOfSet_34 rfl 2 rfl ?_
        exact hr _ _ _ _ _ _ dX6_placeOfSet_35 (by decide) (by decide) h
      · have h := h.2 c9
        refine r_aload_n hC dX6_placeOfSet_16 rfl 0 rfl ?_
        obtain ⟨v17, g17, h⟩ := h
        refine r_get hC (ci := 7) (kf := 4) (N := 11) (Cn := RX6) (T := TX6) rfl (by decide) tin_X6 fl_X6_24 rfl dX6_placeOfSet_17 g17 ?_
        refine r_iload_n hC dX6_placeOfSet_20 rfl 3 rfl ?_
        obtain ⟨v21, g21, h⟩ := h
        refine r_iald hC dX6_placeOfSet_21 g21 ?_
        refine r_iload_n hC dX6_placeOfSet_22 rfl 1 rfl ?_
        refine r_icmp_ne (tgt := 28) hC dX6_placeOfSet_23 (by decide) (fun c9 => ?_) (fun c9 => ?_)
        · have h := h.1 c9
          refine r_iinc (w := 3) (v := x3 + 1) (lv' := [(3, .int (x3 + 1)), (0, va_rf x0), (1, .int x1), (2, .int x2)]) hC dX6_placeOfSet_28 rfl rfl (by decide) (by first | rfl | simp [lvs1, List.filter, cat_rf, cat_i, cat_j]) ?_
          refine r_goto (tgt := 2) hC dX6_placeOfSet_31 (by decide) ?_
          exact RR.wid (by decide) (by decide) (RR.sub [1, 2, 3, 0] rfl (ih _ _ _ _ _ h))
        · have h := h.2 c9
          refine r_iload_n hC dX6_placeOfSet_26 rfl 3 rfl ?_
          exact hr _ _ _ _ _ _ dX6_placeOfSet_27 (by decide) (by decide) h
set_option maxRecDepth 20000 in
theorem c_X6_placeOfSet (G : GG) (x0 : Nat) (x1 : Int32) (x2 : Int32) (ph : PH) (Q : Int32 → PH → Prop) (X : String → PH → Prop) (h : w_X6_placeOfSet x0 x1 x2 ph Q X) : Ct G yX6_placeOfSet (.code yX6_placeOfSet cX6_placeOfSet 4 (some (.int))) 0 0 0 0 [va_rf (some x0), .int x1, .int x2] ph (oI Q) X := by
  refine ct_of (lv0 := [(0, va_rf (some x0)), (1, .int x1), (2, .int x2)]) (by decide +kernel) (by simp [lg_sl, cat_rf, cat_i, cat_j]) (by simp [lv_args, cat_rf, cat_i, cat_j]) ?_
  intro C A hC hAo hex hrt hnm
  have hr : HI C (ZM C G A (oI Q) X 0 0) A G 4 cX6_placeOfSet 0 0 Q := fun pc lv v ph k n d hk hn hq => e_i hC hrt pc lv v ph k n d hk hn ⟨v, rfl, hq⟩
  have hx := e_x (Q := oI Q) (X := X) (mc := 0) (ms := 0) hC hex
  have hn := e_n (Q := oI Q) (X := X) (mc := 0) (ms := 0) hC hex
  have hnw := e_nw (Q := oI Q) (X := X) (mc := 0) (ms := 0) hC hex
  have hnx := e_nx (Q := oI Q) (X := X) (mc := 0) (ms := 0) hC hex
  have hi : True := trivial
  generalize ZM C G A (oI Q) X 0 0 = Z at *
  refine r_iconst (v := 0) hC dX6_placeOfSet_0 (by decide) ?_
  refine r_istore_n (i := 3) (lv' := [(3, .int (0 : Int32)), (0, va_rf (some x0)), (1, .int x1), (2, .int x2)]) hC dX6_placeOfSet_1 rfl (by decide) (by first | rfl | simp [lvs1, lvs2, List.filter, cat_rf, cat_i, cat_j]) ?_
  obtain ⟨fu2, h⟩ := h
  exact RR.wid (by decide) (by decide) (RR.sub [1, 2, 3, 0] rfl (b_X6_placeOfSet_2 hC hAo hr hx hn hnw hnx hi  fu2 _ _ _ _ _ h))
set_option maxRecDepth 20000 in
theorem c_X6_noteMove (G : GG) (x0 : Nat) (x1 : Int32) (x2 : Int32) (x3 : Int32) (ph : PH) (Q : PH → Prop) (X : String → PH → Prop) (h : w_X6_noteMove x0 x1 x2 x3 ph Q X) : Ct G yX6_noteMove (.code yX6_noteMove cX6_noteMove 5 none) 0 0 0 0 [va_rf (some x0), .int x1, .int x2, .int x3] ph (oV Q) X := by
  refine ct_of (lv0 := [(0, va_rf (some x0)), (1, .int x1), (2, .int x2), (3, .int x3)]) (by decide +kernel) (by simp [lg_sl, cat_rf, cat_i, cat_j]) (by simp [lv_args, cat_rf, cat_i, cat_j]) ?_
  intro C A hC hAo hex hrt hnm
  have hr : HV C (ZM C G A (oV Q) X 0 0) A G 5 cX6_noteMove 0 0 Q := fun pc lv ph k n d hk hn hq => e_v hC hrt pc lv ph k n d hk hn ⟨rfl, hq⟩
  have hx := e_x (Q := oV Q) (X := X) (mc := 0) (ms := 0) hC hex
  have hn := e_n (Q := oV Q) (X := X) (mc := 0) (ms := 0) hC hex
  have hnw := e_nw (Q := oV Q) (X := X) (mc := 0) (ms := 0) hC hex
  have hnx := e_nx (Q := oV Q) (X := X) (mc := 0) (ms := 0) hC hex
  have hi : True := trivial
  generalize ZM C G A (oV Q) X 0 0 = Z at *
  refine r_iconst (v := 3) hC dX6_noteMove_0 (by decide) ?_
  refine r_iload_n hC dX6_noteMove_1 rfl 1 rfl ?_
  refine r_imul hC dX6_noteMove_2 ?_
  refine r_iload_n hC dX6_noteMove_3 rfl 2 rfl ?_
  refine r_iadd hC dX6_noteMove_4 ?_
  obtain ⟨v5, ev5⟩ : ∃ z : Int32, z = ((3 : Int32) * x1) + x2 := ⟨_, rfl⟩
  have h := h v5 ev5
  refine RR.to (st' := [.int v5]) (by rw [ev5]) ?_
  refine r_istore (i := 4) (lv' := [(4, .int v5), (0, va_rf (some x0)), (1, .int x1), (2, .int x2), (3, .int x3)]) hC dX6_noteMove_5 (by decide) (by first | rfl | simp [lvs1, lvs2, List.filter, cat_rf, cat_i, cat_j]) ?_
  refine r_iload hC dX6_noteMove_7 0 rfl ?_
  refine r_if_lt (tgt := 30) hC dX6_noteMove_9 (by decide) (fun c9 => ?_) (fun c9 => ?_)
  · have h := h.1 c9
    exact hr _ _ _ _ _ dX6_noteMove_30 (by decide) (by decide) h
  · have h := h.2 c9
    refine r_iload hC dX6_noteMove_12 0 rfl ?_
    refine r_aload_n hC dX6_noteMove_14 rfl 1 rfl ?_
    obtain ⟨v15, g15, h⟩ := h
    refine r_get hC (ci := 7) (kf := 5) (N := 11) (Cn := RX6) (T := TX6) rfl (by decide) tin_X6 fl_X6_27 rfl dX6_noteMove_15 g15 ?_
    obtain ⟨v18, g18, h⟩ := h
    refine r_alen hC dX6_noteMove_18 g18 ?_
    refine r_icmp_ge (tgt := 30) hC dX6_noteMove_19 (by decide) (fun c9 => ?_) (fun c9 => ?_)
    · have h := h.1 c9
      exact hr _ _ _ _ _ dX6_noteMove_30 (by decide) (by decide) h
    · have h := h.2 c9
      refine r_aload_n hC dX6_noteMove_22 rfl 1 rfl ?_
      obtain ⟨v23, g23, h⟩ := h
      refine r_get hC (ci := 7) (kf := 5) (N := 11) (Cn := RX6) (T := TX6) rfl (by decide) tin_X6 fl_X6_27 rfl dX6_noteMove_23 g23 ?_
      refine r_iload hC dX6_noteMove_26 0 rfl ?_
      refine r_iload_n hC dX6_noteMove_28 rfl 4 rfl ?_
      obtain ⟨ph29, g29, h⟩ := h
      refine r_iast hC dX6_noteMove_29 g29 ?_
      exact hr _ _ _ _ _ dX6_noteMove_30 (by decide) (by decide) h
set_option maxRecDepth 20000 in
theorem b_X6_collectSets_111 {C : Cx} {Z : State → Prop} {A : Nat → Prop} {G : GG} {Q : Int32 → PH → Prop} {X : String → PH → Prop} {K43 : Option Nat → Option Nat → Int32 → Int32 → Int32 → Int32 → PH → Prop} (hC : CxOk RX6 cX6_collectSets 8 G A (rmk 4 93 0 0) C) (hAo : Ao (xs C)) (hr : HI C Z A G 8 cX6_collectSets 0 0 Q) (hx : HX C Z A G 8 0 0 X) (hn : HN C Z A G 8 RX6 cX6_collectSets 0 0 (rmk 4 93 0 0) X) (hnw : HNW C Z A G 8 RX6 cX6_collectSets 0 0 (rmk 4 93 0 0) X) (hnx : HNX C Z A G 8 RX6 cX6_collectSets 0 0 (rmk 4 93 0 0) X) (hi : True) (hK43 : ∀ (x0 : Option Nat) (x1 : Option Nat) (x2 : Int32) (x3 : Int32) (x4 : Int32) (x5 : Int32) (ph : PH), K43 x0 x1 x2 x3 x4 x5 ph → RR C Z A G 8 43 [(0, va_rf x0), (1, va_rf x1), (2, .int x2), (3, .int x3), (4, .int x4), (5, .int x5)] [] ph 0 0) : ∀ (x0 : Option Nat) (x1 : Option Nat) (x2 : Int32) (x3 : Int32) (x4 : Int32) (x5 : Int32) (x7 : Int32) (ph : PH), w_X6_collectSets_111 Q X K43 x0 x1 x2 x3 x4 x5 x7 ph → RR C Z A G 8 111 [(0, va_rf x0), (1, va_rf x1), (2, .int x2), (3, .int x3), (4, .int x4), (5, .int x5), (7, .int x7)] [] ph 0 0 := by
  intro x0 x1 x2 x3 x4 x5 x7 ph h
  refine r_aload_n hC dX6_collectSets_111 rfl 0 rfl ?_
  refine r_iload hC dX6_collectSets_112 4 rfl ?_
  refine r_iload hC dX6_collectSets_114 5 rfl ?_
  refine r_iload hC dX6_collectSets_116 6 rfl ?_
  obtain ⟨a118, o118, h⟩ := h
  refine r_VV hC hAo [.int x4, .int x5, .int x7] cal_X6_noteMove ml_X6_127 (ci := 7) rfl rfl rfl (c_X6_noteMove G _ _ _ _ _ _ _ h) o118 ⟨by decide, by decide⟩ ⟨by decide, by decide⟩ (by simp only [List.map_nil, List.map_cons, List.sum_nil, List.sum_cons, cat_rf, cat_i, cat_j]; decide) rfl dX6_collectSets_118 (fun E u hx9 => hx _ _ _ _ _ _ _ (by decide) (by decide) hx9) (fun ph118 h => ?_)
  refine RR.wid (k' := 0) (n' := 0) (by decide) (by decide) ?_
  refine r_iinc (w := 5) (v := x5 + 1) (lv' := [(5, .int (x5 + 1)), (0, va_rf x0), (1, va_rf x1), (2, .int x2), (3, .int x3), (4, .int x4), (7, .int x7)]) hC dX6_collectSets_121 rfl rfl (by decide) (by first | rfl | simp [lvs1, List.filter, cat_rf, cat_i, cat_j]) ?_
  refine r_goto (tgt := 43) hC dX6_collectSets_124 (by decide) ?_
  exact RR.wid (by decide) (by decide) (RR.sub [1, 2, 3, 4, 5, 0] rfl (hK43 _ _ _ _ _ _ _ h))
set_option maxRecDepth 20000 in
theorem b_X6_collectSets_85 {C : Cx} {Z : State → Prop} {A : Nat → Prop} {G : GG} {Q : Int32 → PH → Prop} {X : String → PH → Prop} {K43 : Option Nat → Option Nat → Int32 → Int32 → Int32 → Int32 → PH → Prop} (hC : CxOk RX6 cX6_collectSets 8 G A (rmk 4 93 0 0) C) (hAo : Ao (xs C)) (hr : HI C Z A G 8 cX6_collectSets 0 0 Q) (hx : HX C Z A G 8 0 0 X) (hn : HN C Z A G 8 RX6 cX6_collectSets 0 0 (rmk 4 93 0 0) X) (hnw : HNW C Z A G 8 RX6 cX6_collectSets 0 0 (rmk 4 93 0 0) X) (hnx : HNX C Z A G 8 RX6 cX6_collectSets 0 0 (rmk 4 93 0 0) X) (hi : True) (hK43 : ∀ (x0 : Option Nat) (x1 : Option Nat) (x2 : Int32) (x3 : Int32) (x4 : Int32) (x5 : Int32) (ph : PH), K43 x0 x1 x2 x3 x4 x5 ph → RR C Z A G 8 43 [(0, va_rf x0), (1, va_rf x1), (2, .int x2), (3, .int x3), (4, .int x4), (5, .int x5)] [] ph 0 0) : ∀ (x0 : Option Nat) (x1 : Option Nat) (x2 : Int32) (x3 : Int32) (x4 : Int32) (x5 : Int32) (x6 : Int32) (s0 : Int32) (ph : PH), w_X6_collectSets_85 Q X K43 x0 x1 x2 x3 x4 x5 x6 s0 ph → RR C Z A G 8 85 [(0, va_rf x0), (1, va_rf x1), (2, .int x2), (3, .int x3), (4, .int x4), (5, .int x5), (6, .int x6)] [.int s0] ph 0 0 := by
  intro x0 x1 x2 x3 x4 x5 x6 s0 ph h
  refine r_istore (i := 7) (lv' := [(7, .int s0), (0, va_rf x0), (1, va_rf x1), (2, .int x2), (3, .int x3), (4, .int x4), (5, .int x5), (6, .int x6)]) hC dX6_collectSets_85 (by decide) (by first | rfl | simp [lvs1, lvs2, List.filter, cat_rf, cat_i, cat_j]) ?_
  refine r_iload hC dX6_collectSets_87 0 rfl ?_
  refine r_iload_n hC dX6_collectSets_89 rfl 4 rfl ?_
  refine r_icmp_ne (tgt := 111) hC dX6_collectSets_90 (by decide) (fun c9 => ?_) (fun c9 => ?_)
  · have h := h.1 c9
    have k111_43 : ∀ (x0 : Option Nat) (x1 : Option Nat) (x2 : Int32) (x3 : Int32) (x4 : Int32) (x5 : Int32) (ph : PH), K43 x0 x1 x2 x3 x4 x5 ph → RR C Z A G 8 43 [(0, va_rf x0), (1, va_rf x1), (2, .int x2), (3, .int x3), (4, .int x4), (5, .int x5)] [] ph 0 0 := by
      intro x0 x1 x2 x3 x4 x5 ph h
      exact RR.wid (by decide) (by decide) (RR.sub [0, 1, 2, 3, 4, 5] rfl (hK43 _ _ _ _ _ _ _ h))
    exact RR.wid (by decide) (by decide) (RR.sub [1, 2, 3, 4, 5, 6, 0] rfl (b_X6_collectSets_111 hC hAo hr hx hn hnw hnx hi k111_43 _ _ _ _ _ _ _ _ h))
  · have h := h.2 c9
    refine r_iload_n hC dX6_collectSets_93 rfl 4 rfl ?_
    refine r_bipush (v := 60) hC dX6_collectSets_94 (by decide) ?_
    refine r_icmp_lt (tgt := 101) hC dX6_collectSets_96 (by decide) (fun c9 => ?_) (fun c9 => ?_)
    · have h := h.1 c9
      refine r_aload_n hC dX6_collectSets_101 rfl 1 rfl ?_
      refine r_iload_n hC dX6_collectSets_102 rfl 4 rfl ?_
      refine r_iload hC dX6_collectSets_103 7 rfl ?_
      obtain ⟨a105, o105, h⟩ := h
      refine r_VV hC hAo [.int x3, .int x6] cal_X6_keepSet ml_X6_120 (ci := 7) rfl rfl rfl (c_X6_keepSet G _ _ _ _ _ _ h) o105 ⟨by decide, by decide⟩ ⟨by decide, by decide⟩ (by simp only [List.map_nil, List.map_cons, List.sum_nil, List.sum_cons, cat_rf, cat_i, cat_j]; decide) rfl dX6_collectSets_105 (fun E u hx9 => hx _ _ _ _ _ _ _ (by decide) (by decide) hx9) (fun ph105 h => ?_)
      refine RR.wid (k' := 0) (n' := 0) (by decide) (by decide) ?_
      refine r_iinc (w := 4) (v := x3 + 1) (lv' := [(3, .int (x3 + 1)), (7, .int s0), (0, va_rf x0), (1, va_rf x1), (2, .int x2), (4, .int x4), (5, .int x5), (6, .int x6)]) hC dX6_collectSets_108 rfl rfl (by decide) (by first | rfl | simp [lvs1, List.filter, cat_rf, cat_i, cat_j]) ?_
      have k111_43 : ∀ (x0 : Option Nat) (x1 : Option Nat) (x2 : Int32) (x3 : Int32) (x4 : Int32) (x5 : Int32) (ph : PH), K43 x0 x1 x2 x3 x4 x5 ph → RR C Z A G 8 43 [(0, va_rf x0), (1, va_rf x1), (2, .int x2), (3, .int x3), (4, .int x4), (5, .int x5)] [] ph 0 0 := by
        intro x0 x1 x2 x3 x4 x5 ph h
        exact RR.wid (by decide) (by decide) (RR.sub [0, 1, 2, 3, 4, 5] rfl (hK43 _ _ _ _ _ _ _ h))
      exact RR.wid (by decide) (by decide) (RR.sub [2, 3, 4, 0, 5, 6, 1] rfl (b_X6_collectSets_111 hC hAo hr hx hn hnw hnx hi k111_43 _ _ _ _ _ _ _ _ h))
    · have h := h.2 c9
      refine r_iconst (v := -1) hC dX6_collectSets_99 (by decide) ?_
      exact hr _ _ _ _ _ _ dX6_collectSets_100 (by decide) (by decide) h
set_option maxRecDepth 20000 in
theorem b_X6_collectSets_43 {C : Cx} {Z : State → Prop} {A : Nat → Prop} {G : GG} {Q : Int32 → PH → Prop} {X : String → PH → Prop} {K24 : Option Nat → Option Nat → Int32 → Int32 → Int32 → PH → Prop} (hC : CxOk RX6 cX6_collectSets 8 G A (rmk 4 93 0 0) C) (hAo : Ao (xs C)) (hr : HI C Z A G 8 cX6_collectSets 0 0 Q) (hx : HX C Z A G 8 0 0 X) (hn : HN C Z A G 8 RX6 cX6_collectSets 0 0 (rmk 4 93 0 0) X) (hnw : HNW C Z A G 8 RX6 cX6_collectSets 0 0 (rmk 4 93 0 0) X) (hnx : HNX C Z A G 8 RX6 cX6_collectSets 0 0 (rmk 4 93 0 0) X) (hi : True) (hK24 : ∀ (x0 : Option Nat) (x1 : Option Nat) (x2 : Int32) (x3 : Int32) (x4 : Int32) (ph : PH), K24 x0 x1 x2 x3 x4 ph → RR C Z A G 8 24 [(0, va_rf x0), (1, va_rf x1), (2, .int x2), (3, .int x3), (4, .int x4)] [] ph 0 0) : ∀ (fu : Nat) (x0 : Option Nat) (x1 : Option Nat) (x2 : Int32) (x3 : Int32) (x4 : Int32) (x5 : Int32) (ph : PH), w_X6_collectSets_43 Q X K24 fu x0 x1 x2 x3 x4 x5 ph → RR C Z A G 8 43 [(0, va_rf x0), (1, va_rf x1), (2, .int x2), (3, .int x3), (4, .int x4), (5, .int x5)] [] ph 0 0 := by
  intro fu
  induction fu with
  | zero => intro x0 x1 x2 x3 x4 x5 ph h; exact h.elim
  | succ fu ih =>
    intro x0 x1 x2 x3 x4 x5 ph h
    refine r_iload hC dX6_collectSets_43 5 rfl ?_
    refine r_aload_n hC dX6_collectSets_45 rfl 1 rfl ?_
    obtain ⟨v46, g46, h⟩ := h
    refine r_get hC (ci := 6) (kf := 1) (N := 3) (Cn := RX3) (T := TX3) rfl (by decide) tin_X3 fl_X6_82 rfl dX6_collectSets_46 g46 ?_
    refine r_icmp_ge (tgt := 127) hC dX6_collectSets_49 (by decide) (fun c9 => ?_) (fun c9 => ?_)
    · have h := h.1 c9
      refine r_iinc (w := 4) (v := x4 + 1) (lv' := [(4, .int (x4 + 1)), (0, va_rf x0), (1, va_rf x1), (2, .int x2), (3, .int x3), (5, .int x5)]) hC dX6_collectSets_127 rfl rfl (by decide) (by first | rfl | simp [lvs1, List.filter, cat_rf, cat_i, cat_j]) ?_
      refine r_goto (tgt := 24) hC dX6_collectSets_130 (by decide) ?_
      exact RR.wid (by decide) (by decide) (RR.sub [1, 2, 3, 4, 0] rfl (hK24 _ _ _ _ _ _ h))
    · have h := h.2 c9
      refine r_aload_n hC dX6_collectSets_52 rfl 1 rfl ?_
      refine r_aload_n hC dX6_collectSets_53 rfl 0 rfl ?_
      obtain ⟨v54, g54, h⟩ := h
      refine r_get hC (ci := 7) (kf := 4) (N := 11) (Cn := RX6) (T := TX6) rfl (by decide) tin_X6 fl_X6_24 rfl dX6_collectSets_54 g54 ?_
      refine r_iload hC dX6_collectSets_57 4 rfl ?_
      obtain ⟨v59, g59, h⟩ := h
      refine r_iald hC dX6_collectSets_59 g59 ?_
      refine r_iload hC dX6_collectSets_60 5 rfl ?_
      obtain ⟨a62, o62, h⟩ := h
      refine r_VI hC hAo [.int v59, .int x5] cal_X3_read ml_X6_61 (ci := 6) rfl rfl rfl (c_X3_read G _ _ _ _ _ _ h) o62 ⟨by decide, by decide⟩ ⟨by decide, by decide⟩ (by simp only [List.map_nil, List.map_cons, List.sum_nil, List.sum_cons, cat_rf, cat_i, cat_j]; decide) rfl dX6_collectSets_62 (fun E u hx9 => hx _ _ _ _ _ _ _ (by decide) (by decide) hx9) (fun v62 ph62 h => ?_)
      refine RR.wid (k' := 0) (n' := 0) (by decide) (by decide) ?_
      refine r_iload_n hC dX6_collectSets_65 rfl 2 rfl ?_
      refine r_iand hC dX6_collectSets_66 ?_
      obtain ⟨v67, ev67⟩ : ∃ z : Int32, z = v62 &&& x2 := ⟨_, rfl⟩
      have h := h v67 ev67
      refine RR.to (st' := [.int v67]) (by rw [ev67]) ?_
      refine r_istore (i := 6) (lv' := [(6, .int v67), (0, va_rf x0), (1, va_rf x1), (2, .int x2), (3, .int x3), (4, .int x4), (5, .int x5)]) hC dX6_collectSets_67 (by decide) (by first | rfl | simp [lvs1, lvs2, List.filter, cat_rf, cat_i, cat_j]) ?_
      refine r_iload hC dX6_collectSets_69 0 rfl ?_
      refine r_if_ne (tgt := 78) hC dX6_collectSets_71 (by decide) (fun c9 => ?_) (fun c9 => ?_)
      · have h := h.1 c9
        refine r_aload_n hC dX6_collectSets_78 rfl 1 rfl ?_
        refine r_iload hC dX6_collectSets_79 0 rfl ?_
        refine r_iload_n hC dX6_collectSets_81 rfl 4 rfl ?_
        obtain ⟨a82, o82, h⟩ := h
        refine r_VI hC hAo [.int v67, .int x3] cal_X6_placeOfSet ml_X6_124 (ci := 7) rfl rfl rfl (c_X6_placeOfSet G _ _ _ _ _ _ h) o82 ⟨by decide, by decide⟩ ⟨by decide, by decide⟩ (by simp only [List.map_nil, List.map_cons, List.sum_nil, List.sum_cons, cat_rf, cat_i, cat_j]; decide) rfl dX6_collectSets_82 (fun E u hx9 => hx _ _ _ _ _ _ _ (by decide) (by decide) hx9) (fun v82 ph82 h => ?_)
        refine RR.wid (k' := 0) (n' := 0) (by decide) (by decide) ?_
        have k85_43 : ∀ (x0 : Option Nat) (x1 : Option Nat) (x2 : Int32) (x3 : Int32) (x4 : Int32) (x5 : Int32) (ph : PH), w_X6_collectSets_43 Q X K24 fu x0 x1 x2 x3 x4 x5 ph → RR C Z A G 8 43 [(0, va_rf x0), (1, va_rf x1), (2, .int x2), (3, .int x3), (4, .int x4), (5, .int x5)] [] ph 0 0 := by
          intro x0 x1 x2 x3 x4 x5 ph h
          exact RR.wid (by decide) (by decide) (RR.sub [0, 1, 2, 3, 4, 5] rfl (ih _ _ _ _ _ _ _ h))
        exact RR.wid (by decide) (by decide) (RR.sub [1, 2, 3, 4, 5, 6, 0] rfl (b_X6_collectSets_85 hC hAo hr hx hn hnw hnx hi k85_43 _ _ _ _ _ _ _ _ _ h))
      · have h := h.2 c9
        refine r_iconst (v := -1) hC dX6_collectSets_74 (by decide) ?_
        refine r_goto (tgt := 85) hC dX6_collectSets_75 (by decide) ?_
        have k85_43 : ∀ (x0 : Option Nat) (x1 : Option Nat) (x2 : Int32) (x3 : Int32) (x4 : Int32) (x5 : Int32) (ph : PH), w_X6_collectSets_43 Q X K24 fu x0 x1 x2 x3 x4 x5 ph → RR C Z A G 8 43 [(0, va_rf x0), (1, va_rf x1), (2, .int x2), (3, .int x3), (4, .int x4), (5, .int x5)] [] ph 0 0 := by
          intro x0 x1 x2 x3 x4 x5 ph h
          exact RR.wid (by decide) (by decide) (RR.sub [0, 1, 2, 3, 4, 5] rfl (ih _ _ _ _ _ _ _ h))
        exact RR.wid (by decide) (by decide) (RR.sub [1, 2, 3, 4, 5, 6, 0] rfl (b_X6_collectSets_85 hC hAo hr hx hn hnw hnx hi k85_43 _ _ _ _ _ _ _ _ _ h))
set_option maxRecDepth 20000 in
theorem b_X6_collectSets_24 {C : Cx} {Z : State → Prop} {A : Nat → Prop} {G : GG} {Q : Int32 → PH → Prop} {X : String → PH → Prop} (hC : CxOk RX6 cX6_collectSets 8 G A (rmk 4 93 0 0) C) (hAo : Ao (xs C)) (hr : HI C Z A G 8 cX6_collectSets 0 0 Q) (hx : HX C Z A G 8 0 0 X) (hn : HN C Z A G 8 RX6 cX6_collectSets 0 0 (rmk 4 93 0 0) X) (hnw : HNW C Z A G 8 RX6 cX6_collectSets 0 0 (rmk 4 93 0 0) X) (hnx : HNX C Z A G 8 RX6 cX6_collectSets 0 0 (rmk 4 93 0 0) X) (hi : True) : ∀ (fu : Nat) (x0 : Option Nat) (x1 : Option Nat) (x2 : Int32) (x3 : Int32) (x4 : Int32) (ph : PH), w_X6_collectSets_24 Q X fu x0 x1 x2 x3 x4 ph → RR C Z A G 8 24 [(0, va_rf x0), (1, va_rf x1), (2, .int x2), (3, .int x3), (4, .int x4)] [] ph 0 0 := by
  intro fu
  induction fu with
  | zero => intro x0 x1 x2 x3 x4 ph h; exact h.elim
  | succ fu ih =>
    intro x0 x1 x2 x3 x4 ph h
    refine r_iload hC dX6_collectSets_24 4 rfl ?_
    refine r_iload_n hC dX6_collectSets_26 rfl 3 rfl ?_
    refine r_icmp_ge (tgt := 133) hC dX6_collectSets_27 (by decide) (fun c9 => ?_) (fun c9 => ?_)
    · have h := h.1 c9
      refine r_iload_n hC dX6_collectSets_133 rfl 3 rfl ?_
      exact hr _ _ _ _ _ _ dX6_collectSets_134 (by decide) (by decide) h
    · have h := h.2 c9
      refine r_iload hC dX6_collectSets_30 4 rfl ?_
      refine r_aload_n hC dX6_collectSets_32 rfl 0 rfl ?_
      obtain ⟨v33, g33, h⟩ := h
      refine r_get hC (ci := 7) (kf := 4) (N := 11) (Cn := RX6) (T := TX6) rfl (by decide) tin_X6 fl_X6_24 rfl dX6_collectSets_33 g33 ?_
      obtain ⟨v36, g36, h⟩ := h
      refine r_alen hC dX6_collectSets_36 g36 ?_
      refine r_icmp_ge (tgt := 133) hC dX6_collectSets_37 (by decide) (fun c9 => ?_) (fun c9 => ?_)
      · have h := h.1 c9
        refine r_iload_n hC dX6_collectSets_133 rfl 3 rfl ?_
        exact hr _ _ _ _ _ _ dX6_collectSets_134 (by decide) (by decide) h
      · have h := h.2 c9
        refine r_iconst (v := 0) hC dX6_collectSets_40 (by decide) ?_
        refine r_istore (i := 5) (lv' := [(5, .int (0 : Int32)), (0, va_rf x0), (1, va_rf x1), (2, .int x2), (3, .int x3), (4, .int x4)]) hC dX6_collectSets_41 (by decide) (by first | rfl | simp [lvs1, lvs2, List.filter, cat_rf, cat_i, cat_j]) ?_
        have k43_24 : ∀ (x0 : Option Nat) (x1 : Option Nat) (x2 : Int32) (x3 : Int32) (x4 : Int32) (ph : PH), w_X6_collectSets_24 Q X fu x0 x1 x2 x3 x4 ph → RR C Z A G 8 24 [(0, va_rf x0), (1, va_rf x1), (2, .int x2), (3, .int x3), (4, .int x4)] [] ph 0 0 := by
          intro x0 x1 x2 x3 x4 ph h
          exact RR.wid (by decide) (by decide) (RR.sub [0, 1, 2, 3, 4] rfl (ih _ _ _ _ _ _ h))
        obtain ⟨fu43, h⟩ := h
        exact RR.wid (by decide) (by decide) (RR.sub [1, 2, 3, 4, 5, 0] rfl (b_X6_collectSets_43 hC hAo hr hx hn hnw hnx hi k43_24 fu43 _ _ _ _ _ _ _ h))
set_option maxRecDepth 20000 in
theorem b_X6_collectSets_14 {C : Cx} {Z : State → Prop} {A : Nat → Prop} {G : GG} {Q : Int32 → PH → Prop} {X : String → PH → Prop} (hC : CxOk RX6 cX6_collectSets 8 G A (rmk 4 93 0 0) C) (hAo : Ao (xs C)) (hr : HI C Z A G 8 cX6_collectSets 0 0 Q) (hx : HX C Z A G 8 0 0 X) (hn : HN C Z A G 8 RX6 cX6_collectSets 0 0 (rmk 4 93 0 0) X) (hnw : HNW C Z A G 8 RX6 cX6_collectSets 0 0 (rmk 4 93 0 0) X) (hnx : HNX C Z A G 8 RX6 cX6_collectSets 0 0 (rmk 4 93 0 0) X) (hi : True) : ∀ (x0 : Option Nat) (x1 : Option Nat) (x2 : Int32) (s0 : Int32) (ph : PH), w_X6_collectSets_14 Q X x0 x1 x2 s0 ph → RR C Z A G 8 14 [(0, va_rf x0), (1, va_rf x1), (2, .int x2)] [.int s0] ph 0 0 := by
  intro x0 x1 x2 s0 ph h
  refine r_istore_n (i := 3) (lv' := [(3, .int s0), (0, va_rf x0), (1, va_rf x1), (2, .int x2)]) hC dX6_collectSets_14 rfl (by decide) (by first | rfl | simp [lvs1, lvs2, List.filter, cat_rf, cat_i, cat_j]) ?_
  refine r_aload_n hC dX6_collectSets_15 rfl 1 rfl ?_
  refine r_iconst (v := 0) hC dX6_collectSets_16 (by decide) ?_
  refine r_iload_n hC dX6_collectSets_17 rfl 3 rfl ?_
  obtain ⟨a18, o18, h⟩ := h
  refine r_VV hC hAo [.int (0 : Int32), .int x2] cal_X6_keepSet ml_X6_120 (ci := 7) rfl rfl rfl (c_X6_keepSet G _ _ _ _ _ _ h) o18 ⟨by decide, by decide⟩ ⟨by decide, by decide⟩ (by simp only [List.map_nil, List.map_cons, List.sum_nil, List.sum_cons, cat_rf, cat_i, cat_j]; decide) rfl dX6_collectSets_18 (fun E u hx9 => hx _ _ _ _ _ _ _ (by decide) (by decide) hx9) (fun ph18 h => ?_)
  refine RR.wid (k' := 0) (n' := 0) (by decide) (by decide) ?_
  refine r_iconst (v := 0) hC dX6_collectSets_21 (by decide) ?_
  refine r_istore (i := 4) (lv' := [(4, .int (0 : Int32)), (3, .int s0), (0, va_rf x0), (1, va_rf x1), (2, .int x2)]) hC dX6_collectSets_22 (by decide) (by first | rfl | simp [lvs1, lvs2, List.filter, cat_rf, cat_i, cat_j]) ?_
  obtain ⟨fu24, h⟩ := h
  exact RR.wid (by decide) (by decide) (RR.sub [2, 3, 4, 1, 0] rfl (b_X6_collectSets_24 hC hAo hr hx hn hnw hnx hi  fu24 _ _ _ _ _ _ h))
set_option maxRecDepth 20000 in
theorem c_X6_collectSets (G : GG) (x0 : Nat) (x1 : Option Nat) (ph : PH) (Q : Int32 → PH → Prop) (X : String → PH → Prop) (h : w_X6_collectSets x0 x1 ph Q X) : Ct G yX6_collectSets (.code yX6_collectSets cX6_collectSets 8 (some (.int))) 4 93 0 0 [va_rf (some x0), va_rf x1] ph (oI Q) X := by
  refine ct_of (lv0 := [(0, va_rf (some x0)), (1, va_rf x1)]) (by decide +kernel) (by simp [lg_sl, cat_rf, cat_i, cat_j]) (by simp [lv_args, cat_rf, cat_i, cat_j]) ?_
  intro C A hC hAo hex hrt hnm
  have hr : HI C (ZM C G A (oI Q) X 0 0) A G 8 cX6_collectSets 0 0 Q := fun pc lv v ph k n d hk hn hq => e_i hC hrt pc lv v ph k n d hk hn ⟨v, rfl, hq⟩
  have hx := e_x (Q := oI Q) (X := X) (mc := 0) (ms := 0) hC hex
  have hn := e_n (Q := oI Q) (X := X) (mc := 0) (ms := 0) hC hex
  have hnw := e_nw (Q := oI Q) (X := X) (mc := 0) (ms := 0) hC hex
  have hnx := e_nx (Q := oI Q) (X := X) (mc := 0) (ms := 0) hC hex
  have hi : True := trivial
  generalize ZM C G A (oI Q) X 0 0 = Z at *
  refine r_aload_n hC dX6_collectSets_0 rfl 1 rfl ?_
  obtain ⟨a1, o1, h⟩ := h
  refine r_VI hC hAo [] cal_X3_liveSet ml_X6_45 (ci := 6) rfl rfl rfl (c_X3_liveSet G _ _ _ _ h) o1 ⟨by decide, by decide⟩ ⟨by decide, by decide⟩ (by simp only [List.map_nil, List.map_cons, List.sum_nil, List.sum_cons, cat_rf, cat_i, cat_j]; decide) rfl dX6_collectSets_1 (fun E u hx9 => hx _ _ _ _ _ _ _ (by decide) (by decide) hx9) (fun v1 ph1 h => ?_)
  refine RR.wid (k' := 0) (n' := 0) (by decide) (by decide) ?_
  refine r_istore_n (i := 2) (lv' := [(2, .int v1), (0, va_rf (some x0)), (1, va_rf x1)]) hC dX6_collectSets_4 rfl (by decide) (by first | rfl | simp [lvs1, lvs2, List.filter, cat_rf, cat_i, cat_j]) ?_
  refine r_iload_n hC dX6_collectSets_5 rfl 0 rfl ?_
  refine r_if_ne (tgt := 13) hC dX6_collectSets_6 (by decide) (fun c9 => ?_) (fun c9 => ?_)
  · have h := h.1 c9
    refine r_iconst (v := 1) hC dX6_collectSets_13 (by decide) ?_
    exact RR.wid (by decide) (by decide) (RR.sub [1, 2, 0] rfl (b_X6_collectSets_14 hC hAo hr hx hn hnw hnx hi  _ _ _ _ _ h))
  · have h := h.2 c9
    refine r_iconst (v := 0) hC dX6_collectSets_9 (by decide) ?_
    refine r_goto (tgt := 14) hC dX6_collectSets_10 (by decide) ?_
    exact RR.wid (by decide) (by decide) (RR.sub [1, 2, 0] rfl (b_X6_collectSets_14 hC hAo hr hx hn hnw hnx hi  _ _ _ _ _ h))
set_option maxRecDepth 20000 in
theorem c_X6_kindOf (G : GG) (x0 : Nat) (x1 : Int32) (ph : PH) (Q : Int32 → PH → Prop) (X : String → PH → Prop) (h : w_X6_kindOf x0 x1 ph Q X) : Ct G yX6_kindOf (.code yX6_kindOf cX6_kindOf 2 (some (.int))) 0 0 0 0 [va_rf (some x0), .int x1] ph (oI Q) X := by
  refine ct_of (lv0 := [(0, va_rf (some x0)), (1, .int x1)]) (by decide +kernel) (by simp [lg_sl, cat_rf, cat_i, cat_j]) (by simp [lv_args, cat_rf, cat_i, cat_j]) ?_
  intro C A hC hAo hex hrt hnm
  have hr : HI C (ZM C G A (oI Q) X 0 0) A G 2 cX6_kindOf 0 0 Q := fun pc lv v ph k n d hk hn hq => e_i hC hrt pc lv v ph k n d hk hn ⟨v, rfl, hq⟩
  have hx := e_x (Q := oI Q) (X := X) (mc := 0) (ms := 0) hC hex
  have hn := e_n (Q := oI Q) (X := X) (mc := 0) (ms := 0) hC hex
  have hnw := e_nw (Q := oI Q) (X := X) (mc := 0) (ms := 0) hC hex
  have hnx := e_nx (Q := oI Q) (X := X) (mc := 0) (ms := 0) hC hex
  have hi : True := trivial
  generalize ZM C G A (oI Q) X 0 0 = Z at *
  refine r_iload_n hC dX6_kindOf_0 rfl 1 rfl ?_
  refine r_if_lt (tgt := 22) hC dX6_kindOf_1 (by decide) (fun c9 => ?_) (fun c9 => ?_)
  · have h := h.1 c9
    refine r_iconst (v := -1) hC dX6_kindOf_22 (by decide) ?_
    exact hr _ _ _ _ _ _ dX6_kindOf_23 (by decide) (by decide) h
  · have h := h.2 c9
    refine r_iload_n hC dX6_kindOf_4 rfl 1 rfl ?_
    refine r_aload_n hC dX6_kindOf_5 rfl 0 rfl ?_
    obtain ⟨v6, g6, h⟩ := h
    refine r_get hC (ci := 7) (kf := 6) (N := 11) (Cn := RX6) (T := TX6) rfl (by decide) tin_X6 fl_X6_30 rfl dX6_kindOf_6 g6 ?_
    obtain ⟨v9, g9, h⟩ := h
    refine r_alen hC dX6_kindOf_9 g9 ?_
    refine r_icmp_ge (tgt := 22) hC dX6_kindOf_10 (by decide) (fun c9 => ?_) (fun c9 => ?_)
    · have h := h.1 c9
      refine r_iconst (v := -1) hC dX6_kindOf_22 (by decide) ?_
      exact hr _ _ _ _ _ _ dX6_kindOf_23 (by decide) (by decide) h
    · have h := h.2 c9
      refine r_aload_n hC dX6_kindOf_13 rfl 0 rfl ?_
      obtain ⟨v14, g14, h⟩ := h
      refine r_get hC (ci := 7) (kf := 6) (N := 11) (Cn := RX6) (T := TX6) rfl (by decide) tin_X6 fl_X6_30 rfl dX6_kindOf_14 g14 ?_
      refine r_iload_n hC dX6_kindOf_17 rfl 1 rfl ?_
      obtain ⟨v18, g18, h⟩ := h
      refine r_iald hC dX6_kindOf_18 g18 ?_
      refine r_goto (tgt := 23) hC dX6_kindOf_19 (by decide) ?_
      exact hr _ _ _ _ _ _ dX6_kindOf_23 (by decide) (by decide) h
set_option maxRecDepth 20000 in
theorem c_X6_kindBehind (G : GG) (x0 : Nat) (x1 : Int32) (x2 : Int32) (ph : PH) (Q : Int32 → PH → Prop) (X : String → PH → Prop) (h : w_X6_kindBehind x0 x1 x2 ph Q X) : Ct G yX6_kindBehind (.code yX6_kindBehind cX6_kindBehind 4 (some (.int))) 1 21 0 0 [va_rf (some x0), .int x1, .int x2] ph (oI Q) X := by
  refine ct_of (lv0 := [(0, va_rf (some x0)), (1, .int x1), (2, .int x2)]) (by decide +kernel) (by simp [lg_sl, cat_rf, cat_i, cat_j]) (by simp [lv_args, cat_rf, cat_i, cat_j]) ?_
  intro C A hC hAo hex hrt hnm
  have hr : HI C (ZM C G A (oI Q) X 0 0) A G 4 cX6_kindBehind 0 0 Q := fun pc lv v ph k n d hk hn hq => e_i hC hrt pc lv v ph k n d hk hn ⟨v, rfl, hq⟩
  have hx := e_x (Q := oI Q) (X := X) (mc := 0) (ms := 0) hC hex
  have hn := e_n (Q := oI Q) (X := X) (mc := 0) (ms := 0) hC hex
  have hnw := e_nw (Q := oI Q) (X := X) (mc := 0) (ms := 0) hC hex
  have hnx := e_nx (Q := oI Q) (X := X) (mc := 0) (ms := 0) hC hex
  have hi : True := trivial
  generalize ZM C G A (oI Q) X 0 0 = Z at *
  refine r_iconst (v := 3) hC dX6_kindBehind_0 (by decide) ?_
  refine r_iload_n hC dX6_kindBehind_1 rfl 1 rfl ?_
  refine r_imul hC dX6_kindBehind_2 ?_
  refine r_iload_n hC dX6_kindBehind_3 rfl 2 rfl ?_
  refine r_iadd hC dX6_kindBehind_4 ?_
  obtain ⟨v5, ev5⟩ : ∃ z : Int32, z = ((3 : Int32) * x1) + x2 := ⟨_, rfl⟩
  have h := h v5 ev5
  refine RR.to (st' := [.int v5]) (by rw [ev5]) ?_
  refine r_istore_n (i := 3) (lv' := [(3, .int v5), (0, va_rf (some x0)), (1, .int x1), (2, .int x2)]) hC dX6_kindBehind_5 rfl (by decide) (by first | rfl | simp [lvs1, lvs2, List.filter, cat_rf, cat_i, cat_j]) ?_
  refine r_iload_n hC dX6_kindBehind_6 rfl 0 rfl ?_
  refine r_if_lt (tgt := 32) hC dX6_kindBehind_7 (by decide) (fun c9 => ?_) (fun c9 => ?_)
  · have h := h.1 c9
    refine r_iconst (v := -1) hC dX6_kindBehind_32 (by decide) ?_
    exact hr _ _ _ _ _ _ dX6_kindBehind_33 (by decide) (by decide) h
  · have h := h.2 c9
    refine r_iload_n hC dX6_kindBehind_10 rfl 0 rfl ?_
    refine r_aload_n hC dX6_kindBehind_11 rfl 1 rfl ?_
    obtain ⟨v12, g12, h⟩ := h
    refine r_get hC (ci := 7) (kf := 5) (N := 11) (Cn := RX6) (T := TX6) rfl (by decide) tin_X6 fl_X6_27 rfl dX6_kindBehind_12 g12 ?_
    obtain ⟨v15, g15, h⟩ := h
    refine r_alen hC dX6_kindBehind_15 g15 ?_
    refine r_icmp_ge (tgt := 32) hC dX6_kindBehind_16 (by decide) (fun c9 => ?_) (fun c9 => ?_)
    · have h := h.1 c9
      refine r_iconst (v := -1) hC dX6_kindBehind_32 (by decide) ?_
      exact hr _ _ _ _ _ _ dX6_kindBehind_33 (by decide) (by decide) h
    · have h := h.2 c9
      refine r_aload_n hC dX6_kindBehind_19 rfl 1 rfl ?_
      refine r_aload_n hC dX6_kindBehind_20 rfl 1 rfl ?_
      obtain ⟨v21, g21, h⟩ := h
      refine r_get hC (ci := 7) (kf := 5) (N := 11) (Cn := RX6) (T := TX6) rfl (by decide) tin_X6 fl_X6_27 rfl dX6_kindBehind_21 g21 ?_
      refine r_iload_n hC dX6_kindBehind_24 rfl 0 rfl ?_
      obtain ⟨v25, g25, h⟩ := h
      refine r_iald hC dX6_kindBehind_25 g25 ?_
      obtain ⟨a26, o26, h⟩ := h
      refine r_VI hC hAo [.int v25] cal_X6_kindOf ml_X6_134 (ci := 7) rfl rfl rfl (c_X6_kindOf G _ _ _ _ _ h) o26 ⟨by decide, by decide⟩ ⟨by decide, by decide⟩ (by simp only [List.map_nil, List.map_cons, List.sum_nil, List.sum_cons, cat_rf, cat_i, cat_j]; decide) rfl dX6_kindBehind_26 (fun E u hx9 => hx _ _ _ _ _ _ _ (by decide) (by decide) hx9) (fun v26 ph26 h => ?_)
      refine RR.wid (k' := 0) (n' := 0) (by decide) (by decide) ?_
      refine r_goto (tgt := 33) hC dX6_kindBehind_29 (by decide) ?_
      exact hr _ _ _ _ _ _ dX6_kindBehind_33 (by decide) (by decide) h
set_option maxRecDepth 20000 in
theorem b_X6_firstLike_71 {C : Cx} {Z : State → Prop} {A : Nat → Prop} {G : GG} {Q : Int32 → PH → Prop} {X : String → PH → Prop} {K2 : Option Nat → Int32 → Int32 → Int32 → PH → Prop} (hC : CxOk RX6 cX6_firstLike 6 G A (rmk 2 44 0 0) C) (hAo : Ao (xs C)) (hr : HI C Z A G 6 cX6_firstLike 0 0 Q) (hx : HX C Z A G 6 0 0 X) (hn : HN C Z A G 6 RX6 cX6_firstLike 0 0 (rmk 2 44 0 0) X) (hnw : HNW C Z A G 6 RX6 cX6_firstLike 0 0 (rmk 2 44 0 0) X) (hnx : HNX C Z A G 6 RX6 cX6_firstLike 0 0 (rmk 2 44 0 0) X) (hi : True) (hK2 : ∀ (x0 : Option Nat) (x1 : Int32) (x2 : Int32) (x3 : Int32) (ph : PH), K2 x0 x1 x2 x3 ph → RR C Z A G 6 2 [(0, va_rf x0), (1, .int x1), (2, .int x2), (3, .int x3)] [] ph 0 0) : ∀ (x0 : Option Nat) (x1 : Int32) (x2 : Int32) (x3 : Int32) (x4 : Int32) (ph : PH), w_X6_firstLike_71 Q X K2 x0 x1 x2 x3 x4 ph → RR C Z A G 6 71 [(0, va_rf x0), (1, .int x1), (2, .int x2), (3, .int x3), (4, .int x4)] [] ph 0 0 := by
  intro x0 x1 x2 x3 x4 ph h
  refine r_iload hC dX6_firstLike_71 4 rfl ?_
  refine r_if_eq (tgt := 78) hC dX6_firstLike_73 (by decide) (fun c9 => ?_) (fun c9 => ?_)
  · have h := h.1 c9
    refine r_iinc (w := 3) (v := x3 + 1) (lv' := [(3, .int (x3 + 1)), (0, va_rf x0), (1, .int x1), (2, .int x2), (4, .int x4)]) hC dX6_firstLike_78 rfl rfl (by decide) (by first | rfl | simp [lvs1, List.filter, cat_rf, cat_i, cat_j]) ?_
    refine r_goto (tgt := 2) hC dX6_firstLike_81 (by decide) ?_
    exact RR.wid (by decide) (by decide) (RR.sub [1, 2, 3, 0] rfl (hK2 _ _ _ _ _ h))
  · have h := h.2 c9
    refine r_iload_n hC dX6_firstLike_76 rfl 3 rfl ?_
    exact hr _ _ _ _ _ _ dX6_firstLike_77 (by decide) (by decide) h
set_option maxRecDepth 20000 in
theorem b_X6_firstLike_30 {C : Cx} {Z : State → Prop} {A : Nat → Prop} {G : GG} {Q : Int32 → PH → Prop} {X : String → PH → Prop} {K2 : Option Nat → Int32 → Int32 → Int32 → PH → Prop} (hC : CxOk RX6 cX6_firstLike 6 G A (rmk 2 44 0 0) C) (hAo : Ao (xs C)) (hr : HI C Z A G 6 cX6_firstLike 0 0 Q) (hx : HX C Z A G 6 0 0 X) (hn : HN C Z A G 6 RX6 cX6_firstLike 0 0 (rmk 2 44 0 0) X) (hnw : HNW C Z A G 6 RX6 cX6_firstLike 0 0 (rmk 2 44 0 0) X) (hnx : HNX C Z A G 6 RX6 cX6_firstLike 0 0 (rmk 2 44 0 0) X) (hi : True) (hK2 : ∀ (x0 : Option Nat) (x1 : Int32) (x2 : Int32) (x3 : Int32) (ph : PH), K2 x0 x1 x2 x3 ph → RR C Z A G 6 2 [(0, va_rf x0), (1, .int x1), (2, .int x2), (3, .int x3)] [] ph 0 0) : ∀ (fu : Nat) (x0 : Option Nat) (x1 : Int32) (x2 : Int32) (x3 : Int32) (x4 : Int32) (x5 : Int32) (ph : PH), w_X6_firstLike_30 Q X K2 fu x0 x1 x2 x3 x4 x5 ph → RR C Z A G 6 30 [(0, va_rf x0), (1, .int x1), (2, .int x2), (3, .int x3), (4, .int x4), (5, .int x5)] [] ph 0 0 := by
  intro fu
  induction fu with
  | zero => intro x0 x1 x2 x3 x4 x5 ph h; exact h.elim
  | succ fu ih =>
    intro x0 x1 x2 x3 x4 x5 ph h
    refine r_iload hC dX6_firstLike_30 5 rfl ?_
    refine r_iload_n hC dX6_firstLike_32 rfl 2 rfl ?_
    refine r_icmp_ge (tgt := 71) hC dX6_firstLike_33 (by decide) (fun c9 => ?_) (fun c9 => ?_)
    · have h := h.1 c9
      have k71_2 : ∀ (x0 : Option Nat) (x1 : Int32) (x2 : Int32) (x3 : Int32) (ph : PH), K2 x0 x1 x2 x3 ph → RR C Z A G 6 2 [(0, va_rf x0), (1, .int x1), (2, .int x2), (3, .int x3)] [] ph 0 0 := by
        intro x0 x1 x2 x3 ph h
        exact RR.wid (by decide) (by decide) (RR.sub [0, 1, 2, 3] rfl (hK2 _ _ _ _ _ h))
      exact RR.wid (by decide) (by decide) (RR.sub [0, 1, 2, 3, 4] rfl (b_X6_firstLike_71 hC hAo hr hx hn hnw hnx hi k71_2 _ _ _ _ _ _ h))
    · have h := h.2 c9
      refine r_iload hC dX6_firstLike_36 4 rfl ?_
      refine r_if_eq (tgt := 71) hC dX6_firstLike_38 (by decide) (fun c9 => ?_) (fun c9 => ?_)
      · have h := h.1 c9
        have k71_2 : ∀ (x0 : Option Nat) (x1 : Int32) (x2 : Int32) (x3 : Int32) (ph : PH), K2 x0 x1 x2 x3 ph → RR C Z A G 6 2 [(0, va_rf x0), (1, .int x1), (2, .int x2), (3, .int x3)] [] ph 0 0 := by
          intro x0 x1 x2 x3 ph h
          exact RR.wid (by decide) (by decide) (RR.sub [0, 1, 2, 3] rfl (hK2 _ _ _ _ _ h))
        exact RR.wid (by decide) (by decide) (RR.sub [0, 1, 2, 3, 4] rfl (b_X6_firstLike_71 hC hAo hr hx hn hnw hnx hi k71_2 _ _ _ _ _ _ h))
      · have h := h.2 c9
        refine r_aload_n hC dX6_firstLike_41 rfl 0 rfl ?_
        refine r_iload_n hC dX6_firstLike_42 rfl 3 rfl ?_
        refine r_iload hC dX6_firstLike_43 5 rfl ?_
        obtain ⟨a45, o45, h⟩ := h
        refine r_VI hC hAo [.int x3, .int x5] cal_X6_kindBehind ml_X6_137 (ci := 7) rfl rfl rfl (c_X6_kindBehind G _ _ _ _ _ _ h) o45 ⟨by decide, by decide⟩ ⟨by decide, by decide⟩ (by simp only [List.map_nil, List.map_cons, List.sum_nil, List.sum_cons, cat_rf, cat_i, cat_j]; decide) rfl dX6_firstLike_45 (fun E u hx9 => hx _ _ _ _ _ _ _ (by decide) (by decide) hx9) (fun v45 ph45 h => ?_)
        refine RR.wid (k' := 0) (n' := 0) (by decide) (by decide) ?_
        refine r_aload_n hC dX6_firstLike_48 rfl 0 rfl ?_
        refine r_iload_n hC dX6_firstLike_49 rfl 1 rfl ?_
        refine r_iload hC dX6_firstLike_50 5 rfl ?_
        obtain ⟨a52, o52, h⟩ := h
        refine r_VI hC hAo [.int x1, .int x5] cal_X6_kindBehind ml_X6_137 (ci := 7) rfl rfl rfl (c_X6_kindBehind G _ _ _ _ _ _ h) o52 ⟨by decide, by decide⟩ ⟨by decide, by decide⟩ (by simp only [List.map_nil, List.map_cons, List.sum_nil, List.sum_cons, cat_rf, cat_i, cat_j]; decide) rfl dX6_firstLike_52 (fun E u hx9 => hx _ _ _ _ _ _ _ (by decide) (by decide) hx9) (fun v52 ph52 h => ?_)
        refine RR.wid (k' := 0) (n' := 0) (by decide) (by decide) ?_
        refine r_icmp_ne (tgt := 62) hC dX6_firstLike_55 (by decide) (fun c9 => ?_) (fun c9 => ?_)
        · have h := h.1 c9
          refine r_iconst (v := 0) hC dX6_firstLike_62 (by decide) ?_
          refine r_istore (i := 4) (lv' := [(4, .int (0 : Int32)), (0, va_rf x0), (1, .int x1), (2, .int x2), (3, .int x3), (5, .int x5)]) hC dX6_firstLike_63 (by decide) (by first | rfl | simp [lvs1, lvs2, List.filter, cat_rf, cat_i, cat_j]) ?_
          refine r_iinc (w := 5) (v := x5 + 1) (lv' := [(5, .int (x5 + 1)), (4, .int (0 : Int32)), (0, va_rf x0), (1, .int x1), (2, .int x2), (3, .int x3)]) hC dX6_firstLike_65 rfl rfl (by decide) (by first | rfl | simp [lvs1, List.filter, cat_rf, cat_i, cat_j]) ?_
          refine r_goto (tgt := 30) hC dX6_firstLike_68 (by decide) ?_
          exact RR.wid (by decide) (by decide) (RR.sub [2, 3, 4, 5, 1, 0] rfl (ih _ _ _ _ _ _ _ h))
        · have h := h.2 c9
          refine r_iconst (v := 1) hC dX6_firstLike_58 (by decide) ?_
          refine r_goto (tgt := 63) hC dX6_firstLike_59 (by decide) ?_
          refine r_istore (i := 4) (lv' := [(4, .int (1 : Int32)), (0, va_rf x0), (1, .int x1), (2, .int x2), (3, .int x3), (5, .int x5)]) hC dX6_firstLike_63 (by decide) (by first | rfl | simp [lvs1, lvs2, List.filter, cat_rf, cat_i, cat_j]) ?_
          refine r_iinc (w := 5) (v := x5 + 1) (lv' := [(5, .int (x5 + 1)), (4, .int (1 : Int32)), (0, va_rf x0), (1, .int x1), (2, .int x2), (3, .int x3)]) hC dX6_firstLike_65 rfl rfl (by decide) (by first | rfl | simp [lvs1, List.filter, cat_rf, cat_i, cat_j]) ?_
          refine r_goto (tgt := 30) hC dX6_firstLike_68 (by decide) ?_
          exact RR.wid (by decide) (by decide) (RR.sub [2, 3, 4, 5, 1, 0] rfl (ih _ _ _ _ _ _ _ h))
set_option maxRecDepth 20000 in
theorem b_X6_firstLike_2 {C : Cx} {Z : State → Prop} {A : Nat → Prop} {G : GG} {Q : Int32 → PH → Prop} {X : String → PH → Prop} (hC : CxOk RX6 cX6_firstLike 6 G A (rmk 2 44 0 0) C) (hAo : Ao (xs C)) (hr : HI C Z A G 6 cX6_firstLike 0 0 Q) (hx : HX C Z A G 6 0 0 X) (hn : HN C Z A G 6 RX6 cX6_firstLike 0 0 (rmk 2 44 0 0) X) (hnw : HNW C Z A G 6 RX6 cX6_firstLike 0 0 (rmk 2 44 0 0) X) (hnx : HNX C Z A G 6 RX6 cX6_firstLike 0 0 (rmk 2 44 0 0) X) (hi : True) : ∀ (fu : Nat) (x0 : Option Nat) (x1 : Int32) (x2 : Int32) (x3 : Int32) (ph : PH), w_X6_firstLike_2 Q X fu x0 x1 x2 x3 ph → RR C Z A G 6 2 [(0, va_rf x0), (1, .int x1), (2, .int x2), (3, .int x3)] [] ph 0 0 := by
  intro fu
  induction fu with
  | zero => intro x0 x1 x2 x3 ph h; exact h.elim
  | succ fu ih =>
    intro x0 x1 x2 x3 ph h
    refine r_iload_n hC dX6_firstLike_2 rfl 3 rfl ?_
    refine r_iload_n hC dX6_firstLike_3 rfl 1 rfl ?_
    refine r_icmp_ge (tgt := 84) hC dX6_firstLike_4 (by decide) (fun c9 => ?_) (fun c9 => ?_)
    · have h := h.1 c9
      refine r_iload_n hC dX6_firstLike_84 rfl 1 rfl ?_
      exact hr _ _ _ _ _ _ dX6_firstLike_85 (by decide) (by decide) h
    · have h := h.2 c9
      refine r_aload_n hC dX6_firstLike_7 rfl 0 rfl ?_
      refine r_iload_n hC dX6_firstLike_8 rfl 3 rfl ?_
      obtain ⟨a9, o9, h⟩ := h
      refine r_VI hC hAo [.int x3] cal_X6_kindOf ml_X6_134 (ci := 7) rfl rfl rfl (c_X6_kindOf G _ _ _ _ _ h) o9 ⟨by decide, by decide⟩ ⟨by decide, by decide⟩ (by simp only [List.map_nil, List.map_cons, List.sum_nil, List.sum_cons, cat_rf, cat_i, cat_j]; decide) rfl dX6_firstLike_9 (fun E u hx9 => hx _ _ _ _ _ _ _ (by decide) (by decide) hx9) (fun v9 ph9 h => ?_)
      refine RR.wid (k' := 0) (n' := 0) (by decide) (by decide) ?_
      refine r_aload_n hC dX6_firstLike_12 rfl 0 rfl ?_
      refine r_iload_n hC dX6_firstLike_13 rfl 1 rfl ?_
      obtain ⟨a14, o14, h⟩ := h
      refine r_VI hC hAo [.int x1] cal_X6_kindOf ml_X6_134 (ci := 7) rfl rfl rfl (c_X6_kindOf G _ _ _ _ _ h) o14 ⟨by decide, by decide⟩ ⟨by decide, by decide⟩ (by simp only [List.map_nil, List.map_cons, List.sum_nil, List.sum_cons, cat_rf, cat_i, cat_j]; decide) rfl dX6_firstLike_14 (fun E u hx9 => hx _ _ _ _ _ _ _ (by decide) (by decide) hx9) (fun v14 ph14 h => ?_)
      refine RR.wid (k' := 0) (n' := 0) (by decide) (by decide) ?_
      refine r_icmp_ne (tgt := 24) hC dX6_firstLike_17 (by decide) (fun c9 => ?_) (fun c9 => ?_)
      · have h := h.1 c9
        refine r_iconst (v := 0) hC dX6_firstLike_24 (by decide) ?_
        refine r_istore (i := 4) (lv' := [(4, .int (0 : Int32)), (0, va_rf x0), (1, .int x1), (2, .int x2), (3, .int x3)]) hC dX6_firstLike_25 (by decide) (by first | rfl | simp [lvs1, lvs2, List.filter, cat_rf, cat_i, cat_j]) ?_
        refine r_iconst (v := 0) hC dX6_firstLike_27 (by decide) ?_
        refine r_istore (i := 5) (lv' := [(5, .int (0 : Int32)), (4, .int (0 : Int32)), (0, va_rf x0), (1, .int x1), (2, .int x2), (3, .int x3)]) hC dX6_firstLike_28 (by decide) (by first | rfl | simp [lvs1, lvs2, List.filter, cat_rf, cat_i, cat_j]) ?_
        have k30_2 : ∀ (x0 : Option Nat) (x1 : Int32) (x2 : Int32) (x3 : Int32) (ph : PH), w_X6_firstLike_2 Q X fu x0 x1 x2 x3 ph → RR C Z A G 6 2 [(0, va_rf x0), (1, .int x1), (2, .int x2), (3, .int x3)] [] ph 0 0 := by
          intro x0 x1 x2 x3 ph h
          exact RR.wid (by decide) (by decide) (RR.sub [0, 1, 2, 3] rfl (ih _ _ _ _ _ h))
        obtain ⟨fu30, h⟩ := h
        exact RR.wid (by decide) (by decide) (RR.sub [2, 3, 4, 5, 1, 0] rfl (b_X6_firstLike_30 hC hAo hr hx hn hnw hnx hi k30_2 fu30 _ _ _ _ _ _ _ h))
      · have h := h.2 c9
        refine r_iconst (v := 1) hC dX6_firstLike_20 (by decide) ?_
        refine r_goto (tgt := 25) hC dX6_firstLike_21 (by decide) ?_
        refine r_istore (i := 4) (lv' := [(4, .int (1 : Int32)), (0, va_rf x0), (1, .int x1), (2, .int x2), (3, .int x3)]) hC dX6_firstLike_25 (by decide) (by first | rfl | simp [lvs1, lvs2, List.filter, cat_rf, cat_i, cat_j]) ?_
        refine r_iconst (v := 0) hC dX6_firstLike_27 (by decide) ?_
        refine r_istore (i := 5) (lv' := [(5, .int (0 : Int32)), (4, .int (1 : Int32)), (0, va_rf x0), (1, .int x1), (2, .int x2), (3, .int x3)]) hC dX6_firstLike_28 (by decide) (by first | rfl | simp [lvs1, lvs2, List.filter, cat_rf, cat_i, cat_j]) ?_
        have k30_2 : ∀ (x0 : Option Nat) (x1 : Int32) (x2 : Int32) (x3 : Int32) (ph : PH), w_X6_firstLike_2 Q X fu x0 x1 x2 x3 ph → RR C Z A G 6 2 [(0, va_rf x0), (1, .int x1), (2, .int x2), (3, .int x3)] [] ph 0 0 := by
          intro x0 x1 x2 x3 ph h
          exact RR.wid (by decide) (by decide) (RR.sub [0, 1, 2, 3] rfl (ih _ _ _ _ _ h))
        obtain ⟨fu30, h⟩ := h
        exact RR.wid (by decide) (by decide) (RR.sub [2, 3, 4, 5, 1, 0] rfl (b_X6_firstLike_30 hC hAo hr hx hn hnw hnx hi k30_2 fu30 _ _ _ _ _ _ _ h))
set_option maxRecDepth 20000 in
theorem c_X6_firstLike (G : GG) (x0 : Nat) (x1 : Int32) (x2 : Int32) (ph : PH) (Q : Int32 → PH → Prop) (X : String → PH → Prop) (h : w_X6_firstLike x0 x1 x2 ph Q X) : Ct G yX6_firstLike (.code yX6_firstLike cX6_firstLike 6 (some (.int))) 2 44 0 0 [va_rf (some x0), .int x1, .int x2] ph (oI Q) X := by
  refine ct_of (lv0 := [(0, va_rf (some x0)), (1, .int x1), (2, .int x2)]) (by decide +kernel) (by simp [lg_sl, cat_rf, cat_i, cat_j]) (by simp [lv_args, cat_rf, cat_i, cat_j]) ?_
  intro C A hC hAo hex hrt hnm
  have hr : HI C (ZM C G A (oI Q) X 0 0) A G 6 cX6_firstLike 0 0 Q := fun pc lv v ph k n d hk hn hq => e_i hC hrt pc lv v ph k n d hk hn ⟨v, rfl, hq⟩
  have hx := e_x (Q := oI Q) (X := X) (mc := 0) (ms := 0) hC hex
  have hn := e_n (Q := oI Q) (X := X) (mc := 0) (ms := 0) hC hex
  have hnw := e_nw (Q := oI Q) (X := X) (mc := 0) (ms := 0) hC hex
  have hnx := e_nx (Q := oI Q) (X := X) (mc := 0) (ms := 0) hC hex
  have hi : True := trivial
  generalize ZM C G A (oI Q) X 0 0 = Z at *
  refine r_iconst (v := 0) hC dX6_firstLike_0 (by decide) ?_
  refine r_istore_n (i := 3) (lv' := [(3, .int (0 : Int32)), (0, va_rf (some x0)), (1, .int x1), (2, .int x2)]) hC dX6_firstLike_1 rfl (by decide) (by first | rfl | simp [lvs1, lvs2, List.filter, cat_rf, cat_i, cat_j]) ?_
  obtain ⟨fu2, h⟩ := h
  exact RR.wid (by decide) (by decide) (RR.sub [1, 2, 3, 0] rfl (b_X6_firstLike_2 hC hAo hr hx hn hnw hnx hi  fu2 _ _ _ _ _ h))
