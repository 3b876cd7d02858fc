set_option maxRecDepth 20000 in
theorem b_X0_countBetween_25 {C : Cx} {Z : State → Prop} {A : Nat → Prop} {G : GG} {Q : PH → Prop} {X : String → PH → Prop} (hC : CxOk RX0 cX0_countBetween 6 G A (rmk 4 93 0 0) C) (hAo : Ao (xs C)) (hr : HV C Z A G 6 cX0_countBetween 0 0 Q) (hx : HX C Z A G 6 0 0 X) (hn : HN C Z A G 6 RX0 cX0_countBetween 0 0 (rmk 4 93 0 0) X) (hnw : HNW C Z A G 6 RX0 cX0_countBetween 0 0 (rmk 4 93 0 0) X) (hnx : HNX C Z A G 6 RX0 cX0_countBetween 0 0 (rmk 4 93 0 0) X) (hi : True) : ∀ (fu : Nat) (x0 : Option Nat) (x1 : Option Nat) (x2 : Int32) (x4 : Int32) (x5 : Int32) (ph : PH), w_X0_countBetween_25 Q X fu x0 x1 x2 x4 x5 ph → RR C Z A G 6 25 [(0, va_rf x0), (1, va_rf x1), (2, .int x2), (4, .int x4), (5, .int x5)] [] ph 0 0 := by
  intro fu
  induction fu with
  | zero => intro x0 x1 x2 x4 x5 ph h; exact h.elim
  | succ fu ih =>
    intro x0 x1 x2 x4 x5 ph h
    refine r_iload hC dX0_countBetween_25 4 rfl ?_
    refine r_aload_n hC dX0_countBetween_27 rfl 1 rfl ?_
    obtain ⟨v28, g28, h⟩ := h
    refine r_get hC (ci := 6) (kf := 0) (N := 3) (Cn := RX3) (T := TX3) rfl (by decide) tin_X3 fl_X0_70 rfl dX0_countBetween_28 g28 ?_
    refine r_icmp_ge (tgt := 62) hC dX0_countBetween_31 (by decide) (fun c9 => ?_) (fun c9 => ?_)
    · have h := h.1 c9
      exact hr _ _ _ _ _ dX0_countBetween_62 (by decide) (by decide) h
    · have h := h.2 c9
      refine r_iload_n hC dX0_countBetween_34 rfl 2 rfl ?_
      refine r_iload hC dX0_countBetween_35 4 rfl ?_
      refine r_SI hC hAo [.int x2, .int x5] cal_X11_hasBit ml_X0_74 rfl (c_X11_hasBit G _ _ _ _ _ h) ⟨by decide, by decide⟩ ⟨by decide, by decide⟩ (by simp only [List.map_nil, List.map_cons, List.sum_nil, List.sum_cons, cat_rf, cat_i, cat_j]; decide) rfl dX0_countBetween_37 (fun E u hx9 => hx _ _ _ _ _ _ _ (by decide) (by decide) hx9) (fun v37 ph37 h => ?_)
      refine RR.wid (k' := 0) (n' := 0) (by decide) (by decide) ?_
      refine r_if_eq (tgt := 56) hC dX0_countBetween_40 (by decide) (fun c9 => ?_) (fun c9 => ?_)
      · have h := h.1 c9
        refine r_iinc (w := 4) (v := x5 + 1) (lv' := [(5, .int (x5 + 1)), (0, va_rf x0), (1, va_rf x1), (2, .int x2), (4, .int x4)]) hC dX0_countBetween_56 rfl rfl (by decide) (by first | rfl | simp [lvs1, List.filter, cat_rf, cat_i, cat_j]) ?_
        refine r_goto (tgt := 25) hC dX0_countBetween_59 (by decide) ?_
        exact RR.wid (by decide) (by decide) (RR.sub [1, 2, 3, 4, 0] rfl (ih _ _ _ _ _ _ h))
      · have h := h.2 c9
        refine r_aload_n hC dX0_countBetween_43 rfl 0 rfl ?_
        refine r_aload_n hC dX0_countBetween_44 rfl 1 rfl ?_
        refine r_iload_n hC dX0_countBetween_45 rfl 2 rfl ?_
        refine r_iload hC dX0_countBetween_46 4 rfl ?_
        refine r_iload hC dX0_countBetween_48 3 rfl ?_
        obtain ⟨a50, o50, h⟩ := h
        refine r_VV hC hAo [va_rf x1, .int x2, .int x5, .int x4] cal_X0_countRow ml_X0_78 (ci := 3) rfl rfl rfl (c_X0_countRow G _ _ _ _ _ _ _ _ h) o50 ⟨by decide, by decide⟩ ⟨by decide, by decide⟩ (by simp only [List.map_nil, List.map_cons, List.sum_nil, List.sum_cons, cat_rf, cat_i, cat_j]; decide) rfl dX0_countBetween_50 (fun E u hx9 => hx _ _ _ _ _ _ _ (by decide) (by decide) hx9) (fun ph50 h => ?_)
        refine RR.wid (k' := 0) (n' := 0) (by decide) (by decide) ?_
        refine r_iinc (w := 3) (v := x4 + 1) (lv' := [(4, .int (x4 + 1)), (0, va_rf x0), (1, va_rf x1), (2, .int x2), (5, .int x5)]) hC dX0_countBetween_53 rfl rfl (by decide) (by first | rfl | simp [lvs1, List.filter, cat_rf, cat_i, cat_j]) ?_
        refine r_iinc (w := 4) (v := x5 + 1) (lv' := [(5, .int (x5 + 1)), (4, .int (x4 + 1)), (0, va_rf x0), (1, va_rf x1), (2, .int x2)]) hC dX0_countBetween_56 rfl rfl (by decide) (by first | rfl | simp [lvs1, List.filter, cat_rf, cat_i, cat_j]) ?_
        refine r_goto (tgt := 25) hC dX0_countBetween_59 (by decide) ?_
        exact RR.wid (by decide) (by decide) (RR.sub [2, 3, 4, 1, 0] rfl (ih _ _ _ _ _ _ h))
set_option maxRecDepth 20000 in
theorem c_X0_countBetween (G : GG) (x0 : Nat) (x1 : Option Nat) (ph : PH) (Q : PH → Prop) (X : String → PH → Prop) (h : w_X0_countBetween x0 x1 ph Q X) : Ct G yX0_countBetween (.code yX0_countBetween cX0_countBetween 6 none) 4 93 0 0 [va_rf (some x0), va_rf x1] ph (oV Q) X := by
  refine ct_of (lv0 := [(0, va_rf (some x0)), (1, va_rf x1)]) (by decide +kernel) (by simp [lg_sl, cat_rf, cat_i, cat_j]) (by simp [lv_args, cat_rf, cat_i, cat_j]) ?_
  intro C A hC hAo hex hrt hnm
  have hr : HV C (ZM C G A (oV Q) X 0 0) A G 6 cX0_countBetween 0 0 Q := fun pc lv ph k n d hk hn hq => e_v hC hrt pc lv ph k n d hk hn ⟨rfl, hq⟩
  have hx := e_x (Q := oV Q) (X := X) (mc := 0) (ms := 0) hC hex
  have hn := e_n (Q := oV Q) (X := X) (mc := 0) (ms := 0) hC hex
  have hnw := e_nw (Q := oV Q) (X := X) (mc := 0) (ms := 0) hC hex
  have hnx := e_nx (Q := oV Q) (X := X) (mc := 0) (ms := 0) hC hex
  have hi : True := trivial
  generalize ZM C G A (oV Q) X 0 0 = Z at *
  refine r_aload_n hC dX0_countBetween_0 rfl 1 rfl ?_
  obtain ⟨a1, o1, h⟩ := h
  refine r_VI hC hAo [] cal_X3_liveSet ml_X0_54 (ci := 6) rfl rfl rfl (c_X3_liveSet G _ _ _ _ h) o1 ⟨by decide, by decide⟩ ⟨by decide, by decide⟩ (by simp only [List.map_nil, List.map_cons, List.sum_nil, List.sum_cons, cat_rf, cat_i, cat_j]; decide) rfl dX0_countBetween_1 (fun E u hx9 => hx _ _ _ _ _ _ _ (by decide) (by decide) hx9) (fun v1 ph1 h => ?_)
  refine RR.wid (k' := 0) (n' := 0) (by decide) (by decide) ?_
  refine r_istore_n (i := 2) (lv' := [(2, .int v1), (0, va_rf (some x0)), (1, va_rf x1)]) hC dX0_countBetween_4 rfl (by decide) (by first | rfl | simp [lvs1, lvs2, List.filter, cat_rf, cat_i, cat_j]) ?_
  refine r_iload_n hC dX0_countBetween_5 rfl 0 rfl ?_
  refine r_SI hC hAo [.int v1] cal_J6_bitCount_0f7a4 ml_X0_60 rfl (c_J6_bitCount_0f7a4 G _ _ _ _ h) ⟨by decide, by decide⟩ ⟨by decide, by decide⟩ (by simp only [List.map_nil, List.map_cons, List.sum_nil, List.sum_cons, cat_rf, cat_i, cat_j]; decide) rfl dX0_countBetween_6 (fun E u hx9 => hx _ _ _ _ _ _ _ (by decide) (by decide) hx9) (fun v6 ph6 h => ?_)
  refine RR.wid (k' := 0) (n' := 0) (by decide) (by decide) ?_
  refine r_istore_n (i := 3) (lv' := [(3, .int v6), (2, .int v1), (0, va_rf (some x0)), (1, va_rf x1)]) hC dX0_countBetween_9 rfl (by decide) (by first | rfl | simp [lvs1, lvs2, List.filter, cat_rf, cat_i, cat_j]) ?_
  refine r_aload_n hC dX0_countBetween_10 rfl 2 rfl ?_
  obtain ⟨v11, g11, h⟩ := h
  refine r_get hC (ci := 3) (kf := 2) (N := 8) (Cn := RX0) (T := TX0) rfl (by decide) tin_X0 fl_X0_21 rfl dX0_countBetween_11 g11 ?_
  refine r_iload_n hC dX0_countBetween_14 rfl 0 rfl ?_
  refine r_iload_n hC dX0_countBetween_15 rfl 0 rfl ?_
  obtain ⟨a16, o16, h⟩ := h
  refine r_VV hC hAo [.int v6, .int v6] cal_X8_reshape ml_X0_66 (ci := 9) rfl rfl rfl (c_X8_reshape G _ _ _ _ _ _ h) o16 ⟨by decide, by decide⟩ ⟨by decide, by decide⟩ (by simp only [List.map_nil, List.map_cons, List.sum_nil, List.sum_cons, cat_rf, cat_i, cat_j]; decide) rfl dX0_countBetween_16 (fun E u hx9 => hx _ _ _ _ _ _ _ (by decide) (by decide) hx9) (fun ph16 h => ?_)
  refine RR.wid (k' := 0) (n' := 0) (by decide) (by decide) ?_
  refine r_iconst (v := 0) hC dX0_countBetween_19 (by decide) ?_
  refine r_istore (i := 4) (lv' := [(4, .int (0 : Int32)), (3, .int v6), (2, .int v1), (0, va_rf (some x0)), (1, va_rf x1)]) hC dX0_countBetween_20 (by decide) (by first | rfl | simp [lvs1, lvs2, List.filter, cat_rf, cat_i, cat_j]) ?_
  refine r_iconst (v := 0) hC dX0_countBetween_22 (by decide) ?_
  refine r_istore (i := 5) (lv' := [(5, .int (0 : Int32)), (4, .int (0 : Int32)), (3, .int v6), (2, .int v1), (0, va_rf (some x0)), (1, va_rf x1)]) hC dX0_countBetween_23 (by decide) (by first | rfl | simp [lvs1, lvs2, List.filter, cat_rf, cat_i, cat_j]) ?_
  obtain ⟨fu25, h⟩ := h
  exact RR.wid (by decide) (by decide) (RR.sub [4, 5, 3, 1, 0] rfl (b_X0_countBetween_25 hC hAo hr hx hn hnw hnx hi  fu25 _ _ _ _ _ _ h))
set_option maxRecDepth 20000 in
theorem c_X0_keepCoefficient (G : GG) (x0 : Nat) (x1 : Int32) (x2 : Int64) (ph : PH) (Q : PH → Prop) (X : String → PH → Prop) (h : w_X0_keepCoefficient x0 x1 x2 ph Q X) : Ct G yX0_keepCoefficient (.code yX0_keepCoefficient cX0_keepCoefficient 4 none) 0 0 0 0 [va_rf (some x0), .int x1, .long x2] ph (oV Q) X := by
  refine ct_of (lv0 := [(0, va_rf (some x0)), (1, .int x1), (2, .long x2)]) (by decide +kernel) (by simp [lg_sl, cat_rf, cat_i, cat_j]) (by simp [lv_args, cat_rf, cat_i, cat_j]) ?_
  intro C A hC hAo hex hrt hnm
  have hr : HV C (ZM C G A (oV Q) X 0 0) A G 4 cX0_keepCoefficient 0 0 Q := fun pc lv ph k n d hk hn hq => e_v hC hrt pc lv ph k n d hk hn ⟨rfl, hq⟩
  have hx := e_x (Q := oV Q) (X := X) (mc := 0) (ms := 0) hC hex
  have hn := e_n (Q := oV Q) (X := X) (mc := 0) (ms := 0) hC hex
  have hnw := e_nw (Q := oV Q) (X := X) (mc := 0) (ms := 0) hC hex
  have hnx := e_nx (Q := oV Q) (X := X) (mc := 0) (ms := 0) hC hex
  have hi : True := trivial
  generalize ZM C G A (oV Q) X 0 0 = Z at *
  refine r_iload_n hC dX0_keepCoefficient_0 rfl 1 rfl ?_
  refine r_if_lt (tgt := 20) hC dX0_keepCoefficient_1 (by decide) (fun c9 => ?_) (fun c9 => ?_)
  · have h := h.1 c9
    exact hr _ _ _ _ _ dX0_keepCoefficient_20 (by decide) (by decide) h
  · have h := h.2 c9
    refine r_iload_n hC dX0_keepCoefficient_4 rfl 1 rfl ?_
    refine r_aload_n hC dX0_keepCoefficient_5 rfl 0 rfl ?_
    obtain ⟨v6, g6, h⟩ := h
    refine r_get hC (ci := 3) (kf := 3) (N := 8) (Cn := RX0) (T := TX0) rfl (by decide) tin_X0 fl_X0_24 rfl dX0_keepCoefficient_6 g6 ?_
    obtain ⟨v9, g9, h⟩ := h
    refine r_alen hC dX0_keepCoefficient_9 g9 ?_
    refine r_icmp_ge (tgt := 20) hC dX0_keepCoefficient_10 (by decide) (fun c9 => ?_) (fun c9 => ?_)
    · have h := h.1 c9
      exact hr _ _ _ _ _ dX0_keepCoefficient_20 (by decide) (by decide) h
    · have h := h.2 c9
      refine r_aload_n hC dX0_keepCoefficient_13 rfl 0 rfl ?_
      obtain ⟨v14, g14, h⟩ := h
      refine r_get hC (ci := 3) (kf := 3) (N := 8) (Cn := RX0) (T := TX0) rfl (by decide) tin_X0 fl_X0_24 rfl dX0_keepCoefficient_14 g14 ?_
      refine r_iload_n hC dX0_keepCoefficient_17 rfl 1 rfl ?_
      refine r_lload_n hC dX0_keepCoefficient_18 rfl 2 rfl ?_
      obtain ⟨ph19, g19, h⟩ := h
      refine r_last hC dX0_keepCoefficient_19 g19 ?_
      exact hr _ _ _ _ _ dX0_keepCoefficient_20 (by decide) (by decide) h
set_option maxRecDepth 20000 in
theorem c_X8_at (G : GG) (x0 : Nat) (x1 : Int32) (x2 : Int32) (ph : PH) (Q : Int64 → PH → Prop) (X : String → PH → Prop) (h : w_X8_at x0 x1 x2 ph Q X) : Ct G yX8_at (.code yX8_at cX8_at 4 (some (.long))) 1 23 0 0 [va_rf (some x0), .int x1, .int x2] ph (oJ Q) X := by
  refine ct_of (lv0 := [(0, va_rf (some x0)), (1, .int x1), (2, .int x2)]) (by decide +kernel) (by simp [lg_sl, cat_rf, cat_i, cat_j]) (by simp [lv_args, cat_rf, cat_i, cat_j]) ?_
  intro C A hC hAo hex hrt hnm
  have hr : HJ C (ZM C G A (oJ Q) X 0 0) A G 4 cX8_at 0 0 Q := fun pc lv v ph k n d hk hn hq => e_j hC hrt pc lv v ph k n d hk hn ⟨v, rfl, hq⟩
  have hx := e_x (Q := oJ Q) (X := X) (mc := 0) (ms := 0) hC hex
  have hn := e_n (Q := oJ Q) (X := X) (mc := 0) (ms := 0) hC hex
  have hnw := e_nw (Q := oJ Q) (X := X) (mc := 0) (ms := 0) hC hex
  have hnx := e_nx (Q := oJ Q) (X := X) (mc := 0) (ms := 0) hC hex
  have hi : True := trivial
  generalize ZM C G A (oJ Q) X 0 0 = Z at *
  refine r_aload_n hC dX8_at_0 rfl 0 rfl ?_
  refine r_iload_n hC dX8_at_1 rfl 1 rfl ?_
  refine r_iload_n hC dX8_at_2 rfl 2 rfl ?_
  obtain ⟨a3, o3, h⟩ := h
  refine r_VI hC hAo [.int x1, .int x2] cal_X8_placeOf ml_X8_28 (ci := 9) rfl rfl rfl (c_X8_placeOf G _ _ _ _ _ _ h) o3 ⟨by decide, by decide⟩ ⟨by decide, by decide⟩ (by simp only [List.map_nil, List.map_cons, List.sum_nil, List.sum_cons, cat_rf, cat_i, cat_j]; decide) rfl dX8_at_3 (fun E u hx9 => hx _ _ _ _ _ _ _ (by decide) (by decide) hx9) (fun v3 ph3 h => ?_)
  refine RR.wid (k' := 0) (n' := 0) (by decide) (by decide) ?_
  refine r_istore_n (i := 3) (lv' := [(3, .int v3), (0, va_rf (some x0)), (1, .int x1), (2, .int x2)]) hC dX8_at_6 rfl (by decide) (by first | rfl | simp [lvs1, lvs2, List.filter, cat_rf, cat_i, cat_j]) ?_
  refine r_iload_n hC dX8_at_7 rfl 0 rfl ?_
  refine r_if_lt (tgt := 29) hC dX8_at_8 (by decide) (fun c9 => ?_) (fun c9 => ?_)
  · have h := h.1 c9
    refine r_lconst (v := 0) hC dX8_at_29 (by decide) ?_
    exact hr _ _ _ _ _ _ dX8_at_30 (by decide) (by decide) h
  · have h := h.2 c9
    refine r_iload_n hC dX8_at_11 rfl 0 rfl ?_
    refine r_aload_n hC dX8_at_12 rfl 1 rfl ?_
    obtain ⟨v13, g13, h⟩ := h
    refine r_get hC (ci := 9) (kf := 2) (N := 3) (Cn := RX8) (T := TX8) rfl (by decide) tin_X8 fl_X8_11 rfl dX8_at_13 g13 ?_
    obtain ⟨v16, g16, h⟩ := h
    refine r_alen hC dX8_at_16 g16 ?_
    refine r_icmp_ge (tgt := 29) hC dX8_at_17 (by decide) (fun c9 => ?_) (fun c9 => ?_)
    · have h := h.1 c9
      refine r_lconst (v := 0) hC dX8_at_29 (by decide) ?_
      exact hr _ _ _ _ _ _ dX8_at_30 (by decide) (by decide) h
    · have h := h.2 c9
      refine r_aload_n hC dX8_at_20 rfl 1 rfl ?_
      obtain ⟨v21, g21, h⟩ := h
      refine r_get hC (ci := 9) (kf := 2) (N := 3) (Cn := RX8) (T := TX8) rfl (by decide) tin_X8 fl_X8_11 rfl dX8_at_21 g21 ?_
      refine r_iload_n hC dX8_at_24 rfl 0 rfl ?_
      obtain ⟨v25, g25, h⟩ := h
      refine r_lald hC dX8_at_25 g25 ?_
      refine r_goto (tgt := 30) hC dX8_at_26 (by decide) ?_
      exact hr _ _ _ _ _ _ dX8_at_30 (by decide) (by decide) h
set_option maxRecDepth 20000 in
theorem b_X8_multiply_40 {C : Cx} {Z : State → Prop} {A : Nat → Prop} {G : GG} {Q : PH → Prop} {X : String → PH → Prop} {K25 : Option Nat → Option Nat → Option Nat → Int32 → Int32 → PH → Prop} (hC : CxOk RX8 cX8_multiply 8 G A (rmk 2 48 0 0) C) (hAo : Ao (xs C)) (hr : HV C Z A G 8 cX8_multiply 0 0 Q) (hx : HX C Z A G 8 0 0 X) (hn : HN C Z A G 8 RX8 cX8_multiply 0 0 (rmk 2 48 0 0) X) (hnw : HNW C Z A G 8 RX8 cX8_multiply 0 0 (rmk 2 48 0 0) X) (hnx : HNX C Z A G 8 RX8 cX8_multiply 0 0 (rmk 2 48 0 0) X) (hi : True) (hK25 : ∀ (x0 : Option Nat) (x1 : Option Nat) (x2 : Option Nat) (x3 : Int32) (x4 : Int32) (ph : PH), K25 x0 x1 x2 x3 x4 ph → RR C Z A G 8 25 [(0, va_rf x0), (1, va_rf x1), (2, va_rf x2), (3, .int x3), (4, .int x4)] [] ph 0 0) : ∀ (fu : Nat) (x0 : Option Nat) (x1 : Option Nat) (x2 : Option Nat) (x3 : Int32) (x4 : Int32) (x5 : Int64) (x7 : Int32) (ph : PH), w_X8_multiply_40 Q X K25 fu x0 x1 x2 x3 x4 x5 x7 ph → RR C Z A G 8 40 [(0, va_rf x0), (1, va_rf x1), (2, va_rf x2), (3, .int x3), (4, .int x4), (5, .long x5), (7, .int x7)] [] ph 0 0 := by
  intro fu
  induction fu with
  | zero => intro x0 x1 x2 x3 x4 x5 x7 ph h; exact h.elim
  | succ fu ih =>
    intro x0 x1 x2 x3 x4 x5 x7 ph h
    refine r_iload hC dX8_multiply_40 6 rfl ?_
    refine r_aload_n hC dX8_multiply_42 rfl 1 rfl ?_
    obtain ⟨v43, g43, h⟩ := h
    refine r_get hC (ci := 9) (kf := 1) (N := 3) (Cn := RX8) (T := TX8) rfl (by decide) tin_X8 fl_X8_19 rfl dX8_multiply_43 g43 ?_
    refine r_icmp_ge (tgt := 76) hC dX8_multiply_46 (by decide) (fun c9 => ?_) (fun c9 => ?_)
    · have h := h.1 c9
      refine r_aload_n hC dX8_multiply_76 rfl 0 rfl ?_
      refine r_iload_n hC dX8_multiply_77 rfl 3 rfl ?_
      refine r_iload hC dX8_multiply_78 4 rfl ?_
      refine r_lload hC dX8_multiply_80 5 rfl ?_
      obtain ⟨a82, o82, h⟩ := h
      refine r_VV hC hAo [.int x3, .int x4, .long x5] cal_X8_write ml_X8_46 (ci := 9) rfl rfl rfl (c_X8_write G _ _ _ _ _ _ _ h) o82 ⟨by decide, by decide⟩ ⟨by decide, by decide⟩ (by simp only [List.map_nil, List.map_cons, List.sum_nil, List.sum_cons, cat_rf, cat_i, cat_j]; decide) rfl dX8_multiply_82 (fun E u hx9 => hx _ _ _ _ _ _ _ (by decide) (by decide) hx9) (fun ph82 h => ?_)
      refine RR.wid (k' := 0) (n' := 0) (by decide) (by decide) ?_
      refine r_iinc (w := 4) (v := x4 + 1) (lv' := [(4, .int (x4 + 1)), (0, va_rf x0), (1, va_rf x1), (2, va_rf x2), (3, .int x3), (5, .long x5), (7, .int x7)]) hC dX8_multiply_85 rfl rfl (by decide) (by first | rfl | simp [lvs1, List.filter, cat_rf, cat_i, cat_j]) ?_
      refine r_goto (tgt := 25) hC dX8_multiply_88 (by decide) ?_
      exact RR.wid (by decide) (by decide) (RR.sub [1, 2, 3, 4, 0] rfl (hK25 _ _ _ _ _ _ h))
    · have h := h.2 c9
      refine r_lload hC dX8_multiply_49 5 rfl ?_
      refine r_aload_n hC dX8_multiply_51 rfl 1 rfl ?_
      refine r_iload_n hC dX8_multiply_52 rfl 3 rfl ?_
      refine r_iload hC dX8_multiply_53 6 rfl ?_
      obtain ⟨a55, o55, h⟩ := h
      refine r_VJ hC hAo [.int x3, .int x7] cal_X8_at ml_X8_38 (ci := 9) rfl rfl rfl (c_X8_at G _ _ _ _ _ _ h) o55 ⟨by decide, by decide⟩ ⟨by decide, by decide⟩ (by simp only [List.map_nil, List.map_cons, List.sum_nil, List.sum_cons, cat_rf, cat_i, cat_j]; decide) rfl dX8_multiply_55 (fun E u hx9 => hx _ _ _ _ _ _ _ (by decide) (by decide) hx9) (fun v55 ph55 h => ?_)
      refine RR.wid (k' := 0) (n' := 0) (by decide) (by decide) ?_
      refine r_aload_n hC dX8_multiply_58 rfl 2 rfl ?_
      refine r_iload hC dX8_multiply_59 6 rfl ?_
      refine r_iload hC dX8_multiply_61 4 rfl ?_
      obtain ⟨a63, o63, h⟩ := h
      refine r_VJ hC hAo [.int x7, .int x4] cal_X8_at ml_X8_38 (ci := 9) rfl rfl rfl (c_X8_at G _ _ _ _ _ _ h) o63 ⟨by decide, by decide⟩ ⟨by decide, by decide⟩ (by simp only [List.map_nil, List.map_cons, List.sum_nil, List.sum_cons, cat_rf, cat_i, cat_j]; decide) rfl dX8_multiply_63 (fun E u hx9 => hx _ _ _ _ _ _ _ (by decide) (by decide) hx9) (fun v63 ph63 h => ?_)
      refine RR.wid (k' := 0) (n' := 0) (by decide) (by decide) ?_
      refine r_lmul hC dX8_multiply_66 ?_
      refine r_ladd hC dX8_multiply_67 ?_
      obtain ⟨v68, ev68⟩ : ∃ z : Int64, z = x5 + (v55 * v63) := ⟨_, rfl⟩
      have h := h v68 ev68
      refine RR.to (st' := [.long v68]) (by rw [ev68]) ?_
      refine r_lstore (i := 5) (lv' := [(5, .long v68), (0, va_rf x0), (1, va_rf x1), (2, va_rf x2), (3, .int x3), (4, .int x4), (7, .int x7)]) hC dX8_multiply_68 (by decide) (by first | rfl | simp [lvs1, lvs2, List.filter, cat_rf, cat_i, cat_j]) ?_
      refine r_iinc (w := 6) (v := x7 + 1) (lv' := [(7, .int (x7 + 1)), (5, .long v68), (0, va_rf x0), (1, va_rf x1), (2, va_rf x2), (3, .int x3), (4, .int x4)]) hC dX8_multiply_70 rfl rfl (by decide) (by first | rfl | simp [lvs1, List.filter, cat_rf, cat_i, cat_j]) ?_
      refine r_goto (tgt := 40) hC dX8_multiply_73 (by decide) ?_
      exact RR.wid (by decide) (by decide) (RR.sub [2, 3, 4, 5, 6, 1, 0] rfl (ih _ _ _ _ _ _ _ _ h))
set_option maxRecDepth 20000 in
theorem b_X8_multiply_25 {C : Cx} {Z : State → Prop} {A : Nat → Prop} {G : GG} {Q : PH → Prop} {X : String → PH → Prop} {K14 : Option Nat → Option Nat → Option Nat → Int32 → PH → Prop} (hC : CxOk RX8 cX8_multiply 8 G A (rmk 2 48 0 0) C) (hAo : Ao (xs C)) (hr : HV C Z A G 8 cX8_multiply 0 0 Q) (hx : HX C Z A G 8 0 0 X) (hn : HN C Z A G 8 RX8 cX8_multiply 0 0 (rmk 2 48 0 0) X) (hnw : HNW C Z A G 8 RX8 cX8_multiply 0 0 (rmk 2 48 0 0) X) (hnx : HNX C Z A G 8 RX8 cX8_multiply 0 0 (rmk 2 48 0 0) X) (hi : True) (hK14 : ∀ (x0 : Option Nat) (x1 : Option Nat) (x2 : Option Nat) (x3 : Int32) (ph : PH), K14 x0 x1 x2 x3 ph → RR C Z A G 8 14 [(0, va_rf x0), (1, va_rf x1), (2, va_rf x2), (3, .int x3)] [] ph 0 0) : ∀ (fu : Nat) (x0 : Option Nat) (x1 : Option Nat) (x2 : Option Nat) (x3 : Int32) (x4 : Int32) (ph : PH), w_X8_multiply_25 Q X K14 fu x0 x1 x2 x3 x4 ph → RR C Z A G 8 25 [(0, va_rf x0), (1, va_rf x1), (2, va_rf x2), (3, .int x3), (4, .int x4)] [] ph 0 0 := by
  intro fu
  induction fu with
  | zero => intro x0 x1 x2 x3 x4 ph h; exact h.elim
  | succ fu ih =>
    intro x0 x1 x2 x3 x4 ph h
    refine r_iload hC dX8_multiply_25 4 rfl ?_
    refine r_aload_n hC dX8_multiply_27 rfl 0 rfl ?_
    obtain ⟨v28, g28, h⟩ := h
    refine r_get hC (ci := 9) (kf := 1) (N := 3) (Cn := RX8) (T := TX8) rfl (by decide) tin_X8 fl_X8_19 rfl dX8_multiply_28 g28 ?_
    refine r_icmp_ge (tgt := 91) hC dX8_multiply_31 (by decide) (fun c9 => ?_) (fun c9 => ?_)
    · have h := h.1 c9
      refine r_iinc (w := 3) (v := x3 + 1) (lv' := [(3, .int (x3 + 1)), (0, va_rf x0), (1, va_rf x1), (2, va_rf x2), (4, .int x4)]) hC dX8_multiply_91 rfl rfl (by decide) (by first | rfl | simp [lvs1, List.filter, cat_rf, cat_i, cat_j]) ?_
      refine r_goto (tgt := 14) hC dX8_multiply_94 (by decide) ?_
      exact RR.wid (by decide) (by decide) (RR.sub [1, 2, 3, 0] rfl (hK14 _ _ _ _ _ h))
    · have h := h.2 c9
      refine r_lconst (v := 0) hC dX8_multiply_34 (by decide) ?_
      refine r_lstore (i := 5) (lv' := [(5, .long (0 : Int64)), (0, va_rf x0), (1, va_rf x1), (2, va_rf x2), (3, .int x3), (4, .int x4)]) hC dX8_multiply_35 (by decide) (by first | rfl | simp [lvs1, lvs2, List.filter, cat_rf, cat_i, cat_j]) ?_
      refine r_iconst (v := 0) hC dX8_multiply_37 (by decide) ?_
      refine r_istore (i := 7) (lv' := [(7, .int (0 : Int32)), (5, .long (0 : Int64)), (0, va_rf x0), (1, va_rf x1), (2, va_rf x2), (3, .int x3), (4, .int x4)]) hC dX8_multiply_38 (by decide) (by first | rfl | simp [lvs1, lvs2, List.filter, cat_rf, cat_i, cat_j]) ?_
      have k40_25 : ∀ (x0 : Option Nat) (x1 : Option Nat) (x2 : Option Nat) (x3 : Int32) (x4 : Int32) (ph : PH), w_X8_multiply_25 Q X K14 fu x0 x1 x2 x3 x4 ph → RR C Z A G 8 25 [(0, va_rf x0), (1, va_rf x1), (2, va_rf x2), (3, .int x3), (4, .int x4)] [] ph 0 0 := by
        intro x0 x1 x2 x3 x4 ph h
        exact RR.wid (by decide) (by decide) (RR.sub [0, 1, 2, 3, 4] rfl (ih _ _ _ _ _ _ h))
      obtain ⟨fu40, h⟩ := h
      exact RR.wid (by decide) (by decide) (RR.sub [2, 3, 4, 5, 6, 1, 0] rfl (b_X8_multiply_40 hC hAo hr hx hn hnw hnx hi k40_25 fu40 _ _ _ _ _ _ _ _ h))
set_option maxRecDepth 20000 in
theorem b_X8_multiply_14 {C : Cx} {Z : State → Prop} {A : Nat → Prop} {G : GG} {Q : PH → Prop} {X : String → PH → Prop} (hC : CxOk RX8 cX8_multiply 8 G A (rmk 2 48 0 0) C) (hAo : Ao (xs C)) (hr : HV C Z A G 8 cX8_multiply 0 0 Q) (hx : HX C Z A G 8 0 0 X) (hn : HN C Z A G 8 RX8 cX8_multiply 0 0 (rmk 2 48 0 0) X) (hnw : HNW C Z A G 8 RX8 cX8_multiply 0 0 (rmk 2 48 0 0) X) (hnx : HNX C Z A G 8 RX8 cX8_multiply 0 0 (rmk 2 48 0 0) X) (hi : True) : ∀ (fu : Nat) (x0 : Option Nat) (x1 : Option Nat) (x2 : Option Nat) (x3 : Int32) (ph : PH), w_X8_multiply_14 Q X fu x0 x1 x2 x3 ph → RR C Z A G 8 14 [(0, va_rf x0), (1, va_rf x1), (2, va_rf x2), (3, .int x3)] [] ph 0 0 := by
  intro fu
  induction fu with
  | zero => intro x0 x1 x2 x3 ph h; exact h.elim
  | succ fu ih =>
    intro x0 x1 x2 x3 ph h
    refine r_iload_n hC dX8_multiply_14 rfl 3 rfl ?_
    refine r_aload_n hC dX8_multiply_15 rfl 0 rfl ?_
    obtain ⟨v16, g16, h⟩ := h
    refine r_get hC (ci := 9) (kf := 0) (N := 3) (Cn := RX8) (T := TX8) rfl (by decide) tin_X8 fl_X8_15 rfl dX8_multiply_16 g16 ?_
    refine r_icmp_ge (tgt := 97) hC dX8_multiply_19 (by decide) (fun c9 => ?_) (fun c9 => ?_)
    · have h := h.1 c9
      exact hr _ _ _ _ _ dX8_multiply_97 (by decide) (by decide) h
    · have h := h.2 c9
      refine r_iconst (v := 0) hC dX8_multiply_22 (by decide) ?_
      refine r_istore (i := 4) (lv' := [(4, .int (0 : Int32)), (0, va_rf x0), (1, va_rf x1), (2, va_rf x2), (3, .int x3)]) hC dX8_multiply_23 (by decide) (by first | rfl | simp [lvs1, lvs2, List.filter, cat_rf, cat_i, cat_j]) ?_
      have k25_14 : ∀ (x0 : Option Nat) (x1 : Option Nat) (x2 : Option Nat) (x3 : Int32) (ph : PH), w_X8_multiply_14 Q X fu x0 x1 x2 x3 ph → RR C Z A G 8 14 [(0, va_rf x0), (1, va_rf x1), (2, va_rf x2), (3, .int x3)] [] ph 0 0 := by
        intro x0 x1 x2 x3 ph h
        exact RR.wid (by decide) (by decide) (RR.sub [0, 1, 2, 3] rfl (ih _ _ _ _ _ h))
      obtain ⟨fu25, h⟩ := h
      exact RR.wid (by decide) (by decide) (RR.sub [1, 2, 3, 4, 0] rfl (b_X8_multiply_25 hC hAo hr hx hn hnw hnx hi k25_14 fu25 _ _ _ _ _ _ h))
set_option maxRecDepth 20000 in
theorem c_X8_multiply (G : GG) (x0 : Nat) (x1 : Option Nat) (x2 : Option Nat) (ph : PH) (Q : PH → Prop) (X : String → PH → Prop) (h : w_X8_multiply x0 x1 x2 ph Q X) : Ct G yX8_multiply (.code yX8_multiply cX8_multiply 8 none) 2 48 0 0 [va_rf (some x0), va_rf x1, va_rf x2] ph (oV Q) X := by
  refine ct_of (lv0 := [(0, va_rf (some x0)), (1, va_rf x1), (2, va_rf x2)]) (by decide +kernel) (by simp [lg_sl, cat_rf, cat_i, cat_j]) (by simp [lv_args, cat_rf, cat_i, cat_j]) ?_
  intro C A hC hAo hex hrt hnm
  have hr : HV C (ZM C G A (oV Q) X 0 0) A G 8 cX8_multiply 0 0 Q := fun pc lv ph k n d hk hn hq => e_v hC hrt pc lv ph k n d hk hn ⟨rfl, hq⟩
  have hx := e_x (Q := oV Q) (X := X) (mc := 0) (ms := 0) hC hex
  have hn := e_n (Q := oV Q) (X := X) (mc := 0) (ms := 0) hC hex
  have hnw := e_nw (Q := oV Q) (X := X) (mc := 0) (ms := 0) hC hex
  have hnx := e_nx (Q := oV Q) (X := X) (mc := 0) (ms := 0) hC hex
  have hi : True := trivial
  generalize ZM C G A (oV Q) X 0 0 = Z at *
  refine r_aload_n hC dX8_multiply_0 rfl 0 rfl ?_
  refine r_aload_n hC dX8_multiply_1 rfl 1 rfl ?_
  obtain ⟨v2, g2, h⟩ := h
  refine r_get hC (ci := 9) (kf := 0) (N := 3) (Cn := RX8) (T := TX8) rfl (by decide) tin_X8 fl_X8_15 rfl dX8_multiply_2 g2 ?_
  refine r_aload_n hC dX8_multiply_5 rfl 2 rfl ?_
  obtain ⟨v6, g6, h⟩ := h
  refine r_get hC (ci := 9) (kf := 1) (N := 3) (Cn := RX8) (T := TX8) rfl (by decide) tin_X8 fl_X8_19 rfl dX8_multiply_6 g6 ?_
  obtain ⟨a9, o9, h⟩ := h
  refine r_VV hC hAo [.int v2, .int v6] cal_X8_reshape ml_X8_42 (ci := 9) rfl rfl rfl (c_X8_reshape G _ _ _ _ _ _ h) o9 ⟨by decide, by decide⟩ ⟨by decide, by decide⟩ (by simp only [List.map_nil, List.map_cons, List.sum_nil, List.sum_cons, cat_rf, cat_i, cat_j]; decide) rfl dX8_multiply_9 (fun E u hx9 => hx _ _ _ _ _ _ _ (by decide) (by decide) hx9) (fun ph9 h => ?_)
  refine RR.wid (k' := 0) (n' := 0) (by decide) (by decide) ?_
  refine r_iconst (v := 0) hC dX8_multiply_12 (by decide) ?_
  refine r_istore_n (i := 3) (lv' := [(3, .int (0 : Int32)), (0, va_rf (some x0)), (1, va_rf x1), (2, va_rf x2)]) hC dX8_multiply_13 rfl (by decide) (by first | rfl | simp [lvs1, lvs2, List.filter, cat_rf, cat_i, cat_j]) ?_
  obtain ⟨fu14, h⟩ := h
  exact RR.wid (by decide) (by decide) (RR.sub [1, 2, 3, 0] rfl (b_X8_multiply_14 hC hAo hr hx hn hnw hnx hi  fu14 _ _ _ _ _ h))
set_option maxRecDepth 20000 in
theorem b_X8_diagonalSum_4 {C : Cx} {Z : State → Prop} {A : Nat → Prop} {G : GG} {Q : Int64 → PH → Prop} {X : String → PH → Prop} (hC : CxOk RX8 cX8_diagonalSum 4 G A (rmk 2 46 0 0) C) (hAo : Ao (xs C)) (hr : HJ C Z A G 4 cX8_diagonalSum 0 0 Q) (hx : HX C Z A G 4 0 0 X) (hn : HN C Z A G 4 RX8 cX8_diagonalSum 0 0 (rmk 2 46 0 0) X) (hnw : HNW C Z A G 4 RX8 cX8_diagonalSum 0 0 (rmk 2 46 0 0) X) (hnx : HNX C Z A G 4 RX8 cX8_diagonalSum 0 0 (rmk 2 46 0 0) X) (hi : True) : ∀ (fu : Nat) (x0 : Option Nat) (x1 : Int64) (x3 : Int32) (ph : PH), w_X8_diagonalSum_4 Q X fu x0 x1 x3 ph → RR C Z A G 4 4 [(0, va_rf x0), (1, .long x1), (3, .int x3)] [] ph 0 0 := by
  intro fu
  induction fu with
  | zero => intro x0 x1 x3 ph h; exact h.elim
  | succ fu ih =>
    intro x0 x1 x3 ph h
    refine r_iload_n hC dX8_diagonalSum_4 rfl 2 rfl ?_
    refine r_aload_n hC dX8_diagonalSum_5 rfl 0 rfl ?_
    obtain ⟨v6, g6, h⟩ := h
    refine r_get hC (ci := 9) (kf := 0) (N := 3) (Cn := RX8) (T := TX8) rfl (by decide) tin_X8 fl_X8_15 rfl dX8_diagonalSum_6 g6 ?_
    refine r_icmp_ge (tgt := 27) hC dX8_diagonalSum_9 (by decide) (fun c9 => ?_) (fun c9 => ?_)
    · have h := h.1 c9
      refine r_lload_n hC dX8_diagonalSum_27 rfl 1 rfl ?_
      exact hr _ _ _ _ _ _ dX8_diagonalSum_28 (by decide) (by decide) h
    · have h := h.2 c9
      refine r_lload_n hC dX8_diagonalSum_12 rfl 1 rfl ?_
      refine r_aload_n hC dX8_diagonalSum_13 rfl 0 rfl ?_
      refine r_iload_n hC dX8_diagonalSum_14 rfl 2 rfl ?_
      refine r_iload_n hC dX8_diagonalSum_15 rfl 2 rfl ?_
      obtain ⟨a16, o16, h⟩ := h
      refine r_VJ hC hAo [.int x3, .int x3] cal_X8_at ml_X8_38 (ci := 9) rfl rfl rfl (c_X8_at G _ _ _ _ _ _ h) o16 ⟨by decide, by decide⟩ ⟨by decide, by decide⟩ (by simp only [List.map_nil, List.map_cons, List.sum_nil, List.sum_cons, cat_rf, cat_i, cat_j]; decide) rfl dX8_diagonalSum_16 (fun E u hx9 => hx _ _ _ _ _ _ _ (by decide) (by decide) hx9) (fun v16 ph16 h => ?_)
      refine RR.wid (k' := 0) (n' := 0) (by decide) (by decide) ?_
      refine r_ladd hC dX8_diagonalSum_19 ?_
      obtain ⟨v20, ev20⟩ : ∃ z : Int64, z = x1 + v16 := ⟨_, rfl⟩
      have h := h v20 ev20
      refine RR.to (st' := [.long v20]) (by rw [ev20]) ?_
      refine r_lstore_n (i := 1) (lv' := [(1, .long v20), (0, va_rf x0), (3, .int x3)]) hC dX8_diagonalSum_20 rfl (by decide) (by first | rfl | simp [lvs1, lvs2, List.filter, cat_rf, cat_i, cat_j]) ?_
      refine r_iinc (w := 2) (v := x3 + 1) (lv' := [(3, .int (x3 + 1)), (1, .long v20), (0, va_rf x0)]) hC dX8_diagonalSum_21 rfl rfl (by decide) (by first | rfl | simp [lvs1, List.filter, cat_rf, cat_i, cat_j]) ?_
      refine r_goto (tgt := 4) hC dX8_diagonalSum_24 (by decide) ?_
      exact RR.wid (by decide) (by decide) (RR.sub [2, 1, 0] rfl (ih _ _ _ _ h))
set_option maxRecDepth 20000 in
theorem c_X8_diagonalSum (G : GG) (x0 : Nat) (ph : PH) (Q : Int64 → PH → Prop) (X : String → PH → Prop) (h : w_X8_diagonalSum x0 ph Q X) : Ct G yX8_diagonalSum (.code yX8_diagonalSum cX8_diagonalSum 4 (some (.long))) 2 46 0 0 [va_rf (some x0)] ph (oJ Q) X := by
  refine ct_of (lv0 := [(0, va_rf (some x0))]) (by decide +kernel) (by simp [lg_sl, cat_rf, cat_i, cat_j]) (by simp [lv_args, cat_rf, cat_i, cat_j]) ?_
  intro C A hC hAo hex hrt hnm
  have hr : HJ C (ZM C G A (oJ Q) X 0 0) A G 4 cX8_diagonalSum 0 0 Q := fun pc lv v ph k n d hk hn hq => e_j hC hrt pc lv v ph k n d hk hn ⟨v, rfl, hq⟩
  have hx := e_x (Q := oJ Q) (X := X) (mc := 0) (ms := 0) hC hex
  have hn := e_n (Q := oJ Q) (X := X) (mc := 0) (ms := 0) hC hex
  have hnw := e_nw (Q := oJ Q) (X := X) (mc := 0) (ms := 0) hC hex
  have hnx := e_nx (Q := oJ Q) (X := X) (mc := 0) (ms := 0) hC hex
  have hi : True := trivial
  generalize ZM C G A (oJ Q) X 0 0 = Z at *
  refine r_lconst (v := 0) hC dX8_diagonalSum_0 (by decide) ?_
  refine r_lstore_n (i := 1) (lv' := [(1, .long (0 : Int64)), (0, va_rf (some x0))]) hC dX8_diagonalSum_1 rfl (by decide) (by first | rfl | simp [lvs1, lvs2, List.filter, cat_rf, cat_i, cat_j]) ?_
  refine r_iconst (v := 0) hC dX8_diagonalSum_2 (by decide) ?_
  refine r_istore_n (i := 3) (lv' := [(3, .int (0 : Int32)), (1, .long (0 : Int64)), (0, va_rf (some x0))]) hC dX8_diagonalSum_3 rfl (by decide) (by first | rfl | simp [lvs1, lvs2, List.filter, cat_rf, cat_i, cat_j]) ?_
  obtain ⟨fu4, h⟩ := h
  exact RR.wid (by decide) (by decide) (RR.sub [2, 1, 0] rfl (b_X8_diagonalSum_4 hC hAo hr hx hn hnw hnx hi  fu4 _ _ _ _ h))
set_option maxRecDepth 20000 in
theorem b_X0_coefficientOf_56 {C : Cx} {Z : State → Prop} {A : Nat → Prop} {G : GG} {Q : Int64 → PH → Prop} {X : String → PH → Prop} {K44 : Option Nat → Option Nat → Int32 → Option Nat → Option Nat → Int64 → Int32 → PH → Prop} (hC : CxOk RX0 cX0_coefficientOf 9 G A (rmk 3 75 0 0) C) (hAo : Ao (xs C)) (hr : HJ C Z A G 9 cX0_coefficientOf 0 0 Q) (hx : HX C Z A G 9 0 0 X) (hn : HN C Z A G 9 RX0 cX0_coefficientOf 0 0 (rmk 3 75 0 0) X) (hnw : HNW C Z A G 9 RX0 cX0_coefficientOf 0 0 (rmk 3 75 0 0) X) (hnx : HNX C Z A G 9 RX0 cX0_coefficientOf 0 0 (rmk 3 75 0 0) X) (hi : True) (hK44 : ∀ (x0 : Option Nat) (x1 : Option Nat) (x2 : Int32) (x3 : Option Nat) (x4 : Option Nat) (x5 : Int64) (x7 : Int32) (ph : PH), K44 x0 x1 x2 x3 x4 x5 x7 ph → RR C Z A G 9 44 [(0, va_rf x0), (1, va_rf x1), (2, .int x2), (3, va_rf x3), (4, va_rf x4), (5, .long x5), (7, .int x7)] [] ph 0 0) : ∀ (fu : Nat) (x0 : Option Nat) (x1 : Option Nat) (x2 : Int32) (x3 : Option Nat) (x4 : Option Nat) (x5 : Int64) (x7 : Int32) (x8 : Int32) (ph : PH), w_X0_coefficientOf_56 Q X K44 fu x0 x1 x2 x3 x4 x5 x7 x8 ph → RR C Z A G 9 56 [(0, va_rf x0), (1, va_rf x1), (2, .int x2), (3, va_rf x3), (4, va_rf x4), (5, .long x5), (7, .int x7), (8, .int x8)] [] ph 0 0 := by
  intro fu
  induction fu with
  | zero => intro x0 x1 x2 x3 x4 x5 x7 x8 ph h; exact h.elim
  | succ fu ih =>
    intro x0 x1 x2 x3 x4 x5 x7 x8 ph h
    refine r_iload hC dX0_coefficientOf_56 7 rfl ?_
    refine r_aload_n hC dX0_coefficientOf_58 rfl 1 rfl ?_
    obtain ⟨v59, g59, h⟩ := h
    refine r_get hC (ci := 9) (kf := 0) (N := 3) (Cn := RX8) (T := TX8) rfl (by decide) tin_X8 fl_X0_93 rfl dX0_coefficientOf_59 g59 ?_
    refine r_icmp_ge (tgt := 90) hC dX0_coefficientOf_62 (by decide) (fun c9 => ?_) (fun c9 => ?_)
    · have h := h.1 c9
      refine r_aload hC dX0_coefficientOf_90 4 rfl ?_
      refine r_aload_n hC dX0_coefficientOf_92 rfl 1 rfl ?_
      refine r_aload_n hC dX0_coefficientOf_93 rfl 3 rfl ?_
      obtain ⟨a94, o94, h⟩ := h
      refine r_VV hC hAo [va_rf x1, va_rf x3] cal_X8_multiply ml_X0_110 (ci := 9) rfl rfl rfl (c_X8_multiply G _ _ _ _ _ _ h) o94 ⟨by decide, by decide⟩ ⟨by decide, by decide⟩ (by simp only [List.map_nil, List.map_cons, List.sum_nil, List.sum_cons, cat_rf, cat_i, cat_j]; decide) rfl dX0_coefficientOf_94 (fun E u hx9 => hx _ _ _ _ _ _ _ (by decide) (by decide) hx9) (fun ph94 h => ?_)
      refine RR.wid (k' := 0) (n' := 0) (by decide) (by decide) ?_
      refine r_aload hC dX0_coefficientOf_97 4 rfl ?_
      obtain ⟨a99, o99, h⟩ := h
      refine r_VJ hC hAo [] cal_X8_diagonalSum ml_X0_114 (ci := 9) rfl rfl rfl (c_X8_diagonalSum G _ _ _ _ h) o99 ⟨by decide, by decide⟩ ⟨by decide, by decide⟩ (by simp only [List.map_nil, List.map_cons, List.sum_nil, List.sum_cons, cat_rf, cat_i, cat_j]; decide) rfl dX0_coefficientOf_99 (fun E u hx9 => hx _ _ _ _ _ _ _ (by decide) (by decide) hx9) (fun v99 ph99 h => ?_)
      refine RR.wid (k' := 0) (n' := 0) (by decide) (by decide) ?_
      refine r_lneg hC dX0_coefficientOf_102 ?_
      refine r_iload hC dX0_coefficientOf_103 6 rfl ?_
      refine r_i2l hC dX0_coefficientOf_105 ?_
      obtain ⟨z106, h⟩ := h
      refine r_ldiv hC dX0_coefficientOf_106 z106 ?_
      obtain ⟨v107, ev107⟩ : ∃ z : Int64, z = (-v99) / x7.toInt64 := ⟨_, rfl⟩
      have h := h v107 ev107
      refine RR.to (st' := [.long v107]) (by rw [ev107]) ?_
      refine r_lstore (i := 5) (lv' := [(5, .long v107), (0, va_rf x0), (1, va_rf x1), (2, .int x2), (3, va_rf x3), (4, va_rf x4), (7, .int x7), (8, .int x8)]) hC dX0_coefficientOf_107 (by decide) (by first | rfl | simp [lvs1, lvs2, List.filter, cat_rf, cat_i, cat_j]) ?_
      refine r_aload_n hC dX0_coefficientOf_109 rfl 1 rfl ?_
      refine r_iload hC dX0_coefficientOf_110 6 rfl ?_
      refine r_lload hC dX0_coefficientOf_112 0 rfl ?_
      obtain ⟨a114, o114, h⟩ := h
      refine r_VV hC hAo [.int x7, .long v107] cal_X0_keepCoefficient ml_X0_102 (ci := 3) rfl rfl rfl (c_X0_keepCoefficient G _ _ _ _ _ _ h) o114 ⟨by decide, by decide⟩ ⟨by decide, by decide⟩ (by simp only [List.map_nil, List.map_cons, List.sum_nil, List.sum_cons, cat_rf, cat_i, cat_j]; decide) rfl dX0_coefficientOf_114 (fun E u hx9 => hx _ _ _ _ _ _ _ (by decide) (by decide) hx9) (fun ph114 h => ?_)
      refine RR.wid (k' := 0) (n' := 0) (by decide) (by decide) ?_
      refine r_aload_n hC dX0_coefficientOf_117 rfl 4 rfl ?_
      refine r_astore (i := 8) (lv' := [(8, va_rf x3), (5, .long v107), (0, va_rf x0), (1, va_rf x1), (2, .int x2), (3, va_rf x3), (4, va_rf x4), (7, .int x7)]) hC dX0_coefficientOf_118 (by decide) (by first | rfl | simp [lvs1, lvs2, List.filter, cat_rf, cat_i, cat_j]) ?_
      refine r_aload hC dX0_coefficientOf_120 6 rfl ?_
      refine r_astore_n (i := 3) (lv' := [(3, va_rf x4), (8, va_rf x3), (5, .long v107), (0, va_rf x0), (1, va_rf x1), (2, .int x2), (4, va_rf x4), (7, .int x7)]) hC dX0_coefficientOf_122 rfl (by decide) (by first | rfl | simp [lvs1, lvs2, List.filter, cat_rf, cat_i, cat_j]) ?_
      refine r_aload hC dX0_coefficientOf_123 1 rfl ?_
      refine r_astore (i := 4) (lv' := [(4, va_rf x3), (3, va_rf x4), (8, va_rf x3), (5, .long v107), (0, va_rf x0), (1, va_rf x1), (2, .int x2), (7, .int x7)]) hC dX0_coefficientOf_125 (by decide) (by first | rfl | simp [lvs1, lvs2, List.filter, cat_rf, cat_i, cat_j]) ?_
      refine r_iinc (w := 7) (v := x7 + 1) (lv' := [(7, .int (x7 + 1)), (4, va_rf x3), (3, va_rf x4), (8, va_rf x3), (5, .long v107), (0, va_rf x0), (1, va_rf x1), (2, .int x2)]) hC dX0_coefficientOf_127 rfl rfl (by decide) (by first | rfl | simp [lvs1, List.filter, cat_rf, cat_i, cat_j]) ?_
      refine r_goto (tgt := 44) hC dX0_coefficientOf_130 (by decide) ?_
      exact RR.wid (by decide) (by decide) (RR.sub [5, 6, 7, 2, 1, 4, 0] rfl (hK44 _ _ _ _ _ _ _ _ h))
    · have h := h.2 c9
      refine r_aload_n hC dX0_coefficientOf_65 rfl 3 rfl ?_
      refine r_iload hC dX0_coefficientOf_66 7 rfl ?_
      refine r_iload hC dX0_coefficientOf_68 7 rfl ?_
      refine r_aload_n hC dX0_coefficientOf_70 rfl 3 rfl ?_
      refine r_iload hC dX0_coefficientOf_71 7 rfl ?_
      refine r_iload hC dX0_coefficientOf_73 7 rfl ?_
      obtain ⟨a75, o75, h⟩ := h
      refine r_VJ hC hAo [.int x8, .int x8] cal_X8_at ml_X0_106 (ci := 9) rfl rfl rfl (c_X8_at G _ _ _ _ _ _ h) o75 ⟨by decide, by decide⟩ ⟨by decide, by decide⟩ (by simp only [List.map_nil, List.map_cons, List.sum_nil, List.sum_cons, cat_rf, cat_i, cat_j]; decide) rfl dX0_coefficientOf_75 (fun E u hx9 => hx _ _ _ _ _ _ _ (by decide) (by decide) hx9) (fun v75 ph75 h => ?_)
      refine RR.wid (k' := 0) (n' := 0) (by decide) (by decide) ?_
      refine r_lload hC dX0_coefficientOf_78 5 rfl ?_
      refine r_ladd hC dX0_coefficientOf_80 ?_
      obtain ⟨a81, o81, h⟩ := h
      refine r_VV hC hAo [.int x8, .int x8, .long (v75 + x5)] cal_X8_write ml_X0_89 (ci := 9) rfl rfl rfl (c_X8_write G _ _ _ _ _ _ _ h) o81 ⟨by decide, by decide⟩ ⟨by decide, by decide⟩ (by simp only [List.map_nil, List.map_cons, List.sum_nil, List.sum_cons, cat_rf, cat_i, cat_j]; decide) rfl dX0_coefficientOf_81 (fun E u hx9 => hx _ _ _ _ _ _ _ (by decide) (by decide) hx9) (fun ph81 h => ?_)
      refine RR.wid (k' := 0) (n' := 0) (by decide) (by decide) ?_
      refine r_iinc (w := 7) (v := x8 + 1) (lv' := [(8, .int (x8 + 1)), (0, va_rf x0), (1, va_rf x1), (2, .int x2), (3, va_rf x3), (4, va_rf x4), (5, .long x5), (7, .int x7)]) hC dX0_coefficientOf_84 rfl rfl (by decide) (by first | rfl | simp [lvs1, List.filter, cat_rf, cat_i, cat_j]) ?_
      refine r_goto (tgt := 56) hC dX0_coefficientOf_87 (by decide) ?_
      exact RR.wid (by decide) (by decide) (RR.sub [1, 2, 3, 4, 5, 6, 7, 0] rfl (ih _ _ _ _ _ _ _ _ _ h))
set_option maxRecDepth 20000 in
theorem b_X0_coefficientOf_44 {C : Cx} {Z : State → Prop} {A : Nat → Prop} {G : GG} {Q : Int64 → PH → Prop} {X : String → PH → Prop} (hC : CxOk RX0 cX0_coefficientOf 9 G A (rmk 3 75 0 0) C) (hAo : Ao (xs C)) (hr : HJ C Z A G 9 cX0_coefficientOf 0 0 Q) (hx : HX C Z A G 9 0 0 X) (hn : HN C Z A G 9 RX0 cX0_coefficientOf 0 0 (rmk 3 75 0 0) X) (hnw : HNW C Z A G 9 RX0 cX0_coefficientOf 0 0 (rmk 3 75 0 0) X) (hnx : HNX C Z A G 9 RX0 cX0_coefficientOf 0 0 (rmk 3 75 0 0) X) (hi : True) : ∀ (fu : Nat) (x0 : Option Nat) (x1 : Option Nat) (x2 : Int32) (x3 : Option Nat) (x4 : Option Nat) (x5 : Int64) (x7 : Int32) (ph : PH), w_X0_coefficientOf_44 Q X fu x0 x1 x2 x3 x4 x5 x7 ph → RR C Z A G 9 44 [(0, va_rf x0), (1, va_rf x1), (2, .int x2), (3, va_rf x3), (4, va_rf x4), (5, .long x5), (7, .int x7)] [] ph 0 0 := by
  intro fu
  induction fu with
  | zero => intro x0 x1 x2 x3 x4 x5 x7 ph h; exact h.elim
  | succ fu ih =>
    intro x0 x1 x2 x3 x4 x5 x7 ph h
    refine r_iload hC dX0_coefficientOf_44 6 rfl ?_
    refine r_aload_n hC dX0_coefficientOf_46 rfl 1 rfl ?_
    obtain ⟨v47, g47, h⟩ := h
    refine r_get hC (ci := 9) (kf := 0) (N := 3) (Cn := RX8) (T := TX8) rfl (by decide) tin_X8 fl_X0_93 rfl dX0_coefficientOf_47 g47 ?_
    refine r_icmp_gt (tgt := 133) hC dX0_coefficientOf_50 (by decide) (fun c9 => ?_) (fun c9 => ?_)
    · have h := h.1 c9
      refine r_iload_n hC dX0_coefficientOf_133 rfl 2 rfl ?_
      refine r_if_lt (tgt := 155) hC dX0_coefficientOf_134 (by decide) (fun c9 => ?_) (fun c9 => ?_)
      · have h := h.1 c9
        refine r_lconst (v := 0) hC dX0_coefficientOf_155 (by decide) ?_
        exact hr _ _ _ _ _ _ dX0_coefficientOf_156 (by decide) (by decide) h
      · have h := h.2 c9
        refine r_iload_n hC dX0_coefficientOf_137 rfl 2 rfl ?_
        refine r_aload_n hC dX0_coefficientOf_138 rfl 0 rfl ?_
        obtain ⟨v139, g139, h⟩ := h
        refine r_get hC (ci := 3) (kf := 3) (N := 8) (Cn := RX0) (T := TX0) rfl (by decide) tin_X0 fl_X0_24 rfl dX0_coefficientOf_139 g139 ?_
        obtain ⟨v142, g142, h⟩ := h
        refine r_alen hC dX0_coefficientOf_142 g142 ?_
        refine r_icmp_ge (tgt := 155) hC dX0_coefficientOf_143 (by decide) (fun c9 => ?_) (fun c9 => ?_)
        · have h := h.1 c9
          refine r_lconst (v := 0) hC dX0_coefficientOf_155 (by decide) ?_
          exact hr _ _ _ _ _ _ dX0_coefficientOf_156 (by decide) (by decide) h
        · have h := h.2 c9
          refine r_aload_n hC dX0_coefficientOf_146 rfl 0 rfl ?_
          obtain ⟨v147, g147, h⟩ := h
          refine r_get hC (ci := 3) (kf := 3) (N := 8) (Cn := RX0) (T := TX0) rfl (by decide) tin_X0 fl_X0_24 rfl dX0_coefficientOf_147 g147 ?_
          refine r_iload_n hC dX0_coefficientOf_150 rfl 2 rfl ?_
          obtain ⟨v151, g151, h⟩ := h
          refine r_lald hC dX0_coefficientOf_151 g151 ?_
          refine r_goto (tgt := 156) hC dX0_coefficientOf_152 (by decide) ?_
          exact hr _ _ _ _ _ _ dX0_coefficientOf_156 (by decide) (by decide) h
    · have h := h.2 c9
      refine r_iconst (v := 0) hC dX0_coefficientOf_53 (by decide) ?_
      refine r_istore (i := 8) (lv' := [(8, .int (0 : Int32)), (0, va_rf x0), (1, va_rf x1), (2, .int x2), (3, va_rf x3), (4, va_rf x4), (5, .long x5), (7, .int x7)]) hC dX0_coefficientOf_54 (by decide) (by first | rfl | simp [lvs1, lvs2, List.filter, cat_rf, cat_i, cat_j]) ?_
      have k56_44 : ∀ (x0 : Option Nat) (x1 : Option Nat) (x2 : Int32) (x3 : Option Nat) (x4 : Option Nat) (x5 : Int64) (x7 : Int32) (ph : PH), w_X0_coefficientOf_44 Q X fu x0 x1 x2 x3 x4 x5 x7 ph → RR C Z A G 9 44 [(0, va_rf x0), (1, va_rf x1), (2, .int x2), (3, va_rf x3), (4, va_rf x4), (5, .long x5), (7, .int x7)] [] ph 0 0 := by
        intro x0 x1 x2 x3 x4 x5 x7 ph h
        exact RR.wid (by decide) (by decide) (RR.sub [0, 1, 2, 3, 4, 5, 6] rfl (ih _ _ _ _ _ _ _ _ h))
      obtain ⟨fu56, h⟩ := h
      exact RR.wid (by decide) (by decide) (RR.sub [1, 2, 3, 4, 5, 6, 7, 0] rfl (b_X0_coefficientOf_56 hC hAo hr hx hn hnw hnx hi k56_44 fu56 _ _ _ _ _ _ _ _ _ h))
set_option maxRecDepth 20000 in
theorem c_X0_coefficientOf (G : GG) (x0 : Nat) (x1 : Option Nat) (x2 : Int32) (ph : PH) (Q : Int64 → PH → Prop) (X : String → PH → Prop) (h : w_X0_coefficientOf x0 x1 x2 ph Q X) : Ct G yX0_coefficientOf (.code yX0_coefficientOf cX0_coefficientOf 9 (some (.long))) 3 75 0 0 [va_rf (some x0), va_rf x1, .int x2] ph (oJ Q) X := by
  refine ct_of (lv0 := [(0, va_rf (some x0)), (1, va_rf x1), (2, .int x2)]) (by decide +kernel) (by simp [lg_sl, cat_rf, cat_i, cat_j]) (by simp [lv_args, cat_rf, cat_i, cat_j]) ?_
  intro C A hC hAo hex hrt hnm
  have hr : HJ C (ZM C G A (oJ Q) X 0 0) A G 9 cX0_coefficientOf 0 0 Q := fun pc lv v ph k n d hk hn hq => e_j hC hrt pc lv v ph k n d hk hn ⟨v, rfl, hq⟩
  have hx := e_x (Q := oJ Q) (X := X) (mc := 0) (ms := 0) hC hex
  have hn := e_n (Q := oJ Q) (X := X) (mc := 0) (ms := 0) hC hex
  have hnw := e_nw (Q := oJ Q) (X := X) (mc := 0) (ms := 0) hC hex
  have hnx := e_nx (Q := oJ Q) (X := X) (mc := 0) (ms := 0) hC hex
  have hi : True := trivial
  generalize ZM C G A (oJ Q) X 0 0 = Z at *
  refine r_aload_n hC dX0_coefficientOf_0 rfl 0 rfl ?_
  obtain ⟨v1, g1, h⟩ := h
  refine r_get hC (ci := 3) (kf := 0) (N := 8) (Cn := RX0) (T := TX0) rfl (by decide) tin_X0 fl_X0_12 rfl dX0_coefficientOf_1 g1 ?_
  refine r_astore_n (i := 3) (lv' := [(3, va_rf v1), (0, va_rf (some x0)), (1, va_rf x1), (2, .int x2)]) hC dX0_coefficientOf_4 rfl (by decide) (by first | rfl | simp [lvs1, lvs2, List.filter, cat_rf, cat_i, cat_j]) ?_
  refine r_aload_n hC dX0_coefficientOf_5 rfl 1 rfl ?_
  obtain ⟨v6, g6, h⟩ := h
  refine r_get hC (ci := 3) (kf := 1) (N := 8) (Cn := RX0) (T := TX0) rfl (by decide) tin_X0 fl_X0_18 rfl dX0_coefficientOf_6 g6 ?_
  refine r_astore (i := 4) (lv' := [(4, va_rf v6), (3, va_rf v1), (0, va_rf (some x0)), (1, va_rf x1), (2, .int x2)]) hC dX0_coefficientOf_9 (by decide) (by first | rfl | simp [lvs1, lvs2, List.filter, cat_rf, cat_i, cat_j]) ?_
  refine r_aload_n hC dX0_coefficientOf_11 rfl 1 rfl ?_
  refine r_aload_n hC dX0_coefficientOf_12 rfl 3 rfl ?_
  obtain ⟨v13, g13, h⟩ := h
  refine r_get hC (ci := 9) (kf := 0) (N := 3) (Cn := RX8) (T := TX8) rfl (by decide) tin_X8 fl_X0_93 rfl dX0_coefficientOf_13 g13 ?_
  refine r_aload_n hC dX0_coefficientOf_16 rfl 3 rfl ?_
  obtain ⟨v17, g17, h⟩ := h
  refine r_get hC (ci := 9) (kf := 0) (N := 3) (Cn := RX8) (T := TX8) rfl (by decide) tin_X8 fl_X0_93 rfl dX0_coefficientOf_17 g17 ?_
  obtain ⟨a20, o20, h⟩ := h
  refine r_VV hC hAo [.int v13, .int v17] cal_X8_reshape ml_X0_66 (ci := 9) rfl rfl rfl (c_X8_reshape G _ _ _ _ _ _ h) o20 ⟨by decide, by decide⟩ ⟨by decide, by decide⟩ (by simp only [List.map_nil, List.map_cons, List.sum_nil, List.sum_cons, cat_rf, cat_i, cat_j]; decide) rfl dX0_coefficientOf_20 (fun E u hx9 => hx _ _ _ _ _ _ _ (by decide) (by decide) hx9) (fun ph20 h => ?_)
  refine RR.wid (k' := 0) (n' := 0) (by decide) (by decide) ?_
  refine r_aload_n hC dX0_coefficientOf_23 rfl 2 rfl ?_
  obtain ⟨v24, g24, h⟩ := h
  refine r_get hC (ci := 3) (kf := 3) (N := 8) (Cn := RX0) (T := TX0) rfl (by decide) tin_X0 fl_X0_24 rfl dX0_coefficientOf_24 g24 ?_
  refine r_lconst (v := 0) hC dX0_coefficientOf_27 (by decide) ?_
  refine r_SV hC hAo [va_rf v24, .long (0 : Int64)] cal_J7_fill_d0a16 ml_X0_96 rfl (c_J7_fill_d0a16 G _ _ _ _ _ h) ⟨by decide, by decide⟩ ⟨by decide, by decide⟩ (by simp only [List.map_nil, List.map_cons, List.sum_nil, List.sum_cons, cat_rf, cat_i, cat_j]; decide) rfl dX0_coefficientOf_28 (fun E u hx9 => hx _ _ _ _ _ _ _ (by decide) (by decide) hx9) (fun ph28 h => ?_)
  refine RR.wid (k' := 0) (n' := 0) (by decide) (by decide) ?_
  refine r_lconst (v := 1) hC dX0_coefficientOf_31 (by decide) ?_
  refine r_lstore (i := 5) (lv' := [(5, .long (1 : Int64)), (4, va_rf v6), (3, va_rf v1), (0, va_rf (some x0)), (1, va_rf x1), (2, .int x2)]) hC dX0_coefficientOf_32 (by decide) (by first | rfl | simp [lvs1, lvs2, List.filter, cat_rf, cat_i, cat_j]) ?_
  refine r_aload_n hC dX0_coefficientOf_34 rfl 3 rfl ?_
  refine r_iconst (v := 0) hC dX0_coefficientOf_35 (by decide) ?_
  refine r_lload hC dX0_coefficientOf_36 0 rfl ?_
  obtain ⟨a38, o38, h⟩ := h
  refine r_VV hC hAo [.int (0 : Int32), .long (1 : Int64)] cal_X0_keepCoefficient ml_X0_102 (ci := 3) rfl rfl rfl (c_X0_keepCoefficient G _ _ _ _ _ _ h) o38 ⟨by decide, by decide⟩ ⟨by decide, by decide⟩ (by simp only [List.map_nil, List.map_cons, List.sum_nil, List.sum_cons, cat_rf, cat_i, cat_j]; decide) rfl dX0_coefficientOf_38 (fun E u hx9 => hx _ _ _ _ _ _ _ (by decide) (by decide) hx9) (fun ph38 h => ?_)
  refine RR.wid (k' := 0) (n' := 0) (by decide) (by decide) ?_
  refine r_iconst (v := 1) hC dX0_coefficientOf_41 (by decide) ?_
  refine r_istore (i := 7) (lv' := [(7, .int (1 : Int32)), (5, .long (1 : Int64)), (4, va_rf v6), (3, va_rf v1), (0, va_rf (some x0)), (1, va_rf x1), (2, .int x2)]) hC dX0_coefficientOf_42 (by decide) (by first | rfl | simp [lvs1, lvs2, List.filter, cat_rf, cat_i, cat_j]) ?_
  obtain ⟨fu44, h⟩ := h
  exact RR.wid (by decide) (by decide) (RR.sub [4, 5, 6, 3, 2, 1, 0] rfl (b_X0_coefficientOf_44 hC hAo hr hx hn hnw hnx hi  fu44 _ _ _ _ _ _ _ _ h))
set_option maxRecDepth 20000 in
theorem c_X0_graphCoefficient (G : GG) (x0 : Nat) (x1 : Option Nat) (x2 : Int32) (ph : PH) (Q : Int64 → PH → Prop) (X : String → PH → Prop) (h : w_X0_graphCoefficient x0 x1 x2 ph Q X) : Ct G yX0_graphCoefficient (.code yX0_graphCoefficient cX0_graphCoefficient 3 (some (.long))) 5 118 0 0 [va_rf (some x0), va_rf x1, .int x2] ph (oJ Q) X := by
  refine ct_of (lv0 := [(0, va_rf (some x0)), (1, va_rf x1), (2, .int x2)]) (by decide +kernel) (by simp [lg_sl, cat_rf, cat_i, cat_j]) (by simp [lv_args, cat_rf, cat_i, cat_j]) ?_
  intro C A hC hAo hex hrt hnm
  have hr : HJ C (ZM C G A (oJ Q) X 0 0) A G 3 cX0_graphCoefficient 0 0 Q := fun pc lv v ph k n d hk hn hq => e_j hC hrt pc lv v ph k n d hk hn ⟨v, rfl, hq⟩
  have hx := e_x (Q := oJ Q) (X := X) (mc := 0) (ms := 0) hC hex
  have hn := e_n (Q := oJ Q) (X := X) (mc := 0) (ms := 0) hC hex
  have hnw := e_nw (Q := oJ Q) (X := X) (mc := 0) (ms := 0) hC hex
  have hnx := e_nx (Q := oJ Q) (X := X) (mc := 0) (ms := 0) hC hex
  have hi : True := trivial
  generalize ZM C G A (oJ Q) X 0 0 = Z at *
  refine r_aload_n hC dX0_graphCoefficient_0 rfl 0 rfl ?_
  refine r_aload_n hC dX0_graphCoefficient_1 rfl 1 rfl ?_
  obtain ⟨a2, o2, h⟩ := h
  refine r_VV hC hAo [va_rf x1] cal_X0_countBetween ml_X0_46 (ci := 3) rfl rfl rfl (c_X0_countBetween G _ _ _ _ _ h) o2 ⟨by decide, by decide⟩ ⟨by decide, by decide⟩ (by simp only [List.map_nil, List.map_cons, List.sum_nil, List.sum_cons, cat_rf, cat_i, cat_j]; decide) rfl dX0_graphCoefficient_2 (fun E u hx9 => hx _ _ _ _ _ _ _ (by decide) (by decide) hx9) (fun ph2 h => ?_)
  refine RR.wid (k' := 0) (n' := 0) (by decide) (by decide) ?_
  refine r_aload_n hC dX0_graphCoefficient_5 rfl 0 rfl ?_
  refine r_aload_n hC dX0_graphCoefficient_6 rfl 0 rfl ?_
  obtain ⟨v7, g7, h⟩ := h
  refine r_get hC (ci := 3) (kf := 2) (N := 8) (Cn := RX0) (T := TX0) rfl (by decide) tin_X0 fl_X0_21 rfl dX0_graphCoefficient_7 g7 ?_
  refine r_iload_n hC dX0_graphCoefficient_10 rfl 2 rfl ?_
  obtain ⟨a11, o11, h⟩ := h
  refine r_VJ hC hAo [va_rf v7, .int x2] cal_X0_coefficientOf ml_X0_50 (ci := 3) rfl rfl rfl (c_X0_coefficientOf G _ _ _ _ _ _ h) o11 ⟨by decide, by decide⟩ ⟨by decide, by decide⟩ (by simp only [List.map_nil, List.map_cons, List.sum_nil, List.sum_cons, cat_rf, cat_i, cat_j]; decide) rfl dX0_graphCoefficient_11 (fun E u hx9 => hx _ _ _ _ _ _ _ (by decide) (by decide) hx9) (fun v11 ph11 h => ?_)
  refine RR.wid (k' := 0) (n' := 0) (by decide) (by decide) ?_
  exact hr _ _ _ _ _ _ dX0_graphCoefficient_14 (by decide) (by decide) h
set_option maxRecDepth 20000 in
theorem c_X11_series (G : GG) (x0 : Nat) (x1 : Int32) (x2 : Int32) (ph : PH) (Q : Int64 → PH → Prop) (X : String → PH → Prop) (h : w_X11_series x0 x1 x2 ph Q X) : Ct G yX11_series (.code yX11_series cX11_series 4 (some (.long))) 7 140 3 18 [va_rf (some x0), .int x1, .int x2] ph (oJ Q) X := by
  refine ct_of (lv0 := [(0, va_rf (some x0)), (1, .int x1), (2, .int x2)]) (by decide +kernel) (by simp [lg_sl, cat_rf, cat_i, cat_j]) (by simp [lv_args, cat_rf, cat_i, cat_j]) ?_
  intro C A hC hAo hex hrt hnm
  have hr : HJ C (ZM C G A (oJ Q) X 3 18) A G 4 cX11_series 3 18 Q := fun pc lv v ph k n d hk hn hq => e_j hC hrt pc lv v ph k n d hk hn ⟨v, rfl, hq⟩
  have hx := e_x (Q := oJ Q) (X := X) (mc := 3) (ms := 18) hC hex
  have hn := e_n (Q := oJ Q) (X := X) (mc := 3) (ms := 18) hC hex
  have hnw := e_nw (Q := oJ Q) (X := X) (mc := 3) (ms := 18) hC hex
  have hnx := e_nx (Q := oJ Q) (X := X) (mc := 3) (ms := 18) hC hex
  have hi : True := trivial
  generalize ZM C G A (oJ Q) X 3 18 = Z at *
  refine r_aload_n hC dX11_series_0 rfl 0 rfl ?_
  refine r_iload_n hC dX11_series_1 rfl 1 rfl ?_
  obtain ⟨a2, o2, h⟩ := h
  refine r_VR hC hAo [.int x1] cal_X11_shiftAt ml_X11_110 (ci := 12) rfl rfl rfl (c_X11_shiftAt G _ _ _ _ _ h) o2 ⟨by decide, by decide⟩ ⟨by decide, by decide⟩ (by simp only [List.map_nil, List.map_cons, List.sum_nil, List.sum_cons, cat_rf, cat_i, cat_j]; decide) rfl dX11_series_2 (fun E u hx9 => hx _ _ _ _ _ _ _ (by decide) (by decide) hx9) (fun v2 ph2 h => ?_)
  refine RR.wid (k' := 1) (n' := 6) (by decide) (by decide) ?_
  refine r_astore_n (i := 3) (lv' := [(3, va_rf v2), (0, va_rf (some x0)), (1, .int x1), (2, .int x2)]) hC dX11_series_5 rfl (by decide) (by first | rfl | simp [lvs1, lvs2, List.filter, cat_rf, cat_i, cat_j]) ?_
  refine r_iload_n hC dX11_series_6 rfl 3 rfl ?_
  refine r_iconst (v := 0) hC dX11_series_7 (by decide) ?_
  refine r_bipush (v := 24) hC dX11_series_8 (by decide) ?_
  refine r_SV hC hAo [.int x2, .int (0 : Int32), .int (24 : Int32)] cal_X11_demandRange ml_X11_96 rfl (c_X11_demandRange G _ _ _ _ _ _ h) ⟨by decide, by decide⟩ ⟨by decide, by decide⟩ (by simp only [List.map_nil, List.map_cons, List.sum_nil, List.sum_cons, cat_rf, cat_i, cat_j]; decide) rfl dX11_series_10 (fun E u hx9 => hx _ _ _ _ _ _ _ (by decide) (by decide) hx9) (fun ph10 h => ?_)
  refine RR.wid (k' := 2) (n' := 12) (by decide) (by decide) ?_
  refine r_aload_n hC dX11_series_13 rfl 0 rfl ?_
  obtain ⟨a14, o14, h⟩ := h
  refine r_VI hC hAo [] cal_X3_liveSet ml_X11_156 (ci := 6) rfl rfl rfl (c_X3_liveSet G _ _ _ _ h) o14 ⟨by decide, by decide⟩ ⟨by decide, by decide⟩ (by simp only [List.map_nil, List.map_cons, List.sum_nil, List.sum_cons, cat_rf, cat_i, cat_j]; decide) rfl dX11_series_14 (fun E u hx9 => hx _ _ _ _ _ _ _ (by decide) (by decide) hx9) (fun v14 ph14 h => ?_)
  refine RR.wid (k' := 2) (n' := 12) (by decide) (by decide) ?_
  refine r_SI hC hAo [.int v14] cal_J6_bitCount_0f7a4 ml_X11_160 rfl (c_J6_bitCount_0f7a4 G _ _ _ _ h) ⟨by decide, by decide⟩ ⟨by decide, by decide⟩ (by simp only [List.map_nil, List.map_cons, List.sum_nil, List.sum_cons, cat_rf, cat_i, cat_j]; decide) rfl dX11_series_17 (fun E u hx9 => hx _ _ _ _ _ _ _ (by decide) (by decide) hx9) (fun v17 ph17 h => ?_)
  refine RR.wid (k' := 2) (n' := 12) (by decide) (by decide) ?_
  refine r_bipush (v := 12) hC dX11_series_20 (by decide) ?_
  refine r_icmp_le (tgt := 35) hC dX11_series_22 (by decide) (fun c9 => ?_) (fun c9 => ?_)
  · have h := h.1 c9
    refine r_aload_n hC dX11_series_35 rfl 1 rfl ?_
    obtain ⟨v36, g36, h⟩ := h
    refine r_get hC (ci := 12) (kf := 9) (N := 12) (Cn := RX11) (T := TX11) rfl (by decide) tin_X11 fl_X11_51 rfl dX11_series_36 g36 ?_
    refine r_aload_n hC dX11_series_39 rfl 0 rfl ?_
    refine r_iload_n hC dX11_series_40 rfl 3 rfl ?_
    obtain ⟨a41, o41, h⟩ := h
    refine r_VJ hC hAo [va_rf v2, .int x2] cal_X0_graphCoefficient ml_X11_221 (ci := 3) rfl rfl rfl (c_X0_graphCoefficient G _ _ _ _ _ _ h) o41 ⟨by decide, by decide⟩ ⟨by decide, by decide⟩ (by simp only [List.map_nil, List.map_cons, List.sum_nil, List.sum_cons, cat_rf, cat_i, cat_j]; decide) rfl dX11_series_41 (fun E u hx9 => hx _ _ _ _ _ _ _ (by decide) (by decide) hx9) (fun v41 ph41 h => ?_)
    refine RR.wid (k' := 2) (n' := 12) (by decide) (by decide) ?_
    exact hr _ _ _ _ _ _ dX11_series_44 (by decide) (by decide) h
  · have h := h.2 c9
    exact hn _ _ _ _ _ _ _ _ _ _ _ _ 13 th_X11_142_146 rfl dX11_series_25 dX11_series_28 dX11_series_29 dX11_series_31 dX11_series_34 (by decide) (by simp only [List.map_nil, List.map_cons, List.sum_nil, List.sum_cons, cat_rf, cat_i, cat_j]; decide) (by decide) (by decide) (by decide) (by decide) h
set_option maxRecDepth 20000 in
theorem b_X0_sumBehind_29 {C : Cx} {Z : State → Prop} {A : Nat → Prop} {G : GG} {Q : Int64 → PH → Prop} {X : String → PH → Prop} {K6 : Option Nat → Option Nat → Int32 → Int32 → Int64 → Int32 → PH → Prop} (hC : CxOk RX0 cX0_sumBehind 9 G A (rmk 1 24 0 0) C) (hAo : Ao (xs C)) (hr : HJ C Z A G 9 cX0_sumBehind 0 0 Q) (hx : HX C Z A G 9 0 0 X) (hn : HN C Z A G 9 RX0 cX0_sumBehind 0 0 (rmk 1 24 0 0) X) (hnw : HNW C Z A G 9 RX0 cX0_sumBehind 0 0 (rmk 1 24 0 0) X) (hnx : HNX C Z A G 9 RX0 cX0_sumBehind 0 0 (rmk 1 24 0 0) X) (hi : True) (hK6 : ∀ (x0 : Option Nat) (x1 : Option Nat) (x2 : Int32) (x3 : Int32) (x4 : Int64) (x6 : Int32) (ph : PH), K6 x0 x1 x2 x3 x4 x6 ph → RR C Z A G 9 6 [(0, va_rf x0), (1, va_rf x1), (2, .int x2), (3, .int x3), (4, .long x4), (6, .int x6)] [] ph 0 0) : ∀ (fu : Nat) (x0 : Option Nat) (x1 : Option Nat) (x2 : Int32) (x3 : Int32) (x4 : Int64) (x6 : Int32) (x7 : Int32) (x8 : Int32) (ph : PH), w_X0_sumBehind_29 Q X K6 fu x0 x1 x2 x3 x4 x6 x7 x8 ph → RR C Z A G 9 29 [(0, va_rf x0), (1, va_rf x1), (2, .int x2), (3, .int x3), (4, .long x4), (6, .int x6), (7, .int x7), (8, .int x8)] [] ph 0 0 := by
  intro fu
  induction fu with
  | zero => intro x0 x1 x2 x3 x4 x6 x7 x8 ph h; exact h.elim
  | succ fu ih =>
    intro x0 x1 x2 x3 x4 x6 x7 x8 ph h
    refine r_iload hC dX0_sumBehind_29 7 rfl ?_
    refine r_aload_n hC dX0_sumBehind_31 rfl 0 rfl ?_
    obtain ⟨v32, g32, h⟩ := h
    refine r_get hC (ci := 3) (kf := 6) (N := 8) (Cn := RX0) (T := TX0) rfl (by decide) tin_X0 fl_X0_34 rfl dX0_sumBehind_32 g32 ?_
    obtain ⟨v35, g35, h⟩ := h
    refine r_alen hC dX0_sumBehind_35 g35 ?_
    refine r_icmp_ge (tgt := 67) hC dX0_sumBehind_36 (by decide) (fun c9 => ?_) (fun c9 => ?_)
    · have h := h.1 c9
      refine r_iinc (w := 5) (v := x6 + 1) (lv' := [(6, .int (x6 + 1)), (0, va_rf x0), (1, va_rf x1), (2, .int x2), (3, .int x3), (4, .long x4), (7, .int x7), (8, .int x8)]) hC dX0_sumBehind_67 rfl rfl (by decide) (by first | rfl | simp [lvs1, List.filter, cat_rf, cat_i, cat_j]) ?_
      refine r_goto (tgt := 6) hC dX0_sumBehind_70 (by decide) ?_
      exact RR.wid (by decide) (by decide) (RR.sub [1, 2, 3, 4, 5, 0] rfl (hK6 _ _ _ _ _ _ _ h))
    · have h := h.2 c9
      refine r_iload hC dX0_sumBehind_39 6 rfl ?_
      refine r_iload hC dX0_sumBehind_41 7 rfl ?_
      refine r_SI hC hAo [.int x7, .int x8] cal_X11_hasBit ml_X0_74 rfl (c_X11_hasBit G _ _ _ _ _ h) ⟨by decide, by decide⟩ ⟨by decide, by decide⟩ (by simp only [List.map_nil, List.map_cons, List.sum_nil, List.sum_cons, cat_rf, cat_i, cat_j]; decide) rfl dX0_sumBehind_43 (fun E u hx9 => hx _ _ _ _ _ _ _ (by decide) (by decide) hx9) (fun v43 ph43 h => ?_)
      refine RR.wid (k' := 0) (n' := 0) (by decide) (by decide) ?_
      refine r_if_eq (tgt := 61) hC dX0_sumBehind_46 (by decide) (fun c9 => ?_) (fun c9 => ?_)
      · have h := h.1 c9
        refine r_iinc (w := 7) (v := x8 + 1) (lv' := [(8, .int (x8 + 1)), (0, va_rf x0), (1, va_rf x1), (2, .int x2), (3, .int x3), (4, .long x4), (6, .int x6), (7, .int x7)]) hC dX0_sumBehind_61 rfl rfl (by decide) (by first | rfl | simp [lvs1, List.filter, cat_rf, cat_i, cat_j]) ?_
        refine r_goto (tgt := 29) hC dX0_sumBehind_64 (by decide) ?_
        exact RR.wid (by decide) (by decide) (RR.sub [1, 2, 3, 4, 5, 6, 7, 0] rfl (ih _ _ _ _ _ _ _ _ _ h))
      · have h := h.2 c9
        refine r_lload hC dX0_sumBehind_49 4 rfl ?_
        refine r_aload_n hC dX0_sumBehind_51 rfl 0 rfl ?_
        obtain ⟨v52, g52, h⟩ := h
        refine r_get hC (ci := 3) (kf := 6) (N := 8) (Cn := RX0) (T := TX0) rfl (by decide) tin_X0 fl_X0_34 rfl dX0_sumBehind_52 g52 ?_
        refine r_iload hC dX0_sumBehind_55 7 rfl ?_
        obtain ⟨v57, g57, h⟩ := h
        refine r_lald hC dX0_sumBehind_57 g57 ?_
        refine r_ladd hC dX0_sumBehind_58 ?_
        obtain ⟨v59, ev59⟩ : ∃ z : Int64, z = x4 + v57 := ⟨_, rfl⟩
        have h := h v59 ev59
        refine RR.to (st' := [.long v59]) (by rw [ev59]) ?_
        refine r_lstore (i := 4) (lv' := [(4, .long v59), (0, va_rf x0), (1, va_rf x1), (2, .int x2), (3, .int x3), (6, .int x6), (7, .int x7), (8, .int x8)]) hC dX0_sumBehind_59 (by decide) (by first | rfl | simp [lvs1, lvs2, List.filter, cat_rf, cat_i, cat_j]) ?_
        refine r_iinc (w := 7) (v := x8 + 1) (lv' := [(8, .int (x8 + 1)), (4, .long v59), (0, va_rf x0), (1, va_rf x1), (2, .int x2), (3, .int x3), (6, .int x6), (7, .int x7)]) hC dX0_sumBehind_61 rfl rfl (by decide) (by first | rfl | simp [lvs1, List.filter, cat_rf, cat_i, cat_j]) ?_
        refine r_goto (tgt := 29) hC dX0_sumBehind_64 (by decide) ?_
        exact RR.wid (by decide) (by decide) (RR.sub [2, 3, 4, 5, 1, 6, 7, 0] rfl (ih _ _ _ _ _ _ _ _ _ h))
set_option maxRecDepth 20000 in
theorem b_X0_sumBehind_6 {C : Cx} {Z : State → Prop} {A : Nat → Prop} {G : GG} {Q : Int64 → PH → Prop} {X : String → PH → Prop} (hC : CxOk RX0 cX0_sumBehind 9 G A (rmk 1 24 0 0) C) (hAo : Ao (xs C)) (hr : HJ C Z A G 9 cX0_sumBehind 0 0 Q) (hx : HX C Z A G 9 0 0 X) (hn : HN C Z A G 9 RX0 cX0_sumBehind 0 0 (rmk 1 24 0 0) X) (hnw : HNW C Z A G 9 RX0 cX0_sumBehind 0 0 (rmk 1 24 0 0) X) (hnx : HNX C Z A G 9 RX0 cX0_sumBehind 0 0 (rmk 1 24 0 0) X) (hi : True) : ∀ (fu : Nat) (x0 : Option Nat) (x1 : Option Nat) (x2 : Int32) (x3 : Int32) (x4 : Int64) (x6 : Int32) (ph : PH), w_X0_sumBehind_6 Q X fu x0 x1 x2 x3 x4 x6 ph → RR C Z A G 9 6 [(0, va_rf x0), (1, va_rf x1), (2, .int x2), (3, .int x3), (4, .long x4), (6, .int x6)] [] ph 0 0 := by
  intro fu
  induction fu with
  | zero => intro x0 x1 x2 x3 x4 x6 ph h; exact h.elim
  | succ fu ih =>
    intro x0 x1 x2 x3 x4 x6 ph h
    refine r_iload hC dX0_sumBehind_6 5 rfl ?_
    refine r_aload_n hC dX0_sumBehind_8 rfl 1 rfl ?_
    obtain ⟨v9, g9, h⟩ := h
    refine r_get hC (ci := 6) (kf := 1) (N := 3) (Cn := RX3) (T := TX3) rfl (by decide) tin_X3 fl_X0_82 rfl dX0_sumBehind_9 g9 ?_
    refine r_icmp_ge (tgt := 73) hC dX0_sumBehind_12 (by decide) (fun c9 => ?_) (fun c9 => ?_)
    · have h := h.1 c9
      refine r_lload hC dX0_sumBehind_73 4 rfl ?_
      exact hr _ _ _ _ _ _ dX0_sumBehind_75 (by decide) (by decide) h
    · have h := h.2 c9
      refine r_aload_n hC dX0_sumBehind_15 rfl 1 rfl ?_
      refine r_iload_n hC dX0_sumBehind_16 rfl 3 rfl ?_
      refine r_iload hC dX0_sumBehind_17 5 rfl ?_
      obtain ⟨a19, o19, h⟩ := h
      refine r_VI hC hAo [.int x3, .int x6] cal_X3_targets ml_X0_85 (ci := 6) rfl rfl rfl (c_X3_targets G _ _ _ _ _ _ h) o19 ⟨by decide, by decide⟩ ⟨by decide, by decide⟩ (by simp only [List.map_nil, List.map_cons, List.sum_nil, List.sum_cons, cat_rf, cat_i, cat_j]; decide) rfl dX0_sumBehind_19 (fun E u hx9 => hx _ _ _ _ _ _ _ (by decide) (by decide) hx9) (fun v19 ph19 h => ?_)
      refine RR.wid (k' := 0) (n' := 0) (by decide) (by decide) ?_
      refine r_iload_n hC dX0_sumBehind_22 rfl 2 rfl ?_
      refine r_iand hC dX0_sumBehind_23 ?_
      obtain ⟨v24, ev24⟩ : ∃ z : Int32, z = v19 &&& x2 := ⟨_, rfl⟩
      have h := h v24 ev24
      refine RR.to (st' := [.int v24]) (by rw [ev24]) ?_
      refine r_istore (i := 7) (lv' := [(7, .int v24), (0, va_rf x0), (1, va_rf x1), (2, .int x2), (3, .int x3), (4, .long x4), (6, .int x6)]) hC dX0_sumBehind_24 (by decide) (by first | rfl | simp [lvs1, lvs2, List.filter, cat_rf, cat_i, cat_j]) ?_
      refine r_iconst (v := 0) hC dX0_sumBehind_26 (by decide) ?_
      refine r_istore (i := 8) (lv' := [(8, .int (0 : Int32)), (7, .int v24), (0, va_rf x0), (1, va_rf x1), (2, .int x2), (3, .int x3), (4, .long x4), (6, .int x6)]) hC dX0_sumBehind_27 (by decide) (by first | rfl | simp [lvs1, lvs2, List.filter, cat_rf, cat_i, cat_j]) ?_
      have k29_6 : ∀ (x0 : Option Nat) (x1 : Option Nat) (x2 : Int32) (x3 : Int32) (x4 : Int64) (x6 : Int32) (ph : PH), w_X0_sumBehind_6 Q X fu x0 x1 x2 x3 x4 x6 ph → RR C Z A G 9 6 [(0, va_rf x0), (1, va_rf x1), (2, .int x2), (3, .int x3), (4, .long x4), (6, .int x6)] [] ph 0 0 := by
        intro x0 x1 x2 x3 x4 x6 ph h
        exact RR.wid (by decide) (by decide) (RR.sub [0, 1, 2, 3, 4, 5] rfl (ih _ _ _ _ _ _ _ h))
      obtain ⟨fu29, h⟩ := h
      exact RR.wid (by decide) (by decide) (RR.sub [2, 3, 4, 5, 6, 7, 1, 0] rfl (b_X0_sumBehind_29 hC hAo hr hx hn hnw hnx hi k29_6 fu29 _ _ _ _ _ _ _ _ _ h))
set_option maxRecDepth 20000 in
theorem c_X0_sumBehind (G : GG) (x0 : Nat) (x1 : Option Nat) (x2 : Int32) (x3 : Int32) (ph : PH) (Q : Int64 → PH → Prop) (X : String → PH → Prop) (h : w_X0_sumBehind x0 x1 x2 x3 ph Q X) : Ct G yX0_sumBehind (.code yX0_sumBehind cX0_sumBehind 9 (some (.long))) 1 24 0 0 [va_rf (some x0), va_rf x1, .int x2, .int x3] ph (oJ Q) X := by
  refine ct_of (lv0 := [(0, va_rf (some x0)), (1, va_rf x1), (2, .int x2), (3, .int x3)]) (by decide +kernel) (by simp [lg_sl, cat_rf, cat_i, cat_j]) (by simp [lv_args, cat_rf, cat_i, cat_j]) ?_
  intro C A hC hAo hex hrt hnm
  have hr : HJ C (ZM C G A (oJ Q) X 0 0) A G 9 cX0_sumBehind 0 0 Q := fun pc lv v ph k n d hk hn hq => e_j hC hrt pc lv v ph k n d hk hn ⟨v, rfl, hq⟩
  have hx := e_x (Q := oJ Q) (X := X) (mc := 0) (ms := 0) hC hex
  have hn := e_n (Q := oJ Q) (X := X) (mc := 0) (ms := 0) hC hex
  have hnw := e_nw (Q := oJ Q) (X := X) (mc := 0) (ms := 0) hC hex
  have hnx := e_nx (Q := oJ Q) (X := X) (mc := 0) (ms := 0) hC hex
  have hi : True := trivial
  generalize ZM C G A (oJ Q) X 0 0 = Z at *
  refine r_lconst (v := 0) hC dX0_sumBehind_0 (by decide) ?_
  refine r_lstore (i := 4) (lv' := [(4, .long (0 : Int64)), (0, va_rf (some x0)), (1, va_rf x1), (2, .int x2), (3, .int x3)]) hC dX0_sumBehind_1 (by decide) (by first | rfl | simp [lvs1, lvs2, List.filter, cat_rf, cat_i, cat_j]) ?_
  refine r_iconst (v := 0) hC dX0_sumBehind_3 (by decide) ?_
  refine r_istore (i := 6) (lv' := [(6, .int (0 : Int32)), (4, .long (0 : Int64)), (0, va_rf (some x0)), (1, va_rf x1), (2, .int x2), (3, .int x3)]) hC dX0_sumBehind_4 (by decide) (by first | rfl | simp [lvs1, lvs2, List.filter, cat_rf, cat_i, cat_j]) ?_
  obtain ⟨fu6, h⟩ := h
  exact RR.wid (by decide) (by decide) (RR.sub [2, 3, 4, 5, 1, 0] rfl (b_X0_sumBehind_6 hC hAo hr hx hn hnw hnx hi  fu6 _ _ _ _ _ _ _ h))
set_option maxRecDepth 20000 in
theorem b_X0_findBound_79 {C : Cx} {Z : State → Prop} {A : Nat → Prop} {G : GG} {Q : Int64 → PH → Prop} {X : String → PH → Prop} {K17 : Option Nat → Option Nat → Int32 → Int32 → Int32 → Int32 → PH → Prop} (hC : CxOk RX0 cX0_findBound 15 G A (rmk 4 93 0 0) C) (hAo : Ao (xs C)) (hr : HJ C Z A G 15 cX0_findBound 0 0 Q) (hx : HX C Z A G 15 0 0 X) (hn : HN C Z A G 15 RX0 cX0_findBound 0 0 (rmk 4 93 0 0) X) (hnw : HNW C Z A G 15 RX0 cX0_findBound 0 0 (rmk 4 93 0 0) X) (hnx : HNX C Z A G 15 RX0 cX0_findBound 0 0 (rmk 4 93 0 0) X) (hi : True) (hK17 : ∀ (x0 : Option Nat) (x1 : Option Nat) (x2 : Int32) (x3 : Int32) (x4 : Int32) (x5 : Int32) (ph : PH), K17 x0 x1 x2 x3 x4 x5 ph → RR C Z A G 15 17 [(0, va_rf x0), (1, va_rf x1), (2, .int x2), (3, .int x3), (4, .int x4), (5, .int x5)] [] ph 0 0) : ∀ (fu : Nat) (x0 : Option Nat) (x1 : Option Nat) (x2 : Int32) (x3 : Int32) (x4 : Int32) (x5 : Int32) (x6 : Int32) (ph : PH), w_X0_findBound_79 Q X K17 fu x0 x1 x2 x3 x4 x5 x6 ph → RR C Z A G 15 79 [(0, va_rf x0), (1, va_rf x1), (2, .int x2), (3, .int x3), (4, .int x4), (5, .int x5), (6, .int x6)] [] ph 0 0 := by
  intro fu
  induction fu with
  | zero => intro x0 x1 x2 x3 x4 x5 x6 ph h; exact h.elim
  | succ fu ih =>
    intro x0 x1 x2 x3 x4 x5 x6 ph h
    refine r_iload hC dX0_findBound_79 6 rfl ?_
    refine r_aload_n hC dX0_findBound_81 rfl 0 rfl ?_
    obtain ⟨v82, g82, h⟩ := h
    refine r_get hC (ci := 3) (kf := 7) (N := 8) (Cn := RX0) (T := TX0) rfl (by decide) tin_X0 fl_X0_37 rfl dX0_findBound_82 g82 ?_
    obtain ⟨v85, g85, h⟩ := h
    refine r_alen hC dX0_findBound_85 g85 ?_
    refine r_icmp_ge (tgt := 119) hC dX0_findBound_86 (by decide) (fun c9 => ?_) (fun c9 => ?_)
    · have h := h.1 c9
      refine r_iinc (w := 5) (v := x5 + 1) (lv' := [(5, .int (x5 + 1)), (0, va_rf x0), (1, va_rf x1), (2, .int x2), (3, .int x3), (4, .int x4), (6, .int x6)]) hC dX0_findBound_119 rfl rfl (by decide) (by first | rfl | simp [lvs1, List.filter, cat_rf, cat_i, cat_j]) ?_
      refine r_goto (tgt := 17) hC dX0_findBound_122 (by decide) ?_
      exact RR.wid (by decide) (by decide) (RR.sub [1, 2, 3, 4, 5, 0] rfl (hK17 _ _ _ _ _ _ _ h))
    · have h := h.2 c9
      refine r_iload hC dX0_findBound_89 6 rfl ?_
      refine r_aload_n hC dX0_findBound_91 rfl 0 rfl ?_
      obtain ⟨v92, g92, h⟩ := h
      refine r_get hC (ci := 3) (kf := 6) (N := 8) (Cn := RX0) (T := TX0) rfl (by decide) tin_X0 fl_X0_34 rfl dX0_findBound_92 g92 ?_
      obtain ⟨v95, g95, h⟩ := h
      refine r_alen hC dX0_findBound_95 g95 ?_
      refine r_icmp_ge (tgt := 119) hC dX0_findBound_96 (by decide) (fun c9 => ?_) (fun c9 => ?_)
      · have h := h.1 c9
        refine r_iinc (w := 5) (v := x5 + 1) (lv' := [(5, .int (x5 + 1)), (0, va_rf x0), (1, va_rf x1), (2, .int x2), (3, .int x3), (4, .int x4), (6, .int x6)]) hC dX0_findBound_119 rfl rfl (by decide) (by first | rfl | simp [lvs1, List.filter, cat_rf, cat_i, cat_j]) ?_
        refine r_goto (tgt := 17) hC dX0_findBound_122 (by decide) ?_
        exact RR.wid (by decide) (by decide) (RR.sub [1, 2, 3, 4, 5, 0] rfl (hK17 _ _ _ _ _ _ _ h))
      · have h := h.2 c9
        refine r_aload_n hC dX0_findBound_99 rfl 0 rfl ?_
        obtain ⟨v100, g100, h⟩ := h
        refine r_get hC (ci := 3) (kf := 6) (N := 8) (Cn := RX0) (T := TX0) rfl (by decide) tin_X0 fl_X0_34 rfl dX0_findBound_100 g100 ?_
        refine r_iload hC dX0_findBound_103 6 rfl ?_
        refine r_aload_n hC dX0_findBound_105 rfl 0 rfl ?_
        obtain ⟨v106, g106, h⟩ := h
        refine r_get hC (ci := 3) (kf := 7) (N := 8) (Cn := RX0) (T := TX0) rfl (by decide) tin_X0 fl_X0_37 rfl dX0_findBound_106 g106 ?_
        refine r_iload hC dX0_findBound_109 6 rfl ?_
        obtain ⟨v111, g111, h⟩ := h
        refine r_lald hC dX0_findBound_111 g111 ?_
        obtain ⟨ph112, g112, h⟩ := h
        refine r_last hC dX0_findBound_112 g112 ?_
        refine r_iinc (w := 6) (v := x6 + 1) (lv' := [(6, .int (x6 + 1)), (0, va_rf x0), (1, va_rf x1), (2, .int x2), (3, .int x3), (4, .int x4), (5, .int x5)]) hC dX0_findBound_113 rfl rfl (by decide) (by first | rfl | simp [lvs1, List.filter, cat_rf, cat_i, cat_j]) ?_
        refine r_goto (tgt := 79) hC dX0_findBound_116 (by decide) ?_
        exact RR.wid (by decide) (by decide) (RR.sub [1, 2, 3, 4, 5, 6, 0] rfl (ih _ _ _ _ _ _ _ _ h))
set_option maxRecDepth 20000 in
theorem b_X0_findBound_26 {C : Cx} {Z : State → Prop} {A : Nat → Prop} {G : GG} {Q : Int64 → PH → Prop} {X : String → PH → Prop} {K17 : Option Nat → Option Nat → Int32 → Int32 → Int32 → Int32 → PH → Prop} (hC : CxOk RX0 cX0_findBound 15 G A (rmk 4 93 0 0) C) (hAo : Ao (xs C)) (hr : HJ C Z A G 15 cX0_findBound 0 0 Q) (hx : HX C Z A G 15 0 0 X) (hn : HN C Z A G 15 RX0 cX0_findBound 0 0 (rmk 4 93 0 0) X) (hnw : HNW C Z A G 15 RX0 cX0_findBound 0 0 (rmk 4 93 0 0) X) (hnx : HNX C Z A G 15 RX0 cX0_findBound 0 0 (rmk 4 93 0 0) X) (hi : True) (hK17 : ∀ (x0 : Option Nat) (x1 : Option Nat) (x2 : Int32) (x3 : Int32) (x4 : Int32) (x5 : Int32) (ph : PH), K17 x0 x1 x2 x3 x4 x5 ph → RR C Z A G 15 17 [(0, va_rf x0), (1, va_rf x1), (2, .int x2), (3, .int x3), (4, .int x4), (5, .int x5)] [] ph 0 0) : ∀ (fu : Nat) (x0 : Option Nat) (x1 : Option Nat) (x2 : Int32) (x3 : Int32) (x4 : Int32) (x5 : Int32) (x6 : Int32) (ph : PH), w_X0_findBound_26 Q X K17 fu x0 x1 x2 x3 x4 x5 x6 ph → RR C Z A G 15 26 [(0, va_rf x0), (1, va_rf x1), (2, .int x2), (3, .int x3), (4, .int x4), (5, .int x5), (6, .int x6)] [] ph 0 0 := by
  intro fu
  induction fu with
  | zero => intro x0 x1 x2 x3 x4 x5 x6 ph h; exact h.elim
  | succ fu ih =>
    intro x0 x1 x2 x3 x4 x5 x6 ph h
    refine r_iload hC dX0_findBound_26 6 rfl ?_
    refine r_aload_n hC dX0_findBound_28 rfl 0 rfl ?_
    obtain ⟨v29, g29, h⟩ := h
    refine r_get hC (ci := 3) (kf := 7) (N := 8) (Cn := RX0) (T := TX0) rfl (by decide) tin_X0 fl_X0_37 rfl dX0_findBound_29 g29 ?_
    obtain ⟨v32, g32, h⟩ := h
    refine r_alen hC dX0_findBound_32 g32 ?_
    refine r_icmp_ge (tgt := 76) hC dX0_findBound_33 (by decide) (fun c9 => ?_) (fun c9 => ?_)
    · have h := h.1 c9
      refine r_iconst (v := 0) hC dX0_findBound_76 (by decide) ?_
      refine r_istore (i := 6) (lv' := [(6, .int (0 : Int32)), (0, va_rf x0), (1, va_rf x1), (2, .int x2), (3, .int x3), (4, .int x4), (5, .int x5)]) hC dX0_findBound_77 (by decide) (by first | rfl | simp [lvs1, lvs2, List.filter, cat_rf, cat_i, cat_j]) ?_
      have k79_17 : ∀ (x0 : Option Nat) (x1 : Option Nat) (x2 : Int32) (x3 : Int32) (x4 : Int32) (x5 : Int32) (ph : PH), K17 x0 x1 x2 x3 x4 x5 ph → RR C Z A G 15 17 [(0, va_rf x0), (1, va_rf x1), (2, .int x2), (3, .int x3), (4, .int x4), (5, .int x5)] [] ph 0 0 := by
        intro x0 x1 x2 x3 x4 x5 ph h
        exact RR.wid (by decide) (by decide) (RR.sub [0, 1, 2, 3, 4, 5] rfl (hK17 _ _ _ _ _ _ _ h))
      obtain ⟨fu79, h⟩ := h
      exact RR.wid (by decide) (by decide) (RR.sub [1, 2, 3, 4, 5, 6, 0] rfl (b_X0_findBound_79 hC hAo hr hx hn hnw hnx hi k79_17 fu79 _ _ _ _ _ _ _ _ h))
    · have h := h.2 c9
      refine r_iload hC dX0_findBound_36 6 rfl ?_
      refine r_aload_n hC dX0_findBound_38 rfl 0 rfl ?_
      obtain ⟨v39, g39, h⟩ := h
      refine r_get hC (ci := 3) (kf := 6) (N := 8) (Cn := RX0) (T := TX0) rfl (by decide) tin_X0 fl_X0_34 rfl dX0_findBound_39 g39 ?_
      obtain ⟨v42, g42, h⟩ := h
      refine r_alen hC dX0_findBound_42 g42 ?_
      refine r_icmp_ge (tgt := 76) hC dX0_findBound_43 (by decide) (fun c9 => ?_) (fun c9 => ?_)
      · have h := h.1 c9
        refine r_iconst (v := 0) hC dX0_findBound_76 (by decide) ?_
        refine r_istore (i := 6) (lv' := [(6, .int (0 : Int32)), (0, va_rf x0), (1, va_rf x1), (2, .int x2), (3, .int x3), (4, .int x4), (5, .int x5)]) hC dX0_findBound_77 (by decide) (by first | rfl | simp [lvs1, lvs2, List.filter, cat_rf, cat_i, cat_j]) ?_
        have k79_17 : ∀ (x0 : Option Nat) (x1 : Option Nat) (x2 : Int32) (x3 : Int32) (x4 : Int32) (x5 : Int32) (ph : PH), K17 x0 x1 x2 x3 x4 x5 ph → RR C Z A G 15 17 [(0, va_rf x0), (1, va_rf x1), (2, .int x2), (3, .int x3), (4, .int x4), (5, .int x5)] [] ph 0 0 := by
          intro x0 x1 x2 x3 x4 x5 ph h
          exact RR.wid (by decide) (by decide) (RR.sub [0, 1, 2, 3, 4, 5] rfl (hK17 _ _ _ _ _ _ _ h))
        obtain ⟨fu79, h⟩ := h
        exact RR.wid (by decide) (by decide) (RR.sub [1, 2, 3, 4, 5, 6, 0] rfl (b_X0_findBound_79 hC hAo hr hx hn hnw hnx hi k79_17 fu79 _ _ _ _ _ _ _ _ h))
      · have h := h.2 c9
        refine r_aload_n hC dX0_findBound_46 rfl 0 rfl ?_
        obtain ⟨v47, g47, h⟩ := h
        refine r_get hC (ci := 3) (kf := 7) (N := 8) (Cn := RX0) (T := TX0) rfl (by decide) tin_X0 fl_X0_37 rfl dX0_findBound_47 g47 ?_
        refine r_iload hC dX0_findBound_50 6 rfl ?_
        refine r_aload_n hC dX0_findBound_52 rfl 0 rfl ?_
        obtain ⟨v53, g53, h⟩ := h
        refine r_get hC (ci := 3) (kf := 6) (N := 8) (Cn := RX0) (T := TX0) rfl (by decide) tin_X0 fl_X0_34 rfl dX0_findBound_53 g53 ?_
        refine r_iload hC dX0_findBound_56 6 rfl ?_
        obtain ⟨v58, g58, h⟩ := h
        refine r_lald hC dX0_findBound_58 g58 ?_
        refine r_aload_n hC dX0_findBound_59 rfl 0 rfl ?_
        refine r_aload_n hC dX0_findBound_60 rfl 1 rfl ?_
        refine r_iload hC dX0_findBound_61 4 rfl ?_
        refine r_iload hC dX0_findBound_63 6 rfl ?_
        obtain ⟨a65, o65, h⟩ := h
        refine r_VJ hC hAo [va_rf x1, .int x4, .int x6] cal_X0_sumBehind ml_X0_151 (ci := 3) rfl rfl rfl (c_X0_sumBehind G _ _ _ _ _ _ _ h) o65 ⟨by decide, by decide⟩ ⟨by decide, by decide⟩ (by simp only [List.map_nil, List.map_cons, List.sum_nil, List.sum_cons, cat_rf, cat_i, cat_j]; decide) rfl dX0_findBound_65 (fun E u hx9 => hx _ _ _ _ _ _ _ (by decide) (by decide) hx9) (fun v65 ph65 h => ?_)
        refine RR.wid (k' := 0) (n' := 0) (by decide) (by decide) ?_
        refine r_ladd hC dX0_findBound_68 ?_
        obtain ⟨ph69, g69, h⟩ := h
        refine r_last hC dX0_findBound_69 g69 ?_
        refine r_iinc (w := 6) (v := x6 + 1) (lv' := [(6, .int (x6 + 1)), (0, va_rf x0), (1, va_rf x1), (2, .int x2), (3, .int x3), (4, .int x4), (5, .int x5)]) hC dX0_findBound_70 rfl rfl (by decide) (by first | rfl | simp [lvs1, List.filter, cat_rf, cat_i, cat_j]) ?_
        refine r_goto (tgt := 26) hC dX0_findBound_73 (by decide) ?_
        exact RR.wid (by decide) (by decide) (RR.sub [1, 2, 3, 4, 5, 6, 0] rfl (ih _ _ _ _ _ _ _ _ h))
set_option maxRecDepth 20000 in
theorem b_X0_findBound_238 {C : Cx} {Z : State → Prop} {A : Nat → Prop} {G : GG} {Q : Int64 → PH → Prop} {X : String → PH → Prop} {K133 : Option Nat → Option Nat → Int32 → Int32 → Int64 → Int32 → PH → Prop} (hC : CxOk RX0 cX0_findBound 15 G A (rmk 4 93 0 0) C) (hAo : Ao (xs C)) (hr : HJ C Z A G 15 cX0_findBound 0 0 Q) (hx : HX C Z A G 15 0 0 X) (hn : HN C Z A G 15 RX0 cX0_findBound 0 0 (rmk 4 93 0 0) X) (hnw : HNW C Z A G 15 RX0 cX0_findBound 0 0 (rmk 4 93 0 0) X) (hnx : HNX C Z A G 15 RX0 cX0_findBound 0 0 (rmk 4 93 0 0) X) (hi : True) (hK133 : ∀ (x0 : Option Nat) (x1 : Option Nat) (x3 : Int32) (x4 : Int32) (x5 : Int64) (x7 : Int32) (ph : PH), K133 x0 x1 x3 x4 x5 x7 ph → RR C Z A G 15 133 [(0, va_rf x0), (1, va_rf x1), (3, .int x3), (4, .int x4), (5, .long x5), (7, .int x7)] [] ph 0 0) : ∀ (x0 : Option Nat) (x1 : Option Nat) (x3 : Int32) (x4 : Int32) (x5 : Int64) (x7 : Int32) (x12 : Int64) (s0 : Int32) (ph : PH), w_X0_findBound_238 Q X K133 x0 x1 x3 x4 x5 x7 x12 s0 ph → RR C Z A G 15 238 [(0, va_rf x0), (1, va_rf x1), (3, .int x3), (4, .int x4), (5, .long x5), (7, .int x7), (12, .long x12)] [.int s0] ph 0 0 := by
  intro x0 x1 x3 x4 x5 x7 x12 s0 ph h
  refine r_istore (i := 14) (lv' := [(14, .int s0), (0, va_rf x0), (1, va_rf x1), (3, .int x3), (4, .int x4), (5, .long x5), (7, .int x7), (12, .long x12)]) hC dX0_findBound_238 (by decide) (by first | rfl | simp [lvs1, lvs2, List.filter, cat_rf, cat_i, cat_j]) ?_
  refine r_lload hC dX0_findBound_240 5 rfl ?_
  refine r_lconst (v := 0) hC dX0_findBound_242 (by decide) ?_
  refine r_lcmp hC dX0_findBound_243 ?_
  refine r_if_lt (tgt := 252) hC dX0_findBound_244 (by decide) (fun c9 => ?_) (fun c9 => ?_)
  · have h := h.1 c9
    refine r_lload hC dX0_findBound_252 7 rfl ?_
    refine r_goto (tgt := 259) hC dX0_findBound_254 (by decide) ?_
    refine r_lstore (i := 5) (lv' := [(5, .long x12), (14, .int s0), (0, va_rf x0), (1, va_rf x1), (3, .int x3), (4, .int x4), (7, .int x7), (12, .long x12)]) hC dX0_findBound_259 (by decide) (by first | rfl | simp [lvs1, lvs2, List.filter, cat_rf, cat_i, cat_j]) ?_
    refine r_iinc (w := 6) (v := x7 + 1) (lv' := [(7, .int (x7 + 1)), (5, .long x12), (14, .int s0), (0, va_rf x0), (1, va_rf x1), (3, .int x3), (4, .int x4), (12, .long x12)]) hC dX0_findBound_261 rfl rfl (by decide) (by first | rfl | simp [lvs1, List.filter, cat_rf, cat_i, cat_j]) ?_
    refine r_goto (tgt := 133) hC dX0_findBound_264 (by decide) ?_
    exact RR.wid (by decide) (by decide) (RR.sub [3, 4, 5, 6, 1, 0] rfl (hK133 _ _ _ _ _ _ _ h))
  · have h := h.2 c9
    refine r_iload hC dX0_findBound_247 0 rfl ?_
    refine r_if_eq (tgt := 257) hC dX0_findBound_249 (by decide) (fun c9 => ?_) (fun c9 => ?_)
    · have h := h.1 c9
      refine r_lload hC dX0_findBound_257 5 rfl ?_
      refine r_lstore (i := 5) (lv' := [(5, .long x5), (14, .int s0), (0, va_rf x0), (1, va_rf x1), (3, .int x3), (4, .int x4), (7, .int x7), (12, .long x12)]) hC dX0_findBound_259 (by decide) (by first | rfl | simp [lvs1, lvs2, List.filter, cat_rf, cat_i, cat_j]) ?_
      refine r_iinc (w := 6) (v := x7 + 1) (lv' := [(7, .int (x7 + 1)), (5, .long x5), (14, .int s0), (0, va_rf x0), (1, va_rf x1), (3, .int x3), (4, .int x4), (12, .long x12)]) hC dX0_findBound_261 rfl rfl (by decide) (by first | rfl | simp [lvs1, List.filter, cat_rf, cat_i, cat_j]) ?_
      refine r_goto (tgt := 133) hC dX0_findBound_264 (by decide) ?_
      exact RR.wid (by decide) (by decide) (RR.sub [3, 4, 5, 6, 1, 0] rfl (hK133 _ _ _ _ _ _ _ h))
    · have h := h.2 c9
      refine r_lload hC dX0_findBound_252 7 rfl ?_
      refine r_goto (tgt := 259) hC dX0_findBound_254 (by decide) ?_
      refine r_lstore (i := 5) (lv' := [(5, .long x12), (14, .int s0), (0, va_rf x0), (1, va_rf x1), (3, .int x3), (4, .int x4), (7, .int x7), (12, .long x12)]) hC dX0_findBound_259 (by decide) (by first | rfl | simp [lvs1, lvs2, List.filter, cat_rf, cat_i, cat_j]) ?_
      refine r_iinc (w := 6) (v := x7 + 1) (lv' := [(7, .int (x7 + 1)), (5, .long x12), (14, .int s0), (0, va_rf x0), (1, va_rf x1), (3, .int x3), (4, .int x4), (12, .long x12)]) hC dX0_findBound_261 rfl rfl (by decide) (by first | rfl | simp [lvs1, List.filter, cat_rf, cat_i, cat_j]) ?_
      refine r_goto (tgt := 133) hC dX0_findBound_264 (by decide) ?_
      exact RR.wid (by decide) (by decide) (RR.sub [3, 4, 5, 6, 1, 0] rfl (hK133 _ _ _ _ _ _ _ h))
set_option maxRecDepth 20000 in
theorem b_X0_findBound_200 {C : Cx} {Z : State → Prop} {A : Nat → Prop} {G : GG} {Q : Int64 → PH → Prop} {X : String → PH → Prop} {K133 : Option Nat → Option Nat → Int32 → Int32 → Int64 → Int32 → PH → Prop} (hC : CxOk RX0 cX0_findBound 15 G A (rmk 4 93 0 0) C) (hAo : Ao (xs C)) (hr : HJ C Z A G 15 cX0_findBound 0 0 Q) (hx : HX C Z A G 15 0 0 X) (hn : HN C Z A G 15 RX0 cX0_findBound 0 0 (rmk 4 93 0 0) X) (hnw : HNW C Z A G 15 RX0 cX0_findBound 0 0 (rmk 4 93 0 0) X) (hnx : HNX C Z A G 15 RX0 cX0_findBound 0 0 (rmk 4 93 0 0) X) (hi : True) (hK133 : ∀ (x0 : Option Nat) (x1 : Option Nat) (x3 : Int32) (x4 : Int32) (x5 : Int64) (x7 : Int32) (ph : PH), K133 x0 x1 x3 x4 x5 x7 ph → RR C Z A G 15 133 [(0, va_rf x0), (1, va_rf x1), (3, .int x3), (4, .int x4), (5, .long x5), (7, .int x7)] [] ph 0 0) : ∀ (x0 : Option Nat) (x1 : Option Nat) (x3 : Int32) (x4 : Int32) (x5 : Int64) (x7 : Int32) (x8 : Int64) (s0 : Int64) (ph : PH), w_X0_findBound_200 Q X K133 x0 x1 x3 x4 x5 x7 x8 s0 ph → RR C Z A G 15 200 [(0, va_rf x0), (1, va_rf x1), (3, .int x3), (4, .int x4), (5, .long x5), (7, .int x7), (8, .long x8)] [.long s0] ph 0 0 := by
  intro x0 x1 x3 x4 x5 x7 x8 s0 ph h
  refine r_lload hC dX0_findBound_200 6 rfl ?_
  obtain ⟨z202, h⟩ := h
  refine r_ldiv hC dX0_findBound_202 z202 ?_
  obtain ⟨v203, ev203⟩ : ∃ z : Int64, z = s0 / x8 := ⟨_, rfl⟩
  have h := h v203 ev203
  refine RR.to (st' := [.long v203]) (by rw [ev203]) ?_
  refine r_lstore (i := 12) (lv' := [(12, .long v203), (0, va_rf x0), (1, va_rf x1), (3, .int x3), (4, .int x4), (5, .long x5), (7, .int x7), (8, .long x8)]) hC dX0_findBound_203 (by decide) (by first | rfl | simp [lvs1, lvs2, List.filter, cat_rf, cat_i, cat_j]) ?_
  refine r_iload_n hC dX0_findBound_205 rfl 3 rfl ?_
  refine r_if_eq (tgt := 225) hC dX0_findBound_206 (by decide) (fun c9 => ?_) (fun c9 => ?_)
  · have h := h.1 c9
    refine r_lload hC dX0_findBound_225 0 rfl ?_
    refine r_lload hC dX0_findBound_227 5 rfl ?_
    refine r_lcmp hC dX0_findBound_229 ?_
    refine r_if_le (tgt := 237) hC dX0_findBound_230 (by decide) (fun c9 => ?_) (fun c9 => ?_)
    · have h := h.1 c9
      refine r_iconst (v := 0) hC dX0_findBound_237 (by decide) ?_
      have k238_133 : ∀ (x0 : Option Nat) (x1 : Option Nat) (x3 : Int32) (x4 : Int32) (x5 : Int64) (x7 : Int32) (ph : PH), K133 x0 x1 x3 x4 x5 x7 ph → RR C Z A G 15 133 [(0, va_rf x0), (1, va_rf x1), (3, .int x3), (4, .int x4), (5, .long x5), (7, .int x7)] [] ph 0 0 := by
        intro x0 x1 x3 x4 x5 x7 ph h
        exact RR.wid (by decide) (by decide) (RR.sub [0, 1, 2, 3, 4, 5] rfl (hK133 _ _ _ _ _ _ _ h))
      exact RR.wid (by decide) (by decide) (RR.sub [1, 2, 3, 4, 5, 6, 0] rfl (b_X0_findBound_238 hC hAo hr hx hn hnw hnx hi k238_133 _ _ _ _ _ _ _ _ _ h))
    · have h := h.2 c9
      refine r_iconst (v := 1) hC dX0_findBound_233 (by decide) ?_
      refine r_goto (tgt := 238) hC dX0_findBound_234 (by decide) ?_
      have k238_133 : ∀ (x0 : Option Nat) (x1 : Option Nat) (x3 : Int32) (x4 : Int32) (x5 : Int64) (x7 : Int32) (ph : PH), K133 x0 x1 x3 x4 x5 x7 ph → RR C Z A G 15 133 [(0, va_rf x0), (1, va_rf x1), (3, .int x3), (4, .int x4), (5, .long x5), (7, .int x7)] [] ph 0 0 := by
        intro x0 x1 x3 x4 x5 x7 ph h
        exact RR.wid (by decide) (by decide) (RR.sub [0, 1, 2, 3, 4, 5] rfl (hK133 _ _ _ _ _ _ _ h))
      exact RR.wid (by decide) (by decide) (RR.sub [1, 2, 3, 4, 5, 6, 0] rfl (b_X0_findBound_238 hC hAo hr hx hn hnw hnx hi k238_133 _ _ _ _ _ _ _ _ _ h))
  · have h := h.2 c9
    refine r_lload hC dX0_findBound_209 0 rfl ?_
    refine r_lload hC dX0_findBound_211 5 rfl ?_
    refine r_lcmp hC dX0_findBound_213 ?_
    refine r_if_ge (tgt := 221) hC dX0_findBound_214 (by decide) (fun c9 => ?_) (fun c9 => ?_)
    · have h := h.1 c9
      refine r_iconst (v := 0) hC dX0_findBound_221 (by decide) ?_
      refine r_goto (tgt := 238) hC dX0_findBound_222 (by decide) ?_
      have k238_133 : ∀ (x0 : Option Nat) (x1 : Option Nat) (x3 : Int32) (x4 : Int32) (x5 : Int64) (x7 : Int32) (ph : PH), K133 x0 x1 x3 x4 x5 x7 ph → RR C Z A G 15 133 [(0, va_rf x0), (1, va_rf x1), (3, .int x3), (4, .int x4), (5, .long x5), (7, .int x7)] [] ph 0 0 := by
        intro x0 x1 x3 x4 x5 x7 ph h
        exact RR.wid (by decide) (by decide) (RR.sub [0, 1, 2, 3, 4, 5] rfl (hK133 _ _ _ _ _ _ _ h))
      exact RR.wid (by decide) (by decide) (RR.sub [1, 2, 3, 4, 5, 6, 0] rfl (b_X0_findBound_238 hC hAo hr hx hn hnw hnx hi k238_133 _ _ _ _ _ _ _ _ _ h))
    · have h := h.2 c9
      refine r_iconst (v := 1) hC dX0_findBound_217 (by decide) ?_
      refine r_goto (tgt := 238) hC dX0_findBound_218 (by decide) ?_
      have k238_133 : ∀ (x0 : Option Nat) (x1 : Option Nat) (x3 : Int32) (x4 : Int32) (x5 : Int64) (x7 : Int32) (ph : PH), K133 x0 x1 x3 x4 x5 x7 ph → RR C Z A G 15 133 [(0, va_rf x0), (1, va_rf x1), (3, .int x3), (4, .int x4), (5, .long x5), (7, .int x7)] [] ph 0 0 := by
        intro x0 x1 x3 x4 x5 x7 ph h
        exact RR.wid (by decide) (by decide) (RR.sub [0, 1, 2, 3, 4, 5] rfl (hK133 _ _ _ _ _ _ _ h))
      exact RR.wid (by decide) (by decide) (RR.sub [1, 2, 3, 4, 5, 6, 0] rfl (b_X0_findBound_238 hC hAo hr hx hn hnw hnx hi k238_133 _ _ _ _ _ _ _ _ _ h))
set_option maxRecDepth 20000 in
theorem b_X0_findBound_133 {C : Cx} {Z : State → Prop} {A : Nat → Prop} {G : GG} {Q : Int64 → PH → Prop} {X : String → PH → Prop} (hC : CxOk RX0 cX0_findBound 15 G A (rmk 4 93 0 0) C) (hAo : Ao (xs C)) (hr : HJ C Z A G 15 cX0_findBound 0 0 Q) (hx : HX C Z A G 15 0 0 X) (hn : HN C Z A G 15 RX0 cX0_findBound 0 0 (rmk 4 93 0 0) X) (hnw : HNW C Z A G 15 RX0 cX0_findBound 0 0 (rmk 4 93 0 0) X) (hnx : HNX C Z A G 15 RX0 cX0_findBound 0 0 (rmk 4 93 0 0) X) (hi : True) : ∀ (fu : Nat) (x0 : Option Nat) (x1 : Option Nat) (x3 : Int32) (x4 : Int32) (x5 : Int64) (x7 : Int32) (ph : PH), w_X0_findBound_133 Q X fu x0 x1 x3 x4 x5 x7 ph → RR C Z A G 15 133 [(0, va_rf x0), (1, va_rf x1), (3, .int x3), (4, .int x4), (5, .long x5), (7, .int x7)] [] ph 0 0 := by
  intro fu
  induction fu with
  | zero => intro x0 x1 x3 x4 x5 x7 ph h; exact h.elim
  | succ fu ih =>
    intro x0 x1 x3 x4 x5 x7 ph h
    refine r_iload hC dX0_findBound_133 5 rfl ?_
    refine r_aload_n hC dX0_findBound_135 rfl 0 rfl ?_
    obtain ⟨v136, g136, h⟩ := h
    refine r_get hC (ci := 3) (kf := 6) (N := 8) (Cn := RX0) (T := TX0) rfl (by decide) tin_X0 fl_X0_34 rfl dX0_findBound_136 g136 ?_
    obtain ⟨v139, g139, h⟩ := h
    refine r_alen hC dX0_findBound_139 g139 ?_
    refine r_icmp_ge (tgt := 267) hC dX0_findBound_140 (by decide) (fun c9 => ?_) (fun c9 => ?_)
    · have h := h.1 c9
      refine r_lload hC dX0_findBound_267 4 rfl ?_
      exact hr _ _ _ _ _ _ dX0_findBound_269 (by decide) (by decide) h
    · have h := h.2 c9
      refine r_aload_n hC dX0_findBound_143 rfl 0 rfl ?_
      obtain ⟨v144, g144, h⟩ := h
      refine r_get hC (ci := 3) (kf := 6) (N := 8) (Cn := RX0) (T := TX0) rfl (by decide) tin_X0 fl_X0_34 rfl dX0_findBound_144 g144 ?_
      refine r_iload hC dX0_findBound_147 5 rfl ?_
      obtain ⟨v149, g149, h⟩ := h
      refine r_lald hC dX0_findBound_149 g149 ?_
      refine r_lstore (i := 8) (lv' := [(8, .long v149), (0, va_rf x0), (1, va_rf x1), (3, .int x3), (4, .int x4), (5, .long x5), (7, .int x7)]) hC dX0_findBound_150 (by decide) (by first | rfl | simp [lvs1, lvs2, List.filter, cat_rf, cat_i, cat_j]) ?_
      refine r_iload hC dX0_findBound_152 4 rfl ?_
      refine r_iload hC dX0_findBound_154 6 rfl ?_
      refine r_SI hC hAo [.int x4, .int x7] cal_X11_hasBit ml_X0_74 rfl (c_X11_hasBit G _ _ _ _ _ h) ⟨by decide, by decide⟩ ⟨by decide, by decide⟩ (by simp only [List.map_nil, List.map_cons, List.sum_nil, List.sum_cons, cat_rf, cat_i, cat_j]; decide) rfl dX0_findBound_156 (fun E u hx9 => hx _ _ _ _ _ _ _ (by decide) (by decide) hx9) (fun v156 ph156 h => ?_)
      refine RR.wid (k' := 0) (n' := 0) (by decide) (by decide) ?_
      refine r_if_eq (tgt := 261) hC dX0_findBound_159 (by decide) (fun c9 => ?_) (fun c9 => ?_)
      · have h := h.1 c9
        refine r_iinc (w := 6) (v := x7 + 1) (lv' := [(7, .int (x7 + 1)), (8, .long v149), (0, va_rf x0), (1, va_rf x1), (3, .int x3), (4, .int x4), (5, .long x5)]) hC dX0_findBound_261 rfl rfl (by decide) (by first | rfl | simp [lvs1, List.filter, cat_rf, cat_i, cat_j]) ?_
        refine r_goto (tgt := 133) hC dX0_findBound_264 (by decide) ?_
        exact RR.wid (by decide) (by decide) (RR.sub [2, 3, 4, 5, 6, 0] rfl (ih _ _ _ _ _ _ _ h))
      · have h := h.2 c9
        refine r_lload hC dX0_findBound_162 0 rfl ?_
        refine r_lconst (v := 0) hC dX0_findBound_164 (by decide) ?_
        refine r_lcmp hC dX0_findBound_165 ?_
        refine r_if_le (tgt := 261) hC dX0_findBound_166 (by decide) (fun c9 => ?_) (fun c9 => ?_)
        · have h := h.1 c9
          refine r_iinc (w := 6) (v := x7 + 1) (lv' := [(7, .int (x7 + 1)), (8, .long v149), (0, va_rf x0), (1, va_rf x1), (3, .int x3), (4, .int x4), (5, .long x5)]) hC dX0_findBound_261 rfl rfl (by decide) (by first | rfl | simp [lvs1, List.filter, cat_rf, cat_i, cat_j]) ?_
          refine r_goto (tgt := 133) hC dX0_findBound_264 (by decide) ?_
          exact RR.wid (by decide) (by decide) (RR.sub [2, 3, 4, 5, 6, 0] rfl (ih _ _ _ _ _ _ _ h))
        · have h := h.2 c9
          refine r_ldc2 (v := 1000) hC tb_974 dX0_findBound_169 ?_
          refine r_aload_n hC dX0_findBound_172 rfl 1 rfl ?_
          refine r_aload_n hC dX0_findBound_173 rfl 2 rfl ?_
          refine r_iload hC dX0_findBound_174 4 rfl ?_
          refine r_iload hC dX0_findBound_176 6 rfl ?_
          obtain ⟨a178, o178, h⟩ := h
          refine r_VJ hC hAo [va_rf x1, .int x4, .int x7] cal_X0_sumBehind ml_X0_151 (ci := 3) rfl rfl rfl (c_X0_sumBehind G _ _ _ _ _ _ _ h) o178 ⟨by decide, by decide⟩ ⟨by decide, by decide⟩ (by simp only [List.map_nil, List.map_cons, List.sum_nil, List.sum_cons, cat_rf, cat_i, cat_j]; decide) rfl dX0_findBound_178 (fun E u hx9 => hx _ _ _ _ _ _ _ (by decide) (by decide) hx9) (fun v178 ph178 h => ?_)
          refine RR.wid (k' := 0) (n' := 0) (by decide) (by decide) ?_
          refine r_lmul hC dX0_findBound_181 ?_
          obtain ⟨v182, ev182⟩ : ∃ z : Int64, z = (1000 : Int64) * v178 := ⟨_, rfl⟩
          have h := h v182 ev182
          refine RR.to (st' := [.long v182]) (by rw [ev182]) ?_
          refine r_lstore (i := 10) (lv' := [(10, .long v182), (8, .long v149), (0, va_rf x0), (1, va_rf x1), (3, .int x3), (4, .int x4), (5, .long x5), (7, .int x7)]) hC dX0_findBound_182 (by decide) (by first | rfl | simp [lvs1, lvs2, List.filter, cat_rf, cat_i, cat_j]) ?_
          refine r_iload_n hC dX0_findBound_184 rfl 4 rfl ?_
          refine r_if_eq (tgt := 193) hC dX0_findBound_185 (by decide) (fun c9 => ?_) (fun c9 => ?_)
          · have h := h.1 c9
            refine r_lload hC dX0_findBound_193 0 rfl ?_
            refine r_lload hC dX0_findBound_195 1 rfl ?_
            refine r_ladd hC dX0_findBound_197 ?_
            refine r_lconst (v := 1) hC dX0_findBound_198 (by decide) ?_
            refine r_lsub hC dX0_findBound_199 ?_
            have k200_133 : ∀ (x0 : Option Nat) (x1 : Option Nat) (x3 : Int32) (x4 : Int32) (x5 : Int64) (x7 : Int32) (ph : PH), w_X0_findBound_133 Q X fu x0 x1 x3 x4 x5 x7 ph → RR C Z A G 15 133 [(0, va_rf x0), (1, va_rf x1), (3, .int x3), (4, .int x4), (5, .long x5), (7, .int x7)] [] ph 0 0 := by
              intro x0 x1 x3 x4 x5 x7 ph h
              exact RR.wid (by decide) (by decide) (RR.sub [0, 1, 2, 3, 4, 5] rfl (ih _ _ _ _ _ _ _ h))
            exact RR.wid (by decide) (by decide) (RR.sub [2, 3, 4, 5, 6, 7, 1] rfl (b_X0_findBound_200 hC hAo hr hx hn hnw hnx hi k200_133 _ _ _ _ _ _ _ _ _ h))
          · have h := h.2 c9
            refine r_lload hC dX0_findBound_188 0 rfl ?_
            refine r_goto (tgt := 200) hC dX0_findBound_190 (by decide) ?_
            have k200_133 : ∀ (x0 : Option Nat) (x1 : Option Nat) (x3 : Int32) (x4 : Int32) (x5 : Int64) (x7 : Int32) (ph : PH), w_X0_findBound_133 Q X fu x0 x1 x3 x4 x5 x7 ph → RR C Z A G 15 133 [(0, va_rf x0), (1, va_rf x1), (3, .int x3), (4, .int x4), (5, .long x5), (7, .int x7)] [] ph 0 0 := by
              intro x0 x1 x3 x4 x5 x7 ph h
              exact RR.wid (by decide) (by decide) (RR.sub [0, 1, 2, 3, 4, 5] rfl (ih _ _ _ _ _ _ _ h))
            exact RR.wid (by decide) (by decide) (RR.sub [2, 3, 4, 5, 6, 7, 1] rfl (b_X0_findBound_200 hC hAo hr hx hn hnw hnx hi k200_133 _ _ _ _ _ _ _ _ _ h))
set_option maxRecDepth 20000 in
theorem b_X0_findBound_17 {C : Cx} {Z : State → Prop} {A : Nat → Prop} {G : GG} {Q : Int64 → PH → Prop} {X : String → PH → Prop} (hC : CxOk RX0 cX0_findBound 15 G A (rmk 4 93 0 0) C) (hAo : Ao (xs C)) (hr : HJ C Z A G 15 cX0_findBound 0 0 Q) (hx : HX C Z A G 15 0 0 X) (hn : HN C Z A G 15 RX0 cX0_findBound 0 0 (rmk 4 93 0 0) X) (hnw : HNW C Z A G 15 RX0 cX0_findBound 0 0 (rmk 4 93 0 0) X) (hnx : HNX C Z A G 15 RX0 cX0_findBound 0 0 (rmk 4 93 0 0) X) (hi : True) : ∀ (fu : Nat) (x0 : Option Nat) (x1 : Option Nat) (x2 : Int32) (x3 : Int32) (x4 : Int32) (x5 : Int32) (ph : PH), w_X0_findBound_17 Q X fu x0 x1 x2 x3 x4 x5 ph → RR C Z A G 15 17 [(0, va_rf x0), (1, va_rf x1), (2, .int x2), (3, .int x3), (4, .int x4), (5, .int x5)] [] ph 0 0 := by
  intro fu
  induction fu with
  | zero => intro x0 x1 x2 x3 x4 x5 ph h; exact h.elim
  | succ fu ih =>
    intro x0 x1 x2 x3 x4 x5 ph h
    refine r_iload hC dX0_findBound_17 5 rfl ?_
    refine r_iload_n hC dX0_findBound_19 rfl 2 rfl ?_
    refine r_icmp_ge (tgt := 125) hC dX0_findBound_20 (by decide) (fun c9 => ?_) (fun c9 => ?_)
    · have h := h.1 c9
      refine r_ldc2 (v := -1) hC tb_973 dX0_findBound_125 ?_
      refine r_lstore (i := 5) (lv' := [(5, .long (-1 : Int64)), (0, va_rf x0), (1, va_rf x1), (2, .int x2), (3, .int x3), (4, .int x4)]) hC dX0_findBound_128 (by decide) (by first | rfl | simp [lvs1, lvs2, List.filter, cat_rf, cat_i, cat_j]) ?_
      refine r_iconst (v := 0) hC dX0_findBound_130 (by decide) ?_
      refine r_istore (i := 7) (lv' := [(7, .int (0 : Int32)), (5, .long (-1 : Int64)), (0, va_rf x0), (1, va_rf x1), (2, .int x2), (3, .int x3), (4, .int x4)]) hC dX0_findBound_131 (by decide) (by first | rfl | simp [lvs1, lvs2, List.filter, cat_rf, cat_i, cat_j]) ?_
      obtain ⟨fu133, h⟩ := h
      exact RR.wid (by decide) (by decide) (RR.sub [2, 3, 5, 6, 1, 0] rfl (b_X0_findBound_133 hC hAo hr hx hn hnw hnx hi  fu133 _ _ _ _ _ _ _ h))
    · have h := h.2 c9
      refine r_iconst (v := 0) hC dX0_findBound_23 (by decide) ?_
      refine r_istore (i := 6) (lv' := [(6, .int (0 : Int32)), (0, va_rf x0), (1, va_rf x1), (2, .int x2), (3, .int x3), (4, .int x4), (5, .int x5)]) hC dX0_findBound_24 (by decide) (by first | rfl | simp [lvs1, lvs2, List.filter, cat_rf, cat_i, cat_j]) ?_
      have k26_17 : ∀ (x0 : Option Nat) (x1 : Option Nat) (x2 : Int32) (x3 : Int32) (x4 : Int32) (x5 : Int32) (ph : PH), w_X0_findBound_17 Q X fu x0 x1 x2 x3 x4 x5 ph → RR C Z A G 15 17 [(0, va_rf x0), (1, va_rf x1), (2, .int x2), (3, .int x3), (4, .int x4), (5, .int x5)] [] ph 0 0 := by
        intro x0 x1 x2 x3 x4 x5 ph h
        exact RR.wid (by decide) (by decide) (RR.sub [0, 1, 2, 3, 4, 5] rfl (ih _ _ _ _ _ _ _ h))
      obtain ⟨fu26, h⟩ := h
      exact RR.wid (by decide) (by decide) (RR.sub [1, 2, 3, 4, 5, 6, 0] rfl (b_X0_findBound_26 hC hAo hr hx hn hnw hnx hi k26_17 fu26 _ _ _ _ _ _ _ _ h))
set_option maxRecDepth 20000 in
theorem c_X0_findBound (G : GG) (x0 : Nat) (x1 : Option Nat) (x2 : Int32) (x3 : Int32) (ph : PH) (Q : Int64 → PH → Prop) (X : String → PH → Prop) (h : w_X0_findBound x0 x1 x2 x3 ph Q X) : Ct G yX0_findBound (.code yX0_findBound cX0_findBound 15 (some (.long))) 4 93 0 0 [va_rf (some x0), va_rf x1, .int x2, .int x3] ph (oJ Q) X := by
  refine ct_of (lv0 := [(0, va_rf (some x0)), (1, va_rf x1), (2, .int x2), (3, .int x3)]) (by decide +kernel) (by simp [lg_sl, cat_rf, cat_i, cat_j]) (by simp [lv_args, cat_rf, cat_i, cat_j]) ?_
  intro C A hC hAo hex hrt hnm
  have hr : HJ C (ZM C G A (oJ Q) X 0 0) A G 15 cX0_findBound 0 0 Q := fun pc lv v ph k n d hk hn hq => e_j hC hrt pc lv v ph k n d hk hn ⟨v, rfl, hq⟩
  have hx := e_x (Q := oJ Q) (X := X) (mc := 0) (ms := 0) hC hex
  have hn := e_n (Q := oJ Q) (X := X) (mc := 0) (ms := 0) hC hex
  have hnw := e_nw (Q := oJ Q) (X := X) (mc := 0) (ms := 0) hC hex
  have hnx := e_nx (Q := oJ Q) (X := X) (mc := 0) (ms := 0) hC hex
  have hi : True := trivial
  generalize ZM C G A (oJ Q) X 0 0 = Z at *
  refine r_aload_n hC dX0_findBound_0 rfl 1 rfl ?_
  obtain ⟨a1, o1, h⟩ := h
  refine r_VI hC hAo [] cal_X3_liveSet ml_X0_54 (ci := 6) rfl rfl rfl (c_X3_liveSet G _ _ _ _ h) o1 ⟨by decide, by decide⟩ ⟨by decide, by decide⟩ (by simp only [List.map_nil, List.map_cons, List.sum_nil, List.sum_cons, cat_rf, cat_i, cat_j]; decide) rfl dX0_findBound_1 (fun E u hx9 => hx _ _ _ _ _ _ _ (by decide) (by decide) hx9) (fun v1 ph1 h => ?_)
  refine RR.wid (k' := 0) (n' := 0) (by decide) (by decide) ?_
  refine r_istore (i := 4) (lv' := [(4, .int v1), (0, va_rf (some x0)), (1, va_rf x1), (2, .int x2), (3, .int x3)]) hC dX0_findBound_4 (by decide) (by first | rfl | simp [lvs1, lvs2, List.filter, cat_rf, cat_i, cat_j]) ?_
  refine r_aload_n hC dX0_findBound_6 rfl 1 rfl ?_
  obtain ⟨v7, g7, h⟩ := h
  refine r_get hC (ci := 3) (kf := 6) (N := 8) (Cn := RX0) (T := TX0) rfl (by decide) tin_X0 fl_X0_34 rfl dX0_findBound_7 g7 ?_
  refine r_lconst (v := 1) hC dX0_findBound_10 (by decide) ?_
  refine r_SV hC hAo [va_rf v7, .long (1 : Int64)] cal_J7_fill_d0a16 ml_X0_96 rfl (c_J7_fill_d0a16 G _ _ _ _ _ h) ⟨by decide, by decide⟩ ⟨by decide, by decide⟩ (by simp only [List.map_nil, List.map_cons, List.sum_nil, List.sum_cons, cat_rf, cat_i, cat_j]; decide) rfl dX0_findBound_11 (fun E u hx9 => hx _ _ _ _ _ _ _ (by decide) (by decide) hx9) (fun ph11 h => ?_)
  refine RR.wid (k' := 0) (n' := 0) (by decide) (by decide) ?_
  refine r_iconst (v := 0) hC dX0_findBound_14 (by decide) ?_
  refine r_istore (i := 5) (lv' := [(5, .int (0 : Int32)), (4, .int v1), (0, va_rf (some x0)), (1, va_rf x1), (2, .int x2), (3, .int x3)]) hC dX0_findBound_15 (by decide) (by first | rfl | simp [lvs1, lvs2, List.filter, cat_rf, cat_i, cat_j]) ?_
  obtain ⟨fu17, h⟩ := h
  exact RR.wid (by decide) (by decide) (RR.sub [2, 3, 4, 5, 1, 0] rfl (b_X0_findBound_17 hC hAo hr hx hn hnw hnx hi  fu17 _ _ _ _ _ _ _ h))
set_option maxRecDepth 20000 in
theorem c_X11_growth (G : GG) (x0 : Nat) (x1 : Int32) (x2 : Int32) (x3 : Int32) (ph : PH) (Q : Int64 → PH → Prop) (X : String → PH → Prop) (h : w_X11_growth x0 x1 x2 x3 ph Q X) : Ct G yX11_growth (.code yX11_growth cX11_growth 5 (some (.long))) 7 127 3 18 [va_rf (some x0), .int x1, .int x2, .int x3] ph (oJ Q) X := by
  refine ct_of (lv0 := [(0, va_rf (some x0)), (1, .int x1), (2, .int x2), (3, .int x3)]) (by decide +kernel) (by simp [lg_sl, cat_rf, cat_i, cat_j]) (by simp [lv_args, cat_rf, cat_i, cat_j]) ?_
  intro C A hC hAo hex hrt hnm
  have hr : HJ C (ZM C G A (oJ Q) X 3 18) A G 5 cX11_growth 3 18 Q := fun pc lv v ph k n d hk hn hq => e_j hC hrt pc lv v ph k n d hk hn ⟨v, rfl, hq⟩
  have hx := e_x (Q := oJ Q) (X := X) (mc := 3) (ms := 18) hC hex
  have hn := e_n (Q := oJ Q) (X := X) (mc := 3) (ms := 18) hC hex
  have hnw := e_nw (Q := oJ Q) (X := X) (mc := 3) (ms := 18) hC hex
  have hnx := e_nx (Q := oJ Q) (X := X) (mc := 3) (ms := 18) hC hex
  have hi : True := trivial
  generalize ZM C G A (oJ Q) X 3 18 = Z at *
  refine r_aload_n hC dX11_growth_0 rfl 0 rfl ?_
  refine r_iload_n hC dX11_growth_1 rfl 1 rfl ?_
  obtain ⟨a2, o2, h⟩ := h
  refine r_VR hC hAo [.int x1] cal_X11_shiftAt ml_X11_110 (ci := 12) rfl rfl rfl (c_X11_shiftAt G _ _ _ _ _ h) o2 ⟨by decide, by decide⟩ ⟨by decide, by decide⟩ (by simp only [List.map_nil, List.map_cons, List.sum_nil, List.sum_cons, cat_rf, cat_i, cat_j]; decide) rfl dX11_growth_2 (fun E u hx9 => hx _ _ _ _ _ _ _ (by decide) (by decide) hx9) (fun v2 ph2 h => ?_)
  refine RR.wid (k' := 1) (n' := 6) (by decide) (by decide) ?_
  refine r_astore (i := 4) (lv' := [(4, va_rf v2), (0, va_rf (some x0)), (1, .int x1), (2, .int x2), (3, .int x3)]) hC dX11_growth_5 (by decide) (by first | rfl | simp [lvs1, lvs2, List.filter, cat_rf, cat_i, cat_j]) ?_
  refine r_iload_n hC dX11_growth_7 rfl 3 rfl ?_
  refine r_iconst (v := 0) hC dX11_growth_8 (by decide) ?_
  refine r_bipush (v := 6) hC dX11_growth_9 (by decide) ?_
  refine r_SV hC hAo [.int x2, .int (0 : Int32), .int (6 : Int32)] cal_X11_demandRange ml_X11_96 rfl (c_X11_demandRange G _ _ _ _ _ _ h) ⟨by decide, by decide⟩ ⟨by decide, by decide⟩ (by simp only [List.map_nil, List.map_cons, List.sum_nil, List.sum_cons, cat_rf, cat_i, cat_j]; decide) rfl dX11_growth_11 (fun E u hx9 => hx _ _ _ _ _ _ _ (by decide) (by decide) hx9) (fun ph11 h => ?_)
  refine RR.wid (k' := 2) (n' := 12) (by decide) (by decide) ?_
  refine r_aload hC dX11_growth_14 0 rfl ?_
  obtain ⟨a16, o16, h⟩ := h
  refine r_VI hC hAo [] cal_X3_liveSet ml_X11_156 (ci := 6) rfl rfl rfl (c_X3_liveSet G _ _ _ _ h) o16 ⟨by decide, by decide⟩ ⟨by decide, by decide⟩ (by simp only [List.map_nil, List.map_cons, List.sum_nil, List.sum_cons, cat_rf, cat_i, cat_j]; decide) rfl dX11_growth_16 (fun E u hx9 => hx _ _ _ _ _ _ _ (by decide) (by decide) hx9) (fun v16 ph16 h => ?_)
  refine RR.wid (k' := 2) (n' := 12) (by decide) (by decide) ?_
  refine r_if_ne (tgt := 32) hC dX11_growth_19 (by decide) (fun c9 => ?_) (fun c9 => ?_)
  · have h := h.1 c9
    refine r_aload_n hC dX11_growth_32 rfl 1 rfl ?_
    obtain ⟨v33, g33, h⟩ := h
    refine r_get hC (ci := 12) (kf := 9) (N := 12) (Cn := RX11) (T := TX11) rfl (by decide) tin_X11 fl_X11_51 rfl dX11_growth_33 g33 ?_
    refine r_aload hC dX11_growth_36 0 rfl ?_
    refine r_iload_n hC dX11_growth_38 rfl 3 rfl ?_
    refine r_iload_n hC dX11_growth_39 rfl 4 rfl ?_
    obtain ⟨a40, o40, h⟩ := h
    refine r_VJ hC hAo [va_rf v2, .int x2, .int x3] cal_X0_findBound ml_X11_227 (ci := 3) rfl rfl rfl (c_X0_findBound G _ _ _ _ _ _ _ h) o40 ⟨by decide, by decide⟩ ⟨by decide, by decide⟩ (by simp only [List.map_nil, List.map_cons, List.sum_nil, List.sum_cons, cat_rf, cat_i, cat_j]; decide) rfl dX11_growth_40 (fun E u hx9 => hx _ _ _ _ _ _ _ (by decide) (by decide) hx9) (fun v40 ph40 h => ?_)
    refine RR.wid (k' := 2) (n' := 12) (by decide) (by decide) ?_
    exact hr _ _ _ _ _ _ dX11_growth_43 (by decide) (by decide) h
  · have h := h.2 c9
    exact hn _ _ _ _ _ _ _ _ _ _ _ _ 14 th_X11_142_146 rfl dX11_growth_22 dX11_growth_25 dX11_growth_26 dX11_growth_28 dX11_growth_31 (by decide) (by simp only [List.map_nil, List.map_cons, List.sum_nil, List.sum_cons, cat_rf, cat_i, cat_j]; decide) (by decide) (by decide) (by decide) (by decide) h
