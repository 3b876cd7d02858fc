set_option maxRecDepth 20000 in
theorem c_X11_edge (G : GG) (x0 : Nat) (x1 : Int32) (x2 : Int32) (x3 : Int32) (x4 : Int32) (x5 : Int32) (ph : PH) (Q : Int32 → PH → Prop) (X : String → PH → Prop) (h : w_X11_edge x0 x1 x2 x3 x4 x5 ph Q X) : Ct G yX11_edge (.code yX11_edge cX11_edge 9 (some (.boolean))) 7 112 2 12 [va_rf (some x0), .int x1, .int x2, .int x3, .int x4, .int x5] ph (oI Q) X := by
  refine ct_of (lv0 := [(0, va_rf (some x0)), (1, .int x1), (2, .int x2), (3, .int x3), (4, .int x4), (5, .int x5)]) (by decide +kernel) (by simp [lg_sl, cat_rf, cat_i, cat_j]) (by simp [lv_args, cat_rf, cat_i, cat_j]) ?_
  intro C A hC hAo hex hrt hnm
  have hr : HZ C (ZM C G A (oI Q) X 2 12) A G 9 cX11_edge 2 12 Q := fun pc lv v ph k n d hk hn hq => e_s hC (ty := .boolean) hrt pc lv v ph k n d hk hn ⟨hq.1, v, rfl, hq.2⟩
  have hx := e_x (Q := oI Q) (X := X) (mc := 2) (ms := 12) hC hex
  have hn := e_n (Q := oI Q) (X := X) (mc := 2) (ms := 12) hC hex
  have hnw := e_nw (Q := oI Q) (X := X) (mc := 2) (ms := 12) hC hex
  have hnx := e_nx (Q := oI Q) (X := X) (mc := 2) (ms := 12) hC hex
  have hi : True := trivial
  generalize ZM C G A (oI Q) X 2 12 = Z at *
  refine r_aload_n hC dX11_edge_0 rfl 0 rfl ?_
  refine r_iload_n hC dX11_edge_1 rfl 1 rfl ?_
  obtain ⟨a2, o2, h⟩ := h
  refine r_VR hC hAo [.int x1] cal_X11_shiftAt ml_X11_110 (ci := 12) rfl rfl rfl (c_X11_shiftAt G _ _ _ _ _ h) o2 ⟨by decide, by decide⟩ ⟨by decide, by decide⟩ (by simp only [List.map_nil, List.map_cons, List.sum_nil, List.sum_cons, cat_rf, cat_i, cat_j]; decide) rfl dX11_edge_2 (fun E u hx9 => hx _ _ _ _ _ _ _ (by decide) (by decide) hx9) (fun v2 ph2 h => ?_)
  refine RR.wid (k' := 1) (n' := 6) (by decide) (by decide) ?_
  refine r_astore (i := 6) (lv' := [(6, va_rf v2), (0, va_rf (some x0)), (1, .int x1), (2, .int x2), (3, .int x3), (4, .int x4), (5, .int x5)]) hC dX11_edge_5 (by decide) (by first | rfl | simp [lvs1, lvs2, List.filter, cat_rf, cat_i, cat_j]) ?_
  refine r_iload_n hC dX11_edge_7 rfl 4 rfl ?_
  refine r_SI hC hAo [.int x3] cal_X9_letterOf ml_X11_114 rfl (c_X9_letterOf G _ _ _ _ h) ⟨by decide, by decide⟩ ⟨by decide, by decide⟩ (by simp only [List.map_nil, List.map_cons, List.sum_nil, List.sum_cons, cat_rf, cat_i, cat_j]; decide) rfl dX11_edge_8 (fun E u hx9 => hx _ _ _ _ _ _ _ (by decide) (by decide) hx9) (fun v8 ph8 h => ?_)
  refine RR.wid (k' := 1) (n' := 6) (by decide) (by decide) ?_
  refine r_istore (i := 7) (lv' := [(7, .int v8), (6, va_rf v2), (0, va_rf (some x0)), (1, .int x1), (2, .int x2), (3, .int x3), (4, .int x4), (5, .int x5)]) hC dX11_edge_11 (by decide) (by first | rfl | simp [lvs1, lvs2, List.filter, cat_rf, cat_i, cat_j]) ?_
  refine r_aload hC dX11_edge_13 1 rfl ?_
  refine r_iload hC dX11_edge_15 0 rfl ?_
  obtain ⟨a17, o17, h⟩ := h
  refine r_VI hC hAo [.int v8] cal_X3_hasLetter ml_X11_118 (ci := 6) rfl rfl rfl (c_X3_hasLetter G _ _ _ _ _ h) o17 ⟨by decide, by decide⟩ ⟨by decide, by decide⟩ (by simp only [List.map_nil, List.map_cons, List.sum_nil, List.sum_cons, cat_rf, cat_i, cat_j]; decide) rfl dX11_edge_17 (fun E u hx9 => hx _ _ _ _ _ _ _ (by decide) (by decide) hx9) (fun v17 ph17 h => ?_)
  refine RR.wid (k' := 1) (n' := 6) (by decide) (by decide) ?_
  refine r_if_eq (tgt := 42) hC dX11_edge_20 (by decide) (fun c9 => ?_) (fun c9 => ?_)
  · have h := h.1 c9
    exact hn _ _ _ _ _ _ _ _ _ _ _ _ 5 th_X11_73_77 rfl dX11_edge_42 dX11_edge_45 dX11_edge_46 dX11_edge_48 dX11_edge_51 (by decide) (by simp only [List.map_nil, List.map_cons, List.sum_nil, List.sum_cons, cat_rf, cat_i, cat_j]; decide) (by decide) (by decide) (by decide) (by decide) h
  · have h := h.2 c9
    refine r_aload hC dX11_edge_23 1 rfl ?_
    refine r_iload_n hC dX11_edge_25 rfl 4 rfl ?_
    obtain ⟨a26, o26, h⟩ := h
    refine r_VI hC hAo [.int x2] cal_X3_hasState ml_X11_122 (ci := 6) rfl rfl rfl (c_X3_hasState G _ _ _ _ _ h) o26 ⟨by decide, by decide⟩ ⟨by decide, by decide⟩ (by simp only [List.map_nil, List.map_cons, List.sum_nil, List.sum_cons, cat_rf, cat_i, cat_j]; decide) rfl dX11_edge_26 (fun E u hx9 => hx _ _ _ _ _ _ _ (by decide) (by decide) hx9) (fun v26 ph26 h => ?_)
    refine RR.wid (k' := 1) (n' := 6) (by decide) (by decide) ?_
    refine r_if_eq (tgt := 42) hC dX11_edge_29 (by decide) (fun c9 => ?_) (fun c9 => ?_)
    · have h := h.1 c9
      exact hn _ _ _ _ _ _ _ _ _ _ _ _ 5 th_X11_73_77 rfl dX11_edge_42 dX11_edge_45 dX11_edge_46 dX11_edge_48 dX11_edge_51 (by decide) (by simp only [List.map_nil, List.map_cons, List.sum_nil, List.sum_cons, cat_rf, cat_i, cat_j]; decide) (by decide) (by decide) (by decide) (by decide) h
    · have h := h.2 c9
      refine r_aload hC dX11_edge_32 1 rfl ?_
      refine r_iload hC dX11_edge_34 6 rfl ?_
      obtain ⟨a36, o36, h⟩ := h
      refine r_VI hC hAo [.int x4] cal_X3_hasState ml_X11_122 (ci := 6) rfl rfl rfl (c_X3_hasState G _ _ _ _ _ h) o36 ⟨by decide, by decide⟩ ⟨by decide, by decide⟩ (by simp only [List.map_nil, List.map_cons, List.sum_nil, List.sum_cons, cat_rf, cat_i, cat_j]; decide) rfl dX11_edge_36 (fun E u hx9 => hx _ _ _ _ _ _ _ (by decide) (by decide) hx9) (fun v36 ph36 h => ?_)
      refine RR.wid (k' := 1) (n' := 6) (by decide) (by decide) ?_
      refine r_if_ne (tgt := 52) hC dX11_edge_39 (by decide) (fun c9 => ?_) (fun c9 => ?_)
      · have h := h.1 c9
        refine r_aload hC dX11_edge_52 1 rfl ?_
        refine r_iload_n hC dX11_edge_54 rfl 4 rfl ?_
        refine r_iload hC dX11_edge_55 0 rfl ?_
        obtain ⟨a57, o57, h⟩ := h
        refine r_VI hC hAo [.int x2, .int v8] cal_X3_targets ml_X11_127 (ci := 6) rfl rfl rfl (c_X3_targets G _ _ _ _ _ _ h) o57 ⟨by decide, by decide⟩ ⟨by decide, by decide⟩ (by simp only [List.map_nil, List.map_cons, List.sum_nil, List.sum_cons, cat_rf, cat_i, cat_j]; decide) rfl dX11_edge_57 (fun E u hx9 => hx _ _ _ _ _ _ _ (by decide) (by decide) hx9) (fun v57 ph57 h => ?_)
        refine RR.wid (k' := 1) (n' := 6) (by decide) (by decide) ?_
        refine r_iload hC dX11_edge_60 6 rfl ?_
        refine r_SI hC hAo [.int v57, .int x4] cal_X11_hasBit ml_X11_131 rfl (c_X11_hasBit G _ _ _ _ _ h) ⟨by decide, by decide⟩ ⟨by decide, by decide⟩ (by simp only [List.map_nil, List.map_cons, List.sum_nil, List.sum_cons, cat_rf, cat_i, cat_j]; decide) rfl dX11_edge_62 (fun E u hx9 => hx _ _ _ _ _ _ _ (by decide) (by decide) hx9) (fun v62 ph62 h => ?_)
        refine RR.wid (k' := 1) (n' := 6) (by decide) (by decide) ?_
        refine r_istore (i := 8) (lv' := [(8, .int v62), (7, .int v8), (6, va_rf v2), (0, va_rf (some x0)), (1, .int x1), (2, .int x2), (3, .int x3), (4, .int x4), (5, .int x5)]) hC dX11_edge_65 (by decide) (by first | rfl | simp [lvs1, lvs2, List.filter, cat_rf, cat_i, cat_j]) ?_
        refine r_aload hC dX11_edge_67 2 rfl ?_
        refine r_iload_n hC dX11_edge_69 rfl 5 rfl ?_
        refine r_iload hC dX11_edge_70 1 rfl ?_
        refine r_iload hC dX11_edge_72 7 rfl ?_
        refine r_iload hC dX11_edge_74 8 rfl ?_
        obtain ⟨a76, o76, h⟩ := h
        refine r_VV hC hAo [.int x2, .int v8, .int x4, .int x5] cal_X3_tell ml_X11_135 (ci := 6) rfl rfl rfl (c_X3_tell G _ _ _ _ _ _ _ _ h) o76 ⟨by decide, by decide⟩ ⟨by decide, by decide⟩ (by simp only [List.map_nil, List.map_cons, List.sum_nil, List.sum_cons, cat_rf, cat_i, cat_j]; decide) rfl dX11_edge_76 (fun E u hx9 => hx _ _ _ _ _ _ _ (by decide) (by decide) hx9) (fun ph76 h => ?_)
        refine RR.wid (k' := 1) (n' := 6) (by decide) (by decide) ?_
        refine r_iload hC dX11_edge_79 0 rfl ?_
        exact hr _ _ _ _ _ _ dX11_edge_81 (by decide) (by decide) h
      · have h := h.2 c9
        exact hn _ _ _ _ _ _ _ _ _ _ _ _ 5 th_X11_73_77 rfl dX11_edge_42 dX11_edge_45 dX11_edge_46 dX11_edge_48 dX11_edge_51 (by decide) (by simp only [List.map_nil, List.map_cons, List.sum_nil, List.sum_cons, cat_rf, cat_i, cat_j]; decide) (by decide) (by decide) (by decide) (by decide) h
set_option maxRecDepth 20000 in
theorem c_X9_at (G : GG) (x0 : Nat) (x1 : Int32) (ph : PH) (Q : Int32 → PH → Prop) (X : String → PH → Prop) (h : w_X9_at x0 x1 ph Q X) : Ct G yX9_at (.code yX9_at cX9_at 2 (some (.char))) 0 0 0 0 [va_rf (some x0), .int x1] ph (oI Q) X := by
  refine ct_of (lv0 := [(0, va_rf (some x0)), (1, .int x1)]) (by decide +kernel) (by simp [lg_sl, cat_rf, cat_i, cat_j]) (by simp [lv_args, cat_rf, cat_i, cat_j]) ?_
  intro C A hC hAo hex hrt hnm
  have hr : HC C (ZM C G A (oI Q) X 0 0) A G 2 cX9_at 0 0 Q := fun pc lv v ph k n d hk hn hq => e_s hC (ty := .char) hrt pc lv v ph k n d hk hn ⟨hq.1, v, rfl, hq.2⟩
  have hx := e_x (Q := oI Q) (X := X) (mc := 0) (ms := 0) hC hex
  have hn := e_n (Q := oI Q) (X := X) (mc := 0) (ms := 0) hC hex
  have hnw := e_nw (Q := oI Q) (X := X) (mc := 0) (ms := 0) hC hex
  have hnx := e_nx (Q := oI Q) (X := X) (mc := 0) (ms := 0) hC hex
  have hi : True := trivial
  generalize ZM C G A (oI Q) X 0 0 = Z at *
  refine r_iload_n hC dX9_at_0 rfl 1 rfl ?_
  refine r_if_lt (tgt := 30) hC dX9_at_1 (by decide) (fun c9 => ?_) (fun c9 => ?_)
  · have h := h.1 c9
    refine r_iconst (v := 0) hC dX9_at_30 (by decide) ?_
    exact hr _ _ _ _ _ _ dX9_at_31 (by decide) (by decide) h
  · have h := h.2 c9
    refine r_iload_n hC dX9_at_4 rfl 1 rfl ?_
    refine r_aload_n hC dX9_at_5 rfl 0 rfl ?_
    obtain ⟨v6, g6, h⟩ := h
    refine r_get hC (ci := 10) (kf := 1) (N := 2) (Cn := RX9) (T := TX9) rfl (by decide) tin_X9 fl_X9_19 rfl dX9_at_6 g6 ?_
    refine r_icmp_ge (tgt := 30) hC dX9_at_9 (by decide) (fun c9 => ?_) (fun c9 => ?_)
    · have h := h.1 c9
      refine r_iconst (v := 0) hC dX9_at_30 (by decide) ?_
      exact hr _ _ _ _ _ _ dX9_at_31 (by decide) (by decide) h
    · have h := h.2 c9
      refine r_iload_n hC dX9_at_12 rfl 1 rfl ?_
      refine r_aload_n hC dX9_at_13 rfl 0 rfl ?_
      obtain ⟨v14, g14, h⟩ := h
      refine r_get hC (ci := 10) (kf := 0) (N := 2) (Cn := RX9) (T := TX9) rfl (by decide) tin_X9 fl_X9_9 rfl dX9_at_14 g14 ?_
      obtain ⟨v17, g17, h⟩ := h
      refine r_alen hC dX9_at_17 g17 ?_
      refine r_icmp_ge (tgt := 30) hC dX9_at_18 (by decide) (fun c9 => ?_) (fun c9 => ?_)
      · have h := h.1 c9
        refine r_iconst (v := 0) hC dX9_at_30 (by decide) ?_
        exact hr _ _ _ _ _ _ dX9_at_31 (by decide) (by decide) h
      · have h := h.2 c9
        refine r_aload_n hC dX9_at_21 rfl 0 rfl ?_
        obtain ⟨v22, g22, h⟩ := h
        refine r_get hC (ci := 10) (kf := 0) (N := 2) (Cn := RX9) (T := TX9) rfl (by decide) tin_X9 fl_X9_9 rfl dX9_at_22 g22 ?_
        refine r_iload_n hC dX9_at_25 rfl 1 rfl ?_
        obtain ⟨v26, g26, h⟩ := h
        refine r_cald hC dX9_at_26 g26 ?_
        refine r_goto (tgt := 31) hC dX9_at_27 (by decide) ?_
        exact hr _ _ _ _ _ _ dX9_at_31 (by decide) (by decide) h
set_option maxRecDepth 20000 in
theorem c_X9_letterAt (G : GG) (x0 : Nat) (x1 : Int32) (ph : PH) (Q : Int32 → PH → Prop) (X : String → PH → Prop) (h : w_X9_letterAt x0 x1 ph Q X) : Ct G yX9_letterAt (.code yX9_letterAt cX9_letterAt 2 (some (.int))) 1 21 0 0 [va_rf (some x0), .int x1] ph (oI Q) X := by
  refine ct_of (lv0 := [(0, va_rf (some x0)), (1, .int x1)]) (by decide +kernel) (by simp [lg_sl, cat_rf, cat_i, cat_j]) (by simp [lv_args, cat_rf, cat_i, cat_j]) ?_
  intro C A hC hAo hex hrt hnm
  have hr : HI C (ZM C G A (oI Q) X 0 0) A G 2 cX9_letterAt 0 0 Q := fun pc lv v ph k n d hk hn hq => e_i hC hrt pc lv v ph k n d hk hn ⟨v, rfl, hq⟩
  have hx := e_x (Q := oI Q) (X := X) (mc := 0) (ms := 0) hC hex
  have hn := e_n (Q := oI Q) (X := X) (mc := 0) (ms := 0) hC hex
  have hnw := e_nw (Q := oI Q) (X := X) (mc := 0) (ms := 0) hC hex
  have hnx := e_nx (Q := oI Q) (X := X) (mc := 0) (ms := 0) hC hex
  have hi : True := trivial
  generalize ZM C G A (oI Q) X 0 0 = Z at *
  refine r_aload_n hC dX9_letterAt_0 rfl 0 rfl ?_
  refine r_iload_n hC dX9_letterAt_1 rfl 1 rfl ?_
  obtain ⟨a2, o2, h⟩ := h
  refine r_VI hC hAo [.int x1] cal_X9_at ml_X9_23 (ci := 10) rfl rfl rfl (c_X9_at G _ _ _ _ _ h) o2 ⟨by decide, by decide⟩ ⟨by decide, by decide⟩ (by simp only [List.map_nil, List.map_cons, List.sum_nil, List.sum_cons, cat_rf, cat_i, cat_j]; decide) rfl dX9_letterAt_2 (fun E u hx9 => hx _ _ _ _ _ _ _ (by decide) (by decide) hx9) (fun v2 ph2 h => ?_)
  refine RR.wid (k' := 0) (n' := 0) (by decide) (by decide) ?_
  refine r_SI hC hAo [.int v2] cal_X9_letterOf ml_X9_15 rfl (c_X9_letterOf G _ _ _ _ h) ⟨by decide, by decide⟩ ⟨by decide, by decide⟩ (by simp only [List.map_nil, List.map_cons, List.sum_nil, List.sum_cons, cat_rf, cat_i, cat_j]; decide) rfl dX9_letterAt_5 (fun E u hx9 => hx _ _ _ _ _ _ _ (by decide) (by decide) hx9) (fun v5 ph5 h => ?_)
  refine RR.wid (k' := 0) (n' := 0) (by decide) (by decide) ?_
  exact hr _ _ _ _ _ _ dX9_letterAt_8 (by decide) (by decide) h
set_option maxRecDepth 20000 in
theorem c_X9_endsWord (G : GG) (x0 : Nat) (x1 : Int32) (ph : PH) (Q : Int32 → PH → Prop) (X : String → PH → Prop) (h : w_X9_endsWord x0 x1 ph Q X) : Ct G yX9_endsWord (.code yX9_endsWord cX9_endsWord 2 (some (.boolean))) 1 21 0 0 [va_rf (some x0), .int x1] ph (oI Q) X := by
  refine ct_of (lv0 := [(0, va_rf (some x0)), (1, .int x1)]) (by decide +kernel) (by simp [lg_sl, cat_rf, cat_i, cat_j]) (by simp [lv_args, cat_rf, cat_i, cat_j]) ?_
  intro C A hC hAo hex hrt hnm
  have hr : HZ C (ZM C G A (oI Q) X 0 0) A G 2 cX9_endsWord 0 0 Q := fun pc lv v ph k n d hk hn hq => e_s hC (ty := .boolean) hrt pc lv v ph k n d hk hn ⟨hq.1, v, rfl, hq.2⟩
  have hx := e_x (Q := oI Q) (X := X) (mc := 0) (ms := 0) hC hex
  have hn := e_n (Q := oI Q) (X := X) (mc := 0) (ms := 0) hC hex
  have hnw := e_nw (Q := oI Q) (X := X) (mc := 0) (ms := 0) hC hex
  have hnx := e_nx (Q := oI Q) (X := X) (mc := 0) (ms := 0) hC hex
  have hi : True := trivial
  generalize ZM C G A (oI Q) X 0 0 = Z at *
  refine r_iload_n hC dX9_endsWord_0 rfl 1 rfl ?_
  refine r_aload_n hC dX9_endsWord_1 rfl 0 rfl ?_
  obtain ⟨v2, g2, h⟩ := h
  refine r_get hC (ci := 10) (kf := 1) (N := 2) (Cn := RX9) (T := TX9) rfl (by decide) tin_X9 fl_X9_19 rfl dX9_endsWord_2 g2 ?_
  refine r_icmp_ge (tgt := 18) hC dX9_endsWord_5 (by decide) (fun c9 => ?_) (fun c9 => ?_)
  · have h := h.1 c9
    refine r_iconst (v := 1) hC dX9_endsWord_18 (by decide) ?_
    refine r_goto (tgt := 23) hC dX9_endsWord_19 (by decide) ?_
    exact hr _ _ _ _ _ _ dX9_endsWord_23 (by decide) (by decide) h
  · have h := h.2 c9
    refine r_aload_n hC dX9_endsWord_8 rfl 0 rfl ?_
    refine r_iload_n hC dX9_endsWord_9 rfl 1 rfl ?_
    obtain ⟨a10, o10, h⟩ := h
    refine r_VI hC hAo [.int x1] cal_X9_at ml_X9_23 (ci := 10) rfl rfl rfl (c_X9_at G _ _ _ _ _ h) o10 ⟨by decide, by decide⟩ ⟨by decide, by decide⟩ (by simp only [List.map_nil, List.map_cons, List.sum_nil, List.sum_cons, cat_rf, cat_i, cat_j]; decide) rfl dX9_endsWord_10 (fun E u hx9 => hx _ _ _ _ _ _ _ (by decide) (by decide) hx9) (fun v10 ph10 h => ?_)
    refine RR.wid (k' := 0) (n' := 0) (by decide) (by decide) ?_
    refine r_bipush (v := 44) hC dX9_endsWord_13 (by decide) ?_
    refine r_icmp_ne (tgt := 22) hC dX9_endsWord_15 (by decide) (fun c9 => ?_) (fun c9 => ?_)
    · have h := h.1 c9
      refine r_iconst (v := 0) hC dX9_endsWord_22 (by decide) ?_
      exact hr _ _ _ _ _ _ dX9_endsWord_23 (by decide) (by decide) h
    · have h := h.2 c9
      refine r_iconst (v := 1) hC dX9_endsWord_18 (by decide) ?_
      refine r_goto (tgt := 23) hC dX9_endsWord_19 (by decide) ?_
      exact hr _ _ _ _ _ _ dX9_endsWord_23 (by decide) (by decide) h
set_option maxRecDepth 20000 in
theorem b_X9_isForbidden_4 {C : Cx} {Z : State → Prop} {A : Nat → Prop} {G : GG} {Q : Int32 → PH → Prop} {X : String → PH → Prop} (hC : CxOk RX9 cX9_isForbidden 5 G A (rmk 2 42 0 0) C) (hAo : Ao (xs C)) (hr : HZ C Z A G 5 cX9_isForbidden 0 0 Q) (hx : HX C Z A G 5 0 0 X) (hn : HN C Z A G 5 RX9 cX9_isForbidden 0 0 (rmk 2 42 0 0) X) (hnw : HNW C Z A G 5 RX9 cX9_isForbidden 0 0 (rmk 2 42 0 0) X) (hnx : HNX C Z A G 5 RX9 cX9_isForbidden 0 0 (rmk 2 42 0 0) X) (hi : True) : ∀ (fu : Nat) (x0 : Option Nat) (x1 : Int32) (x2 : Int32) (x3 : Int32) (ph : PH), w_X9_isForbidden_4 Q X fu x0 x1 x2 x3 ph → RR C Z A G 5 4 [(0, va_rf x0), (1, .int x1), (2, .int x2), (3, .int x3)] [] ph 0 0 := by
  intro fu
  induction fu with
  | zero => intro x0 x1 x2 x3 ph h; exact h.elim
  | succ fu ih =>
    intro x0 x1 x2 x3 ph h
    refine r_iload_n hC dX9_isForbidden_4 rfl 3 rfl ?_
    refine r_aload_n hC dX9_isForbidden_5 rfl 0 rfl ?_
    obtain ⟨v6, g6, h⟩ := h
    refine r_get hC (ci := 10) (kf := 1) (N := 2) (Cn := RX9) (T := TX9) rfl (by decide) tin_X9 fl_X9_19 rfl dX9_isForbidden_6 g6 ?_
    refine r_icmp_gt (tgt := 73) hC dX9_isForbidden_9 (by decide) (fun c9 => ?_) (fun c9 => ?_)
    · have h := h.1 c9
      refine r_iconst (v := 1) hC dX9_isForbidden_73 (by decide) ?_
      exact hr _ _ _ _ _ _ dX9_isForbidden_74 (by decide) (by decide) h
    · have h := h.2 c9
      refine r_aload_n hC dX9_isForbidden_12 rfl 0 rfl ?_
      obtain ⟨v13, g13, h⟩ := h
      refine r_get hC (ci := 10) (kf := 1) (N := 2) (Cn := RX9) (T := TX9) rfl (by decide) tin_X9 fl_X9_19 rfl dX9_isForbidden_13 g13 ?_
      refine r_if_le (tgt := 73) hC dX9_isForbidden_16 (by decide) (fun c9 => ?_) (fun c9 => ?_)
      · have h := h.1 c9
        refine r_iconst (v := 1) hC dX9_isForbidden_73 (by decide) ?_
        exact hr _ _ _ _ _ _ dX9_isForbidden_74 (by decide) (by decide) h
      · have h := h.2 c9
        refine r_aload_n hC dX9_isForbidden_19 rfl 0 rfl ?_
        refine r_iload_n hC dX9_isForbidden_20 rfl 3 rfl ?_
        obtain ⟨a21, o21, h⟩ := h
        refine r_VI hC hAo [.int x3] cal_X9_letterAt ml_X9_31 (ci := 10) rfl rfl rfl (c_X9_letterAt G _ _ _ _ _ h) o21 ⟨by decide, by decide⟩ ⟨by decide, by decide⟩ (by simp only [List.map_nil, List.map_cons, List.sum_nil, List.sum_cons, cat_rf, cat_i, cat_j]; decide) rfl dX9_isForbidden_21 (fun E u hx9 => hx _ _ _ _ _ _ _ (by decide) (by decide) hx9) (fun v21 ph21 h => ?_)
        refine RR.wid (k' := 0) (n' := 0) (by decide) (by decide) ?_
        refine r_istore (i := 4) (lv' := [(4, .int v21), (0, va_rf x0), (1, .int x1), (2, .int x2), (3, .int x3)]) hC dX9_isForbidden_24 (by decide) (by first | rfl | simp [lvs1, lvs2, List.filter, cat_rf, cat_i, cat_j]) ?_
        refine r_aload_n hC dX9_isForbidden_26 rfl 1 rfl ?_
        refine r_iload_n hC dX9_isForbidden_27 rfl 4 rfl ?_
        obtain ⟨a28, o28, h⟩ := h
        refine r_VI hC hAo [.int x3] cal_X9_endsWord ml_X9_35 (ci := 10) rfl rfl rfl (c_X9_endsWord G _ _ _ _ _ h) o28 ⟨by decide, by decide⟩ ⟨by decide, by decide⟩ (by simp only [List.map_nil, List.map_cons, List.sum_nil, List.sum_cons, cat_rf, cat_i, cat_j]; decide) rfl dX9_isForbidden_28 (fun E u hx9 => hx _ _ _ _ _ _ _ (by decide) (by decide) hx9) (fun v28 ph28 h => ?_)
        refine RR.wid (k' := 0) (n' := 0) (by decide) (by decide) ?_
        refine r_if_eq (tgt := 51) hC dX9_isForbidden_31 (by decide) (fun c9 => ?_) (fun c9 => ?_)
        · have h := h.1 c9
          refine r_iload hC dX9_isForbidden_51 0 rfl ?_
          refine r_if_lt (tgt := 62) hC dX9_isForbidden_53 (by decide) (fun c9 => ?_) (fun c9 => ?_)
          · have h := h.1 c9
            refine r_iconst (v := 0) hC dX9_isForbidden_62 (by decide) ?_
            exact hr _ _ _ _ _ _ dX9_isForbidden_63 (by decide) (by decide) h
          · have h := h.2 c9
            refine r_iload hC dX9_isForbidden_56 0 rfl ?_
            refine r_iload_n hC dX9_isForbidden_58 rfl 2 rfl ?_
            refine r_icmp_lt (tgt := 64) hC dX9_isForbidden_59 (by decide) (fun c9 => ?_) (fun c9 => ?_)
            · have h := h.1 c9
              refine r_iinc (w := 3) (v := x2 + 1) (lv' := [(2, .int (x2 + 1)), (4, .int v21), (0, va_rf x0), (1, .int x1), (3, .int x3)]) hC dX9_isForbidden_64 rfl rfl (by decide) (by first | rfl | simp [lvs1, List.filter, cat_rf, cat_i, cat_j]) ?_
              refine r_iinc (w := 4) (v := x3 + 1) (lv' := [(3, .int (x3 + 1)), (2, .int (x2 + 1)), (4, .int v21), (0, va_rf x0), (1, .int x1)]) hC dX9_isForbidden_67 rfl rfl (by decide) (by first | rfl | simp [lvs1, List.filter, cat_rf, cat_i, cat_j]) ?_
              refine r_goto (tgt := 4) hC dX9_isForbidden_70 (by decide) ?_
              exact RR.wid (by decide) (by decide) (RR.sub [3, 4, 1, 0] rfl (ih _ _ _ _ _ h))
            · have h := h.2 c9
              refine r_iconst (v := 0) hC dX9_isForbidden_62 (by decide) ?_
              exact hr _ _ _ _ _ _ dX9_isForbidden_63 (by decide) (by decide) h
        · have h := h.2 c9
          refine r_iload_n hC dX9_isForbidden_34 rfl 3 rfl ?_
          refine r_iconst (v := 1) hC dX9_isForbidden_35 (by decide) ?_
          refine r_icmp_lt (tgt := 44) hC dX9_isForbidden_36 (by decide) (fun c9 => ?_) (fun c9 => ?_)
          · have h := h.1 c9
            refine r_iconst (v := 0) hC dX9_isForbidden_44 (by decide) ?_
            exact hr _ _ _ _ _ _ dX9_isForbidden_45 (by decide) (by decide) h
          · have h := h.2 c9
            refine r_iload_n hC dX9_isForbidden_39 rfl 3 rfl ?_
            refine r_iconst (v := 3) hC dX9_isForbidden_40 (by decide) ?_
            refine r_icmp_le (tgt := 46) hC dX9_isForbidden_41 (by decide) (fun c9 => ?_) (fun c9 => ?_)
            · have h := h.1 c9
              refine r_iconst (v := 0) hC dX9_isForbidden_46 (by decide) ?_
              refine r_istore_n (i := 2) (lv' := [(2, .int (0 : Int32)), (4, .int v21), (0, va_rf x0), (1, .int x1), (3, .int x3)]) hC dX9_isForbidden_47 rfl (by decide) (by first | rfl | simp [lvs1, lvs2, List.filter, cat_rf, cat_i, cat_j]) ?_
              refine r_goto (tgt := 67) hC dX9_isForbidden_48 (by decide) ?_
              refine r_iinc (w := 4) (v := x3 + 1) (lv' := [(3, .int (x3 + 1)), (2, .int (0 : Int32)), (4, .int v21), (0, va_rf x0), (1, .int x1)]) hC dX9_isForbidden_67 rfl rfl (by decide) (by first | rfl | simp [lvs1, List.filter, cat_rf, cat_i, cat_j]) ?_
              refine r_goto (tgt := 4) hC dX9_isForbidden_70 (by decide) ?_
              exact RR.wid (by decide) (by decide) (RR.sub [3, 4, 1, 0] rfl (ih _ _ _ _ _ h))
            · have h := h.2 c9
              refine r_iconst (v := 0) hC dX9_isForbidden_44 (by decide) ?_
              exact hr _ _ _ _ _ _ dX9_isForbidden_45 (by decide) (by decide) h
set_option maxRecDepth 20000 in
theorem c_X9_isForbidden (G : GG) (x0 : Nat) (x1 : Int32) (ph : PH) (Q : Int32 → PH → Prop) (X : String → PH → Prop) (h : w_X9_isForbidden x0 x1 ph Q X) : Ct G yX9_isForbidden (.code yX9_isForbidden cX9_isForbidden 5 (some (.boolean))) 2 42 0 0 [va_rf (some x0), .int x1] ph (oI Q) X := by
  refine ct_of (lv0 := [(0, va_rf (some x0)), (1, .int x1)]) (by decide +kernel) (by simp [lg_sl, cat_rf, cat_i, cat_j]) (by simp [lv_args, cat_rf, cat_i, cat_j]) ?_
  intro C A hC hAo hex hrt hnm
  have hr : HZ C (ZM C G A (oI Q) X 0 0) A G 5 cX9_isForbidden 0 0 Q := fun pc lv v ph k n d hk hn hq => e_s hC (ty := .boolean) hrt pc lv v ph k n d hk hn ⟨hq.1, v, rfl, hq.2⟩
  have hx := e_x (Q := oI Q) (X := X) (mc := 0) (ms := 0) hC hex
  have hn := e_n (Q := oI Q) (X := X) (mc := 0) (ms := 0) hC hex
  have hnw := e_nw (Q := oI Q) (X := X) (mc := 0) (ms := 0) hC hex
  have hnx := e_nx (Q := oI Q) (X := X) (mc := 0) (ms := 0) hC hex
  have hi : True := trivial
  generalize ZM C G A (oI Q) X 0 0 = Z at *
  refine r_iconst (v := 0) hC dX9_isForbidden_0 (by decide) ?_
  refine r_istore_n (i := 2) (lv' := [(2, .int (0 : Int32)), (0, va_rf (some x0)), (1, .int x1)]) hC dX9_isForbidden_1 rfl (by decide) (by first | rfl | simp [lvs1, lvs2, List.filter, cat_rf, cat_i, cat_j]) ?_
  refine r_iconst (v := 0) hC dX9_isForbidden_2 (by decide) ?_
  refine r_istore_n (i := 3) (lv' := [(3, .int (0 : Int32)), (2, .int (0 : Int32)), (0, va_rf (some x0)), (1, .int x1)]) hC dX9_isForbidden_3 rfl (by decide) (by first | rfl | simp [lvs1, lvs2, List.filter, cat_rf, cat_i, cat_j]) ?_
  obtain ⟨fu4, h⟩ := h
  exact RR.wid (by decide) (by decide) (RR.sub [2, 3, 1, 0] rfl (b_X9_isForbidden_4 hC hAo hr hx hn hnw hnx hi  fu4 _ _ _ _ _ h))
set_option maxRecDepth 20000 in
theorem b_X9_standsIn_64 {C : Cx} {Z : State → Prop} {A : Nat → Prop} {G : GG} {Q : Int32 → PH → Prop} {X : String → PH → Prop} {K28 : Option Nat → Int32 → Int32 → Int32 → Int32 → Int32 → Int32 → Int32 → Int32 → PH → Prop} (hC : CxOk RX9 cX9_standsIn 12 G A (rmk 2 42 0 0) C) (hAo : Ao (xs C)) (hr : HZ C Z A G 12 cX9_standsIn 0 0 Q) (hx : HX C Z A G 12 0 0 X) (hn : HN C Z A G 12 RX9 cX9_standsIn 0 0 (rmk 2 42 0 0) X) (hnw : HNW C Z A G 12 RX9 cX9_standsIn 0 0 (rmk 2 42 0 0) X) (hnx : HNX C Z A G 12 RX9 cX9_standsIn 0 0 (rmk 2 42 0 0) X) (hi : True) (hK28 : ∀ (x0 : Option Nat) (x1 : Int32) (x3 : Int32) (x4 : Int32) (x5 : Int32) (x6 : Int32) (x7 : Int32) (x8 : Int32) (x9 : Int32) (ph : PH), K28 x0 x1 x3 x4 x5 x6 x7 x8 x9 ph → RR C Z A G 12 28 [(0, va_rf x0), (1, .int x1), (3, .int x3), (4, .int x4), (5, .int x5), (6, .int x6), (7, .int x7), (8, .int x8), (9, .int x9)] [] ph 0 0) : ∀ (x0 : Option Nat) (x1 : Int32) (x3 : Int32) (x4 : Int32) (x5 : Int32) (x6 : Int32) (x7 : Int32) (x8 : Int32) (x9 : Int32) (s0 : Int32) (ph : PH), w_X9_standsIn_64 Q X K28 x0 x1 x3 x4 x5 x6 x7 x8 x9 s0 ph → RR C Z A G 12 64 [(0, va_rf x0), (1, .int x1), (3, .int x3), (4, .int x4), (5, .int x5), (6, .int x6), (7, .int x7), (8, .int x8), (9, .int x9)] [.int s0] ph 0 0 := by
  intro x0 x1 x3 x4 x5 x6 x7 x8 x9 s0 ph h
  refine r_istore (i := 11) (lv' := [(11, .int s0), (0, va_rf x0), (1, .int x1), (3, .int x3), (4, .int x4), (5, .int x5), (6, .int x6), (7, .int x7), (8, .int x8), (9, .int x9)]) hC dX9_standsIn_64 (by decide) (by first | rfl | simp [lvs1, lvs2, List.filter, cat_rf, cat_i, cat_j]) ?_
  refine r_iload hC dX9_standsIn_66 8 rfl ?_
  refine r_if_eq (tgt := 88) hC dX9_standsIn_68 (by decide) (fun c9 => ?_) (fun c9 => ?_)
  · have h := h.1 c9
    refine r_iconst (v := 0) hC dX9_standsIn_88 (by decide) ?_
    refine r_istore (i := 8) (lv' := [(8, .int (0 : Int32)), (11, .int s0), (0, va_rf x0), (1, .int x1), (3, .int x3), (4, .int x4), (5, .int x5), (6, .int x6), (7, .int x7), (9, .int x9)]) hC dX9_standsIn_89 (by decide) (by first | rfl | simp [lvs1, lvs2, List.filter, cat_rf, cat_i, cat_j]) ?_
    refine r_iinc (w := 9) (v := x9 + 1) (lv' := [(9, .int (x9 + 1)), (8, .int (0 : Int32)), (11, .int s0), (0, va_rf x0), (1, .int x1), (3, .int x3), (4, .int x4), (5, .int x5), (6, .int x6), (7, .int x7)]) hC dX9_standsIn_91 rfl rfl (by decide) (by first | rfl | simp [lvs1, List.filter, cat_rf, cat_i, cat_j]) ?_
    refine r_goto (tgt := 28) hC dX9_standsIn_94 (by decide) ?_
    exact RR.wid (by decide) (by decide) (RR.sub [3, 4, 5, 6, 7, 8, 9, 1, 0] rfl (hK28 _ _ _ _ _ _ _ _ _ _ h))
  · have h := h.2 c9
    refine r_aload_n hC dX9_standsIn_71 rfl 1 rfl ?_
    refine r_iload_n hC dX9_standsIn_72 rfl 2 rfl ?_
    refine r_iload hC dX9_standsIn_73 9 rfl ?_
    refine r_iadd hC dX9_standsIn_75 ?_
    obtain ⟨a76, o76, h⟩ := h
    refine r_VI hC hAo [.int (x1 + x9)] cal_X9_letterAt ml_X9_31 (ci := 10) rfl rfl rfl (c_X9_letterAt G _ _ _ _ _ h) o76 ⟨by decide, by decide⟩ ⟨by decide, by decide⟩ (by simp only [List.map_nil, List.map_cons, List.sum_nil, List.sum_cons, cat_rf, cat_i, cat_j]; decide) rfl dX9_standsIn_76 (fun E u hx9 => hx _ _ _ _ _ _ _ (by decide) (by decide) hx9) (fun v76 ph76 h => ?_)
    refine RR.wid (k' := 0) (n' := 0) (by decide) (by decide) ?_
    refine r_iload hC dX9_standsIn_79 0 rfl ?_
    refine r_icmp_ne (tgt := 88) hC dX9_standsIn_81 (by decide) (fun c9 => ?_) (fun c9 => ?_)
    · have h := h.1 c9
      refine r_iconst (v := 0) hC dX9_standsIn_88 (by decide) ?_
      refine r_istore (i := 8) (lv' := [(8, .int (0 : Int32)), (11, .int s0), (0, va_rf x0), (1, .int x1), (3, .int x3), (4, .int x4), (5, .int x5), (6, .int x6), (7, .int x7), (9, .int x9)]) hC dX9_standsIn_89 (by decide) (by first | rfl | simp [lvs1, lvs2, List.filter, cat_rf, cat_i, cat_j]) ?_
      refine r_iinc (w := 9) (v := x9 + 1) (lv' := [(9, .int (x9 + 1)), (8, .int (0 : Int32)), (11, .int s0), (0, va_rf x0), (1, .int x1), (3, .int x3), (4, .int x4), (5, .int x5), (6, .int x6), (7, .int x7)]) hC dX9_standsIn_91 rfl rfl (by decide) (by first | rfl | simp [lvs1, List.filter, cat_rf, cat_i, cat_j]) ?_
      refine r_goto (tgt := 28) hC dX9_standsIn_94 (by decide) ?_
      exact RR.wid (by decide) (by decide) (RR.sub [3, 4, 5, 6, 7, 8, 9, 1, 0] rfl (hK28 _ _ _ _ _ _ _ _ _ _ h))
    · have h := h.2 c9
      refine r_iconst (v := 1) hC dX9_standsIn_84 (by decide) ?_
      refine r_goto (tgt := 89) hC dX9_standsIn_85 (by decide) ?_
      refine r_istore (i := 8) (lv' := [(8, .int (1 : Int32)), (11, .int s0), (0, va_rf x0), (1, .int x1), (3, .int x3), (4, .int x4), (5, .int x5), (6, .int x6), (7, .int x7), (9, .int x9)]) hC dX9_standsIn_89 (by decide) (by first | rfl | simp [lvs1, lvs2, List.filter, cat_rf, cat_i, cat_j]) ?_
      refine r_iinc (w := 9) (v := x9 + 1) (lv' := [(9, .int (x9 + 1)), (8, .int (1 : Int32)), (11, .int s0), (0, va_rf x0), (1, .int x1), (3, .int x3), (4, .int x4), (5, .int x5), (6, .int x6), (7, .int x7)]) hC dX9_standsIn_91 rfl rfl (by decide) (by first | rfl | simp [lvs1, List.filter, cat_rf, cat_i, cat_j]) ?_
      refine r_goto (tgt := 28) hC dX9_standsIn_94 (by decide) ?_
      exact RR.wid (by decide) (by decide) (RR.sub [3, 4, 5, 6, 7, 8, 9, 1, 0] rfl (hK28 _ _ _ _ _ _ _ _ _ _ h))
set_option maxRecDepth 20000 in
theorem b_X9_standsIn_28 {C : Cx} {Z : State → Prop} {A : Nat → Prop} {G : GG} {Q : Int32 → PH → Prop} {X : String → PH → Prop} {K8 : Option Nat → Int32 → Int32 → Int32 → Int32 → Int32 → Int32 → PH → Prop} (hC : CxOk RX9 cX9_standsIn 12 G A (rmk 2 42 0 0) C) (hAo : Ao (xs C)) (hr : HZ C Z A G 12 cX9_standsIn 0 0 Q) (hx : HX C Z A G 12 0 0 X) (hn : HN C Z A G 12 RX9 cX9_standsIn 0 0 (rmk 2 42 0 0) X) (hnw : HNW C Z A G 12 RX9 cX9_standsIn 0 0 (rmk 2 42 0 0) X) (hnx : HNX C Z A G 12 RX9 cX9_standsIn 0 0 (rmk 2 42 0 0) X) (hi : True) (hK8 : ∀ (x0 : Option Nat) (x1 : Int32) (x3 : Int32) (x4 : Int32) (x5 : Int32) (x6 : Int32) (x7 : Int32) (ph : PH), K8 x0 x1 x3 x4 x5 x6 x7 ph → RR C Z A G 12 8 [(0, va_rf x0), (1, .int x1), (3, .int x3), (4, .int x4), (5, .int x5), (6, .int x6), (7, .int x7)] [] ph 0 0) : ∀ (fu : Nat) (x0 : Option Nat) (x1 : Int32) (x3 : Int32) (x4 : Int32) (x5 : Int32) (x6 : Int32) (x7 : Int32) (x8 : Int32) (x9 : Int32) (ph : PH), w_X9_standsIn_28 Q X K8 fu x0 x1 x3 x4 x5 x6 x7 x8 x9 ph → RR C Z A G 12 28 [(0, va_rf x0), (1, .int x1), (3, .int x3), (4, .int x4), (5, .int x5), (6, .int x6), (7, .int x7), (8, .int x8), (9, .int x9)] [] ph 0 0 := by
  intro fu
  induction fu with
  | zero => intro x0 x1 x3 x4 x5 x6 x7 x8 x9 ph h; exact h.elim
  | succ fu ih =>
    intro x0 x1 x3 x4 x5 x6 x7 x8 x9 ph h
    refine r_iload hC dX9_standsIn_28 8 rfl ?_
    refine r_iload hC dX9_standsIn_30 5 rfl ?_
    refine r_icmp_ge (tgt := 97) hC dX9_standsIn_32 (by decide) (fun c9 => ?_) (fun c9 => ?_)
    · have h := h.1 c9
      refine r_iload hC dX9_standsIn_97 7 rfl ?_
      refine r_if_eq (tgt := 104) hC dX9_standsIn_99 (by decide) (fun c9 => ?_) (fun c9 => ?_)
      · have h := h.1 c9
        refine r_iinc (w := 6) (v := x7 + 1) (lv' := [(7, .int (x7 + 1)), (0, va_rf x0), (1, .int x1), (3, .int x3), (4, .int x4), (5, .int x5), (6, .int x6), (8, .int x8), (9, .int x9)]) hC dX9_standsIn_104 rfl rfl (by decide) (by first | rfl | simp [lvs1, List.filter, cat_rf, cat_i, cat_j]) ?_
        refine r_goto (tgt := 8) hC dX9_standsIn_107 (by decide) ?_
        exact RR.wid (by decide) (by decide) (RR.sub [1, 2, 3, 4, 5, 6, 0] rfl (hK8 _ _ _ _ _ _ _ _ h))
      · have h := h.2 c9
        refine r_iconst (v := 1) hC dX9_standsIn_102 (by decide) ?_
        exact hr _ _ _ _ _ _ dX9_standsIn_103 (by decide) (by decide) h
    · have h := h.2 c9
      refine r_iload hC dX9_standsIn_35 6 rfl ?_
      refine r_iload hC dX9_standsIn_37 8 rfl ?_
      refine r_iadd hC dX9_standsIn_39 ?_
      obtain ⟨v40, ev40⟩ : ∃ z : Int32, z = x7 + x9 := ⟨_, rfl⟩
      have h := h v40 ev40
      refine RR.to (st' := [.int v40]) (by rw [ev40]) ?_
      refine r_istore (i := 10) (lv' := [(10, .int v40), (0, va_rf x0), (1, .int x1), (3, .int x3), (4, .int x4), (5, .int x5), (6, .int x6), (7, .int x7), (8, .int x8), (9, .int x9)]) hC dX9_standsIn_40 (by decide) (by first | rfl | simp [lvs1, lvs2, List.filter, cat_rf, cat_i, cat_j]) ?_
      refine r_iload hC dX9_standsIn_42 0 rfl ?_
      refine r_if_ne (tgt := 51) hC dX9_standsIn_44 (by decide) (fun c9 => ?_) (fun c9 => ?_)
      · have h := h.1 c9
        refine r_iload hC dX9_standsIn_51 0 rfl ?_
        refine r_iconst (v := 1) hC dX9_standsIn_53 (by decide) ?_
        refine r_icmp_ne (tgt := 62) hC dX9_standsIn_54 (by decide) (fun c9 => ?_) (fun c9 => ?_)
        · have h := h.1 c9
          refine r_iload hC dX9_standsIn_62 5 rfl ?_
          have k64_28 : ∀ (x0 : Option Nat) (x1 : Int32) (x3 : Int32) (x4 : Int32) (x5 : Int32) (x6 : Int32) (x7 : Int32) (x8 : Int32) (x9 : Int32) (ph : PH), w_X9_standsIn_28 Q X K8 fu x0 x1 x3 x4 x5 x6 x7 x8 x9 ph → RR C Z A G 12 28 [(0, va_rf x0), (1, .int x1), (3, .int x3), (4, .int x4), (5, .int x5), (6, .int x6), (7, .int x7), (8, .int x8), (9, .int x9)] [] ph 0 0 := by
            intro x0 x1 x3 x4 x5 x6 x7 x8 x9 ph h
            exact RR.wid (by decide) (by decide) (RR.sub [0, 1, 2, 3, 4, 5, 6, 7, 8] rfl (ih _ _ _ _ _ _ _ _ _ _ h))
          exact RR.wid (by decide) (by decide) (RR.sub [1, 2, 3, 4, 5, 6, 7, 8, 9] rfl (b_X9_standsIn_64 hC hAo hr hx hn hnw hnx hi k64_28 _ _ _ _ _ _ _ _ _ _ _ h))
        · have h := h.2 c9
          refine r_iload hC dX9_standsIn_57 4 rfl ?_
          refine r_goto (tgt := 64) hC dX9_standsIn_59 (by decide) ?_
          have k64_28 : ∀ (x0 : Option Nat) (x1 : Int32) (x3 : Int32) (x4 : Int32) (x5 : Int32) (x6 : Int32) (x7 : Int32) (x8 : Int32) (x9 : Int32) (ph : PH), w_X9_standsIn_28 Q X K8 fu x0 x1 x3 x4 x5 x6 x7 x8 x9 ph → RR C Z A G 12 28 [(0, va_rf x0), (1, .int x1), (3, .int x3), (4, .int x4), (5, .int x5), (6, .int x6), (7, .int x7), (8, .int x8), (9, .int x9)] [] ph 0 0 := by
            intro x0 x1 x3 x4 x5 x6 x7 x8 x9 ph h
            exact RR.wid (by decide) (by decide) (RR.sub [0, 1, 2, 3, 4, 5, 6, 7, 8] rfl (ih _ _ _ _ _ _ _ _ _ _ h))
          exact RR.wid (by decide) (by decide) (RR.sub [1, 2, 3, 4, 5, 6, 7, 8, 9] rfl (b_X9_standsIn_64 hC hAo hr hx hn hnw hnx hi k64_28 _ _ _ _ _ _ _ _ _ _ _ h))
      · have h := h.2 c9
        refine r_iload_n hC dX9_standsIn_47 rfl 3 rfl ?_
        refine r_goto (tgt := 64) hC dX9_standsIn_48 (by decide) ?_
        have k64_28 : ∀ (x0 : Option Nat) (x1 : Int32) (x3 : Int32) (x4 : Int32) (x5 : Int32) (x6 : Int32) (x7 : Int32) (x8 : Int32) (x9 : Int32) (ph : PH), w_X9_standsIn_28 Q X K8 fu x0 x1 x3 x4 x5 x6 x7 x8 x9 ph → RR C Z A G 12 28 [(0, va_rf x0), (1, .int x1), (3, .int x3), (4, .int x4), (5, .int x5), (6, .int x6), (7, .int x7), (8, .int x8), (9, .int x9)] [] ph 0 0 := by
          intro x0 x1 x3 x4 x5 x6 x7 x8 x9 ph h
          exact RR.wid (by decide) (by decide) (RR.sub [0, 1, 2, 3, 4, 5, 6, 7, 8] rfl (ih _ _ _ _ _ _ _ _ _ _ h))
        exact RR.wid (by decide) (by decide) (RR.sub [1, 2, 3, 4, 5, 6, 7, 8, 9] rfl (b_X9_standsIn_64 hC hAo hr hx hn hnw hnx hi k64_28 _ _ _ _ _ _ _ _ _ _ _ h))
set_option maxRecDepth 20000 in
theorem b_X9_standsIn_8 {C : Cx} {Z : State → Prop} {A : Nat → Prop} {G : GG} {Q : Int32 → PH → Prop} {X : String → PH → Prop} (hC : CxOk RX9 cX9_standsIn 12 G A (rmk 2 42 0 0) C) (hAo : Ao (xs C)) (hr : HZ C Z A G 12 cX9_standsIn 0 0 Q) (hx : HX C Z A G 12 0 0 X) (hn : HN C Z A G 12 RX9 cX9_standsIn 0 0 (rmk 2 42 0 0) X) (hnw : HNW C Z A G 12 RX9 cX9_standsIn 0 0 (rmk 2 42 0 0) X) (hnx : HNX C Z A G 12 RX9 cX9_standsIn 0 0 (rmk 2 42 0 0) X) (hi : True) : ∀ (fu : Nat) (x0 : Option Nat) (x1 : Int32) (x3 : Int32) (x4 : Int32) (x5 : Int32) (x6 : Int32) (x7 : Int32) (ph : PH), w_X9_standsIn_8 Q X fu x0 x1 x3 x4 x5 x6 x7 ph → RR C Z A G 12 8 [(0, va_rf x0), (1, .int x1), (3, .int x3), (4, .int x4), (5, .int x5), (6, .int x6), (7, .int x7)] [] ph 0 0 := by
  intro fu
  induction fu with
  | zero => intro x0 x1 x3 x4 x5 x6 x7 ph h; exact h.elim
  | succ fu ih =>
    intro x0 x1 x3 x4 x5 x6 x7 ph h
    refine r_iload hC dX9_standsIn_8 5 rfl ?_
    refine r_if_le (tgt := 110) hC dX9_standsIn_10 (by decide) (fun c9 => ?_) (fun c9 => ?_)
    · have h := h.1 c9
      refine r_iconst (v := 0) hC dX9_standsIn_110 (by decide) ?_
      exact hr _ _ _ _ _ _ dX9_standsIn_111 (by decide) (by decide) h
    · have h := h.2 c9
      refine r_iload hC dX9_standsIn_13 6 rfl ?_
      refine r_iload hC dX9_standsIn_15 5 rfl ?_
      refine r_iadd hC dX9_standsIn_17 ?_
      refine r_iconst (v := 3) hC dX9_standsIn_18 (by decide) ?_
      refine r_icmp_gt (tgt := 110) hC dX9_standsIn_19 (by decide) (fun c9 => ?_) (fun c9 => ?_)
      · have h := h.1 c9
        refine r_iconst (v := 0) hC dX9_standsIn_110 (by decide) ?_
        exact hr _ _ _ _ _ _ dX9_standsIn_111 (by decide) (by decide) h
      · have h := h.2 c9
        refine r_iconst (v := 1) hC dX9_standsIn_22 (by decide) ?_
        refine r_istore (i := 8) (lv' := [(8, .int (1 : Int32)), (0, va_rf x0), (1, .int x1), (3, .int x3), (4, .int x4), (5, .int x5), (6, .int x6), (7, .int x7)]) hC dX9_standsIn_23 (by decide) (by first | rfl | simp [lvs1, lvs2, List.filter, cat_rf, cat_i, cat_j]) ?_
        refine r_iconst (v := 0) hC dX9_standsIn_25 (by decide) ?_
        refine r_istore (i := 9) (lv' := [(9, .int (0 : Int32)), (8, .int (1 : Int32)), (0, va_rf x0), (1, .int x1), (3, .int x3), (4, .int x4), (5, .int x5), (6, .int x6), (7, .int x7)]) hC dX9_standsIn_26 (by decide) (by first | rfl | simp [lvs1, lvs2, List.filter, cat_rf, cat_i, cat_j]) ?_
        have k28_8 : ∀ (x0 : Option Nat) (x1 : Int32) (x3 : Int32) (x4 : Int32) (x5 : Int32) (x6 : Int32) (x7 : Int32) (ph : PH), w_X9_standsIn_8 Q X fu x0 x1 x3 x4 x5 x6 x7 ph → RR C Z A G 12 8 [(0, va_rf x0), (1, .int x1), (3, .int x3), (4, .int x4), (5, .int x5), (6, .int x6), (7, .int x7)] [] ph 0 0 := by
          intro x0 x1 x3 x4 x5 x6 x7 ph h
          exact RR.wid (by decide) (by decide) (RR.sub [0, 1, 2, 3, 4, 5, 6] rfl (ih _ _ _ _ _ _ _ _ h))
        obtain ⟨fu28, h⟩ := h
        exact RR.wid (by decide) (by decide) (RR.sub [2, 3, 4, 5, 6, 7, 8, 1, 0] rfl (b_X9_standsIn_28 hC hAo hr hx hn hnw hnx hi k28_8 fu28 _ _ _ _ _ _ _ _ _ _ h))
set_option maxRecDepth 20000 in
theorem c_X9_standsIn (G : GG) (x0 : Nat) (x1 : Int32) (x2 : Int32) (x3 : Int32) (x4 : Int32) (x5 : Int32) (ph : PH) (Q : Int32 → PH → Prop) (X : String → PH → Prop) (h : w_X9_standsIn x0 x1 x2 x3 x4 x5 ph Q X) : Ct G yX9_standsIn (.code yX9_standsIn cX9_standsIn 12 (some (.boolean))) 2 42 0 0 [va_rf (some x0), .int x1, .int x2, .int x3, .int x4, .int x5] ph (oI Q) X := by
  refine ct_of (lv0 := [(0, va_rf (some x0)), (1, .int x1), (2, .int x2), (3, .int x3), (4, .int x4), (5, .int x5)]) (by decide +kernel) (by simp [lg_sl, cat_rf, cat_i, cat_j]) (by simp [lv_args, cat_rf, cat_i, cat_j]) ?_
  intro C A hC hAo hex hrt hnm
  have hr : HZ C (ZM C G A (oI Q) X 0 0) A G 12 cX9_standsIn 0 0 Q := fun pc lv v ph k n d hk hn hq => e_s hC (ty := .boolean) hrt pc lv v ph k n d hk hn ⟨hq.1, v, rfl, hq.2⟩
  have hx := e_x (Q := oI Q) (X := X) (mc := 0) (ms := 0) hC hex
  have hn := e_n (Q := oI Q) (X := X) (mc := 0) (ms := 0) hC hex
  have hnw := e_nw (Q := oI Q) (X := X) (mc := 0) (ms := 0) hC hex
  have hnx := e_nx (Q := oI Q) (X := X) (mc := 0) (ms := 0) hC hex
  have hi : True := trivial
  generalize ZM C G A (oI Q) X 0 0 = Z at *
  refine r_iload_n hC dX9_standsIn_0 rfl 2 rfl ?_
  refine r_iload_n hC dX9_standsIn_1 rfl 1 rfl ?_
  refine r_isub hC dX9_standsIn_2 ?_
  obtain ⟨v3, ev3⟩ : ∃ z : Int32, z = x2 - x1 := ⟨_, rfl⟩
  have h := h v3 ev3
  refine RR.to (st' := [.int v3]) (by rw [ev3]) ?_
  refine r_istore (i := 6) (lv' := [(6, .int v3), (0, va_rf (some x0)), (1, .int x1), (2, .int x2), (3, .int x3), (4, .int x4), (5, .int x5)]) hC dX9_standsIn_3 (by decide) (by first | rfl | simp [lvs1, lvs2, List.filter, cat_rf, cat_i, cat_j]) ?_
  refine r_iconst (v := 0) hC dX9_standsIn_5 (by decide) ?_
  refine r_istore (i := 7) (lv' := [(7, .int (0 : Int32)), (6, .int v3), (0, va_rf (some x0)), (1, .int x1), (2, .int x2), (3, .int x3), (4, .int x4), (5, .int x5)]) hC dX9_standsIn_6 (by decide) (by first | rfl | simp [lvs1, lvs2, List.filter, cat_rf, cat_i, cat_j]) ?_
  obtain ⟨fu8, h⟩ := h
  exact RR.wid (by decide) (by decide) (RR.sub [2, 3, 5, 6, 7, 1, 0] rfl (b_X9_standsIn_8 hC hAo hr hx hn hnw hnx hi  fu8 _ _ _ _ _ _ _ _ h))
set_option maxRecDepth 20000 in
theorem b_X9_bars_6 {C : Cx} {Z : State → Prop} {A : Nat → Prop} {G : GG} {Q : Int32 → PH → Prop} {X : String → PH → Prop} (hC : CxOk RX9 cX9_bars 6 G A (rmk 3 73 0 0) C) (hAo : Ao (xs C)) (hr : HZ C Z A G 6 cX9_bars 0 0 Q) (hx : HX C Z A G 6 0 0 X) (hn : HN C Z A G 6 RX9 cX9_bars 0 0 (rmk 3 73 0 0) X) (hnw : HNW C Z A G 6 RX9 cX9_bars 0 0 (rmk 3 73 0 0) X) (hnx : HNX C Z A G 6 RX9 cX9_bars 0 0 (rmk 3 73 0 0) X) (hi : True) : ∀ (fu : Nat) (x0 : Option Nat) (x1 : Int32) (x2 : Int32) (x3 : Int32) (x4 : Int32) (x5 : Int32) (ph : PH), w_X9_bars_6 Q X fu x0 x1 x2 x3 x4 x5 ph → RR C Z A G 6 6 [(0, va_rf x0), (1, .int x1), (2, .int x2), (3, .int x3), (4, .int x4), (5, .int x5)] [] ph 0 0 := by
  intro fu
  induction fu with
  | zero => intro x0 x1 x2 x3 x4 x5 ph h; exact h.elim
  | succ fu ih =>
    intro x0 x1 x2 x3 x4 x5 ph h
    refine r_iload hC dX9_bars_6 5 rfl ?_
    refine r_aload_n hC dX9_bars_8 rfl 0 rfl ?_
    obtain ⟨v9, g9, h⟩ := h
    refine r_get hC (ci := 10) (kf := 1) (N := 2) (Cn := RX9) (T := TX9) rfl (by decide) tin_X9 fl_X9_19 rfl dX9_bars_9 g9 ?_
    refine r_icmp_gt (tgt := 52) hC dX9_bars_12 (by decide) (fun c9 => ?_) (fun c9 => ?_)
    · have h := h.1 c9
      refine r_iconst (v := 0) hC dX9_bars_52 (by decide) ?_
      exact hr _ _ _ _ _ _ dX9_bars_53 (by decide) (by decide) h
    · have h := h.2 c9
      refine r_aload_n hC dX9_bars_15 rfl 0 rfl ?_
      refine r_iload hC dX9_bars_16 5 rfl ?_
      obtain ⟨a18, o18, h⟩ := h
      refine r_VI hC hAo [.int x5] cal_X9_endsWord ml_X9_35 (ci := 10) rfl rfl rfl (c_X9_endsWord G _ _ _ _ _ h) o18 ⟨by decide, by decide⟩ ⟨by decide, by decide⟩ (by simp only [List.map_nil, List.map_cons, List.sum_nil, List.sum_cons, cat_rf, cat_i, cat_j]; decide) rfl dX9_bars_18 (fun E u hx9 => hx _ _ _ _ _ _ _ (by decide) (by decide) hx9) (fun v18 ph18 h => ?_)
      refine RR.wid (k' := 0) (n' := 0) (by decide) (by decide) ?_
      refine r_if_eq (tgt := 46) hC dX9_bars_21 (by decide) (fun c9 => ?_) (fun c9 => ?_)
      · have h := h.1 c9
        refine r_iinc (w := 5) (v := x5 + 1) (lv' := [(5, .int (x5 + 1)), (0, va_rf x0), (1, .int x1), (2, .int x2), (3, .int x3), (4, .int x4)]) hC dX9_bars_46 rfl rfl (by decide) (by first | rfl | simp [lvs1, List.filter, cat_rf, cat_i, cat_j]) ?_
        refine r_goto (tgt := 6) hC dX9_bars_49 (by decide) ?_
        exact RR.wid (by decide) (by decide) (RR.sub [1, 2, 3, 4, 5, 0] rfl (ih _ _ _ _ _ _ _ h))
      · have h := h.2 c9
        refine r_aload_n hC dX9_bars_24 rfl 0 rfl ?_
        refine r_iload hC dX9_bars_25 4 rfl ?_
        refine r_iload hC dX9_bars_27 5 rfl ?_
        refine r_iload_n hC dX9_bars_29 rfl 1 rfl ?_
        refine r_iload_n hC dX9_bars_30 rfl 2 rfl ?_
        refine r_iload_n hC dX9_bars_31 rfl 3 rfl ?_
        obtain ⟨a32, o32, h⟩ := h
        refine r_VI hC hAo [.int x4, .int x5, .int x1, .int x2, .int x3] cal_X9_standsIn ml_X9_39 (ci := 10) rfl rfl rfl (c_X9_standsIn G _ _ _ _ _ _ _ _ _ h) o32 ⟨by decide, by decide⟩ ⟨by decide, by decide⟩ (by simp only [List.map_nil, List.map_cons, List.sum_nil, List.sum_cons, cat_rf, cat_i, cat_j]; decide) rfl dX9_bars_32 (fun E u hx9 => hx _ _ _ _ _ _ _ (by decide) (by decide) hx9) (fun v32 ph32 h => ?_)
        refine RR.wid (k' := 0) (n' := 0) (by decide) (by decide) ?_
        refine r_if_eq (tgt := 40) hC dX9_bars_35 (by decide) (fun c9 => ?_) (fun c9 => ?_)
        · have h := h.1 c9
          refine r_iload hC dX9_bars_40 5 rfl ?_
          refine r_iconst (v := 1) hC dX9_bars_42 (by decide) ?_
          refine r_iadd hC dX9_bars_43 ?_
          obtain ⟨v44, ev44⟩ : ∃ z : Int32, z = x5 + (1 : Int32) := ⟨_, rfl⟩
          have h := h v44 ev44
          refine RR.to (st' := [.int v44]) (by rw [ev44]) ?_
          refine r_istore (i := 4) (lv' := [(4, .int v44), (0, va_rf x0), (1, .int x1), (2, .int x2), (3, .int x3), (5, .int x5)]) hC dX9_bars_44 (by decide) (by first | rfl | simp [lvs1, lvs2, List.filter, cat_rf, cat_i, cat_j]) ?_
          refine r_iinc (w := 5) (v := x5 + 1) (lv' := [(5, .int (x5 + 1)), (4, .int v44), (0, va_rf x0), (1, .int x1), (2, .int x2), (3, .int x3)]) hC dX9_bars_46 rfl rfl (by decide) (by first | rfl | simp [lvs1, List.filter, cat_rf, cat_i, cat_j]) ?_
          refine r_goto (tgt := 6) hC dX9_bars_49 (by decide) ?_
          exact RR.wid (by decide) (by decide) (RR.sub [2, 3, 4, 5, 1, 0] rfl (ih _ _ _ _ _ _ _ h))
        · have h := h.2 c9
          refine r_iconst (v := 1) hC dX9_bars_38 (by decide) ?_
          exact hr _ _ _ _ _ _ dX9_bars_39 (by decide) (by decide) h
set_option maxRecDepth 20000 in
theorem c_X9_bars (G : GG) (x0 : Nat) (x1 : Int32) (x2 : Int32) (x3 : Int32) (ph : PH) (Q : Int32 → PH → Prop) (X : String → PH → Prop) (h : w_X9_bars x0 x1 x2 x3 ph Q X) : Ct G yX9_bars (.code yX9_bars cX9_bars 6 (some (.boolean))) 3 73 0 0 [va_rf (some x0), .int x1, .int x2, .int x3] ph (oI Q) X := by
  refine ct_of (lv0 := [(0, va_rf (some x0)), (1, .int x1), (2, .int x2), (3, .int x3)]) (by decide +kernel) (by simp [lg_sl, cat_rf, cat_i, cat_j]) (by simp [lv_args, cat_rf, cat_i, cat_j]) ?_
  intro C A hC hAo hex hrt hnm
  have hr : HZ C (ZM C G A (oI Q) X 0 0) A G 6 cX9_bars 0 0 Q := fun pc lv v ph k n d hk hn hq => e_s hC (ty := .boolean) hrt pc lv v ph k n d hk hn ⟨hq.1, v, rfl, hq.2⟩
  have hx := e_x (Q := oI Q) (X := X) (mc := 0) (ms := 0) hC hex
  have hn := e_n (Q := oI Q) (X := X) (mc := 0) (ms := 0) hC hex
  have hnw := e_nw (Q := oI Q) (X := X) (mc := 0) (ms := 0) hC hex
  have hnx := e_nx (Q := oI Q) (X := X) (mc := 0) (ms := 0) hC hex
  have hi : True := trivial
  generalize ZM C G A (oI Q) X 0 0 = Z at *
  refine r_iconst (v := 0) hC dX9_bars_0 (by decide) ?_
  refine r_istore (i := 4) (lv' := [(4, .int (0 : Int32)), (0, va_rf (some x0)), (1, .int x1), (2, .int x2), (3, .int x3)]) hC dX9_bars_1 (by decide) (by first | rfl | simp [lvs1, lvs2, List.filter, cat_rf, cat_i, cat_j]) ?_
  refine r_iconst (v := 0) hC dX9_bars_3 (by decide) ?_
  refine r_istore (i := 5) (lv' := [(5, .int (0 : Int32)), (4, .int (0 : Int32)), (0, va_rf (some x0)), (1, .int x1), (2, .int x2), (3, .int x3)]) hC dX9_bars_4 (by decide) (by first | rfl | simp [lvs1, lvs2, List.filter, cat_rf, cat_i, cat_j]) ?_
  obtain ⟨fu6, h⟩ := h
  exact RR.wid (by decide) (by decide) (RR.sub [2, 3, 4, 5, 1, 0] rfl (b_X9_bars_6 hC hAo hr hx hn hnw hnx hi  fu6 _ _ _ _ _ _ _ h))
set_option maxRecDepth 20000 in
theorem b_X5_byForbidden_70 {C : Cx} {Z : State → Prop} {A : Nat → Prop} {G : GG} {Q : Option Nat → PH → Prop} {X : String → PH → Prop} {K31 : Option Nat → Int32 → Option Nat → Int32 → Int32 → Int32 → PH → Prop} (hC : CxOk RX5 cX5_byForbidden 6 G A (rmk 4 98 2 75) C) (hAo : Ao (xs C)) (hr : HA C Z A G 6 cX5_byForbidden 2 75 Q) (hx : HX C Z A G 6 2 75 X) (hn : HN C Z A G 6 RX5 cX5_byForbidden 2 75 (rmk 4 98 2 75) X) (hnw : HNW C Z A G 6 RX5 cX5_byForbidden 2 75 (rmk 4 98 2 75) X) (hnx : HNX C Z A G 6 RX5 cX5_byForbidden 2 75 (rmk 4 98 2 75) X) (hi : True) (hK31 : ∀ (x0 : Option Nat) (x1 : Int32) (x2 : Option Nat) (x3 : Int32) (x4 : Int32) (x5 : Int32) (ph : PH), K31 x0 x1 x2 x3 x4 x5 ph → RR C Z A G 6 31 [(0, va_rf x0), (1, .int x1), (2, va_rf x2), (3, .int x3), (4, .int x4), (5, .int x5)] [] ph 2 75) : ∀ (x0 : Option Nat) (x1 : Int32) (x2 : Option Nat) (x3 : Int32) (x4 : Int32) (x5 : Int32) (s0 : Int32) (s1 : Int32) (s2 : Int32) (s3 : Int32) (s4 : Option Nat) (ph : PH), w_X5_byForbidden_70 Q X K31 x0 x1 x2 x3 x4 x5 s0 s1 s2 s3 s4 ph → RR C Z A G 6 70 [(0, va_rf x0), (1, .int x1), (2, va_rf x2), (3, .int x3), (4, .int x4), (5, .int x5)] [.int s0, .int s1, .int s2, .int s3, va_rf s4] ph 2 75 := by
  intro x0 x1 x2 x3 x4 x5 s0 s1 s2 s3 s4 ph h
  obtain ⟨a70, o70, h⟩ := h
  refine r_VV hC hAo [.int s3, .int s2, .int s1, .int s0] cal_X3_tell ml_X5_20 (ci := 6) rfl rfl rfl (c_X3_tell G _ _ _ _ _ _ _ _ h) o70 ⟨by decide, by decide⟩ ⟨by decide, by decide⟩ (by simp only [List.map_nil, List.map_cons, List.sum_nil, List.sum_cons, cat_rf, cat_i, cat_j]; decide) rfl dX5_byForbidden_70 (fun E u hx9 => hx _ _ _ _ _ _ _ (by decide) (by decide) hx9) (fun ph70 h => ?_)
  refine RR.wid (k' := 2) (n' := 75) (by decide) (by decide) ?_
  refine r_iinc (w := 5) (v := x5 + 1) (lv' := [(5, .int (x5 + 1)), (0, va_rf x0), (1, .int x1), (2, va_rf x2), (3, .int x3), (4, .int x4)]) hC dX5_byForbidden_73 rfl rfl (by decide) (by first | rfl | simp [lvs1, List.filter, cat_rf, cat_i, cat_j]) ?_
  refine r_goto (tgt := 31) hC dX5_byForbidden_76 (by decide) ?_
  exact RR.wid (by decide) (by decide) (RR.sub [1, 2, 3, 4, 5, 0] rfl (hK31 _ _ _ _ _ _ _ h))
set_option maxRecDepth 20000 in
theorem b_X5_byForbidden_31 {C : Cx} {Z : State → Prop} {A : Nat → Prop} {G : GG} {Q : Option Nat → PH → Prop} {X : String → PH → Prop} {K22 : Option Nat → Int32 → Option Nat → Int32 → Int32 → PH → Prop} (hC : CxOk RX5 cX5_byForbidden 6 G A (rmk 4 98 2 75) C) (hAo : Ao (xs C)) (hr : HA C Z A G 6 cX5_byForbidden 2 75 Q) (hx : HX C Z A G 6 2 75 X) (hn : HN C Z A G 6 RX5 cX5_byForbidden 2 75 (rmk 4 98 2 75) X) (hnw : HNW C Z A G 6 RX5 cX5_byForbidden 2 75 (rmk 4 98 2 75) X) (hnx : HNX C Z A G 6 RX5 cX5_byForbidden 2 75 (rmk 4 98 2 75) X) (hi : True) (hK22 : ∀ (x0 : Option Nat) (x1 : Int32) (x2 : Option Nat) (x3 : Int32) (x4 : Int32) (ph : PH), K22 x0 x1 x2 x3 x4 ph → RR C Z A G 6 22 [(0, va_rf x0), (1, .int x1), (2, va_rf x2), (3, .int x3), (4, .int x4)] [] ph 2 75) : ∀ (fu : Nat) (x0 : Option Nat) (x1 : Int32) (x2 : Option Nat) (x3 : Int32) (x4 : Int32) (x5 : Int32) (ph : PH), w_X5_byForbidden_31 Q X K22 fu x0 x1 x2 x3 x4 x5 ph → RR C Z A G 6 31 [(0, va_rf x0), (1, .int x1), (2, va_rf x2), (3, .int x3), (4, .int x4), (5, .int x5)] [] ph 2 75 := by
  intro fu
  induction fu with
  | zero => intro x0 x1 x2 x3 x4 x5 ph h; exact h.elim
  | succ fu ih =>
    intro x0 x1 x2 x3 x4 x5 ph h
    refine r_iload hC dX5_byForbidden_31 5 rfl ?_
    refine r_iload_n hC dX5_byForbidden_33 rfl 1 rfl ?_
    refine r_icmp_ge (tgt := 79) hC dX5_byForbidden_34 (by decide) (fun c9 => ?_) (fun c9 => ?_)
    · have h := h.1 c9
      refine r_iinc (w := 4) (v := x4 + 1) (lv' := [(4, .int (x4 + 1)), (0, va_rf x0), (1, .int x1), (2, va_rf x2), (3, .int x3), (5, .int x5)]) hC dX5_byForbidden_79 rfl rfl (by decide) (by first | rfl | simp [lvs1, List.filter, cat_rf, cat_i, cat_j]) ?_
      refine r_goto (tgt := 22) hC dX5_byForbidden_82 (by decide) ?_
      exact RR.wid (by decide) (by decide) (RR.sub [1, 2, 3, 4, 0] rfl (hK22 _ _ _ _ _ _ h))
    · have h := h.2 c9
      refine r_aload_n hC dX5_byForbidden_37 rfl 2 rfl ?_
      refine r_iload_n hC dX5_byForbidden_38 rfl 1 rfl ?_
      refine r_iload_n hC dX5_byForbidden_39 rfl 3 rfl ?_
      refine r_imul hC dX5_byForbidden_40 ?_
      refine r_iload hC dX5_byForbidden_41 4 rfl ?_
      refine r_iadd hC dX5_byForbidden_43 ?_
      refine r_iload hC dX5_byForbidden_44 5 rfl ?_
      refine r_iload_n hC dX5_byForbidden_46 rfl 1 rfl ?_
      refine r_iload hC dX5_byForbidden_47 4 rfl ?_
      refine r_imul hC dX5_byForbidden_49 ?_
      refine r_iload hC dX5_byForbidden_50 5 rfl ?_
      refine r_iadd hC dX5_byForbidden_52 ?_
      refine r_aload_n hC dX5_byForbidden_53 rfl 0 rfl ?_
      refine r_iload_n hC dX5_byForbidden_54 rfl 3 rfl ?_
      refine r_iload hC dX5_byForbidden_55 4 rfl ?_
      refine r_iload hC dX5_byForbidden_57 5 rfl ?_
      obtain ⟨a59, o59, h⟩ := h
      refine r_VI hC hAo [.int x3, .int x4, .int x5] cal_X9_bars ml_X5_14 (ci := 10) rfl rfl rfl (c_X9_bars G _ _ _ _ _ _ _ h) o59 ⟨by decide, by decide⟩ ⟨by decide, by decide⟩ (by simp only [List.map_nil, List.map_cons, List.sum_nil, List.sum_cons, cat_rf, cat_i, cat_j]; decide) rfl dX5_byForbidden_59 (fun E u hx9 => hx _ _ _ _ _ _ _ (by decide) (by decide) hx9) (fun v59 ph59 h => ?_)
      refine RR.wid (k' := 2) (n' := 75) (by decide) (by decide) ?_
      refine r_if_ne (tgt := 69) hC dX5_byForbidden_62 (by decide) (fun c9 => ?_) (fun c9 => ?_)
      · have h := h.1 c9
        refine r_iconst (v := 0) hC dX5_byForbidden_69 (by decide) ?_
        have k70_31 : ∀ (x0 : Option Nat) (x1 : Int32) (x2 : Option Nat) (x3 : Int32) (x4 : Int32) (x5 : Int32) (ph : PH), w_X5_byForbidden_31 Q X K22 fu x0 x1 x2 x3 x4 x5 ph → RR C Z A G 6 31 [(0, va_rf x0), (1, .int x1), (2, va_rf x2), (3, .int x3), (4, .int x4), (5, .int x5)] [] ph 2 75 := by
          intro x0 x1 x2 x3 x4 x5 ph h
          exact RR.wid (by decide) (by decide) (RR.sub [0, 1, 2, 3, 4, 5] rfl (ih _ _ _ _ _ _ _ h))
        exact RR.wid (by decide) (by decide) (RR.sub [0, 1, 2, 3, 4, 5] rfl (b_X5_byForbidden_70 hC hAo hr hx hn hnw hnx hi k70_31 _ _ _ _ _ _ _ _ _ _ _ _ h))
      · have h := h.2 c9
        refine r_iconst (v := 1) hC dX5_byForbidden_65 (by decide) ?_
        refine r_goto (tgt := 70) hC dX5_byForbidden_66 (by decide) ?_
        have k70_31 : ∀ (x0 : Option Nat) (x1 : Int32) (x2 : Option Nat) (x3 : Int32) (x4 : Int32) (x5 : Int32) (ph : PH), w_X5_byForbidden_31 Q X K22 fu x0 x1 x2 x3 x4 x5 ph → RR C Z A G 6 31 [(0, va_rf x0), (1, .int x1), (2, va_rf x2), (3, .int x3), (4, .int x4), (5, .int x5)] [] ph 2 75 := by
          intro x0 x1 x2 x3 x4 x5 ph h
          exact RR.wid (by decide) (by decide) (RR.sub [0, 1, 2, 3, 4, 5] rfl (ih _ _ _ _ _ _ _ h))
        exact RR.wid (by decide) (by decide) (RR.sub [0, 1, 2, 3, 4, 5] rfl (b_X5_byForbidden_70 hC hAo hr hx hn hnw hnx hi k70_31 _ _ _ _ _ _ _ _ _ _ _ _ h))
set_option maxRecDepth 20000 in
theorem b_X5_byForbidden_22 {C : Cx} {Z : State → Prop} {A : Nat → Prop} {G : GG} {Q : Option Nat → PH → Prop} {X : String → PH → Prop} {K14 : Option Nat → Int32 → Option Nat → Int32 → PH → Prop} (hC : CxOk RX5 cX5_byForbidden 6 G A (rmk 4 98 2 75) C) (hAo : Ao (xs C)) (hr : HA C Z A G 6 cX5_byForbidden 2 75 Q) (hx : HX C Z A G 6 2 75 X) (hn : HN C Z A G 6 RX5 cX5_byForbidden 2 75 (rmk 4 98 2 75) X) (hnw : HNW C Z A G 6 RX5 cX5_byForbidden 2 75 (rmk 4 98 2 75) X) (hnx : HNX C Z A G 6 RX5 cX5_byForbidden 2 75 (rmk 4 98 2 75) X) (hi : True) (hK14 : ∀ (x0 : Option Nat) (x1 : Int32) (x2 : Option Nat) (x3 : Int32) (ph : PH), K14 x0 x1 x2 x3 ph → RR C Z A G 6 14 [(0, va_rf x0), (1, .int x1), (2, va_rf x2), (3, .int x3)] [] ph 2 75) : ∀ (fu : Nat) (x0 : Option Nat) (x1 : Int32) (x2 : Option Nat) (x3 : Int32) (x4 : Int32) (ph : PH), w_X5_byForbidden_22 Q X K14 fu x0 x1 x2 x3 x4 ph → RR C Z A G 6 22 [(0, va_rf x0), (1, .int x1), (2, va_rf x2), (3, .int x3), (4, .int x4)] [] ph 2 75 := by
  intro fu
  induction fu with
  | zero => intro x0 x1 x2 x3 x4 ph h; exact h.elim
  | succ fu ih =>
    intro x0 x1 x2 x3 x4 ph h
    refine r_iload hC dX5_byForbidden_22 4 rfl ?_
    refine r_iload_n hC dX5_byForbidden_24 rfl 1 rfl ?_
    refine r_icmp_ge (tgt := 85) hC dX5_byForbidden_25 (by decide) (fun c9 => ?_) (fun c9 => ?_)
    · have h := h.1 c9
      refine r_iinc (w := 3) (v := x3 + 1) (lv' := [(3, .int (x3 + 1)), (0, va_rf x0), (1, .int x1), (2, va_rf x2), (4, .int x4)]) hC dX5_byForbidden_85 rfl rfl (by decide) (by first | rfl | simp [lvs1, List.filter, cat_rf, cat_i, cat_j]) ?_
      refine r_goto (tgt := 14) hC dX5_byForbidden_88 (by decide) ?_
      exact RR.wid (by decide) (by decide) (RR.sub [1, 2, 3, 0] rfl (hK14 _ _ _ _ _ h))
    · have h := h.2 c9
      refine r_iconst (v := 0) hC dX5_byForbidden_28 (by decide) ?_
      refine r_istore (i := 5) (lv' := [(5, .int (0 : Int32)), (0, va_rf x0), (1, .int x1), (2, va_rf x2), (3, .int x3), (4, .int x4)]) hC dX5_byForbidden_29 (by decide) (by first | rfl | simp [lvs1, lvs2, List.filter, cat_rf, cat_i, cat_j]) ?_
      have k31_22 : ∀ (x0 : Option Nat) (x1 : Int32) (x2 : Option Nat) (x3 : Int32) (x4 : Int32) (ph : PH), w_X5_byForbidden_22 Q X K14 fu x0 x1 x2 x3 x4 ph → RR C Z A G 6 22 [(0, va_rf x0), (1, .int x1), (2, va_rf x2), (3, .int x3), (4, .int x4)] [] ph 2 75 := by
        intro x0 x1 x2 x3 x4 ph h
        exact RR.wid (by decide) (by decide) (RR.sub [0, 1, 2, 3, 4] rfl (ih _ _ _ _ _ _ h))
      obtain ⟨fu31, h⟩ := h
      exact RR.wid (by decide) (by decide) (RR.sub [1, 2, 3, 4, 5, 0] rfl (b_X5_byForbidden_31 hC hAo hr hx hn hnw hnx hi k31_22 fu31 _ _ _ _ _ _ _ h))
set_option maxRecDepth 20000 in
theorem b_X5_byForbidden_14 {C : Cx} {Z : State → Prop} {A : Nat → Prop} {G : GG} {Q : Option Nat → PH → Prop} {X : String → PH → Prop} (hC : CxOk RX5 cX5_byForbidden 6 G A (rmk 4 98 2 75) C) (hAo : Ao (xs C)) (hr : HA C Z A G 6 cX5_byForbidden 2 75 Q) (hx : HX C Z A G 6 2 75 X) (hn : HN C Z A G 6 RX5 cX5_byForbidden 2 75 (rmk 4 98 2 75) X) (hnw : HNW C Z A G 6 RX5 cX5_byForbidden 2 75 (rmk 4 98 2 75) X) (hnx : HNX C Z A G 6 RX5 cX5_byForbidden 2 75 (rmk 4 98 2 75) X) (hi : True) : ∀ (fu : Nat) (x0 : Option Nat) (x1 : Int32) (x2 : Option Nat) (x3 : Int32) (ph : PH), w_X5_byForbidden_14 Q X fu x0 x1 x2 x3 ph → RR C Z A G 6 14 [(0, va_rf x0), (1, .int x1), (2, va_rf x2), (3, .int x3)] [] ph 2 75 := by
  intro fu
  induction fu with
  | zero => intro x0 x1 x2 x3 ph h; exact h.elim
  | succ fu ih =>
    intro x0 x1 x2 x3 ph h
    refine r_iload_n hC dX5_byForbidden_14 rfl 3 rfl ?_
    refine r_iload_n hC dX5_byForbidden_15 rfl 1 rfl ?_
    refine r_icmp_ge (tgt := 91) hC dX5_byForbidden_16 (by decide) (fun c9 => ?_) (fun c9 => ?_)
    · have h := h.1 c9
      refine r_aload_n hC dX5_byForbidden_91 rfl 2 rfl ?_
      exact hr _ _ _ _ _ _ dX5_byForbidden_92 (by decide) (by decide) h
    · have h := h.2 c9
      refine r_iconst (v := 0) hC dX5_byForbidden_19 (by decide) ?_
      refine r_istore (i := 4) (lv' := [(4, .int (0 : Int32)), (0, va_rf x0), (1, .int x1), (2, va_rf x2), (3, .int x3)]) hC dX5_byForbidden_20 (by decide) (by first | rfl | simp [lvs1, lvs2, List.filter, cat_rf, cat_i, cat_j]) ?_
      have k22_14 : ∀ (x0 : Option Nat) (x1 : Int32) (x2 : Option Nat) (x3 : Int32) (ph : PH), w_X5_byForbidden_14 Q X fu x0 x1 x2 x3 ph → RR C Z A G 6 14 [(0, va_rf x0), (1, .int x1), (2, va_rf x2), (3, .int x3)] [] ph 2 75 := by
        intro x0 x1 x2 x3 ph h
        exact RR.wid (by decide) (by decide) (RR.sub [0, 1, 2, 3] rfl (ih _ _ _ _ _ h))
      obtain ⟨fu22, h⟩ := h
      exact RR.wid (by decide) (by decide) (RR.sub [1, 2, 3, 4, 0] rfl (b_X5_byForbidden_22 hC hAo hr hx hn hnw hnx hi k22_14 fu22 _ _ _ _ _ _ h))
set_option maxRecDepth 20000 in
theorem c_X5_byForbidden (G : GG) (x0 : Option Nat) (x1 : Int32) (ph : PH) (Q : Option Nat → PH → Prop) (X : String → PH → Prop) (h : w_X5_byForbidden x0 x1 ph Q X) : Ct G yX5_byForbidden (.code yX5_byForbidden cX5_byForbidden 6 (some (.object "Shiftgate$Graph"))) 4 98 2 75 [va_rf x0, .int x1] ph (oR Q) X := by
  refine ct_of (lv0 := [(0, va_rf x0), (1, .int x1)]) (by decide +kernel) (by simp [lg_sl, cat_rf, cat_i, cat_j]) (by simp [lv_args, cat_rf, cat_i, cat_j]) ?_
  intro C A hC hAo hex hrt hnm
  have hr : HA C (ZM C G A (oR Q) X 2 75) A G 6 cX5_byForbidden 2 75 Q := fun pc lv v ph k n d hk hn hq => e_a hC (cn := "Shiftgate$Graph") (Or.inl hrt) pc lv v ph k n d hk hn ⟨v, rfl, hq⟩
  have hx := e_x (Q := oR Q) (X := X) (mc := 2) (ms := 75) hC hex
  have hn := e_n (Q := oR Q) (X := X) (mc := 2) (ms := 75) hC hex
  have hnw := e_nw (Q := oR Q) (X := X) (mc := 2) (ms := 75) hC hex
  have hnx := e_nx (Q := oR Q) (X := X) (mc := 2) (ms := 75) hC hex
  have hi : True := trivial
  generalize ZM C G A (oR Q) X 2 75 = Z at *
  refine r_new hC (ci := 6) (N := 3) (Cn := RX3) (T := TX3) (ty := tyX3) (fs := [.int 0, .int 0, .null]) 106 (by decide) rfl tin_X3 tyX3_ok tb_646 tb_359 tb_129 rfl (fun j hj => by rcases (show j = 0 ∨ j = 1 ∨ j = 2 by omega) with rfl | rfl | rfl <;> rfl) (by decide) (by decide) dX5_byForbidden_0 (fun a0 f0 => ?_)
  have h := h a0 _ f0 rfl
  refine r_dup hC dX5_byForbidden_3 (by first | rfl | exact cat_rf _) ?_
  refine r_iload_n hC dX5_byForbidden_4 rfl 1 rfl ?_
  refine r_iload_n hC dX5_byForbidden_5 rfl 1 rfl ?_
  refine r_imul hC dX5_byForbidden_6 ?_
  refine r_iload_n hC dX5_byForbidden_7 rfl 1 rfl ?_
  obtain ⟨a8, o8, h⟩ := h
  refine r_IV hC hAo [.int (x1 * x1), .int x1] cal_X3_init ml_X5_11 rfl o8 (c_X3_init G _ _ _ _ _ _ h) ⟨by decide, by decide⟩ ⟨by decide, by decide⟩ (by simp only [List.map_nil, List.map_cons, List.sum_nil, List.sum_cons, cat_rf, cat_i, cat_j]; decide) rfl dX5_byForbidden_8 (fun E u hx9 => hx _ _ _ _ _ _ _ (by decide) (by decide) hx9) (fun ph8 h => ?_)
  refine RR.wid (k' := 2) (n' := 75) (by decide) (by decide) ?_
  refine r_astore_n (i := 2) (lv' := [(2, va_rf (some a0)), (0, va_rf x0), (1, .int x1)]) hC dX5_byForbidden_11 rfl (by decide) (by first | rfl | simp [lvs1, lvs2, List.filter, cat_rf, cat_i, cat_j]) ?_
  refine r_iconst (v := 0) hC dX5_byForbidden_12 (by decide) ?_
  refine r_istore_n (i := 3) (lv' := [(3, .int (0 : Int32)), (2, va_rf (some a0)), (0, va_rf x0), (1, .int x1)]) hC dX5_byForbidden_13 rfl (by decide) (by first | rfl | simp [lvs1, lvs2, List.filter, cat_rf, cat_i, cat_j]) ?_
  obtain ⟨fu14, h⟩ := h
  exact RR.wid (by decide) (by decide) (RR.sub [2, 3, 1, 0] rfl (b_X5_byForbidden_14 hC hAo hr hx hn hnw hnx hi  fu14 _ _ _ _ _ h))
set_option maxRecDepth 20000 in
theorem c_X11_forbid (G : GG) (x0 : Nat) (x1 : Int32) (ph : PH) (Q : Int32 → PH → Prop) (X : String → PH → Prop) (h : w_X11_forbid x0 x1 ph Q X) : Ct G yX11_forbid (.code yX11_forbid cX11_forbid 3 (some (.int))) 7 123 4 87 [va_rf (some x0), .int x1] ph (oI Q) X := by
  refine ct_of (lv0 := [(0, va_rf (some x0)), (1, .int x1)]) (by decide +kernel) (by simp [lg_sl, cat_rf, cat_i, cat_j]) (by simp [lv_args, cat_rf, cat_i, cat_j]) ?_
  intro C A hC hAo hex hrt hnm
  have hr : HI C (ZM C G A (oI Q) X 4 87) A G 3 cX11_forbid 4 87 Q := fun pc lv v ph k n d hk hn hq => e_i hC hrt pc lv v ph k n d hk hn ⟨v, rfl, hq⟩
  have hx := e_x (Q := oI Q) (X := X) (mc := 4) (ms := 87) hC hex
  have hn := e_n (Q := oI Q) (X := X) (mc := 4) (ms := 87) hC hex
  have hnw := e_nw (Q := oI Q) (X := X) (mc := 4) (ms := 87) hC hex
  have hnx := e_nx (Q := oI Q) (X := X) (mc := 4) (ms := 87) hC hex
  have hi : True := trivial
  generalize ZM C G A (oI Q) X 4 87 = Z at *
  refine r_iload_n hC dX11_forbid_0 rfl 1 rfl ?_
  refine r_iconst (v := 2) hC dX11_forbid_1 (by decide) ?_
  refine r_iconst (v := 3) hC dX11_forbid_2 (by decide) ?_
  refine r_SV hC hAo [.int x1, .int (2 : Int32), .int (3 : Int32)] cal_X11_demandRange ml_X11_96 rfl (c_X11_demandRange G _ _ _ _ _ _ h) ⟨by decide, by decide⟩ ⟨by decide, by decide⟩ (by simp only [List.map_nil, List.map_cons, List.sum_nil, List.sum_cons, cat_rf, cat_i, cat_j]; decide) rfl dX11_forbid_3 (fun E u hx9 => hx _ _ _ _ _ _ _ (by decide) (by decide) hx9) (fun ph3 h => ?_)
  refine RR.wid (k' := 1) (n' := 6) (by decide) (by decide) ?_
  refine r_aload_n hC dX11_forbid_6 rfl 0 rfl ?_
  obtain ⟨v7, g7, h⟩ := h
  refine r_get hC (ci := 12) (kf := 0) (N := 12) (Cn := RX11) (T := TX11) rfl (by decide) tin_X11 fl_X11_10 rfl dX11_forbid_7 g7 ?_
  refine r_iload_n hC dX11_forbid_10 rfl 1 rfl ?_
  obtain ⟨a11, o11, h⟩ := h
  refine r_VI hC hAo [.int x1] cal_X9_isForbidden ml_X11_139 (ci := 10) rfl rfl rfl (c_X9_isForbidden G _ _ _ _ _ h) o11 ⟨by decide, by decide⟩ ⟨by decide, by decide⟩ (by simp only [List.map_nil, List.map_cons, List.sum_nil, List.sum_cons, cat_rf, cat_i, cat_j]; decide) rfl dX11_forbid_11 (fun E u hx9 => hx _ _ _ _ _ _ _ (by decide) (by decide) hx9) (fun v11 ph11 h => ?_)
  refine RR.wid (k' := 1) (n' := 6) (by decide) (by decide) ?_
  refine r_if_ne (tgt := 27) hC dX11_forbid_14 (by decide) (fun c9 => ?_) (fun c9 => ?_)
  · have h := h.1 c9
    refine r_aload_n hC dX11_forbid_27 rfl 0 rfl ?_
    obtain ⟨a28, o28, h⟩ := h
    refine r_VV hC hAo [] cal_X11_demandRoomForShift ml_X11_100 (ci := 12) rfl rfl rfl (c_X11_demandRoomForShift G _ _ _ _ h) o28 ⟨by decide, by decide⟩ ⟨by decide, by decide⟩ (by simp only [List.map_nil, List.map_cons, List.sum_nil, List.sum_cons, cat_rf, cat_i, cat_j]; decide) rfl dX11_forbid_28 (fun E u hx9 => hx _ _ _ _ _ _ _ (by decide) (by decide) hx9) (fun ph28 h => ?_)
    refine RR.wid (k' := 2) (n' := 12) (by decide) (by decide) ?_
    refine r_aload_n hC dX11_forbid_31 rfl 0 rfl ?_
    refine r_aload_n hC dX11_forbid_32 rfl 0 rfl ?_
    obtain ⟨v33, g33, h⟩ := h
    refine r_get hC (ci := 12) (kf := 0) (N := 12) (Cn := RX11) (T := TX11) rfl (by decide) tin_X11 fl_X11_10 rfl dX11_forbid_33 g33 ?_
    refine r_iload_n hC dX11_forbid_36 rfl 1 rfl ?_
    refine r_SR hC hAo [va_rf v33, .int x1] cal_X5_byForbidden ml_X11_147 rfl (c_X5_byForbidden G _ _ _ _ _ h) ⟨by decide, by decide⟩ ⟨by decide, by decide⟩ (by simp only [List.map_nil, List.map_cons, List.sum_nil, List.sum_cons, cat_rf, cat_i, cat_j]; decide) rfl dX11_forbid_37 (fun E u hx9 => hx _ _ _ _ _ _ _ (by decide) (by decide) hx9) (fun v37 ph37 h => ?_)
    refine RR.wid (k' := 4) (n' := 87) (by decide) (by decide) ?_
    obtain ⟨a40, o40, h⟩ := h
    refine r_VI hC hAo [va_rf v37] cal_X11_addShift ml_X11_106 (ci := 12) rfl rfl rfl (c_X11_addShift G _ _ _ _ _ h) o40 ⟨by decide, by decide⟩ ⟨by decide, by decide⟩ (by simp only [List.map_nil, List.map_cons, List.sum_nil, List.sum_cons, cat_rf, cat_i, cat_j]; decide) rfl dX11_forbid_40 (fun E u hx9 => hx _ _ _ _ _ _ _ (by decide) (by decide) hx9) (fun v40 ph40 h => ?_)
    refine RR.wid (k' := 4) (n' := 87) (by decide) (by decide) ?_
    refine r_istore_n (i := 2) (lv' := [(2, .int v40), (0, va_rf (some x0)), (1, .int x1)]) hC dX11_forbid_43 rfl (by decide) (by first | rfl | simp [lvs1, lvs2, List.filter, cat_rf, cat_i, cat_j]) ?_
    refine r_aload_n hC dX11_forbid_44 rfl 1 rfl ?_
    obtain ⟨v45, g45, h⟩ := h
    refine r_get hC (ci := 12) (kf := 0) (N := 12) (Cn := RX11) (T := TX11) rfl (by decide) tin_X11 fl_X11_10 rfl dX11_forbid_45 g45 ?_
    obtain ⟨a48, o48, h⟩ := h
    refine r_VV hC hAo [] cal_X9_empty ml_X11_93 (ci := 10) rfl rfl rfl (c_X9_empty G _ _ _ _ h) o48 ⟨by decide, by decide⟩ ⟨by decide, by decide⟩ (by simp only [List.map_nil, List.map_cons, List.sum_nil, List.sum_cons, cat_rf, cat_i, cat_j]; decide) rfl dX11_forbid_48 (fun E u hx9 => hx _ _ _ _ _ _ _ (by decide) (by decide) hx9) (fun ph48 h => ?_)
    refine RR.wid (k' := 4) (n' := 87) (by decide) (by decide) ?_
    refine r_iload_n hC dX11_forbid_51 rfl 0 rfl ?_
    exact hr _ _ _ _ _ _ dX11_forbid_52 (by decide) (by decide) h
  · have h := h.2 c9
    exact hn _ _ _ _ _ _ _ _ _ _ _ _ 6 th_X11_142_146 rfl dX11_forbid_17 dX11_forbid_20 dX11_forbid_21 dX11_forbid_23 dX11_forbid_26 (by decide) (by simp only [List.map_nil, List.map_cons, List.sum_nil, List.sum_cons, cat_rf, cat_i, cat_j]; decide) (by decide) (by decide) (by decide) (by decide) h
set_option maxRecDepth 20000 in
theorem b_X5_byGaps_63 {C : Cx} {Z : State → Prop} {A : Nat → Prop} {G : GG} {Q : Option Nat → PH → Prop} {X : String → PH → Prop} {K40 : Int32 → Int32 → Option Nat → Int32 → PH → Prop} (hC : CxOk RX5 cX5_byGaps 4 G A (rmk 2 48 2 75) C) (hAo : Ao (xs C)) (hr : HA C Z A G 4 cX5_byGaps 2 75 Q) (hx : HX C Z A G 4 2 75 X) (hn : HN C Z A G 4 RX5 cX5_byGaps 2 75 (rmk 2 48 2 75) X) (hnw : HNW C Z A G 4 RX5 cX5_byGaps 2 75 (rmk 2 48 2 75) X) (hnx : HNX C Z A G 4 RX5 cX5_byGaps 2 75 (rmk 2 48 2 75) X) (hi : True) (hK40 : ∀ (x0 : Int32) (x1 : Int32) (x2 : Option Nat) (x3 : Int32) (ph : PH), K40 x0 x1 x2 x3 ph → RR C Z A G 4 40 [(0, .int x0), (1, .int x1), (2, va_rf x2), (3, .int x3)] [] ph 2 75) : ∀ (x0 : Int32) (x1 : Int32) (x2 : Option Nat) (x3 : Int32) (s0 : Int32) (s1 : Int32) (s2 : Int32) (s3 : Int32) (s4 : Option Nat) (ph : PH), w_X5_byGaps_63 Q X K40 x0 x1 x2 x3 s0 s1 s2 s3 s4 ph → RR C Z A G 4 63 [(0, .int x0), (1, .int x1), (2, va_rf x2), (3, .int x3)] [.int s0, .int s1, .int s2, .int s3, va_rf s4] ph 2 75 := by
  intro x0 x1 x2 x3 s0 s1 s2 s3 s4 ph h
  obtain ⟨a63, o63, h⟩ := h
  refine r_VV hC hAo [.int s3, .int s2, .int s1, .int s0] cal_X3_tell ml_X5_20 (ci := 6) rfl rfl rfl (c_X3_tell G _ _ _ _ _ _ _ _ h) o63 ⟨by decide, by decide⟩ ⟨by decide, by decide⟩ (by simp only [List.map_nil, List.map_cons, List.sum_nil, List.sum_cons, cat_rf, cat_i, cat_j]; decide) rfl dX5_byGaps_63 (fun E u hx9 => hx _ _ _ _ _ _ _ (by decide) (by decide) hx9) (fun ph63 h => ?_)
  refine RR.wid (k' := 2) (n' := 75) (by decide) (by decide) ?_
  refine r_aload_n hC dX5_byGaps_66 rfl 2 rfl ?_
  refine r_iload_n hC dX5_byGaps_67 rfl 3 rfl ?_
  refine r_iconst (v := 1) hC dX5_byGaps_68 (by decide) ?_
  refine r_iconst (v := 0) hC dX5_byGaps_69 (by decide) ?_
  refine r_iload_n hC dX5_byGaps_70 rfl 0 rfl ?_
  refine r_iload_n hC dX5_byGaps_71 rfl 3 rfl ?_
  refine r_SI hC hAo [.int x0, .int x3] cal_X11_hasBit ml_X5_26 rfl (c_X11_hasBit G _ _ _ _ _ h) ⟨by decide, by decide⟩ ⟨by decide, by decide⟩ (by simp only [List.map_nil, List.map_cons, List.sum_nil, List.sum_cons, cat_rf, cat_i, cat_j]; decide) rfl dX5_byGaps_72 (fun E u hx9 => hx _ _ _ _ _ _ _ (by decide) (by decide) hx9) (fun v72 ph72 h => ?_)
  refine RR.wid (k' := 2) (n' := 75) (by decide) (by decide) ?_
  obtain ⟨a75, o75, h⟩ := h
  refine r_VV hC hAo [.int x3, .int (1 : Int32), .int (0 : Int32), .int v72] cal_X3_tell ml_X5_20 (ci := 6) rfl rfl rfl (c_X3_tell G _ _ _ _ _ _ _ _ h) o75 ⟨by decide, by decide⟩ ⟨by decide, by decide⟩ (by simp only [List.map_nil, List.map_cons, List.sum_nil, List.sum_cons, cat_rf, cat_i, cat_j]; decide) rfl dX5_byGaps_75 (fun E u hx9 => hx _ _ _ _ _ _ _ (by decide) (by decide) hx9) (fun ph75 h => ?_)
  refine RR.wid (k' := 2) (n' := 75) (by decide) (by decide) ?_
  refine r_iinc (w := 3) (v := x3 + 1) (lv' := [(3, .int (x3 + 1)), (0, .int x0), (1, .int x1), (2, va_rf x2)]) hC dX5_byGaps_78 rfl rfl (by decide) (by first | rfl | simp [lvs1, List.filter, cat_rf, cat_i, cat_j]) ?_
  refine r_goto (tgt := 40) hC dX5_byGaps_81 (by decide) ?_
  exact RR.wid (by decide) (by decide) (RR.sub [1, 2, 3, 0] rfl (hK40 _ _ _ _ _ h))
set_option maxRecDepth 20000 in
theorem b_X5_byGaps_40 {C : Cx} {Z : State → Prop} {A : Nat → Prop} {G : GG} {Q : Option Nat → PH → Prop} {X : String → PH → Prop} (hC : CxOk RX5 cX5_byGaps 4 G A (rmk 2 48 2 75) C) (hAo : Ao (xs C)) (hr : HA C Z A G 4 cX5_byGaps 2 75 Q) (hx : HX C Z A G 4 2 75 X) (hn : HN C Z A G 4 RX5 cX5_byGaps 2 75 (rmk 2 48 2 75) X) (hnw : HNW C Z A G 4 RX5 cX5_byGaps 2 75 (rmk 2 48 2 75) X) (hnx : HNX C Z A G 4 RX5 cX5_byGaps 2 75 (rmk 2 48 2 75) X) (hi : True) : ∀ (fu : Nat) (x0 : Int32) (x1 : Int32) (x2 : Option Nat) (x3 : Int32) (ph : PH), w_X5_byGaps_40 Q X fu x0 x1 x2 x3 ph → RR C Z A G 4 40 [(0, .int x0), (1, .int x1), (2, va_rf x2), (3, .int x3)] [] ph 2 75 := by
  intro fu
  induction fu with
  | zero => intro x0 x1 x2 x3 ph h; exact h.elim
  | succ fu ih =>
    intro x0 x1 x2 x3 ph h
    refine r_iload_n hC dX5_byGaps_40 rfl 3 rfl ?_
    refine r_iload_n hC dX5_byGaps_41 rfl 1 rfl ?_
    refine r_icmp_ge (tgt := 84) hC dX5_byGaps_42 (by decide) (fun c9 => ?_) (fun c9 => ?_)
    · have h := h.1 c9
      refine r_aload_n hC dX5_byGaps_84 rfl 2 rfl ?_
      exact hr _ _ _ _ _ _ dX5_byGaps_85 (by decide) (by decide) h
    · have h := h.2 c9
      refine r_aload_n hC dX5_byGaps_45 rfl 2 rfl ?_
      refine r_iload_n hC dX5_byGaps_46 rfl 3 rfl ?_
      refine r_iconst (v := 0) hC dX5_byGaps_47 (by decide) ?_
      refine r_iload_n hC dX5_byGaps_48 rfl 3 rfl ?_
      refine r_iconst (v := 1) hC dX5_byGaps_49 (by decide) ?_
      refine r_iadd hC dX5_byGaps_50 ?_
      refine r_iload_n hC dX5_byGaps_51 rfl 3 rfl ?_
      refine r_iconst (v := 1) hC dX5_byGaps_52 (by decide) ?_
      refine r_iadd hC dX5_byGaps_53 ?_
      refine r_iload_n hC dX5_byGaps_54 rfl 1 rfl ?_
      refine r_icmp_ge (tgt := 62) hC dX5_byGaps_55 (by decide) (fun c9 => ?_) (fun c9 => ?_)
      · have h := h.1 c9
        refine r_iconst (v := 0) hC dX5_byGaps_62 (by decide) ?_
        have k63_40 : ∀ (x0 : Int32) (x1 : Int32) (x2 : Option Nat) (x3 : Int32) (ph : PH), w_X5_byGaps_40 Q X fu x0 x1 x2 x3 ph → RR C Z A G 4 40 [(0, .int x0), (1, .int x1), (2, va_rf x2), (3, .int x3)] [] ph 2 75 := by
          intro x0 x1 x2 x3 ph h
          exact RR.wid (by decide) (by decide) (RR.sub [0, 1, 2, 3] rfl (ih _ _ _ _ _ h))
        exact RR.wid (by decide) (by decide) (RR.sub [0, 1, 2, 3] rfl (b_X5_byGaps_63 hC hAo hr hx hn hnw hnx hi k63_40 _ _ _ _ _ _ _ _ _ _ h))
      · have h := h.2 c9
        refine r_iconst (v := 1) hC dX5_byGaps_58 (by decide) ?_
        refine r_goto (tgt := 63) hC dX5_byGaps_59 (by decide) ?_
        have k63_40 : ∀ (x0 : Int32) (x1 : Int32) (x2 : Option Nat) (x3 : Int32) (ph : PH), w_X5_byGaps_40 Q X fu x0 x1 x2 x3 ph → RR C Z A G 4 40 [(0, .int x0), (1, .int x1), (2, va_rf x2), (3, .int x3)] [] ph 2 75 := by
          intro x0 x1 x2 x3 ph h
          exact RR.wid (by decide) (by decide) (RR.sub [0, 1, 2, 3] rfl (ih _ _ _ _ _ h))
        exact RR.wid (by decide) (by decide) (RR.sub [0, 1, 2, 3] rfl (b_X5_byGaps_63 hC hAo hr hx hn hnw hnx hi k63_40 _ _ _ _ _ _ _ _ _ _ h))
set_option maxRecDepth 20000 in
theorem b_X5_byGaps_4 {C : Cx} {Z : State → Prop} {A : Nat → Prop} {G : GG} {Q : Option Nat → PH → Prop} {X : String → PH → Prop} (hC : CxOk RX5 cX5_byGaps 4 G A (rmk 2 48 2 75) C) (hAo : Ao (xs C)) (hr : HA C Z A G 4 cX5_byGaps 2 75 Q) (hx : HX C Z A G 4 2 75 X) (hn : HN C Z A G 4 RX5 cX5_byGaps 2 75 (rmk 2 48 2 75) X) (hnw : HNW C Z A G 4 RX5 cX5_byGaps 2 75 (rmk 2 48 2 75) X) (hnx : HNX C Z A G 4 RX5 cX5_byGaps 2 75 (rmk 2 48 2 75) X) (hi : True) : ∀ (fu : Nat) (x0 : Int32) (x1 : Int32) (x2 : Int32) (ph : PH), w_X5_byGaps_4 Q X fu x0 x1 x2 ph → RR C Z A G 4 4 [(0, .int x0), (1, .int x1), (2, .int x2)] [] ph 0 0 := by
  intro fu
  induction fu with
  | zero => intro x0 x1 x2 ph h; exact h.elim
  | succ fu ih =>
    intro x0 x1 x2 ph h
    refine r_iload_n hC dX5_byGaps_4 rfl 2 rfl ?_
    refine r_bipush (v := 8) hC dX5_byGaps_5 (by decide) ?_
    refine r_icmp_ge (tgt := 28) hC dX5_byGaps_7 (by decide) (fun c9 => ?_) (fun c9 => ?_)
    · have h := h.1 c9
      refine r_new hC (ci := 6) (N := 3) (Cn := RX3) (T := TX3) (ty := tyX3) (fs := [.int 0, .int 0, .null]) 106 (by decide) rfl tin_X3 tyX3_ok tb_646 tb_359 tb_129 rfl (fun j hj => by rcases (show j = 0 ∨ j = 1 ∨ j = 2 by omega) with rfl | rfl | rfl <;> rfl) (by decide) (by decide) dX5_byGaps_28 (fun a28 f28 => ?_)
      have h := h a28 _ f28 rfl
      refine r_dup hC dX5_byGaps_31 (by first | rfl | exact cat_rf _) ?_
      refine r_iload_n hC dX5_byGaps_32 rfl 1 rfl ?_
      refine r_iconst (v := 2) hC dX5_byGaps_33 (by decide) ?_
      obtain ⟨a34, o34, h⟩ := h
      refine r_IV hC hAo [.int x1, .int (2 : Int32)] cal_X3_init ml_X5_11 rfl o34 (c_X3_init G _ _ _ _ _ _ h) ⟨by decide, by decide⟩ ⟨by decide, by decide⟩ (by simp only [List.map_nil, List.map_cons, List.sum_nil, List.sum_cons, cat_rf, cat_i, cat_j]; decide) rfl dX5_byGaps_34 (fun E u hx9 => hx _ _ _ _ _ _ _ (by decide) (by decide) hx9) (fun ph34 h => ?_)
      refine RR.wid (k' := 2) (n' := 75) (by decide) (by decide) ?_
      refine r_astore_n (i := 2) (lv' := [(2, va_rf (some a28)), (0, .int x0), (1, .int x1)]) hC dX5_byGaps_37 rfl (by decide) (by first | rfl | simp [lvs1, lvs2, List.filter, cat_rf, cat_i, cat_j]) ?_
      refine r_iconst (v := 0) hC dX5_byGaps_38 (by decide) ?_
      refine r_istore_n (i := 3) (lv' := [(3, .int (0 : Int32)), (2, va_rf (some a28)), (0, .int x0), (1, .int x1)]) hC dX5_byGaps_39 rfl (by decide) (by first | rfl | simp [lvs1, lvs2, List.filter, cat_rf, cat_i, cat_j]) ?_
      obtain ⟨fu40, h⟩ := h
      exact RR.wid (by decide) (by decide) (RR.sub [2, 3, 1, 0] rfl (b_X5_byGaps_40 hC hAo hr hx hn hnw hnx hi  fu40 _ _ _ _ _ h))
    · have h := h.2 c9
      refine r_iload_n hC dX5_byGaps_10 rfl 0 rfl ?_
      refine r_iload_n hC dX5_byGaps_11 rfl 2 rfl ?_
      refine r_SI hC hAo [.int x0, .int x2] cal_X11_hasBit ml_X5_26 rfl (c_X11_hasBit G _ _ _ _ _ h) ⟨by decide, by decide⟩ ⟨by decide, by decide⟩ (by simp only [List.map_nil, List.map_cons, List.sum_nil, List.sum_cons, cat_rf, cat_i, cat_j]; decide) rfl dX5_byGaps_12 (fun E u hx9 => hx _ _ _ _ _ _ _ (by decide) (by decide) hx9) (fun v12 ph12 h => ?_)
      refine RR.wid (k' := 0) (n' := 0) (by decide) (by decide) ?_
      refine r_if_eq (tgt := 22) hC dX5_byGaps_15 (by decide) (fun c9 => ?_) (fun c9 => ?_)
      · have h := h.1 c9
        refine r_iinc (w := 2) (v := x2 + 1) (lv' := [(2, .int (x2 + 1)), (0, .int x0), (1, .int x1)]) hC dX5_byGaps_22 rfl rfl (by decide) (by first | rfl | simp [lvs1, List.filter, cat_rf, cat_i, cat_j]) ?_
        refine r_goto (tgt := 4) hC dX5_byGaps_25 (by decide) ?_
        exact RR.wid (by decide) (by decide) (RR.sub [1, 2, 0] rfl (ih _ _ _ _ h))
      · have h := h.2 c9
        refine r_iload_n hC dX5_byGaps_18 rfl 2 rfl ?_
        refine r_iconst (v := 1) hC dX5_byGaps_19 (by decide) ?_
        refine r_iadd hC dX5_byGaps_20 ?_
        obtain ⟨v21, ev21⟩ : ∃ z : Int32, z = x2 + (1 : Int32) := ⟨_, rfl⟩
        have h := h v21 ev21
        refine RR.to (st' := [.int v21]) (by rw [ev21]) ?_
        refine r_istore_n (i := 1) (lv' := [(1, .int v21), (0, .int x0), (2, .int x2)]) hC dX5_byGaps_21 rfl (by decide) (by first | rfl | simp [lvs1, lvs2, List.filter, cat_rf, cat_i, cat_j]) ?_
        refine r_iinc (w := 2) (v := x2 + 1) (lv' := [(2, .int (x2 + 1)), (1, .int v21), (0, .int x0)]) hC dX5_byGaps_22 rfl rfl (by decide) (by first | rfl | simp [lvs1, List.filter, cat_rf, cat_i, cat_j]) ?_
        refine r_goto (tgt := 4) hC dX5_byGaps_25 (by decide) ?_
        exact RR.wid (by decide) (by decide) (RR.sub [2, 1, 0] rfl (ih _ _ _ _ h))
set_option maxRecDepth 20000 in
theorem c_X5_byGaps (G : GG) (x0 : Int32) (ph : PH) (Q : Option Nat → PH → Prop) (X : String → PH → Prop) (h : w_X5_byGaps x0 ph Q X) : Ct G yX5_byGaps (.code yX5_byGaps cX5_byGaps 4 (some (.object "Shiftgate$Graph"))) 2 48 2 75 [.int x0] ph (oR Q) X := by
  refine ct_of (lv0 := [(0, .int x0)]) (by decide +kernel) (by simp [lg_sl, cat_rf, cat_i, cat_j]) (by simp [lv_args, cat_rf, cat_i, cat_j]) ?_
  intro C A hC hAo hex hrt hnm
  have hr : HA C (ZM C G A (oR Q) X 2 75) A G 4 cX5_byGaps 2 75 Q := fun pc lv v ph k n d hk hn hq => e_a hC (cn := "Shiftgate$Graph") (Or.inl hrt) pc lv v ph k n d hk hn ⟨v, rfl, hq⟩
  have hx := e_x (Q := oR Q) (X := X) (mc := 2) (ms := 75) hC hex
  have hn := e_n (Q := oR Q) (X := X) (mc := 2) (ms := 75) hC hex
  have hnw := e_nw (Q := oR Q) (X := X) (mc := 2) (ms := 75) hC hex
  have hnx := e_nx (Q := oR Q) (X := X) (mc := 2) (ms := 75) hC hex
  have hi : True := trivial
  generalize ZM C G A (oR Q) X 2 75 = Z at *
  refine r_iconst (v := 0) hC dX5_byGaps_0 (by decide) ?_
  refine r_istore_n (i := 1) (lv' := [(1, .int (0 : Int32)), (0, .int x0)]) hC dX5_byGaps_1 rfl (by decide) (by first | rfl | simp [lvs1, lvs2, List.filter, cat_rf, cat_i, cat_j]) ?_
  refine r_iconst (v := 0) hC dX5_byGaps_2 (by decide) ?_
  refine r_istore_n (i := 2) (lv' := [(2, .int (0 : Int32)), (1, .int (0 : Int32)), (0, .int x0)]) hC dX5_byGaps_3 rfl (by decide) (by first | rfl | simp [lvs1, lvs2, List.filter, cat_rf, cat_i, cat_j]) ?_
  obtain ⟨fu4, h⟩ := h
  exact RR.wid (by decide) (by decide) (RR.sub [2, 1, 0] rfl (b_X5_byGaps_4 hC hAo hr hx hn hnw hnx hi  fu4 _ _ _ _ h))
set_option maxRecDepth 20000 in
theorem c_X11_gaps (G : GG) (x0 : Nat) (x1 : Int32) (ph : PH) (Q : Int32 → PH → Prop) (X : String → PH → Prop) (h : w_X11_gaps x0 x1 ph Q X) : Ct G yX11_gaps (.code yX11_gaps cX11_gaps 2 (some (.int))) 7 112 4 87 [va_rf (some x0), .int x1] ph (oI Q) X := by
  refine ct_of (lv0 := [(0, va_rf (some x0)), (1, .int x1)]) (by decide +kernel) (by simp [lg_sl, cat_rf, cat_i, cat_j]) (by simp [lv_args, cat_rf, cat_i, cat_j]) ?_
  intro C A hC hAo hex hrt hnm
  have hr : HI C (ZM C G A (oI Q) X 4 87) A G 2 cX11_gaps 4 87 Q := fun pc lv v ph k n d hk hn hq => e_i hC hrt pc lv v ph k n d hk hn ⟨v, rfl, hq⟩
  have hx := e_x (Q := oI Q) (X := X) (mc := 4) (ms := 87) hC hex
  have hn := e_n (Q := oI Q) (X := X) (mc := 4) (ms := 87) hC hex
  have hnw := e_nw (Q := oI Q) (X := X) (mc := 4) (ms := 87) hC hex
  have hnx := e_nx (Q := oI Q) (X := X) (mc := 4) (ms := 87) hC hex
  have hi : True := trivial
  generalize ZM C G A (oI Q) X 4 87 = Z at *
  refine r_iload_n hC dX11_gaps_0 rfl 1 rfl ?_
  refine r_iconst (v := 1) hC dX11_gaps_1 (by decide) ?_
  refine r_sipush (v := 255) hC dX11_gaps_2 (by decide) ?_
  refine r_SV hC hAo [.int x1, .int (1 : Int32), .int (255 : Int32)] cal_X11_demandRange ml_X11_96 rfl (c_X11_demandRange G _ _ _ _ _ _ h) ⟨by decide, by decide⟩ ⟨by decide, by decide⟩ (by simp only [List.map_nil, List.map_cons, List.sum_nil, List.sum_cons, cat_rf, cat_i, cat_j]; decide) rfl dX11_gaps_5 (fun E u hx9 => hx _ _ _ _ _ _ _ (by decide) (by decide) hx9) (fun ph5 h => ?_)
  refine RR.wid (k' := 1) (n' := 6) (by decide) (by decide) ?_
  refine r_aload_n hC dX11_gaps_8 rfl 0 rfl ?_
  obtain ⟨a9, o9, h⟩ := h
  refine r_VV hC hAo [] cal_X11_demandRoomForShift ml_X11_100 (ci := 12) rfl rfl rfl (c_X11_demandRoomForShift G _ _ _ _ h) o9 ⟨by decide, by decide⟩ ⟨by decide, by decide⟩ (by simp only [List.map_nil, List.map_cons, List.sum_nil, List.sum_cons, cat_rf, cat_i, cat_j]; decide) rfl dX11_gaps_9 (fun E u hx9 => hx _ _ _ _ _ _ _ (by decide) (by decide) hx9) (fun ph9 h => ?_)
  refine RR.wid (k' := 2) (n' := 12) (by decide) (by decide) ?_
  refine r_aload_n hC dX11_gaps_12 rfl 0 rfl ?_
  refine r_iload_n hC dX11_gaps_13 rfl 1 rfl ?_
  refine r_SR hC hAo [.int x1] cal_X5_byGaps ml_X11_153 rfl (c_X5_byGaps G _ _ _ _ h) ⟨by decide, by decide⟩ ⟨by decide, by decide⟩ (by simp only [List.map_nil, List.map_cons, List.sum_nil, List.sum_cons, cat_rf, cat_i, cat_j]; decide) rfl dX11_gaps_14 (fun E u hx9 => hx _ _ _ _ _ _ _ (by decide) (by decide) hx9) (fun v14 ph14 h => ?_)
  refine RR.wid (k' := 4) (n' := 87) (by decide) (by decide) ?_
  obtain ⟨a17, o17, h⟩ := h
  refine r_VI hC hAo [va_rf v14] cal_X11_addShift ml_X11_106 (ci := 12) rfl rfl rfl (c_X11_addShift G _ _ _ _ _ h) o17 ⟨by decide, by decide⟩ ⟨by decide, by decide⟩ (by simp only [List.map_nil, List.map_cons, List.sum_nil, List.sum_cons, cat_rf, cat_i, cat_j]; decide) rfl dX11_gaps_17 (fun E u hx9 => hx _ _ _ _ _ _ _ (by decide) (by decide) hx9) (fun v17 ph17 h => ?_)
  refine RR.wid (k' := 4) (n' := 87) (by decide) (by decide) ?_
  exact hr _ _ _ _ _ _ dX11_gaps_20 (by decide) (by decide) h
set_option maxRecDepth 20000 in
theorem b_X3_allTargets_4 {C : Cx} {Z : State → Prop} {A : Nat → Prop} {G : GG} {Q : Int32 → PH → Prop} {X : String → PH → Prop} (hC : CxOk RX3 cX3_allTargets 4 G A (rmk 1 24 0 0) C) (hAo : Ao (xs C)) (hr : HI C Z A G 4 cX3_allTargets 0 0 Q) (hx : HX C Z A G 4 0 0 X) (hn : HN C Z A G 4 RX3 cX3_allTargets 0 0 (rmk 1 24 0 0) X) (hnw : HNW C Z A G 4 RX3 cX3_allTargets 0 0 (rmk 1 24 0 0) X) (hnx : HNX C Z A G 4 RX3 cX3_allTargets 0 0 (rmk 1 24 0 0) X) (hi : True) : ∀ (fu : Nat) (x0 : Option Nat) (x1 : Int32) (x2 : Int32) (x3 : Int32) (ph : PH), w_X3_allTargets_4 Q X fu x0 x1 x2 x3 ph → RR C Z A G 4 4 [(0, va_rf x0), (1, .int x1), (2, .int x2), (3, .int x3)] [] ph 0 0 := by
  intro fu
  induction fu with
  | zero => intro x0 x1 x2 x3 ph h; exact h.elim
  | succ fu ih =>
    intro x0 x1 x2 x3 ph h
    refine r_iload_n hC dX3_allTargets_4 rfl 3 rfl ?_
    refine r_aload_n hC dX3_allTargets_5 rfl 0 rfl ?_
    obtain ⟨v6, g6, h⟩ := h
    refine r_get hC (ci := 6) (kf := 1) (N := 3) (Cn := RX3) (T := TX3) rfl (by decide) tin_X3 fl_X3_15 rfl dX3_allTargets_6 g6 ?_
    refine r_icmp_ge (tgt := 27) hC dX3_allTargets_9 (by decide) (fun c9 => ?_) (fun c9 => ?_)
    · have h := h.1 c9
      refine r_iload_n hC dX3_allTargets_27 rfl 2 rfl ?_
      exact hr _ _ _ _ _ _ dX3_allTargets_28 (by decide) (by decide) h
    · have h := h.2 c9
      refine r_iload_n hC dX3_allTargets_12 rfl 2 rfl ?_
      refine r_aload_n hC dX3_allTargets_13 rfl 0 rfl ?_
      refine r_iload_n hC dX3_allTargets_14 rfl 1 rfl ?_
      refine r_iload_n hC dX3_allTargets_15 rfl 3 rfl ?_
      obtain ⟨a16, o16, h⟩ := h
      refine r_VI hC hAo [.int x1, .int x3] cal_X3_targets ml_X3_35 (ci := 6) rfl rfl rfl (c_X3_targets G _ _ _ _ _ _ h) o16 ⟨by decide, by decide⟩ ⟨by decide, by decide⟩ (by simp only [List.map_nil, List.map_cons, List.sum_nil, List.sum_cons, cat_rf, cat_i, cat_j]; decide) rfl dX3_allTargets_16 (fun E u hx9 => hx _ _ _ _ _ _ _ (by decide) (by decide) hx9) (fun v16 ph16 h => ?_)
      refine RR.wid (k' := 0) (n' := 0) (by decide) (by decide) ?_
      refine r_ior hC dX3_allTargets_19 ?_
      obtain ⟨v20, ev20⟩ : ∃ z : Int32, z = x2 ||| v16 := ⟨_, rfl⟩
      have h := h v20 ev20
      refine RR.to (st' := [.int v20]) (by rw [ev20]) ?_
      refine r_istore_n (i := 2) (lv' := [(2, .int v20), (0, va_rf x0), (1, .int x1), (3, .int x3)]) hC dX3_allTargets_20 rfl (by decide) (by first | rfl | simp [lvs1, lvs2, List.filter, cat_rf, cat_i, cat_j]) ?_
      refine r_iinc (w := 3) (v := x3 + 1) (lv' := [(3, .int (x3 + 1)), (2, .int v20), (0, va_rf x0), (1, .int x1)]) hC dX3_allTargets_21 rfl rfl (by decide) (by first | rfl | simp [lvs1, List.filter, cat_rf, cat_i, cat_j]) ?_
      refine r_goto (tgt := 4) hC dX3_allTargets_24 (by decide) ?_
      exact RR.wid (by decide) (by decide) (RR.sub [2, 3, 1, 0] rfl (ih _ _ _ _ _ h))
set_option maxRecDepth 20000 in
theorem c_X3_allTargets (G : GG) (x0 : Nat) (x1 : Int32) (ph : PH) (Q : Int32 → PH → Prop) (X : String → PH → Prop) (h : w_X3_allTargets x0 x1 ph Q X) : Ct G yX3_allTargets (.code yX3_allTargets cX3_allTargets 4 (some (.int))) 1 24 0 0 [va_rf (some x0), .int x1] ph (oI Q) X := by
  refine ct_of (lv0 := [(0, va_rf (some x0)), (1, .int x1)]) (by decide +kernel) (by simp [lg_sl, cat_rf, cat_i, cat_j]) (by simp [lv_args, cat_rf, cat_i, cat_j]) ?_
  intro C A hC hAo hex hrt hnm
  have hr : HI C (ZM C G A (oI Q) X 0 0) A G 4 cX3_allTargets 0 0 Q := fun pc lv v ph k n d hk hn hq => e_i hC hrt pc lv v ph k n d hk hn ⟨v, rfl, hq⟩
  have hx := e_x (Q := oI Q) (X := X) (mc := 0) (ms := 0) hC hex
  have hn := e_n (Q := oI Q) (X := X) (mc := 0) (ms := 0) hC hex
  have hnw := e_nw (Q := oI Q) (X := X) (mc := 0) (ms := 0) hC hex
  have hnx := e_nx (Q := oI Q) (X := X) (mc := 0) (ms := 0) hC hex
  have hi : True := trivial
  generalize ZM C G A (oI Q) X 0 0 = Z at *
  refine r_iconst (v := 0) hC dX3_allTargets_0 (by decide) ?_
  refine r_istore_n (i := 2) (lv' := [(2, .int (0 : Int32)), (0, va_rf (some x0)), (1, .int x1)]) hC dX3_allTargets_1 rfl (by decide) (by first | rfl | simp [lvs1, lvs2, List.filter, cat_rf, cat_i, cat_j]) ?_
  refine r_iconst (v := 0) hC dX3_allTargets_2 (by decide) ?_
  refine r_istore_n (i := 3) (lv' := [(3, .int (0 : Int32)), (2, .int (0 : Int32)), (0, va_rf (some x0)), (1, .int x1)]) hC dX3_allTargets_3 rfl (by decide) (by first | rfl | simp [lvs1, lvs2, List.filter, cat_rf, cat_i, cat_j]) ?_
  obtain ⟨fu4, h⟩ := h
  exact RR.wid (by decide) (by decide) (RR.sub [2, 3, 1, 0] rfl (b_X3_allTargets_4 hC hAo hr hx hn hnw hnx hi  fu4 _ _ _ _ _ h))
set_option maxRecDepth 20000 in
theorem b_X3_entered_4 {C : Cx} {Z : State → Prop} {A : Nat → Prop} {G : GG} {Q : Int32 → PH → Prop} {X : String → PH → Prop} (hC : CxOk RX3 cX3_entered 4 G A (rmk 2 47 0 0) C) (hAo : Ao (xs C)) (hr : HI C Z A G 4 cX3_entered 0 0 Q) (hx : HX C Z A G 4 0 0 X) (hn : HN C Z A G 4 RX3 cX3_entered 0 0 (rmk 2 47 0 0) X) (hnw : HNW C Z A G 4 RX3 cX3_entered 0 0 (rmk 2 47 0 0) X) (hnx : HNX C Z A G 4 RX3 cX3_entered 0 0 (rmk 2 47 0 0) X) (hi : True) : ∀ (fu : Nat) (x0 : Option Nat) (x1 : Int32) (x2 : Int32) (x3 : Int32) (ph : PH), w_X3_entered_4 Q X fu x0 x1 x2 x3 ph → RR C Z A G 4 4 [(0, va_rf x0), (1, .int x1), (2, .int x2), (3, .int x3)] [] ph 0 0 := by
  intro fu
  induction fu with
  | zero => intro x0 x1 x2 x3 ph h; exact h.elim
  | succ fu ih =>
    intro x0 x1 x2 x3 ph h
    refine r_iload_n hC dX3_entered_4 rfl 3 rfl ?_
    refine r_aload_n hC dX3_entered_5 rfl 0 rfl ?_
    obtain ⟨v6, g6, h⟩ := h
    refine r_get hC (ci := 6) (kf := 0) (N := 3) (Cn := RX3) (T := TX3) rfl (by decide) tin_X3 fl_X3_9 rfl dX3_entered_6 g6 ?_
    refine r_icmp_ge (tgt := 34) hC dX3_entered_9 (by decide) (fun c9 => ?_) (fun c9 => ?_)
    · have h := h.1 c9
      refine r_iload_n hC dX3_entered_34 rfl 2 rfl ?_
      exact hr _ _ _ _ _ _ dX3_entered_35 (by decide) (by decide) h
    · have h := h.2 c9
      refine r_iload_n hC dX3_entered_12 rfl 1 rfl ?_
      refine r_iload_n hC dX3_entered_13 rfl 3 rfl ?_
      refine r_SI hC hAo [.int x1, .int x3] cal_X11_hasBit ml_X3_39 rfl (c_X11_hasBit G _ _ _ _ _ h) ⟨by decide, by decide⟩ ⟨by decide, by decide⟩ (by simp only [List.map_nil, List.map_cons, List.sum_nil, List.sum_cons, cat_rf, cat_i, cat_j]; decide) rfl dX3_entered_14 (fun E u hx9 => hx _ _ _ _ _ _ _ (by decide) (by decide) hx9) (fun v14 ph14 h => ?_)
      refine RR.wid (k' := 0) (n' := 0) (by decide) (by decide) ?_
      refine r_if_eq (tgt := 28) hC dX3_entered_17 (by decide) (fun c9 => ?_) (fun c9 => ?_)
      · have h := h.1 c9
        refine r_iinc (w := 3) (v := x3 + 1) (lv' := [(3, .int (x3 + 1)), (0, va_rf x0), (1, .int x1), (2, .int x2)]) hC dX3_entered_28 rfl rfl (by decide) (by first | rfl | simp [lvs1, List.filter, cat_rf, cat_i, cat_j]) ?_
        refine r_goto (tgt := 4) hC dX3_entered_31 (by decide) ?_
        exact RR.wid (by decide) (by decide) (RR.sub [1, 2, 3, 0] rfl (ih _ _ _ _ _ h))
      · have h := h.2 c9
        refine r_iload_n hC dX3_entered_20 rfl 2 rfl ?_
        refine r_aload_n hC dX3_entered_21 rfl 0 rfl ?_
        refine r_iload_n hC dX3_entered_22 rfl 3 rfl ?_
        obtain ⟨a23, o23, h⟩ := h
        refine r_VI hC hAo [.int x3] cal_X3_allTargets ml_X3_49 (ci := 6) rfl rfl rfl (c_X3_allTargets G _ _ _ _ _ h) o23 ⟨by decide, by decide⟩ ⟨by decide, by decide⟩ (by simp only [List.map_nil, List.map_cons, List.sum_nil, List.sum_cons, cat_rf, cat_i, cat_j]; decide) rfl dX3_entered_23 (fun E u hx9 => hx _ _ _ _ _ _ _ (by decide) (by decide) hx9) (fun v23 ph23 h => ?_)
        refine RR.wid (k' := 0) (n' := 0) (by decide) (by decide) ?_
        refine r_ior hC dX3_entered_26 ?_
        obtain ⟨v27, ev27⟩ : ∃ z : Int32, z = x2 ||| v23 := ⟨_, rfl⟩
        have h := h v27 ev27
        refine RR.to (st' := [.int v27]) (by rw [ev27]) ?_
        refine r_istore_n (i := 2) (lv' := [(2, .int v27), (0, va_rf x0), (1, .int x1), (3, .int x3)]) hC dX3_entered_27 rfl (by decide) (by first | rfl | simp [lvs1, lvs2, List.filter, cat_rf, cat_i, cat_j]) ?_
        refine r_iinc (w := 3) (v := x3 + 1) (lv' := [(3, .int (x3 + 1)), (2, .int v27), (0, va_rf x0), (1, .int x1)]) hC dX3_entered_28 rfl rfl (by decide) (by first | rfl | simp [lvs1, List.filter, cat_rf, cat_i, cat_j]) ?_
        refine r_goto (tgt := 4) hC dX3_entered_31 (by decide) ?_
        exact RR.wid (by decide) (by decide) (RR.sub [2, 3, 1, 0] rfl (ih _ _ _ _ _ h))
set_option maxRecDepth 20000 in
theorem c_X3_entered (G : GG) (x0 : Nat) (x1 : Int32) (ph : PH) (Q : Int32 → PH → Prop) (X : String → PH → Prop) (h : w_X3_entered x0 x1 ph Q X) : Ct G yX3_entered (.code yX3_entered cX3_entered 4 (some (.int))) 2 47 0 0 [va_rf (some x0), .int x1] ph (oI Q) X := by
  refine ct_of (lv0 := [(0, va_rf (some x0)), (1, .int x1)]) (by decide +kernel) (by simp [lg_sl, cat_rf, cat_i, cat_j]) (by simp [lv_args, cat_rf, cat_i, cat_j]) ?_
  intro C A hC hAo hex hrt hnm
  have hr : HI C (ZM C G A (oI Q) X 0 0) A G 4 cX3_entered 0 0 Q := fun pc lv v ph k n d hk hn hq => e_i hC hrt pc lv v ph k n d hk hn ⟨v, rfl, hq⟩
  have hx := e_x (Q := oI Q) (X := X) (mc := 0) (ms := 0) hC hex
  have hn := e_n (Q := oI Q) (X := X) (mc := 0) (ms := 0) hC hex
  have hnw := e_nw (Q := oI Q) (X := X) (mc := 0) (ms := 0) hC hex
  have hnx := e_nx (Q := oI Q) (X := X) (mc := 0) (ms := 0) hC hex
  have hi : True := trivial
  generalize ZM C G A (oI Q) X 0 0 = Z at *
  refine r_iconst (v := 0) hC dX3_entered_0 (by decide) ?_
  refine r_istore_n (i := 2) (lv' := [(2, .int (0 : Int32)), (0, va_rf (some x0)), (1, .int x1)]) hC dX3_entered_1 rfl (by decide) (by first | rfl | simp [lvs1, lvs2, List.filter, cat_rf, cat_i, cat_j]) ?_
  refine r_iconst (v := 0) hC dX3_entered_2 (by decide) ?_
  refine r_istore_n (i := 3) (lv' := [(3, .int (0 : Int32)), (2, .int (0 : Int32)), (0, va_rf (some x0)), (1, .int x1)]) hC dX3_entered_3 rfl (by decide) (by first | rfl | simp [lvs1, lvs2, List.filter, cat_rf, cat_i, cat_j]) ?_
  obtain ⟨fu4, h⟩ := h
  exact RR.wid (by decide) (by decide) (RR.sub [2, 3, 1, 0] rfl (b_X3_entered_4 hC hAo hr hx hn hnw hnx hi  fu4 _ _ _ _ _ h))
set_option maxRecDepth 20000 in
theorem b_X3_leaving_4 {C : Cx} {Z : State → Prop} {A : Nat → Prop} {G : GG} {Q : Int32 → PH → Prop} {X : String → PH → Prop} (hC : CxOk RX3 cX3_leaving 4 G A (rmk 2 47 0 0) C) (hAo : Ao (xs C)) (hr : HI C Z A G 4 cX3_leaving 0 0 Q) (hx : HX C Z A G 4 0 0 X) (hn : HN C Z A G 4 RX3 cX3_leaving 0 0 (rmk 2 47 0 0) X) (hnw : HNW C Z A G 4 RX3 cX3_leaving 0 0 (rmk 2 47 0 0) X) (hnx : HNX C Z A G 4 RX3 cX3_leaving 0 0 (rmk 2 47 0 0) X) (hi : True) : ∀ (fu : Nat) (x0 : Option Nat) (x1 : Int32) (x2 : Int32) (x3 : Int32) (ph : PH), w_X3_leaving_4 Q X fu x0 x1 x2 x3 ph → RR C Z A G 4 4 [(0, va_rf x0), (1, .int x1), (2, .int x2), (3, .int x3)] [] ph 0 0 := by
  intro fu
  induction fu with
  | zero => intro x0 x1 x2 x3 ph h; exact h.elim
  | succ fu ih =>
    intro x0 x1 x2 x3 ph h
    refine r_iload_n hC dX3_leaving_4 rfl 3 rfl ?_
    refine r_aload_n hC dX3_leaving_5 rfl 0 rfl ?_
    obtain ⟨v6, g6, h⟩ := h
    refine r_get hC (ci := 6) (kf := 0) (N := 3) (Cn := RX3) (T := TX3) rfl (by decide) tin_X3 fl_X3_9 rfl dX3_leaving_6 g6 ?_
    refine r_icmp_ge (tgt := 34) hC dX3_leaving_9 (by decide) (fun c9 => ?_) (fun c9 => ?_)
    · have h := h.1 c9
      refine r_iload_n hC dX3_leaving_34 rfl 2 rfl ?_
      exact hr _ _ _ _ _ _ dX3_leaving_35 (by decide) (by decide) h
    · have h := h.2 c9
      refine r_aload_n hC dX3_leaving_12 rfl 0 rfl ?_
      refine r_iload_n hC dX3_leaving_13 rfl 3 rfl ?_
      obtain ⟨a14, o14, h⟩ := h
      refine r_VI hC hAo [.int x3] cal_X3_allTargets ml_X3_49 (ci := 6) rfl rfl rfl (c_X3_allTargets G _ _ _ _ _ h) o14 ⟨by decide, by decide⟩ ⟨by decide, by decide⟩ (by simp only [List.map_nil, List.map_cons, List.sum_nil, List.sum_cons, cat_rf, cat_i, cat_j]; decide) rfl dX3_leaving_14 (fun E u hx9 => hx _ _ _ _ _ _ _ (by decide) (by decide) hx9) (fun v14 ph14 h => ?_)
      refine RR.wid (k' := 0) (n' := 0) (by decide) (by decide) ?_
      refine r_iload_n hC dX3_leaving_17 rfl 1 rfl ?_
      refine r_iand hC dX3_leaving_18 ?_
      refine r_if_eq (tgt := 28) hC dX3_leaving_19 (by decide) (fun c9 => ?_) (fun c9 => ?_)
      · have h := h.1 c9
        refine r_iinc (w := 3) (v := x3 + 1) (lv' := [(3, .int (x3 + 1)), (0, va_rf x0), (1, .int x1), (2, .int x2)]) hC dX3_leaving_28 rfl rfl (by decide) (by first | rfl | simp [lvs1, List.filter, cat_rf, cat_i, cat_j]) ?_
        refine r_goto (tgt := 4) hC dX3_leaving_31 (by decide) ?_
        exact RR.wid (by decide) (by decide) (RR.sub [1, 2, 3, 0] rfl (ih _ _ _ _ _ h))
      · have h := h.2 c9
        refine r_iload_n hC dX3_leaving_22 rfl 2 rfl ?_
        refine r_iconst (v := 1) hC dX3_leaving_23 (by decide) ?_
        refine r_iload_n hC dX3_leaving_24 rfl 3 rfl ?_
        refine r_ishl hC dX3_leaving_25 ?_
        refine r_ior hC dX3_leaving_26 ?_
        obtain ⟨v27, ev27⟩ : ∃ z : Int32, z = x2 ||| ((1 : Int32) <<< (x3 &&& 31)) := ⟨_, rfl⟩
        have h := h v27 ev27
        refine RR.to (st' := [.int v27]) (by rw [ev27]) ?_
        refine r_istore_n (i := 2) (lv' := [(2, .int v27), (0, va_rf x0), (1, .int x1), (3, .int x3)]) hC dX3_leaving_27 rfl (by decide) (by first | rfl | simp [lvs1, lvs2, List.filter, cat_rf, cat_i, cat_j]) ?_
        refine r_iinc (w := 3) (v := x3 + 1) (lv' := [(3, .int (x3 + 1)), (2, .int v27), (0, va_rf x0), (1, .int x1)]) hC dX3_leaving_28 rfl rfl (by decide) (by first | rfl | simp [lvs1, List.filter, cat_rf, cat_i, cat_j]) ?_
        refine r_goto (tgt := 4) hC dX3_leaving_31 (by decide) ?_
        exact RR.wid (by decide) (by decide) (RR.sub [2, 3, 1, 0] rfl (ih _ _ _ _ _ h))
set_option maxRecDepth 20000 in
theorem c_X3_leaving (G : GG) (x0 : Nat) (x1 : Int32) (ph : PH) (Q : Int32 → PH → Prop) (X : String → PH → Prop) (h : w_X3_leaving x0 x1 ph Q X) : Ct G yX3_leaving (.code yX3_leaving cX3_leaving 4 (some (.int))) 2 47 0 0 [va_rf (some x0), .int x1] ph (oI Q) X := by
  refine ct_of (lv0 := [(0, va_rf (some x0)), (1, .int x1)]) (by decide +kernel) (by simp [lg_sl, cat_rf, cat_i, cat_j]) (by simp [lv_args, cat_rf, cat_i, cat_j]) ?_
  intro C A hC hAo hex hrt hnm
  have hr : HI C (ZM C G A (oI Q) X 0 0) A G 4 cX3_leaving 0 0 Q := fun pc lv v ph k n d hk hn hq => e_i hC hrt pc lv v ph k n d hk hn ⟨v, rfl, hq⟩
  have hx := e_x (Q := oI Q) (X := X) (mc := 0) (ms := 0) hC hex
  have hn := e_n (Q := oI Q) (X := X) (mc := 0) (ms := 0) hC hex
  have hnw := e_nw (Q := oI Q) (X := X) (mc := 0) (ms := 0) hC hex
  have hnx := e_nx (Q := oI Q) (X := X) (mc := 0) (ms := 0) hC hex
  have hi : True := trivial
  generalize ZM C G A (oI Q) X 0 0 = Z at *
  refine r_iconst (v := 0) hC dX3_leaving_0 (by decide) ?_
  refine r_istore_n (i := 2) (lv' := [(2, .int (0 : Int32)), (0, va_rf (some x0)), (1, .int x1)]) hC dX3_leaving_1 rfl (by decide) (by first | rfl | simp [lvs1, lvs2, List.filter, cat_rf, cat_i, cat_j]) ?_
  refine r_iconst (v := 0) hC dX3_leaving_2 (by decide) ?_
  refine r_istore_n (i := 3) (lv' := [(3, .int (0 : Int32)), (2, .int (0 : Int32)), (0, va_rf (some x0)), (1, .int x1)]) hC dX3_leaving_3 rfl (by decide) (by first | rfl | simp [lvs1, lvs2, List.filter, cat_rf, cat_i, cat_j]) ?_
  obtain ⟨fu4, h⟩ := h
  exact RR.wid (by decide) (by decide) (RR.sub [2, 3, 1, 0] rfl (b_X3_leaving_4 hC hAo hr hx hn hnw hnx hi  fu4 _ _ _ _ _ h))
set_option maxRecDepth 20000 in
theorem b_X3_liveSet_11 {C : Cx} {Z : State → Prop} {A : Nat → Prop} {G : GG} {Q : Int32 → PH → Prop} {X : String → PH → Prop} (hC : CxOk RX3 cX3_liveSet 4 G A (rmk 3 70 0 0) C) (hAo : Ao (xs C)) (hr : HI C Z A G 4 cX3_liveSet 0 0 Q) (hx : HX C Z A G 4 0 0 X) (hn : HN C Z A G 4 RX3 cX3_liveSet 0 0 (rmk 3 70 0 0) X) (hnw : HNW C Z A G 4 RX3 cX3_liveSet 0 0 (rmk 3 70 0 0) X) (hnx : HNX C Z A G 4 RX3 cX3_liveSet 0 0 (rmk 3 70 0 0) X) (hi : True) : ∀ (fu : Nat) (x0 : Option Nat) (x1 : Int32) (x2 : Int32) (ph : PH), w_X3_liveSet_11 Q X fu x0 x1 x2 ph → RR C Z A G 4 11 [(0, va_rf x0), (1, .int x1), (2, .int x2)] [] ph 0 0 := by
  intro fu
  induction fu with
  | zero => intro x0 x1 x2 ph h; exact h.elim
  | succ fu ih =>
    intro x0 x1 x2 ph h
    refine r_iload_n hC dX3_liveSet_11 rfl 2 rfl ?_
    refine r_bipush (v := 24) hC dX3_liveSet_12 (by decide) ?_
    refine r_icmp_ge (tgt := 47) hC dX3_liveSet_14 (by decide) (fun c9 => ?_) (fun c9 => ?_)
    · have h := h.1 c9
      refine r_iload_n hC dX3_liveSet_47 rfl 1 rfl ?_
      exact hr _ _ _ _ _ _ dX3_liveSet_48 (by decide) (by decide) h
    · have h := h.2 c9
      refine r_iload_n hC dX3_liveSet_17 rfl 1 rfl ?_
      refine r_aload_n hC dX3_liveSet_18 rfl 0 rfl ?_
      refine r_iload_n hC dX3_liveSet_19 rfl 1 rfl ?_
      obtain ⟨a20, o20, h⟩ := h
      refine r_VI hC hAo [.int x1] cal_X3_entered ml_X3_43 (ci := 6) rfl rfl rfl (c_X3_entered G _ _ _ _ _ h) o20 ⟨by decide, by decide⟩ ⟨by decide, by decide⟩ (by simp only [List.map_nil, List.map_cons, List.sum_nil, List.sum_cons, cat_rf, cat_i, cat_j]; decide) rfl dX3_liveSet_20 (fun E u hx9 => hx _ _ _ _ _ _ _ (by decide) (by decide) hx9) (fun v20 ph20 h => ?_)
      refine RR.wid (k' := 0) (n' := 0) (by decide) (by decide) ?_
      refine r_iand hC dX3_liveSet_23 ?_
      refine r_aload_n hC dX3_liveSet_24 rfl 0 rfl ?_
      refine r_iload_n hC dX3_liveSet_25 rfl 1 rfl ?_
      obtain ⟨a26, o26, h⟩ := h
      refine r_VI hC hAo [.int x1] cal_X3_leaving ml_X3_46 (ci := 6) rfl rfl rfl (c_X3_leaving G _ _ _ _ _ h) o26 ⟨by decide, by decide⟩ ⟨by decide, by decide⟩ (by simp only [List.map_nil, List.map_cons, List.sum_nil, List.sum_cons, cat_rf, cat_i, cat_j]; decide) rfl dX3_liveSet_26 (fun E u hx9 => hx _ _ _ _ _ _ _ (by decide) (by decide) hx9) (fun v26 ph26 h => ?_)
      refine RR.wid (k' := 0) (n' := 0) (by decide) (by decide) ?_
      refine r_iand hC dX3_liveSet_29 ?_
      obtain ⟨v30, ev30⟩ : ∃ z : Int32, z = (x1 &&& v20) &&& v26 := ⟨_, rfl⟩
      have h := h v30 ev30
      refine RR.to (st' := [.int v30]) (by rw [ev30]) ?_
      refine r_istore_n (i := 3) (lv' := [(3, .int v30), (0, va_rf x0), (1, .int x1), (2, .int x2)]) hC dX3_liveSet_30 rfl (by decide) (by first | rfl | simp [lvs1, lvs2, List.filter, cat_rf, cat_i, cat_j]) ?_
      refine r_iload_n hC dX3_liveSet_31 rfl 0 rfl ?_
      refine r_iload_n hC dX3_liveSet_32 rfl 2 rfl ?_
      refine r_icmp_ne (tgt := 39) hC dX3_liveSet_33 (by decide) (fun c9 => ?_) (fun c9 => ?_)
      · have h := h.1 c9
        refine r_iload_n hC dX3_liveSet_39 rfl 0 rfl ?_
        refine r_istore_n (i := 1) (lv' := [(1, .int v30), (3, .int v30), (0, va_rf x0), (2, .int x2)]) hC dX3_liveSet_40 rfl (by decide) (by first | rfl | simp [lvs1, lvs2, List.filter, cat_rf, cat_i, cat_j]) ?_
        refine r_iinc (w := 3) (v := x2 + 1) (lv' := [(2, .int (x2 + 1)), (1, .int v30), (3, .int v30), (0, va_rf x0)]) hC dX3_liveSet_41 rfl rfl (by decide) (by first | rfl | simp [lvs1, List.filter, cat_rf, cat_i, cat_j]) ?_
        refine r_goto (tgt := 11) hC dX3_liveSet_44 (by decide) ?_
        exact RR.wid (by decide) (by decide) (RR.sub [3, 1, 0] rfl (ih _ _ _ _ h))
      · have h := h.2 c9
        refine r_goto (tgt := 47) hC dX3_liveSet_36 (by decide) ?_
        refine r_iload_n hC dX3_liveSet_47 rfl 2 rfl ?_
        exact hr _ _ _ _ _ _ dX3_liveSet_48 (by decide) (by decide) h
set_option maxRecDepth 20000 in
theorem c_X3_liveSet (G : GG) (x0 : Nat) (ph : PH) (Q : Int32 → PH → Prop) (X : String → PH → Prop) (h : w_X3_liveSet x0 ph Q X) : Ct G yX3_liveSet (.code yX3_liveSet cX3_liveSet 4 (some (.int))) 3 70 0 0 [va_rf (some x0)] ph (oI Q) X := by
  refine ct_of (lv0 := [(0, va_rf (some x0))]) (by decide +kernel) (by simp [lg_sl, cat_rf, cat_i, cat_j]) (by simp [lv_args, cat_rf, cat_i, cat_j]) ?_
  intro C A hC hAo hex hrt hnm
  have hr : HI C (ZM C G A (oI Q) X 0 0) A G 4 cX3_liveSet 0 0 Q := fun pc lv v ph k n d hk hn hq => e_i hC hrt pc lv v ph k n d hk hn ⟨v, rfl, hq⟩
  have hx := e_x (Q := oI Q) (X := X) (mc := 0) (ms := 0) hC hex
  have hn := e_n (Q := oI Q) (X := X) (mc := 0) (ms := 0) hC hex
  have hnw := e_nw (Q := oI Q) (X := X) (mc := 0) (ms := 0) hC hex
  have hnx := e_nx (Q := oI Q) (X := X) (mc := 0) (ms := 0) hC hex
  have hi : True := trivial
  generalize ZM C G A (oI Q) X 0 0 = Z at *
  refine r_iconst (v := 1) hC dX3_liveSet_0 (by decide) ?_
  refine r_aload_n hC dX3_liveSet_1 rfl 0 rfl ?_
  obtain ⟨v2, g2, h⟩ := h
  refine r_get hC (ci := 6) (kf := 0) (N := 3) (Cn := RX3) (T := TX3) rfl (by decide) tin_X3 fl_X3_9 rfl dX3_liveSet_2 g2 ?_
  refine r_ishl hC dX3_liveSet_5 ?_
  refine r_iconst (v := 1) hC dX3_liveSet_6 (by decide) ?_
  refine r_isub hC dX3_liveSet_7 ?_
  obtain ⟨v8, ev8⟩ : ∃ z : Int32, z = ((1 : Int32) <<< (v2 &&& 31)) - (1 : Int32) := ⟨_, rfl⟩
  have h := h v8 ev8
  refine RR.to (st' := [.int v8]) (by rw [ev8]) ?_
  refine r_istore_n (i := 1) (lv' := [(1, .int v8), (0, va_rf (some x0))]) hC dX3_liveSet_8 rfl (by decide) (by first | rfl | simp [lvs1, lvs2, List.filter, cat_rf, cat_i, cat_j]) ?_
  refine r_iconst (v := 0) hC dX3_liveSet_9 (by decide) ?_
  refine r_istore_n (i := 2) (lv' := [(2, .int (0 : Int32)), (1, .int v8), (0, va_rf (some x0))]) hC dX3_liveSet_10 rfl (by decide) (by first | rfl | simp [lvs1, lvs2, List.filter, cat_rf, cat_i, cat_j]) ?_
  obtain ⟨fu11, h⟩ := h
  exact RR.wid (by decide) (by decide) (RR.sub [2, 1, 0] rfl (b_X3_liveSet_11 hC hAo hr hx hn hnw hnx hi  fu11 _ _ _ _ h))
