set_option maxRecDepth 20000 in
theorem c_X11_becomes (G : GG) (x0 : Nat) (x1 : Int32) (ph : PH) (Q : Int32 → PH → Prop) (X : String → PH → Prop) (h : w_X11_becomes x0 x1 ph Q X) : Ct G yX11_becomes (.code yX11_becomes cX11_becomes 4 (some (.int))) 6 90 1 6 [va_rf (some x0), .int x1] ph (oI Q) X := by
  refine ct_of (lv0 := [(0, va_rf (some x0)), (1, .int x1)]) (by decide +kernel) (by simp [lg_sl, cat_rf, cat_i, cat_j]) (by simp [lv_args, cat_rf, cat_i, cat_j]) ?_
  intro C A hC hAo hex hrt hnm
  have hr : HI C (ZM C G A (oI Q) X 1 6) A G 4 cX11_becomes 1 6 Q := fun pc lv v ph k n d hk hn hq => e_i hC hrt pc lv v ph k n d hk hn ⟨v, rfl, hq⟩
  have hx := e_x (Q := oI Q) (X := X) (mc := 1) (ms := 6) hC hex
  have hn := e_n (Q := oI Q) (X := X) (mc := 1) (ms := 6) hC hex
  have hnw := e_nw (Q := oI Q) (X := X) (mc := 1) (ms := 6) hC hex
  have hnx := e_nx (Q := oI Q) (X := X) (mc := 1) (ms := 6) hC hex
  have hi : True := trivial
  generalize ZM C G A (oI Q) X 1 6 = Z at *
  refine r_iload_n hC dX11_becomes_0 rfl 1 rfl ?_
  refine r_SI hC hAo [.int x1] cal_X9_letterOf ml_X11_114 rfl (c_X9_letterOf G _ _ _ _ h) ⟨by decide, by decide⟩ ⟨by decide, by decide⟩ (by simp only [List.map_nil, List.map_cons, List.sum_nil, List.sum_cons, cat_rf, cat_i, cat_j]; decide) rfl dX11_becomes_1 (fun E u hx9 => hx _ _ _ _ _ _ _ (by decide) (by decide) hx9) (fun v1 ph1 h => ?_)
  refine RR.wid (k' := 0) (n' := 0) (by decide) (by decide) ?_
  refine r_istore_n (i := 2) (lv' := [(2, .int v1), (0, va_rf (some x0)), (1, .int x1)]) hC dX11_becomes_4 rfl (by decide) (by first | rfl | simp [lvs1, lvs2, List.filter, cat_rf, cat_i, cat_j]) ?_
  refine r_iload_n hC dX11_becomes_5 rfl 0 rfl ?_
  refine r_if_ge (tgt := 19) hC dX11_becomes_6 (by decide) (fun c9 => ?_) (fun c9 => ?_)
  · have h := h.1 c9
    refine r_aload_n hC dX11_becomes_19 rfl 1 rfl ?_
    obtain ⟨v20, g20, h⟩ := h
    refine r_get hC (ci := 12) (kf := 0) (N := 12) (Cn := RX11) (T := TX11) rfl (by decide) tin_X11 fl_X11_10 rfl dX11_becomes_20 g20 ?_
    obtain ⟨v23, g23, h⟩ := h
    refine r_get hC (ci := 10) (kf := 1) (N := 2) (Cn := RX9) (T := TX9) rfl (by decide) tin_X9 fl_X11_80 rfl dX11_becomes_23 g23 ?_
    refine r_iconst (v := 1) hC dX11_becomes_26 (by decide) ?_
    refine r_icmp_lt (tgt := 52) hC dX11_becomes_27 (by decide) (fun c9 => ?_) (fun c9 => ?_)
    · have h := h.1 c9
      exact hnw _ _ _ _ _ _ _ _ _ _ _ _ 32 th_X11_142_146 rfl dX11_becomes_52 dX11_becomes_55 dX11_becomes_56 dX11_becomes_59 dX11_becomes_62 (by decide) (by simp only [List.map_nil, List.map_cons, List.sum_nil, List.sum_cons, cat_rf, cat_i, cat_j]; decide) (by decide) (by decide) (by decide) (by decide) h
    · have h := h.2 c9
      refine r_aload_n hC dX11_becomes_30 rfl 1 rfl ?_
      obtain ⟨v31, g31, h⟩ := h
      refine r_get hC (ci := 12) (kf := 0) (N := 12) (Cn := RX11) (T := TX11) rfl (by decide) tin_X11 fl_X11_10 rfl dX11_becomes_31 g31 ?_
      obtain ⟨v34, g34, h⟩ := h
      refine r_get hC (ci := 10) (kf := 1) (N := 2) (Cn := RX9) (T := TX9) rfl (by decide) tin_X9 fl_X11_80 rfl dX11_becomes_34 g34 ?_
      refine r_iconst (v := 4) hC dX11_becomes_37 (by decide) ?_
      refine r_icmp_gt (tgt := 52) hC dX11_becomes_38 (by decide) (fun c9 => ?_) (fun c9 => ?_)
      · have h := h.1 c9
        exact hnw _ _ _ _ _ _ _ _ _ _ _ _ 32 th_X11_142_146 rfl dX11_becomes_52 dX11_becomes_55 dX11_becomes_56 dX11_becomes_59 dX11_becomes_62 (by decide) (by simp only [List.map_nil, List.map_cons, List.sum_nil, List.sum_cons, cat_rf, cat_i, cat_j]; decide) (by decide) (by decide) (by decide) (by decide) h
      · have h := h.2 c9
        refine r_aload_n hC dX11_becomes_41 rfl 1 rfl ?_
        obtain ⟨v42, g42, h⟩ := h
        refine r_get hC (ci := 12) (kf := 0) (N := 12) (Cn := RX11) (T := TX11) rfl (by decide) tin_X11 fl_X11_10 rfl dX11_becomes_42 g42 ?_
        refine r_iconst (v := 3) hC dX11_becomes_45 (by decide) ?_
        obtain ⟨a46, o46, h⟩ := h
        refine r_VI hC hAo [.int (3 : Int32)] cal_X9_hasOnlyLetters ml_X11_173 (ci := 10) rfl rfl rfl (c_X9_hasOnlyLetters G _ _ _ _ _ h) o46 ⟨by decide, by decide⟩ ⟨by decide, by decide⟩ (by simp only [List.map_nil, List.map_cons, List.sum_nil, List.sum_cons, cat_rf, cat_i, cat_j]; decide) rfl dX11_becomes_46 (fun E u hx9 => hx _ _ _ _ _ _ _ (by decide) (by decide) hx9) (fun v46 ph46 h => ?_)
        refine RR.wid (k' := 0) (n' := 0) (by decide) (by decide) ?_
        refine r_if_ne (tgt := 63) hC dX11_becomes_49 (by decide) (fun c9 => ?_) (fun c9 => ?_)
        · have h := h.1 c9
          refine r_aload_n hC dX11_becomes_63 rfl 1 rfl ?_
          obtain ⟨v64, g64, h⟩ := h
          refine r_get hC (ci := 12) (kf := 11) (N := 12) (Cn := RX11) (T := TX11) rfl (by decide) tin_X11 fl_X11_65 rfl dX11_becomes_64 g64 ?_
          refine r_iload_n hC dX11_becomes_67 rfl 0 rfl ?_
          obtain ⟨a68, o68, h⟩ := h
          refine r_VI hC hAo [.int v1] cal_X7_lengthOf ml_X11_387 (ci := 8) rfl rfl rfl (c_X7_lengthOf G _ _ _ _ _ h) o68 ⟨by decide, by decide⟩ ⟨by decide, by decide⟩ (by simp only [List.map_nil, List.map_cons, List.sum_nil, List.sum_cons, cat_rf, cat_i, cat_j]; decide) rfl dX11_becomes_68 (fun E u hx9 => hx _ _ _ _ _ _ _ (by decide) (by decide) hx9) (fun v68 ph68 h => ?_)
          refine RR.wid (k' := 0) (n' := 0) (by decide) (by decide) ?_
          refine r_istore_n (i := 3) (lv' := [(3, .int v68), (2, .int v1), (0, va_rf (some x0)), (1, .int x1)]) hC dX11_becomes_71 rfl (by decide) (by first | rfl | simp [lvs1, lvs2, List.filter, cat_rf, cat_i, cat_j]) ?_
          refine r_aload_n hC dX11_becomes_72 rfl 2 rfl ?_
          obtain ⟨v73, g73, h⟩ := h
          refine r_get hC (ci := 12) (kf := 11) (N := 12) (Cn := RX11) (T := TX11) rfl (by decide) tin_X11 fl_X11_65 rfl dX11_becomes_73 g73 ?_
          refine r_iload_n hC dX11_becomes_76 rfl 1 rfl ?_
          refine r_aload_n hC dX11_becomes_77 rfl 2 rfl ?_
          obtain ⟨v78, g78, h⟩ := h
          refine r_get hC (ci := 12) (kf := 0) (N := 12) (Cn := RX11) (T := TX11) rfl (by decide) tin_X11 fl_X11_10 rfl dX11_becomes_78 g78 ?_
          obtain ⟨a81, o81, h⟩ := h
          refine r_VV hC hAo [.int v1, va_rf v78] cal_X7_learn ml_X11_390 (ci := 8) rfl rfl rfl (c_X7_learn G _ _ _ _ _ _ h) o81 ⟨by decide, by decide⟩ ⟨by decide, by decide⟩ (by simp only [List.map_nil, List.map_cons, List.sum_nil, List.sum_cons, cat_rf, cat_i, cat_j]; decide) rfl dX11_becomes_81 (fun E u hx9 => hx _ _ _ _ _ _ _ (by decide) (by decide) hx9) (fun ph81 h => ?_)
          refine RR.wid (k' := 0) (n' := 0) (by decide) (by decide) ?_
          refine r_aload_n hC dX11_becomes_84 rfl 2 rfl ?_
          obtain ⟨v85, g85, h⟩ := h
          refine r_get hC (ci := 12) (kf := 0) (N := 12) (Cn := RX11) (T := TX11) rfl (by decide) tin_X11 fl_X11_10 rfl dX11_becomes_85 g85 ?_
          obtain ⟨a88, o88, h⟩ := h
          refine r_VV hC hAo [] cal_X9_empty ml_X11_93 (ci := 10) rfl rfl rfl (c_X9_empty G _ _ _ _ h) o88 ⟨by decide, by decide⟩ ⟨by decide, by decide⟩ (by simp only [List.map_nil, List.map_cons, List.sum_nil, List.sum_cons, cat_rf, cat_i, cat_j]; decide) rfl dX11_becomes_88 (fun E u hx9 => hx _ _ _ _ _ _ _ (by decide) (by decide) hx9) (fun ph88 h => ?_)
          refine RR.wid (k' := 0) (n' := 0) (by decide) (by decide) ?_
          refine r_iload_n hC dX11_becomes_91 rfl 0 rfl ?_
          exact hr _ _ _ _ _ _ dX11_becomes_92 (by decide) (by decide) h
        · have h := h.2 c9
          exact hnw _ _ _ _ _ _ _ _ _ _ _ _ 32 th_X11_142_146 rfl dX11_becomes_52 dX11_becomes_55 dX11_becomes_56 dX11_becomes_59 dX11_becomes_62 (by decide) (by simp only [List.map_nil, List.map_cons, List.sum_nil, List.sum_cons, cat_rf, cat_i, cat_j]; decide) (by decide) (by decide) (by decide) (by decide) h
  · have h := h.2 c9
    exact hn _ _ _ _ _ _ _ _ _ _ _ _ 17 th_X11_73_77 rfl dX11_becomes_9 dX11_becomes_12 dX11_becomes_13 dX11_becomes_15 dX11_becomes_18 (by decide) (by simp only [List.map_nil, List.map_cons, List.sum_nil, List.sum_cons, cat_rf, cat_i, cat_j]; decide) (by decide) (by decide) (by decide) (by decide) h
set_option maxRecDepth 20000 in
theorem b_X7_replace_5 {C : Cx} {Z : State → Prop} {A : Nat → Prop} {G : GG} {Q : Int32 → PH → Prop} {X : String → PH → Prop} (hC : CxOk RX7 cX7_replace 6 G A (rmk 1 21 0 0) C) (hAo : Ao (xs C)) (hr : HI C Z A G 6 cX7_replace 0 0 Q) (hx : HX C Z A G 6 0 0 X) (hn : HN C Z A G 6 RX7 cX7_replace 0 0 (rmk 1 21 0 0) X) (hnw : HNW C Z A G 6 RX7 cX7_replace 0 0 (rmk 1 21 0 0) X) (hnx : HNX C Z A G 6 RX7 cX7_replace 0 0 (rmk 1 21 0 0) X) (hi : True) : ∀ (fu : Nat) (x0 : Option Nat) (x1 : Int32) (x3 : Int32) (x4 : Int32) (ph : PH), w_X7_replace_5 Q X fu x0 x1 x3 x4 ph → RR C Z A G 6 5 [(0, va_rf x0), (1, .int x1), (3, .int x3), (4, .int x4)] [] ph 0 0 := by
  intro fu
  induction fu with
  | zero => intro x0 x1 x3 x4 ph h; exact h.elim
  | succ fu ih =>
    intro x0 x1 x3 x4 ph h
    refine r_iload hC dX7_replace_5 3 rfl ?_
    refine r_aload_n hC dX7_replace_7 rfl 0 rfl ?_
    refine r_iload_n hC dX7_replace_8 rfl 1 rfl ?_
    obtain ⟨a9, o9, h⟩ := h
    refine r_VI hC hAo [.int x1] cal_X7_lengthOf ml_X7_44 (ci := 8) rfl rfl rfl (c_X7_lengthOf G _ _ _ _ _ h) o9 ⟨by decide, by decide⟩ ⟨by decide, by decide⟩ (by simp only [List.map_nil, List.map_cons, List.sum_nil, List.sum_cons, cat_rf, cat_i, cat_j]; decide) rfl dX7_replace_9 (fun E u hx9 => hx _ _ _ _ _ _ _ (by decide) (by decide) hx9) (fun v9 ph9 h => ?_)
    refine RR.wid (k' := 0) (n' := 0) (by decide) (by decide) ?_
    refine r_icmp_ge (tgt := 73) hC dX7_replace_12 (by decide) (fun c9 => ?_) (fun c9 => ?_)
    · have h := h.1 c9
      refine r_iload_n hC dX7_replace_73 rfl 2 rfl ?_
      exact hr _ _ _ _ _ _ dX7_replace_74 (by decide) (by decide) h
    · have h := h.2 c9
      refine r_iconst (v := 4) hC dX7_replace_15 (by decide) ?_
      refine r_iload_n hC dX7_replace_16 rfl 1 rfl ?_
      refine r_imul hC dX7_replace_17 ?_
      refine r_iload hC dX7_replace_18 3 rfl ?_
      refine r_iadd hC dX7_replace_20 ?_
      obtain ⟨v21, ev21⟩ : ∃ z : Int32, z = ((4 : Int32) * x1) + x4 := ⟨_, rfl⟩
      have h := h v21 ev21
      refine RR.to (st' := [.int v21]) (by rw [ev21]) ?_
      refine r_istore (i := 5) (lv' := [(5, .int v21), (0, va_rf x0), (1, .int x1), (3, .int x3), (4, .int x4)]) hC dX7_replace_21 (by decide) (by first | rfl | simp [lvs1, lvs2, List.filter, cat_rf, cat_i, cat_j]) ?_
      refine r_iload_n hC dX7_replace_23 rfl 3 rfl ?_
      refine r_if_lt (tgt := 67) hC dX7_replace_24 (by decide) (fun c9 => ?_) (fun c9 => ?_)
      · have h := h.1 c9
        refine r_iinc (w := 4) (v := x4 + 1) (lv' := [(4, .int (x4 + 1)), (5, .int v21), (0, va_rf x0), (1, .int x1), (3, .int x3)]) hC dX7_replace_67 rfl rfl (by decide) (by first | rfl | simp [lvs1, List.filter, cat_rf, cat_i, cat_j]) ?_
        refine r_goto (tgt := 5) hC dX7_replace_70 (by decide) ?_
        exact RR.wid (by decide) (by decide) (RR.sub [2, 3, 4, 0] rfl (ih _ _ _ _ _ h))
      · have h := h.2 c9
        refine r_iload_n hC dX7_replace_27 rfl 3 rfl ?_
        refine r_aload_n hC dX7_replace_28 rfl 1 rfl ?_
        obtain ⟨v29, g29, h⟩ := h
        refine r_get hC (ci := 8) (kf := 3) (N := 4) (Cn := RX7) (T := TX7) rfl (by decide) tin_X7 fl_X7_21 rfl dX7_replace_29 g29 ?_
        obtain ⟨v32, g32, h⟩ := h
        refine r_alen hC dX7_replace_32 g32 ?_
        refine r_icmp_ge (tgt := 67) hC dX7_replace_33 (by decide) (fun c9 => ?_) (fun c9 => ?_)
        · have h := h.1 c9
          refine r_iinc (w := 4) (v := x4 + 1) (lv' := [(4, .int (x4 + 1)), (5, .int v21), (0, va_rf x0), (1, .int x1), (3, .int x3)]) hC dX7_replace_67 rfl rfl (by decide) (by first | rfl | simp [lvs1, List.filter, cat_rf, cat_i, cat_j]) ?_
          refine r_goto (tgt := 5) hC dX7_replace_70 (by decide) ?_
          exact RR.wid (by decide) (by decide) (RR.sub [2, 3, 4, 0] rfl (ih _ _ _ _ _ h))
        · have h := h.2 c9
          refine r_iload hC dX7_replace_36 0 rfl ?_
          refine r_if_lt (tgt := 67) hC dX7_replace_38 (by decide) (fun c9 => ?_) (fun c9 => ?_)
          · have h := h.1 c9
            refine r_iinc (w := 4) (v := x4 + 1) (lv' := [(4, .int (x4 + 1)), (5, .int v21), (0, va_rf x0), (1, .int x1), (3, .int x3)]) hC dX7_replace_67 rfl rfl (by decide) (by first | rfl | simp [lvs1, List.filter, cat_rf, cat_i, cat_j]) ?_
            refine r_goto (tgt := 5) hC dX7_replace_70 (by decide) ?_
            exact RR.wid (by decide) (by decide) (RR.sub [2, 3, 4, 0] rfl (ih _ _ _ _ _ h))
          · have h := h.2 c9
            refine r_iload hC dX7_replace_41 0 rfl ?_
            refine r_aload_n hC dX7_replace_43 rfl 1 rfl ?_
            obtain ⟨v44, g44, h⟩ := h
            refine r_get hC (ci := 8) (kf := 1) (N := 4) (Cn := RX7) (T := TX7) rfl (by decide) tin_X7 fl_X7_15 rfl dX7_replace_44 g44 ?_
            obtain ⟨v47, g47, h⟩ := h
            refine r_alen hC dX7_replace_47 g47 ?_
            refine r_icmp_ge (tgt := 67) hC dX7_replace_48 (by decide) (fun c9 => ?_) (fun c9 => ?_)
            · have h := h.1 c9
              refine r_iinc (w := 4) (v := x4 + 1) (lv' := [(4, .int (x4 + 1)), (5, .int v21), (0, va_rf x0), (1, .int x1), (3, .int x3)]) hC dX7_replace_67 rfl rfl (by decide) (by first | rfl | simp [lvs1, List.filter, cat_rf, cat_i, cat_j]) ?_
              refine r_goto (tgt := 5) hC dX7_replace_70 (by decide) ?_
              exact RR.wid (by decide) (by decide) (RR.sub [2, 3, 4, 0] rfl (ih _ _ _ _ _ h))
            · have h := h.2 c9
              refine r_aload_n hC dX7_replace_51 rfl 1 rfl ?_
              obtain ⟨v52, g52, h⟩ := h
              refine r_get hC (ci := 8) (kf := 3) (N := 4) (Cn := RX7) (T := TX7) rfl (by decide) tin_X7 fl_X7_21 rfl dX7_replace_52 g52 ?_
              refine r_iload_n hC dX7_replace_55 rfl 3 rfl ?_
              refine r_aload_n hC dX7_replace_56 rfl 1 rfl ?_
              obtain ⟨v57, g57, h⟩ := h
              refine r_get hC (ci := 8) (kf := 1) (N := 4) (Cn := RX7) (T := TX7) rfl (by decide) tin_X7 fl_X7_15 rfl dX7_replace_57 g57 ?_
              refine r_iload hC dX7_replace_60 0 rfl ?_
              obtain ⟨v62, g62, h⟩ := h
              refine r_iald hC dX7_replace_62 g62 ?_
              obtain ⟨ph63, g63, h⟩ := h
              refine r_iast hC dX7_replace_63 g63 ?_
              refine r_iinc (w := 3) (v := x3 + 1) (lv' := [(3, .int (x3 + 1)), (5, .int v21), (0, va_rf x0), (1, .int x1), (4, .int x4)]) hC dX7_replace_64 rfl rfl (by decide) (by first | rfl | simp [lvs1, List.filter, cat_rf, cat_i, cat_j]) ?_
              refine r_iinc (w := 4) (v := x4 + 1) (lv' := [(4, .int (x4 + 1)), (3, .int (x3 + 1)), (5, .int v21), (0, va_rf x0), (1, .int x1)]) hC dX7_replace_67 rfl rfl (by decide) (by first | rfl | simp [lvs1, List.filter, cat_rf, cat_i, cat_j]) ?_
              refine r_goto (tgt := 5) hC dX7_replace_70 (by decide) ?_
              exact RR.wid (by decide) (by decide) (RR.sub [3, 4, 1, 0] rfl (ih _ _ _ _ _ h))
set_option maxRecDepth 20000 in
theorem c_X7_replace (G : GG) (x0 : Nat) (x1 : Int32) (x2 : Int32) (ph : PH) (Q : Int32 → PH → Prop) (X : String → PH → Prop) (h : w_X7_replace x0 x1 x2 ph Q X) : Ct G yX7_replace (.code yX7_replace cX7_replace 6 (some (.int))) 1 21 0 0 [va_rf (some x0), .int x1, .int x2] ph (oI Q) X := by
  refine ct_of (lv0 := [(0, va_rf (some x0)), (1, .int x1), (2, .int x2)]) (by decide +kernel) (by simp [lg_sl, cat_rf, cat_i, cat_j]) (by simp [lv_args, cat_rf, cat_i, cat_j]) ?_
  intro C A hC hAo hex hrt hnm
  have hr : HI C (ZM C G A (oI Q) X 0 0) A G 6 cX7_replace 0 0 Q := fun pc lv v ph k n d hk hn hq => e_i hC hrt pc lv v ph k n d hk hn ⟨v, rfl, hq⟩
  have hx := e_x (Q := oI Q) (X := X) (mc := 0) (ms := 0) hC hex
  have hn := e_n (Q := oI Q) (X := X) (mc := 0) (ms := 0) hC hex
  have hnw := e_nw (Q := oI Q) (X := X) (mc := 0) (ms := 0) hC hex
  have hnx := e_nx (Q := oI Q) (X := X) (mc := 0) (ms := 0) hC hex
  have hi : True := trivial
  generalize ZM C G A (oI Q) X 0 0 = Z at *
  refine r_iload_n hC dX7_replace_0 rfl 2 rfl ?_
  refine r_istore_n (i := 3) (lv' := [(3, .int x2), (0, va_rf (some x0)), (1, .int x1), (2, .int x2)]) hC dX7_replace_1 rfl (by decide) (by first | rfl | simp [lvs1, lvs2, List.filter, cat_rf, cat_i, cat_j]) ?_
  refine r_iconst (v := 0) hC dX7_replace_2 (by decide) ?_
  refine r_istore (i := 4) (lv' := [(4, .int (0 : Int32)), (3, .int x2), (0, va_rf (some x0)), (1, .int x1), (2, .int x2)]) hC dX7_replace_3 (by decide) (by first | rfl | simp [lvs1, lvs2, List.filter, cat_rf, cat_i, cat_j]) ?_
  obtain ⟨fu5, h⟩ := h
  exact RR.wid (by decide) (by decide) (RR.sub [2, 3, 1, 0] rfl (b_X7_replace_5 hC hAo hr hx hn hnw hnx hi  fu5 _ _ _ _ _ h))
set_option maxRecDepth 20000 in
theorem b_X7_grow_68 {C : Cx} {Z : State → Prop} {A : Nat → Prop} {G : GG} {Q : Int32 → PH → Prop} {X : String → PH → Prop} {K12 : Option Nat → Int32 → Int32 → PH → Prop} (hC : CxOk RX7 cX7_grow 5 G A (rmk 2 46 0 0) C) (hAo : Ao (xs C)) (hr : HI C Z A G 5 cX7_grow 0 0 Q) (hx : HX C Z A G 5 0 0 X) (hn : HN C Z A G 5 RX7 cX7_grow 0 0 (rmk 2 46 0 0) X) (hnw : HNW C Z A G 5 RX7 cX7_grow 0 0 (rmk 2 46 0 0) X) (hnx : HNX C Z A G 5 RX7 cX7_grow 0 0 (rmk 2 46 0 0) X) (hi : True) (hK12 : ∀ (x0 : Option Nat) (x1 : Int32) (x2 : Int32) (ph : PH), K12 x0 x1 x2 ph → RR C Z A G 5 12 [(0, va_rf x0), (1, .int x1), (2, .int x2)] [] ph 0 0) : ∀ (fu : Nat) (x0 : Option Nat) (x2 : Int32) (x3 : Int32) (x4 : Int32) (ph : PH), w_X7_grow_68 Q X K12 fu x0 x2 x3 x4 ph → RR C Z A G 5 68 [(0, va_rf x0), (2, .int x2), (3, .int x3), (4, .int x4)] [] ph 0 0 := by
  intro fu
  induction fu with
  | zero => intro x0 x2 x3 x4 ph h; exact h.elim
  | succ fu ih =>
    intro x0 x2 x3 x4 ph h
    refine r_iload hC dX7_grow_68 3 rfl ?_
    refine r_aload_n hC dX7_grow_70 rfl 0 rfl ?_
    obtain ⟨v71, g71, h⟩ := h
    refine r_get hC (ci := 8) (kf := 2) (N := 4) (Cn := RX7) (T := TX7) rfl (by decide) tin_X7 fl_X7_18 rfl dX7_grow_71 g71 ?_
    obtain ⟨v74, g74, h⟩ := h
    refine r_alen hC dX7_grow_74 g74 ?_
    refine r_icmp_ge (tgt := 108) hC dX7_grow_75 (by decide) (fun c9 => ?_) (fun c9 => ?_)
    · have h := h.1 c9
      refine r_iload_n hC dX7_grow_108 rfl 2 rfl ?_
      refine r_istore_n (i := 1) (lv' := [(1, .int x3), (0, va_rf x0), (2, .int x2), (3, .int x3), (4, .int x4)]) hC dX7_grow_109 rfl (by decide) (by first | rfl | simp [lvs1, lvs2, List.filter, cat_rf, cat_i, cat_j]) ?_
      refine r_iinc (w := 2) (v := x2 + 1) (lv' := [(2, .int (x2 + 1)), (1, .int x3), (0, va_rf x0), (3, .int x3), (4, .int x4)]) hC dX7_grow_110 rfl rfl (by decide) (by first | rfl | simp [lvs1, List.filter, cat_rf, cat_i, cat_j]) ?_
      refine r_goto (tgt := 12) hC dX7_grow_113 (by decide) ?_
      exact RR.wid (by decide) (by decide) (RR.sub [2, 1, 0] rfl (hK12 _ _ _ _ h))
    · have h := h.2 c9
      refine r_iload hC dX7_grow_78 3 rfl ?_
      refine r_aload_n hC dX7_grow_80 rfl 0 rfl ?_
      obtain ⟨v81, g81, h⟩ := h
      refine r_get hC (ci := 8) (kf := 3) (N := 4) (Cn := RX7) (T := TX7) rfl (by decide) tin_X7 fl_X7_21 rfl dX7_grow_81 g81 ?_
      obtain ⟨v84, g84, h⟩ := h
      refine r_alen hC dX7_grow_84 g84 ?_
      refine r_icmp_ge (tgt := 108) hC dX7_grow_85 (by decide) (fun c9 => ?_) (fun c9 => ?_)
      · have h := h.1 c9
        refine r_iload_n hC dX7_grow_108 rfl 2 rfl ?_
        refine r_istore_n (i := 1) (lv' := [(1, .int x3), (0, va_rf x0), (2, .int x2), (3, .int x3), (4, .int x4)]) hC dX7_grow_109 rfl (by decide) (by first | rfl | simp [lvs1, lvs2, List.filter, cat_rf, cat_i, cat_j]) ?_
        refine r_iinc (w := 2) (v := x2 + 1) (lv' := [(2, .int (x2 + 1)), (1, .int x3), (0, va_rf x0), (3, .int x3), (4, .int x4)]) hC dX7_grow_110 rfl rfl (by decide) (by first | rfl | simp [lvs1, List.filter, cat_rf, cat_i, cat_j]) ?_
        refine r_goto (tgt := 12) hC dX7_grow_113 (by decide) ?_
        exact RR.wid (by decide) (by decide) (RR.sub [2, 1, 0] rfl (hK12 _ _ _ _ h))
      · have h := h.2 c9
        refine r_aload_n hC dX7_grow_88 rfl 0 rfl ?_
        obtain ⟨v89, g89, h⟩ := h
        refine r_get hC (ci := 8) (kf := 2) (N := 4) (Cn := RX7) (T := TX7) rfl (by decide) tin_X7 fl_X7_18 rfl dX7_grow_89 g89 ?_
        refine r_iload hC dX7_grow_92 3 rfl ?_
        refine r_aload_n hC dX7_grow_94 rfl 0 rfl ?_
        obtain ⟨v95, g95, h⟩ := h
        refine r_get hC (ci := 8) (kf := 3) (N := 4) (Cn := RX7) (T := TX7) rfl (by decide) tin_X7 fl_X7_21 rfl dX7_grow_95 g95 ?_
        refine r_iload hC dX7_grow_98 3 rfl ?_
        obtain ⟨v100, g100, h⟩ := h
        refine r_iald hC dX7_grow_100 g100 ?_
        obtain ⟨ph101, g101, h⟩ := h
        refine r_iast hC dX7_grow_101 g101 ?_
        refine r_iinc (w := 3) (v := x4 + 1) (lv' := [(4, .int (x4 + 1)), (0, va_rf x0), (2, .int x2), (3, .int x3)]) hC dX7_grow_102 rfl rfl (by decide) (by first | rfl | simp [lvs1, List.filter, cat_rf, cat_i, cat_j]) ?_
        refine r_goto (tgt := 68) hC dX7_grow_105 (by decide) ?_
        exact RR.wid (by decide) (by decide) (RR.sub [1, 2, 3, 0] rfl (ih _ _ _ _ _ h))
set_option maxRecDepth 20000 in
theorem b_X7_grow_30 {C : Cx} {Z : State → Prop} {A : Nat → Prop} {G : GG} {Q : Int32 → PH → Prop} {X : String → PH → Prop} {K12 : Option Nat → Int32 → Int32 → PH → Prop} (hC : CxOk RX7 cX7_grow 5 G A (rmk 2 46 0 0) C) (hAo : Ao (xs C)) (hr : HI C Z A G 5 cX7_grow 0 0 Q) (hx : HX C Z A G 5 0 0 X) (hn : HN C Z A G 5 RX7 cX7_grow 0 0 (rmk 2 46 0 0) X) (hnw : HNW C Z A G 5 RX7 cX7_grow 0 0 (rmk 2 46 0 0) X) (hnx : HNX C Z A G 5 RX7 cX7_grow 0 0 (rmk 2 46 0 0) X) (hi : True) (hK12 : ∀ (x0 : Option Nat) (x1 : Int32) (x2 : Int32) (ph : PH), K12 x0 x1 x2 ph → RR C Z A G 5 12 [(0, va_rf x0), (1, .int x1), (2, .int x2)] [] ph 0 0) : ∀ (fu : Nat) (x0 : Option Nat) (x1 : Int32) (x2 : Int32) (x3 : Int32) (x4 : Int32) (ph : PH), w_X7_grow_30 Q X K12 fu x0 x1 x2 x3 x4 ph → RR C Z A G 5 30 [(0, va_rf x0), (1, .int x1), (2, .int x2), (3, .int x3), (4, .int x4)] [] ph 0 0 := by
  intro fu
  induction fu with
  | zero => intro x0 x1 x2 x3 x4 ph h; exact h.elim
  | succ fu ih =>
    intro x0 x1 x2 x3 x4 ph h
    refine r_iload hC dX7_grow_30 4 rfl ?_
    refine r_iload_n hC dX7_grow_32 rfl 1 rfl ?_
    refine r_icmp_ge (tgt := 65) hC dX7_grow_33 (by decide) (fun c9 => ?_) (fun c9 => ?_)
    · have h := h.1 c9
      refine r_iconst (v := 0) hC dX7_grow_65 (by decide) ?_
      refine r_istore (i := 4) (lv' := [(4, .int (0 : Int32)), (0, va_rf x0), (1, .int x1), (2, .int x2), (3, .int x3)]) hC dX7_grow_66 (by decide) (by first | rfl | simp [lvs1, lvs2, List.filter, cat_rf, cat_i, cat_j]) ?_
      have k68_12 : ∀ (x0 : Option Nat) (x1 : Int32) (x2 : Int32) (ph : PH), K12 x0 x1 x2 ph → RR C Z A G 5 12 [(0, va_rf x0), (1, .int x1), (2, .int x2)] [] ph 0 0 := by
        intro x0 x1 x2 ph h
        exact RR.wid (by decide) (by decide) (RR.sub [0, 1, 2] rfl (hK12 _ _ _ _ h))
      obtain ⟨fu68, h⟩ := h
      exact RR.wid (by decide) (by decide) (RR.sub [1, 3, 4, 0] rfl (b_X7_grow_68 hC hAo hr hx hn hnw hnx hi k68_12 fu68 _ _ _ _ _ h))
    · have h := h.2 c9
      refine r_iload hC dX7_grow_36 4 rfl ?_
      refine r_aload_n hC dX7_grow_38 rfl 0 rfl ?_
      obtain ⟨v39, g39, h⟩ := h
      refine r_get hC (ci := 8) (kf := 2) (N := 4) (Cn := RX7) (T := TX7) rfl (by decide) tin_X7 fl_X7_18 rfl dX7_grow_39 g39 ?_
      obtain ⟨v42, g42, h⟩ := h
      refine r_alen hC dX7_grow_42 g42 ?_
      refine r_icmp_ge (tgt := 65) hC dX7_grow_43 (by decide) (fun c9 => ?_) (fun c9 => ?_)
      · have h := h.1 c9
        refine r_iconst (v := 0) hC dX7_grow_65 (by decide) ?_
        refine r_istore (i := 4) (lv' := [(4, .int (0 : Int32)), (0, va_rf x0), (1, .int x1), (2, .int x2), (3, .int x3)]) hC dX7_grow_66 (by decide) (by first | rfl | simp [lvs1, lvs2, List.filter, cat_rf, cat_i, cat_j]) ?_
        have k68_12 : ∀ (x0 : Option Nat) (x1 : Int32) (x2 : Int32) (ph : PH), K12 x0 x1 x2 ph → RR C Z A G 5 12 [(0, va_rf x0), (1, .int x1), (2, .int x2)] [] ph 0 0 := by
          intro x0 x1 x2 ph h
          exact RR.wid (by decide) (by decide) (RR.sub [0, 1, 2] rfl (hK12 _ _ _ _ h))
        obtain ⟨fu68, h⟩ := h
        exact RR.wid (by decide) (by decide) (RR.sub [1, 3, 4, 0] rfl (b_X7_grow_68 hC hAo hr hx hn hnw hnx hi k68_12 fu68 _ _ _ _ _ h))
      · have h := h.2 c9
        refine r_aload_n hC dX7_grow_46 rfl 0 rfl ?_
        refine r_aload_n hC dX7_grow_47 rfl 0 rfl ?_
        obtain ⟨v48, g48, h⟩ := h
        refine r_get hC (ci := 8) (kf := 2) (N := 4) (Cn := RX7) (T := TX7) rfl (by decide) tin_X7 fl_X7_18 rfl dX7_grow_48 g48 ?_
        refine r_iload hC dX7_grow_51 4 rfl ?_
        obtain ⟨v53, g53, h⟩ := h
        refine r_iald hC dX7_grow_53 g53 ?_
        refine r_iload_n hC dX7_grow_54 rfl 3 rfl ?_
        obtain ⟨a55, o55, h⟩ := h
        refine r_VI hC hAo [.int v53, .int x3] cal_X7_replace ml_X7_40 (ci := 8) rfl rfl rfl (c_X7_replace G _ _ _ _ _ _ h) o55 ⟨by decide, by decide⟩ ⟨by decide, by decide⟩ (by simp only [List.map_nil, List.map_cons, List.sum_nil, List.sum_cons, cat_rf, cat_i, cat_j]; decide) rfl dX7_grow_55 (fun E u hx9 => hx _ _ _ _ _ _ _ (by decide) (by decide) hx9) (fun v55 ph55 h => ?_)
        refine RR.wid (k' := 0) (n' := 0) (by decide) (by decide) ?_
        refine r_istore_n (i := 3) (lv' := [(3, .int v55), (0, va_rf x0), (1, .int x1), (2, .int x2), (4, .int x4)]) hC dX7_grow_58 rfl (by decide) (by first | rfl | simp [lvs1, lvs2, List.filter, cat_rf, cat_i, cat_j]) ?_
        refine r_iinc (w := 4) (v := x4 + 1) (lv' := [(4, .int (x4 + 1)), (3, .int v55), (0, va_rf x0), (1, .int x1), (2, .int x2)]) hC dX7_grow_59 rfl rfl (by decide) (by first | rfl | simp [lvs1, List.filter, cat_rf, cat_i, cat_j]) ?_
        refine r_goto (tgt := 30) hC dX7_grow_62 (by decide) ?_
        exact RR.wid (by decide) (by decide) (RR.sub [2, 3, 4, 1, 0] rfl (ih _ _ _ _ _ _ h))
set_option maxRecDepth 20000 in
theorem b_X7_grow_12 {C : Cx} {Z : State → Prop} {A : Nat → Prop} {G : GG} {Q : Int32 → PH → Prop} {X : String → PH → Prop} (hC : CxOk RX7 cX7_grow 5 G A (rmk 2 46 0 0) C) (hAo : Ao (xs C)) (hr : HI C Z A G 5 cX7_grow 0 0 Q) (hx : HX C Z A G 5 0 0 X) (hn : HN C Z A G 5 RX7 cX7_grow 0 0 (rmk 2 46 0 0) X) (hnw : HNW C Z A G 5 RX7 cX7_grow 0 0 (rmk 2 46 0 0) X) (hnx : HNX C Z A G 5 RX7 cX7_grow 0 0 (rmk 2 46 0 0) X) (hi : True) : ∀ (fu : Nat) (x0 : Option Nat) (x1 : Int32) (x2 : Int32) (ph : PH), w_X7_grow_12 Q X fu x0 x1 x2 ph → RR C Z A G 5 12 [(0, va_rf x0), (1, .int x1), (2, .int x2)] [] ph 0 0 := by
  intro fu
  induction fu with
  | zero => intro x0 x1 x2 ph h; exact h.elim
  | succ fu ih =>
    intro x0 x1 x2 ph h
    refine r_iload_n hC dX7_grow_12 rfl 2 rfl ?_
    refine r_bipush (v := 12) hC dX7_grow_13 (by decide) ?_
    refine r_icmp_ge (tgt := 116) hC dX7_grow_15 (by decide) (fun c9 => ?_) (fun c9 => ?_)
    · have h := h.1 c9
      refine r_iload_n hC dX7_grow_116 rfl 1 rfl ?_
      exact hr _ _ _ _ _ _ dX7_grow_117 (by decide) (by decide) h
    · have h := h.2 c9
      refine r_iload_n hC dX7_grow_18 rfl 1 rfl ?_
      refine r_sipush (v := 200) hC dX7_grow_19 (by decide) ?_
      refine r_icmp_ge (tgt := 116) hC dX7_grow_22 (by decide) (fun c9 => ?_) (fun c9 => ?_)
      · have h := h.1 c9
        refine r_iload_n hC dX7_grow_116 rfl 1 rfl ?_
        exact hr _ _ _ _ _ _ dX7_grow_117 (by decide) (by decide) h
      · have h := h.2 c9
        refine r_iconst (v := 0) hC dX7_grow_25 (by decide) ?_
        refine r_istore_n (i := 3) (lv' := [(3, .int (0 : Int32)), (0, va_rf x0), (1, .int x1), (2, .int x2)]) hC dX7_grow_26 rfl (by decide) (by first | rfl | simp [lvs1, lvs2, List.filter, cat_rf, cat_i, cat_j]) ?_
        refine r_iconst (v := 0) hC dX7_grow_27 (by decide) ?_
        refine r_istore (i := 4) (lv' := [(4, .int (0 : Int32)), (3, .int (0 : Int32)), (0, va_rf x0), (1, .int x1), (2, .int x2)]) hC dX7_grow_28 (by decide) (by first | rfl | simp [lvs1, lvs2, List.filter, cat_rf, cat_i, cat_j]) ?_
        have k30_12 : ∀ (x0 : Option Nat) (x1 : Int32) (x2 : Int32) (ph : PH), w_X7_grow_12 Q X fu x0 x1 x2 ph → RR C Z A G 5 12 [(0, va_rf x0), (1, .int x1), (2, .int x2)] [] ph 0 0 := by
          intro x0 x1 x2 ph h
          exact RR.wid (by decide) (by decide) (RR.sub [0, 1, 2] rfl (ih _ _ _ _ h))
        obtain ⟨fu30, h⟩ := h
        exact RR.wid (by decide) (by decide) (RR.sub [2, 3, 4, 1, 0] rfl (b_X7_grow_30 hC hAo hr hx hn hnw hnx hi k30_12 fu30 _ _ _ _ _ _ h))
set_option maxRecDepth 20000 in
theorem c_X7_grow (G : GG) (x0 : Nat) (ph : PH) (Q : Int32 → PH → Prop) (X : String → PH → Prop) (h : w_X7_grow x0 ph Q X) : Ct G yX7_grow (.code yX7_grow cX7_grow 5 (some (.int))) 2 46 0 0 [va_rf (some x0)] ph (oI Q) X := by
  refine ct_of (lv0 := [(0, va_rf (some x0))]) (by decide +kernel) (by simp [lg_sl, cat_rf, cat_i, cat_j]) (by simp [lv_args, cat_rf, cat_i, cat_j]) ?_
  intro C A hC hAo hex hrt hnm
  have hr : HI C (ZM C G A (oI Q) X 0 0) A G 5 cX7_grow 0 0 Q := fun pc lv v ph k n d hk hn hq => e_i hC hrt pc lv v ph k n d hk hn ⟨v, rfl, hq⟩
  have hx := e_x (Q := oI Q) (X := X) (mc := 0) (ms := 0) hC hex
  have hn := e_n (Q := oI Q) (X := X) (mc := 0) (ms := 0) hC hex
  have hnw := e_nw (Q := oI Q) (X := X) (mc := 0) (ms := 0) hC hex
  have hnx := e_nx (Q := oI Q) (X := X) (mc := 0) (ms := 0) hC hex
  have hi : True := trivial
  generalize ZM C G A (oI Q) X 0 0 = Z at *
  refine r_aload_n hC dX7_grow_0 rfl 0 rfl ?_
  obtain ⟨v1, g1, h⟩ := h
  refine r_get hC (ci := 8) (kf := 2) (N := 4) (Cn := RX7) (T := TX7) rfl (by decide) tin_X7 fl_X7_18 rfl dX7_grow_1 g1 ?_
  refine r_iconst (v := 0) hC dX7_grow_4 (by decide) ?_
  refine r_SV hC hAo [va_rf v1, .int (0 : Int32)] cal_J7_fill_53178 ml_X7_34 rfl (c_J7_fill_53178 G _ _ _ _ _ h) ⟨by decide, by decide⟩ ⟨by decide, by decide⟩ (by simp only [List.map_nil, List.map_cons, List.sum_nil, List.sum_cons, cat_rf, cat_i, cat_j]; decide) rfl dX7_grow_5 (fun E u hx9 => hx _ _ _ _ _ _ _ (by decide) (by decide) hx9) (fun ph5 h => ?_)
  refine RR.wid (k' := 0) (n' := 0) (by decide) (by decide) ?_
  refine r_iconst (v := 1) hC dX7_grow_8 (by decide) ?_
  refine r_istore_n (i := 1) (lv' := [(1, .int (1 : Int32)), (0, va_rf (some x0))]) hC dX7_grow_9 rfl (by decide) (by first | rfl | simp [lvs1, lvs2, List.filter, cat_rf, cat_i, cat_j]) ?_
  refine r_iconst (v := 0) hC dX7_grow_10 (by decide) ?_
  refine r_istore_n (i := 2) (lv' := [(2, .int (0 : Int32)), (1, .int (1 : Int32)), (0, va_rf (some x0))]) hC dX7_grow_11 rfl (by decide) (by first | rfl | simp [lvs1, lvs2, List.filter, cat_rf, cat_i, cat_j]) ?_
  obtain ⟨fu12, h⟩ := h
  exact RR.wid (by decide) (by decide) (RR.sub [2, 1, 0] rfl (b_X7_grow_12 hC hAo hr hx hn hnw hnx hi  fu12 _ _ _ _ h))
set_option maxRecDepth 20000 in
theorem b_X7_wordAt_5 {C : Cx} {Z : State → Prop} {A : Nat → Prop} {G : GG} {Q : Int32 → PH → Prop} {X : String → PH → Prop} (hC : CxOk RX7 cX7_wordAt 5 G A (rmk 0 0 0 0) C) (hAo : Ao (xs C)) (hr : HI C Z A G 5 cX7_wordAt 0 0 Q) (hx : HX C Z A G 5 0 0 X) (hn : HN C Z A G 5 RX7 cX7_wordAt 0 0 (rmk 0 0 0 0) X) (hnw : HNW C Z A G 5 RX7 cX7_wordAt 0 0 (rmk 0 0 0 0) X) (hnx : HNX C Z A G 5 RX7 cX7_wordAt 0 0 (rmk 0 0 0 0) X) (hi : True) : ∀ (fu : Nat) (x0 : Option Nat) (x1 : Int32) (x2 : Int32) (x3 : Int32) (x4 : Int32) (ph : PH), w_X7_wordAt_5 Q X fu x0 x1 x2 x3 x4 ph → RR C Z A G 5 5 [(0, va_rf x0), (1, .int x1), (2, .int x2), (3, .int x3), (4, .int x4)] [] ph 0 0 := by
  intro fu
  induction fu with
  | zero => intro x0 x1 x2 x3 x4 ph h; exact h.elim
  | succ fu ih =>
    intro x0 x1 x2 x3 x4 ph h
    refine r_iload hC dX7_wordAt_5 4 rfl ?_
    refine r_iload_n hC dX7_wordAt_7 rfl 1 rfl ?_
    refine r_iload_n hC dX7_wordAt_8 rfl 2 rfl ?_
    refine r_iadd hC dX7_wordAt_9 ?_
    refine r_icmp_ge (tgt := 50) hC dX7_wordAt_10 (by decide) (fun c9 => ?_) (fun c9 => ?_)
    · have h := h.1 c9
      refine r_iload_n hC dX7_wordAt_50 rfl 3 rfl ?_
      exact hr _ _ _ _ _ _ dX7_wordAt_51 (by decide) (by decide) h
    · have h := h.2 c9
      refine r_iconst (v := 3) hC dX7_wordAt_13 (by decide) ?_
      refine r_iload_n hC dX7_wordAt_14 rfl 3 rfl ?_
      refine r_imul hC dX7_wordAt_15 ?_
      refine r_iload hC dX7_wordAt_16 4 rfl ?_
      refine r_if_lt (tgt := 41) hC dX7_wordAt_18 (by decide) (fun c9 => ?_) (fun c9 => ?_)
      · have h := h.1 c9
        refine r_iconst (v := 0) hC dX7_wordAt_41 (by decide) ?_
        refine r_iadd hC dX7_wordAt_42 ?_
        obtain ⟨v43, ev43⟩ : ∃ z : Int32, z = ((3 : Int32) * x3) + (0 : Int32) := ⟨_, rfl⟩
        have h := h v43 ev43
        refine RR.to (st' := [.int v43]) (by rw [ev43]) ?_
        refine r_istore_n (i := 3) (lv' := [(3, .int v43), (0, va_rf x0), (1, .int x1), (2, .int x2), (4, .int x4)]) hC dX7_wordAt_43 rfl (by decide) (by first | rfl | simp [lvs1, lvs2, List.filter, cat_rf, cat_i, cat_j]) ?_
        refine r_iinc (w := 4) (v := x4 + 1) (lv' := [(4, .int (x4 + 1)), (3, .int v43), (0, va_rf x0), (1, .int x1), (2, .int x2)]) hC dX7_wordAt_44 rfl rfl (by decide) (by first | rfl | simp [lvs1, List.filter, cat_rf, cat_i, cat_j]) ?_
        refine r_goto (tgt := 5) hC dX7_wordAt_47 (by decide) ?_
        exact RR.wid (by decide) (by decide) (RR.sub [2, 3, 4, 1, 0] rfl (ih _ _ _ _ _ _ h))
      · have h := h.2 c9
        refine r_iload hC dX7_wordAt_21 4 rfl ?_
        refine r_aload_n hC dX7_wordAt_23 rfl 0 rfl ?_
        obtain ⟨v24, g24, h⟩ := h
        refine r_get hC (ci := 8) (kf := 2) (N := 4) (Cn := RX7) (T := TX7) rfl (by decide) tin_X7 fl_X7_18 rfl dX7_wordAt_24 g24 ?_
        obtain ⟨v27, g27, h⟩ := h
        refine r_alen hC dX7_wordAt_27 g27 ?_
        refine r_icmp_ge (tgt := 41) hC dX7_wordAt_28 (by decide) (fun c9 => ?_) (fun c9 => ?_)
        · have h := h.1 c9
          refine r_iconst (v := 0) hC dX7_wordAt_41 (by decide) ?_
          refine r_iadd hC dX7_wordAt_42 ?_
          obtain ⟨v43, ev43⟩ : ∃ z : Int32, z = ((3 : Int32) * x3) + (0 : Int32) := ⟨_, rfl⟩
          have h := h v43 ev43
          refine RR.to (st' := [.int v43]) (by rw [ev43]) ?_
          refine r_istore_n (i := 3) (lv' := [(3, .int v43), (0, va_rf x0), (1, .int x1), (2, .int x2), (4, .int x4)]) hC dX7_wordAt_43 rfl (by decide) (by first | rfl | simp [lvs1, lvs2, List.filter, cat_rf, cat_i, cat_j]) ?_
          refine r_iinc (w := 4) (v := x4 + 1) (lv' := [(4, .int (x4 + 1)), (3, .int v43), (0, va_rf x0), (1, .int x1), (2, .int x2)]) hC dX7_wordAt_44 rfl rfl (by decide) (by first | rfl | simp [lvs1, List.filter, cat_rf, cat_i, cat_j]) ?_
          refine r_goto (tgt := 5) hC dX7_wordAt_47 (by decide) ?_
          exact RR.wid (by decide) (by decide) (RR.sub [2, 3, 4, 1, 0] rfl (ih _ _ _ _ _ _ h))
        · have h := h.2 c9
          refine r_aload_n hC dX7_wordAt_31 rfl 0 rfl ?_
          obtain ⟨v32, g32, h⟩ := h
          refine r_get hC (ci := 8) (kf := 2) (N := 4) (Cn := RX7) (T := TX7) rfl (by decide) tin_X7 fl_X7_18 rfl dX7_wordAt_32 g32 ?_
          refine r_iload hC dX7_wordAt_35 4 rfl ?_
          obtain ⟨v37, g37, h⟩ := h
          refine r_iald hC dX7_wordAt_37 g37 ?_
          refine r_goto (tgt := 42) hC dX7_wordAt_38 (by decide) ?_
          refine r_iadd hC dX7_wordAt_42 ?_
          obtain ⟨v43, ev43⟩ : ∃ z : Int32, z = ((3 : Int32) * x3) + v37 := ⟨_, rfl⟩
          have h := h v43 ev43
          refine RR.to (st' := [.int v43]) (by rw [ev43]) ?_
          refine r_istore_n (i := 3) (lv' := [(3, .int v43), (0, va_rf x0), (1, .int x1), (2, .int x2), (4, .int x4)]) hC dX7_wordAt_43 rfl (by decide) (by first | rfl | simp [lvs1, lvs2, List.filter, cat_rf, cat_i, cat_j]) ?_
          refine r_iinc (w := 4) (v := x4 + 1) (lv' := [(4, .int (x4 + 1)), (3, .int v43), (0, va_rf x0), (1, .int x1), (2, .int x2)]) hC dX7_wordAt_44 rfl rfl (by decide) (by first | rfl | simp [lvs1, List.filter, cat_rf, cat_i, cat_j]) ?_
          refine r_goto (tgt := 5) hC dX7_wordAt_47 (by decide) ?_
          exact RR.wid (by decide) (by decide) (RR.sub [2, 3, 4, 1, 0] rfl (ih _ _ _ _ _ _ h))
set_option maxRecDepth 20000 in
theorem c_X7_wordAt (G : GG) (x0 : Nat) (x1 : Int32) (x2 : Int32) (ph : PH) (Q : Int32 → PH → Prop) (X : String → PH → Prop) (h : w_X7_wordAt x0 x1 x2 ph Q X) : Ct G yX7_wordAt (.code yX7_wordAt cX7_wordAt 5 (some (.int))) 0 0 0 0 [va_rf (some x0), .int x1, .int x2] ph (oI Q) X := by
  refine ct_of (lv0 := [(0, va_rf (some x0)), (1, .int x1), (2, .int x2)]) (by decide +kernel) (by simp [lg_sl, cat_rf, cat_i, cat_j]) (by simp [lv_args, cat_rf, cat_i, cat_j]) ?_
  intro C A hC hAo hex hrt hnm
  have hr : HI C (ZM C G A (oI Q) X 0 0) A G 5 cX7_wordAt 0 0 Q := fun pc lv v ph k n d hk hn hq => e_i hC hrt pc lv v ph k n d hk hn ⟨v, rfl, hq⟩
  have hx := e_x (Q := oI Q) (X := X) (mc := 0) (ms := 0) hC hex
  have hn := e_n (Q := oI Q) (X := X) (mc := 0) (ms := 0) hC hex
  have hnw := e_nw (Q := oI Q) (X := X) (mc := 0) (ms := 0) hC hex
  have hnx := e_nx (Q := oI Q) (X := X) (mc := 0) (ms := 0) hC hex
  have hi : True := trivial
  generalize ZM C G A (oI Q) X 0 0 = Z at *
  refine r_iconst (v := 0) hC dX7_wordAt_0 (by decide) ?_
  refine r_istore_n (i := 3) (lv' := [(3, .int (0 : Int32)), (0, va_rf (some x0)), (1, .int x1), (2, .int x2)]) hC dX7_wordAt_1 rfl (by decide) (by first | rfl | simp [lvs1, lvs2, List.filter, cat_rf, cat_i, cat_j]) ?_
  refine r_iload_n hC dX7_wordAt_2 rfl 2 rfl ?_
  refine r_istore (i := 4) (lv' := [(4, .int x1), (3, .int (0 : Int32)), (0, va_rf (some x0)), (1, .int x1), (2, .int x2)]) hC dX7_wordAt_3 (by decide) (by first | rfl | simp [lvs1, lvs2, List.filter, cat_rf, cat_i, cat_j]) ?_
  obtain ⟨fu5, h⟩ := h
  exact RR.wid (by decide) (by decide) (RR.sub [2, 3, 4, 1, 0] rfl (b_X7_wordAt_5 hC hAo hr hx hn hnw hnx hi  fu5 _ _ _ _ _ _ h))
set_option maxRecDepth 20000 in
theorem b_X7_isFound_2 {C : Cx} {Z : State → Prop} {A : Nat → Prop} {G : GG} {Q : Int32 → PH → Prop} {X : String → PH → Prop} (hC : CxOk RX7 cX7_isFound 4 G A (rmk 0 0 0 0) C) (hAo : Ao (xs C)) (hr : HZ C Z A G 4 cX7_isFound 0 0 Q) (hx : HX C Z A G 4 0 0 X) (hn : HN C Z A G 4 RX7 cX7_isFound 0 0 (rmk 0 0 0 0) X) (hnw : HNW C Z A G 4 RX7 cX7_isFound 0 0 (rmk 0 0 0 0) X) (hnx : HNX C Z A G 4 RX7 cX7_isFound 0 0 (rmk 0 0 0 0) X) (hi : True) : ∀ (fu : Nat) (x0 : Option Nat) (x1 : Int32) (x2 : Int32) (x3 : Int32) (ph : PH), w_X7_isFound_2 Q X fu x0 x1 x2 x3 ph → RR C Z A G 4 2 [(0, va_rf x0), (1, .int x1), (2, .int x2), (3, .int x3)] [] ph 0 0 := by
  intro fu
  induction fu with
  | zero => intro x0 x1 x2 x3 ph h; exact h.elim
  | succ fu ih =>
    intro x0 x1 x2 x3 ph h
    refine r_iload_n hC dX7_isFound_2 rfl 3 rfl ?_
    refine r_iload_n hC dX7_isFound_3 rfl 2 rfl ?_
    refine r_icmp_ge (tgt := 34) hC dX7_isFound_4 (by decide) (fun c9 => ?_) (fun c9 => ?_)
    · have h := h.1 c9
      refine r_iconst (v := 0) hC dX7_isFound_34 (by decide) ?_
      exact hr _ _ _ _ _ _ dX7_isFound_35 (by decide) (by decide) h
    · have h := h.2 c9
      refine r_iload_n hC dX7_isFound_7 rfl 3 rfl ?_
      refine r_aload_n hC dX7_isFound_8 rfl 0 rfl ?_
      obtain ⟨v9, g9, h⟩ := h
      refine r_get hC (ci := 8) (kf := 3) (N := 4) (Cn := RX7) (T := TX7) rfl (by decide) tin_X7 fl_X7_21 rfl dX7_isFound_9 g9 ?_
      obtain ⟨v12, g12, h⟩ := h
      refine r_alen hC dX7_isFound_12 g12 ?_
      refine r_icmp_ge (tgt := 34) hC dX7_isFound_13 (by decide) (fun c9 => ?_) (fun c9 => ?_)
      · have h := h.1 c9
        refine r_iconst (v := 0) hC dX7_isFound_34 (by decide) ?_
        exact hr _ _ _ _ _ _ dX7_isFound_35 (by decide) (by decide) h
      · have h := h.2 c9
        refine r_aload_n hC dX7_isFound_16 rfl 0 rfl ?_
        obtain ⟨v17, g17, h⟩ := h
        refine r_get hC (ci := 8) (kf := 3) (N := 4) (Cn := RX7) (T := TX7) rfl (by decide) tin_X7 fl_X7_21 rfl dX7_isFound_17 g17 ?_
        refine r_iload_n hC dX7_isFound_20 rfl 3 rfl ?_
        obtain ⟨v21, g21, h⟩ := h
        refine r_iald hC dX7_isFound_21 g21 ?_
        refine r_iload_n hC dX7_isFound_22 rfl 1 rfl ?_
        refine r_icmp_ne (tgt := 28) hC dX7_isFound_23 (by decide) (fun c9 => ?_) (fun c9 => ?_)
        · have h := h.1 c9
          refine r_iinc (w := 3) (v := x3 + 1) (lv' := [(3, .int (x3 + 1)), (0, va_rf x0), (1, .int x1), (2, .int x2)]) hC dX7_isFound_28 rfl rfl (by decide) (by first | rfl | simp [lvs1, List.filter, cat_rf, cat_i, cat_j]) ?_
          refine r_goto (tgt := 2) hC dX7_isFound_31 (by decide) ?_
          exact RR.wid (by decide) (by decide) (RR.sub [1, 2, 3, 0] rfl (ih _ _ _ _ _ h))
        · have h := h.2 c9
          refine r_iconst (v := 1) hC dX7_isFound_26 (by decide) ?_
          exact hr _ _ _ _ _ _ dX7_isFound_27 (by decide) (by decide) h
set_option maxRecDepth 20000 in
theorem c_X7_isFound (G : GG) (x0 : Nat) (x1 : Int32) (x2 : Int32) (ph : PH) (Q : Int32 → PH → Prop) (X : String → PH → Prop) (h : w_X7_isFound x0 x1 x2 ph Q X) : Ct G yX7_isFound (.code yX7_isFound cX7_isFound 4 (some (.boolean))) 0 0 0 0 [va_rf (some x0), .int x1, .int x2] ph (oI Q) X := by
  refine ct_of (lv0 := [(0, va_rf (some x0)), (1, .int x1), (2, .int x2)]) (by decide +kernel) (by simp [lg_sl, cat_rf, cat_i, cat_j]) (by simp [lv_args, cat_rf, cat_i, cat_j]) ?_
  intro C A hC hAo hex hrt hnm
  have hr : HZ C (ZM C G A (oI Q) X 0 0) A G 4 cX7_isFound 0 0 Q := fun pc lv v ph k n d hk hn hq => e_s hC (ty := .boolean) hrt pc lv v ph k n d hk hn ⟨hq.1, v, rfl, hq.2⟩
  have hx := e_x (Q := oI Q) (X := X) (mc := 0) (ms := 0) hC hex
  have hn := e_n (Q := oI Q) (X := X) (mc := 0) (ms := 0) hC hex
  have hnw := e_nw (Q := oI Q) (X := X) (mc := 0) (ms := 0) hC hex
  have hnx := e_nx (Q := oI Q) (X := X) (mc := 0) (ms := 0) hC hex
  have hi : True := trivial
  generalize ZM C G A (oI Q) X 0 0 = Z at *
  refine r_iconst (v := 0) hC dX7_isFound_0 (by decide) ?_
  refine r_istore_n (i := 3) (lv' := [(3, .int (0 : Int32)), (0, va_rf (some x0)), (1, .int x1), (2, .int x2)]) hC dX7_isFound_1 rfl (by decide) (by first | rfl | simp [lvs1, lvs2, List.filter, cat_rf, cat_i, cat_j]) ?_
  obtain ⟨fu2, h⟩ := h
  exact RR.wid (by decide) (by decide) (RR.sub [1, 2, 3, 0] rfl (b_X7_isFound_2 hC hAo hr hx hn hnw hnx hi  fu2 _ _ _ _ _ h))
set_option maxRecDepth 20000 in
theorem b_X7_countUnlike_10 {C : Cx} {Z : State → Prop} {A : Nat → Prop} {G : GG} {Q : Int32 → PH → Prop} {X : String → PH → Prop} (hC : CxOk RX7 cX7_countUnlike 6 G A (rmk 3 70 0 0) C) (hAo : Ao (xs C)) (hr : HI C Z A G 6 cX7_countUnlike 0 0 Q) (hx : HX C Z A G 6 0 0 X) (hn : HN C Z A G 6 RX7 cX7_countUnlike 0 0 (rmk 3 70 0 0) X) (hnw : HNW C Z A G 6 RX7 cX7_countUnlike 0 0 (rmk 3 70 0 0) X) (hnx : HNX C Z A G 6 RX7 cX7_countUnlike 0 0 (rmk 3 70 0 0) X) (hi : True) : ∀ (fu : Nat) (x0 : Option Nat) (x1 : Int32) (x2 : Int32) (x3 : Int32) (x4 : Int32) (ph : PH), w_X7_countUnlike_10 Q X fu x0 x1 x2 x3 x4 ph → RR C Z A G 6 10 [(0, va_rf x0), (1, .int x1), (2, .int x2), (3, .int x3), (4, .int x4)] [] ph 0 0 := by
  intro fu
  induction fu with
  | zero => intro x0 x1 x2 x3 x4 ph h; exact h.elim
  | succ fu ih =>
    intro x0 x1 x2 x3 x4 ph h
    refine r_iload hC dX7_countUnlike_10 4 rfl ?_
    refine r_iload_n hC dX7_countUnlike_12 rfl 1 rfl ?_
    refine r_iadd hC dX7_countUnlike_13 ?_
    refine r_iload_n hC dX7_countUnlike_14 rfl 2 rfl ?_
    refine r_icmp_gt (tgt := 63) hC dX7_countUnlike_15 (by decide) (fun c9 => ?_) (fun c9 => ?_)
    · have h := h.1 c9
      refine r_iload_n hC dX7_countUnlike_63 rfl 3 rfl ?_
      exact hr _ _ _ _ _ _ dX7_countUnlike_64 (by decide) (by decide) h
    · have h := h.2 c9
      refine r_aload_n hC dX7_countUnlike_18 rfl 0 rfl ?_
      refine r_iload hC dX7_countUnlike_19 4 rfl ?_
      refine r_iload_n hC dX7_countUnlike_21 rfl 1 rfl ?_
      obtain ⟨a22, o22, h⟩ := h
      refine r_VI hC hAo [.int x4, .int x1] cal_X7_wordAt ml_X7_51 (ci := 8) rfl rfl rfl (c_X7_wordAt G _ _ _ _ _ _ h) o22 ⟨by decide, by decide⟩ ⟨by decide, by decide⟩ (by simp only [List.map_nil, List.map_cons, List.sum_nil, List.sum_cons, cat_rf, cat_i, cat_j]; decide) rfl dX7_countUnlike_22 (fun E u hx9 => hx _ _ _ _ _ _ _ (by decide) (by decide) hx9) (fun v22 ph22 h => ?_)
      refine RR.wid (k' := 0) (n' := 0) (by decide) (by decide) ?_
      refine r_istore (i := 5) (lv' := [(5, .int v22), (0, va_rf x0), (1, .int x1), (2, .int x2), (3, .int x3), (4, .int x4)]) hC dX7_countUnlike_25 (by decide) (by first | rfl | simp [lvs1, lvs2, List.filter, cat_rf, cat_i, cat_j]) ?_
      refine r_aload_n hC dX7_countUnlike_27 rfl 1 rfl ?_
      refine r_iload hC dX7_countUnlike_28 0 rfl ?_
      refine r_iload_n hC dX7_countUnlike_30 rfl 4 rfl ?_
      obtain ⟨a31, o31, h⟩ := h
      refine r_VI hC hAo [.int v22, .int x3] cal_X7_isFound ml_X7_54 (ci := 8) rfl rfl rfl (c_X7_isFound G _ _ _ _ _ _ h) o31 ⟨by decide, by decide⟩ ⟨by decide, by decide⟩ (by simp only [List.map_nil, List.map_cons, List.sum_nil, List.sum_cons, cat_rf, cat_i, cat_j]; decide) rfl dX7_countUnlike_31 (fun E u hx9 => hx _ _ _ _ _ _ _ (by decide) (by decide) hx9) (fun v31 ph31 h => ?_)
      refine RR.wid (k' := 0) (n' := 0) (by decide) (by decide) ?_
      refine r_if_ne (tgt := 57) hC dX7_countUnlike_34 (by decide) (fun c9 => ?_) (fun c9 => ?_)
      · have h := h.1 c9
        refine r_iinc (w := 5) (v := x4 + 1) (lv' := [(4, .int (x4 + 1)), (5, .int v22), (0, va_rf x0), (1, .int x1), (2, .int x2), (3, .int x3)]) hC dX7_countUnlike_57 rfl rfl (by decide) (by first | rfl | simp [lvs1, List.filter, cat_rf, cat_i, cat_j]) ?_
        refine r_goto (tgt := 10) hC dX7_countUnlike_60 (by decide) ?_
        exact RR.wid (by decide) (by decide) (RR.sub [2, 3, 4, 5, 0] rfl (ih _ _ _ _ _ _ h))
      · have h := h.2 c9
        refine r_iload_n hC dX7_countUnlike_37 rfl 4 rfl ?_
        refine r_aload_n hC dX7_countUnlike_38 rfl 1 rfl ?_
        obtain ⟨v39, g39, h⟩ := h
        refine r_get hC (ci := 8) (kf := 3) (N := 4) (Cn := RX7) (T := TX7) rfl (by decide) tin_X7 fl_X7_21 rfl dX7_countUnlike_39 g39 ?_
        obtain ⟨v42, g42, h⟩ := h
        refine r_alen hC dX7_countUnlike_42 g42 ?_
        refine r_icmp_ge (tgt := 57) hC dX7_countUnlike_43 (by decide) (fun c9 => ?_) (fun c9 => ?_)
        · have h := h.1 c9
          refine r_iinc (w := 5) (v := x4 + 1) (lv' := [(4, .int (x4 + 1)), (5, .int v22), (0, va_rf x0), (1, .int x1), (2, .int x2), (3, .int x3)]) hC dX7_countUnlike_57 rfl rfl (by decide) (by first | rfl | simp [lvs1, List.filter, cat_rf, cat_i, cat_j]) ?_
          refine r_goto (tgt := 10) hC dX7_countUnlike_60 (by decide) ?_
          exact RR.wid (by decide) (by decide) (RR.sub [2, 3, 4, 5, 0] rfl (ih _ _ _ _ _ _ h))
        · have h := h.2 c9
          refine r_aload_n hC dX7_countUnlike_46 rfl 1 rfl ?_
          obtain ⟨v47, g47, h⟩ := h
          refine r_get hC (ci := 8) (kf := 3) (N := 4) (Cn := RX7) (T := TX7) rfl (by decide) tin_X7 fl_X7_21 rfl dX7_countUnlike_47 g47 ?_
          refine r_iload_n hC dX7_countUnlike_50 rfl 4 rfl ?_
          refine r_iload hC dX7_countUnlike_51 0 rfl ?_
          obtain ⟨ph53, g53, h⟩ := h
          refine r_iast hC dX7_countUnlike_53 g53 ?_
          refine r_iinc (w := 4) (v := x3 + 1) (lv' := [(3, .int (x3 + 1)), (5, .int v22), (0, va_rf x0), (1, .int x1), (2, .int x2), (4, .int x4)]) hC dX7_countUnlike_54 rfl rfl (by decide) (by first | rfl | simp [lvs1, List.filter, cat_rf, cat_i, cat_j]) ?_
          refine r_iinc (w := 5) (v := x4 + 1) (lv' := [(4, .int (x4 + 1)), (3, .int (x3 + 1)), (5, .int v22), (0, va_rf x0), (1, .int x1), (2, .int x2)]) hC dX7_countUnlike_57 rfl rfl (by decide) (by first | rfl | simp [lvs1, List.filter, cat_rf, cat_i, cat_j]) ?_
          refine r_goto (tgt := 10) hC dX7_countUnlike_60 (by decide) ?_
          exact RR.wid (by decide) (by decide) (RR.sub [3, 4, 5, 1, 0] rfl (ih _ _ _ _ _ _ h))
set_option maxRecDepth 20000 in
theorem c_X7_countUnlike (G : GG) (x0 : Nat) (x1 : Int32) (ph : PH) (Q : Int32 → PH → Prop) (X : String → PH → Prop) (h : w_X7_countUnlike x0 x1 ph Q X) : Ct G yX7_countUnlike (.code yX7_countUnlike cX7_countUnlike 6 (some (.int))) 3 70 0 0 [va_rf (some x0), .int x1] ph (oI Q) X := by
  refine ct_of (lv0 := [(0, va_rf (some x0)), (1, .int x1)]) (by decide +kernel) (by simp [lg_sl, cat_rf, cat_i, cat_j]) (by simp [lv_args, cat_rf, cat_i, cat_j]) ?_
  intro C A hC hAo hex hrt hnm
  have hr : HI C (ZM C G A (oI Q) X 0 0) A G 6 cX7_countUnlike 0 0 Q := fun pc lv v ph k n d hk hn hq => e_i hC hrt pc lv v ph k n d hk hn ⟨v, rfl, hq⟩
  have hx := e_x (Q := oI Q) (X := X) (mc := 0) (ms := 0) hC hex
  have hn := e_n (Q := oI Q) (X := X) (mc := 0) (ms := 0) hC hex
  have hnw := e_nw (Q := oI Q) (X := X) (mc := 0) (ms := 0) hC hex
  have hnx := e_nx (Q := oI Q) (X := X) (mc := 0) (ms := 0) hC hex
  have hi : True := trivial
  generalize ZM C G A (oI Q) X 0 0 = Z at *
  refine r_aload_n hC dX7_countUnlike_0 rfl 0 rfl ?_
  obtain ⟨a1, o1, h⟩ := h
  refine r_VI hC hAo [] cal_X7_grow ml_X7_47 (ci := 8) rfl rfl rfl (c_X7_grow G _ _ _ _ h) o1 ⟨by decide, by decide⟩ ⟨by decide, by decide⟩ (by simp only [List.map_nil, List.map_cons, List.sum_nil, List.sum_cons, cat_rf, cat_i, cat_j]; decide) rfl dX7_countUnlike_1 (fun E u hx9 => hx _ _ _ _ _ _ _ (by decide) (by decide) hx9) (fun v1 ph1 h => ?_)
  refine RR.wid (k' := 0) (n' := 0) (by decide) (by decide) ?_
  refine r_istore_n (i := 2) (lv' := [(2, .int v1), (0, va_rf (some x0)), (1, .int x1)]) hC dX7_countUnlike_4 rfl (by decide) (by first | rfl | simp [lvs1, lvs2, List.filter, cat_rf, cat_i, cat_j]) ?_
  refine r_iconst (v := 0) hC dX7_countUnlike_5 (by decide) ?_
  refine r_istore_n (i := 3) (lv' := [(3, .int (0 : Int32)), (2, .int v1), (0, va_rf (some x0)), (1, .int x1)]) hC dX7_countUnlike_6 rfl (by decide) (by first | rfl | simp [lvs1, lvs2, List.filter, cat_rf, cat_i, cat_j]) ?_
  refine r_iconst (v := 0) hC dX7_countUnlike_7 (by decide) ?_
  refine r_istore (i := 4) (lv' := [(4, .int (0 : Int32)), (3, .int (0 : Int32)), (2, .int v1), (0, va_rf (some x0)), (1, .int x1)]) hC dX7_countUnlike_8 (by decide) (by first | rfl | simp [lvs1, lvs2, List.filter, cat_rf, cat_i, cat_j]) ?_
  obtain ⟨fu10, h⟩ := h
  exact RR.wid (by decide) (by decide) (RR.sub [3, 4, 2, 1, 0] rfl (b_X7_countUnlike_10 hC hAo hr hx hn hnw hnx hi  fu10 _ _ _ _ _ _ h))
set_option maxRecDepth 20000 in
theorem c_X11_complexity (G : GG) (x0 : Nat) (x1 : Int32) (ph : PH) (Q : Int32 → PH → Prop) (X : String → PH → Prop) (h : w_X11_complexity x0 x1 ph Q X) : Ct G yX11_complexity (.code yX11_complexity cX11_complexity 2 (some (.int))) 7 112 1 6 [va_rf (some x0), .int x1] ph (oI Q) X := by
  refine ct_of (lv0 := [(0, va_rf (some x0)), (1, .int x1)]) (by decide +kernel) (by simp [lg_sl, cat_rf, cat_i, cat_j]) (by simp [lv_args, cat_rf, cat_i, cat_j]) ?_
  intro C A hC hAo hex hrt hnm
  have hr : HI C (ZM C G A (oI Q) X 1 6) A G 2 cX11_complexity 1 6 Q := fun pc lv v ph k n d hk hn hq => e_i hC hrt pc lv v ph k n d hk hn ⟨v, rfl, hq⟩
  have hx := e_x (Q := oI Q) (X := X) (mc := 1) (ms := 6) hC hex
  have hn := e_n (Q := oI Q) (X := X) (mc := 1) (ms := 6) hC hex
  have hnw := e_nw (Q := oI Q) (X := X) (mc := 1) (ms := 6) hC hex
  have hnx := e_nx (Q := oI Q) (X := X) (mc := 1) (ms := 6) hC hex
  have hi : True := trivial
  generalize ZM C G A (oI Q) X 1 6 = Z at *
  refine r_iload_n hC dX11_complexity_0 rfl 1 rfl ?_
  refine r_iconst (v := 1) hC dX11_complexity_1 (by decide) ?_
  refine r_bipush (v := 8) hC dX11_complexity_2 (by decide) ?_
  refine r_SV hC hAo [.int x1, .int (1 : Int32), .int (8 : Int32)] cal_X11_demandRange ml_X11_96 rfl (c_X11_demandRange G _ _ _ _ _ _ h) ⟨by decide, by decide⟩ ⟨by decide, by decide⟩ (by simp only [List.map_nil, List.map_cons, List.sum_nil, List.sum_cons, cat_rf, cat_i, cat_j]; decide) rfl dX11_complexity_4 (fun E u hx9 => hx _ _ _ _ _ _ _ (by decide) (by decide) hx9) (fun ph4 h => ?_)
  refine RR.wid (k' := 1) (n' := 6) (by decide) (by decide) ?_
  refine r_aload_n hC dX11_complexity_7 rfl 0 rfl ?_
  obtain ⟨v8, g8, h⟩ := h
  refine r_get hC (ci := 12) (kf := 11) (N := 12) (Cn := RX11) (T := TX11) rfl (by decide) tin_X11 fl_X11_65 rfl dX11_complexity_8 g8 ?_
  refine r_iload_n hC dX11_complexity_11 rfl 1 rfl ?_
  obtain ⟨a12, o12, h⟩ := h
  refine r_VI hC hAo [.int x1] cal_X7_countUnlike ml_X11_394 (ci := 8) rfl rfl rfl (c_X7_countUnlike G _ _ _ _ _ h) o12 ⟨by decide, by decide⟩ ⟨by decide, by decide⟩ (by simp only [List.map_nil, List.map_cons, List.sum_nil, List.sum_cons, cat_rf, cat_i, cat_j]; decide) rfl dX11_complexity_12 (fun E u hx9 => hx _ _ _ _ _ _ _ (by decide) (by decide) hx9) (fun v12 ph12 h => ?_)
  refine RR.wid (k' := 1) (n' := 6) (by decide) (by decide) ?_
  exact hr _ _ _ _ _ _ dX11_complexity_15 (by decide) (by decide) h
set_option maxRecDepth 20000 in
theorem b_X3_countEdges_4 {C : Cx} {Z : State → Prop} {A : Nat → Prop} {G : GG} {Q : Int32 → PH → Prop} {X : String → PH → Prop} (hC : CxOk RX3 cX3_countEdges 3 G A (rmk 1 20 0 0) C) (hAo : Ao (xs C)) (hr : HI C Z A G 3 cX3_countEdges 0 0 Q) (hx : HX C Z A G 3 0 0 X) (hn : HN C Z A G 3 RX3 cX3_countEdges 0 0 (rmk 1 20 0 0) X) (hnw : HNW C Z A G 3 RX3 cX3_countEdges 0 0 (rmk 1 20 0 0) X) (hnx : HNX C Z A G 3 RX3 cX3_countEdges 0 0 (rmk 1 20 0 0) X) (hi : True) : ∀ (fu : Nat) (x0 : Option Nat) (x1 : Int32) (x2 : Int32) (ph : PH), w_X3_countEdges_4 Q X fu x0 x1 x2 ph → RR C Z A G 3 4 [(0, va_rf x0), (1, .int x1), (2, .int x2)] [] ph 0 0 := by
  intro fu
  induction fu with
  | zero => intro x0 x1 x2 ph h; exact h.elim
  | succ fu ih =>
    intro x0 x1 x2 ph h
    refine r_iload_n hC dX3_countEdges_4 rfl 2 rfl ?_
    refine r_aload_n hC dX3_countEdges_5 rfl 0 rfl ?_
    obtain ⟨v6, g6, h⟩ := h
    refine r_get hC (ci := 6) (kf := 2) (N := 3) (Cn := RX3) (T := TX3) rfl (by decide) tin_X3 fl_X3_18 rfl dX3_countEdges_6 g6 ?_
    obtain ⟨v9, g9, h⟩ := h
    refine r_alen hC dX3_countEdges_9 g9 ?_
    refine r_icmp_ge (tgt := 31) hC dX3_countEdges_10 (by decide) (fun c9 => ?_) (fun c9 => ?_)
    · have h := h.1 c9
      refine r_iload_n hC dX3_countEdges_31 rfl 1 rfl ?_
      exact hr _ _ _ _ _ _ dX3_countEdges_32 (by decide) (by decide) h
    · have h := h.2 c9
      refine r_iload_n hC dX3_countEdges_13 rfl 1 rfl ?_
      refine r_aload_n hC dX3_countEdges_14 rfl 0 rfl ?_
      obtain ⟨v15, g15, h⟩ := h
      refine r_get hC (ci := 6) (kf := 2) (N := 3) (Cn := RX3) (T := TX3) rfl (by decide) tin_X3 fl_X3_18 rfl dX3_countEdges_15 g15 ?_
      refine r_iload_n hC dX3_countEdges_18 rfl 2 rfl ?_
      obtain ⟨v19, g19, h⟩ := h
      refine r_iald hC dX3_countEdges_19 g19 ?_
      refine r_SI hC hAo [.int v19] cal_J6_bitCount_0f7a4 ml_X3_29 rfl (c_J6_bitCount_0f7a4 G _ _ _ _ h) ⟨by decide, by decide⟩ ⟨by decide, by decide⟩ (by simp only [List.map_nil, List.map_cons, List.sum_nil, List.sum_cons, cat_rf, cat_i, cat_j]; decide) rfl dX3_countEdges_20 (fun E u hx9 => hx _ _ _ _ _ _ _ (by decide) (by decide) hx9) (fun v20 ph20 h => ?_)
      refine RR.wid (k' := 0) (n' := 0) (by decide) (by decide) ?_
      refine r_iadd hC dX3_countEdges_23 ?_
      obtain ⟨v24, ev24⟩ : ∃ z : Int32, z = x1 + v20 := ⟨_, rfl⟩
      have h := h v24 ev24
      refine RR.to (st' := [.int v24]) (by rw [ev24]) ?_
      refine r_istore_n (i := 1) (lv' := [(1, .int v24), (0, va_rf x0), (2, .int x2)]) hC dX3_countEdges_24 rfl (by decide) (by first | rfl | simp [lvs1, lvs2, List.filter, cat_rf, cat_i, cat_j]) ?_
      refine r_iinc (w := 2) (v := x2 + 1) (lv' := [(2, .int (x2 + 1)), (1, .int v24), (0, va_rf x0)]) hC dX3_countEdges_25 rfl rfl (by decide) (by first | rfl | simp [lvs1, List.filter, cat_rf, cat_i, cat_j]) ?_
      refine r_goto (tgt := 4) hC dX3_countEdges_28 (by decide) ?_
      exact RR.wid (by decide) (by decide) (RR.sub [2, 1, 0] rfl (ih _ _ _ _ h))
set_option maxRecDepth 20000 in
theorem c_X3_countEdges (G : GG) (x0 : Nat) (ph : PH) (Q : Int32 → PH → Prop) (X : String → PH → Prop) (h : w_X3_countEdges x0 ph Q X) : Ct G yX3_countEdges (.code yX3_countEdges cX3_countEdges 3 (some (.int))) 1 20 0 0 [va_rf (some x0)] ph (oI Q) X := by
  refine ct_of (lv0 := [(0, va_rf (some x0))]) (by decide +kernel) (by simp [lg_sl, cat_rf, cat_i, cat_j]) (by simp [lv_args, cat_rf, cat_i, cat_j]) ?_
  intro C A hC hAo hex hrt hnm
  have hr : HI C (ZM C G A (oI Q) X 0 0) A G 3 cX3_countEdges 0 0 Q := fun pc lv v ph k n d hk hn hq => e_i hC hrt pc lv v ph k n d hk hn ⟨v, rfl, hq⟩
  have hx := e_x (Q := oI Q) (X := X) (mc := 0) (ms := 0) hC hex
  have hn := e_n (Q := oI Q) (X := X) (mc := 0) (ms := 0) hC hex
  have hnw := e_nw (Q := oI Q) (X := X) (mc := 0) (ms := 0) hC hex
  have hnx := e_nx (Q := oI Q) (X := X) (mc := 0) (ms := 0) hC hex
  have hi : True := trivial
  generalize ZM C G A (oI Q) X 0 0 = Z at *
  refine r_iconst (v := 0) hC dX3_countEdges_0 (by decide) ?_
  refine r_istore_n (i := 1) (lv' := [(1, .int (0 : Int32)), (0, va_rf (some x0))]) hC dX3_countEdges_1 rfl (by decide) (by first | rfl | simp [lvs1, lvs2, List.filter, cat_rf, cat_i, cat_j]) ?_
  refine r_iconst (v := 0) hC dX3_countEdges_2 (by decide) ?_
  refine r_istore_n (i := 2) (lv' := [(2, .int (0 : Int32)), (1, .int (0 : Int32)), (0, va_rf (some x0))]) hC dX3_countEdges_3 rfl (by decide) (by first | rfl | simp [lvs1, lvs2, List.filter, cat_rf, cat_i, cat_j]) ?_
  obtain ⟨fu4, h⟩ := h
  exact RR.wid (by decide) (by decide) (RR.sub [2, 1, 0] rfl (b_X3_countEdges_4 hC hAo hr hx hn hnw hnx hi  fu4 _ _ _ _ h))
set_option maxRecDepth 20000 in
theorem b_X11_checksum_4 {C : Cx} {Z : State → Prop} {A : Nat → Prop} {G : GG} {Q : Int64 → PH → Prop} {X : String → PH → Prop} (hC : CxOk RX11 cX11_checksum 5 G A (rmk 4 93 0 0) C) (hAo : Ao (xs C)) (hr : HJ C Z A G 5 cX11_checksum 0 0 Q) (hx : HX C Z A G 5 0 0 X) (hn : HN C Z A G 5 RX11 cX11_checksum 0 0 (rmk 4 93 0 0) X) (hnw : HNW C Z A G 5 RX11 cX11_checksum 0 0 (rmk 4 93 0 0) X) (hnx : HNX C Z A G 5 RX11 cX11_checksum 0 0 (rmk 4 93 0 0) X) (hi : True) : ∀ (fu : Nat) (x0 : Option Nat) (x1 : Int64) (x3 : Int32) (ph : PH), w_X11_checksum_4 Q X fu x0 x1 x3 ph → RR C Z A G 5 4 [(0, va_rf x0), (1, .long x1), (3, .int x3)] [] ph 0 0 := by
  intro fu
  induction fu with
  | zero => intro x0 x1 x3 ph h; exact h.elim
  | succ fu ih =>
    intro x0 x1 x3 ph h
    refine r_iload_n hC dX11_checksum_4 rfl 2 rfl ?_
    refine r_aload_n hC dX11_checksum_5 rfl 0 rfl ?_
    obtain ⟨v6, g6, h⟩ := h
    refine r_get hC (ci := 12) (kf := 2) (N := 12) (Cn := RX11) (T := TX11) rfl (by decide) tin_X11 fl_X11_397 rfl dX11_checksum_6 g6 ?_
    refine r_icmp_ge (tgt := 56) hC dX11_checksum_9 (by decide) (fun c9 => ?_) (fun c9 => ?_)
    · have h := h.1 c9
      refine r_lload_n hC dX11_checksum_56 rfl 1 rfl ?_
      exact hr _ _ _ _ _ _ dX11_checksum_57 (by decide) (by decide) h
    · have h := h.2 c9
      refine r_aload_n hC dX11_checksum_12 rfl 0 rfl ?_
      refine r_iload_n hC dX11_checksum_13 rfl 2 rfl ?_
      obtain ⟨a14, o14, h⟩ := h
      refine r_VR hC hAo [.int x3] cal_X11_shiftOrNull ml_X11_400 (ci := 12) rfl rfl rfl (c_X11_shiftOrNull G _ _ _ _ _ h) o14 ⟨by decide, by decide⟩ ⟨by decide, by decide⟩ (by simp only [List.map_nil, List.map_cons, List.sum_nil, List.sum_cons, cat_rf, cat_i, cat_j]; decide) rfl dX11_checksum_14 (fun E u hx9 => hx _ _ _ _ _ _ _ (by decide) (by decide) hx9) (fun v14 ph14 h => ?_)
      refine RR.wid (k' := 0) (n' := 0) (by decide) (by decide) ?_
      refine r_astore (i := 4) (lv' := [(4, va_rf v14), (0, va_rf x0), (1, .long x1), (3, .int x3)]) hC dX11_checksum_17 (by decide) (by first | rfl | simp [lvs1, lvs2, List.filter, cat_rf, cat_i, cat_j]) ?_
      refine r_aload hC dX11_checksum_19 0 rfl ?_
      refine r_ifnull (tgt := 50) hC dX11_checksum_21 (by decide) (fun c9 => ?_) (fun c9 => ?_)
      · have h := h.1 c9
        refine r_iinc (w := 3) (v := x3 + 1) (lv' := [(3, .int (x3 + 1)), (4, va_rf v14), (0, va_rf x0), (1, .long x1)]) hC dX11_checksum_50 rfl rfl (by decide) (by first | rfl | simp [lvs1, List.filter, cat_rf, cat_i, cat_j]) ?_
        refine r_goto (tgt := 4) hC dX11_checksum_53 (by decide) ?_
        exact RR.wid (by decide) (by decide) (RR.sub [2, 3, 0] rfl (ih _ _ _ _ h))
      · have h := h.2 c9
        refine r_ldc2 (v := 31) hC tb_1370 dX11_checksum_24 ?_
        refine r_lload_n hC dX11_checksum_27 rfl 2 rfl ?_
        refine r_lmul hC dX11_checksum_28 ?_
        refine r_aload hC dX11_checksum_29 0 rfl ?_
        obtain ⟨a31, o31, h⟩ := h
        refine r_VI hC hAo [] cal_X3_liveSet ml_X11_156 (ci := 6) rfl rfl rfl (c_X3_liveSet G _ _ _ _ h) o31 ⟨by decide, by decide⟩ ⟨by decide, by decide⟩ (by simp only [List.map_nil, List.map_cons, List.sum_nil, List.sum_cons, cat_rf, cat_i, cat_j]; decide) rfl dX11_checksum_31 (fun E u hx9 => hx _ _ _ _ _ _ _ (by decide) (by decide) hx9) (fun v31 ph31 h => ?_)
        refine RR.wid (k' := 0) (n' := 0) (by decide) (by decide) ?_
        refine r_SI hC hAo [.int v31] cal_J6_bitCount_0f7a4 ml_X11_160 rfl (c_J6_bitCount_0f7a4 G _ _ _ _ h) ⟨by decide, by decide⟩ ⟨by decide, by decide⟩ (by simp only [List.map_nil, List.map_cons, List.sum_nil, List.sum_cons, cat_rf, cat_i, cat_j]; decide) rfl dX11_checksum_34 (fun E u hx9 => hx _ _ _ _ _ _ _ (by decide) (by decide) hx9) (fun v34 ph34 h => ?_)
        refine RR.wid (k' := 0) (n' := 0) (by decide) (by decide) ?_
        refine r_i2l hC dX11_checksum_37 ?_
        refine r_ladd hC dX11_checksum_38 ?_
        refine r_bipush (v := 7) hC dX11_checksum_39 (by decide) ?_
        refine r_aload hC dX11_checksum_41 0 rfl ?_
        obtain ⟨a43, o43, h⟩ := h
        refine r_VI hC hAo [] cal_X3_countEdges ml_X11_405 (ci := 6) rfl rfl rfl (c_X3_countEdges G _ _ _ _ h) o43 ⟨by decide, by decide⟩ ⟨by decide, by decide⟩ (by simp only [List.map_nil, List.map_cons, List.sum_nil, List.sum_cons, cat_rf, cat_i, cat_j]; decide) rfl dX11_checksum_43 (fun E u hx9 => hx _ _ _ _ _ _ _ (by decide) (by decide) hx9) (fun v43 ph43 h => ?_)
        refine RR.wid (k' := 0) (n' := 0) (by decide) (by decide) ?_
        refine r_imul hC dX11_checksum_46 ?_
        refine r_i2l hC dX11_checksum_47 ?_
        refine r_ladd hC dX11_checksum_48 ?_
        obtain ⟨v49, ev49⟩ : ∃ z : Int64, z = (((31 : Int64) * x1) + v34.toInt64) + (((7 : Int32) * v43).toInt64) := ⟨_, rfl⟩
        have h := h v49 ev49
        refine RR.to (st' := [.long v49]) (by rw [ev49]) ?_
        refine r_lstore_n (i := 1) (lv' := [(1, .long v49), (4, va_rf v14), (0, va_rf x0), (3, .int x3)]) hC dX11_checksum_49 rfl (by decide) (by first | rfl | simp [lvs1, lvs2, List.filter, cat_rf, cat_i, cat_j]) ?_
        refine r_iinc (w := 3) (v := x3 + 1) (lv' := [(3, .int (x3 + 1)), (1, .long v49), (4, va_rf v14), (0, va_rf x0)]) hC dX11_checksum_50 rfl rfl (by decide) (by first | rfl | simp [lvs1, List.filter, cat_rf, cat_i, cat_j]) ?_
        refine r_goto (tgt := 4) hC dX11_checksum_53 (by decide) ?_
        exact RR.wid (by decide) (by decide) (RR.sub [3, 1, 0] rfl (ih _ _ _ _ h))
set_option maxRecDepth 20000 in
theorem c_X11_checksum (G : GG) (x0 : Nat) (ph : PH) (Q : Int64 → PH → Prop) (X : String → PH → Prop) (h : w_X11_checksum x0 ph Q X) : Ct G yX11_checksum (.code yX11_checksum cX11_checksum 5 (some (.long))) 4 93 0 0 [va_rf (some x0)] ph (oJ Q) X := by
  refine ct_of (lv0 := [(0, va_rf (some x0))]) (by decide +kernel) (by simp [lg_sl, cat_rf, cat_i, cat_j]) (by simp [lv_args, cat_rf, cat_i, cat_j]) ?_
  intro C A hC hAo hex hrt hnm
  have hr : HJ C (ZM C G A (oJ Q) X 0 0) A G 5 cX11_checksum 0 0 Q := fun pc lv v ph k n d hk hn hq => e_j hC hrt pc lv v ph k n d hk hn ⟨v, rfl, hq⟩
  have hx := e_x (Q := oJ Q) (X := X) (mc := 0) (ms := 0) hC hex
  have hn := e_n (Q := oJ Q) (X := X) (mc := 0) (ms := 0) hC hex
  have hnw := e_nw (Q := oJ Q) (X := X) (mc := 0) (ms := 0) hC hex
  have hnx := e_nx (Q := oJ Q) (X := X) (mc := 0) (ms := 0) hC hex
  have hi : True := trivial
  generalize ZM C G A (oJ Q) X 0 0 = Z at *
  refine r_lconst (v := 0) hC dX11_checksum_0 (by decide) ?_
  refine r_lstore_n (i := 1) (lv' := [(1, .long (0 : Int64)), (0, va_rf (some x0))]) hC dX11_checksum_1 rfl (by decide) (by first | rfl | simp [lvs1, lvs2, List.filter, cat_rf, cat_i, cat_j]) ?_
  refine r_iconst (v := 0) hC dX11_checksum_2 (by decide) ?_
  refine r_istore_n (i := 3) (lv' := [(3, .int (0 : Int32)), (1, .long (0 : Int64)), (0, va_rf (some x0))]) hC dX11_checksum_3 rfl (by decide) (by first | rfl | simp [lvs1, lvs2, List.filter, cat_rf, cat_i, cat_j]) ?_
  obtain ⟨fu4, h⟩ := h
  exact RR.wid (by decide) (by decide) (RR.sub [2, 1, 0] rfl (b_X11_checksum_4 hC hAo hr hx hn hnw hnx hi  fu4 _ _ _ _ h))
set_option maxRecDepth 20000 in
theorem b_X9_isInBounds_27 {C : Cx} {Z : State → Prop} {A : Nat → Prop} {G : GG} {Q : Int32 → PH → Prop} {X : String → PH → Prop} (hC : CxOk RX9 cX9_isInBounds 3 G A (rmk 2 40 0 0) C) (hAo : Ao (xs C)) (hr : HZ C Z A G 3 cX9_isInBounds 0 0 Q) (hx : HX C Z A G 3 0 0 X) (hn : HN C Z A G 3 RX9 cX9_isInBounds 0 0 (rmk 2 40 0 0) X) (hnw : HNW C Z A G 3 RX9 cX9_isInBounds 0 0 (rmk 2 40 0 0) X) (hnx : HNX C Z A G 3 RX9 cX9_isInBounds 0 0 (rmk 2 40 0 0) X) (hi : True) : ∀ (fu : Nat) (x0 : Option Nat) (x1 : Int32) (x2 : Int32) (ph : PH), w_X9_isInBounds_27 Q X fu x0 x1 x2 ph → RR C Z A G 3 27 [(0, va_rf x0), (1, .int x1), (2, .int x2)] [] ph 0 0 := by
  intro fu
  induction fu with
  | zero => intro x0 x1 x2 ph h; exact h.elim
  | succ fu ih =>
    intro x0 x1 x2 ph h
    refine r_iload_n hC dX9_isInBounds_27 rfl 2 rfl ?_
    refine r_aload_n hC dX9_isInBounds_28 rfl 0 rfl ?_
    obtain ⟨v29, g29, h⟩ := h
    refine r_get hC (ci := 10) (kf := 1) (N := 2) (Cn := RX9) (T := TX9) rfl (by decide) tin_X9 fl_X9_19 rfl dX9_isInBounds_29 g29 ?_
    refine r_icmp_ge (tgt := 62) hC dX9_isInBounds_32 (by decide) (fun c9 => ?_) (fun c9 => ?_)
    · have h := h.1 c9
      refine r_iload_n hC dX9_isInBounds_62 rfl 1 rfl ?_
      exact hr _ _ _ _ _ _ dX9_isInBounds_63 (by decide) (by decide) h
    · have h := h.2 c9
      refine r_iload_n hC dX9_isInBounds_35 rfl 1 rfl ?_
      refine r_if_eq (tgt := 54) hC dX9_isInBounds_36 (by decide) (fun c9 => ?_) (fun c9 => ?_)
      · have h := h.1 c9
        refine r_iconst (v := 0) hC dX9_isInBounds_54 (by decide) ?_
        refine r_istore_n (i := 1) (lv' := [(1, .int (0 : Int32)), (0, va_rf x0), (2, .int x2)]) hC dX9_isInBounds_55 rfl (by decide) (by first | rfl | simp [lvs1, lvs2, List.filter, cat_rf, cat_i, cat_j]) ?_
        refine r_iinc (w := 2) (v := x2 + 1) (lv' := [(2, .int (x2 + 1)), (1, .int (0 : Int32)), (0, va_rf x0)]) hC dX9_isInBounds_56 rfl rfl (by decide) (by first | rfl | simp [lvs1, List.filter, cat_rf, cat_i, cat_j]) ?_
        refine r_goto (tgt := 27) hC dX9_isInBounds_59 (by decide) ?_
        exact RR.wid (by decide) (by decide) (RR.sub [2, 1, 0] rfl (ih _ _ _ _ h))
      · have h := h.2 c9
        refine r_aload_n hC dX9_isInBounds_39 rfl 0 rfl ?_
        refine r_iload_n hC dX9_isInBounds_40 rfl 2 rfl ?_
        obtain ⟨a41, o41, h⟩ := h
        refine r_VI hC hAo [.int x2] cal_X9_at ml_X9_23 (ci := 10) rfl rfl rfl (c_X9_at G _ _ _ _ _ h) o41 ⟨by decide, by decide⟩ ⟨by decide, by decide⟩ (by simp only [List.map_nil, List.map_cons, List.sum_nil, List.sum_cons, cat_rf, cat_i, cat_j]; decide) rfl dX9_isInBounds_41 (fun E u hx9 => hx _ _ _ _ _ _ _ (by decide) (by decide) hx9) (fun v41 ph41 h => ?_)
        refine RR.wid (k' := 0) (n' := 0) (by decide) (by decide) ?_
        refine r_SI hC hAo [.int v41] cal_X9_isSign ml_X9_27 rfl (c_X9_isSign G _ _ _ _ h) ⟨by decide, by decide⟩ ⟨by decide, by decide⟩ (by simp only [List.map_nil, List.map_cons, List.sum_nil, List.sum_cons, cat_rf, cat_i, cat_j]; decide) rfl dX9_isInBounds_44 (fun E u hx9 => hx _ _ _ _ _ _ _ (by decide) (by decide) hx9) (fun v44 ph44 h => ?_)
        refine RR.wid (k' := 0) (n' := 0) (by decide) (by decide) ?_
        refine r_if_eq (tgt := 54) hC dX9_isInBounds_47 (by decide) (fun c9 => ?_) (fun c9 => ?_)
        · have h := h.1 c9
          refine r_iconst (v := 0) hC dX9_isInBounds_54 (by decide) ?_
          refine r_istore_n (i := 1) (lv' := [(1, .int (0 : Int32)), (0, va_rf x0), (2, .int x2)]) hC dX9_isInBounds_55 rfl (by decide) (by first | rfl | simp [lvs1, lvs2, List.filter, cat_rf, cat_i, cat_j]) ?_
          refine r_iinc (w := 2) (v := x2 + 1) (lv' := [(2, .int (x2 + 1)), (1, .int (0 : Int32)), (0, va_rf x0)]) hC dX9_isInBounds_56 rfl rfl (by decide) (by first | rfl | simp [lvs1, List.filter, cat_rf, cat_i, cat_j]) ?_
          refine r_goto (tgt := 27) hC dX9_isInBounds_59 (by decide) ?_
          exact RR.wid (by decide) (by decide) (RR.sub [2, 1, 0] rfl (ih _ _ _ _ h))
        · have h := h.2 c9
          refine r_iconst (v := 1) hC dX9_isInBounds_50 (by decide) ?_
          refine r_goto (tgt := 55) hC dX9_isInBounds_51 (by decide) ?_
          refine r_istore_n (i := 1) (lv' := [(1, .int (1 : Int32)), (0, va_rf x0), (2, .int x2)]) hC dX9_isInBounds_55 rfl (by decide) (by first | rfl | simp [lvs1, lvs2, List.filter, cat_rf, cat_i, cat_j]) ?_
          refine r_iinc (w := 2) (v := x2 + 1) (lv' := [(2, .int (x2 + 1)), (1, .int (1 : Int32)), (0, va_rf x0)]) hC dX9_isInBounds_56 rfl rfl (by decide) (by first | rfl | simp [lvs1, List.filter, cat_rf, cat_i, cat_j]) ?_
          refine r_goto (tgt := 27) hC dX9_isInBounds_59 (by decide) ?_
          exact RR.wid (by decide) (by decide) (RR.sub [2, 1, 0] rfl (ih _ _ _ _ h))
set_option maxRecDepth 20000 in
theorem c_X9_isInBounds (G : GG) (x0 : Nat) (ph : PH) (Q : Int32 → PH → Prop) (X : String → PH → Prop) (h : w_X9_isInBounds x0 ph Q X) : Ct G yX9_isInBounds (.code yX9_isInBounds cX9_isInBounds 3 (some (.boolean))) 2 40 0 0 [va_rf (some x0)] ph (oI Q) X := by
  refine ct_of (lv0 := [(0, va_rf (some x0))]) (by decide +kernel) (by simp [lg_sl, cat_rf, cat_i, cat_j]) (by simp [lv_args, cat_rf, cat_i, cat_j]) ?_
  intro C A hC hAo hex hrt hnm
  have hr : HZ C (ZM C G A (oI Q) X 0 0) A G 3 cX9_isInBounds 0 0 Q := fun pc lv v ph k n d hk hn hq => e_s hC (ty := .boolean) hrt pc lv v ph k n d hk hn ⟨hq.1, v, rfl, hq.2⟩
  have hx := e_x (Q := oI Q) (X := X) (mc := 0) (ms := 0) hC hex
  have hn := e_n (Q := oI Q) (X := X) (mc := 0) (ms := 0) hC hex
  have hnw := e_nw (Q := oI Q) (X := X) (mc := 0) (ms := 0) hC hex
  have hnx := e_nx (Q := oI Q) (X := X) (mc := 0) (ms := 0) hC hex
  have hi : True := trivial
  generalize ZM C G A (oI Q) X 0 0 = Z at *
  refine r_aload_n hC dX9_isInBounds_0 rfl 0 rfl ?_
  obtain ⟨v1, g1, h⟩ := h
  refine r_get hC (ci := 10) (kf := 1) (N := 2) (Cn := RX9) (T := TX9) rfl (by decide) tin_X9 fl_X9_19 rfl dX9_isInBounds_1 g1 ?_
  refine r_if_lt (tgt := 23) hC dX9_isInBounds_4 (by decide) (fun c9 => ?_) (fun c9 => ?_)
  · have h := h.1 c9
    refine r_iconst (v := 0) hC dX9_isInBounds_23 (by decide) ?_
    refine r_istore_n (i := 1) (lv' := [(1, .int (0 : Int32)), (0, va_rf (some x0))]) hC dX9_isInBounds_24 rfl (by decide) (by first | rfl | simp [lvs1, lvs2, List.filter, cat_rf, cat_i, cat_j]) ?_
    refine r_iconst (v := 0) hC dX9_isInBounds_25 (by decide) ?_
    refine r_istore_n (i := 2) (lv' := [(2, .int (0 : Int32)), (1, .int (0 : Int32)), (0, va_rf (some x0))]) hC dX9_isInBounds_26 rfl (by decide) (by first | rfl | simp [lvs1, lvs2, List.filter, cat_rf, cat_i, cat_j]) ?_
    obtain ⟨fu27, h⟩ := h
    exact RR.wid (by decide) (by decide) (RR.sub [2, 1, 0] rfl (b_X9_isInBounds_27 hC hAo hr hx hn hnw hnx hi  fu27 _ _ _ _ h))
  · have h := h.2 c9
    refine r_aload_n hC dX9_isInBounds_7 rfl 0 rfl ?_
    obtain ⟨v8, g8, h⟩ := h
    refine r_get hC (ci := 10) (kf := 1) (N := 2) (Cn := RX9) (T := TX9) rfl (by decide) tin_X9 fl_X9_19 rfl dX9_isInBounds_8 g8 ?_
    refine r_aload_n hC dX9_isInBounds_11 rfl 0 rfl ?_
    obtain ⟨v12, g12, h⟩ := h
    refine r_get hC (ci := 10) (kf := 0) (N := 2) (Cn := RX9) (T := TX9) rfl (by decide) tin_X9 fl_X9_9 rfl dX9_isInBounds_12 g12 ?_
    obtain ⟨v15, g15, h⟩ := h
    refine r_alen hC dX9_isInBounds_15 g15 ?_
    refine r_icmp_gt (tgt := 23) hC dX9_isInBounds_16 (by decide) (fun c9 => ?_) (fun c9 => ?_)
    · have h := h.1 c9
      refine r_iconst (v := 0) hC dX9_isInBounds_23 (by decide) ?_
      refine r_istore_n (i := 1) (lv' := [(1, .int (0 : Int32)), (0, va_rf (some x0))]) hC dX9_isInBounds_24 rfl (by decide) (by first | rfl | simp [lvs1, lvs2, List.filter, cat_rf, cat_i, cat_j]) ?_
      refine r_iconst (v := 0) hC dX9_isInBounds_25 (by decide) ?_
      refine r_istore_n (i := 2) (lv' := [(2, .int (0 : Int32)), (1, .int (0 : Int32)), (0, va_rf (some x0))]) hC dX9_isInBounds_26 rfl (by decide) (by first | rfl | simp [lvs1, lvs2, List.filter, cat_rf, cat_i, cat_j]) ?_
      obtain ⟨fu27, h⟩ := h
      exact RR.wid (by decide) (by decide) (RR.sub [2, 1, 0] rfl (b_X9_isInBounds_27 hC hAo hr hx hn hnw hnx hi  fu27 _ _ _ _ h))
    · have h := h.2 c9
      refine r_iconst (v := 1) hC dX9_isInBounds_19 (by decide) ?_
      refine r_goto (tgt := 24) hC dX9_isInBounds_20 (by decide) ?_
      refine r_istore_n (i := 1) (lv' := [(1, .int (1 : Int32)), (0, va_rf (some x0))]) hC dX9_isInBounds_24 rfl (by decide) (by first | rfl | simp [lvs1, lvs2, List.filter, cat_rf, cat_i, cat_j]) ?_
      refine r_iconst (v := 0) hC dX9_isInBounds_25 (by decide) ?_
      refine r_istore_n (i := 2) (lv' := [(2, .int (0 : Int32)), (1, .int (1 : Int32)), (0, va_rf (some x0))]) hC dX9_isInBounds_26 rfl (by decide) (by first | rfl | simp [lvs1, lvs2, List.filter, cat_rf, cat_i, cat_j]) ?_
      obtain ⟨fu27, h⟩ := h
      exact RR.wid (by decide) (by decide) (RR.sub [2, 1, 0] rfl (b_X9_isInBounds_27 hC hAo hr hx hn hnw hnx hi  fu27 _ _ _ _ h))
set_option maxRecDepth 20000 in
theorem c_X3_isInBounds (G : GG) (x0 : Nat) (ph : PH) (Q : Int32 → PH → Prop) (X : String → PH → Prop) (h : w_X3_isInBounds x0 ph Q X) : Ct G yX3_isInBounds (.code yX3_isInBounds cX3_isInBounds 1 (some (.boolean))) 0 0 0 0 [va_rf (some x0)] ph (oI Q) X := by
  refine ct_of (lv0 := [(0, va_rf (some x0))]) (by decide +kernel) (by simp [lg_sl, cat_rf, cat_i, cat_j]) (by simp [lv_args, cat_rf, cat_i, cat_j]) ?_
  intro C A hC hAo hex hrt hnm
  have hr : HZ C (ZM C G A (oI Q) X 0 0) A G 1 cX3_isInBounds 0 0 Q := fun pc lv v ph k n d hk hn hq => e_s hC (ty := .boolean) hrt pc lv v ph k n d hk hn ⟨hq.1, v, rfl, hq.2⟩
  have hx := e_x (Q := oI Q) (X := X) (mc := 0) (ms := 0) hC hex
  have hn := e_n (Q := oI Q) (X := X) (mc := 0) (ms := 0) hC hex
  have hnw := e_nw (Q := oI Q) (X := X) (mc := 0) (ms := 0) hC hex
  have hnx := e_nx (Q := oI Q) (X := X) (mc := 0) (ms := 0) hC hex
  have hi : True := trivial
  generalize ZM C G A (oI Q) X 0 0 = Z at *
  refine r_aload_n hC dX3_isInBounds_0 rfl 0 rfl ?_
  obtain ⟨v1, g1, h⟩ := h
  refine r_get hC (ci := 6) (kf := 0) (N := 3) (Cn := RX3) (T := TX3) rfl (by decide) tin_X3 fl_X3_9 rfl dX3_isInBounds_1 g1 ?_
  refine r_iconst (v := 1) hC dX3_isInBounds_4 (by decide) ?_
  refine r_icmp_lt (tgt := 37) hC dX3_isInBounds_5 (by decide) (fun c9 => ?_) (fun c9 => ?_)
  · have h := h.1 c9
    refine r_iconst (v := 0) hC dX3_isInBounds_37 (by decide) ?_
    exact hr _ _ _ _ _ _ dX3_isInBounds_38 (by decide) (by decide) h
  · have h := h.2 c9
    refine r_aload_n hC dX3_isInBounds_8 rfl 0 rfl ?_
    obtain ⟨v9, g9, h⟩ := h
    refine r_get hC (ci := 6) (kf := 0) (N := 3) (Cn := RX3) (T := TX3) rfl (by decide) tin_X3 fl_X3_9 rfl dX3_isInBounds_9 g9 ?_
    refine r_bipush (v := 24) hC dX3_isInBounds_12 (by decide) ?_
    refine r_icmp_gt (tgt := 37) hC dX3_isInBounds_14 (by decide) (fun c9 => ?_) (fun c9 => ?_)
    · have h := h.1 c9
      refine r_iconst (v := 0) hC dX3_isInBounds_37 (by decide) ?_
      exact hr _ _ _ _ _ _ dX3_isInBounds_38 (by decide) (by decide) h
    · have h := h.2 c9
      refine r_aload_n hC dX3_isInBounds_17 rfl 0 rfl ?_
      obtain ⟨v18, g18, h⟩ := h
      refine r_get hC (ci := 6) (kf := 1) (N := 3) (Cn := RX3) (T := TX3) rfl (by decide) tin_X3 fl_X3_15 rfl dX3_isInBounds_18 g18 ?_
      refine r_iconst (v := 2) hC dX3_isInBounds_21 (by decide) ?_
      refine r_icmp_lt (tgt := 37) hC dX3_isInBounds_22 (by decide) (fun c9 => ?_) (fun c9 => ?_)
      · have h := h.1 c9
        refine r_iconst (v := 0) hC dX3_isInBounds_37 (by decide) ?_
        exact hr _ _ _ _ _ _ dX3_isInBounds_38 (by decide) (by decide) h
      · have h := h.2 c9
        refine r_aload_n hC dX3_isInBounds_25 rfl 0 rfl ?_
        obtain ⟨v26, g26, h⟩ := h
        refine r_get hC (ci := 6) (kf := 1) (N := 3) (Cn := RX3) (T := TX3) rfl (by decide) tin_X3 fl_X3_15 rfl dX3_isInBounds_26 g26 ?_
        refine r_iconst (v := 3) hC dX3_isInBounds_29 (by decide) ?_
        refine r_icmp_gt (tgt := 37) hC dX3_isInBounds_30 (by decide) (fun c9 => ?_) (fun c9 => ?_)
        · have h := h.1 c9
          refine r_iconst (v := 0) hC dX3_isInBounds_37 (by decide) ?_
          exact hr _ _ _ _ _ _ dX3_isInBounds_38 (by decide) (by decide) h
        · have h := h.2 c9
          refine r_iconst (v := 1) hC dX3_isInBounds_33 (by decide) ?_
          refine r_goto (tgt := 38) hC dX3_isInBounds_34 (by decide) ?_
          exact hr _ _ _ _ _ _ dX3_isInBounds_38 (by decide) (by decide) h
set_option maxRecDepth 20000 in
theorem b_X1_isInBounds_24 {C : Cx} {Z : State → Prop} {A : Nat → Prop} {G : GG} {Q : Int32 → PH → Prop} {X : String → PH → Prop} (hC : CxOk RX1 cX1_isInBounds 3 G A (rmk 1 21 0 0) C) (hAo : Ao (xs C)) (hr : HZ C Z A G 3 cX1_isInBounds 0 0 Q) (hx : HX C Z A G 3 0 0 X) (hn : HN C Z A G 3 RX1 cX1_isInBounds 0 0 (rmk 1 21 0 0) X) (hnw : HNW C Z A G 3 RX1 cX1_isInBounds 0 0 (rmk 1 21 0 0) X) (hnx : HNX C Z A G 3 RX1 cX1_isInBounds 0 0 (rmk 1 21 0 0) X) (hi : True) : ∀ (fu : Nat) (x0 : Option Nat) (x1 : Int32) (x2 : Int32) (ph : PH), w_X1_isInBounds_24 Q X fu x0 x1 x2 ph → RR C Z A G 3 24 [(0, va_rf x0), (1, .int x1), (2, .int x2)] [] ph 0 0 := by
  intro fu
  induction fu with
  | zero => intro x0 x1 x2 ph h; exact h.elim
  | succ fu ih =>
    intro x0 x1 x2 ph h
    refine r_iload_n hC dX1_isInBounds_24 rfl 2 rfl ?_
    refine r_aload_n hC dX1_isInBounds_25 rfl 0 rfl ?_
    obtain ⟨v26, g26, h⟩ := h
    refine r_get hC (ci := 4) (kf := 1) (N := 2) (Cn := RX1) (T := TX1) rfl (by decide) tin_X1 fl_X1_15 rfl dX1_isInBounds_26 g26 ?_
    obtain ⟨v29, g29, h⟩ := h
    refine r_alen hC dX1_isInBounds_29 g29 ?_
    refine r_icmp_ge (tgt := 62) hC dX1_isInBounds_30 (by decide) (fun c9 => ?_) (fun c9 => ?_)
    · have h := h.1 c9
      refine r_iload_n hC dX1_isInBounds_62 rfl 1 rfl ?_
      exact hr _ _ _ _ _ _ dX1_isInBounds_63 (by decide) (by decide) h
    · have h := h.2 c9
      refine r_iload_n hC dX1_isInBounds_33 rfl 1 rfl ?_
      refine r_if_eq (tgt := 54) hC dX1_isInBounds_34 (by decide) (fun c9 => ?_) (fun c9 => ?_)
      · have h := h.1 c9
        refine r_iconst (v := 0) hC dX1_isInBounds_54 (by decide) ?_
        refine r_istore_n (i := 1) (lv' := [(1, .int (0 : Int32)), (0, va_rf x0), (2, .int x2)]) hC dX1_isInBounds_55 rfl (by decide) (by first | rfl | simp [lvs1, lvs2, List.filter, cat_rf, cat_i, cat_j]) ?_
        refine r_iinc (w := 2) (v := x2 + 1) (lv' := [(2, .int (x2 + 1)), (1, .int (0 : Int32)), (0, va_rf x0)]) hC dX1_isInBounds_56 rfl rfl (by decide) (by first | rfl | simp [lvs1, List.filter, cat_rf, cat_i, cat_j]) ?_
        refine r_goto (tgt := 24) hC dX1_isInBounds_59 (by decide) ?_
        exact RR.wid (by decide) (by decide) (RR.sub [2, 1, 0] rfl (ih _ _ _ _ h))
      · have h := h.2 c9
        refine r_aload_n hC dX1_isInBounds_37 rfl 0 rfl ?_
        refine r_aload_n hC dX1_isInBounds_38 rfl 0 rfl ?_
        obtain ⟨v39, g39, h⟩ := h
        refine r_get hC (ci := 4) (kf := 1) (N := 2) (Cn := RX1) (T := TX1) rfl (by decide) tin_X1 fl_X1_15 rfl dX1_isInBounds_39 g39 ?_
        refine r_iload_n hC dX1_isInBounds_42 rfl 2 rfl ?_
        obtain ⟨v43, g43, h⟩ := h
        refine r_iald hC dX1_isInBounds_43 g43 ?_
        obtain ⟨a44, o44, h⟩ := h
        refine r_VI hC hAo [.int v43] cal_X1_hasLetter ml_X1_19 (ci := 4) rfl rfl rfl (c_X1_hasLetter G _ _ _ _ _ h) o44 ⟨by decide, by decide⟩ ⟨by decide, by decide⟩ (by simp only [List.map_nil, List.map_cons, List.sum_nil, List.sum_cons, cat_rf, cat_i, cat_j]; decide) rfl dX1_isInBounds_44 (fun E u hx9 => hx _ _ _ _ _ _ _ (by decide) (by decide) hx9) (fun v44 ph44 h => ?_)
        refine RR.wid (k' := 0) (n' := 0) (by decide) (by decide) ?_
        refine r_if_eq (tgt := 54) hC dX1_isInBounds_47 (by decide) (fun c9 => ?_) (fun c9 => ?_)
        · have h := h.1 c9
          refine r_iconst (v := 0) hC dX1_isInBounds_54 (by decide) ?_
          refine r_istore_n (i := 1) (lv' := [(1, .int (0 : Int32)), (0, va_rf x0), (2, .int x2)]) hC dX1_isInBounds_55 rfl (by decide) (by first | rfl | simp [lvs1, lvs2, List.filter, cat_rf, cat_i, cat_j]) ?_
          refine r_iinc (w := 2) (v := x2 + 1) (lv' := [(2, .int (x2 + 1)), (1, .int (0 : Int32)), (0, va_rf x0)]) hC dX1_isInBounds_56 rfl rfl (by decide) (by first | rfl | simp [lvs1, List.filter, cat_rf, cat_i, cat_j]) ?_
          refine r_goto (tgt := 24) hC dX1_isInBounds_59 (by decide) ?_
          exact RR.wid (by decide) (by decide) (RR.sub [2, 1, 0] rfl (ih _ _ _ _ h))
        · have h := h.2 c9
          refine r_iconst (v := 1) hC dX1_isInBounds_50 (by decide) ?_
          refine r_goto (tgt := 55) hC dX1_isInBounds_51 (by decide) ?_
          refine r_istore_n (i := 1) (lv' := [(1, .int (1 : Int32)), (0, va_rf x0), (2, .int x2)]) hC dX1_isInBounds_55 rfl (by decide) (by first | rfl | simp [lvs1, lvs2, List.filter, cat_rf, cat_i, cat_j]) ?_
          refine r_iinc (w := 2) (v := x2 + 1) (lv' := [(2, .int (x2 + 1)), (1, .int (1 : Int32)), (0, va_rf x0)]) hC dX1_isInBounds_56 rfl rfl (by decide) (by first | rfl | simp [lvs1, List.filter, cat_rf, cat_i, cat_j]) ?_
          refine r_goto (tgt := 24) hC dX1_isInBounds_59 (by decide) ?_
          exact RR.wid (by decide) (by decide) (RR.sub [2, 1, 0] rfl (ih _ _ _ _ h))
set_option maxRecDepth 20000 in
theorem c_X1_isInBounds (G : GG) (x0 : Nat) (ph : PH) (Q : Int32 → PH → Prop) (X : String → PH → Prop) (h : w_X1_isInBounds x0 ph Q X) : Ct G yX1_isInBounds (.code yX1_isInBounds cX1_isInBounds 3 (some (.boolean))) 1 21 0 0 [va_rf (some x0)] ph (oI Q) X := by
  refine ct_of (lv0 := [(0, va_rf (some x0))]) (by decide +kernel) (by simp [lg_sl, cat_rf, cat_i, cat_j]) (by simp [lv_args, cat_rf, cat_i, cat_j]) ?_
  intro C A hC hAo hex hrt hnm
  have hr : HZ C (ZM C G A (oI Q) X 0 0) A G 3 cX1_isInBounds 0 0 Q := fun pc lv v ph k n d hk hn hq => e_s hC (ty := .boolean) hrt pc lv v ph k n d hk hn ⟨hq.1, v, rfl, hq.2⟩
  have hx := e_x (Q := oI Q) (X := X) (mc := 0) (ms := 0) hC hex
  have hn := e_n (Q := oI Q) (X := X) (mc := 0) (ms := 0) hC hex
  have hnw := e_nw (Q := oI Q) (X := X) (mc := 0) (ms := 0) hC hex
  have hnx := e_nx (Q := oI Q) (X := X) (mc := 0) (ms := 0) hC hex
  have hi : True := trivial
  generalize ZM C G A (oI Q) X 0 0 = Z at *
  refine r_aload_n hC dX1_isInBounds_0 rfl 0 rfl ?_
  obtain ⟨v1, g1, h⟩ := h
  refine r_get hC (ci := 4) (kf := 0) (N := 2) (Cn := RX1) (T := TX1) rfl (by decide) tin_X1 fl_X1_9 rfl dX1_isInBounds_1 g1 ?_
  refine r_iconst (v := 2) hC dX1_isInBounds_4 (by decide) ?_
  refine r_icmp_lt (tgt := 20) hC dX1_isInBounds_5 (by decide) (fun c9 => ?_) (fun c9 => ?_)
  · have h := h.1 c9
    refine r_iconst (v := 0) hC dX1_isInBounds_20 (by decide) ?_
    refine r_istore_n (i := 1) (lv' := [(1, .int (0 : Int32)), (0, va_rf (some x0))]) hC dX1_isInBounds_21 rfl (by decide) (by first | rfl | simp [lvs1, lvs2, List.filter, cat_rf, cat_i, cat_j]) ?_
    refine r_iconst (v := 0) hC dX1_isInBounds_22 (by decide) ?_
    refine r_istore_n (i := 2) (lv' := [(2, .int (0 : Int32)), (1, .int (0 : Int32)), (0, va_rf (some x0))]) hC dX1_isInBounds_23 rfl (by decide) (by first | rfl | simp [lvs1, lvs2, List.filter, cat_rf, cat_i, cat_j]) ?_
    obtain ⟨fu24, h⟩ := h
    exact RR.wid (by decide) (by decide) (RR.sub [2, 1, 0] rfl (b_X1_isInBounds_24 hC hAo hr hx hn hnw hnx hi  fu24 _ _ _ _ h))
  · have h := h.2 c9
    refine r_aload_n hC dX1_isInBounds_8 rfl 0 rfl ?_
    obtain ⟨v9, g9, h⟩ := h
    refine r_get hC (ci := 4) (kf := 0) (N := 2) (Cn := RX1) (T := TX1) rfl (by decide) tin_X1 fl_X1_9 rfl dX1_isInBounds_9 g9 ?_
    refine r_iconst (v := 3) hC dX1_isInBounds_12 (by decide) ?_
    refine r_icmp_gt (tgt := 20) hC dX1_isInBounds_13 (by decide) (fun c9 => ?_) (fun c9 => ?_)
    · have h := h.1 c9
      refine r_iconst (v := 0) hC dX1_isInBounds_20 (by decide) ?_
      refine r_istore_n (i := 1) (lv' := [(1, .int (0 : Int32)), (0, va_rf (some x0))]) hC dX1_isInBounds_21 rfl (by decide) (by first | rfl | simp [lvs1, lvs2, List.filter, cat_rf, cat_i, cat_j]) ?_
      refine r_iconst (v := 0) hC dX1_isInBounds_22 (by decide) ?_
      refine r_istore_n (i := 2) (lv' := [(2, .int (0 : Int32)), (1, .int (0 : Int32)), (0, va_rf (some x0))]) hC dX1_isInBounds_23 rfl (by decide) (by first | rfl | simp [lvs1, lvs2, List.filter, cat_rf, cat_i, cat_j]) ?_
      obtain ⟨fu24, h⟩ := h
      exact RR.wid (by decide) (by decide) (RR.sub [2, 1, 0] rfl (b_X1_isInBounds_24 hC hAo hr hx hn hnw hnx hi  fu24 _ _ _ _ h))
    · have h := h.2 c9
      refine r_iconst (v := 1) hC dX1_isInBounds_16 (by decide) ?_
      refine r_goto (tgt := 21) hC dX1_isInBounds_17 (by decide) ?_
      refine r_istore_n (i := 1) (lv' := [(1, .int (1 : Int32)), (0, va_rf (some x0))]) hC dX1_isInBounds_21 rfl (by decide) (by first | rfl | simp [lvs1, lvs2, List.filter, cat_rf, cat_i, cat_j]) ?_
      refine r_iconst (v := 0) hC dX1_isInBounds_22 (by decide) ?_
      refine r_istore_n (i := 2) (lv' := [(2, .int (0 : Int32)), (1, .int (1 : Int32)), (0, va_rf (some x0))]) hC dX1_isInBounds_23 rfl (by decide) (by first | rfl | simp [lvs1, lvs2, List.filter, cat_rf, cat_i, cat_j]) ?_
      obtain ⟨fu24, h⟩ := h
      exact RR.wid (by decide) (by decide) (RR.sub [2, 1, 0] rfl (b_X1_isInBounds_24 hC hAo hr hx hn hnw hnx hi  fu24 _ _ _ _ h))
set_option maxRecDepth 20000 in
theorem b_X8_isInBounds_40 {C : Cx} {Z : State → Prop} {A : Nat → Prop} {G : GG} {Q : Int32 → PH → Prop} {X : String → PH → Prop} (hC : CxOk RX8 cX8_isInBounds 3 G A (rmk 0 0 0 0) C) (hAo : Ao (xs C)) (hr : HZ C Z A G 3 cX8_isInBounds 0 0 Q) (hx : HX C Z A G 3 0 0 X) (hn : HN C Z A G 3 RX8 cX8_isInBounds 0 0 (rmk 0 0 0 0) X) (hnw : HNW C Z A G 3 RX8 cX8_isInBounds 0 0 (rmk 0 0 0 0) X) (hnx : HNX C Z A G 3 RX8 cX8_isInBounds 0 0 (rmk 0 0 0 0) X) (hi : True) : ∀ (fu : Nat) (x0 : Option Nat) (x1 : Int32) (x2 : Int32) (ph : PH), w_X8_isInBounds_40 Q X fu x0 x1 x2 ph → RR C Z A G 3 40 [(0, va_rf x0), (1, .int x1), (2, .int x2)] [] ph 0 0 := by
  intro fu
  induction fu with
  | zero => intro x0 x1 x2 ph h; exact h.elim
  | succ fu ih =>
    intro x0 x1 x2 ph h
    refine r_iload_n hC dX8_isInBounds_40 rfl 2 rfl ?_
    refine r_aload_n hC dX8_isInBounds_41 rfl 0 rfl ?_
    obtain ⟨v42, g42, h⟩ := h
    refine r_get hC (ci := 9) (kf := 2) (N := 3) (Cn := RX8) (T := TX8) rfl (by decide) tin_X8 fl_X8_11 rfl dX8_isInBounds_42 g42 ?_
    obtain ⟨v45, g45, h⟩ := h
    refine r_alen hC dX8_isInBounds_45 g45 ?_
    refine r_icmp_ge (tgt := 89) hC dX8_isInBounds_46 (by decide) (fun c9 => ?_) (fun c9 => ?_)
    · have h := h.1 c9
      refine r_iload_n hC dX8_isInBounds_89 rfl 1 rfl ?_
      exact hr _ _ _ _ _ _ dX8_isInBounds_90 (by decide) (by decide) h
    · have h := h.2 c9
      refine r_iload_n hC dX8_isInBounds_49 rfl 1 rfl ?_
      refine r_if_eq (tgt := 81) hC dX8_isInBounds_50 (by decide) (fun c9 => ?_) (fun c9 => ?_)
      · have h := h.1 c9
        refine r_iconst (v := 0) hC dX8_isInBounds_81 (by decide) ?_
        refine r_istore_n (i := 1) (lv' := [(1, .int (0 : Int32)), (0, va_rf x0), (2, .int x2)]) hC dX8_isInBounds_82 rfl (by decide) (by first | rfl | simp [lvs1, lvs2, List.filter, cat_rf, cat_i, cat_j]) ?_
        refine r_iinc (w := 2) (v := x2 + 1) (lv' := [(2, .int (x2 + 1)), (1, .int (0 : Int32)), (0, va_rf x0)]) hC dX8_isInBounds_83 rfl rfl (by decide) (by first | rfl | simp [lvs1, List.filter, cat_rf, cat_i, cat_j]) ?_
        refine r_goto (tgt := 40) hC dX8_isInBounds_86 (by decide) ?_
        exact RR.wid (by decide) (by decide) (RR.sub [2, 1, 0] rfl (ih _ _ _ _ h))
      · have h := h.2 c9
        refine r_aload_n hC dX8_isInBounds_53 rfl 0 rfl ?_
        obtain ⟨v54, g54, h⟩ := h
        refine r_get hC (ci := 9) (kf := 2) (N := 3) (Cn := RX8) (T := TX8) rfl (by decide) tin_X8 fl_X8_11 rfl dX8_isInBounds_54 g54 ?_
        refine r_iload_n hC dX8_isInBounds_57 rfl 2 rfl ?_
        obtain ⟨v58, g58, h⟩ := h
        refine r_lald hC dX8_isInBounds_58 g58 ?_
        refine r_lconst (v := 0) hC dX8_isInBounds_59 (by decide) ?_
        refine r_lcmp hC dX8_isInBounds_60 ?_
        refine r_if_lt (tgt := 81) hC dX8_isInBounds_61 (by decide) (fun c9 => ?_) (fun c9 => ?_)
        · have h := h.1 c9
          refine r_iconst (v := 0) hC dX8_isInBounds_81 (by decide) ?_
          refine r_istore_n (i := 1) (lv' := [(1, .int (0 : Int32)), (0, va_rf x0), (2, .int x2)]) hC dX8_isInBounds_82 rfl (by decide) (by first | rfl | simp [lvs1, lvs2, List.filter, cat_rf, cat_i, cat_j]) ?_
          refine r_iinc (w := 2) (v := x2 + 1) (lv' := [(2, .int (x2 + 1)), (1, .int (0 : Int32)), (0, va_rf x0)]) hC dX8_isInBounds_83 rfl rfl (by decide) (by first | rfl | simp [lvs1, List.filter, cat_rf, cat_i, cat_j]) ?_
          refine r_goto (tgt := 40) hC dX8_isInBounds_86 (by decide) ?_
          exact RR.wid (by decide) (by decide) (RR.sub [2, 1, 0] rfl (ih _ _ _ _ h))
        · have h := h.2 c9
          refine r_aload_n hC dX8_isInBounds_64 rfl 0 rfl ?_
          obtain ⟨v65, g65, h⟩ := h
          refine r_get hC (ci := 9) (kf := 2) (N := 3) (Cn := RX8) (T := TX8) rfl (by decide) tin_X8 fl_X8_11 rfl dX8_isInBounds_65 g65 ?_
          refine r_iload_n hC dX8_isInBounds_68 rfl 2 rfl ?_
          obtain ⟨v69, g69, h⟩ := h
          refine r_lald hC dX8_isInBounds_69 g69 ?_
          refine r_ldc2 (v := 9) hC tb_374 dX8_isInBounds_70 ?_
          refine r_lcmp hC dX8_isInBounds_73 ?_
          refine r_if_gt (tgt := 81) hC dX8_isInBounds_74 (by decide) (fun c9 => ?_) (fun c9 => ?_)
          · have h := h.1 c9
            refine r_iconst (v := 0) hC dX8_isInBounds_81 (by decide) ?_
            refine r_istore_n (i := 1) (lv' := [(1, .int (0 : Int32)), (0, va_rf x0), (2, .int x2)]) hC dX8_isInBounds_82 rfl (by decide) (by first | rfl | simp [lvs1, lvs2, List.filter, cat_rf, cat_i, cat_j]) ?_
            refine r_iinc (w := 2) (v := x2 + 1) (lv' := [(2, .int (x2 + 1)), (1, .int (0 : Int32)), (0, va_rf x0)]) hC dX8_isInBounds_83 rfl rfl (by decide) (by first | rfl | simp [lvs1, List.filter, cat_rf, cat_i, cat_j]) ?_
            refine r_goto (tgt := 40) hC dX8_isInBounds_86 (by decide) ?_
            exact RR.wid (by decide) (by decide) (RR.sub [2, 1, 0] rfl (ih _ _ _ _ h))
          · have h := h.2 c9
            refine r_iconst (v := 1) hC dX8_isInBounds_77 (by decide) ?_
            refine r_goto (tgt := 82) hC dX8_isInBounds_78 (by decide) ?_
            refine r_istore_n (i := 1) (lv' := [(1, .int (1 : Int32)), (0, va_rf x0), (2, .int x2)]) hC dX8_isInBounds_82 rfl (by decide) (by first | rfl | simp [lvs1, lvs2, List.filter, cat_rf, cat_i, cat_j]) ?_
            refine r_iinc (w := 2) (v := x2 + 1) (lv' := [(2, .int (x2 + 1)), (1, .int (1 : Int32)), (0, va_rf x0)]) hC dX8_isInBounds_83 rfl rfl (by decide) (by first | rfl | simp [lvs1, List.filter, cat_rf, cat_i, cat_j]) ?_
            refine r_goto (tgt := 40) hC dX8_isInBounds_86 (by decide) ?_
            exact RR.wid (by decide) (by decide) (RR.sub [2, 1, 0] rfl (ih _ _ _ _ h))
set_option maxRecDepth 20000 in
theorem c_X8_isInBounds (G : GG) (x0 : Nat) (ph : PH) (Q : Int32 → PH → Prop) (X : String → PH → Prop) (h : w_X8_isInBounds x0 ph Q X) : Ct G yX8_isInBounds (.code yX8_isInBounds cX8_isInBounds 3 (some (.boolean))) 0 0 0 0 [va_rf (some x0)] ph (oI Q) X := by
  refine ct_of (lv0 := [(0, va_rf (some x0))]) (by decide +kernel) (by simp [lg_sl, cat_rf, cat_i, cat_j]) (by simp [lv_args, cat_rf, cat_i, cat_j]) ?_
  intro C A hC hAo hex hrt hnm
  have hr : HZ C (ZM C G A (oI Q) X 0 0) A G 3 cX8_isInBounds 0 0 Q := fun pc lv v ph k n d hk hn hq => e_s hC (ty := .boolean) hrt pc lv v ph k n d hk hn ⟨hq.1, v, rfl, hq.2⟩
  have hx := e_x (Q := oI Q) (X := X) (mc := 0) (ms := 0) hC hex
  have hn := e_n (Q := oI Q) (X := X) (mc := 0) (ms := 0) hC hex
  have hnw := e_nw (Q := oI Q) (X := X) (mc := 0) (ms := 0) hC hex
  have hnx := e_nx (Q := oI Q) (X := X) (mc := 0) (ms := 0) hC hex
  have hi : True := trivial
  generalize ZM C G A (oI Q) X 0 0 = Z at *
  refine r_aload_n hC dX8_isInBounds_0 rfl 0 rfl ?_
  obtain ⟨v1, g1, h⟩ := h
  refine r_get hC (ci := 9) (kf := 0) (N := 3) (Cn := RX8) (T := TX8) rfl (by decide) tin_X8 fl_X8_15 rfl dX8_isInBounds_1 g1 ?_
  refine r_iconst (v := 1) hC dX8_isInBounds_4 (by decide) ?_
  refine r_icmp_lt (tgt := 36) hC dX8_isInBounds_5 (by decide) (fun c9 => ?_) (fun c9 => ?_)
  · have h := h.1 c9
    refine r_iconst (v := 0) hC dX8_isInBounds_36 (by decide) ?_
    refine r_istore_n (i := 1) (lv' := [(1, .int (0 : Int32)), (0, va_rf (some x0))]) hC dX8_isInBounds_37 rfl (by decide) (by first | rfl | simp [lvs1, lvs2, List.filter, cat_rf, cat_i, cat_j]) ?_
    refine r_iconst (v := 0) hC dX8_isInBounds_38 (by decide) ?_
    refine r_istore_n (i := 2) (lv' := [(2, .int (0 : Int32)), (1, .int (0 : Int32)), (0, va_rf (some x0))]) hC dX8_isInBounds_39 rfl (by decide) (by first | rfl | simp [lvs1, lvs2, List.filter, cat_rf, cat_i, cat_j]) ?_
    obtain ⟨fu40, h⟩ := h
    exact RR.wid (by decide) (by decide) (RR.sub [2, 1, 0] rfl (b_X8_isInBounds_40 hC hAo hr hx hn hnw hnx hi  fu40 _ _ _ _ h))
  · have h := h.2 c9
    refine r_aload_n hC dX8_isInBounds_8 rfl 0 rfl ?_
    obtain ⟨v9, g9, h⟩ := h
    refine r_get hC (ci := 9) (kf := 0) (N := 3) (Cn := RX8) (T := TX8) rfl (by decide) tin_X8 fl_X8_15 rfl dX8_isInBounds_9 g9 ?_
    refine r_iconst (v := 5) hC dX8_isInBounds_12 (by decide) ?_
    refine r_icmp_gt (tgt := 36) hC dX8_isInBounds_13 (by decide) (fun c9 => ?_) (fun c9 => ?_)
    · have h := h.1 c9
      refine r_iconst (v := 0) hC dX8_isInBounds_36 (by decide) ?_
      refine r_istore_n (i := 1) (lv' := [(1, .int (0 : Int32)), (0, va_rf (some x0))]) hC dX8_isInBounds_37 rfl (by decide) (by first | rfl | simp [lvs1, lvs2, List.filter, cat_rf, cat_i, cat_j]) ?_
      refine r_iconst (v := 0) hC dX8_isInBounds_38 (by decide) ?_
      refine r_istore_n (i := 2) (lv' := [(2, .int (0 : Int32)), (1, .int (0 : Int32)), (0, va_rf (some x0))]) hC dX8_isInBounds_39 rfl (by decide) (by first | rfl | simp [lvs1, lvs2, List.filter, cat_rf, cat_i, cat_j]) ?_
      obtain ⟨fu40, h⟩ := h
      exact RR.wid (by decide) (by decide) (RR.sub [2, 1, 0] rfl (b_X8_isInBounds_40 hC hAo hr hx hn hnw hnx hi  fu40 _ _ _ _ h))
    · have h := h.2 c9
      refine r_aload_n hC dX8_isInBounds_16 rfl 0 rfl ?_
      obtain ⟨v17, g17, h⟩ := h
      refine r_get hC (ci := 9) (kf := 1) (N := 3) (Cn := RX8) (T := TX8) rfl (by decide) tin_X8 fl_X8_19 rfl dX8_isInBounds_17 g17 ?_
      refine r_iconst (v := 1) hC dX8_isInBounds_20 (by decide) ?_
      refine r_icmp_lt (tgt := 36) hC dX8_isInBounds_21 (by decide) (fun c9 => ?_) (fun c9 => ?_)
      · have h := h.1 c9
        refine r_iconst (v := 0) hC dX8_isInBounds_36 (by decide) ?_
        refine r_istore_n (i := 1) (lv' := [(1, .int (0 : Int32)), (0, va_rf (some x0))]) hC dX8_isInBounds_37 rfl (by decide) (by first | rfl | simp [lvs1, lvs2, List.filter, cat_rf, cat_i, cat_j]) ?_
        refine r_iconst (v := 0) hC dX8_isInBounds_38 (by decide) ?_
        refine r_istore_n (i := 2) (lv' := [(2, .int (0 : Int32)), (1, .int (0 : Int32)), (0, va_rf (some x0))]) hC dX8_isInBounds_39 rfl (by decide) (by first | rfl | simp [lvs1, lvs2, List.filter, cat_rf, cat_i, cat_j]) ?_
        obtain ⟨fu40, h⟩ := h
        exact RR.wid (by decide) (by decide) (RR.sub [2, 1, 0] rfl (b_X8_isInBounds_40 hC hAo hr hx hn hnw hnx hi  fu40 _ _ _ _ h))
      · have h := h.2 c9
        refine r_aload_n hC dX8_isInBounds_24 rfl 0 rfl ?_
        obtain ⟨v25, g25, h⟩ := h
        refine r_get hC (ci := 9) (kf := 1) (N := 3) (Cn := RX8) (T := TX8) rfl (by decide) tin_X8 fl_X8_19 rfl dX8_isInBounds_25 g25 ?_
        refine r_iconst (v := 5) hC dX8_isInBounds_28 (by decide) ?_
        refine r_icmp_gt (tgt := 36) hC dX8_isInBounds_29 (by decide) (fun c9 => ?_) (fun c9 => ?_)
        · have h := h.1 c9
          refine r_iconst (v := 0) hC dX8_isInBounds_36 (by decide) ?_
          refine r_istore_n (i := 1) (lv' := [(1, .int (0 : Int32)), (0, va_rf (some x0))]) hC dX8_isInBounds_37 rfl (by decide) (by first | rfl | simp [lvs1, lvs2, List.filter, cat_rf, cat_i, cat_j]) ?_
          refine r_iconst (v := 0) hC dX8_isInBounds_38 (by decide) ?_
          refine r_istore_n (i := 2) (lv' := [(2, .int (0 : Int32)), (1, .int (0 : Int32)), (0, va_rf (some x0))]) hC dX8_isInBounds_39 rfl (by decide) (by first | rfl | simp [lvs1, lvs2, List.filter, cat_rf, cat_i, cat_j]) ?_
          obtain ⟨fu40, h⟩ := h
          exact RR.wid (by decide) (by decide) (RR.sub [2, 1, 0] rfl (b_X8_isInBounds_40 hC hAo hr hx hn hnw hnx hi  fu40 _ _ _ _ h))
        · have h := h.2 c9
          refine r_iconst (v := 1) hC dX8_isInBounds_32 (by decide) ?_
          refine r_goto (tgt := 37) hC dX8_isInBounds_33 (by decide) ?_
          refine r_istore_n (i := 1) (lv' := [(1, .int (1 : Int32)), (0, va_rf (some x0))]) hC dX8_isInBounds_37 rfl (by decide) (by first | rfl | simp [lvs1, lvs2, List.filter, cat_rf, cat_i, cat_j]) ?_
          refine r_iconst (v := 0) hC dX8_isInBounds_38 (by decide) ?_
          refine r_istore_n (i := 2) (lv' := [(2, .int (0 : Int32)), (1, .int (1 : Int32)), (0, va_rf (some x0))]) hC dX8_isInBounds_39 rfl (by decide) (by first | rfl | simp [lvs1, lvs2, List.filter, cat_rf, cat_i, cat_j]) ?_
          obtain ⟨fu40, h⟩ := h
          exact RR.wid (by decide) (by decide) (RR.sub [2, 1, 0] rfl (b_X8_isInBounds_40 hC hAo hr hx hn hnw hnx hi  fu40 _ _ _ _ h))
