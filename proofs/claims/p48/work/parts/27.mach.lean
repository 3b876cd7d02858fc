set_option maxRecDepth 20000 in
theorem c_X1_init (G : GG) (x0 : Nat) (x1 : Int32) (ph : PH) (Q : PH → Prop) (X : String → PH → Prop) (h : w_X1_init x0 x1 ph Q X) : Ct G yX1_init (.code yX1_init cX1_init 2 none) 1 20 1 9 [va_rf (some x0), .int x1] ph (oV Q) X := by
  refine ct_of (lv0 := [(0, va_rf (some x0)), (1, .int x1)]) (by decide +kernel) (by simp [lg_sl, cat_rf, cat_i, cat_j]) (by simp [lv_args, cat_rf, cat_i, cat_j]) ?_
  intro C A hC hAo hex hrt hnm
  have hr : HV C (ZM C G A (oV Q) X 1 9) A G 2 cX1_init 1 9 Q := fun pc lv ph k n d hk hn hq => e_v hC hrt pc lv ph k n d hk hn ⟨rfl, hq⟩
  have hx := e_x (Q := oV Q) (X := X) (mc := 1) (ms := 9) hC hex
  have hn := e_n (Q := oV Q) (X := X) (mc := 1) (ms := 9) hC hex
  have hnw := e_nw (Q := oV Q) (X := X) (mc := 1) (ms := 9) hC hex
  have hnx := e_nx (Q := oV Q) (X := X) (mc := 1) (ms := 9) hC hex
  have hi : (xt C).name = "<init>" := hnm
  generalize ZM C G A (oV Q) X 1 9 = Z at *
  refine r_aload_n hC dX1_init_0 rfl 0 rfl ?_
  obtain ⟨a1, o1, h⟩ := h
  refine r_objInit hC o1 tb_983 tb_141 tb_142 (by decide) (by simp only [List.map_nil, List.map_cons, List.sum_nil, List.sum_cons, cat_rf, cat_i, cat_j]; decide) dX1_init_1 ?_
  refine r_aload_n hC dX1_init_4 rfl 0 rfl ?_
  refine r_iload_n hC dX1_init_5 rfl 1 rfl ?_
  obtain ⟨ph6, g6, h⟩ := h
  refine r_putF hC hi (ci := 4) (kf := 0) (N := 2) (Cn := RX1) (T := TX1) (ty := .int) (ty0 := tyX1) rfl (by decide) tin_X1 tyX1_ok nmX1 tb_984 rfl rfl rfl (by decide +kernel) rfl rfl dX1_init_6 g6 ?_
  refine r_aload_n hC dX1_init_9 rfl 0 rfl ?_
  refine r_bipush (v := 9) hC dX1_init_10 (by decide) ?_
  refine r_newa hC (ty := .int) (N := 9) (y := .inl (fun _ => 0)) 231 (by decide) rfl (fun _ q => by cases q) (fun _ => rfl) tb_207 (by decide) (by decide) (by decide) (by decide) (by decide) dX1_init_12 (fun a12 f12 => ?_)
  have h := h a12 _ f12 rfl
  obtain ⟨ph14, g14, h⟩ := h
  refine r_putF hC hi (ci := 4) (kf := 1) (N := 2) (Cn := RX1) (T := TX1) (ty := .array .int) (ty0 := tyX1) rfl (by decide) tin_X1 tyX1_ok nmX1 tb_986 rfl rfl rfl (by decide +kernel) (nar_ra _ _) (fit_ra _ _) dX1_init_14 g14 ?_
  exact hr _ _ _ _ _ dX1_init_17 (by decide) (by decide) h
set_option maxRecDepth 20000 in
theorem c_X11_code (G : GG) (x0 : Nat) (x1 : Int32) (ph : PH) (Q : Int32 → PH → Prop) (X : String → PH → Prop) (h : w_X11_code x0 x1 ph Q X) : Ct G yX11_code (.code yX11_code cX11_code 2 (some (.int))) 7 112 3 17 [va_rf (some x0), .int x1] ph (oI Q) X := by
  refine ct_of (lv0 := [(0, va_rf (some x0)), (1, .int x1)]) (by decide +kernel) (by simp [lg_sl, cat_rf, cat_i, cat_j]) (by simp [lv_args, cat_rf, cat_i, cat_j]) ?_
  intro C A hC hAo hex hrt hnm
  have hr : HI C (ZM C G A (oI Q) X 3 17) A G 2 cX11_code 3 17 Q := fun pc lv v ph k n d hk hn hq => e_i hC hrt pc lv v ph k n d hk hn ⟨v, rfl, hq⟩
  have hx := e_x (Q := oI Q) (X := X) (mc := 3) (ms := 17) hC hex
  have hn := e_n (Q := oI Q) (X := X) (mc := 3) (ms := 17) hC hex
  have hnw := e_nw (Q := oI Q) (X := X) (mc := 3) (ms := 17) hC hex
  have hnx := e_nx (Q := oI Q) (X := X) (mc := 3) (ms := 17) hC hex
  have hi : True := trivial
  generalize ZM C G A (oI Q) X 3 17 = Z at *
  refine r_iload_n hC dX11_code_0 rfl 1 rfl ?_
  refine r_iconst (v := 2) hC dX11_code_1 (by decide) ?_
  refine r_iconst (v := 3) hC dX11_code_2 (by decide) ?_
  refine r_SV hC hAo [.int x1, .int (2 : Int32), .int (3 : Int32)] cal_X11_demandRange ml_X11_96 rfl (c_X11_demandRange G _ _ _ _ _ _ h) ⟨by decide, by decide⟩ ⟨by decide, by decide⟩ (by simp only [List.map_nil, List.map_cons, List.sum_nil, List.sum_cons, cat_rf, cat_i, cat_j]; decide) rfl dX11_code_3 (fun E u hx9 => hx _ _ _ _ _ _ _ (by decide) (by decide) hx9) (fun ph3 h => ?_)
  refine RR.wid (k' := 1) (n' := 6) (by decide) (by decide) ?_
  refine r_aload_n hC dX11_code_6 rfl 0 rfl ?_
  obtain ⟨v7, g7, h⟩ := h
  refine r_get hC (ci := 12) (kf := 4) (N := 12) (Cn := RX11) (T := TX11) rfl (by decide) tin_X11 fl_X11_231 rfl dX11_code_7 g7 ?_
  refine r_if_lt (tgt := 25) hC dX11_code_10 (by decide) (fun c9 => ?_) (fun c9 => ?_)
  · have h := h.1 c9
    exact hn _ _ _ _ _ _ _ _ _ _ _ _ 15 th_X11_84_88 rfl dX11_code_25 dX11_code_28 dX11_code_29 dX11_code_31 dX11_code_34 (by decide) (by simp only [List.map_nil, List.map_cons, List.sum_nil, List.sum_cons, cat_rf, cat_i, cat_j]; decide) (by decide) (by decide) (by decide) (by decide) h
  · have h := h.2 c9
    refine r_aload_n hC dX11_code_13 rfl 0 rfl ?_
    obtain ⟨v14, g14, h⟩ := h
    refine r_get hC (ci := 12) (kf := 4) (N := 12) (Cn := RX11) (T := TX11) rfl (by decide) tin_X11 fl_X11_231 rfl dX11_code_14 g14 ?_
    refine r_aload_n hC dX11_code_17 rfl 0 rfl ?_
    obtain ⟨v18, g18, h⟩ := h
    refine r_get hC (ci := 12) (kf := 3) (N := 12) (Cn := RX11) (T := TX11) rfl (by decide) tin_X11 fl_X11_24 rfl dX11_code_18 g18 ?_
    obtain ⟨v21, g21, h⟩ := h
    refine r_alen hC dX11_code_21 g21 ?_
    refine r_icmp_lt (tgt := 35) hC dX11_code_22 (by decide) (fun c9 => ?_) (fun c9 => ?_)
    · have h := h.1 c9
      refine r_aload_n hC dX11_code_35 rfl 0 rfl ?_
      obtain ⟨v36, g36, h⟩ := h
      refine r_get hC (ci := 12) (kf := 3) (N := 12) (Cn := RX11) (T := TX11) rfl (by decide) tin_X11 fl_X11_24 rfl dX11_code_36 g36 ?_
      refine r_aload_n hC dX11_code_39 rfl 0 rfl ?_
      obtain ⟨v40, g40, h⟩ := h
      refine r_get hC (ci := 12) (kf := 4) (N := 12) (Cn := RX11) (T := TX11) rfl (by decide) tin_X11 fl_X11_231 rfl dX11_code_40 g40 ?_
      refine r_new hC (ci := 4) (N := 2) (Cn := RX1) (T := TX1) (ty := tyX1) (fs := [.int 0, .null]) 104 (by decide) rfl tin_X1 tyX1_ok tb_163 tb_364 tb_133 rfl (fun j hj => by rcases (show j = 0 ∨ j = 1 by omega) with rfl | rfl <;> rfl) (by decide) (by decide) dX11_code_43 (fun a43 f43 => ?_)
      have h := h a43 _ f43 rfl
      refine r_dup hC dX11_code_46 (by first | rfl | exact cat_rf _) ?_
      refine r_iload_n hC dX11_code_47 rfl 1 rfl ?_
      obtain ⟨a48, o48, h⟩ := h
      refine r_IV hC hAo [.int x1] cal_X1_init ml_X11_236 rfl o48 (c_X1_init G _ _ _ _ _ h) ⟨by decide, by decide⟩ ⟨by decide, by decide⟩ (by simp only [List.map_nil, List.map_cons, List.sum_nil, List.sum_cons, cat_rf, cat_i, cat_j]; decide) rfl dX11_code_48 (fun E u hx9 => hx _ _ _ _ _ _ _ (by decide) (by decide) hx9) (fun ph48 h => ?_)
      refine RR.wid (k' := 3) (n' := 17) (by decide) (by decide) ?_
      obtain ⟨ph51, g51, h⟩ := h
      refine r_aast hC dX11_code_51 g51 ?_
      refine r_aload_n hC dX11_code_52 rfl 0 rfl ?_
      refine r_dup hC dX11_code_53 (by first | rfl | exact cat_rf _) ?_
      obtain ⟨v54, g54, h⟩ := h
      refine r_get hC (ci := 12) (kf := 4) (N := 12) (Cn := RX11) (T := TX11) rfl (by decide) tin_X11 fl_X11_231 rfl dX11_code_54 g54 ?_
      refine r_iconst (v := 1) hC dX11_code_57 (by decide) ?_
      refine r_iadd hC dX11_code_58 ?_
      obtain ⟨ph59, g59, h⟩ := h
      refine r_put hC (ci := 12) (kf := 4) (N := 12) (Cn := RX11) (T := TX11) (ty := .int) (ty0 := tyX11) rfl (by decide) tin_X11 tyX11_ok nmX11 fl_X11_231 rfl rfl (by decide +kernel) rfl rfl dX11_code_59 g59 ?_
      refine r_aload_n hC dX11_code_62 rfl 0 rfl ?_
      obtain ⟨v63, g63, h⟩ := h
      refine r_get hC (ci := 12) (kf := 4) (N := 12) (Cn := RX11) (T := TX11) rfl (by decide) tin_X11 fl_X11_231 rfl dX11_code_63 g63 ?_
      refine r_iconst (v := 1) hC dX11_code_66 (by decide) ?_
      refine r_isub hC dX11_code_67 ?_
      exact hr _ _ _ _ _ _ dX11_code_68 (by decide) (by decide) h
    · have h := h.2 c9
      exact hn _ _ _ _ _ _ _ _ _ _ _ _ 15 th_X11_84_88 rfl dX11_code_25 dX11_code_28 dX11_code_29 dX11_code_31 dX11_code_34 (by decide) (by simp only [List.map_nil, List.map_cons, List.sum_nil, List.sum_cons, cat_rf, cat_i, cat_j]; decide) (by decide) (by decide) (by decide) (by decide) h
set_option maxRecDepth 20000 in
theorem b_X11_codeAt_31 {C : Cx} {Z : State → Prop} {A : Nat → Prop} {G : GG} {Q : Option Nat → PH → Prop} {X : String → PH → Prop} (hC : CxOk RX11 cX11_codeAt 3 G A (rmk 6 90 1 6) C) (hAo : Ao (xs C)) (hr : HA C Z A G 3 cX11_codeAt 1 6 Q) (hx : HX C Z A G 3 1 6 X) (hn : HN C Z A G 3 RX11 cX11_codeAt 1 6 (rmk 6 90 1 6) X) (hnw : HNW C Z A G 3 RX11 cX11_codeAt 1 6 (rmk 6 90 1 6) X) (hnx : HNX C Z A G 3 RX11 cX11_codeAt 1 6 (rmk 6 90 1 6) X) (hi : True) : ∀ (s0 : Option Nat) (ph : PH), w_X11_codeAt_31 Q X s0 ph → RR C Z A G 3 31 [] [va_rf s0] ph 0 0 := by
  intro s0 ph h
  refine r_astore_n (i := 2) (lv' := [(2, va_rf s0)]) hC dX11_codeAt_31 rfl (by decide) (by first | rfl | simp [lvs1, lvs2, List.filter, cat_rf, cat_i, cat_j]) ?_
  refine r_aload_n hC dX11_codeAt_32 rfl 0 rfl ?_
  refine r_ifnonnull (tgt := 47) hC dX11_codeAt_33 (by decide) (fun c9 => ?_) (fun c9 => ?_)
  · have h := h.1 c9
    refine r_aload_n hC dX11_codeAt_47 rfl 0 rfl ?_
    exact hr _ _ _ _ _ _ dX11_codeAt_48 (by decide) (by decide) h
  · have h := h.2 c9
    exact hnw _ _ _ _ _ _ _ _ _ _ _ _ 16 th_X11_424_428 rfl dX11_codeAt_36 dX11_codeAt_39 dX11_codeAt_40 dX11_codeAt_43 dX11_codeAt_46 (by decide) (by simp only [List.map_nil, List.map_cons, List.sum_nil, List.sum_cons, cat_rf, cat_i, cat_j]; decide) (by decide) (by decide) (by decide) (by decide) h
set_option maxRecDepth 20000 in
theorem c_X11_codeAt (G : GG) (x0 : Nat) (x1 : Int32) (ph : PH) (Q : Option Nat → PH → Prop) (X : String → PH → Prop) (h : w_X11_codeAt x0 x1 ph Q X) : Ct G yX11_codeAt (.code yX11_codeAt cX11_codeAt 3 (some (.object "Shiftgate$Block"))) 6 90 1 6 [va_rf (some x0), .int x1] ph (oR Q) X := by
  refine ct_of (lv0 := [(0, va_rf (some x0)), (1, .int x1)]) (by decide +kernel) (by simp [lg_sl, cat_rf, cat_i, cat_j]) (by simp [lv_args, cat_rf, cat_i, cat_j]) ?_
  intro C A hC hAo hex hrt hnm
  have hr : HA C (ZM C G A (oR Q) X 1 6) A G 3 cX11_codeAt 1 6 Q := fun pc lv v ph k n d hk hn hq => e_a hC (cn := "Shiftgate$Block") (Or.inl hrt) pc lv v ph k n d hk hn ⟨v, rfl, hq⟩
  have hx := e_x (Q := oR Q) (X := X) (mc := 1) (ms := 6) hC hex
  have hn := e_n (Q := oR Q) (X := X) (mc := 1) (ms := 6) hC hex
  have hnw := e_nw (Q := oR Q) (X := X) (mc := 1) (ms := 6) hC hex
  have hnx := e_nx (Q := oR Q) (X := X) (mc := 1) (ms := 6) hC hex
  have hi : True := trivial
  generalize ZM C G A (oR Q) X 1 6 = Z at *
  refine r_iload_n hC dX11_codeAt_0 rfl 1 rfl ?_
  refine r_if_lt (tgt := 30) hC dX11_codeAt_1 (by decide) (fun c9 => ?_) (fun c9 => ?_)
  · have h := h.1 c9
    refine r_null hC dX11_codeAt_30 ?_
    refine RR.to (st' := [va_rf none]) rfl ?_
    exact RR.wid (by decide) (by decide) (RR.sub [] rfl (b_X11_codeAt_31 hC hAo hr hx hn hnw hnx hi  _ _ h))
  · have h := h.2 c9
    refine r_iload_n hC dX11_codeAt_4 rfl 1 rfl ?_
    refine r_aload_n hC dX11_codeAt_5 rfl 0 rfl ?_
    obtain ⟨v6, g6, h⟩ := h
    refine r_get hC (ci := 12) (kf := 4) (N := 12) (Cn := RX11) (T := TX11) rfl (by decide) tin_X11 fl_X11_231 rfl dX11_codeAt_6 g6 ?_
    refine r_icmp_ge (tgt := 30) hC dX11_codeAt_9 (by decide) (fun c9 => ?_) (fun c9 => ?_)
    · have h := h.1 c9
      refine r_null hC dX11_codeAt_30 ?_
      refine RR.to (st' := [va_rf none]) rfl ?_
      exact RR.wid (by decide) (by decide) (RR.sub [] rfl (b_X11_codeAt_31 hC hAo hr hx hn hnw hnx hi  _ _ h))
    · have h := h.2 c9
      refine r_iload_n hC dX11_codeAt_12 rfl 1 rfl ?_
      refine r_aload_n hC dX11_codeAt_13 rfl 0 rfl ?_
      obtain ⟨v14, g14, h⟩ := h
      refine r_get hC (ci := 12) (kf := 3) (N := 12) (Cn := RX11) (T := TX11) rfl (by decide) tin_X11 fl_X11_24 rfl dX11_codeAt_14 g14 ?_
      obtain ⟨v17, g17, h⟩ := h
      refine r_alen hC dX11_codeAt_17 g17 ?_
      refine r_icmp_ge (tgt := 30) hC dX11_codeAt_18 (by decide) (fun c9 => ?_) (fun c9 => ?_)
      · have h := h.1 c9
        refine r_null hC dX11_codeAt_30 ?_
        refine RR.to (st' := [va_rf none]) rfl ?_
        exact RR.wid (by decide) (by decide) (RR.sub [] rfl (b_X11_codeAt_31 hC hAo hr hx hn hnw hnx hi  _ _ h))
      · have h := h.2 c9
        refine r_aload_n hC dX11_codeAt_21 rfl 0 rfl ?_
        obtain ⟨v22, g22, h⟩ := h
        refine r_get hC (ci := 12) (kf := 3) (N := 12) (Cn := RX11) (T := TX11) rfl (by decide) tin_X11 fl_X11_24 rfl dX11_codeAt_22 g22 ?_
        refine r_iload_n hC dX11_codeAt_25 rfl 1 rfl ?_
        obtain ⟨v26, g26, h⟩ := h
        refine r_aald hC dX11_codeAt_26 g26 ?_
        refine r_goto (tgt := 31) hC dX11_codeAt_27 (by decide) ?_
        exact RR.wid (by decide) (by decide) (RR.sub [] rfl (b_X11_codeAt_31 hC hAo hr hx hn hnw hnx hi  _ _ h))
set_option maxRecDepth 20000 in
theorem c_X1_hasLetter (G : GG) (x0 : Nat) (x1 : Int32) (ph : PH) (Q : Int32 → PH → Prop) (X : String → PH → Prop) (h : w_X1_hasLetter x0 x1 ph Q X) : Ct G yX1_hasLetter (.code yX1_hasLetter cX1_hasLetter 2 (some (.boolean))) 0 0 0 0 [va_rf (some x0), .int x1] ph (oI Q) X := by
  refine ct_of (lv0 := [(0, va_rf (some x0)), (1, .int x1)]) (by decide +kernel) (by simp [lg_sl, cat_rf, cat_i, cat_j]) (by simp [lv_args, cat_rf, cat_i, cat_j]) ?_
  intro C A hC hAo hex hrt hnm
  have hr : HZ C (ZM C G A (oI Q) X 0 0) A G 2 cX1_hasLetter 0 0 Q := fun pc lv v ph k n d hk hn hq => e_s hC (ty := .boolean) hrt pc lv v ph k n d hk hn ⟨hq.1, v, rfl, hq.2⟩
  have hx := e_x (Q := oI Q) (X := X) (mc := 0) (ms := 0) hC hex
  have hn := e_n (Q := oI Q) (X := X) (mc := 0) (ms := 0) hC hex
  have hnw := e_nw (Q := oI Q) (X := X) (mc := 0) (ms := 0) hC hex
  have hnx := e_nx (Q := oI Q) (X := X) (mc := 0) (ms := 0) hC hex
  have hi : True := trivial
  generalize ZM C G A (oI Q) X 0 0 = Z at *
  refine r_iload_n hC dX1_hasLetter_0 rfl 1 rfl ?_
  refine r_if_lt (tgt := 16) hC dX1_hasLetter_1 (by decide) (fun c9 => ?_) (fun c9 => ?_)
  · have h := h.1 c9
    refine r_iconst (v := 0) hC dX1_hasLetter_16 (by decide) ?_
    exact hr _ _ _ _ _ _ dX1_hasLetter_17 (by decide) (by decide) h
  · have h := h.2 c9
    refine r_iload_n hC dX1_hasLetter_4 rfl 1 rfl ?_
    refine r_aload_n hC dX1_hasLetter_5 rfl 0 rfl ?_
    obtain ⟨v6, g6, h⟩ := h
    refine r_get hC (ci := 4) (kf := 0) (N := 2) (Cn := RX1) (T := TX1) rfl (by decide) tin_X1 fl_X1_9 rfl dX1_hasLetter_6 g6 ?_
    refine r_icmp_ge (tgt := 16) hC dX1_hasLetter_9 (by decide) (fun c9 => ?_) (fun c9 => ?_)
    · have h := h.1 c9
      refine r_iconst (v := 0) hC dX1_hasLetter_16 (by decide) ?_
      exact hr _ _ _ _ _ _ dX1_hasLetter_17 (by decide) (by decide) h
    · have h := h.2 c9
      refine r_iconst (v := 1) hC dX1_hasLetter_12 (by decide) ?_
      refine r_goto (tgt := 17) hC dX1_hasLetter_13 (by decide) ?_
      exact hr _ _ _ _ _ _ dX1_hasLetter_17 (by decide) (by decide) h
set_option maxRecDepth 20000 in
theorem c_X1_given (G : GG) (x0 : Nat) (x1 : Int32) (x2 : Int32) (ph : PH) (Q : Int32 → PH → Prop) (X : String → PH → Prop) (h : w_X1_given x0 x1 x2 ph Q X) : Ct G yX1_given (.code yX1_given cX1_given 4 (some (.int))) 1 21 0 0 [va_rf (some x0), .int x1, .int x2] ph (oI Q) X := by
  refine ct_of (lv0 := [(0, va_rf (some x0)), (1, .int x1), (2, .int x2)]) (by decide +kernel) (by simp [lg_sl, cat_rf, cat_i, cat_j]) (by simp [lv_args, cat_rf, cat_i, cat_j]) ?_
  intro C A hC hAo hex hrt hnm
  have hr : HI C (ZM C G A (oI Q) X 0 0) A G 4 cX1_given 0 0 Q := fun pc lv v ph k n d hk hn hq => e_i hC hrt pc lv v ph k n d hk hn ⟨v, rfl, hq⟩
  have hx := e_x (Q := oI Q) (X := X) (mc := 0) (ms := 0) hC hex
  have hn := e_n (Q := oI Q) (X := X) (mc := 0) (ms := 0) hC hex
  have hnw := e_nw (Q := oI Q) (X := X) (mc := 0) (ms := 0) hC hex
  have hnx := e_nx (Q := oI Q) (X := X) (mc := 0) (ms := 0) hC hex
  have hi : True := trivial
  generalize ZM C G A (oI Q) X 0 0 = Z at *
  refine r_iconst (v := 3) hC dX1_given_0 (by decide) ?_
  refine r_iload_n hC dX1_given_1 rfl 1 rfl ?_
  refine r_imul hC dX1_given_2 ?_
  refine r_iload_n hC dX1_given_3 rfl 2 rfl ?_
  refine r_iadd hC dX1_given_4 ?_
  obtain ⟨v5, ev5⟩ : ∃ z : Int32, z = ((3 : Int32) * x1) + x2 := ⟨_, rfl⟩
  have h := h v5 ev5
  refine RR.to (st' := [.int v5]) (by rw [ev5]) ?_
  refine r_istore_n (i := 3) (lv' := [(3, .int v5), (0, va_rf (some x0)), (1, .int x1), (2, .int x2)]) hC dX1_given_5 rfl (by decide) (by first | rfl | simp [lvs1, lvs2, List.filter, cat_rf, cat_i, cat_j]) ?_
  refine r_aload_n hC dX1_given_6 rfl 1 rfl ?_
  refine r_iload_n hC dX1_given_7 rfl 2 rfl ?_
  obtain ⟨a8, o8, h⟩ := h
  refine r_VI hC hAo [.int x1] cal_X1_hasLetter ml_X1_19 (ci := 4) rfl rfl rfl (c_X1_hasLetter G _ _ _ _ _ h) o8 ⟨by decide, by decide⟩ ⟨by decide, by decide⟩ (by simp only [List.map_nil, List.map_cons, List.sum_nil, List.sum_cons, cat_rf, cat_i, cat_j]; decide) rfl dX1_given_8 (fun E u hx9 => hx _ _ _ _ _ _ _ (by decide) (by decide) hx9) (fun v8 ph8 h => ?_)
  refine RR.wid (k' := 0) (n' := 0) (by decide) (by decide) ?_
  refine r_if_eq (tgt := 40) hC dX1_given_11 (by decide) (fun c9 => ?_) (fun c9 => ?_)
  · have h := h.1 c9
    refine r_iconst (v := 0) hC dX1_given_40 (by decide) ?_
    exact hr _ _ _ _ _ _ dX1_given_41 (by decide) (by decide) h
  · have h := h.2 c9
    refine r_aload_n hC dX1_given_14 rfl 1 rfl ?_
    refine r_iload_n hC dX1_given_15 rfl 3 rfl ?_
    obtain ⟨a16, o16, h⟩ := h
    refine r_VI hC hAo [.int x2] cal_X1_hasLetter ml_X1_19 (ci := 4) rfl rfl rfl (c_X1_hasLetter G _ _ _ _ _ h) o16 ⟨by decide, by decide⟩ ⟨by decide, by decide⟩ (by simp only [List.map_nil, List.map_cons, List.sum_nil, List.sum_cons, cat_rf, cat_i, cat_j]; decide) rfl dX1_given_16 (fun E u hx9 => hx _ _ _ _ _ _ _ (by decide) (by decide) hx9) (fun v16 ph16 h => ?_)
    refine RR.wid (k' := 0) (n' := 0) (by decide) (by decide) ?_
    refine r_if_eq (tgt := 40) hC dX1_given_19 (by decide) (fun c9 => ?_) (fun c9 => ?_)
    · have h := h.1 c9
      refine r_iconst (v := 0) hC dX1_given_40 (by decide) ?_
      exact hr _ _ _ _ _ _ dX1_given_41 (by decide) (by decide) h
    · have h := h.2 c9
      refine r_iload_n hC dX1_given_22 rfl 0 rfl ?_
      refine r_aload_n hC dX1_given_23 rfl 1 rfl ?_
      obtain ⟨v24, g24, h⟩ := h
      refine r_get hC (ci := 4) (kf := 1) (N := 2) (Cn := RX1) (T := TX1) rfl (by decide) tin_X1 fl_X1_15 rfl dX1_given_24 g24 ?_
      obtain ⟨v27, g27, h⟩ := h
      refine r_alen hC dX1_given_27 g27 ?_
      refine r_icmp_ge (tgt := 40) hC dX1_given_28 (by decide) (fun c9 => ?_) (fun c9 => ?_)
      · have h := h.1 c9
        refine r_iconst (v := 0) hC dX1_given_40 (by decide) ?_
        exact hr _ _ _ _ _ _ dX1_given_41 (by decide) (by decide) h
      · have h := h.2 c9
        refine r_aload_n hC dX1_given_31 rfl 1 rfl ?_
        obtain ⟨v32, g32, h⟩ := h
        refine r_get hC (ci := 4) (kf := 1) (N := 2) (Cn := RX1) (T := TX1) rfl (by decide) tin_X1 fl_X1_15 rfl dX1_given_32 g32 ?_
        refine r_iload_n hC dX1_given_35 rfl 0 rfl ?_
        obtain ⟨v36, g36, h⟩ := h
        refine r_iald hC dX1_given_36 g36 ?_
        refine r_goto (tgt := 41) hC dX1_given_37 (by decide) ?_
        exact hr _ _ _ _ _ _ dX1_given_41 (by decide) (by decide) h
set_option maxRecDepth 20000 in
theorem c_X1_give (G : GG) (x0 : Nat) (x1 : Int32) (x2 : Int32) (x3 : Int32) (ph : PH) (Q : PH → Prop) (X : String → PH → Prop) (h : w_X1_give x0 x1 x2 x3 ph Q X) : Ct G yX1_give (.code yX1_give cX1_give 5 none) 1 21 0 0 [va_rf (some x0), .int x1, .int x2, .int x3] ph (oV Q) X := by
  refine ct_of (lv0 := [(0, va_rf (some x0)), (1, .int x1), (2, .int x2), (3, .int x3)]) (by decide +kernel) (by simp [lg_sl, cat_rf, cat_i, cat_j]) (by simp [lv_args, cat_rf, cat_i, cat_j]) ?_
  intro C A hC hAo hex hrt hnm
  have hr : HV C (ZM C G A (oV Q) X 0 0) A G 5 cX1_give 0 0 Q := fun pc lv ph k n d hk hn hq => e_v hC hrt pc lv ph k n d hk hn ⟨rfl, hq⟩
  have hx := e_x (Q := oV Q) (X := X) (mc := 0) (ms := 0) hC hex
  have hn := e_n (Q := oV Q) (X := X) (mc := 0) (ms := 0) hC hex
  have hnw := e_nw (Q := oV Q) (X := X) (mc := 0) (ms := 0) hC hex
  have hnx := e_nx (Q := oV Q) (X := X) (mc := 0) (ms := 0) hC hex
  have hi : True := trivial
  generalize ZM C G A (oV Q) X 0 0 = Z at *
  refine r_iconst (v := 3) hC dX1_give_0 (by decide) ?_
  refine r_iload_n hC dX1_give_1 rfl 1 rfl ?_
  refine r_imul hC dX1_give_2 ?_
  refine r_iload_n hC dX1_give_3 rfl 2 rfl ?_
  refine r_iadd hC dX1_give_4 ?_
  obtain ⟨v5, ev5⟩ : ∃ z : Int32, z = ((3 : Int32) * x1) + x2 := ⟨_, rfl⟩
  have h := h v5 ev5
  refine RR.to (st' := [.int v5]) (by rw [ev5]) ?_
  refine r_istore (i := 4) (lv' := [(4, .int v5), (0, va_rf (some x0)), (1, .int x1), (2, .int x2), (3, .int x3)]) hC dX1_give_5 (by decide) (by first | rfl | simp [lvs1, lvs2, List.filter, cat_rf, cat_i, cat_j]) ?_
  refine r_aload_n hC dX1_give_7 rfl 1 rfl ?_
  refine r_iload_n hC dX1_give_8 rfl 2 rfl ?_
  obtain ⟨a9, o9, h⟩ := h
  refine r_VI hC hAo [.int x1] cal_X1_hasLetter ml_X1_19 (ci := 4) rfl rfl rfl (c_X1_hasLetter G _ _ _ _ _ h) o9 ⟨by decide, by decide⟩ ⟨by decide, by decide⟩ (by simp only [List.map_nil, List.map_cons, List.sum_nil, List.sum_cons, cat_rf, cat_i, cat_j]; decide) rfl dX1_give_9 (fun E u hx9 => hx _ _ _ _ _ _ _ (by decide) (by decide) hx9) (fun v9 ph9 h => ?_)
  refine RR.wid (k' := 0) (n' := 0) (by decide) (by decide) ?_
  refine r_if_eq (tgt := 41) hC dX1_give_12 (by decide) (fun c9 => ?_) (fun c9 => ?_)
  · have h := h.1 c9
    exact hr _ _ _ _ _ dX1_give_41 (by decide) (by decide) h
  · have h := h.2 c9
    refine r_aload_n hC dX1_give_15 rfl 1 rfl ?_
    refine r_iload_n hC dX1_give_16 rfl 3 rfl ?_
    obtain ⟨a17, o17, h⟩ := h
    refine r_VI hC hAo [.int x2] cal_X1_hasLetter ml_X1_19 (ci := 4) rfl rfl rfl (c_X1_hasLetter G _ _ _ _ _ h) o17 ⟨by decide, by decide⟩ ⟨by decide, by decide⟩ (by simp only [List.map_nil, List.map_cons, List.sum_nil, List.sum_cons, cat_rf, cat_i, cat_j]; decide) rfl dX1_give_17 (fun E u hx9 => hx _ _ _ _ _ _ _ (by decide) (by decide) hx9) (fun v17 ph17 h => ?_)
    refine RR.wid (k' := 0) (n' := 0) (by decide) (by decide) ?_
    refine r_if_eq (tgt := 41) hC dX1_give_20 (by decide) (fun c9 => ?_) (fun c9 => ?_)
    · have h := h.1 c9
      exact hr _ _ _ _ _ dX1_give_41 (by decide) (by decide) h
    · have h := h.2 c9
      refine r_iload hC dX1_give_23 0 rfl ?_
      refine r_aload_n hC dX1_give_25 rfl 1 rfl ?_
      obtain ⟨v26, g26, h⟩ := h
      refine r_get hC (ci := 4) (kf := 1) (N := 2) (Cn := RX1) (T := TX1) rfl (by decide) tin_X1 fl_X1_15 rfl dX1_give_26 g26 ?_
      obtain ⟨v29, g29, h⟩ := h
      refine r_alen hC dX1_give_29 g29 ?_
      refine r_icmp_ge (tgt := 41) hC dX1_give_30 (by decide) (fun c9 => ?_) (fun c9 => ?_)
      · have h := h.1 c9
        exact hr _ _ _ _ _ dX1_give_41 (by decide) (by decide) h
      · have h := h.2 c9
        refine r_aload_n hC dX1_give_33 rfl 1 rfl ?_
        obtain ⟨v34, g34, h⟩ := h
        refine r_get hC (ci := 4) (kf := 1) (N := 2) (Cn := RX1) (T := TX1) rfl (by decide) tin_X1 fl_X1_15 rfl dX1_give_34 g34 ?_
        refine r_iload hC dX1_give_37 0 rfl ?_
        refine r_iload_n hC dX1_give_39 rfl 4 rfl ?_
        obtain ⟨ph40, g40, h⟩ := h
        refine r_iast hC dX1_give_40 g40 ?_
        exact hr _ _ _ _ _ dX1_give_41 (by decide) (by decide) h
set_option maxRecDepth 20000 in
theorem c_X9_signOf (G : GG) (x0 : Int32) (ph : PH) (Q : Int32 → PH → Prop) (X : String → PH → Prop) (h : w_X9_signOf x0 ph Q X) : Ct G yX9_signOf (.code yX9_signOf cX9_signOf 1 (some (.char))) 0 0 0 0 [.int x0] ph (oI Q) X := by
  refine ct_of (lv0 := [(0, .int x0)]) (by decide +kernel) (by simp [lg_sl, cat_rf, cat_i, cat_j]) (by simp [lv_args, cat_rf, cat_i, cat_j]) ?_
  intro C A hC hAo hex hrt hnm
  have hr : HC C (ZM C G A (oI Q) X 0 0) A G 1 cX9_signOf 0 0 Q := fun pc lv v ph k n d hk hn hq => e_s hC (ty := .char) hrt pc lv v ph k n d hk hn ⟨hq.1, v, rfl, hq.2⟩
  have hx := e_x (Q := oI Q) (X := X) (mc := 0) (ms := 0) hC hex
  have hn := e_n (Q := oI Q) (X := X) (mc := 0) (ms := 0) hC hex
  have hnw := e_nw (Q := oI Q) (X := X) (mc := 0) (ms := 0) hC hex
  have hnx := e_nx (Q := oI Q) (X := X) (mc := 0) (ms := 0) hC hex
  have hi : True := trivial
  generalize ZM C G A (oI Q) X 0 0 = Z at *
  refine r_bipush (v := 97) hC dX9_signOf_0 (by decide) ?_
  refine r_iload_n hC dX9_signOf_2 rfl 0 rfl ?_
  refine r_iadd hC dX9_signOf_3 ?_
  refine r_i2c hC dX9_signOf_4 ?_
  exact hr _ _ _ _ _ _ dX9_signOf_5 (by decide) (by decide) h
set_option maxRecDepth 20000 in
theorem c_X11_set (G : GG) (x0 : Nat) (x1 : Int32) (x2 : Int32) (x3 : Int32) (x4 : Int32) (ph : PH) (Q : Int32 → PH → Prop) (X : String → PH → Prop) (h : w_X11_set x0 x1 x2 x3 x4 ph Q X) : Ct G yX11_set (.code yX11_set cX11_set 10 (some (.char))) 7 112 2 12 [va_rf (some x0), .int x1, .int x2, .int x3, .int x4] ph (oI Q) X := by
  refine ct_of (lv0 := [(0, va_rf (some x0)), (1, .int x1), (2, .int x2), (3, .int x3), (4, .int x4)]) (by decide +kernel) (by simp [lg_sl, cat_rf, cat_i, cat_j]) (by simp [lv_args, cat_rf, cat_i, cat_j]) ?_
  intro C A hC hAo hex hrt hnm
  have hr : HC C (ZM C G A (oI Q) X 2 12) A G 10 cX11_set 2 12 Q := fun pc lv v ph k n d hk hn hq => e_s hC (ty := .char) hrt pc lv v ph k n d hk hn ⟨hq.1, v, rfl, hq.2⟩
  have hx := e_x (Q := oI Q) (X := X) (mc := 2) (ms := 12) hC hex
  have hn := e_n (Q := oI Q) (X := X) (mc := 2) (ms := 12) hC hex
  have hnw := e_nw (Q := oI Q) (X := X) (mc := 2) (ms := 12) hC hex
  have hnx := e_nx (Q := oI Q) (X := X) (mc := 2) (ms := 12) hC hex
  have hi : True := trivial
  generalize ZM C G A (oI Q) X 2 12 = Z at *
  refine r_aload_n hC dX11_set_0 rfl 0 rfl ?_
  refine r_iload_n hC dX11_set_1 rfl 1 rfl ?_
  obtain ⟨a2, o2, h⟩ := h
  refine r_VR hC hAo [.int x1] cal_X11_codeAt ml_X11_239 (ci := 12) rfl rfl rfl (c_X11_codeAt G _ _ _ _ _ h) o2 ⟨by decide, by decide⟩ ⟨by decide, by decide⟩ (by simp only [List.map_nil, List.map_cons, List.sum_nil, List.sum_cons, cat_rf, cat_i, cat_j]; decide) rfl dX11_set_2 (fun E u hx9 => hx _ _ _ _ _ _ _ (by decide) (by decide) hx9) (fun v2 ph2 h => ?_)
  refine RR.wid (k' := 1) (n' := 6) (by decide) (by decide) ?_
  refine r_astore (i := 5) (lv' := [(5, va_rf v2), (0, va_rf (some x0)), (1, .int x1), (2, .int x2), (3, .int x3), (4, .int x4)]) hC dX11_set_5 (by decide) (by first | rfl | simp [lvs1, lvs2, List.filter, cat_rf, cat_i, cat_j]) ?_
  refine r_iload_n hC dX11_set_7 rfl 3 rfl ?_
  refine r_SI hC hAo [.int x2] cal_X9_letterOf ml_X11_114 rfl (c_X9_letterOf G _ _ _ _ h) ⟨by decide, by decide⟩ ⟨by decide, by decide⟩ (by simp only [List.map_nil, List.map_cons, List.sum_nil, List.sum_cons, cat_rf, cat_i, cat_j]; decide) rfl dX11_set_8 (fun E u hx9 => hx _ _ _ _ _ _ _ (by decide) (by decide) hx9) (fun v8 ph8 h => ?_)
  refine RR.wid (k' := 1) (n' := 6) (by decide) (by decide) ?_
  refine r_istore (i := 6) (lv' := [(6, .int v8), (5, va_rf v2), (0, va_rf (some x0)), (1, .int x1), (2, .int x2), (3, .int x3), (4, .int x4)]) hC dX11_set_11 (by decide) (by first | rfl | simp [lvs1, lvs2, List.filter, cat_rf, cat_i, cat_j]) ?_
  refine r_iload_n hC dX11_set_13 rfl 5 rfl ?_
  refine r_SI hC hAo [.int x3] cal_X9_letterOf ml_X11_114 rfl (c_X9_letterOf G _ _ _ _ h) ⟨by decide, by decide⟩ ⟨by decide, by decide⟩ (by simp only [List.map_nil, List.map_cons, List.sum_nil, List.sum_cons, cat_rf, cat_i, cat_j]; decide) rfl dX11_set_14 (fun E u hx9 => hx _ _ _ _ _ _ _ (by decide) (by decide) hx9) (fun v14 ph14 h => ?_)
  refine RR.wid (k' := 1) (n' := 6) (by decide) (by decide) ?_
  refine r_istore (i := 7) (lv' := [(7, .int v14), (6, .int v8), (5, va_rf v2), (0, va_rf (some x0)), (1, .int x1), (2, .int x2), (3, .int x3), (4, .int x4)]) hC dX11_set_17 (by decide) (by first | rfl | simp [lvs1, lvs2, List.filter, cat_rf, cat_i, cat_j]) ?_
  refine r_iload hC dX11_set_19 7 rfl ?_
  refine r_SI hC hAo [.int x4] cal_X9_letterOf ml_X11_114 rfl (c_X9_letterOf G _ _ _ _ h) ⟨by decide, by decide⟩ ⟨by decide, by decide⟩ (by simp only [List.map_nil, List.map_cons, List.sum_nil, List.sum_cons, cat_rf, cat_i, cat_j]; decide) rfl dX11_set_21 (fun E u hx9 => hx _ _ _ _ _ _ _ (by decide) (by decide) hx9) (fun v21 ph21 h => ?_)
  refine RR.wid (k' := 1) (n' := 6) (by decide) (by decide) ?_
  refine r_istore (i := 8) (lv' := [(8, .int v21), (7, .int v14), (6, .int v8), (5, va_rf v2), (0, va_rf (some x0)), (1, .int x1), (2, .int x2), (3, .int x3), (4, .int x4)]) hC dX11_set_24 (by decide) (by first | rfl | simp [lvs1, lvs2, List.filter, cat_rf, cat_i, cat_j]) ?_
  refine r_aload hC dX11_set_26 3 rfl ?_
  refine r_iload hC dX11_set_28 2 rfl ?_
  obtain ⟨a30, o30, h⟩ := h
  refine r_VI hC hAo [.int v8] cal_X1_hasLetter ml_X11_243 (ci := 4) rfl rfl rfl (c_X1_hasLetter G _ _ _ _ _ h) o30 ⟨by decide, by decide⟩ ⟨by decide, by decide⟩ (by simp only [List.map_nil, List.map_cons, List.sum_nil, List.sum_cons, cat_rf, cat_i, cat_j]; decide) rfl dX11_set_30 (fun E u hx9 => hx _ _ _ _ _ _ _ (by decide) (by decide) hx9) (fun v30 ph30 h => ?_)
  refine RR.wid (k' := 1) (n' := 6) (by decide) (by decide) ?_
  refine r_if_eq (tgt := 56) hC dX11_set_33 (by decide) (fun c9 => ?_) (fun c9 => ?_)
  · have h := h.1 c9
    exact hn _ _ _ _ _ _ _ _ _ _ _ _ 17 th_X11_73_77 rfl dX11_set_56 dX11_set_59 dX11_set_60 dX11_set_62 dX11_set_65 (by decide) (by simp only [List.map_nil, List.map_cons, List.sum_nil, List.sum_cons, cat_rf, cat_i, cat_j]; decide) (by decide) (by decide) (by decide) (by decide) h
  · have h := h.2 c9
    refine r_aload hC dX11_set_36 3 rfl ?_
    refine r_iload hC dX11_set_38 1 rfl ?_
    obtain ⟨a40, o40, h⟩ := h
    refine r_VI hC hAo [.int v14] cal_X1_hasLetter ml_X11_243 (ci := 4) rfl rfl rfl (c_X1_hasLetter G _ _ _ _ _ h) o40 ⟨by decide, by decide⟩ ⟨by decide, by decide⟩ (by simp only [List.map_nil, List.map_cons, List.sum_nil, List.sum_cons, cat_rf, cat_i, cat_j]; decide) rfl dX11_set_40 (fun E u hx9 => hx _ _ _ _ _ _ _ (by decide) (by decide) hx9) (fun v40 ph40 h => ?_)
    refine RR.wid (k' := 1) (n' := 6) (by decide) (by decide) ?_
    refine r_if_eq (tgt := 56) hC dX11_set_43 (by decide) (fun c9 => ?_) (fun c9 => ?_)
    · have h := h.1 c9
      exact hn _ _ _ _ _ _ _ _ _ _ _ _ 17 th_X11_73_77 rfl dX11_set_56 dX11_set_59 dX11_set_60 dX11_set_62 dX11_set_65 (by decide) (by simp only [List.map_nil, List.map_cons, List.sum_nil, List.sum_cons, cat_rf, cat_i, cat_j]; decide) (by decide) (by decide) (by decide) (by decide) h
    · have h := h.2 c9
      refine r_aload hC dX11_set_46 3 rfl ?_
      refine r_iload hC dX11_set_48 0 rfl ?_
      obtain ⟨a50, o50, h⟩ := h
      refine r_VI hC hAo [.int v21] cal_X1_hasLetter ml_X11_243 (ci := 4) rfl rfl rfl (c_X1_hasLetter G _ _ _ _ _ h) o50 ⟨by decide, by decide⟩ ⟨by decide, by decide⟩ (by simp only [List.map_nil, List.map_cons, List.sum_nil, List.sum_cons, cat_rf, cat_i, cat_j]; decide) rfl dX11_set_50 (fun E u hx9 => hx _ _ _ _ _ _ _ (by decide) (by decide) hx9) (fun v50 ph50 h => ?_)
      refine RR.wid (k' := 1) (n' := 6) (by decide) (by decide) ?_
      refine r_if_ne (tgt := 66) hC dX11_set_53 (by decide) (fun c9 => ?_) (fun c9 => ?_)
      · have h := h.1 c9
        refine r_aload hC dX11_set_66 3 rfl ?_
        refine r_iload hC dX11_set_68 2 rfl ?_
        refine r_iload hC dX11_set_70 1 rfl ?_
        obtain ⟨a72, o72, h⟩ := h
        refine r_VI hC hAo [.int v8, .int v14] cal_X1_given ml_X11_246 (ci := 4) rfl rfl rfl (c_X1_given G _ _ _ _ _ _ h) o72 ⟨by decide, by decide⟩ ⟨by decide, by decide⟩ (by simp only [List.map_nil, List.map_cons, List.sum_nil, List.sum_cons, cat_rf, cat_i, cat_j]; decide) rfl dX11_set_72 (fun E u hx9 => hx _ _ _ _ _ _ _ (by decide) (by decide) hx9) (fun v72 ph72 h => ?_)
        refine RR.wid (k' := 1) (n' := 6) (by decide) (by decide) ?_
        refine r_istore (i := 9) (lv' := [(9, .int v72), (8, .int v21), (7, .int v14), (6, .int v8), (5, va_rf v2), (0, va_rf (some x0)), (1, .int x1), (2, .int x2), (3, .int x3), (4, .int x4)]) hC dX11_set_75 (by decide) (by first | rfl | simp [lvs1, lvs2, List.filter, cat_rf, cat_i, cat_j]) ?_
        refine r_aload hC dX11_set_77 4 rfl ?_
        refine r_iload hC dX11_set_79 3 rfl ?_
        refine r_iload hC dX11_set_81 2 rfl ?_
        refine r_iload hC dX11_set_83 1 rfl ?_
        obtain ⟨a85, o85, h⟩ := h
        refine r_VV hC hAo [.int v8, .int v14, .int v21] cal_X1_give ml_X11_249 (ci := 4) rfl rfl rfl (c_X1_give G _ _ _ _ _ _ _ h) o85 ⟨by decide, by decide⟩ ⟨by decide, by decide⟩ (by simp only [List.map_nil, List.map_cons, List.sum_nil, List.sum_cons, cat_rf, cat_i, cat_j]; decide) rfl dX11_set_85 (fun E u hx9 => hx _ _ _ _ _ _ _ (by decide) (by decide) hx9) (fun ph85 h => ?_)
        refine RR.wid (k' := 1) (n' := 6) (by decide) (by decide) ?_
        refine r_iload hC dX11_set_88 0 rfl ?_
        refine r_SI hC hAo [.int v72] cal_X9_signOf ml_X11_252 rfl (c_X9_signOf G _ _ _ _ h) ⟨by decide, by decide⟩ ⟨by decide, by decide⟩ (by simp only [List.map_nil, List.map_cons, List.sum_nil, List.sum_cons, cat_rf, cat_i, cat_j]; decide) rfl dX11_set_90 (fun E u hx9 => hx _ _ _ _ _ _ _ (by decide) (by decide) hx9) (fun v90 ph90 h => ?_)
        refine RR.wid (k' := 1) (n' := 6) (by decide) (by decide) ?_
        exact hr _ _ _ _ _ _ dX11_set_93 (by decide) (by decide) h
      · have h := h.2 c9
        exact hn _ _ _ _ _ _ _ _ _ _ _ _ 17 th_X11_73_77 rfl dX11_set_56 dX11_set_59 dX11_set_60 dX11_set_62 dX11_set_65 (by decide) (by simp only [List.map_nil, List.map_cons, List.sum_nil, List.sum_cons, cat_rf, cat_i, cat_j]; decide) (by decide) (by decide) (by decide) (by decide) h
set_option maxRecDepth 20000 in
theorem b_X9_hasOnlyLetters_2 {C : Cx} {Z : State → Prop} {A : Nat → Prop} {G : GG} {Q : Int32 → PH → Prop} {X : String → PH → Prop} (hC : CxOk RX9 cX9_hasOnlyLetters 4 G A (rmk 2 42 0 0) C) (hAo : Ao (xs C)) (hr : HZ C Z A G 4 cX9_hasOnlyLetters 0 0 Q) (hx : HX C Z A G 4 0 0 X) (hn : HN C Z A G 4 RX9 cX9_hasOnlyLetters 0 0 (rmk 2 42 0 0) X) (hnw : HNW C Z A G 4 RX9 cX9_hasOnlyLetters 0 0 (rmk 2 42 0 0) X) (hnx : HNX C Z A G 4 RX9 cX9_hasOnlyLetters 0 0 (rmk 2 42 0 0) X) (hi : True) : ∀ (fu : Nat) (x0 : Option Nat) (x1 : Int32) (x2 : Int32) (ph : PH), w_X9_hasOnlyLetters_2 Q X fu x0 x1 x2 ph → RR C Z A G 4 2 [(0, va_rf x0), (1, .int x1), (2, .int x2)] [] ph 0 0 := by
  intro fu
  induction fu with
  | zero => intro x0 x1 x2 ph h; exact h.elim
  | succ fu ih =>
    intro x0 x1 x2 ph h
    refine r_iload_n hC dX9_hasOnlyLetters_2 rfl 2 rfl ?_
    refine r_aload_n hC dX9_hasOnlyLetters_3 rfl 0 rfl ?_
    obtain ⟨v4, g4, h⟩ := h
    refine r_get hC (ci := 10) (kf := 1) (N := 2) (Cn := RX9) (T := TX9) rfl (by decide) tin_X9 fl_X9_19 rfl dX9_hasOnlyLetters_4 g4 ?_
    refine r_icmp_ge (tgt := 33) hC dX9_hasOnlyLetters_7 (by decide) (fun c9 => ?_) (fun c9 => ?_)
    · have h := h.1 c9
      refine r_iconst (v := 1) hC dX9_hasOnlyLetters_33 (by decide) ?_
      exact hr _ _ _ _ _ _ dX9_hasOnlyLetters_34 (by decide) (by decide) h
    · have h := h.2 c9
      refine r_aload_n hC dX9_hasOnlyLetters_10 rfl 0 rfl ?_
      refine r_iload_n hC dX9_hasOnlyLetters_11 rfl 2 rfl ?_
      obtain ⟨a12, o12, h⟩ := h
      refine r_VI hC hAo [.int x2] cal_X9_letterAt ml_X9_31 (ci := 10) rfl rfl rfl (c_X9_letterAt G _ _ _ _ _ h) o12 ⟨by decide, by decide⟩ ⟨by decide, by decide⟩ (by simp only [List.map_nil, List.map_cons, List.sum_nil, List.sum_cons, cat_rf, cat_i, cat_j]; decide) rfl dX9_hasOnlyLetters_12 (fun E u hx9 => hx _ _ _ _ _ _ _ (by decide) (by decide) hx9) (fun v12 ph12 h => ?_)
      refine RR.wid (k' := 0) (n' := 0) (by decide) (by decide) ?_
      refine r_istore_n (i := 3) (lv' := [(3, .int v12), (0, va_rf x0), (1, .int x1), (2, .int x2)]) hC dX9_hasOnlyLetters_15 rfl (by decide) (by first | rfl | simp [lvs1, lvs2, List.filter, cat_rf, cat_i, cat_j]) ?_
      refine r_iload_n hC dX9_hasOnlyLetters_16 rfl 0 rfl ?_
      refine r_if_lt (tgt := 25) hC dX9_hasOnlyLetters_17 (by decide) (fun c9 => ?_) (fun c9 => ?_)
      · have h := h.1 c9
        refine r_iconst (v := 0) hC dX9_hasOnlyLetters_25 (by decide) ?_
        exact hr _ _ _ _ _ _ dX9_hasOnlyLetters_26 (by decide) (by decide) h
      · have h := h.2 c9
        refine r_iload_n hC dX9_hasOnlyLetters_20 rfl 0 rfl ?_
        refine r_iload_n hC dX9_hasOnlyLetters_21 rfl 2 rfl ?_
        refine r_icmp_lt (tgt := 27) hC dX9_hasOnlyLetters_22 (by decide) (fun c9 => ?_) (fun c9 => ?_)
        · have h := h.1 c9
          refine r_iinc (w := 3) (v := x2 + 1) (lv' := [(2, .int (x2 + 1)), (3, .int v12), (0, va_rf x0), (1, .int x1)]) hC dX9_hasOnlyLetters_27 rfl rfl (by decide) (by first | rfl | simp [lvs1, List.filter, cat_rf, cat_i, cat_j]) ?_
          refine r_goto (tgt := 2) hC dX9_hasOnlyLetters_30 (by decide) ?_
          exact RR.wid (by decide) (by decide) (RR.sub [2, 3, 0] rfl (ih _ _ _ _ h))
        · have h := h.2 c9
          refine r_iconst (v := 0) hC dX9_hasOnlyLetters_25 (by decide) ?_
          exact hr _ _ _ _ _ _ dX9_hasOnlyLetters_26 (by decide) (by decide) h
set_option maxRecDepth 20000 in
theorem c_X9_hasOnlyLetters (G : GG) (x0 : Nat) (x1 : Int32) (ph : PH) (Q : Int32 → PH → Prop) (X : String → PH → Prop) (h : w_X9_hasOnlyLetters x0 x1 ph Q X) : Ct G yX9_hasOnlyLetters (.code yX9_hasOnlyLetters cX9_hasOnlyLetters 4 (some (.boolean))) 2 42 0 0 [va_rf (some x0), .int x1] ph (oI Q) X := by
  refine ct_of (lv0 := [(0, va_rf (some x0)), (1, .int x1)]) (by decide +kernel) (by simp [lg_sl, cat_rf, cat_i, cat_j]) (by simp [lv_args, cat_rf, cat_i, cat_j]) ?_
  intro C A hC hAo hex hrt hnm
  have hr : HZ C (ZM C G A (oI Q) X 0 0) A G 4 cX9_hasOnlyLetters 0 0 Q := fun pc lv v ph k n d hk hn hq => e_s hC (ty := .boolean) hrt pc lv v ph k n d hk hn ⟨hq.1, v, rfl, hq.2⟩
  have hx := e_x (Q := oI Q) (X := X) (mc := 0) (ms := 0) hC hex
  have hn := e_n (Q := oI Q) (X := X) (mc := 0) (ms := 0) hC hex
  have hnw := e_nw (Q := oI Q) (X := X) (mc := 0) (ms := 0) hC hex
  have hnx := e_nx (Q := oI Q) (X := X) (mc := 0) (ms := 0) hC hex
  have hi : True := trivial
  generalize ZM C G A (oI Q) X 0 0 = Z at *
  refine r_iconst (v := 0) hC dX9_hasOnlyLetters_0 (by decide) ?_
  refine r_istore_n (i := 2) (lv' := [(2, .int (0 : Int32)), (0, va_rf (some x0)), (1, .int x1)]) hC dX9_hasOnlyLetters_1 rfl (by decide) (by first | rfl | simp [lvs1, lvs2, List.filter, cat_rf, cat_i, cat_j]) ?_
  obtain ⟨fu2, h⟩ := h
  exact RR.wid (by decide) (by decide) (RR.sub [1, 2, 0] rfl (b_X9_hasOnlyLetters_2 hC hAo hr hx hn hnw hnx hi  fu2 _ _ _ _ h))
set_option maxRecDepth 20000 in
theorem b_X9_slideBy_52 {C : Cx} {Z : State → Prop} {A : Nat → Prop} {G : GG} {Q : PH → Prop} {X : String → PH → Prop} (hC : CxOk RX9 cX9_slideBy 3 G A (rmk 2 44 0 0) C) (hAo : Ao (xs C)) (hr : HV C Z A G 3 cX9_slideBy 0 0 Q) (hx : HX C Z A G 3 0 0 X) (hn : HN C Z A G 3 RX9 cX9_slideBy 0 0 (rmk 2 44 0 0) X) (hnw : HNW C Z A G 3 RX9 cX9_slideBy 0 0 (rmk 2 44 0 0) X) (hnx : HNX C Z A G 3 RX9 cX9_slideBy 0 0 (rmk 2 44 0 0) X) (hi : True) : ∀ (x0 : Option Nat) (ph : PH), w_X9_slideBy_52 Q X x0 ph → RR C Z A G 3 52 [(0, va_rf x0)] [] ph 0 0 := by
  intro x0 ph h
  refine r_aload_n hC dX9_slideBy_52 rfl 0 rfl ?_
  obtain ⟨v53, g53, h⟩ := h
  refine r_get hC (ci := 10) (kf := 1) (N := 2) (Cn := RX9) (T := TX9) rfl (by decide) tin_X9 fl_X9_19 rfl dX9_slideBy_53 g53 ?_
  refine r_if_le (tgt := 69) hC dX9_slideBy_56 (by decide) (fun c9 => ?_) (fun c9 => ?_)
  · have h := h.1 c9
    exact hr _ _ _ _ _ dX9_slideBy_69 (by decide) (by decide) h
  · have h := h.2 c9
    refine r_aload_n hC dX9_slideBy_59 rfl 0 rfl ?_
    refine r_dup hC dX9_slideBy_60 (by first | rfl | exact cat_rf _) ?_
    obtain ⟨v61, g61, h⟩ := h
    refine r_get hC (ci := 10) (kf := 1) (N := 2) (Cn := RX9) (T := TX9) rfl (by decide) tin_X9 fl_X9_19 rfl dX9_slideBy_61 g61 ?_
    refine r_iconst (v := 1) hC dX9_slideBy_64 (by decide) ?_
    refine r_isub hC dX9_slideBy_65 ?_
    obtain ⟨ph66, g66, h⟩ := h
    refine r_put hC (ci := 10) (kf := 1) (N := 2) (Cn := RX9) (T := TX9) (ty := .int) (ty0 := tyX9) rfl (by decide) tin_X9 tyX9_ok nmX9 fl_X9_19 rfl rfl (by decide +kernel) rfl rfl dX9_slideBy_66 g66 ?_
    exact hr _ _ _ _ _ dX9_slideBy_69 (by decide) (by decide) h
set_option maxRecDepth 20000 in
theorem b_X9_slideBy_2 {C : Cx} {Z : State → Prop} {A : Nat → Prop} {G : GG} {Q : PH → Prop} {X : String → PH → Prop} (hC : CxOk RX9 cX9_slideBy 3 G A (rmk 2 44 0 0) C) (hAo : Ao (xs C)) (hr : HV C Z A G 3 cX9_slideBy 0 0 Q) (hx : HX C Z A G 3 0 0 X) (hn : HN C Z A G 3 RX9 cX9_slideBy 0 0 (rmk 2 44 0 0) X) (hnw : HNW C Z A G 3 RX9 cX9_slideBy 0 0 (rmk 2 44 0 0) X) (hnx : HNX C Z A G 3 RX9 cX9_slideBy 0 0 (rmk 2 44 0 0) X) (hi : True) : ∀ (fu : Nat) (x0 : Option Nat) (x1 : Option Nat) (x2 : Int32) (ph : PH), w_X9_slideBy_2 Q X fu x0 x1 x2 ph → RR C Z A G 3 2 [(0, va_rf x0), (1, va_rf x1), (2, .int x2)] [] ph 0 0 := by
  intro fu
  induction fu with
  | zero => intro x0 x1 x2 ph h; exact h.elim
  | succ fu ih =>
    intro x0 x1 x2 ph h
    refine r_iload_n hC dX9_slideBy_2 rfl 2 rfl ?_
    refine r_iconst (v := 1) hC dX9_slideBy_3 (by decide) ?_
    refine r_iadd hC dX9_slideBy_4 ?_
    refine r_aload_n hC dX9_slideBy_5 rfl 0 rfl ?_
    obtain ⟨v6, g6, h⟩ := h
    refine r_get hC (ci := 10) (kf := 1) (N := 2) (Cn := RX9) (T := TX9) rfl (by decide) tin_X9 fl_X9_19 rfl dX9_slideBy_6 g6 ?_
    refine r_icmp_ge (tgt := 52) hC dX9_slideBy_9 (by decide) (fun c9 => ?_) (fun c9 => ?_)
    · have h := h.1 c9
      exact RR.wid (by decide) (by decide) (RR.sub [0] rfl (b_X9_slideBy_52 hC hAo hr hx hn hnw hnx hi  _ _ h))
    · have h := h.2 c9
      refine r_iload_n hC dX9_slideBy_12 rfl 2 rfl ?_
      refine r_aload_n hC dX9_slideBy_13 rfl 0 rfl ?_
      obtain ⟨v14, g14, h⟩ := h
      refine r_get hC (ci := 10) (kf := 0) (N := 2) (Cn := RX9) (T := TX9) rfl (by decide) tin_X9 fl_X9_9 rfl dX9_slideBy_14 g14 ?_
      obtain ⟨v17, g17, h⟩ := h
      refine r_alen hC dX9_slideBy_17 g17 ?_
      refine r_icmp_ge (tgt := 52) hC dX9_slideBy_18 (by decide) (fun c9 => ?_) (fun c9 => ?_)
      · have h := h.1 c9
        exact RR.wid (by decide) (by decide) (RR.sub [0] rfl (b_X9_slideBy_52 hC hAo hr hx hn hnw hnx hi  _ _ h))
      · have h := h.2 c9
        refine r_aload_n hC dX9_slideBy_21 rfl 0 rfl ?_
        obtain ⟨v22, g22, h⟩ := h
        refine r_get hC (ci := 10) (kf := 0) (N := 2) (Cn := RX9) (T := TX9) rfl (by decide) tin_X9 fl_X9_9 rfl dX9_slideBy_22 g22 ?_
        refine r_iload_n hC dX9_slideBy_25 rfl 2 rfl ?_
        refine r_aload_n hC dX9_slideBy_26 rfl 1 rfl ?_
        refine r_aload_n hC dX9_slideBy_27 rfl 0 rfl ?_
        refine r_iload_n hC dX9_slideBy_28 rfl 2 rfl ?_
        obtain ⟨a29, o29, h⟩ := h
        refine r_VI hC hAo [.int x2] cal_X9_letterAt ml_X9_31 (ci := 10) rfl rfl rfl (c_X9_letterAt G _ _ _ _ _ h) o29 ⟨by decide, by decide⟩ ⟨by decide, by decide⟩ (by simp only [List.map_nil, List.map_cons, List.sum_nil, List.sum_cons, cat_rf, cat_i, cat_j]; decide) rfl dX9_slideBy_29 (fun E u hx9 => hx _ _ _ _ _ _ _ (by decide) (by decide) hx9) (fun v29 ph29 h => ?_)
        refine RR.wid (k' := 0) (n' := 0) (by decide) (by decide) ?_
        refine r_aload_n hC dX9_slideBy_32 rfl 0 rfl ?_
        refine r_iload_n hC dX9_slideBy_33 rfl 2 rfl ?_
        refine r_iconst (v := 1) hC dX9_slideBy_34 (by decide) ?_
        refine r_iadd hC dX9_slideBy_35 ?_
        obtain ⟨a36, o36, h⟩ := h
        refine r_VI hC hAo [.int (x2 + (1 : Int32))] cal_X9_letterAt ml_X9_31 (ci := 10) rfl rfl rfl (c_X9_letterAt G _ _ _ _ _ h) o36 ⟨by decide, by decide⟩ ⟨by decide, by decide⟩ (by simp only [List.map_nil, List.map_cons, List.sum_nil, List.sum_cons, cat_rf, cat_i, cat_j]; decide) rfl dX9_slideBy_36 (fun E u hx9 => hx _ _ _ _ _ _ _ (by decide) (by decide) hx9) (fun v36 ph36 h => ?_)
        refine RR.wid (k' := 0) (n' := 0) (by decide) (by decide) ?_
        obtain ⟨a39, o39, h⟩ := h
        refine r_VI hC hAo [.int v29, .int v36] cal_X1_given ml_X9_43 (ci := 4) rfl rfl rfl (c_X1_given G _ _ _ _ _ _ h) o39 ⟨by decide, by decide⟩ ⟨by decide, by decide⟩ (by simp only [List.map_nil, List.map_cons, List.sum_nil, List.sum_cons, cat_rf, cat_i, cat_j]; decide) rfl dX9_slideBy_39 (fun E u hx9 => hx _ _ _ _ _ _ _ (by decide) (by decide) hx9) (fun v39 ph39 h => ?_)
        refine RR.wid (k' := 0) (n' := 0) (by decide) (by decide) ?_
        refine r_SI hC hAo [.int v39] cal_X9_signOf ml_X9_49 rfl (c_X9_signOf G _ _ _ _ h) ⟨by decide, by decide⟩ ⟨by decide, by decide⟩ (by simp only [List.map_nil, List.map_cons, List.sum_nil, List.sum_cons, cat_rf, cat_i, cat_j]; decide) rfl dX9_slideBy_42 (fun E u hx9 => hx _ _ _ _ _ _ _ (by decide) (by decide) hx9) (fun v42 ph42 h => ?_)
        refine RR.wid (k' := 0) (n' := 0) (by decide) (by decide) ?_
        obtain ⟨n45, h⟩ := h
        obtain ⟨ph45, g45, h⟩ := h
        refine r_cast hC n45 dX9_slideBy_45 g45 ?_
        refine r_iinc (w := 2) (v := x2 + 1) (lv' := [(2, .int (x2 + 1)), (0, va_rf x0), (1, va_rf x1)]) hC dX9_slideBy_46 rfl rfl (by decide) (by first | rfl | simp [lvs1, List.filter, cat_rf, cat_i, cat_j]) ?_
        refine r_goto (tgt := 2) hC dX9_slideBy_49 (by decide) ?_
        exact RR.wid (by decide) (by decide) (RR.sub [1, 2, 0] rfl (ih _ _ _ _ h))
set_option maxRecDepth 20000 in
theorem c_X9_slideBy (G : GG) (x0 : Nat) (x1 : Option Nat) (ph : PH) (Q : PH → Prop) (X : String → PH → Prop) (h : w_X9_slideBy x0 x1 ph Q X) : Ct G yX9_slideBy (.code yX9_slideBy cX9_slideBy 3 none) 2 44 0 0 [va_rf (some x0), va_rf x1] ph (oV Q) X := by
  refine ct_of (lv0 := [(0, va_rf (some x0)), (1, va_rf x1)]) (by decide +kernel) (by simp [lg_sl, cat_rf, cat_i, cat_j]) (by simp [lv_args, cat_rf, cat_i, cat_j]) ?_
  intro C A hC hAo hex hrt hnm
  have hr : HV C (ZM C G A (oV Q) X 0 0) A G 3 cX9_slideBy 0 0 Q := fun pc lv ph k n d hk hn hq => e_v hC hrt pc lv ph k n d hk hn ⟨rfl, hq⟩
  have hx := e_x (Q := oV Q) (X := X) (mc := 0) (ms := 0) hC hex
  have hn := e_n (Q := oV Q) (X := X) (mc := 0) (ms := 0) hC hex
  have hnw := e_nw (Q := oV Q) (X := X) (mc := 0) (ms := 0) hC hex
  have hnx := e_nx (Q := oV Q) (X := X) (mc := 0) (ms := 0) hC hex
  have hi : True := trivial
  generalize ZM C G A (oV Q) X 0 0 = Z at *
  refine r_iconst (v := 0) hC dX9_slideBy_0 (by decide) ?_
  refine r_istore_n (i := 2) (lv' := [(2, .int (0 : Int32)), (0, va_rf (some x0)), (1, va_rf x1)]) hC dX9_slideBy_1 rfl (by decide) (by first | rfl | simp [lvs1, lvs2, List.filter, cat_rf, cat_i, cat_j]) ?_
  obtain ⟨fu2, h⟩ := h
  exact RR.wid (by decide) (by decide) (RR.sub [1, 2, 0] rfl (b_X9_slideBy_2 hC hAo hr hx hn hnw hnx hi  fu2 _ _ _ _ h))
set_option maxRecDepth 20000 in
theorem c_X11_slide (G : GG) (x0 : Nat) (x1 : Int32) (ph : PH) (Q : Int32 → PH → Prop) (X : String → PH → Prop) (h : w_X11_slide x0 x1 ph Q X) : Ct G yX11_slide (.code yX11_slide cX11_slide 3 (some (.int))) 7 112 2 12 [va_rf (some x0), .int x1] ph (oI Q) X := by
  refine ct_of (lv0 := [(0, va_rf (some x0)), (1, .int x1)]) (by decide +kernel) (by simp [lg_sl, cat_rf, cat_i, cat_j]) (by simp [lv_args, cat_rf, cat_i, cat_j]) ?_
  intro C A hC hAo hex hrt hnm
  have hr : HI C (ZM C G A (oI Q) X 2 12) A G 3 cX11_slide 2 12 Q := fun pc lv v ph k n d hk hn hq => e_i hC hrt pc lv v ph k n d hk hn ⟨v, rfl, hq⟩
  have hx := e_x (Q := oI Q) (X := X) (mc := 2) (ms := 12) hC hex
  have hn := e_n (Q := oI Q) (X := X) (mc := 2) (ms := 12) hC hex
  have hnw := e_nw (Q := oI Q) (X := X) (mc := 2) (ms := 12) hC hex
  have hnx := e_nx (Q := oI Q) (X := X) (mc := 2) (ms := 12) hC hex
  have hi : True := trivial
  generalize ZM C G A (oI Q) X 2 12 = Z at *
  refine r_aload_n hC dX11_slide_0 rfl 0 rfl ?_
  refine r_iload_n hC dX11_slide_1 rfl 1 rfl ?_
  obtain ⟨a2, o2, h⟩ := h
  refine r_VR hC hAo [.int x1] cal_X11_codeAt ml_X11_239 (ci := 12) rfl rfl rfl (c_X11_codeAt G _ _ _ _ _ h) o2 ⟨by decide, by decide⟩ ⟨by decide, by decide⟩ (by simp only [List.map_nil, List.map_cons, List.sum_nil, List.sum_cons, cat_rf, cat_i, cat_j]; decide) rfl dX11_slide_2 (fun E u hx9 => hx _ _ _ _ _ _ _ (by decide) (by decide) hx9) (fun v2 ph2 h => ?_)
  refine RR.wid (k' := 1) (n' := 6) (by decide) (by decide) ?_
  refine r_astore_n (i := 2) (lv' := [(2, va_rf v2), (0, va_rf (some x0)), (1, .int x1)]) hC dX11_slide_5 rfl (by decide) (by first | rfl | simp [lvs1, lvs2, List.filter, cat_rf, cat_i, cat_j]) ?_
  refine r_aload_n hC dX11_slide_6 rfl 1 rfl ?_
  obtain ⟨v7, g7, h⟩ := h
  refine r_get hC (ci := 12) (kf := 0) (N := 12) (Cn := RX11) (T := TX11) rfl (by decide) tin_X11 fl_X11_10 rfl dX11_slide_7 g7 ?_
  obtain ⟨v10, g10, h⟩ := h
  refine r_get hC (ci := 10) (kf := 1) (N := 2) (Cn := RX9) (T := TX9) rfl (by decide) tin_X9 fl_X11_80 rfl dX11_slide_10 g10 ?_
  refine r_iconst (v := 2) hC dX11_slide_13 (by decide) ?_
  refine r_icmp_lt (tgt := 31) hC dX11_slide_14 (by decide) (fun c9 => ?_) (fun c9 => ?_)
  · have h := h.1 c9
    exact hnw _ _ _ _ _ _ _ _ _ _ _ _ 18 th_X11_142_146 rfl dX11_slide_31 dX11_slide_34 dX11_slide_35 dX11_slide_38 dX11_slide_41 (by decide) (by simp only [List.map_nil, List.map_cons, List.sum_nil, List.sum_cons, cat_rf, cat_i, cat_j]; decide) (by decide) (by decide) (by decide) (by decide) h
  · have h := h.2 c9
    refine r_aload_n hC dX11_slide_17 rfl 1 rfl ?_
    obtain ⟨v18, g18, h⟩ := h
    refine r_get hC (ci := 12) (kf := 0) (N := 12) (Cn := RX11) (T := TX11) rfl (by decide) tin_X11 fl_X11_10 rfl dX11_slide_18 g18 ?_
    refine r_aload_n hC dX11_slide_21 rfl 0 rfl ?_
    obtain ⟨v22, g22, h⟩ := h
    refine r_get hC (ci := 4) (kf := 0) (N := 2) (Cn := RX1) (T := TX1) rfl (by decide) tin_X1 fl_X11_256 rfl dX11_slide_22 g22 ?_
    obtain ⟨a25, o25, h⟩ := h
    refine r_VI hC hAo [.int v22] cal_X9_hasOnlyLetters ml_X11_173 (ci := 10) rfl rfl rfl (c_X9_hasOnlyLetters G _ _ _ _ _ h) o25 ⟨by decide, by decide⟩ ⟨by decide, by decide⟩ (by simp only [List.map_nil, List.map_cons, List.sum_nil, List.sum_cons, cat_rf, cat_i, cat_j]; decide) rfl dX11_slide_25 (fun E u hx9 => hx _ _ _ _ _ _ _ (by decide) (by decide) hx9) (fun v25 ph25 h => ?_)
    refine RR.wid (k' := 1) (n' := 6) (by decide) (by decide) ?_
    refine r_if_ne (tgt := 42) hC dX11_slide_28 (by decide) (fun c9 => ?_) (fun c9 => ?_)
    · have h := h.1 c9
      refine r_aload_n hC dX11_slide_42 rfl 1 rfl ?_
      obtain ⟨v43, g43, h⟩ := h
      refine r_get hC (ci := 12) (kf := 0) (N := 12) (Cn := RX11) (T := TX11) rfl (by decide) tin_X11 fl_X11_10 rfl dX11_slide_43 g43 ?_
      refine r_aload_n hC dX11_slide_46 rfl 0 rfl ?_
      obtain ⟨a47, o47, h⟩ := h
      refine r_VV hC hAo [va_rf v2] cal_X9_slideBy ml_X11_259 (ci := 10) rfl rfl rfl (c_X9_slideBy G _ _ _ _ _ h) o47 ⟨by decide, by decide⟩ ⟨by decide, by decide⟩ (by simp only [List.map_nil, List.map_cons, List.sum_nil, List.sum_cons, cat_rf, cat_i, cat_j]; decide) rfl dX11_slide_47 (fun E u hx9 => hx _ _ _ _ _ _ _ (by decide) (by decide) hx9) (fun ph47 h => ?_)
      refine RR.wid (k' := 1) (n' := 6) (by decide) (by decide) ?_
      refine r_aload_n hC dX11_slide_50 rfl 1 rfl ?_
      obtain ⟨v51, g51, h⟩ := h
      refine r_get hC (ci := 12) (kf := 0) (N := 12) (Cn := RX11) (T := TX11) rfl (by decide) tin_X11 fl_X11_10 rfl dX11_slide_51 g51 ?_
      obtain ⟨v54, g54, h⟩ := h
      refine r_get hC (ci := 10) (kf := 1) (N := 2) (Cn := RX9) (T := TX9) rfl (by decide) tin_X9 fl_X11_80 rfl dX11_slide_54 g54 ?_
      exact hr _ _ _ _ _ _ dX11_slide_57 (by decide) (by decide) h
    · have h := h.2 c9
      exact hnw _ _ _ _ _ _ _ _ _ _ _ _ 18 th_X11_142_146 rfl dX11_slide_31 dX11_slide_34 dX11_slide_35 dX11_slide_38 dX11_slide_41 (by decide) (by simp only [List.map_nil, List.map_cons, List.sum_nil, List.sum_cons, cat_rf, cat_i, cat_j]; decide) (by decide) (by decide) (by decide) (by decide) h
set_option maxRecDepth 20000 in
theorem c_X11_signAt (G : GG) (x0 : Nat) (x1 : Int32) (ph : PH) (Q : Int32 → PH → Prop) (X : String → PH → Prop) (h : w_X11_signAt x0 x1 ph Q X) : Ct G yX11_signAt (.code yX11_signAt cX11_signAt 2 (some (.char))) 6 90 1 6 [va_rf (some x0), .int x1] ph (oI Q) X := by
  refine ct_of (lv0 := [(0, va_rf (some x0)), (1, .int x1)]) (by decide +kernel) (by simp [lg_sl, cat_rf, cat_i, cat_j]) (by simp [lv_args, cat_rf, cat_i, cat_j]) ?_
  intro C A hC hAo hex hrt hnm
  have hr : HC C (ZM C G A (oI Q) X 1 6) A G 2 cX11_signAt 1 6 Q := fun pc lv v ph k n d hk hn hq => e_s hC (ty := .char) hrt pc lv v ph k n d hk hn ⟨hq.1, v, rfl, hq.2⟩
  have hx := e_x (Q := oI Q) (X := X) (mc := 1) (ms := 6) hC hex
  have hn := e_n (Q := oI Q) (X := X) (mc := 1) (ms := 6) hC hex
  have hnw := e_nw (Q := oI Q) (X := X) (mc := 1) (ms := 6) hC hex
  have hnx := e_nx (Q := oI Q) (X := X) (mc := 1) (ms := 6) hC hex
  have hi : True := trivial
  generalize ZM C G A (oI Q) X 1 6 = Z at *
  refine r_iload_n hC dX11_signAt_0 rfl 1 rfl ?_
  refine r_if_lt (tgt := 15) hC dX11_signAt_1 (by decide) (fun c9 => ?_) (fun c9 => ?_)
  · have h := h.1 c9
    exact hnx _ _ _ _ _ _ _ _ _ _ _ _ _ 0 _ _ th_X11_193_197 rfl dX11_signAt_15 dX11_signAt_18 dX11_signAt_19 dX11_signAt_21 dX11_signAt_24 (by decide) (by simp only [List.map_nil, List.map_cons, List.sum_nil, List.sum_cons, cat_rf, cat_i, cat_j]; decide) (by decide) (by decide) (by decide) (by decide) h
  · have h := h.2 c9
    refine r_iload_n hC dX11_signAt_4 rfl 1 rfl ?_
    refine r_aload_n hC dX11_signAt_5 rfl 0 rfl ?_
    obtain ⟨v6, g6, h⟩ := h
    refine r_get hC (ci := 12) (kf := 0) (N := 12) (Cn := RX11) (T := TX11) rfl (by decide) tin_X11 fl_X11_10 rfl dX11_signAt_6 g6 ?_
    obtain ⟨v9, g9, h⟩ := h
    refine r_get hC (ci := 10) (kf := 1) (N := 2) (Cn := RX9) (T := TX9) rfl (by decide) tin_X9 fl_X11_80 rfl dX11_signAt_9 g9 ?_
    refine r_icmp_lt (tgt := 25) hC dX11_signAt_12 (by decide) (fun c9 => ?_) (fun c9 => ?_)
    · have h := h.1 c9
      refine r_aload_n hC dX11_signAt_25 rfl 0 rfl ?_
      obtain ⟨v26, g26, h⟩ := h
      refine r_get hC (ci := 12) (kf := 0) (N := 12) (Cn := RX11) (T := TX11) rfl (by decide) tin_X11 fl_X11_10 rfl dX11_signAt_26 g26 ?_
      refine r_iload_n hC dX11_signAt_29 rfl 1 rfl ?_
      obtain ⟨a30, o30, h⟩ := h
      refine r_VI hC hAo [.int x1] cal_X9_at ml_X11_263 (ci := 10) rfl rfl rfl (c_X9_at G _ _ _ _ _ h) o30 ⟨by decide, by decide⟩ ⟨by decide, by decide⟩ (by simp only [List.map_nil, List.map_cons, List.sum_nil, List.sum_cons, cat_rf, cat_i, cat_j]; decide) rfl dX11_signAt_30 (fun E u hx9 => hx _ _ _ _ _ _ _ (by decide) (by decide) hx9) (fun v30 ph30 h => ?_)
      refine RR.wid (k' := 0) (n' := 0) (by decide) (by decide) ?_
      exact hr _ _ _ _ _ _ dX11_signAt_33 (by decide) (by decide) h
    · have h := h.2 c9
      exact hnx _ _ _ _ _ _ _ _ _ _ _ _ _ 0 _ _ th_X11_193_197 rfl dX11_signAt_15 dX11_signAt_18 dX11_signAt_19 dX11_signAt_21 dX11_signAt_24 (by decide) (by simp only [List.map_nil, List.map_cons, List.sum_nil, List.sum_cons, cat_rf, cat_i, cat_j]; decide) (by decide) (by decide) (by decide) (by decide) h
set_option maxRecDepth 20000 in
theorem c_X5_arrivals (G : GG) (x0 : Option Nat) (x1 : Int32) (x2 : Int32) (ph : PH) (Q : Int32 → PH → Prop) (X : String → PH → Prop) (h : w_X5_arrivals x0 x1 x2 ph Q X) : Ct G yX5_arrivals (.code yX5_arrivals cX5_arrivals 3 (some (.int))) 2 48 0 0 [va_rf x0, .int x1, .int x2] ph (oI Q) X := by
  refine ct_of (lv0 := [(0, va_rf x0), (1, .int x1), (2, .int x2)]) (by decide +kernel) (by simp [lg_sl, cat_rf, cat_i, cat_j]) (by simp [lv_args, cat_rf, cat_i, cat_j]) ?_
  intro C A hC hAo hex hrt hnm
  have hr : HI C (ZM C G A (oI Q) X 0 0) A G 3 cX5_arrivals 0 0 Q := fun pc lv v ph k n d hk hn hq => e_i hC hrt pc lv v ph k n d hk hn ⟨v, rfl, hq⟩
  have hx := e_x (Q := oI Q) (X := X) (mc := 0) (ms := 0) hC hex
  have hn := e_n (Q := oI Q) (X := X) (mc := 0) (ms := 0) hC hex
  have hnw := e_nw (Q := oI Q) (X := X) (mc := 0) (ms := 0) hC hex
  have hnx := e_nx (Q := oI Q) (X := X) (mc := 0) (ms := 0) hC hex
  have hi : True := trivial
  generalize ZM C G A (oI Q) X 0 0 = Z at *
  refine r_aload_n hC dX5_arrivals_0 rfl 0 rfl ?_
  refine r_iload_n hC dX5_arrivals_1 rfl 1 rfl ?_
  refine r_iload_n hC dX5_arrivals_2 rfl 2 rfl ?_
  obtain ⟨a3, o3, h⟩ := h
  refine r_VI hC hAo [.int x1, .int x2] cal_X3_read ml_X5_30 (ci := 6) rfl rfl rfl (c_X3_read G _ _ _ _ _ _ h) o3 ⟨by decide, by decide⟩ ⟨by decide, by decide⟩ (by simp only [List.map_nil, List.map_cons, List.sum_nil, List.sum_cons, cat_rf, cat_i, cat_j]; decide) rfl dX5_arrivals_3 (fun E u hx9 => hx _ _ _ _ _ _ _ (by decide) (by decide) hx9) (fun v3 ph3 h => ?_)
  refine RR.wid (k' := 0) (n' := 0) (by decide) (by decide) ?_
  refine r_iload_n hC dX5_arrivals_6 rfl 1 rfl ?_
  refine r_iand hC dX5_arrivals_7 ?_
  exact hr _ _ _ _ _ _ dX5_arrivals_8 (by decide) (by decide) h
set_option maxRecDepth 20000 in
theorem b_X5_countPairs_4 {C : Cx} {Z : State → Prop} {A : Nat → Prop} {G : GG} {Q : Int32 → PH → Prop} {X : String → PH → Prop} (hC : CxOk RX5 cX5_countPairs 4 G A (rmk 3 70 0 0) C) (hAo : Ao (xs C)) (hr : HI C Z A G 4 cX5_countPairs 0 0 Q) (hx : HX C Z A G 4 0 0 X) (hn : HN C Z A G 4 RX5 cX5_countPairs 0 0 (rmk 3 70 0 0) X) (hnw : HNW C Z A G 4 RX5 cX5_countPairs 0 0 (rmk 3 70 0 0) X) (hnx : HNX C Z A G 4 RX5 cX5_countPairs 0 0 (rmk 3 70 0 0) X) (hi : True) : ∀ (fu : Nat) (x0 : Option Nat) (x1 : Int32) (x2 : Int32) (x3 : Int32) (ph : PH), w_X5_countPairs_4 Q X fu x0 x1 x2 x3 ph → RR C Z A G 4 4 [(0, va_rf x0), (1, .int x1), (2, .int x2), (3, .int x3)] [] ph 0 0 := by
  intro fu
  induction fu with
  | zero => intro x0 x1 x2 x3 ph h; exact h.elim
  | succ fu ih =>
    intro x0 x1 x2 x3 ph h
    refine r_iload_n hC dX5_countPairs_4 rfl 3 rfl ?_
    refine r_aload_n hC dX5_countPairs_5 rfl 0 rfl ?_
    obtain ⟨v6, g6, h⟩ := h
    refine r_get hC (ci := 6) (kf := 1) (N := 3) (Cn := RX3) (T := TX3) rfl (by decide) tin_X3 fl_X5_34 rfl dX5_countPairs_6 g6 ?_
    refine r_icmp_ge (tgt := 30) hC dX5_countPairs_9 (by decide) (fun c9 => ?_) (fun c9 => ?_)
    · have h := h.1 c9
      refine r_iload_n hC dX5_countPairs_30 rfl 2 rfl ?_
      exact hr _ _ _ _ _ _ dX5_countPairs_31 (by decide) (by decide) h
    · have h := h.2 c9
      refine r_iload_n hC dX5_countPairs_12 rfl 2 rfl ?_
      refine r_aload_n hC dX5_countPairs_13 rfl 0 rfl ?_
      refine r_iload_n hC dX5_countPairs_14 rfl 1 rfl ?_
      refine r_iload_n hC dX5_countPairs_15 rfl 3 rfl ?_
      refine r_SI hC hAo [va_rf x0, .int x1, .int x3] cal_X5_arrivals ml_X5_38 rfl (c_X5_arrivals G _ _ _ _ _ _ h) ⟨by decide, by decide⟩ ⟨by decide, by decide⟩ (by simp only [List.map_nil, List.map_cons, List.sum_nil, List.sum_cons, cat_rf, cat_i, cat_j]; decide) rfl dX5_countPairs_16 (fun E u hx9 => hx _ _ _ _ _ _ _ (by decide) (by decide) hx9) (fun v16 ph16 h => ?_)
      refine RR.wid (k' := 0) (n' := 0) (by decide) (by decide) ?_
      refine r_SI hC hAo [.int v16] cal_J6_bitCount_0f7a4 ml_X5_42 rfl (c_J6_bitCount_0f7a4 G _ _ _ _ h) ⟨by decide, by decide⟩ ⟨by decide, by decide⟩ (by simp only [List.map_nil, List.map_cons, List.sum_nil, List.sum_cons, cat_rf, cat_i, cat_j]; decide) rfl dX5_countPairs_19 (fun E u hx9 => hx _ _ _ _ _ _ _ (by decide) (by decide) hx9) (fun v19 ph19 h => ?_)
      refine RR.wid (k' := 0) (n' := 0) (by decide) (by decide) ?_
      refine r_iadd hC dX5_countPairs_22 ?_
      obtain ⟨v23, ev23⟩ : ∃ z : Int32, z = x2 + v19 := ⟨_, rfl⟩
      have h := h v23 ev23
      refine RR.to (st' := [.int v23]) (by rw [ev23]) ?_
      refine r_istore_n (i := 2) (lv' := [(2, .int v23), (0, va_rf x0), (1, .int x1), (3, .int x3)]) hC dX5_countPairs_23 rfl (by decide) (by first | rfl | simp [lvs1, lvs2, List.filter, cat_rf, cat_i, cat_j]) ?_
      refine r_iinc (w := 3) (v := x3 + 1) (lv' := [(3, .int (x3 + 1)), (2, .int v23), (0, va_rf x0), (1, .int x1)]) hC dX5_countPairs_24 rfl rfl (by decide) (by first | rfl | simp [lvs1, List.filter, cat_rf, cat_i, cat_j]) ?_
      refine r_goto (tgt := 4) hC dX5_countPairs_27 (by decide) ?_
      exact RR.wid (by decide) (by decide) (RR.sub [2, 3, 1, 0] rfl (ih _ _ _ _ _ h))
set_option maxRecDepth 20000 in
theorem c_X5_countPairs (G : GG) (x0 : Option Nat) (x1 : Int32) (ph : PH) (Q : Int32 → PH → Prop) (X : String → PH → Prop) (h : w_X5_countPairs x0 x1 ph Q X) : Ct G yX5_countPairs (.code yX5_countPairs cX5_countPairs 4 (some (.int))) 3 70 0 0 [va_rf x0, .int x1] ph (oI Q) X := by
  refine ct_of (lv0 := [(0, va_rf x0), (1, .int x1)]) (by decide +kernel) (by simp [lg_sl, cat_rf, cat_i, cat_j]) (by simp [lv_args, cat_rf, cat_i, cat_j]) ?_
  intro C A hC hAo hex hrt hnm
  have hr : HI C (ZM C G A (oI Q) X 0 0) A G 4 cX5_countPairs 0 0 Q := fun pc lv v ph k n d hk hn hq => e_i hC hrt pc lv v ph k n d hk hn ⟨v, rfl, hq⟩
  have hx := e_x (Q := oI Q) (X := X) (mc := 0) (ms := 0) hC hex
  have hn := e_n (Q := oI Q) (X := X) (mc := 0) (ms := 0) hC hex
  have hnw := e_nw (Q := oI Q) (X := X) (mc := 0) (ms := 0) hC hex
  have hnx := e_nx (Q := oI Q) (X := X) (mc := 0) (ms := 0) hC hex
  have hi : True := trivial
  generalize ZM C G A (oI Q) X 0 0 = Z at *
  refine r_iconst (v := 0) hC dX5_countPairs_0 (by decide) ?_
  refine r_istore_n (i := 2) (lv' := [(2, .int (0 : Int32)), (0, va_rf x0), (1, .int x1)]) hC dX5_countPairs_1 rfl (by decide) (by first | rfl | simp [lvs1, lvs2, List.filter, cat_rf, cat_i, cat_j]) ?_
  refine r_iconst (v := 0) hC dX5_countPairs_2 (by decide) ?_
  refine r_istore_n (i := 3) (lv' := [(3, .int (0 : Int32)), (2, .int (0 : Int32)), (0, va_rf x0), (1, .int x1)]) hC dX5_countPairs_3 rfl (by decide) (by first | rfl | simp [lvs1, lvs2, List.filter, cat_rf, cat_i, cat_j]) ?_
  obtain ⟨fu4, h⟩ := h
  exact RR.wid (by decide) (by decide) (RR.sub [2, 3, 1, 0] rfl (b_X5_countPairs_4 hC hAo hr hx hn hnw hnx hi  fu4 _ _ _ _ _ h))
set_option maxRecDepth 20000 in
theorem b_X5_numberPairs_31 {C : Cx} {Z : State → Prop} {A : Nat → Prop} {G : GG} {Q : Option Nat → PH → Prop} {X : String → PH → Prop} {K12 : Option Nat → Int32 → Option Nat → Int32 → PH → Prop} (hC : CxOk RX5 cX5_numberPairs 7 G A (rmk 3 70 1 72) C) (hAo : Ao (xs C)) (hr : HA C Z A G 7 cX5_numberPairs 1 72 Q) (hx : HX C Z A G 7 1 72 X) (hn : HN C Z A G 7 RX5 cX5_numberPairs 1 72 (rmk 3 70 1 72) X) (hnw : HNW C Z A G 7 RX5 cX5_numberPairs 1 72 (rmk 3 70 1 72) X) (hnx : HNX C Z A G 7 RX5 cX5_numberPairs 1 72 (rmk 3 70 1 72) X) (hi : True) (hK12 : ∀ (x0 : Option Nat) (x1 : Int32) (x2 : Option Nat) (x3 : Int32) (ph : PH), K12 x0 x1 x2 x3 ph → RR C Z A G 7 12 [(0, va_rf x0), (1, .int x1), (2, va_rf x2), (3, .int x3)] [] ph 1 72) : ∀ (fu : Nat) (x0 : Option Nat) (x1 : Int32) (x2 : Option Nat) (x3 : Int32) (x4 : Int32) (x5 : Int32) (ph : PH), w_X5_numberPairs_31 Q X K12 fu x0 x1 x2 x3 x4 x5 ph → RR C Z A G 7 31 [(0, va_rf x0), (1, .int x1), (2, va_rf x2), (3, .int x3), (4, .int x4), (5, .int x5)] [] ph 1 72 := by
  intro fu
  induction fu with
  | zero => intro x0 x1 x2 x3 x4 x5 ph h; exact h.elim
  | succ fu ih =>
    intro x0 x1 x2 x3 x4 x5 ph h
    refine r_iload hC dX5_numberPairs_31 5 rfl ?_
    refine r_aload_n hC dX5_numberPairs_33 rfl 0 rfl ?_
    obtain ⟨v34, g34, h⟩ := h
    refine r_get hC (ci := 6) (kf := 0) (N := 3) (Cn := RX3) (T := TX3) rfl (by decide) tin_X3 fl_X5_54 rfl dX5_numberPairs_34 g34 ?_
    refine r_icmp_ge (tgt := 76) hC dX5_numberPairs_37 (by decide) (fun c9 => ?_) (fun c9 => ?_)
    · have h := h.1 c9
      refine r_iinc (w := 3) (v := x3 + 1) (lv' := [(3, .int (x3 + 1)), (0, va_rf x0), (1, .int x1), (2, va_rf x2), (4, .int x4), (5, .int x5)]) hC dX5_numberPairs_76 rfl rfl (by decide) (by first | rfl | simp [lvs1, List.filter, cat_rf, cat_i, cat_j]) ?_
      refine r_goto (tgt := 12) hC dX5_numberPairs_79 (by decide) ?_
      exact RR.wid (by decide) (by decide) (RR.sub [1, 2, 3, 0] rfl (hK12 _ _ _ _ _ h))
    · have h := h.2 c9
      refine r_iconst (v := 3) hC dX5_numberPairs_40 (by decide) ?_
      refine r_iload hC dX5_numberPairs_41 5 rfl ?_
      refine r_imul hC dX5_numberPairs_43 ?_
      refine r_iload_n hC dX5_numberPairs_44 rfl 3 rfl ?_
      refine r_iadd hC dX5_numberPairs_45 ?_
      obtain ⟨v46, ev46⟩ : ∃ z : Int32, z = ((3 : Int32) * x5) + x3 := ⟨_, rfl⟩
      have h := h v46 ev46
      refine RR.to (st' := [.int v46]) (by rw [ev46]) ?_
      refine r_istore (i := 6) (lv' := [(6, .int v46), (0, va_rf x0), (1, .int x1), (2, va_rf x2), (3, .int x3), (4, .int x4), (5, .int x5)]) hC dX5_numberPairs_46 (by decide) (by first | rfl | simp [lvs1, lvs2, List.filter, cat_rf, cat_i, cat_j]) ?_
      refine r_iload hC dX5_numberPairs_48 5 rfl ?_
      refine r_iload hC dX5_numberPairs_50 6 rfl ?_
      refine r_SI hC hAo [.int x4, .int x5] cal_X11_hasBit ml_X5_26 rfl (c_X11_hasBit G _ _ _ _ _ h) ⟨by decide, by decide⟩ ⟨by decide, by decide⟩ (by simp only [List.map_nil, List.map_cons, List.sum_nil, List.sum_cons, cat_rf, cat_i, cat_j]; decide) rfl dX5_numberPairs_52 (fun E u hx9 => hx _ _ _ _ _ _ _ (by decide) (by decide) hx9) (fun v52 ph52 h => ?_)
      refine RR.wid (k' := 1) (n' := 72) (by decide) (by decide) ?_
      refine r_if_eq (tgt := 70) hC dX5_numberPairs_55 (by decide) (fun c9 => ?_) (fun c9 => ?_)
      · have h := h.1 c9
        refine r_iinc (w := 6) (v := x5 + 1) (lv' := [(5, .int (x5 + 1)), (6, .int v46), (0, va_rf x0), (1, .int x1), (2, va_rf x2), (3, .int x3), (4, .int x4)]) hC dX5_numberPairs_70 rfl rfl (by decide) (by first | rfl | simp [lvs1, List.filter, cat_rf, cat_i, cat_j]) ?_
        refine r_goto (tgt := 31) hC dX5_numberPairs_73 (by decide) ?_
        exact RR.wid (by decide) (by decide) (RR.sub [2, 3, 4, 5, 6, 0] rfl (ih _ _ _ _ _ _ _ h))
      · have h := h.2 c9
        refine r_iload hC dX5_numberPairs_58 0 rfl ?_
        refine r_aload_n hC dX5_numberPairs_60 rfl 3 rfl ?_
        obtain ⟨v61, g61, h⟩ := h
        refine r_alen hC dX5_numberPairs_61 g61 ?_
        refine r_icmp_ge (tgt := 70) hC dX5_numberPairs_62 (by decide) (fun c9 => ?_) (fun c9 => ?_)
        · have h := h.1 c9
          refine r_iinc (w := 6) (v := x5 + 1) (lv' := [(5, .int (x5 + 1)), (6, .int v46), (0, va_rf x0), (1, .int x1), (2, va_rf x2), (3, .int x3), (4, .int x4)]) hC dX5_numberPairs_70 rfl rfl (by decide) (by first | rfl | simp [lvs1, List.filter, cat_rf, cat_i, cat_j]) ?_
          refine r_goto (tgt := 31) hC dX5_numberPairs_73 (by decide) ?_
          exact RR.wid (by decide) (by decide) (RR.sub [2, 3, 4, 5, 6, 0] rfl (ih _ _ _ _ _ _ _ h))
        · have h := h.2 c9
          refine r_aload_n hC dX5_numberPairs_65 rfl 3 rfl ?_
          refine r_iload hC dX5_numberPairs_66 0 rfl ?_
          refine r_iconst (v := 0) hC dX5_numberPairs_68 (by decide) ?_
          obtain ⟨ph69, g69, h⟩ := h
          refine r_iast hC dX5_numberPairs_69 g69 ?_
          refine r_iinc (w := 6) (v := x5 + 1) (lv' := [(5, .int (x5 + 1)), (6, .int v46), (0, va_rf x0), (1, .int x1), (2, va_rf x2), (3, .int x3), (4, .int x4)]) hC dX5_numberPairs_70 rfl rfl (by decide) (by first | rfl | simp [lvs1, List.filter, cat_rf, cat_i, cat_j]) ?_
          refine r_goto (tgt := 31) hC dX5_numberPairs_73 (by decide) ?_
          exact RR.wid (by decide) (by decide) (RR.sub [2, 3, 4, 5, 6, 0] rfl (ih _ _ _ _ _ _ _ h))
set_option maxRecDepth 20000 in
theorem b_X5_numberPairs_87 {C : Cx} {Z : State → Prop} {A : Nat → Prop} {G : GG} {Q : Option Nat → PH → Prop} {X : String → PH → Prop} (hC : CxOk RX5 cX5_numberPairs 7 G A (rmk 3 70 1 72) C) (hAo : Ao (xs C)) (hr : HA C Z A G 7 cX5_numberPairs 1 72 Q) (hx : HX C Z A G 7 1 72 X) (hn : HN C Z A G 7 RX5 cX5_numberPairs 1 72 (rmk 3 70 1 72) X) (hnw : HNW C Z A G 7 RX5 cX5_numberPairs 1 72 (rmk 3 70 1 72) X) (hnx : HNX C Z A G 7 RX5 cX5_numberPairs 1 72 (rmk 3 70 1 72) X) (hi : True) : ∀ (fu : Nat) (x2 : Option Nat) (x3 : Int32) (x4 : Int32) (ph : PH), w_X5_numberPairs_87 Q X fu x2 x3 x4 ph → RR C Z A G 7 87 [(2, va_rf x2), (3, .int x3), (4, .int x4)] [] ph 1 72 := by
  intro fu
  induction fu with
  | zero => intro x2 x3 x4 ph h; exact h.elim
  | succ fu ih =>
    intro x2 x3 x4 ph h
    refine r_iload hC dX5_numberPairs_87 2 rfl ?_
    refine r_aload_n hC dX5_numberPairs_89 rfl 0 rfl ?_
    obtain ⟨v90, g90, h⟩ := h
    refine r_alen hC dX5_numberPairs_90 g90 ?_
    refine r_icmp_ge (tgt := 115) hC dX5_numberPairs_91 (by decide) (fun c9 => ?_) (fun c9 => ?_)
    · have h := h.1 c9
      refine r_aload_n hC dX5_numberPairs_115 rfl 0 rfl ?_
      exact hr _ _ _ _ _ _ dX5_numberPairs_116 (by decide) (by decide) h
    · have h := h.2 c9
      refine r_aload_n hC dX5_numberPairs_94 rfl 0 rfl ?_
      refine r_iload hC dX5_numberPairs_95 2 rfl ?_
      obtain ⟨v97, g97, h⟩ := h
      refine r_iald hC dX5_numberPairs_97 g97 ?_
      refine r_if_lt (tgt := 109) hC dX5_numberPairs_98 (by decide) (fun c9 => ?_) (fun c9 => ?_)
      · have h := h.1 c9
        refine r_iinc (w := 2) (v := x4 + 1) (lv' := [(4, .int (x4 + 1)), (2, va_rf x2), (3, .int x3)]) hC dX5_numberPairs_109 rfl rfl (by decide) (by first | rfl | simp [lvs1, List.filter, cat_rf, cat_i, cat_j]) ?_
        refine r_goto (tgt := 87) hC dX5_numberPairs_112 (by decide) ?_
        exact RR.wid (by decide) (by decide) (RR.sub [1, 2, 0] rfl (ih _ _ _ _ h))
      · have h := h.2 c9
        refine r_aload_n hC dX5_numberPairs_101 rfl 0 rfl ?_
        refine r_iload hC dX5_numberPairs_102 2 rfl ?_
        refine r_iload_n hC dX5_numberPairs_104 rfl 1 rfl ?_
        obtain ⟨ph105, g105, h⟩ := h
        refine r_iast hC dX5_numberPairs_105 g105 ?_
        refine r_iinc (w := 1) (v := x3 + 1) (lv' := [(3, .int (x3 + 1)), (2, va_rf x2), (4, .int x4)]) hC dX5_numberPairs_106 rfl rfl (by decide) (by first | rfl | simp [lvs1, List.filter, cat_rf, cat_i, cat_j]) ?_
        refine r_iinc (w := 2) (v := x4 + 1) (lv' := [(4, .int (x4 + 1)), (3, .int (x3 + 1)), (2, va_rf x2)]) hC dX5_numberPairs_109 rfl rfl (by decide) (by first | rfl | simp [lvs1, List.filter, cat_rf, cat_i, cat_j]) ?_
        refine r_goto (tgt := 87) hC dX5_numberPairs_112 (by decide) ?_
        exact RR.wid (by decide) (by decide) (RR.sub [2, 1, 0] rfl (ih _ _ _ _ h))
set_option maxRecDepth 20000 in
theorem b_X5_numberPairs_12 {C : Cx} {Z : State → Prop} {A : Nat → Prop} {G : GG} {Q : Option Nat → PH → Prop} {X : String → PH → Prop} (hC : CxOk RX5 cX5_numberPairs 7 G A (rmk 3 70 1 72) C) (hAo : Ao (xs C)) (hr : HA C Z A G 7 cX5_numberPairs 1 72 Q) (hx : HX C Z A G 7 1 72 X) (hn : HN C Z A G 7 RX5 cX5_numberPairs 1 72 (rmk 3 70 1 72) X) (hnw : HNW C Z A G 7 RX5 cX5_numberPairs 1 72 (rmk 3 70 1 72) X) (hnx : HNX C Z A G 7 RX5 cX5_numberPairs 1 72 (rmk 3 70 1 72) X) (hi : True) : ∀ (fu : Nat) (x0 : Option Nat) (x1 : Int32) (x2 : Option Nat) (x3 : Int32) (ph : PH), w_X5_numberPairs_12 Q X fu x0 x1 x2 x3 ph → RR C Z A G 7 12 [(0, va_rf x0), (1, .int x1), (2, va_rf x2), (3, .int x3)] [] ph 1 72 := by
  intro fu
  induction fu with
  | zero => intro x0 x1 x2 x3 ph h; exact h.elim
  | succ fu ih =>
    intro x0 x1 x2 x3 ph h
    refine r_iload_n hC dX5_numberPairs_12 rfl 3 rfl ?_
    refine r_aload_n hC dX5_numberPairs_13 rfl 0 rfl ?_
    obtain ⟨v14, g14, h⟩ := h
    refine r_get hC (ci := 6) (kf := 1) (N := 3) (Cn := RX3) (T := TX3) rfl (by decide) tin_X3 fl_X5_34 rfl dX5_numberPairs_14 g14 ?_
    refine r_icmp_ge (tgt := 82) hC dX5_numberPairs_17 (by decide) (fun c9 => ?_) (fun c9 => ?_)
    · have h := h.1 c9
      refine r_iconst (v := 0) hC dX5_numberPairs_82 (by decide) ?_
      refine r_istore_n (i := 3) (lv' := [(3, .int (0 : Int32)), (0, va_rf x0), (1, .int x1), (2, va_rf x2)]) hC dX5_numberPairs_83 rfl (by decide) (by first | rfl | simp [lvs1, lvs2, List.filter, cat_rf, cat_i, cat_j]) ?_
      refine r_iconst (v := 0) hC dX5_numberPairs_84 (by decide) ?_
      refine r_istore (i := 4) (lv' := [(4, .int (0 : Int32)), (3, .int (0 : Int32)), (0, va_rf x0), (1, .int x1), (2, va_rf x2)]) hC dX5_numberPairs_85 (by decide) (by first | rfl | simp [lvs1, lvs2, List.filter, cat_rf, cat_i, cat_j]) ?_
      obtain ⟨fu87, h⟩ := h
      exact RR.wid (by decide) (by decide) (RR.sub [4, 1, 0] rfl (b_X5_numberPairs_87 hC hAo hr hx hn hnw hnx hi  fu87 _ _ _ _ h))
    · have h := h.2 c9
      refine r_aload_n hC dX5_numberPairs_20 rfl 0 rfl ?_
      refine r_iload_n hC dX5_numberPairs_21 rfl 1 rfl ?_
      refine r_iload_n hC dX5_numberPairs_22 rfl 3 rfl ?_
      refine r_SI hC hAo [va_rf x0, .int x1, .int x3] cal_X5_arrivals ml_X5_38 rfl (c_X5_arrivals G _ _ _ _ _ _ h) ⟨by decide, by decide⟩ ⟨by decide, by decide⟩ (by simp only [List.map_nil, List.map_cons, List.sum_nil, List.sum_cons, cat_rf, cat_i, cat_j]; decide) rfl dX5_numberPairs_23 (fun E u hx9 => hx _ _ _ _ _ _ _ (by decide) (by decide) hx9) (fun v23 ph23 h => ?_)
      refine RR.wid (k' := 1) (n' := 72) (by decide) (by decide) ?_
      refine r_istore (i := 4) (lv' := [(4, .int v23), (0, va_rf x0), (1, .int x1), (2, va_rf x2), (3, .int x3)]) hC dX5_numberPairs_26 (by decide) (by first | rfl | simp [lvs1, lvs2, List.filter, cat_rf, cat_i, cat_j]) ?_
      refine r_iconst (v := 0) hC dX5_numberPairs_28 (by decide) ?_
      refine r_istore (i := 5) (lv' := [(5, .int (0 : Int32)), (4, .int v23), (0, va_rf x0), (1, .int x1), (2, va_rf x2), (3, .int x3)]) hC dX5_numberPairs_29 (by decide) (by first | rfl | simp [lvs1, lvs2, List.filter, cat_rf, cat_i, cat_j]) ?_
      have k31_12 : ∀ (x0 : Option Nat) (x1 : Int32) (x2 : Option Nat) (x3 : Int32) (ph : PH), w_X5_numberPairs_12 Q X fu x0 x1 x2 x3 ph → RR C Z A G 7 12 [(0, va_rf x0), (1, .int x1), (2, va_rf x2), (3, .int x3)] [] ph 1 72 := by
        intro x0 x1 x2 x3 ph h
        exact RR.wid (by decide) (by decide) (RR.sub [0, 1, 2, 3] rfl (ih _ _ _ _ _ h))
      obtain ⟨fu31, h⟩ := h
      exact RR.wid (by decide) (by decide) (RR.sub [2, 3, 4, 5, 1, 0] rfl (b_X5_numberPairs_31 hC hAo hr hx hn hnw hnx hi k31_12 fu31 _ _ _ _ _ _ _ h))
set_option maxRecDepth 20000 in
theorem c_X5_numberPairs (G : GG) (x0 : Option Nat) (x1 : Int32) (ph : PH) (Q : Option Nat → PH → Prop) (X : String → PH → Prop) (h : w_X5_numberPairs x0 x1 ph Q X) : Ct G yX5_numberPairs (.code yX5_numberPairs cX5_numberPairs 7 (some (.array .int))) 3 70 1 72 [va_rf x0, .int x1] ph (oR Q) X := by
  refine ct_of (lv0 := [(0, va_rf x0), (1, .int x1)]) (by decide +kernel) (by simp [lg_sl, cat_rf, cat_i, cat_j]) (by simp [lv_args, cat_rf, cat_i, cat_j]) ?_
  intro C A hC hAo hex hrt hnm
  have hr : HA C (ZM C G A (oR Q) X 1 72) A G 7 cX5_numberPairs 1 72 Q := fun pc lv v ph k n d hk hn hq => e_a hC (cn := "") (Or.inr ⟨_, hrt⟩) pc lv v ph k n d hk hn ⟨v, rfl, hq⟩
  have hx := e_x (Q := oR Q) (X := X) (mc := 1) (ms := 72) hC hex
  have hn := e_n (Q := oR Q) (X := X) (mc := 1) (ms := 72) hC hex
  have hnw := e_nw (Q := oR Q) (X := X) (mc := 1) (ms := 72) hC hex
  have hnx := e_nx (Q := oR Q) (X := X) (mc := 1) (ms := 72) hC hex
  have hi : True := trivial
  generalize ZM C G A (oR Q) X 1 72 = Z at *
  refine r_bipush (v := 72) hC dX5_numberPairs_0 (by decide) ?_
  refine r_newa hC (ty := .int) (N := 72) (y := .inl (fun _ => 0)) 232 (by decide) rfl (fun _ q => by cases q) (fun _ => rfl) tb_207 (by decide) (by decide) (by decide) (by decide) (by decide) dX5_numberPairs_2 (fun a2 f2 => ?_)
  have h := h a2 _ f2 rfl
  refine r_astore_n (i := 2) (lv' := [(2, va_rf (some a2)), (0, va_rf x0), (1, .int x1)]) hC dX5_numberPairs_4 rfl (by decide) (by first | rfl | simp [lvs1, lvs2, List.filter, cat_rf, cat_i, cat_j]) ?_
  refine r_aload_n hC dX5_numberPairs_5 rfl 0 rfl ?_
  refine r_iconst (v := -1) hC dX5_numberPairs_6 (by decide) ?_
  refine r_SV hC hAo [va_rf (some a2), .int (-1 : Int32)] cal_J7_fill_53178 ml_X5_48 rfl (c_J7_fill_53178 G _ _ _ _ _ h) ⟨by decide, by decide⟩ ⟨by decide, by decide⟩ (by simp only [List.map_nil, List.map_cons, List.sum_nil, List.sum_cons, cat_rf, cat_i, cat_j]; decide) rfl dX5_numberPairs_7 (fun E u hx9 => hx _ _ _ _ _ _ _ (by decide) (by decide) hx9) (fun ph7 h => ?_)
  refine RR.wid (k' := 1) (n' := 72) (by decide) (by decide) ?_
  refine r_iconst (v := 0) hC dX5_numberPairs_10 (by decide) ?_
  refine r_istore_n (i := 3) (lv' := [(3, .int (0 : Int32)), (2, va_rf (some a2)), (0, va_rf x0), (1, .int x1)]) hC dX5_numberPairs_11 rfl (by decide) (by first | rfl | simp [lvs1, lvs2, List.filter, cat_rf, cat_i, cat_j]) ?_
  obtain ⟨fu12, h⟩ := h
  exact RR.wid (by decide) (by decide) (RR.sub [2, 3, 1, 0] rfl (b_X5_numberPairs_12 hC hAo hr hx hn hnw hnx hi  fu12 _ _ _ _ _ h))
set_option maxRecDepth 20000 in
theorem c_X5_numberOf (G : GG) (x0 : Option Nat) (x1 : Int32) (x2 : Int32) (ph : PH) (Q : Int32 → PH → Prop) (X : String → PH → Prop) (h : w_X5_numberOf x0 x1 x2 ph Q X) : Ct G yX5_numberOf (.code yX5_numberOf cX5_numberOf 4 (some (.int))) 0 0 0 0 [va_rf x0, .int x1, .int x2] ph (oI Q) X := by
  refine ct_of (lv0 := [(0, va_rf x0), (1, .int x1), (2, .int x2)]) (by decide +kernel) (by simp [lg_sl, cat_rf, cat_i, cat_j]) (by simp [lv_args, cat_rf, cat_i, cat_j]) ?_
  intro C A hC hAo hex hrt hnm
  have hr : HI C (ZM C G A (oI Q) X 0 0) A G 4 cX5_numberOf 0 0 Q := fun pc lv v ph k n d hk hn hq => e_i hC hrt pc lv v ph k n d hk hn ⟨v, rfl, hq⟩
  have hx := e_x (Q := oI Q) (X := X) (mc := 0) (ms := 0) hC hex
  have hn := e_n (Q := oI Q) (X := X) (mc := 0) (ms := 0) hC hex
  have hnw := e_nw (Q := oI Q) (X := X) (mc := 0) (ms := 0) hC hex
  have hnx := e_nx (Q := oI Q) (X := X) (mc := 0) (ms := 0) hC hex
  have hi : True := trivial
  generalize ZM C G A (oI Q) X 0 0 = Z at *
  refine r_iconst (v := 3) hC dX5_numberOf_0 (by decide) ?_
  refine r_iload_n hC dX5_numberOf_1 rfl 1 rfl ?_
  refine r_imul hC dX5_numberOf_2 ?_
  refine r_iload_n hC dX5_numberOf_3 rfl 2 rfl ?_
  refine r_iadd hC dX5_numberOf_4 ?_
  obtain ⟨v5, ev5⟩ : ∃ z : Int32, z = ((3 : Int32) * x1) + x2 := ⟨_, rfl⟩
  have h := h v5 ev5
  refine RR.to (st' := [.int v5]) (by rw [ev5]) ?_
  refine r_istore_n (i := 3) (lv' := [(3, .int v5), (0, va_rf x0), (1, .int x1), (2, .int x2)]) hC dX5_numberOf_5 rfl (by decide) (by first | rfl | simp [lvs1, lvs2, List.filter, cat_rf, cat_i, cat_j]) ?_
  refine r_iload_n hC dX5_numberOf_6 rfl 0 rfl ?_
  refine r_if_lt (tgt := 22) hC dX5_numberOf_7 (by decide) (fun c9 => ?_) (fun c9 => ?_)
  · have h := h.1 c9
    refine r_iconst (v := -1) hC dX5_numberOf_22 (by decide) ?_
    exact hr _ _ _ _ _ _ dX5_numberOf_23 (by decide) (by decide) h
  · have h := h.2 c9
    refine r_iload_n hC dX5_numberOf_10 rfl 0 rfl ?_
    refine r_aload_n hC dX5_numberOf_11 rfl 1 rfl ?_
    obtain ⟨v12, g12, h⟩ := h
    refine r_alen hC dX5_numberOf_12 g12 ?_
    refine r_icmp_ge (tgt := 22) hC dX5_numberOf_13 (by decide) (fun c9 => ?_) (fun c9 => ?_)
    · have h := h.1 c9
      refine r_iconst (v := -1) hC dX5_numberOf_22 (by decide) ?_
      exact hr _ _ _ _ _ _ dX5_numberOf_23 (by decide) (by decide) h
    · have h := h.2 c9
      refine r_aload_n hC dX5_numberOf_16 rfl 1 rfl ?_
      refine r_iload_n hC dX5_numberOf_17 rfl 0 rfl ?_
      obtain ⟨v18, g18, h⟩ := h
      refine r_iald hC dX5_numberOf_18 g18 ?_
      refine r_goto (tgt := 23) hC dX5_numberOf_19 (by decide) ?_
      exact hr _ _ _ _ _ _ dX5_numberOf_23 (by decide) (by decide) h
set_option maxRecDepth 20000 in
theorem b_X5_drawTo_3 {C : Cx} {Z : State → Prop} {A : Nat → Prop} {G : GG} {Q : PH → Prop} {X : String → PH → Prop} (hC : CxOk RX5 cX5_drawTo 8 G A (rmk 2 48 0 0) C) (hAo : Ao (xs C)) (hr : HV C Z A G 8 cX5_drawTo 0 0 Q) (hx : HX C Z A G 8 0 0 X) (hn : HN C Z A G 8 RX5 cX5_drawTo 0 0 (rmk 2 48 0 0) X) (hnw : HNW C Z A G 8 RX5 cX5_drawTo 0 0 (rmk 2 48 0 0) X) (hnx : HNX C Z A G 8 RX5 cX5_drawTo 0 0 (rmk 2 48 0 0) X) (hi : True) : ∀ (fu : Nat) (x0 : Option Nat) (x1 : Option Nat) (x2 : Int32) (x3 : Int32) (x4 : Int32) (x5 : Int32) (x6 : Int32) (ph : PH), w_X5_drawTo_3 Q X fu x0 x1 x2 x3 x4 x5 x6 ph → RR C Z A G 8 3 [(0, va_rf x0), (1, va_rf x1), (2, .int x2), (3, .int x3), (4, .int x4), (5, .int x5), (6, .int x6)] [] ph 0 0 := by
  intro fu
  induction fu with
  | zero => intro x0 x1 x2 x3 x4 x5 x6 ph h; exact h.elim
  | succ fu ih =>
    intro x0 x1 x2 x3 x4 x5 x6 ph h
    refine r_iload hC dX5_drawTo_3 6 rfl ?_
    refine r_bipush (v := 24) hC dX5_drawTo_5 (by decide) ?_
    refine r_icmp_ge (tgt := 50) hC dX5_drawTo_7 (by decide) (fun c9 => ?_) (fun c9 => ?_)
    · have h := h.1 c9
      exact hr _ _ _ _ _ dX5_drawTo_50 (by decide) (by decide) h
    · have h := h.2 c9
      refine r_aload_n hC dX5_drawTo_10 rfl 1 rfl ?_
      refine r_iload hC dX5_drawTo_11 6 rfl ?_
      refine r_iload hC dX5_drawTo_13 4 rfl ?_
      refine r_SI hC hAo [va_rf x1, .int x6, .int x4] cal_X5_numberOf ml_X5_69 rfl (c_X5_numberOf G _ _ _ _ _ _ h) ⟨by decide, by decide⟩ ⟨by decide, by decide⟩ (by simp only [List.map_nil, List.map_cons, List.sum_nil, List.sum_cons, cat_rf, cat_i, cat_j]; decide) rfl dX5_drawTo_15 (fun E u hx9 => hx _ _ _ _ _ _ _ (by decide) (by decide) hx9) (fun v15 ph15 h => ?_)
      refine RR.wid (k' := 0) (n' := 0) (by decide) (by decide) ?_
      refine r_istore (i := 7) (lv' := [(7, .int v15), (0, va_rf x0), (1, va_rf x1), (2, .int x2), (3, .int x3), (4, .int x4), (5, .int x5), (6, .int x6)]) hC dX5_drawTo_18 (by decide) (by first | rfl | simp [lvs1, lvs2, List.filter, cat_rf, cat_i, cat_j]) ?_
      refine r_iload hC dX5_drawTo_20 6 rfl ?_
      refine r_iload hC dX5_drawTo_22 7 rfl ?_
      refine r_SI hC hAo [.int x5, .int x6] cal_X11_hasBit ml_X5_26 rfl (c_X11_hasBit G _ _ _ _ _ h) ⟨by decide, by decide⟩ ⟨by decide, by decide⟩ (by simp only [List.map_nil, List.map_cons, List.sum_nil, List.sum_cons, cat_rf, cat_i, cat_j]; decide) rfl dX5_drawTo_24 (fun E u hx9 => hx _ _ _ _ _ _ _ (by decide) (by decide) hx9) (fun v24 ph24 h => ?_)
      refine RR.wid (k' := 0) (n' := 0) (by decide) (by decide) ?_
      refine r_if_eq (tgt := 44) hC dX5_drawTo_27 (by decide) (fun c9 => ?_) (fun c9 => ?_)
      · have h := h.1 c9
        refine r_iinc (w := 7) (v := x6 + 1) (lv' := [(6, .int (x6 + 1)), (7, .int v15), (0, va_rf x0), (1, va_rf x1), (2, .int x2), (3, .int x3), (4, .int x4), (5, .int x5)]) hC dX5_drawTo_44 rfl rfl (by decide) (by first | rfl | simp [lvs1, List.filter, cat_rf, cat_i, cat_j]) ?_
        refine r_goto (tgt := 3) hC dX5_drawTo_47 (by decide) ?_
        exact RR.wid (by decide) (by decide) (RR.sub [2, 3, 4, 5, 6, 7, 0] rfl (ih _ _ _ _ _ _ _ _ h))
      · have h := h.2 c9
        refine r_iload hC dX5_drawTo_30 0 rfl ?_
        refine r_if_lt (tgt := 44) hC dX5_drawTo_32 (by decide) (fun c9 => ?_) (fun c9 => ?_)
        · have h := h.1 c9
          refine r_iinc (w := 7) (v := x6 + 1) (lv' := [(6, .int (x6 + 1)), (7, .int v15), (0, va_rf x0), (1, va_rf x1), (2, .int x2), (3, .int x3), (4, .int x4), (5, .int x5)]) hC dX5_drawTo_44 rfl rfl (by decide) (by first | rfl | simp [lvs1, List.filter, cat_rf, cat_i, cat_j]) ?_
          refine r_goto (tgt := 3) hC dX5_drawTo_47 (by decide) ?_
          exact RR.wid (by decide) (by decide) (RR.sub [2, 3, 4, 5, 6, 7, 0] rfl (ih _ _ _ _ _ _ _ _ h))
        · have h := h.2 c9
          refine r_aload_n hC dX5_drawTo_35 rfl 1 rfl ?_
          refine r_iload_n hC dX5_drawTo_36 rfl 3 rfl ?_
          refine r_iload_n hC dX5_drawTo_37 rfl 4 rfl ?_
          refine r_iload hC dX5_drawTo_38 0 rfl ?_
          refine r_iconst (v := 1) hC dX5_drawTo_40 (by decide) ?_
          obtain ⟨a41, o41, h⟩ := h
          refine r_VV hC hAo [.int x2, .int x3, .int v15, .int (1 : Int32)] cal_X3_tell ml_X5_20 (ci := 6) rfl rfl rfl (c_X3_tell G _ _ _ _ _ _ _ _ h) o41 ⟨by decide, by decide⟩ ⟨by decide, by decide⟩ (by simp only [List.map_nil, List.map_cons, List.sum_nil, List.sum_cons, cat_rf, cat_i, cat_j]; decide) rfl dX5_drawTo_41 (fun E u hx9 => hx _ _ _ _ _ _ _ (by decide) (by decide) hx9) (fun ph41 h => ?_)
          refine RR.wid (k' := 0) (n' := 0) (by decide) (by decide) ?_
          refine r_iinc (w := 7) (v := x6 + 1) (lv' := [(6, .int (x6 + 1)), (7, .int v15), (0, va_rf x0), (1, va_rf x1), (2, .int x2), (3, .int x3), (4, .int x4), (5, .int x5)]) hC dX5_drawTo_44 rfl rfl (by decide) (by first | rfl | simp [lvs1, List.filter, cat_rf, cat_i, cat_j]) ?_
          refine r_goto (tgt := 3) hC dX5_drawTo_47 (by decide) ?_
          exact RR.wid (by decide) (by decide) (RR.sub [2, 3, 4, 5, 6, 7, 0] rfl (ih _ _ _ _ _ _ _ _ h))
set_option maxRecDepth 20000 in
theorem c_X5_drawTo (G : GG) (x0 : Option Nat) (x1 : Option Nat) (x2 : Int32) (x3 : Int32) (x4 : Int32) (x5 : Int32) (ph : PH) (Q : PH → Prop) (X : String → PH → Prop) (h : w_X5_drawTo x0 x1 x2 x3 x4 x5 ph Q X) : Ct G yX5_drawTo (.code yX5_drawTo cX5_drawTo 8 none) 2 48 0 0 [va_rf x0, va_rf x1, .int x2, .int x3, .int x4, .int x5] ph (oV Q) X := by
  refine ct_of (lv0 := [(0, va_rf x0), (1, va_rf x1), (2, .int x2), (3, .int x3), (4, .int x4), (5, .int x5)]) (by decide +kernel) (by simp [lg_sl, cat_rf, cat_i, cat_j]) (by simp [lv_args, cat_rf, cat_i, cat_j]) ?_
  intro C A hC hAo hex hrt hnm
  have hr : HV C (ZM C G A (oV Q) X 0 0) A G 8 cX5_drawTo 0 0 Q := fun pc lv ph k n d hk hn hq => e_v hC hrt pc lv ph k n d hk hn ⟨rfl, hq⟩
  have hx := e_x (Q := oV Q) (X := X) (mc := 0) (ms := 0) hC hex
  have hn := e_n (Q := oV Q) (X := X) (mc := 0) (ms := 0) hC hex
  have hnw := e_nw (Q := oV Q) (X := X) (mc := 0) (ms := 0) hC hex
  have hnx := e_nx (Q := oV Q) (X := X) (mc := 0) (ms := 0) hC hex
  have hi : True := trivial
  generalize ZM C G A (oV Q) X 0 0 = Z at *
  refine r_iconst (v := 0) hC dX5_drawTo_0 (by decide) ?_
  refine r_istore (i := 6) (lv' := [(6, .int (0 : Int32)), (0, va_rf x0), (1, va_rf x1), (2, .int x2), (3, .int x3), (4, .int x4), (5, .int x5)]) hC dX5_drawTo_1 (by decide) (by first | rfl | simp [lvs1, lvs2, List.filter, cat_rf, cat_i, cat_j]) ?_
  obtain ⟨fu3, h⟩ := h
  exact RR.wid (by decide) (by decide) (RR.sub [1, 2, 3, 4, 5, 6, 0] rfl (b_X5_drawTo_3 hC hAo hr hx hn hnw hnx hi  fu3 _ _ _ _ _ _ _ _ h))
