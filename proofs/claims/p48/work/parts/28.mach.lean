set_option maxRecDepth 20000 in
theorem b_X5_byImage_67 {C : Cx} {Z : State → Prop} {A : Nat → Prop} {G : GG} {Q : Option Nat → PH → Prop} {X : String → PH → Prop} {K44 : Option Nat → Option Nat → Option Nat → Option Nat → Int32 → Int32 → PH → Prop} (hC : CxOk RX5 cX5_byImage 10 G A (rmk 4 96 3 147) C) (hAo : Ao (xs C)) (hr : HA C Z A G 10 cX5_byImage 3 147 Q) (hx : HX C Z A G 10 3 147 X) (hn : HN C Z A G 10 RX5 cX5_byImage 3 147 (rmk 4 96 3 147) X) (hnw : HNW C Z A G 10 RX5 cX5_byImage 3 147 (rmk 4 96 3 147) X) (hnx : HNX C Z A G 10 RX5 cX5_byImage 3 147 (rmk 4 96 3 147) X) (hi : True) (hK44 : ∀ (x0 : Option Nat) (x1 : Option Nat) (x3 : Option Nat) (x4 : Option Nat) (x5 : Int32) (x6 : Int32) (ph : PH), K44 x0 x1 x3 x4 x5 x6 ph → RR C Z A G 10 44 [(0, va_rf x0), (1, va_rf x1), (3, va_rf x3), (4, va_rf x4), (5, .int x5), (6, .int x6)] [] ph 3 147) : ∀ (fu : Nat) (x0 : Option Nat) (x1 : Option Nat) (x3 : Option Nat) (x4 : Option Nat) (x5 : Int32) (x6 : Int32) (x7 : Int32) (x8 : Int32) (ph : PH), w_X5_byImage_67 Q X K44 fu x0 x1 x3 x4 x5 x6 x7 x8 ph → RR C Z A G 10 67 [(0, va_rf x0), (1, va_rf x1), (3, va_rf x3), (4, va_rf x4), (5, .int x5), (6, .int x6), (7, .int x7), (8, .int x8)] [] ph 3 147 := by
  intro fu
  induction fu with
  | zero => intro x0 x1 x3 x4 x5 x6 x7 x8 ph h; exact h.elim
  | succ fu ih =>
    intro x0 x1 x3 x4 x5 x6 x7 x8 ph h
    refine r_iload hC dX5_byImage_67 6 rfl ?_
    refine r_if_lt (tgt := 117) hC dX5_byImage_69 (by decide) (fun c9 => ?_) (fun c9 => ?_)
    · have h := h.1 c9
      refine r_iinc (w := 5) (v := x6 + 1) (lv' := [(6, .int (x6 + 1)), (0, va_rf x0), (1, va_rf x1), (3, va_rf x3), (4, va_rf x4), (5, .int x5), (7, .int x7), (8, .int x8)]) hC dX5_byImage_117 rfl rfl (by decide) (by first | rfl | simp [lvs1, List.filter, cat_rf, cat_i, cat_j]) ?_
      refine r_goto (tgt := 44) hC dX5_byImage_120 (by decide) ?_
      exact RR.wid (by decide) (by decide) (RR.sub [1, 2, 3, 4, 5, 0] rfl (hK44 _ _ _ _ _ _ _ h))
    · have h := h.2 c9
      refine r_iload hC dX5_byImage_72 7 rfl ?_
      refine r_aload_n hC dX5_byImage_74 rfl 1 rfl ?_
      obtain ⟨v75, g75, h⟩ := h
      refine r_get hC (ci := 6) (kf := 1) (N := 3) (Cn := RX3) (T := TX3) rfl (by decide) tin_X3 fl_X5_34 rfl dX5_byImage_75 g75 ?_
      refine r_icmp_ge (tgt := 117) hC dX5_byImage_78 (by decide) (fun c9 => ?_) (fun c9 => ?_)
      · have h := h.1 c9
        refine r_iinc (w := 5) (v := x6 + 1) (lv' := [(6, .int (x6 + 1)), (0, va_rf x0), (1, va_rf x1), (3, va_rf x3), (4, va_rf x4), (5, .int x5), (7, .int x7), (8, .int x8)]) hC dX5_byImage_117 rfl rfl (by decide) (by first | rfl | simp [lvs1, List.filter, cat_rf, cat_i, cat_j]) ?_
        refine r_goto (tgt := 44) hC dX5_byImage_120 (by decide) ?_
        exact RR.wid (by decide) (by decide) (RR.sub [1, 2, 3, 4, 5, 0] rfl (hK44 _ _ _ _ _ _ _ h))
      · have h := h.2 c9
        refine r_aload_n hC dX5_byImage_81 rfl 0 rfl ?_
        refine r_iload hC dX5_byImage_82 5 rfl ?_
        refine r_iload hC dX5_byImage_84 7 rfl ?_
        obtain ⟨a86, o86, h⟩ := h
        refine r_VI hC hAo [.int x6, .int x8] cal_X1_given ml_X5_73 (ci := 4) rfl rfl rfl (c_X1_given G _ _ _ _ _ _ h) o86 ⟨by decide, by decide⟩ ⟨by decide, by decide⟩ (by simp only [List.map_nil, List.map_cons, List.sum_nil, List.sum_cons, cat_rf, cat_i, cat_j]; decide) rfl dX5_byImage_86 (fun E u hx9 => hx _ _ _ _ _ _ _ (by decide) (by decide) hx9) (fun v86 ph86 h => ?_)
        refine RR.wid (k' := 3) (n' := 147) (by decide) (by decide) ?_
        refine r_istore (i := 9) (lv' := [(9, .int v86), (0, va_rf x0), (1, va_rf x1), (3, va_rf x3), (4, va_rf x4), (5, .int x5), (6, .int x6), (7, .int x7), (8, .int x8)]) hC dX5_byImage_89 (by decide) (by first | rfl | simp [lvs1, lvs2, List.filter, cat_rf, cat_i, cat_j]) ?_
        refine r_aload_n hC dX5_byImage_91 rfl 3 rfl ?_
        refine r_aload hC dX5_byImage_92 4 rfl ?_
        refine r_iload hC dX5_byImage_94 7 rfl ?_
        refine r_iload hC dX5_byImage_96 0 rfl ?_
        refine r_iload hC dX5_byImage_98 8 rfl ?_
        refine r_aload_n hC dX5_byImage_100 rfl 2 rfl ?_
        refine r_iload hC dX5_byImage_101 5 rfl ?_
        refine r_iload hC dX5_byImage_103 8 rfl ?_
        obtain ⟨a105, o105, h⟩ := h
        refine r_VI hC hAo [.int x5, .int x8] cal_X3_targets ml_X5_78 (ci := 6) rfl rfl rfl (c_X3_targets G _ _ _ _ _ _ h) o105 ⟨by decide, by decide⟩ ⟨by decide, by decide⟩ (by simp only [List.map_nil, List.map_cons, List.sum_nil, List.sum_cons, cat_rf, cat_i, cat_j]; decide) rfl dX5_byImage_105 (fun E u hx9 => hx _ _ _ _ _ _ _ (by decide) (by decide) hx9) (fun v105 ph105 h => ?_)
        refine RR.wid (k' := 3) (n' := 147) (by decide) (by decide) ?_
        refine r_SV hC hAo [va_rf x3, va_rf x4, .int x7, .int v86, .int x8, .int v105] cal_X5_drawTo ml_X5_81 rfl (c_X5_drawTo G _ _ _ _ _ _ _ _ _ h) ⟨by decide, by decide⟩ ⟨by decide, by decide⟩ (by simp only [List.map_nil, List.map_cons, List.sum_nil, List.sum_cons, cat_rf, cat_i, cat_j]; decide) rfl dX5_byImage_108 (fun E u hx9 => hx _ _ _ _ _ _ _ (by decide) (by decide) hx9) (fun ph108 h => ?_)
        refine RR.wid (k' := 3) (n' := 147) (by decide) (by decide) ?_
        refine r_iinc (w := 8) (v := x8 + 1) (lv' := [(8, .int (x8 + 1)), (9, .int v86), (0, va_rf x0), (1, va_rf x1), (3, va_rf x3), (4, va_rf x4), (5, .int x5), (6, .int x6), (7, .int x7)]) hC dX5_byImage_111 rfl rfl (by decide) (by first | rfl | simp [lvs1, List.filter, cat_rf, cat_i, cat_j]) ?_
        refine r_goto (tgt := 67) hC dX5_byImage_114 (by decide) ?_
        exact RR.wid (by decide) (by decide) (RR.sub [2, 3, 4, 5, 6, 7, 8, 0] rfl (ih _ _ _ _ _ _ _ _ _ h))
set_option maxRecDepth 20000 in
theorem b_X5_byImage_44 {C : Cx} {Z : State → Prop} {A : Nat → Prop} {G : GG} {Q : Option Nat → PH → Prop} {X : String → PH → Prop} {K32 : Option Nat → Option Nat → Option Nat → Option Nat → Int32 → PH → Prop} (hC : CxOk RX5 cX5_byImage 10 G A (rmk 4 96 3 147) C) (hAo : Ao (xs C)) (hr : HA C Z A G 10 cX5_byImage 3 147 Q) (hx : HX C Z A G 10 3 147 X) (hn : HN C Z A G 10 RX5 cX5_byImage 3 147 (rmk 4 96 3 147) X) (hnw : HNW C Z A G 10 RX5 cX5_byImage 3 147 (rmk 4 96 3 147) X) (hnx : HNX C Z A G 10 RX5 cX5_byImage 3 147 (rmk 4 96 3 147) X) (hi : True) (hK32 : ∀ (x0 : Option Nat) (x1 : Option Nat) (x3 : Option Nat) (x4 : Option Nat) (x5 : Int32) (ph : PH), K32 x0 x1 x3 x4 x5 ph → RR C Z A G 10 32 [(0, va_rf x0), (1, va_rf x1), (3, va_rf x3), (4, va_rf x4), (5, .int x5)] [] ph 3 147) : ∀ (fu : Nat) (x0 : Option Nat) (x1 : Option Nat) (x3 : Option Nat) (x4 : Option Nat) (x5 : Int32) (x6 : Int32) (ph : PH), w_X5_byImage_44 Q X K32 fu x0 x1 x3 x4 x5 x6 ph → RR C Z A G 10 44 [(0, va_rf x0), (1, va_rf x1), (3, va_rf x3), (4, va_rf x4), (5, .int x5), (6, .int x6)] [] ph 3 147 := by
  intro fu
  induction fu with
  | zero => intro x0 x1 x3 x4 x5 x6 ph h; exact h.elim
  | succ fu ih =>
    intro x0 x1 x3 x4 x5 x6 ph h
    refine r_iload hC dX5_byImage_44 5 rfl ?_
    refine r_aload_n hC dX5_byImage_46 rfl 1 rfl ?_
    obtain ⟨v47, g47, h⟩ := h
    refine r_get hC (ci := 6) (kf := 1) (N := 3) (Cn := RX3) (T := TX3) rfl (by decide) tin_X3 fl_X5_34 rfl dX5_byImage_47 g47 ?_
    refine r_icmp_ge (tgt := 123) hC dX5_byImage_50 (by decide) (fun c9 => ?_) (fun c9 => ?_)
    · have h := h.1 c9
      refine r_iinc (w := 4) (v := x5 + 1) (lv' := [(5, .int (x5 + 1)), (0, va_rf x0), (1, va_rf x1), (3, va_rf x3), (4, va_rf x4), (6, .int x6)]) hC dX5_byImage_123 rfl rfl (by decide) (by first | rfl | simp [lvs1, List.filter, cat_rf, cat_i, cat_j]) ?_
      refine r_goto (tgt := 32) hC dX5_byImage_126 (by decide) ?_
      exact RR.wid (by decide) (by decide) (RR.sub [1, 2, 3, 4, 0] rfl (hK32 _ _ _ _ _ _ h))
    · have h := h.2 c9
      refine r_aload hC dX5_byImage_53 3 rfl ?_
      refine r_iload hC dX5_byImage_55 4 rfl ?_
      refine r_iload hC dX5_byImage_57 5 rfl ?_
      refine r_SI hC hAo [va_rf x4, .int x5, .int x6] cal_X5_numberOf ml_X5_69 rfl (c_X5_numberOf G _ _ _ _ _ _ h) ⟨by decide, by decide⟩ ⟨by decide, by decide⟩ (by simp only [List.map_nil, List.map_cons, List.sum_nil, List.sum_cons, cat_rf, cat_i, cat_j]; decide) rfl dX5_byImage_59 (fun E u hx9 => hx _ _ _ _ _ _ _ (by decide) (by decide) hx9) (fun v59 ph59 h => ?_)
      refine RR.wid (k' := 3) (n' := 147) (by decide) (by decide) ?_
      refine r_istore (i := 7) (lv' := [(7, .int v59), (0, va_rf x0), (1, va_rf x1), (3, va_rf x3), (4, va_rf x4), (5, .int x5), (6, .int x6)]) hC dX5_byImage_62 (by decide) (by first | rfl | simp [lvs1, lvs2, List.filter, cat_rf, cat_i, cat_j]) ?_
      refine r_iconst (v := 0) hC dX5_byImage_64 (by decide) ?_
      refine r_istore (i := 8) (lv' := [(8, .int (0 : Int32)), (7, .int v59), (0, va_rf x0), (1, va_rf x1), (3, va_rf x3), (4, va_rf x4), (5, .int x5), (6, .int x6)]) hC dX5_byImage_65 (by decide) (by first | rfl | simp [lvs1, lvs2, List.filter, cat_rf, cat_i, cat_j]) ?_
      have k67_44 : ∀ (x0 : Option Nat) (x1 : Option Nat) (x3 : Option Nat) (x4 : Option Nat) (x5 : Int32) (x6 : Int32) (ph : PH), w_X5_byImage_44 Q X K32 fu x0 x1 x3 x4 x5 x6 ph → RR C Z A G 10 44 [(0, va_rf x0), (1, va_rf x1), (3, va_rf x3), (4, va_rf x4), (5, .int x5), (6, .int x6)] [] ph 3 147 := by
        intro x0 x1 x3 x4 x5 x6 ph h
        exact RR.wid (by decide) (by decide) (RR.sub [0, 1, 2, 3, 4, 5] rfl (ih _ _ _ _ _ _ _ h))
      obtain ⟨fu67, h⟩ := h
      exact RR.wid (by decide) (by decide) (RR.sub [2, 3, 4, 5, 6, 7, 1, 0] rfl (b_X5_byImage_67 hC hAo hr hx hn hnw hnx hi k67_44 fu67 _ _ _ _ _ _ _ _ _ h))
set_option maxRecDepth 20000 in
theorem b_X5_byImage_32 {C : Cx} {Z : State → Prop} {A : Nat → Prop} {G : GG} {Q : Option Nat → PH → Prop} {X : String → PH → Prop} (hC : CxOk RX5 cX5_byImage 10 G A (rmk 4 96 3 147) C) (hAo : Ao (xs C)) (hr : HA C Z A G 10 cX5_byImage 3 147 Q) (hx : HX C Z A G 10 3 147 X) (hn : HN C Z A G 10 RX5 cX5_byImage 3 147 (rmk 4 96 3 147) X) (hnw : HNW C Z A G 10 RX5 cX5_byImage 3 147 (rmk 4 96 3 147) X) (hnx : HNX C Z A G 10 RX5 cX5_byImage 3 147 (rmk 4 96 3 147) X) (hi : True) : ∀ (fu : Nat) (x0 : Option Nat) (x1 : Option Nat) (x3 : Option Nat) (x4 : Option Nat) (x5 : Int32) (ph : PH), w_X5_byImage_32 Q X fu x0 x1 x3 x4 x5 ph → RR C Z A G 10 32 [(0, va_rf x0), (1, va_rf x1), (3, va_rf x3), (4, va_rf x4), (5, .int x5)] [] ph 3 147 := by
  intro fu
  induction fu with
  | zero => intro x0 x1 x3 x4 x5 ph h; exact h.elim
  | succ fu ih =>
    intro x0 x1 x3 x4 x5 ph h
    refine r_iload hC dX5_byImage_32 4 rfl ?_
    refine r_aload_n hC dX5_byImage_34 rfl 1 rfl ?_
    obtain ⟨v35, g35, h⟩ := h
    refine r_get hC (ci := 6) (kf := 0) (N := 3) (Cn := RX3) (T := TX3) rfl (by decide) tin_X3 fl_X5_54 rfl dX5_byImage_35 g35 ?_
    refine r_icmp_ge (tgt := 129) hC dX5_byImage_38 (by decide) (fun c9 => ?_) (fun c9 => ?_)
    · have h := h.1 c9
      refine r_aload_n hC dX5_byImage_129 rfl 2 rfl ?_
      exact hr _ _ _ _ _ _ dX5_byImage_130 (by decide) (by decide) h
    · have h := h.2 c9
      refine r_iconst (v := 0) hC dX5_byImage_41 (by decide) ?_
      refine r_istore (i := 6) (lv' := [(6, .int (0 : Int32)), (0, va_rf x0), (1, va_rf x1), (3, va_rf x3), (4, va_rf x4), (5, .int x5)]) hC dX5_byImage_42 (by decide) (by first | rfl | simp [lvs1, lvs2, List.filter, cat_rf, cat_i, cat_j]) ?_
      have k44_32 : ∀ (x0 : Option Nat) (x1 : Option Nat) (x3 : Option Nat) (x4 : Option Nat) (x5 : Int32) (ph : PH), w_X5_byImage_32 Q X fu x0 x1 x3 x4 x5 ph → RR C Z A G 10 32 [(0, va_rf x0), (1, va_rf x1), (3, va_rf x3), (4, va_rf x4), (5, .int x5)] [] ph 3 147 := by
        intro x0 x1 x3 x4 x5 ph h
        exact RR.wid (by decide) (by decide) (RR.sub [0, 1, 2, 3, 4] rfl (ih _ _ _ _ _ _ h))
      obtain ⟨fu44, h⟩ := h
      exact RR.wid (by decide) (by decide) (RR.sub [1, 2, 3, 4, 5, 0] rfl (b_X5_byImage_44 hC hAo hr hx hn hnw hnx hi k44_32 fu44 _ _ _ _ _ _ _ h))
set_option maxRecDepth 20000 in
theorem c_X5_byImage (G : GG) (x0 : Option Nat) (x1 : Option Nat) (ph : PH) (Q : Option Nat → PH → Prop) (X : String → PH → Prop) (h : w_X5_byImage x0 x1 ph Q X) : Ct G yX5_byImage (.code yX5_byImage cX5_byImage 10 (some (.object "Shiftgate$Graph"))) 4 96 3 147 [va_rf x0, va_rf x1] ph (oR Q) X := by
  refine ct_of (lv0 := [(0, va_rf x0), (1, va_rf x1)]) (by decide +kernel) (by simp [lg_sl, cat_rf, cat_i, cat_j]) (by simp [lv_args, cat_rf, cat_i, cat_j]) ?_
  intro C A hC hAo hex hrt hnm
  have hr : HA C (ZM C G A (oR Q) X 3 147) A G 10 cX5_byImage 3 147 Q := fun pc lv v ph k n d hk hn hq => e_a hC (cn := "Shiftgate$Graph") (Or.inl hrt) pc lv v ph k n d hk hn ⟨v, rfl, hq⟩
  have hx := e_x (Q := oR Q) (X := X) (mc := 3) (ms := 147) hC hex
  have hn := e_n (Q := oR Q) (X := X) (mc := 3) (ms := 147) hC hex
  have hnw := e_nw (Q := oR Q) (X := X) (mc := 3) (ms := 147) hC hex
  have hnx := e_nx (Q := oR Q) (X := X) (mc := 3) (ms := 147) hC hex
  have hi : True := trivial
  generalize ZM C G A (oR Q) X 3 147 = Z at *
  refine r_aload_n hC dX5_byImage_0 rfl 1 rfl ?_
  obtain ⟨a1, o1, h⟩ := h
  refine r_VI hC hAo [] cal_X3_liveSet ml_X5_57 (ci := 6) rfl rfl rfl (c_X3_liveSet G _ _ _ _ h) o1 ⟨by decide, by decide⟩ ⟨by decide, by decide⟩ (by simp only [List.map_nil, List.map_cons, List.sum_nil, List.sum_cons, cat_rf, cat_i, cat_j]; decide) rfl dX5_byImage_1 (fun E u hx9 => hx _ _ _ _ _ _ _ (by decide) (by decide) hx9) (fun v1 ph1 h => ?_)
  refine RR.wid (k' := 0) (n' := 0) (by decide) (by decide) ?_
  refine r_istore_n (i := 2) (lv' := [(2, .int v1), (0, va_rf x0), (1, va_rf x1)]) hC dX5_byImage_4 rfl (by decide) (by first | rfl | simp [lvs1, lvs2, List.filter, cat_rf, cat_i, cat_j]) ?_
  refine r_new hC (ci := 6) (N := 3) (Cn := RX3) (T := TX3) (ty := tyX3) (fs := [.int 0, .int 0, .null]) 106 (by decide) rfl tin_X3 tyX3_ok tb_646 tb_359 tb_129 rfl (fun j hj => by rcases (show j = 0 ∨ j = 1 ∨ j = 2 by omega) with rfl | rfl | rfl <;> rfl) (by decide) (by decide) dX5_byImage_5 (fun a5 f5 => ?_)
  have h := h a5 _ f5 rfl
  refine r_dup hC dX5_byImage_8 (by first | rfl | exact cat_rf _) ?_
  refine r_aload_n hC dX5_byImage_9 rfl 2 rfl ?_
  refine r_iload_n hC dX5_byImage_10 rfl 0 rfl ?_
  refine r_SI hC hAo [va_rf x1, .int v1] cal_X5_countPairs ml_X5_61 rfl (c_X5_countPairs G _ _ _ _ _ h) ⟨by decide, by decide⟩ ⟨by decide, by decide⟩ (by simp only [List.map_nil, List.map_cons, List.sum_nil, List.sum_cons, cat_rf, cat_i, cat_j]; decide) rfl dX5_byImage_11 (fun E u hx9 => hx _ _ _ _ _ _ _ (by decide) (by decide) hx9) (fun v11 ph11 h => ?_)
  refine RR.wid (k' := 1) (n' := 3) (by decide) (by decide) ?_
  refine r_aload_n hC dX5_byImage_14 rfl 2 rfl ?_
  obtain ⟨v15, g15, h⟩ := h
  refine r_get hC (ci := 6) (kf := 1) (N := 3) (Cn := RX3) (T := TX3) rfl (by decide) tin_X3 fl_X5_34 rfl dX5_byImage_15 g15 ?_
  obtain ⟨a18, o18, h⟩ := h
  refine r_IV hC hAo [.int v11, .int v15] cal_X3_init ml_X5_11 rfl o18 (c_X3_init G _ _ _ _ _ _ h) ⟨by decide, by decide⟩ ⟨by decide, by decide⟩ (by simp only [List.map_nil, List.map_cons, List.sum_nil, List.sum_cons, cat_rf, cat_i, cat_j]; decide) rfl dX5_byImage_18 (fun E u hx9 => hx _ _ _ _ _ _ _ (by decide) (by decide) hx9) (fun ph18 h => ?_)
  refine RR.wid (k' := 2) (n' := 75) (by decide) (by decide) ?_
  refine r_astore_n (i := 3) (lv' := [(3, va_rf (some a5)), (2, .int v1), (0, va_rf x0), (1, va_rf x1)]) hC dX5_byImage_21 rfl (by decide) (by first | rfl | simp [lvs1, lvs2, List.filter, cat_rf, cat_i, cat_j]) ?_
  refine r_aload_n hC dX5_byImage_22 rfl 3 rfl ?_
  refine r_iload_n hC dX5_byImage_23 rfl 1 rfl ?_
  refine r_SR hC hAo [va_rf x1, .int v1] cal_X5_numberPairs ml_X5_65 rfl (c_X5_numberPairs G _ _ _ _ _ h) ⟨by decide, by decide⟩ ⟨by decide, by decide⟩ (by simp only [List.map_nil, List.map_cons, List.sum_nil, List.sum_cons, cat_rf, cat_i, cat_j]; decide) rfl dX5_byImage_24 (fun E u hx9 => hx _ _ _ _ _ _ _ (by decide) (by decide) hx9) (fun v24 ph24 h => ?_)
  refine RR.wid (k' := 3) (n' := 147) (by decide) (by decide) ?_
  refine r_astore (i := 4) (lv' := [(4, va_rf v24), (3, va_rf (some a5)), (2, .int v1), (0, va_rf x0), (1, va_rf x1)]) hC dX5_byImage_27 (by decide) (by first | rfl | simp [lvs1, lvs2, List.filter, cat_rf, cat_i, cat_j]) ?_
  refine r_iconst (v := 0) hC dX5_byImage_29 (by decide) ?_
  refine r_istore (i := 5) (lv' := [(5, .int (0 : Int32)), (4, va_rf v24), (3, va_rf (some a5)), (2, .int v1), (0, va_rf x0), (1, va_rf x1)]) hC dX5_byImage_30 (by decide) (by first | rfl | simp [lvs1, lvs2, List.filter, cat_rf, cat_i, cat_j]) ?_
  obtain ⟨fu32, h⟩ := h
  exact RR.wid (by decide) (by decide) (RR.sub [4, 5, 2, 1, 0] rfl (b_X5_byImage_32 hC hAo hr hx hn hnw hnx hi  fu32 _ _ _ _ _ _ h))
set_option maxRecDepth 20000 in
theorem c_X11_image (G : GG) (x0 : Nat) (x1 : Int32) (x2 : Int32) (ph : PH) (Q : Int32 → PH → Prop) (X : String → PH → Prop) (h : w_X11_image x0 x1 x2 ph Q X) : Ct G yX11_image (.code yX11_image cX11_image 6 (some (.int))) 7 125 6 165 [va_rf (some x0), .int x1, .int x2] ph (oI Q) X := by
  refine ct_of (lv0 := [(0, va_rf (some x0)), (1, .int x1), (2, .int x2)]) (by decide +kernel) (by simp [lg_sl, cat_rf, cat_i, cat_j]) (by simp [lv_args, cat_rf, cat_i, cat_j]) ?_
  intro C A hC hAo hex hrt hnm
  have hr : HI C (ZM C G A (oI Q) X 6 165) A G 6 cX11_image 6 165 Q := fun pc lv v ph k n d hk hn hq => e_i hC hrt pc lv v ph k n d hk hn ⟨v, rfl, hq⟩
  have hx := e_x (Q := oI Q) (X := X) (mc := 6) (ms := 165) hC hex
  have hn := e_n (Q := oI Q) (X := X) (mc := 6) (ms := 165) hC hex
  have hnw := e_nw (Q := oI Q) (X := X) (mc := 6) (ms := 165) hC hex
  have hnx := e_nx (Q := oI Q) (X := X) (mc := 6) (ms := 165) hC hex
  have hi : True := trivial
  generalize ZM C G A (oI Q) X 6 165 = Z at *
  refine r_aload_n hC dX11_image_0 rfl 0 rfl ?_
  refine r_iload_n hC dX11_image_1 rfl 1 rfl ?_
  obtain ⟨a2, o2, h⟩ := h
  refine r_VR hC hAo [.int x1] cal_X11_codeAt ml_X11_239 (ci := 12) rfl rfl rfl (c_X11_codeAt G _ _ _ _ _ h) o2 ⟨by decide, by decide⟩ ⟨by decide, by decide⟩ (by simp only [List.map_nil, List.map_cons, List.sum_nil, List.sum_cons, cat_rf, cat_i, cat_j]; decide) rfl dX11_image_2 (fun E u hx9 => hx _ _ _ _ _ _ _ (by decide) (by decide) hx9) (fun v2 ph2 h => ?_)
  refine RR.wid (k' := 1) (n' := 6) (by decide) (by decide) ?_
  refine r_astore_n (i := 3) (lv' := [(3, va_rf v2), (0, va_rf (some x0)), (1, .int x1), (2, .int x2)]) hC dX11_image_5 rfl (by decide) (by first | rfl | simp [lvs1, lvs2, List.filter, cat_rf, cat_i, cat_j]) ?_
  refine r_aload_n hC dX11_image_6 rfl 1 rfl ?_
  refine r_iload_n hC dX11_image_7 rfl 3 rfl ?_
  obtain ⟨a8, o8, h⟩ := h
  refine r_VR hC hAo [.int x2] cal_X11_shiftAt ml_X11_110 (ci := 12) rfl rfl rfl (c_X11_shiftAt G _ _ _ _ _ h) o8 ⟨by decide, by decide⟩ ⟨by decide, by decide⟩ (by simp only [List.map_nil, List.map_cons, List.sum_nil, List.sum_cons, cat_rf, cat_i, cat_j]; decide) rfl dX11_image_8 (fun E u hx9 => hx _ _ _ _ _ _ _ (by decide) (by decide) hx9) (fun v8 ph8 h => ?_)
  refine RR.wid (k' := 2) (n' := 12) (by decide) (by decide) ?_
  refine r_astore (i := 4) (lv' := [(4, va_rf v8), (3, va_rf v2), (0, va_rf (some x0)), (1, .int x1), (2, .int x2)]) hC dX11_image_11 (by decide) (by first | rfl | simp [lvs1, lvs2, List.filter, cat_rf, cat_i, cat_j]) ?_
  refine r_aload_n hC dX11_image_13 rfl 1 rfl ?_
  obtain ⟨v14, g14, h⟩ := h
  refine r_get hC (ci := 4) (kf := 0) (N := 2) (Cn := RX1) (T := TX1) rfl (by decide) tin_X1 fl_X11_256 rfl dX11_image_14 g14 ?_
  refine r_aload hC dX11_image_17 0 rfl ?_
  obtain ⟨v19, g19, h⟩ := h
  refine r_get hC (ci := 6) (kf := 1) (N := 3) (Cn := RX3) (T := TX3) rfl (by decide) tin_X3 fl_X11_170 rfl dX11_image_19 g19 ?_
  refine r_icmp_eq (tgt := 35) hC dX11_image_22 (by decide) (fun c9 => ?_) (fun c9 => ?_)
  · have h := h.1 c9
    refine r_aload hC dX11_image_35 0 rfl ?_
    refine r_aload hC dX11_image_37 0 rfl ?_
    obtain ⟨a39, o39, h⟩ := h
    refine r_VI hC hAo [] cal_X3_liveSet ml_X11_156 (ci := 6) rfl rfl rfl (c_X3_liveSet G _ _ _ _ h) o39 ⟨by decide, by decide⟩ ⟨by decide, by decide⟩ (by simp only [List.map_nil, List.map_cons, List.sum_nil, List.sum_cons, cat_rf, cat_i, cat_j]; decide) rfl dX11_image_39 (fun E u hx9 => hx _ _ _ _ _ _ _ (by decide) (by decide) hx9) (fun v39 ph39 h => ?_)
    refine RR.wid (k' := 2) (n' := 12) (by decide) (by decide) ?_
    refine r_SI hC hAo [va_rf v8, .int v39] cal_X5_countPairs ml_X11_266 rfl (c_X5_countPairs G _ _ _ _ _ h) ⟨by decide, by decide⟩ ⟨by decide, by decide⟩ (by simp only [List.map_nil, List.map_cons, List.sum_nil, List.sum_cons, cat_rf, cat_i, cat_j]; decide) rfl dX11_image_42 (fun E u hx9 => hx _ _ _ _ _ _ _ (by decide) (by decide) hx9) (fun v42 ph42 h => ?_)
    refine RR.wid (k' := 2) (n' := 12) (by decide) (by decide) ?_
    refine r_istore (i := 5) (lv' := [(5, .int v42), (4, va_rf v8), (3, va_rf v2), (0, va_rf (some x0)), (1, .int x1), (2, .int x2)]) hC dX11_image_45 (by decide) (by first | rfl | simp [lvs1, lvs2, List.filter, cat_rf, cat_i, cat_j]) ?_
    refine r_iload hC dX11_image_47 0 rfl ?_
    refine r_iconst (v := 1) hC dX11_image_49 (by decide) ?_
    refine r_icmp_lt (tgt := 60) hC dX11_image_50 (by decide) (fun c9 => ?_) (fun c9 => ?_)
    · have h := h.1 c9
      exact hnw _ _ _ _ _ _ _ _ _ _ _ _ 19 th_X11_142_146 rfl dX11_image_60 dX11_image_63 dX11_image_64 dX11_image_67 dX11_image_70 (by decide) (by simp only [List.map_nil, List.map_cons, List.sum_nil, List.sum_cons, cat_rf, cat_i, cat_j]; decide) (by decide) (by decide) (by decide) (by decide) h
    · have h := h.2 c9
      refine r_iload hC dX11_image_53 0 rfl ?_
      refine r_bipush (v := 24) hC dX11_image_55 (by decide) ?_
      refine r_icmp_le (tgt := 71) hC dX11_image_57 (by decide) (fun c9 => ?_) (fun c9 => ?_)
      · have h := h.1 c9
        refine r_aload_n hC dX11_image_71 rfl 3 rfl ?_
        obtain ⟨a72, o72, h⟩ := h
        refine r_VV hC hAo [] cal_X11_demandRoomForShift ml_X11_100 (ci := 12) rfl rfl rfl (c_X11_demandRoomForShift G _ _ _ _ h) o72 ⟨by decide, by decide⟩ ⟨by decide, by decide⟩ (by simp only [List.map_nil, List.map_cons, List.sum_nil, List.sum_cons, cat_rf, cat_i, cat_j]; decide) rfl dX11_image_72 (fun E u hx9 => hx _ _ _ _ _ _ _ (by decide) (by decide) hx9) (fun ph72 h => ?_)
        refine RR.wid (k' := 3) (n' := 18) (by decide) (by decide) ?_
        refine r_aload_n hC dX11_image_75 rfl 3 rfl ?_
        refine r_aload_n hC dX11_image_76 rfl 2 rfl ?_
        refine r_aload hC dX11_image_77 1 rfl ?_
        refine r_SR hC hAo [va_rf v2, va_rf v8] cal_X5_byImage ml_X11_271 rfl (c_X5_byImage G _ _ _ _ _ h) ⟨by decide, by decide⟩ ⟨by decide, by decide⟩ (by simp only [List.map_nil, List.map_cons, List.sum_nil, List.sum_cons, cat_rf, cat_i, cat_j]; decide) rfl dX11_image_79 (fun E u hx9 => hx _ _ _ _ _ _ _ (by decide) (by decide) hx9) (fun v79 ph79 h => ?_)
        refine RR.wid (k' := 6) (n' := 165) (by decide) (by decide) ?_
        obtain ⟨a82, o82, h⟩ := h
        refine r_VI hC hAo [va_rf v79] cal_X11_addShift ml_X11_106 (ci := 12) rfl rfl rfl (c_X11_addShift G _ _ _ _ _ h) o82 ⟨by decide, by decide⟩ ⟨by decide, by decide⟩ (by simp only [List.map_nil, List.map_cons, List.sum_nil, List.sum_cons, cat_rf, cat_i, cat_j]; decide) rfl dX11_image_82 (fun E u hx9 => hx _ _ _ _ _ _ _ (by decide) (by decide) hx9) (fun v82 ph82 h => ?_)
        refine RR.wid (k' := 6) (n' := 165) (by decide) (by decide) ?_
        exact hr _ _ _ _ _ _ dX11_image_85 (by decide) (by decide) h
      · have h := h.2 c9
        exact hnw _ _ _ _ _ _ _ _ _ _ _ _ 19 th_X11_142_146 rfl dX11_image_60 dX11_image_63 dX11_image_64 dX11_image_67 dX11_image_70 (by decide) (by simp only [List.map_nil, List.map_cons, List.sum_nil, List.sum_cons, cat_rf, cat_i, cat_j]; decide) (by decide) (by decide) (by decide) (by decide) h
  · have h := h.2 c9
    exact hn _ _ _ _ _ _ _ _ _ _ _ _ 11 th_X11_142_146 rfl dX11_image_25 dX11_image_28 dX11_image_29 dX11_image_31 dX11_image_34 (by decide) (by simp only [List.map_nil, List.map_cons, List.sum_nil, List.sum_cons, cat_rf, cat_i, cat_j]; decide) (by decide) (by decide) (by decide) (by decide) h
set_option maxRecDepth 20000 in
theorem c_X11_matrix (G : GG) (x0 : Nat) (x1 : Int32) (x2 : Int32) (ph : PH) (Q : Int32 → PH → Prop) (X : String → PH → Prop) (h : w_X11_matrix x0 x1 x2 ph Q X) : Ct G yX11_matrix (.code yX11_matrix cX11_matrix 4 (some (.int))) 7 112 4 159 [va_rf (some x0), .int x1, .int x2] ph (oI Q) X := by
  refine ct_of (lv0 := [(0, va_rf (some x0)), (1, .int x1), (2, .int x2)]) (by decide +kernel) (by simp [lg_sl, cat_rf, cat_i, cat_j]) (by simp [lv_args, cat_rf, cat_i, cat_j]) ?_
  intro C A hC hAo hex hrt hnm
  have hr : HI C (ZM C G A (oI Q) X 4 159) A G 4 cX11_matrix 4 159 Q := fun pc lv v ph k n d hk hn hq => e_i hC hrt pc lv v ph k n d hk hn ⟨v, rfl, hq⟩
  have hx := e_x (Q := oI Q) (X := X) (mc := 4) (ms := 159) hC hex
  have hn := e_n (Q := oI Q) (X := X) (mc := 4) (ms := 159) hC hex
  have hnw := e_nw (Q := oI Q) (X := X) (mc := 4) (ms := 159) hC hex
  have hnx := e_nx (Q := oI Q) (X := X) (mc := 4) (ms := 159) hC hex
  have hi : True := trivial
  generalize ZM C G A (oI Q) X 4 159 = Z at *
  refine r_iload_n hC dX11_matrix_0 rfl 1 rfl ?_
  refine r_iconst (v := 1) hC dX11_matrix_1 (by decide) ?_
  refine r_iconst (v := 5) hC dX11_matrix_2 (by decide) ?_
  refine r_SV hC hAo [.int x1, .int (1 : Int32), .int (5 : Int32)] cal_X11_demandRange ml_X11_96 rfl (c_X11_demandRange G _ _ _ _ _ _ h) ⟨by decide, by decide⟩ ⟨by decide, by decide⟩ (by simp only [List.map_nil, List.map_cons, List.sum_nil, List.sum_cons, cat_rf, cat_i, cat_j]; decide) rfl dX11_matrix_3 (fun E u hx9 => hx _ _ _ _ _ _ _ (by decide) (by decide) hx9) (fun ph3 h => ?_)
  refine RR.wid (k' := 1) (n' := 6) (by decide) (by decide) ?_
  refine r_iload_n hC dX11_matrix_6 rfl 2 rfl ?_
  refine r_iconst (v := 1) hC dX11_matrix_7 (by decide) ?_
  refine r_iconst (v := 5) hC dX11_matrix_8 (by decide) ?_
  refine r_SV hC hAo [.int x2, .int (1 : Int32), .int (5 : Int32)] cal_X11_demandRange ml_X11_96 rfl (c_X11_demandRange G _ _ _ _ _ _ h) ⟨by decide, by decide⟩ ⟨by decide, by decide⟩ (by simp only [List.map_nil, List.map_cons, List.sum_nil, List.sum_cons, cat_rf, cat_i, cat_j]; decide) rfl dX11_matrix_9 (fun E u hx9 => hx _ _ _ _ _ _ _ (by decide) (by decide) hx9) (fun ph9 h => ?_)
  refine RR.wid (k' := 2) (n' := 12) (by decide) (by decide) ?_
  refine r_aload_n hC dX11_matrix_12 rfl 0 rfl ?_
  obtain ⟨v13, g13, h⟩ := h
  refine r_get hC (ci := 12) (kf := 6) (N := 12) (Cn := RX11) (T := TX11) rfl (by decide) tin_X11 fl_X11_279 rfl dX11_matrix_13 g13 ?_
  refine r_if_lt (tgt := 31) hC dX11_matrix_16 (by decide) (fun c9 => ?_) (fun c9 => ?_)
  · have h := h.1 c9
    exact hnw _ _ _ _ _ _ _ _ _ _ _ _ 20 th_X11_84_88 rfl dX11_matrix_31 dX11_matrix_34 dX11_matrix_35 dX11_matrix_38 dX11_matrix_41 (by decide) (by simp only [List.map_nil, List.map_cons, List.sum_nil, List.sum_cons, cat_rf, cat_i, cat_j]; decide) (by decide) (by decide) (by decide) (by decide) h
  · have h := h.2 c9
    refine r_aload_n hC dX11_matrix_19 rfl 0 rfl ?_
    obtain ⟨v20, g20, h⟩ := h
    refine r_get hC (ci := 12) (kf := 6) (N := 12) (Cn := RX11) (T := TX11) rfl (by decide) tin_X11 fl_X11_279 rfl dX11_matrix_20 g20 ?_
    refine r_aload_n hC dX11_matrix_23 rfl 0 rfl ?_
    obtain ⟨v24, g24, h⟩ := h
    refine r_get hC (ci := 12) (kf := 5) (N := 12) (Cn := RX11) (T := TX11) rfl (by decide) tin_X11 fl_X11_30 rfl dX11_matrix_24 g24 ?_
    obtain ⟨v27, g27, h⟩ := h
    refine r_alen hC dX11_matrix_27 g27 ?_
    refine r_icmp_lt (tgt := 42) hC dX11_matrix_28 (by decide) (fun c9 => ?_) (fun c9 => ?_)
    · have h := h.1 c9
      refine r_new hC (ci := 9) (N := 3) (Cn := RX8) (T := TX8) (ty := tyX8) (fs := [.int 0, .int 0, .null]) 109 (by decide) rfl tin_X8 tyX8_ok tb_165 tb_228 tb_106 rfl (fun j hj => by rcases (show j = 0 ∨ j = 1 ∨ j = 2 by omega) with rfl | rfl | rfl <;> rfl) (by decide) (by decide) dX11_matrix_42 (fun a42 f42 => ?_)
      have h := h a42 _ f42 rfl
      refine r_dup hC dX11_matrix_45 (by first | rfl | exact cat_rf _) ?_
      obtain ⟨a46, o46, h⟩ := h
      refine r_IV hC hAo [] cal_X8_init ml_X11_284 rfl o46 (c_X8_init G _ _ _ _ h) ⟨by decide, by decide⟩ ⟨by decide, by decide⟩ (by simp only [List.map_nil, List.map_cons, List.sum_nil, List.sum_cons, cat_rf, cat_i, cat_j]; decide) rfl dX11_matrix_46 (fun E u hx9 => hx _ _ _ _ _ _ _ (by decide) (by decide) hx9) (fun ph46 h => ?_)
      refine RR.wid (k' := 4) (n' := 159) (by decide) (by decide) ?_
      refine r_astore_n (i := 3) (lv' := [(3, va_rf (some a42)), (0, va_rf (some x0)), (1, .int x1), (2, .int x2)]) hC dX11_matrix_49 rfl (by decide) (by first | rfl | simp [lvs1, lvs2, List.filter, cat_rf, cat_i, cat_j]) ?_
      refine r_aload_n hC dX11_matrix_50 rfl 0 rfl ?_
      refine r_iload_n hC dX11_matrix_51 rfl 2 rfl ?_
      refine r_iload_n hC dX11_matrix_52 rfl 3 rfl ?_
      obtain ⟨a53, o53, h⟩ := h
      refine r_VV hC hAo [.int x1, .int x2] cal_X8_reshape ml_X11_285 (ci := 9) rfl rfl rfl (c_X8_reshape G _ _ _ _ _ _ h) o53 ⟨by decide, by decide⟩ ⟨by decide, by decide⟩ (by simp only [List.map_nil, List.map_cons, List.sum_nil, List.sum_cons, cat_rf, cat_i, cat_j]; decide) rfl dX11_matrix_53 (fun E u hx9 => hx _ _ _ _ _ _ _ (by decide) (by decide) hx9) (fun ph53 h => ?_)
      refine RR.wid (k' := 4) (n' := 159) (by decide) (by decide) ?_
      refine r_aload_n hC dX11_matrix_56 rfl 1 rfl ?_
      obtain ⟨v57, g57, h⟩ := h
      refine r_get hC (ci := 12) (kf := 5) (N := 12) (Cn := RX11) (T := TX11) rfl (by decide) tin_X11 fl_X11_30 rfl dX11_matrix_57 g57 ?_
      refine r_aload_n hC dX11_matrix_60 rfl 1 rfl ?_
      obtain ⟨v61, g61, h⟩ := h
      refine r_get hC (ci := 12) (kf := 6) (N := 12) (Cn := RX11) (T := TX11) rfl (by decide) tin_X11 fl_X11_279 rfl dX11_matrix_61 g61 ?_
      refine r_aload_n hC dX11_matrix_64 rfl 0 rfl ?_
      obtain ⟨ph65, g65, h⟩ := h
      refine r_aast hC dX11_matrix_65 g65 ?_
      refine r_aload_n hC dX11_matrix_66 rfl 1 rfl ?_
      refine r_dup hC dX11_matrix_67 (by first | rfl | exact cat_rf _) ?_
      obtain ⟨v68, g68, h⟩ := h
      refine r_get hC (ci := 12) (kf := 6) (N := 12) (Cn := RX11) (T := TX11) rfl (by decide) tin_X11 fl_X11_279 rfl dX11_matrix_68 g68 ?_
      refine r_iconst (v := 1) hC dX11_matrix_71 (by decide) ?_
      refine r_iadd hC dX11_matrix_72 ?_
      obtain ⟨ph73, g73, h⟩ := h
      refine r_put hC (ci := 12) (kf := 6) (N := 12) (Cn := RX11) (T := TX11) (ty := .int) (ty0 := tyX11) rfl (by decide) tin_X11 tyX11_ok nmX11 fl_X11_279 rfl rfl (by decide +kernel) rfl rfl dX11_matrix_73 g73 ?_
      refine r_aload_n hC dX11_matrix_76 rfl 1 rfl ?_
      obtain ⟨v77, g77, h⟩ := h
      refine r_get hC (ci := 12) (kf := 6) (N := 12) (Cn := RX11) (T := TX11) rfl (by decide) tin_X11 fl_X11_279 rfl dX11_matrix_77 g77 ?_
      refine r_iconst (v := 1) hC dX11_matrix_80 (by decide) ?_
      refine r_isub hC dX11_matrix_81 ?_
      exact hr _ _ _ _ _ _ dX11_matrix_82 (by decide) (by decide) h
    · have h := h.2 c9
      exact hnw _ _ _ _ _ _ _ _ _ _ _ _ 20 th_X11_84_88 rfl dX11_matrix_31 dX11_matrix_34 dX11_matrix_35 dX11_matrix_38 dX11_matrix_41 (by decide) (by simp only [List.map_nil, List.map_cons, List.sum_nil, List.sum_cons, cat_rf, cat_i, cat_j]; decide) (by decide) (by decide) (by decide) (by decide) h
set_option maxRecDepth 20000 in
theorem b_X11_matrixAt_31 {C : Cx} {Z : State → Prop} {A : Nat → Prop} {G : GG} {Q : Option Nat → PH → Prop} {X : String → PH → Prop} (hC : CxOk RX11 cX11_matrixAt 3 G A (rmk 6 90 1 6) C) (hAo : Ao (xs C)) (hr : HA C Z A G 3 cX11_matrixAt 1 6 Q) (hx : HX C Z A G 3 1 6 X) (hn : HN C Z A G 3 RX11 cX11_matrixAt 1 6 (rmk 6 90 1 6) X) (hnw : HNW C Z A G 3 RX11 cX11_matrixAt 1 6 (rmk 6 90 1 6) X) (hnx : HNX C Z A G 3 RX11 cX11_matrixAt 1 6 (rmk 6 90 1 6) X) (hi : True) : ∀ (s0 : Option Nat) (ph : PH), w_X11_matrixAt_31 Q X s0 ph → RR C Z A G 3 31 [] [va_rf s0] ph 0 0 := by
  intro s0 ph h
  refine r_astore_n (i := 2) (lv' := [(2, va_rf s0)]) hC dX11_matrixAt_31 rfl (by decide) (by first | rfl | simp [lvs1, lvs2, List.filter, cat_rf, cat_i, cat_j]) ?_
  refine r_aload_n hC dX11_matrixAt_32 rfl 0 rfl ?_
  refine r_ifnonnull (tgt := 47) hC dX11_matrixAt_33 (by decide) (fun c9 => ?_) (fun c9 => ?_)
  · have h := h.1 c9
    refine r_aload_n hC dX11_matrixAt_47 rfl 0 rfl ?_
    exact hr _ _ _ _ _ _ dX11_matrixAt_48 (by decide) (by decide) h
  · have h := h.2 c9
    exact hnw _ _ _ _ _ _ _ _ _ _ _ _ 21 th_X11_424_428 rfl dX11_matrixAt_36 dX11_matrixAt_39 dX11_matrixAt_40 dX11_matrixAt_43 dX11_matrixAt_46 (by decide) (by simp only [List.map_nil, List.map_cons, List.sum_nil, List.sum_cons, cat_rf, cat_i, cat_j]; decide) (by decide) (by decide) (by decide) (by decide) h
set_option maxRecDepth 20000 in
theorem c_X11_matrixAt (G : GG) (x0 : Nat) (x1 : Int32) (ph : PH) (Q : Option Nat → PH → Prop) (X : String → PH → Prop) (h : w_X11_matrixAt x0 x1 ph Q X) : Ct G yX11_matrixAt (.code yX11_matrixAt cX11_matrixAt 3 (some (.object "Shiftgate$Table"))) 6 90 1 6 [va_rf (some x0), .int x1] ph (oR Q) X := by
  refine ct_of (lv0 := [(0, va_rf (some x0)), (1, .int x1)]) (by decide +kernel) (by simp [lg_sl, cat_rf, cat_i, cat_j]) (by simp [lv_args, cat_rf, cat_i, cat_j]) ?_
  intro C A hC hAo hex hrt hnm
  have hr : HA C (ZM C G A (oR Q) X 1 6) A G 3 cX11_matrixAt 1 6 Q := fun pc lv v ph k n d hk hn hq => e_a hC (cn := "Shiftgate$Table") (Or.inl hrt) pc lv v ph k n d hk hn ⟨v, rfl, hq⟩
  have hx := e_x (Q := oR Q) (X := X) (mc := 1) (ms := 6) hC hex
  have hn := e_n (Q := oR Q) (X := X) (mc := 1) (ms := 6) hC hex
  have hnw := e_nw (Q := oR Q) (X := X) (mc := 1) (ms := 6) hC hex
  have hnx := e_nx (Q := oR Q) (X := X) (mc := 1) (ms := 6) hC hex
  have hi : True := trivial
  generalize ZM C G A (oR Q) X 1 6 = Z at *
  refine r_iload_n hC dX11_matrixAt_0 rfl 1 rfl ?_
  refine r_if_lt (tgt := 30) hC dX11_matrixAt_1 (by decide) (fun c9 => ?_) (fun c9 => ?_)
  · have h := h.1 c9
    refine r_null hC dX11_matrixAt_30 ?_
    refine RR.to (st' := [va_rf none]) rfl ?_
    exact RR.wid (by decide) (by decide) (RR.sub [] rfl (b_X11_matrixAt_31 hC hAo hr hx hn hnw hnx hi  _ _ h))
  · have h := h.2 c9
    refine r_iload_n hC dX11_matrixAt_4 rfl 1 rfl ?_
    refine r_aload_n hC dX11_matrixAt_5 rfl 0 rfl ?_
    obtain ⟨v6, g6, h⟩ := h
    refine r_get hC (ci := 12) (kf := 6) (N := 12) (Cn := RX11) (T := TX11) rfl (by decide) tin_X11 fl_X11_279 rfl dX11_matrixAt_6 g6 ?_
    refine r_icmp_ge (tgt := 30) hC dX11_matrixAt_9 (by decide) (fun c9 => ?_) (fun c9 => ?_)
    · have h := h.1 c9
      refine r_null hC dX11_matrixAt_30 ?_
      refine RR.to (st' := [va_rf none]) rfl ?_
      exact RR.wid (by decide) (by decide) (RR.sub [] rfl (b_X11_matrixAt_31 hC hAo hr hx hn hnw hnx hi  _ _ h))
    · have h := h.2 c9
      refine r_iload_n hC dX11_matrixAt_12 rfl 1 rfl ?_
      refine r_aload_n hC dX11_matrixAt_13 rfl 0 rfl ?_
      obtain ⟨v14, g14, h⟩ := h
      refine r_get hC (ci := 12) (kf := 5) (N := 12) (Cn := RX11) (T := TX11) rfl (by decide) tin_X11 fl_X11_30 rfl dX11_matrixAt_14 g14 ?_
      obtain ⟨v17, g17, h⟩ := h
      refine r_alen hC dX11_matrixAt_17 g17 ?_
      refine r_icmp_ge (tgt := 30) hC dX11_matrixAt_18 (by decide) (fun c9 => ?_) (fun c9 => ?_)
      · have h := h.1 c9
        refine r_null hC dX11_matrixAt_30 ?_
        refine RR.to (st' := [va_rf none]) rfl ?_
        exact RR.wid (by decide) (by decide) (RR.sub [] rfl (b_X11_matrixAt_31 hC hAo hr hx hn hnw hnx hi  _ _ h))
      · have h := h.2 c9
        refine r_aload_n hC dX11_matrixAt_21 rfl 0 rfl ?_
        obtain ⟨v22, g22, h⟩ := h
        refine r_get hC (ci := 12) (kf := 5) (N := 12) (Cn := RX11) (T := TX11) rfl (by decide) tin_X11 fl_X11_30 rfl dX11_matrixAt_22 g22 ?_
        refine r_iload_n hC dX11_matrixAt_25 rfl 1 rfl ?_
        obtain ⟨v26, g26, h⟩ := h
        refine r_aald hC dX11_matrixAt_26 g26 ?_
        refine r_goto (tgt := 31) hC dX11_matrixAt_27 (by decide) ?_
        exact RR.wid (by decide) (by decide) (RR.sub [] rfl (b_X11_matrixAt_31 hC hAo hr hx hn hnw hnx hi  _ _ h))
set_option maxRecDepth 20000 in
theorem c_X11_demandCell (G : GG) (x0 : Option Nat) (x1 : Int32) (x2 : Int32) (ph : PH) (Q : PH → Prop) (X : String → PH → Prop) (h : w_X11_demandCell x0 x1 x2 ph Q X) : Ct G yX11_demandCell (.code yX11_demandCell cX11_demandCell 3 none) 6 90 1 6 [va_rf x0, .int x1, .int x2] ph (oV Q) X := by
  refine ct_of (lv0 := [(0, va_rf x0), (1, .int x1), (2, .int x2)]) (by decide +kernel) (by simp [lg_sl, cat_rf, cat_i, cat_j]) (by simp [lv_args, cat_rf, cat_i, cat_j]) ?_
  intro C A hC hAo hex hrt hnm
  have hr : HV C (ZM C G A (oV Q) X 1 6) A G 3 cX11_demandCell 1 6 Q := fun pc lv ph k n d hk hn hq => e_v hC hrt pc lv ph k n d hk hn ⟨rfl, hq⟩
  have hx := e_x (Q := oV Q) (X := X) (mc := 1) (ms := 6) hC hex
  have hn := e_n (Q := oV Q) (X := X) (mc := 1) (ms := 6) hC hex
  have hnw := e_nw (Q := oV Q) (X := X) (mc := 1) (ms := 6) hC hex
  have hnx := e_nx (Q := oV Q) (X := X) (mc := 1) (ms := 6) hC hex
  have hi : True := trivial
  generalize ZM C G A (oV Q) X 1 6 = Z at *
  refine r_iload_n hC dX11_demandCell_0 rfl 1 rfl ?_
  refine r_if_lt (tgt := 24) hC dX11_demandCell_1 (by decide) (fun c9 => ?_) (fun c9 => ?_)
  · have h := h.1 c9
    exact hnw _ _ _ _ _ _ _ _ _ _ _ _ 22 th_X11_424_428 rfl dX11_demandCell_24 dX11_demandCell_27 dX11_demandCell_28 dX11_demandCell_31 dX11_demandCell_34 (by decide) (by simp only [List.map_nil, List.map_cons, List.sum_nil, List.sum_cons, cat_rf, cat_i, cat_j]; decide) (by decide) (by decide) (by decide) (by decide) h
  · have h := h.2 c9
    refine r_iload_n hC dX11_demandCell_4 rfl 1 rfl ?_
    refine r_aload_n hC dX11_demandCell_5 rfl 0 rfl ?_
    obtain ⟨v6, g6, h⟩ := h
    refine r_get hC (ci := 9) (kf := 0) (N := 3) (Cn := RX8) (T := TX8) rfl (by decide) tin_X8 fl_X11_309 rfl dX11_demandCell_6 g6 ?_
    refine r_icmp_ge (tgt := 24) hC dX11_demandCell_9 (by decide) (fun c9 => ?_) (fun c9 => ?_)
    · have h := h.1 c9
      exact hnw _ _ _ _ _ _ _ _ _ _ _ _ 22 th_X11_424_428 rfl dX11_demandCell_24 dX11_demandCell_27 dX11_demandCell_28 dX11_demandCell_31 dX11_demandCell_34 (by decide) (by simp only [List.map_nil, List.map_cons, List.sum_nil, List.sum_cons, cat_rf, cat_i, cat_j]; decide) (by decide) (by decide) (by decide) (by decide) h
    · have h := h.2 c9
      refine r_iload_n hC dX11_demandCell_12 rfl 2 rfl ?_
      refine r_if_lt (tgt := 24) hC dX11_demandCell_13 (by decide) (fun c9 => ?_) (fun c9 => ?_)
      · have h := h.1 c9
        exact hnw _ _ _ _ _ _ _ _ _ _ _ _ 22 th_X11_424_428 rfl dX11_demandCell_24 dX11_demandCell_27 dX11_demandCell_28 dX11_demandCell_31 dX11_demandCell_34 (by decide) (by simp only [List.map_nil, List.map_cons, List.sum_nil, List.sum_cons, cat_rf, cat_i, cat_j]; decide) (by decide) (by decide) (by decide) (by decide) h
      · have h := h.2 c9
        refine r_iload_n hC dX11_demandCell_16 rfl 2 rfl ?_
        refine r_aload_n hC dX11_demandCell_17 rfl 0 rfl ?_
        obtain ⟨v18, g18, h⟩ := h
        refine r_get hC (ci := 9) (kf := 1) (N := 3) (Cn := RX8) (T := TX8) rfl (by decide) tin_X8 fl_X11_437 rfl dX11_demandCell_18 g18 ?_
        refine r_icmp_lt (tgt := 35) hC dX11_demandCell_21 (by decide) (fun c9 => ?_) (fun c9 => ?_)
        · have h := h.1 c9
          exact hr _ _ _ _ _ dX11_demandCell_35 (by decide) (by decide) h
        · have h := h.2 c9
          exact hnw _ _ _ _ _ _ _ _ _ _ _ _ 22 th_X11_424_428 rfl dX11_demandCell_24 dX11_demandCell_27 dX11_demandCell_28 dX11_demandCell_31 dX11_demandCell_34 (by decide) (by simp only [List.map_nil, List.map_cons, List.sum_nil, List.sum_cons, cat_rf, cat_i, cat_j]; decide) (by decide) (by decide) (by decide) (by decide) h
set_option maxRecDepth 20000 in
theorem c_X11_put (G : GG) (x0 : Nat) (x1 : Int32) (x2 : Int32) (x3 : Int32) (x4 : Int32) (ph : PH) (Q : Int32 → PH → Prop) (X : String → PH → Prop) (h : w_X11_put x0 x1 x2 x3 x4 ph Q X) : Ct G yX11_put (.code yX11_put cX11_put 7 (some (.int))) 7 112 3 18 [va_rf (some x0), .int x1, .int x2, .int x3, .int x4] ph (oI Q) X := by
  refine ct_of (lv0 := [(0, va_rf (some x0)), (1, .int x1), (2, .int x2), (3, .int x3), (4, .int x4)]) (by decide +kernel) (by simp [lg_sl, cat_rf, cat_i, cat_j]) (by simp [lv_args, cat_rf, cat_i, cat_j]) ?_
  intro C A hC hAo hex hrt hnm
  have hr : HI C (ZM C G A (oI Q) X 3 18) A G 7 cX11_put 3 18 Q := fun pc lv v ph k n d hk hn hq => e_i hC hrt pc lv v ph k n d hk hn ⟨v, rfl, hq⟩
  have hx := e_x (Q := oI Q) (X := X) (mc := 3) (ms := 18) hC hex
  have hn := e_n (Q := oI Q) (X := X) (mc := 3) (ms := 18) hC hex
  have hnw := e_nw (Q := oI Q) (X := X) (mc := 3) (ms := 18) hC hex
  have hnx := e_nx (Q := oI Q) (X := X) (mc := 3) (ms := 18) hC hex
  have hi : True := trivial
  generalize ZM C G A (oI Q) X 3 18 = Z at *
  refine r_aload_n hC dX11_put_0 rfl 0 rfl ?_
  refine r_iload_n hC dX11_put_1 rfl 1 rfl ?_
  obtain ⟨a2, o2, h⟩ := h
  refine r_VR hC hAo [.int x1] cal_X11_matrixAt ml_X11_288 (ci := 12) rfl rfl rfl (c_X11_matrixAt G _ _ _ _ _ h) o2 ⟨by decide, by decide⟩ ⟨by decide, by decide⟩ (by simp only [List.map_nil, List.map_cons, List.sum_nil, List.sum_cons, cat_rf, cat_i, cat_j]; decide) rfl dX11_put_2 (fun E u hx9 => hx _ _ _ _ _ _ _ (by decide) (by decide) hx9) (fun v2 ph2 h => ?_)
  refine RR.wid (k' := 1) (n' := 6) (by decide) (by decide) ?_
  refine r_astore (i := 5) (lv' := [(5, va_rf v2), (0, va_rf (some x0)), (1, .int x1), (2, .int x2), (3, .int x3), (4, .int x4)]) hC dX11_put_5 (by decide) (by first | rfl | simp [lvs1, lvs2, List.filter, cat_rf, cat_i, cat_j]) ?_
  refine r_aload hC dX11_put_7 0 rfl ?_
  refine r_iload_n hC dX11_put_9 rfl 3 rfl ?_
  refine r_iload_n hC dX11_put_10 rfl 4 rfl ?_
  refine r_SV hC hAo [va_rf v2, .int x2, .int x3] cal_X11_demandCell ml_X11_292 rfl (c_X11_demandCell G _ _ _ _ _ _ h) ⟨by decide, by decide⟩ ⟨by decide, by decide⟩ (by simp only [List.map_nil, List.map_cons, List.sum_nil, List.sum_cons, cat_rf, cat_i, cat_j]; decide) rfl dX11_put_11 (fun E u hx9 => hx _ _ _ _ _ _ _ (by decide) (by decide) hx9) (fun ph11 h => ?_)
  refine RR.wid (k' := 2) (n' := 12) (by decide) (by decide) ?_
  refine r_iload hC dX11_put_14 5 rfl ?_
  refine r_iconst (v := 0) hC dX11_put_16 (by decide) ?_
  refine r_bipush (v := 9) hC dX11_put_17 (by decide) ?_
  refine r_SV hC hAo [.int x4, .int (0 : Int32), .int (9 : Int32)] cal_X11_demandRange ml_X11_96 rfl (c_X11_demandRange G _ _ _ _ _ _ h) ⟨by decide, by decide⟩ ⟨by decide, by decide⟩ (by simp only [List.map_nil, List.map_cons, List.sum_nil, List.sum_cons, cat_rf, cat_i, cat_j]; decide) rfl dX11_put_19 (fun E u hx9 => hx _ _ _ _ _ _ _ (by decide) (by decide) hx9) (fun ph19 h => ?_)
  refine RR.wid (k' := 3) (n' := 18) (by decide) (by decide) ?_
  refine r_aload hC dX11_put_22 0 rfl ?_
  refine r_iload_n hC dX11_put_24 rfl 3 rfl ?_
  refine r_iload_n hC dX11_put_25 rfl 4 rfl ?_
  obtain ⟨a26, o26, h⟩ := h
  refine r_VJ hC hAo [.int x2, .int x3] cal_X8_at ml_X11_296 (ci := 9) rfl rfl rfl (c_X8_at G _ _ _ _ _ _ h) o26 ⟨by decide, by decide⟩ ⟨by decide, by decide⟩ (by simp only [List.map_nil, List.map_cons, List.sum_nil, List.sum_cons, cat_rf, cat_i, cat_j]; decide) rfl dX11_put_26 (fun E u hx9 => hx _ _ _ _ _ _ _ (by decide) (by decide) hx9) (fun v26 ph26 h => ?_)
  refine RR.wid (k' := 3) (n' := 18) (by decide) (by decide) ?_
  refine r_l2i hC dX11_put_29 ?_
  refine r_istore (i := 6) (lv' := [(6, .int v26.toInt32), (5, va_rf v2), (0, va_rf (some x0)), (1, .int x1), (2, .int x2), (3, .int x3), (4, .int x4)]) hC dX11_put_30 (by decide) (by first | rfl | simp [lvs1, lvs2, List.filter, cat_rf, cat_i, cat_j]) ?_
  refine r_aload hC dX11_put_32 1 rfl ?_
  refine r_iload_n hC dX11_put_34 rfl 4 rfl ?_
  refine r_iload_n hC dX11_put_35 rfl 5 rfl ?_
  refine r_iload hC dX11_put_36 6 rfl ?_
  refine r_i2l hC dX11_put_38 ?_
  obtain ⟨a39, o39, h⟩ := h
  refine r_VV hC hAo [.int x2, .int x3, .long x4.toInt64] cal_X8_write ml_X11_299 (ci := 9) rfl rfl rfl (c_X8_write G _ _ _ _ _ _ _ h) o39 ⟨by decide, by decide⟩ ⟨by decide, by decide⟩ (by simp only [List.map_nil, List.map_cons, List.sum_nil, List.sum_cons, cat_rf, cat_i, cat_j]; decide) rfl dX11_put_39 (fun E u hx9 => hx _ _ _ _ _ _ _ (by decide) (by decide) hx9) (fun ph39 h => ?_)
  refine RR.wid (k' := 3) (n' := 18) (by decide) (by decide) ?_
  refine r_iload hC dX11_put_42 0 rfl ?_
  exact hr _ _ _ _ _ _ dX11_put_44 (by decide) (by decide) h
set_option maxRecDepth 20000 in
theorem c_X11_get (G : GG) (x0 : Nat) (x1 : Int32) (x2 : Int32) (x3 : Int32) (ph : PH) (Q : Int32 → PH → Prop) (X : String → PH → Prop) (h : w_X11_get x0 x1 x2 x3 ph Q X) : Ct G yX11_get (.code yX11_get cX11_get 5 (some (.int))) 7 112 2 12 [va_rf (some x0), .int x1, .int x2, .int x3] ph (oI Q) X := by
  refine ct_of (lv0 := [(0, va_rf (some x0)), (1, .int x1), (2, .int x2), (3, .int x3)]) (by decide +kernel) (by simp [lg_sl, cat_rf, cat_i, cat_j]) (by simp [lv_args, cat_rf, cat_i, cat_j]) ?_
  intro C A hC hAo hex hrt hnm
  have hr : HI C (ZM C G A (oI Q) X 2 12) A G 5 cX11_get 2 12 Q := fun pc lv v ph k n d hk hn hq => e_i hC hrt pc lv v ph k n d hk hn ⟨v, rfl, hq⟩
  have hx := e_x (Q := oI Q) (X := X) (mc := 2) (ms := 12) hC hex
  have hn := e_n (Q := oI Q) (X := X) (mc := 2) (ms := 12) hC hex
  have hnw := e_nw (Q := oI Q) (X := X) (mc := 2) (ms := 12) hC hex
  have hnx := e_nx (Q := oI Q) (X := X) (mc := 2) (ms := 12) hC hex
  have hi : True := trivial
  generalize ZM C G A (oI Q) X 2 12 = Z at *
  refine r_aload_n hC dX11_get_0 rfl 0 rfl ?_
  refine r_iload_n hC dX11_get_1 rfl 1 rfl ?_
  obtain ⟨a2, o2, h⟩ := h
  refine r_VR hC hAo [.int x1] cal_X11_matrixAt ml_X11_288 (ci := 12) rfl rfl rfl (c_X11_matrixAt G _ _ _ _ _ h) o2 ⟨by decide, by decide⟩ ⟨by decide, by decide⟩ (by simp only [List.map_nil, List.map_cons, List.sum_nil, List.sum_cons, cat_rf, cat_i, cat_j]; decide) rfl dX11_get_2 (fun E u hx9 => hx _ _ _ _ _ _ _ (by decide) (by decide) hx9) (fun v2 ph2 h => ?_)
  refine RR.wid (k' := 1) (n' := 6) (by decide) (by decide) ?_
  refine r_astore (i := 4) (lv' := [(4, va_rf v2), (0, va_rf (some x0)), (1, .int x1), (2, .int x2), (3, .int x3)]) hC dX11_get_5 (by decide) (by first | rfl | simp [lvs1, lvs2, List.filter, cat_rf, cat_i, cat_j]) ?_
  refine r_aload hC dX11_get_7 0 rfl ?_
  refine r_iload_n hC dX11_get_9 rfl 3 rfl ?_
  refine r_iload_n hC dX11_get_10 rfl 4 rfl ?_
  refine r_SV hC hAo [va_rf v2, .int x2, .int x3] cal_X11_demandCell ml_X11_292 rfl (c_X11_demandCell G _ _ _ _ _ _ h) ⟨by decide, by decide⟩ ⟨by decide, by decide⟩ (by simp only [List.map_nil, List.map_cons, List.sum_nil, List.sum_cons, cat_rf, cat_i, cat_j]; decide) rfl dX11_get_11 (fun E u hx9 => hx _ _ _ _ _ _ _ (by decide) (by decide) hx9) (fun ph11 h => ?_)
  refine RR.wid (k' := 2) (n' := 12) (by decide) (by decide) ?_
  refine r_aload hC dX11_get_14 0 rfl ?_
  refine r_iload_n hC dX11_get_16 rfl 3 rfl ?_
  refine r_iload_n hC dX11_get_17 rfl 4 rfl ?_
  obtain ⟨a18, o18, h⟩ := h
  refine r_VJ hC hAo [.int x2, .int x3] cal_X8_at ml_X11_296 (ci := 9) rfl rfl rfl (c_X8_at G _ _ _ _ _ _ h) o18 ⟨by decide, by decide⟩ ⟨by decide, by decide⟩ (by simp only [List.map_nil, List.map_cons, List.sum_nil, List.sum_cons, cat_rf, cat_i, cat_j]; decide) rfl dX11_get_18 (fun E u hx9 => hx _ _ _ _ _ _ _ (by decide) (by decide) hx9) (fun v18 ph18 h => ?_)
  refine RR.wid (k' := 2) (n' := 12) (by decide) (by decide) ?_
  refine r_l2i hC dX11_get_21 ?_
  exact hr _ _ _ _ _ _ dX11_get_22 (by decide) (by decide) h
set_option maxRecDepth 20000 in
theorem c_X11_demandSquare (G : GG) (x0 : Option Nat) (ph : PH) (Q : PH → Prop) (X : String → PH → Prop) (h : w_X11_demandSquare x0 ph Q X) : Ct G yX11_demandSquare (.code yX11_demandSquare cX11_demandSquare 1 none) 6 90 1 6 [va_rf x0] ph (oV Q) X := by
  refine ct_of (lv0 := [(0, va_rf x0)]) (by decide +kernel) (by simp [lg_sl, cat_rf, cat_i, cat_j]) (by simp [lv_args, cat_rf, cat_i, cat_j]) ?_
  intro C A hC hAo hex hrt hnm
  have hr : HV C (ZM C G A (oV Q) X 1 6) A G 1 cX11_demandSquare 1 6 Q := fun pc lv ph k n d hk hn hq => e_v hC hrt pc lv ph k n d hk hn ⟨rfl, hq⟩
  have hx := e_x (Q := oV Q) (X := X) (mc := 1) (ms := 6) hC hex
  have hn := e_n (Q := oV Q) (X := X) (mc := 1) (ms := 6) hC hex
  have hnw := e_nw (Q := oV Q) (X := X) (mc := 1) (ms := 6) hC hex
  have hnx := e_nx (Q := oV Q) (X := X) (mc := 1) (ms := 6) hC hex
  have hi : True := trivial
  generalize ZM C G A (oV Q) X 1 6 = Z at *
  refine r_aload_n hC dX11_demandSquare_0 rfl 0 rfl ?_
  obtain ⟨v1, g1, h⟩ := h
  refine r_get hC (ci := 9) (kf := 0) (N := 3) (Cn := RX8) (T := TX8) rfl (by decide) tin_X8 fl_X11_309 rfl dX11_demandSquare_1 g1 ?_
  refine r_aload_n hC dX11_demandSquare_4 rfl 0 rfl ?_
  obtain ⟨v5, g5, h⟩ := h
  refine r_get hC (ci := 9) (kf := 1) (N := 3) (Cn := RX8) (T := TX8) rfl (by decide) tin_X8 fl_X11_437 rfl dX11_demandSquare_5 g5 ?_
  refine r_icmp_eq (tgt := 22) hC dX11_demandSquare_8 (by decide) (fun c9 => ?_) (fun c9 => ?_)
  · have h := h.1 c9
    exact hr _ _ _ _ _ dX11_demandSquare_22 (by decide) (by decide) h
  · have h := h.2 c9
    exact hnw _ _ _ _ _ _ _ _ _ _ _ _ 24 th_X11_142_146 rfl dX11_demandSquare_11 dX11_demandSquare_14 dX11_demandSquare_15 dX11_demandSquare_18 dX11_demandSquare_21 (by decide) (by simp only [List.map_nil, List.map_cons, List.sum_nil, List.sum_cons, cat_rf, cat_i, cat_j]; decide) (by decide) (by decide) (by decide) (by decide) h
set_option maxRecDepth 20000 in
theorem b_X8_splitAt_55 {C : Cx} {Z : State → Prop} {A : Nat → Prop} {G : GG} {Q : PH → Prop} {X : String → PH → Prop} (hC : CxOk RX8 cX8_splitAt 9 G A (rmk 2 48 0 0) C) (hAo : Ao (xs C)) (hr : HV C Z A G 9 cX8_splitAt 0 0 Q) (hx : HX C Z A G 9 0 0 X) (hn : HN C Z A G 9 RX8 cX8_splitAt 0 0 (rmk 2 48 0 0) X) (hnw : HNW C Z A G 9 RX8 cX8_splitAt 0 0 (rmk 2 48 0 0) X) (hnx : HNX C Z A G 9 RX8 cX8_splitAt 0 0 (rmk 2 48 0 0) X) (hi : True) : ∀ (fu : Nat) (x0 : Option Nat) (x1 : Int32) (x5 : Int32) (x8 : Int32) (ph : PH), w_X8_splitAt_55 Q X fu x0 x1 x5 x8 ph → RR C Z A G 9 55 [(0, va_rf x0), (1, .int x1), (5, .int x5), (8, .int x8)] [] ph 0 0 := by
  intro fu
  induction fu with
  | zero => intro x0 x1 x5 x8 ph h; exact h.elim
  | succ fu ih =>
    intro x0 x1 x5 x8 ph h
    refine r_iload hC dX8_splitAt_55 3 rfl ?_
    refine r_aload_n hC dX8_splitAt_57 rfl 0 rfl ?_
    obtain ⟨v58, g58, h⟩ := h
    refine r_get hC (ci := 9) (kf := 0) (N := 3) (Cn := RX8) (T := TX8) rfl (by decide) tin_X8 fl_X8_15 rfl dX8_splitAt_58 g58 ?_
    refine r_icmp_ge (tgt := 85) hC dX8_splitAt_61 (by decide) (fun c9 => ?_) (fun c9 => ?_)
    · have h := h.1 c9
      exact hr _ _ _ _ _ dX8_splitAt_85 (by decide) (by decide) h
    · have h := h.2 c9
      refine r_aload_n hC dX8_splitAt_64 rfl 0 rfl ?_
      refine r_iload hC dX8_splitAt_65 3 rfl ?_
      refine r_iload hC dX8_splitAt_67 2 rfl ?_
      refine r_aload_n hC dX8_splitAt_69 rfl 0 rfl ?_
      refine r_iload hC dX8_splitAt_70 3 rfl ?_
      refine r_iload_n hC dX8_splitAt_72 rfl 1 rfl ?_
      obtain ⟨a73, o73, h⟩ := h
      refine r_VJ hC hAo [.int x8, .int x1] cal_X8_at ml_X8_38 (ci := 9) rfl rfl rfl (c_X8_at G _ _ _ _ _ _ h) o73 ⟨by decide, by decide⟩ ⟨by decide, by decide⟩ (by simp only [List.map_nil, List.map_cons, List.sum_nil, List.sum_cons, cat_rf, cat_i, cat_j]; decide) rfl dX8_splitAt_73 (fun E u hx9 => hx _ _ _ _ _ _ _ (by decide) (by decide) hx9) (fun v73 ph73 h => ?_)
      refine RR.wid (k' := 0) (n' := 0) (by decide) (by decide) ?_
      obtain ⟨a76, o76, h⟩ := h
      refine r_VV hC hAo [.int x8, .int x5, .long v73] cal_X8_write ml_X8_46 (ci := 9) rfl rfl rfl (c_X8_write G _ _ _ _ _ _ _ h) o76 ⟨by decide, by decide⟩ ⟨by decide, by decide⟩ (by simp only [List.map_nil, List.map_cons, List.sum_nil, List.sum_cons, cat_rf, cat_i, cat_j]; decide) rfl dX8_splitAt_76 (fun E u hx9 => hx _ _ _ _ _ _ _ (by decide) (by decide) hx9) (fun ph76 h => ?_)
      refine RR.wid (k' := 0) (n' := 0) (by decide) (by decide) ?_
      refine r_iinc (w := 3) (v := x8 + 1) (lv' := [(8, .int (x8 + 1)), (0, va_rf x0), (1, .int x1), (5, .int x5)]) hC dX8_splitAt_79 rfl rfl (by decide) (by first | rfl | simp [lvs1, List.filter, cat_rf, cat_i, cat_j]) ?_
      refine r_goto (tgt := 55) hC dX8_splitAt_82 (by decide) ?_
      exact RR.wid (by decide) (by decide) (RR.sub [1, 2, 3, 0] rfl (ih _ _ _ _ _ h))
set_option maxRecDepth 20000 in
theorem c_X8_splitAt (G : GG) (x0 : Nat) (x1 : Int32) (x2 : Int32) (x3 : Int64) (ph : PH) (Q : PH → Prop) (X : String → PH → Prop) (h : w_X8_splitAt x0 x1 x2 x3 ph Q X) : Ct G yX8_splitAt (.code yX8_splitAt cX8_splitAt 9 none) 2 48 0 0 [va_rf (some x0), .int x1, .int x2, .long x3] ph (oV Q) X := by
  refine ct_of (lv0 := [(0, va_rf (some x0)), (1, .int x1), (2, .int x2), (3, .long x3)]) (by decide +kernel) (by simp [lg_sl, cat_rf, cat_i, cat_j]) (by simp [lv_args, cat_rf, cat_i, cat_j]) ?_
  intro C A hC hAo hex hrt hnm
  have hr : HV C (ZM C G A (oV Q) X 0 0) A G 9 cX8_splitAt 0 0 Q := fun pc lv ph k n d hk hn hq => e_v hC hrt pc lv ph k n d hk hn ⟨rfl, hq⟩
  have hx := e_x (Q := oV Q) (X := X) (mc := 0) (ms := 0) hC hex
  have hn := e_n (Q := oV Q) (X := X) (mc := 0) (ms := 0) hC hex
  have hnw := e_nw (Q := oV Q) (X := X) (mc := 0) (ms := 0) hC hex
  have hnx := e_nx (Q := oV Q) (X := X) (mc := 0) (ms := 0) hC hex
  have hi : True := trivial
  generalize ZM C G A (oV Q) X 0 0 = Z at *
  refine r_aload_n hC dX8_splitAt_0 rfl 0 rfl ?_
  obtain ⟨v1, g1, h⟩ := h
  refine r_get hC (ci := 9) (kf := 0) (N := 3) (Cn := RX8) (T := TX8) rfl (by decide) tin_X8 fl_X8_15 rfl dX8_splitAt_1 g1 ?_
  refine r_istore (i := 5) (lv' := [(5, .int v1), (0, va_rf (some x0)), (1, .int x1), (2, .int x2), (3, .long x3)]) hC dX8_splitAt_4 (by decide) (by first | rfl | simp [lvs1, lvs2, List.filter, cat_rf, cat_i, cat_j]) ?_
  refine r_aload_n hC dX8_splitAt_6 rfl 1 rfl ?_
  refine r_iload_n hC dX8_splitAt_7 rfl 2 rfl ?_
  refine r_iload_n hC dX8_splitAt_8 rfl 3 rfl ?_
  obtain ⟨a9, o9, h⟩ := h
  refine r_VJ hC hAo [.int x1, .int x2] cal_X8_at ml_X8_38 (ci := 9) rfl rfl rfl (c_X8_at G _ _ _ _ _ _ h) o9 ⟨by decide, by decide⟩ ⟨by decide, by decide⟩ (by simp only [List.map_nil, List.map_cons, List.sum_nil, List.sum_cons, cat_rf, cat_i, cat_j]; decide) rfl dX8_splitAt_9 (fun E u hx9 => hx _ _ _ _ _ _ _ (by decide) (by decide) hx9) (fun v9 ph9 h => ?_)
  refine RR.wid (k' := 0) (n' := 0) (by decide) (by decide) ?_
  refine r_lload_n hC dX8_splitAt_12 rfl 4 rfl ?_
  refine r_lsub hC dX8_splitAt_13 ?_
  obtain ⟨v14, ev14⟩ : ∃ z : Int64, z = v9 - x3 := ⟨_, rfl⟩
  have h := h v14 ev14
  refine RR.to (st' := [.long v14]) (by rw [ev14]) ?_
  refine r_lstore (i := 6) (lv' := [(6, .long v14), (5, .int v1), (0, va_rf (some x0)), (1, .int x1), (2, .int x2), (3, .long x3)]) hC dX8_splitAt_14 (by decide) (by first | rfl | simp [lvs1, lvs2, List.filter, cat_rf, cat_i, cat_j]) ?_
  refine r_aload_n hC dX8_splitAt_16 rfl 2 rfl ?_
  refine r_dup hC dX8_splitAt_17 (by first | rfl | exact cat_rf _) ?_
  obtain ⟨v18, g18, h⟩ := h
  refine r_get hC (ci := 9) (kf := 0) (N := 3) (Cn := RX8) (T := TX8) rfl (by decide) tin_X8 fl_X8_15 rfl dX8_splitAt_18 g18 ?_
  refine r_iconst (v := 1) hC dX8_splitAt_21 (by decide) ?_
  refine r_iadd hC dX8_splitAt_22 ?_
  obtain ⟨ph23, g23, h⟩ := h
  refine r_put hC (ci := 9) (kf := 0) (N := 3) (Cn := RX8) (T := TX8) (ty := .int) (ty0 := tyX8) rfl (by decide) tin_X8 tyX8_ok nmX8 fl_X8_15 rfl rfl (by decide +kernel) rfl rfl dX8_splitAt_23 g23 ?_
  refine r_aload_n hC dX8_splitAt_26 rfl 2 rfl ?_
  refine r_dup hC dX8_splitAt_27 (by first | rfl | exact cat_rf _) ?_
  obtain ⟨v28, g28, h⟩ := h
  refine r_get hC (ci := 9) (kf := 1) (N := 3) (Cn := RX8) (T := TX8) rfl (by decide) tin_X8 fl_X8_19 rfl dX8_splitAt_28 g28 ?_
  refine r_iconst (v := 1) hC dX8_splitAt_31 (by decide) ?_
  refine r_iadd hC dX8_splitAt_32 ?_
  obtain ⟨ph33, g33, h⟩ := h
  refine r_put hC (ci := 9) (kf := 1) (N := 3) (Cn := RX8) (T := TX8) (ty := .int) (ty0 := tyX8) rfl (by decide) tin_X8 tyX8_ok nmX8 fl_X8_19 rfl rfl (by decide +kernel) rfl rfl dX8_splitAt_33 g33 ?_
  refine r_aload_n hC dX8_splitAt_36 rfl 2 rfl ?_
  refine r_iload_n hC dX8_splitAt_37 rfl 3 rfl ?_
  refine r_iload_n hC dX8_splitAt_38 rfl 4 rfl ?_
  refine r_lload_n hC dX8_splitAt_39 rfl 5 rfl ?_
  obtain ⟨a40, o40, h⟩ := h
  refine r_VV hC hAo [.int x1, .int x2, .long x3] cal_X8_write ml_X8_46 (ci := 9) rfl rfl rfl (c_X8_write G _ _ _ _ _ _ _ h) o40 ⟨by decide, by decide⟩ ⟨by decide, by decide⟩ (by simp only [List.map_nil, List.map_cons, List.sum_nil, List.sum_cons, cat_rf, cat_i, cat_j]; decide) rfl dX8_splitAt_40 (fun E u hx9 => hx _ _ _ _ _ _ _ (by decide) (by decide) hx9) (fun ph40 h => ?_)
  refine RR.wid (k' := 0) (n' := 0) (by decide) (by decide) ?_
  refine r_aload_n hC dX8_splitAt_43 rfl 2 rfl ?_
  refine r_iload hC dX8_splitAt_44 1 rfl ?_
  refine r_iload_n hC dX8_splitAt_46 rfl 4 rfl ?_
  refine r_lload hC dX8_splitAt_47 0 rfl ?_
  obtain ⟨a49, o49, h⟩ := h
  refine r_VV hC hAo [.int v1, .int x2, .long v14] cal_X8_write ml_X8_46 (ci := 9) rfl rfl rfl (c_X8_write G _ _ _ _ _ _ _ h) o49 ⟨by decide, by decide⟩ ⟨by decide, by decide⟩ (by simp only [List.map_nil, List.map_cons, List.sum_nil, List.sum_cons, cat_rf, cat_i, cat_j]; decide) rfl dX8_splitAt_49 (fun E u hx9 => hx _ _ _ _ _ _ _ (by decide) (by decide) hx9) (fun ph49 h => ?_)
  refine RR.wid (k' := 0) (n' := 0) (by decide) (by decide) ?_
  refine r_iconst (v := 0) hC dX8_splitAt_52 (by decide) ?_
  refine r_istore (i := 8) (lv' := [(8, .int (0 : Int32)), (6, .long v14), (5, .int v1), (0, va_rf (some x0)), (1, .int x1), (2, .int x2), (3, .long x3)]) hC dX8_splitAt_53 (by decide) (by first | rfl | simp [lvs1, lvs2, List.filter, cat_rf, cat_i, cat_j]) ?_
  obtain ⟨fu55, h⟩ := h
  exact RR.wid (by decide) (by decide) (RR.sub [3, 4, 2, 0] rfl (b_X8_splitAt_55 hC hAo hr hx hn hnw hnx hi  fu55 _ _ _ _ _ h))
set_option maxRecDepth 20000 in
theorem c_X11_split (G : GG) (x0 : Nat) (x1 : Int32) (x2 : Int32) (x3 : Int32) (x4 : Int32) (ph : PH) (Q : Int32 → PH → Prop) (X : String → PH → Prop) (h : w_X11_split x0 x1 x2 x3 x4 ph Q X) : Ct G yX11_split (.code yX11_split cX11_split 6 (some (.int))) 7 112 4 24 [va_rf (some x0), .int x1, .int x2, .int x3, .int x4] ph (oI Q) X := by
  refine ct_of (lv0 := [(0, va_rf (some x0)), (1, .int x1), (2, .int x2), (3, .int x3), (4, .int x4)]) (by decide +kernel) (by simp [lg_sl, cat_rf, cat_i, cat_j]) (by simp [lv_args, cat_rf, cat_i, cat_j]) ?_
  intro C A hC hAo hex hrt hnm
  have hr : HI C (ZM C G A (oI Q) X 4 24) A G 6 cX11_split 4 24 Q := fun pc lv v ph k n d hk hn hq => e_i hC hrt pc lv v ph k n d hk hn ⟨v, rfl, hq⟩
  have hx := e_x (Q := oI Q) (X := X) (mc := 4) (ms := 24) hC hex
  have hn := e_n (Q := oI Q) (X := X) (mc := 4) (ms := 24) hC hex
  have hnw := e_nw (Q := oI Q) (X := X) (mc := 4) (ms := 24) hC hex
  have hnx := e_nx (Q := oI Q) (X := X) (mc := 4) (ms := 24) hC hex
  have hi : True := trivial
  generalize ZM C G A (oI Q) X 4 24 = Z at *
  refine r_aload_n hC dX11_split_0 rfl 0 rfl ?_
  refine r_iload_n hC dX11_split_1 rfl 1 rfl ?_
  obtain ⟨a2, o2, h⟩ := h
  refine r_VR hC hAo [.int x1] cal_X11_matrixAt ml_X11_288 (ci := 12) rfl rfl rfl (c_X11_matrixAt G _ _ _ _ _ h) o2 ⟨by decide, by decide⟩ ⟨by decide, by decide⟩ (by simp only [List.map_nil, List.map_cons, List.sum_nil, List.sum_cons, cat_rf, cat_i, cat_j]; decide) rfl dX11_split_2 (fun E u hx9 => hx _ _ _ _ _ _ _ (by decide) (by decide) hx9) (fun v2 ph2 h => ?_)
  refine RR.wid (k' := 1) (n' := 6) (by decide) (by decide) ?_
  refine r_astore (i := 5) (lv' := [(5, va_rf v2), (0, va_rf (some x0)), (1, .int x1), (2, .int x2), (3, .int x3), (4, .int x4)]) hC dX11_split_5 (by decide) (by first | rfl | simp [lvs1, lvs2, List.filter, cat_rf, cat_i, cat_j]) ?_
  refine r_aload hC dX11_split_7 0 rfl ?_
  refine r_iload_n hC dX11_split_9 rfl 3 rfl ?_
  refine r_iload_n hC dX11_split_10 rfl 4 rfl ?_
  refine r_SV hC hAo [va_rf v2, .int x2, .int x3] cal_X11_demandCell ml_X11_292 rfl (c_X11_demandCell G _ _ _ _ _ _ h) ⟨by decide, by decide⟩ ⟨by decide, by decide⟩ (by simp only [List.map_nil, List.map_cons, List.sum_nil, List.sum_cons, cat_rf, cat_i, cat_j]; decide) rfl dX11_split_11 (fun E u hx9 => hx _ _ _ _ _ _ _ (by decide) (by decide) hx9) (fun ph11 h => ?_)
  refine RR.wid (k' := 2) (n' := 12) (by decide) (by decide) ?_
  refine r_iload hC dX11_split_14 5 rfl ?_
  refine r_if_lt (tgt := 33) hC dX11_split_16 (by decide) (fun c9 => ?_) (fun c9 => ?_)
  · have h := h.1 c9
    exact hnw _ _ _ _ _ _ _ _ _ _ _ _ 23 th_X11_73_77 rfl dX11_split_33 dX11_split_36 dX11_split_37 dX11_split_40 dX11_split_43 (by decide) (by simp only [List.map_nil, List.map_cons, List.sum_nil, List.sum_cons, cat_rf, cat_i, cat_j]; decide) (by decide) (by decide) (by decide) (by decide) h
  · have h := h.2 c9
    refine r_iload hC dX11_split_19 5 rfl ?_
    refine r_i2l hC dX11_split_21 ?_
    refine r_aload hC dX11_split_22 0 rfl ?_
    refine r_iload_n hC dX11_split_24 rfl 3 rfl ?_
    refine r_iload_n hC dX11_split_25 rfl 4 rfl ?_
    obtain ⟨a26, o26, h⟩ := h
    refine r_VJ hC hAo [.int x2, .int x3] cal_X8_at ml_X11_296 (ci := 9) rfl rfl rfl (c_X8_at G _ _ _ _ _ _ h) o26 ⟨by decide, by decide⟩ ⟨by decide, by decide⟩ (by simp only [List.map_nil, List.map_cons, List.sum_nil, List.sum_cons, cat_rf, cat_i, cat_j]; decide) rfl dX11_split_26 (fun E u hx9 => hx _ _ _ _ _ _ _ (by decide) (by decide) hx9) (fun v26 ph26 h => ?_)
    refine RR.wid (k' := 2) (n' := 12) (by decide) (by decide) ?_
    refine r_lcmp hC dX11_split_29 ?_
    refine r_if_le (tgt := 44) hC dX11_split_30 (by decide) (fun c9 => ?_) (fun c9 => ?_)
    · have h := h.1 c9
      refine r_aload hC dX11_split_44 0 rfl ?_
      refine r_SV hC hAo [va_rf v2] cal_X11_demandSquare ml_X11_305 rfl (c_X11_demandSquare G _ _ _ _ h) ⟨by decide, by decide⟩ ⟨by decide, by decide⟩ (by simp only [List.map_nil, List.map_cons, List.sum_nil, List.sum_cons, cat_rf, cat_i, cat_j]; decide) rfl dX11_split_46 (fun E u hx9 => hx _ _ _ _ _ _ _ (by decide) (by decide) hx9) (fun ph46 h => ?_)
      refine RR.wid (k' := 3) (n' := 18) (by decide) (by decide) ?_
      refine r_aload hC dX11_split_49 0 rfl ?_
      obtain ⟨v51, g51, h⟩ := h
      refine r_get hC (ci := 9) (kf := 0) (N := 3) (Cn := RX8) (T := TX8) rfl (by decide) tin_X8 fl_X11_309 rfl dX11_split_51 g51 ?_
      refine r_iconst (v := 5) hC dX11_split_54 (by decide) ?_
      refine r_icmp_lt (tgt := 69) hC dX11_split_55 (by decide) (fun c9 => ?_) (fun c9 => ?_)
      · have h := h.1 c9
        refine r_aload hC dX11_split_69 0 rfl ?_
        refine r_iload_n hC dX11_split_71 rfl 3 rfl ?_
        refine r_iload_n hC dX11_split_72 rfl 4 rfl ?_
        refine r_iload hC dX11_split_73 5 rfl ?_
        refine r_i2l hC dX11_split_75 ?_
        obtain ⟨a76, o76, h⟩ := h
        refine r_VV hC hAo [.int x2, .int x3, .long x4.toInt64] cal_X8_splitAt ml_X11_314 (ci := 9) rfl rfl rfl (c_X8_splitAt G _ _ _ _ _ _ _ h) o76 ⟨by decide, by decide⟩ ⟨by decide, by decide⟩ (by simp only [List.map_nil, List.map_cons, List.sum_nil, List.sum_cons, cat_rf, cat_i, cat_j]; decide) rfl dX11_split_76 (fun E u hx9 => hx _ _ _ _ _ _ _ (by decide) (by decide) hx9) (fun ph76 h => ?_)
        refine RR.wid (k' := 3) (n' := 18) (by decide) (by decide) ?_
        refine r_aload hC dX11_split_79 0 rfl ?_
        obtain ⟨v81, g81, h⟩ := h
        refine r_get hC (ci := 9) (kf := 0) (N := 3) (Cn := RX8) (T := TX8) rfl (by decide) tin_X8 fl_X11_309 rfl dX11_split_81 g81 ?_
        exact hr _ _ _ _ _ _ dX11_split_84 (by decide) (by decide) h
      · have h := h.2 c9
        exact hnw _ _ _ _ _ _ _ _ _ _ _ _ 25 th_X11_84_88 rfl dX11_split_58 dX11_split_61 dX11_split_62 dX11_split_65 dX11_split_68 (by decide) (by simp only [List.map_nil, List.map_cons, List.sum_nil, List.sum_cons, cat_rf, cat_i, cat_j]; decide) (by decide) (by decide) (by decide) (by decide) h
    · have h := h.2 c9
      exact hnw _ _ _ _ _ _ _ _ _ _ _ _ 23 th_X11_73_77 rfl dX11_split_33 dX11_split_36 dX11_split_37 dX11_split_40 dX11_split_43 (by decide) (by simp only [List.map_nil, List.map_cons, List.sum_nil, List.sum_cons, cat_rf, cat_i, cat_j]; decide) (by decide) (by decide) (by decide) (by decide) h
set_option maxRecDepth 20000 in
theorem b_X8_copyFrom_24 {C : Cx} {Z : State → Prop} {A : Nat → Prop} {G : GG} {Q : PH → Prop} {X : String → PH → Prop} {K14 : Option Nat → Option Nat → Int32 → PH → Prop} (hC : CxOk RX8 cX8_copyFrom 4 G A (rmk 2 48 0 0) C) (hAo : Ao (xs C)) (hr : HV C Z A G 4 cX8_copyFrom 0 0 Q) (hx : HX C Z A G 4 0 0 X) (hn : HN C Z A G 4 RX8 cX8_copyFrom 0 0 (rmk 2 48 0 0) X) (hnw : HNW C Z A G 4 RX8 cX8_copyFrom 0 0 (rmk 2 48 0 0) X) (hnx : HNX C Z A G 4 RX8 cX8_copyFrom 0 0 (rmk 2 48 0 0) X) (hi : True) (hK14 : ∀ (x0 : Option Nat) (x1 : Option Nat) (x2 : Int32) (ph : PH), K14 x0 x1 x2 ph → RR C Z A G 4 14 [(0, va_rf x0), (1, va_rf x1), (2, .int x2)] [] ph 0 0) : ∀ (fu : Nat) (x0 : Option Nat) (x1 : Option Nat) (x2 : Int32) (x3 : Int32) (ph : PH), w_X8_copyFrom_24 Q X K14 fu x0 x1 x2 x3 ph → RR C Z A G 4 24 [(0, va_rf x0), (1, va_rf x1), (2, .int x2), (3, .int x3)] [] ph 0 0 := by
  intro fu
  induction fu with
  | zero => intro x0 x1 x2 x3 ph h; exact h.elim
  | succ fu ih =>
    intro x0 x1 x2 x3 ph h
    refine r_iload_n hC dX8_copyFrom_24 rfl 3 rfl ?_
    refine r_aload_n hC dX8_copyFrom_25 rfl 0 rfl ?_
    obtain ⟨v26, g26, h⟩ := h
    refine r_get hC (ci := 9) (kf := 1) (N := 3) (Cn := RX8) (T := TX8) rfl (by decide) tin_X8 fl_X8_19 rfl dX8_copyFrom_26 g26 ?_
    refine r_icmp_ge (tgt := 50) hC dX8_copyFrom_29 (by decide) (fun c9 => ?_) (fun c9 => ?_)
    · have h := h.1 c9
      refine r_iinc (w := 2) (v := x2 + 1) (lv' := [(2, .int (x2 + 1)), (0, va_rf x0), (1, va_rf x1), (3, .int x3)]) hC dX8_copyFrom_50 rfl rfl (by decide) (by first | rfl | simp [lvs1, List.filter, cat_rf, cat_i, cat_j]) ?_
      refine r_goto (tgt := 14) hC dX8_copyFrom_53 (by decide) ?_
      exact RR.wid (by decide) (by decide) (RR.sub [1, 2, 0] rfl (hK14 _ _ _ _ h))
    · have h := h.2 c9
      refine r_aload_n hC dX8_copyFrom_32 rfl 0 rfl ?_
      refine r_iload_n hC dX8_copyFrom_33 rfl 2 rfl ?_
      refine r_iload_n hC dX8_copyFrom_34 rfl 3 rfl ?_
      refine r_aload_n hC dX8_copyFrom_35 rfl 1 rfl ?_
      refine r_iload_n hC dX8_copyFrom_36 rfl 2 rfl ?_
      refine r_iload_n hC dX8_copyFrom_37 rfl 3 rfl ?_
      obtain ⟨a38, o38, h⟩ := h
      refine r_VJ hC hAo [.int x2, .int x3] cal_X8_at ml_X8_38 (ci := 9) rfl rfl rfl (c_X8_at G _ _ _ _ _ _ h) o38 ⟨by decide, by decide⟩ ⟨by decide, by decide⟩ (by simp only [List.map_nil, List.map_cons, List.sum_nil, List.sum_cons, cat_rf, cat_i, cat_j]; decide) rfl dX8_copyFrom_38 (fun E u hx9 => hx _ _ _ _ _ _ _ (by decide) (by decide) hx9) (fun v38 ph38 h => ?_)
      refine RR.wid (k' := 0) (n' := 0) (by decide) (by decide) ?_
      obtain ⟨a41, o41, h⟩ := h
      refine r_VV hC hAo [.int x2, .int x3, .long v38] cal_X8_write ml_X8_46 (ci := 9) rfl rfl rfl (c_X8_write G _ _ _ _ _ _ _ h) o41 ⟨by decide, by decide⟩ ⟨by decide, by decide⟩ (by simp only [List.map_nil, List.map_cons, List.sum_nil, List.sum_cons, cat_rf, cat_i, cat_j]; decide) rfl dX8_copyFrom_41 (fun E u hx9 => hx _ _ _ _ _ _ _ (by decide) (by decide) hx9) (fun ph41 h => ?_)
      refine RR.wid (k' := 0) (n' := 0) (by decide) (by decide) ?_
      refine r_iinc (w := 3) (v := x3 + 1) (lv' := [(3, .int (x3 + 1)), (0, va_rf x0), (1, va_rf x1), (2, .int x2)]) hC dX8_copyFrom_44 rfl rfl (by decide) (by first | rfl | simp [lvs1, List.filter, cat_rf, cat_i, cat_j]) ?_
      refine r_goto (tgt := 24) hC dX8_copyFrom_47 (by decide) ?_
      exact RR.wid (by decide) (by decide) (RR.sub [1, 2, 3, 0] rfl (ih _ _ _ _ _ h))
set_option maxRecDepth 20000 in
theorem b_X8_copyFrom_14 {C : Cx} {Z : State → Prop} {A : Nat → Prop} {G : GG} {Q : PH → Prop} {X : String → PH → Prop} (hC : CxOk RX8 cX8_copyFrom 4 G A (rmk 2 48 0 0) C) (hAo : Ao (xs C)) (hr : HV C Z A G 4 cX8_copyFrom 0 0 Q) (hx : HX C Z A G 4 0 0 X) (hn : HN C Z A G 4 RX8 cX8_copyFrom 0 0 (rmk 2 48 0 0) X) (hnw : HNW C Z A G 4 RX8 cX8_copyFrom 0 0 (rmk 2 48 0 0) X) (hnx : HNX C Z A G 4 RX8 cX8_copyFrom 0 0 (rmk 2 48 0 0) X) (hi : True) : ∀ (fu : Nat) (x0 : Option Nat) (x1 : Option Nat) (x2 : Int32) (ph : PH), w_X8_copyFrom_14 Q X fu x0 x1 x2 ph → RR C Z A G 4 14 [(0, va_rf x0), (1, va_rf x1), (2, .int x2)] [] ph 0 0 := by
  intro fu
  induction fu with
  | zero => intro x0 x1 x2 ph h; exact h.elim
  | succ fu ih =>
    intro x0 x1 x2 ph h
    refine r_iload_n hC dX8_copyFrom_14 rfl 2 rfl ?_
    refine r_aload_n hC dX8_copyFrom_15 rfl 0 rfl ?_
    obtain ⟨v16, g16, h⟩ := h
    refine r_get hC (ci := 9) (kf := 0) (N := 3) (Cn := RX8) (T := TX8) rfl (by decide) tin_X8 fl_X8_15 rfl dX8_copyFrom_16 g16 ?_
    refine r_icmp_ge (tgt := 56) hC dX8_copyFrom_19 (by decide) (fun c9 => ?_) (fun c9 => ?_)
    · have h := h.1 c9
      exact hr _ _ _ _ _ dX8_copyFrom_56 (by decide) (by decide) h
    · have h := h.2 c9
      refine r_iconst (v := 0) hC dX8_copyFrom_22 (by decide) ?_
      refine r_istore_n (i := 3) (lv' := [(3, .int (0 : Int32)), (0, va_rf x0), (1, va_rf x1), (2, .int x2)]) hC dX8_copyFrom_23 rfl (by decide) (by first | rfl | simp [lvs1, lvs2, List.filter, cat_rf, cat_i, cat_j]) ?_
      have k24_14 : ∀ (x0 : Option Nat) (x1 : Option Nat) (x2 : Int32) (ph : PH), w_X8_copyFrom_14 Q X fu x0 x1 x2 ph → RR C Z A G 4 14 [(0, va_rf x0), (1, va_rf x1), (2, .int x2)] [] ph 0 0 := by
        intro x0 x1 x2 ph h
        exact RR.wid (by decide) (by decide) (RR.sub [0, 1, 2] rfl (ih _ _ _ _ h))
      obtain ⟨fu24, h⟩ := h
      exact RR.wid (by decide) (by decide) (RR.sub [1, 2, 3, 0] rfl (b_X8_copyFrom_24 hC hAo hr hx hn hnw hnx hi k24_14 fu24 _ _ _ _ _ h))
set_option maxRecDepth 20000 in
theorem c_X8_copyFrom (G : GG) (x0 : Nat) (x1 : Option Nat) (ph : PH) (Q : PH → Prop) (X : String → PH → Prop) (h : w_X8_copyFrom x0 x1 ph Q X) : Ct G yX8_copyFrom (.code yX8_copyFrom cX8_copyFrom 4 none) 2 48 0 0 [va_rf (some x0), va_rf x1] ph (oV Q) X := by
  refine ct_of (lv0 := [(0, va_rf (some x0)), (1, va_rf x1)]) (by decide +kernel) (by simp [lg_sl, cat_rf, cat_i, cat_j]) (by simp [lv_args, cat_rf, cat_i, cat_j]) ?_
  intro C A hC hAo hex hrt hnm
  have hr : HV C (ZM C G A (oV Q) X 0 0) A G 4 cX8_copyFrom 0 0 Q := fun pc lv ph k n d hk hn hq => e_v hC hrt pc lv ph k n d hk hn ⟨rfl, hq⟩
  have hx := e_x (Q := oV Q) (X := X) (mc := 0) (ms := 0) hC hex
  have hn := e_n (Q := oV Q) (X := X) (mc := 0) (ms := 0) hC hex
  have hnw := e_nw (Q := oV Q) (X := X) (mc := 0) (ms := 0) hC hex
  have hnx := e_nx (Q := oV Q) (X := X) (mc := 0) (ms := 0) hC hex
  have hi : True := trivial
  generalize ZM C G A (oV Q) X 0 0 = Z at *
  refine r_aload_n hC dX8_copyFrom_0 rfl 0 rfl ?_
  refine r_aload_n hC dX8_copyFrom_1 rfl 1 rfl ?_
  obtain ⟨v2, g2, h⟩ := h
  refine r_get hC (ci := 9) (kf := 0) (N := 3) (Cn := RX8) (T := TX8) rfl (by decide) tin_X8 fl_X8_15 rfl dX8_copyFrom_2 g2 ?_
  refine r_aload_n hC dX8_copyFrom_5 rfl 1 rfl ?_
  obtain ⟨v6, g6, h⟩ := h
  refine r_get hC (ci := 9) (kf := 1) (N := 3) (Cn := RX8) (T := TX8) rfl (by decide) tin_X8 fl_X8_19 rfl dX8_copyFrom_6 g6 ?_
  obtain ⟨a9, o9, h⟩ := h
  refine r_VV hC hAo [.int v2, .int v6] cal_X8_reshape ml_X8_42 (ci := 9) rfl rfl rfl (c_X8_reshape G _ _ _ _ _ _ h) o9 ⟨by decide, by decide⟩ ⟨by decide, by decide⟩ (by simp only [List.map_nil, List.map_cons, List.sum_nil, List.sum_cons, cat_rf, cat_i, cat_j]; decide) rfl dX8_copyFrom_9 (fun E u hx9 => hx _ _ _ _ _ _ _ (by decide) (by decide) hx9) (fun ph9 h => ?_)
  refine RR.wid (k' := 0) (n' := 0) (by decide) (by decide) ?_
  refine r_iconst (v := 0) hC dX8_copyFrom_12 (by decide) ?_
  refine r_istore_n (i := 2) (lv' := [(2, .int (0 : Int32)), (0, va_rf (some x0)), (1, va_rf x1)]) hC dX8_copyFrom_13 rfl (by decide) (by first | rfl | simp [lvs1, lvs2, List.filter, cat_rf, cat_i, cat_j]) ?_
  obtain ⟨fu14, h⟩ := h
  exact RR.wid (by decide) (by decide) (RR.sub [1, 2, 0] rfl (b_X8_copyFrom_14 hC hAo hr hx hn hnw hnx hi  fu14 _ _ _ _ h))
set_option maxRecDepth 20000 in
theorem b_X0_powerOf_19 {C : Cx} {Z : State → Prop} {A : Nat → Prop} {G : GG} {Q : Option Nat → PH → Prop} {X : String → PH → Prop} (hC : CxOk RX0 cX0_powerOf 7 G A (rmk 3 75 0 0) C) (hAo : Ao (xs C)) (hr : HA C Z A G 7 cX0_powerOf 0 0 Q) (hx : HX C Z A G 7 0 0 X) (hn : HN C Z A G 7 RX0 cX0_powerOf 0 0 (rmk 3 75 0 0) X) (hnw : HNW C Z A G 7 RX0 cX0_powerOf 0 0 (rmk 3 75 0 0) X) (hnx : HNX C Z A G 7 RX0 cX0_powerOf 0 0 (rmk 3 75 0 0) X) (hi : True) : ∀ (fu : Nat) (x1 : Option Nat) (x2 : Int32) (x3 : Option Nat) (x4 : Option Nat) (x5 : Int32) (ph : PH), w_X0_powerOf_19 Q X fu x1 x2 x3 x4 x5 ph → RR C Z A G 7 19 [(1, va_rf x1), (2, .int x2), (3, va_rf x3), (4, va_rf x4), (5, .int x5)] [] ph 0 0 := by
  intro fu
  induction fu with
  | zero => intro x1 x2 x3 x4 x5 ph h; exact h.elim
  | succ fu ih =>
    intro x1 x2 x3 x4 x5 ph h
    refine r_iload hC dX0_powerOf_19 4 rfl ?_
    refine r_iload_n hC dX0_powerOf_21 rfl 1 rfl ?_
    refine r_icmp_ge (tgt := 48) hC dX0_powerOf_22 (by decide) (fun c9 => ?_) (fun c9 => ?_)
    · have h := h.1 c9
      refine r_aload_n hC dX0_powerOf_48 rfl 2 rfl ?_
      exact hr _ _ _ _ _ _ dX0_powerOf_49 (by decide) (by decide) h
    · have h := h.2 c9
      refine r_aload hC dX0_powerOf_25 3 rfl ?_
      refine r_aload_n hC dX0_powerOf_27 rfl 2 rfl ?_
      refine r_aload_n hC dX0_powerOf_28 rfl 0 rfl ?_
      obtain ⟨a29, o29, h⟩ := h
      refine r_VV hC hAo [va_rf x3, va_rf x1] cal_X8_multiply ml_X0_110 (ci := 9) rfl rfl rfl (c_X8_multiply G _ _ _ _ _ _ h) o29 ⟨by decide, by decide⟩ ⟨by decide, by decide⟩ (by simp only [List.map_nil, List.map_cons, List.sum_nil, List.sum_cons, cat_rf, cat_i, cat_j]; decide) rfl dX0_powerOf_29 (fun E u hx9 => hx _ _ _ _ _ _ _ (by decide) (by decide) hx9) (fun ph29 h => ?_)
      refine RR.wid (k' := 0) (n' := 0) (by decide) (by decide) ?_
      refine r_aload_n hC dX0_powerOf_32 rfl 2 rfl ?_
      refine r_astore (i := 6) (lv' := [(6, va_rf x3), (1, va_rf x1), (2, .int x2), (3, va_rf x3), (4, va_rf x4), (5, .int x5)]) hC dX0_powerOf_33 (by decide) (by first | rfl | simp [lvs1, lvs2, List.filter, cat_rf, cat_i, cat_j]) ?_
      refine r_aload hC dX0_powerOf_35 4 rfl ?_
      refine r_astore_n (i := 3) (lv' := [(3, va_rf x4), (6, va_rf x3), (1, va_rf x1), (2, .int x2), (4, va_rf x4), (5, .int x5)]) hC dX0_powerOf_37 rfl (by decide) (by first | rfl | simp [lvs1, lvs2, List.filter, cat_rf, cat_i, cat_j]) ?_
      refine r_aload hC dX0_powerOf_38 1 rfl ?_
      refine r_astore (i := 4) (lv' := [(4, va_rf x3), (3, va_rf x4), (6, va_rf x3), (1, va_rf x1), (2, .int x2), (5, .int x5)]) hC dX0_powerOf_40 (by decide) (by first | rfl | simp [lvs1, lvs2, List.filter, cat_rf, cat_i, cat_j]) ?_
      refine r_iinc (w := 5) (v := x5 + 1) (lv' := [(5, .int (x5 + 1)), (4, va_rf x3), (3, va_rf x4), (6, va_rf x3), (1, va_rf x1), (2, .int x2)]) hC dX0_powerOf_42 rfl rfl (by decide) (by first | rfl | simp [lvs1, List.filter, cat_rf, cat_i, cat_j]) ?_
      refine r_goto (tgt := 19) hC dX0_powerOf_45 (by decide) ?_
      exact RR.wid (by decide) (by decide) (RR.sub [4, 5, 2, 1, 0] rfl (ih _ _ _ _ _ _ h))
set_option maxRecDepth 20000 in
theorem c_X0_powerOf (G : GG) (x0 : Nat) (x1 : Option Nat) (x2 : Int32) (ph : PH) (Q : Option Nat → PH → Prop) (X : String → PH → Prop) (h : w_X0_powerOf x0 x1 x2 ph Q X) : Ct G yX0_powerOf (.code yX0_powerOf cX0_powerOf 7 (some (.object "Shiftgate$Table"))) 3 75 0 0 [va_rf (some x0), va_rf x1, .int x2] ph (oR Q) X := by
  refine ct_of (lv0 := [(0, va_rf (some x0)), (1, va_rf x1), (2, .int x2)]) (by decide +kernel) (by simp [lg_sl, cat_rf, cat_i, cat_j]) (by simp [lv_args, cat_rf, cat_i, cat_j]) ?_
  intro C A hC hAo hex hrt hnm
  have hr : HA C (ZM C G A (oR Q) X 0 0) A G 7 cX0_powerOf 0 0 Q := fun pc lv v ph k n d hk hn hq => e_a hC (cn := "Shiftgate$Table") (Or.inl hrt) pc lv v ph k n d hk hn ⟨v, rfl, hq⟩
  have hx := e_x (Q := oR Q) (X := X) (mc := 0) (ms := 0) hC hex
  have hn := e_n (Q := oR Q) (X := X) (mc := 0) (ms := 0) hC hex
  have hnw := e_nw (Q := oR Q) (X := X) (mc := 0) (ms := 0) hC hex
  have hnx := e_nx (Q := oR Q) (X := X) (mc := 0) (ms := 0) hC hex
  have hi : True := trivial
  generalize ZM C G A (oR Q) X 0 0 = Z at *
  refine r_aload_n hC dX0_powerOf_0 rfl 0 rfl ?_
  obtain ⟨v1, g1, h⟩ := h
  refine r_get hC (ci := 3) (kf := 0) (N := 8) (Cn := RX0) (T := TX0) rfl (by decide) tin_X0 fl_X0_12 rfl dX0_powerOf_1 g1 ?_
  refine r_astore_n (i := 3) (lv' := [(3, va_rf v1), (0, va_rf (some x0)), (1, va_rf x1), (2, .int x2)]) hC dX0_powerOf_4 rfl (by decide) (by first | rfl | simp [lvs1, lvs2, List.filter, cat_rf, cat_i, cat_j]) ?_
  refine r_aload_n hC dX0_powerOf_5 rfl 1 rfl ?_
  obtain ⟨v6, g6, h⟩ := h
  refine r_get hC (ci := 3) (kf := 1) (N := 8) (Cn := RX0) (T := TX0) rfl (by decide) tin_X0 fl_X0_18 rfl dX0_powerOf_6 g6 ?_
  refine r_astore (i := 4) (lv' := [(4, va_rf v6), (3, va_rf v1), (0, va_rf (some x0)), (1, va_rf x1), (2, .int x2)]) hC dX0_powerOf_9 (by decide) (by first | rfl | simp [lvs1, lvs2, List.filter, cat_rf, cat_i, cat_j]) ?_
  refine r_aload_n hC dX0_powerOf_11 rfl 1 rfl ?_
  refine r_aload_n hC dX0_powerOf_12 rfl 3 rfl ?_
  obtain ⟨a13, o13, h⟩ := h
  refine r_VV hC hAo [va_rf x1] cal_X8_copyFrom ml_X0_118 (ci := 9) rfl rfl rfl (c_X8_copyFrom G _ _ _ _ _ h) o13 ⟨by decide, by decide⟩ ⟨by decide, by decide⟩ (by simp only [List.map_nil, List.map_cons, List.sum_nil, List.sum_cons, cat_rf, cat_i, cat_j]; decide) rfl dX0_powerOf_13 (fun E u hx9 => hx _ _ _ _ _ _ _ (by decide) (by decide) hx9) (fun ph13 h => ?_)
  refine RR.wid (k' := 0) (n' := 0) (by decide) (by decide) ?_
  refine r_iconst (v := 1) hC dX0_powerOf_16 (by decide) ?_
  refine r_istore (i := 5) (lv' := [(5, .int (1 : Int32)), (4, va_rf v6), (3, va_rf v1), (0, va_rf (some x0)), (1, va_rf x1), (2, .int x2)]) hC dX0_powerOf_17 (by decide) (by first | rfl | simp [lvs1, lvs2, List.filter, cat_rf, cat_i, cat_j]) ?_
  obtain ⟨fu19, h⟩ := h
  exact RR.wid (by decide) (by decide) (RR.sub [4, 5, 2, 1, 0] rfl (b_X0_powerOf_19 hC hAo hr hx hn hnw hnx hi  fu19 _ _ _ _ _ _ h))
set_option maxRecDepth 20000 in
theorem c_X11_trace (G : GG) (x0 : Nat) (x1 : Int32) (x2 : Int32) (ph : PH) (Q : Int64 → PH → Prop) (X : String → PH → Prop) (h : w_X11_trace x0 x1 x2 ph Q X) : Ct G yX11_trace (.code yX11_trace cX11_trace 4 (some (.long))) 7 112 3 18 [va_rf (some x0), .int x1, .int x2] ph (oJ Q) X := by
  refine ct_of (lv0 := [(0, va_rf (some x0)), (1, .int x1), (2, .int x2)]) (by decide +kernel) (by simp [lg_sl, cat_rf, cat_i, cat_j]) (by simp [lv_args, cat_rf, cat_i, cat_j]) ?_
  intro C A hC hAo hex hrt hnm
  have hr : HJ C (ZM C G A (oJ Q) X 3 18) A G 4 cX11_trace 3 18 Q := fun pc lv v ph k n d hk hn hq => e_j hC hrt pc lv v ph k n d hk hn ⟨v, rfl, hq⟩
  have hx := e_x (Q := oJ Q) (X := X) (mc := 3) (ms := 18) hC hex
  have hn := e_n (Q := oJ Q) (X := X) (mc := 3) (ms := 18) hC hex
  have hnw := e_nw (Q := oJ Q) (X := X) (mc := 3) (ms := 18) hC hex
  have hnx := e_nx (Q := oJ Q) (X := X) (mc := 3) (ms := 18) hC hex
  have hi : True := trivial
  generalize ZM C G A (oJ Q) X 3 18 = Z at *
  refine r_aload_n hC dX11_trace_0 rfl 0 rfl ?_
  refine r_iload_n hC dX11_trace_1 rfl 1 rfl ?_
  obtain ⟨a2, o2, h⟩ := h
  refine r_VR hC hAo [.int x1] cal_X11_matrixAt ml_X11_288 (ci := 12) rfl rfl rfl (c_X11_matrixAt G _ _ _ _ _ h) o2 ⟨by decide, by decide⟩ ⟨by decide, by decide⟩ (by simp only [List.map_nil, List.map_cons, List.sum_nil, List.sum_cons, cat_rf, cat_i, cat_j]; decide) rfl dX11_trace_2 (fun E u hx9 => hx _ _ _ _ _ _ _ (by decide) (by decide) hx9) (fun v2 ph2 h => ?_)
  refine RR.wid (k' := 1) (n' := 6) (by decide) (by decide) ?_
  refine r_astore_n (i := 3) (lv' := [(3, va_rf v2), (0, va_rf (some x0)), (1, .int x1), (2, .int x2)]) hC dX11_trace_5 rfl (by decide) (by first | rfl | simp [lvs1, lvs2, List.filter, cat_rf, cat_i, cat_j]) ?_
  refine r_iload_n hC dX11_trace_6 rfl 3 rfl ?_
  refine r_iconst (v := 1) hC dX11_trace_7 (by decide) ?_
  refine r_bipush (v := 8) hC dX11_trace_8 (by decide) ?_
  refine r_SV hC hAo [.int x2, .int (1 : Int32), .int (8 : Int32)] cal_X11_demandRange ml_X11_96 rfl (c_X11_demandRange G _ _ _ _ _ _ h) ⟨by decide, by decide⟩ ⟨by decide, by decide⟩ (by simp only [List.map_nil, List.map_cons, List.sum_nil, List.sum_cons, cat_rf, cat_i, cat_j]; decide) rfl dX11_trace_10 (fun E u hx9 => hx _ _ _ _ _ _ _ (by decide) (by decide) hx9) (fun ph10 h => ?_)
  refine RR.wid (k' := 2) (n' := 12) (by decide) (by decide) ?_
  refine r_aload_n hC dX11_trace_13 rfl 0 rfl ?_
  refine r_SV hC hAo [va_rf v2] cal_X11_demandSquare ml_X11_305 rfl (c_X11_demandSquare G _ _ _ _ h) ⟨by decide, by decide⟩ ⟨by decide, by decide⟩ (by simp only [List.map_nil, List.map_cons, List.sum_nil, List.sum_cons, cat_rf, cat_i, cat_j]; decide) rfl dX11_trace_14 (fun E u hx9 => hx _ _ _ _ _ _ _ (by decide) (by decide) hx9) (fun ph14 h => ?_)
  refine RR.wid (k' := 3) (n' := 18) (by decide) (by decide) ?_
  refine r_aload_n hC dX11_trace_17 rfl 1 rfl ?_
  obtain ⟨v18, g18, h⟩ := h
  refine r_get hC (ci := 12) (kf := 9) (N := 12) (Cn := RX11) (T := TX11) rfl (by decide) tin_X11 fl_X11_51 rfl dX11_trace_18 g18 ?_
  refine r_aload_n hC dX11_trace_21 rfl 0 rfl ?_
  refine r_iload_n hC dX11_trace_22 rfl 3 rfl ?_
  obtain ⟨a23, o23, h⟩ := h
  refine r_VR hC hAo [va_rf v2, .int x2] cal_X0_powerOf ml_X11_341 (ci := 3) rfl rfl rfl (c_X0_powerOf G _ _ _ _ _ _ h) o23 ⟨by decide, by decide⟩ ⟨by decide, by decide⟩ (by simp only [List.map_nil, List.map_cons, List.sum_nil, List.sum_cons, cat_rf, cat_i, cat_j]; decide) rfl dX11_trace_23 (fun E u hx9 => hx _ _ _ _ _ _ _ (by decide) (by decide) hx9) (fun v23 ph23 h => ?_)
  refine RR.wid (k' := 3) (n' := 18) (by decide) (by decide) ?_
  obtain ⟨a26, o26, h⟩ := h
  refine r_VJ hC hAo [] cal_X8_diagonalSum ml_X11_345 (ci := 9) rfl rfl rfl (c_X8_diagonalSum G _ _ _ _ h) o26 ⟨by decide, by decide⟩ ⟨by decide, by decide⟩ (by simp only [List.map_nil, List.map_cons, List.sum_nil, List.sum_cons, cat_rf, cat_i, cat_j]; decide) rfl dX11_trace_26 (fun E u hx9 => hx _ _ _ _ _ _ _ (by decide) (by decide) hx9) (fun v26 ph26 h => ?_)
  refine RR.wid (k' := 3) (n' := 18) (by decide) (by decide) ?_
  exact hr _ _ _ _ _ _ dX11_trace_29 (by decide) (by decide) h
set_option maxRecDepth 20000 in
theorem c_X7_lengthOf (G : GG) (x0 : Nat) (x1 : Int32) (ph : PH) (Q : Int32 → PH → Prop) (X : String → PH → Prop) (h : w_X7_lengthOf x0 x1 ph Q X) : Ct G yX7_lengthOf (.code yX7_lengthOf cX7_lengthOf 2 (some (.int))) 0 0 0 0 [va_rf (some x0), .int x1] ph (oI Q) X := by
  refine ct_of (lv0 := [(0, va_rf (some x0)), (1, .int x1)]) (by decide +kernel) (by simp [lg_sl, cat_rf, cat_i, cat_j]) (by simp [lv_args, cat_rf, cat_i, cat_j]) ?_
  intro C A hC hAo hex hrt hnm
  have hr : HI C (ZM C G A (oI Q) X 0 0) A G 2 cX7_lengthOf 0 0 Q := fun pc lv v ph k n d hk hn hq => e_i hC hrt pc lv v ph k n d hk hn ⟨v, rfl, hq⟩
  have hx := e_x (Q := oI Q) (X := X) (mc := 0) (ms := 0) hC hex
  have hn := e_n (Q := oI Q) (X := X) (mc := 0) (ms := 0) hC hex
  have hnw := e_nw (Q := oI Q) (X := X) (mc := 0) (ms := 0) hC hex
  have hnx := e_nx (Q := oI Q) (X := X) (mc := 0) (ms := 0) hC hex
  have hi : True := trivial
  generalize ZM C G A (oI Q) X 0 0 = Z at *
  refine r_iload_n hC dX7_lengthOf_0 rfl 1 rfl ?_
  refine r_if_lt (tgt := 22) hC dX7_lengthOf_1 (by decide) (fun c9 => ?_) (fun c9 => ?_)
  · have h := h.1 c9
    refine r_iconst (v := 0) hC dX7_lengthOf_22 (by decide) ?_
    exact hr _ _ _ _ _ _ dX7_lengthOf_23 (by decide) (by decide) h
  · have h := h.2 c9
    refine r_iload_n hC dX7_lengthOf_4 rfl 1 rfl ?_
    refine r_aload_n hC dX7_lengthOf_5 rfl 0 rfl ?_
    obtain ⟨v6, g6, h⟩ := h
    refine r_get hC (ci := 8) (kf := 0) (N := 4) (Cn := RX7) (T := TX7) rfl (by decide) tin_X7 fl_X7_9 rfl dX7_lengthOf_6 g6 ?_
    obtain ⟨v9, g9, h⟩ := h
    refine r_alen hC dX7_lengthOf_9 g9 ?_
    refine r_icmp_ge (tgt := 22) hC dX7_lengthOf_10 (by decide) (fun c9 => ?_) (fun c9 => ?_)
    · have h := h.1 c9
      refine r_iconst (v := 0) hC dX7_lengthOf_22 (by decide) ?_
      exact hr _ _ _ _ _ _ dX7_lengthOf_23 (by decide) (by decide) h
    · have h := h.2 c9
      refine r_aload_n hC dX7_lengthOf_13 rfl 0 rfl ?_
      obtain ⟨v14, g14, h⟩ := h
      refine r_get hC (ci := 8) (kf := 0) (N := 4) (Cn := RX7) (T := TX7) rfl (by decide) tin_X7 fl_X7_9 rfl dX7_lengthOf_14 g14 ?_
      refine r_iload_n hC dX7_lengthOf_17 rfl 1 rfl ?_
      obtain ⟨v18, g18, h⟩ := h
      refine r_iald hC dX7_lengthOf_18 g18 ?_
      refine r_goto (tgt := 23) hC dX7_lengthOf_19 (by decide) ?_
      exact hr _ _ _ _ _ _ dX7_lengthOf_23 (by decide) (by decide) h
set_option maxRecDepth 20000 in
theorem b_X7_learn_55 {C : Cx} {Z : State → Prop} {A : Nat → Prop} {G : GG} {Q : PH → Prop} {X : String → PH → Prop} (hC : CxOk RX7 cX7_learn 5 G A (rmk 2 42 0 0) C) (hAo : Ao (xs C)) (hr : HV C Z A G 5 cX7_learn 0 0 Q) (hx : HX C Z A G 5 0 0 X) (hn : HN C Z A G 5 RX7 cX7_learn 0 0 (rmk 2 42 0 0) X) (hnw : HNW C Z A G 5 RX7 cX7_learn 0 0 (rmk 2 42 0 0) X) (hnx : HNX C Z A G 5 RX7 cX7_learn 0 0 (rmk 2 42 0 0) X) (hi : True) : ∀ (x0 : Option Nat) (x1 : Int32) (x2 : Option Nat) (ph : PH), w_X7_learn_55 Q X x0 x1 x2 ph → RR C Z A G 5 55 [(0, va_rf x0), (1, .int x1), (2, va_rf x2)] [] ph 0 0 := by
  intro x0 x1 x2 ph h
  refine r_iload_n hC dX7_learn_55 rfl 1 rfl ?_
  refine r_if_lt (tgt := 78) hC dX7_learn_56 (by decide) (fun c9 => ?_) (fun c9 => ?_)
  · have h := h.1 c9
    exact hr _ _ _ _ _ dX7_learn_78 (by decide) (by decide) h
  · have h := h.2 c9
    refine r_iload_n hC dX7_learn_59 rfl 1 rfl ?_
    refine r_aload_n hC dX7_learn_60 rfl 0 rfl ?_
    obtain ⟨v61, g61, h⟩ := h
    refine r_get hC (ci := 8) (kf := 0) (N := 4) (Cn := RX7) (T := TX7) rfl (by decide) tin_X7 fl_X7_9 rfl dX7_learn_61 g61 ?_
    obtain ⟨v64, g64, h⟩ := h
    refine r_alen hC dX7_learn_64 g64 ?_
    refine r_icmp_ge (tgt := 78) hC dX7_learn_65 (by decide) (fun c9 => ?_) (fun c9 => ?_)
    · have h := h.1 c9
      exact hr _ _ _ _ _ dX7_learn_78 (by decide) (by decide) h
    · have h := h.2 c9
      refine r_aload_n hC dX7_learn_68 rfl 0 rfl ?_
      obtain ⟨v69, g69, h⟩ := h
      refine r_get hC (ci := 8) (kf := 0) (N := 4) (Cn := RX7) (T := TX7) rfl (by decide) tin_X7 fl_X7_9 rfl dX7_learn_69 g69 ?_
      refine r_iload_n hC dX7_learn_72 rfl 1 rfl ?_
      refine r_aload_n hC dX7_learn_73 rfl 2 rfl ?_
      obtain ⟨v74, g74, h⟩ := h
      refine r_get hC (ci := 10) (kf := 1) (N := 2) (Cn := RX9) (T := TX9) rfl (by decide) tin_X9 fl_X7_24 rfl dX7_learn_74 g74 ?_
      obtain ⟨ph77, g77, h⟩ := h
      refine r_iast hC dX7_learn_77 g77 ?_
      exact hr _ _ _ _ _ dX7_learn_78 (by decide) (by decide) h
set_option maxRecDepth 20000 in
theorem b_X7_learn_2 {C : Cx} {Z : State → Prop} {A : Nat → Prop} {G : GG} {Q : PH → Prop} {X : String → PH → Prop} (hC : CxOk RX7 cX7_learn 5 G A (rmk 2 42 0 0) C) (hAo : Ao (xs C)) (hr : HV C Z A G 5 cX7_learn 0 0 Q) (hx : HX C Z A G 5 0 0 X) (hn : HN C Z A G 5 RX7 cX7_learn 0 0 (rmk 2 42 0 0) X) (hnw : HNW C Z A G 5 RX7 cX7_learn 0 0 (rmk 2 42 0 0) X) (hnx : HNX C Z A G 5 RX7 cX7_learn 0 0 (rmk 2 42 0 0) X) (hi : True) : ∀ (fu : Nat) (x0 : Option Nat) (x1 : Int32) (x2 : Option Nat) (x3 : Int32) (ph : PH), w_X7_learn_2 Q X fu x0 x1 x2 x3 ph → RR C Z A G 5 2 [(0, va_rf x0), (1, .int x1), (2, va_rf x2), (3, .int x3)] [] ph 0 0 := by
  intro fu
  induction fu with
  | zero => intro x0 x1 x2 x3 ph h; exact h.elim
  | succ fu ih =>
    intro x0 x1 x2 x3 ph h
    refine r_iload_n hC dX7_learn_2 rfl 3 rfl ?_
    refine r_aload_n hC dX7_learn_3 rfl 2 rfl ?_
    obtain ⟨v4, g4, h⟩ := h
    refine r_get hC (ci := 10) (kf := 1) (N := 2) (Cn := RX9) (T := TX9) rfl (by decide) tin_X9 fl_X7_24 rfl dX7_learn_4 g4 ?_
    refine r_icmp_ge (tgt := 55) hC dX7_learn_7 (by decide) (fun c9 => ?_) (fun c9 => ?_)
    · have h := h.1 c9
      exact RR.wid (by decide) (by decide) (RR.sub [0, 1, 2] rfl (b_X7_learn_55 hC hAo hr hx hn hnw hnx hi  _ _ _ _ h))
    · have h := h.2 c9
      refine r_iload_n hC dX7_learn_10 rfl 3 rfl ?_
      refine r_iconst (v := 4) hC dX7_learn_11 (by decide) ?_
      refine r_icmp_ge (tgt := 55) hC dX7_learn_12 (by decide) (fun c9 => ?_) (fun c9 => ?_)
      · have h := h.1 c9
        exact RR.wid (by decide) (by decide) (RR.sub [0, 1, 2] rfl (b_X7_learn_55 hC hAo hr hx hn hnw hnx hi  _ _ _ _ h))
      · have h := h.2 c9
        refine r_iconst (v := 4) hC dX7_learn_15 (by decide) ?_
        refine r_iload_n hC dX7_learn_16 rfl 1 rfl ?_
        refine r_imul hC dX7_learn_17 ?_
        refine r_iload_n hC dX7_learn_18 rfl 3 rfl ?_
        refine r_iadd hC dX7_learn_19 ?_
        obtain ⟨v20, ev20⟩ : ∃ z : Int32, z = ((4 : Int32) * x1) + x3 := ⟨_, rfl⟩
        have h := h v20 ev20
        refine RR.to (st' := [.int v20]) (by rw [ev20]) ?_
        refine r_istore (i := 4) (lv' := [(4, .int v20), (0, va_rf x0), (1, .int x1), (2, va_rf x2), (3, .int x3)]) hC dX7_learn_20 (by decide) (by first | rfl | simp [lvs1, lvs2, List.filter, cat_rf, cat_i, cat_j]) ?_
        refine r_iload hC dX7_learn_22 0 rfl ?_
        refine r_if_lt (tgt := 49) hC dX7_learn_24 (by decide) (fun c9 => ?_) (fun c9 => ?_)
        · have h := h.1 c9
          refine r_iinc (w := 4) (v := x3 + 1) (lv' := [(3, .int (x3 + 1)), (4, .int v20), (0, va_rf x0), (1, .int x1), (2, va_rf x2)]) hC dX7_learn_49 rfl rfl (by decide) (by first | rfl | simp [lvs1, List.filter, cat_rf, cat_i, cat_j]) ?_
          refine r_goto (tgt := 2) hC dX7_learn_52 (by decide) ?_
          exact RR.wid (by decide) (by decide) (RR.sub [2, 3, 4, 0] rfl (ih _ _ _ _ _ h))
        · have h := h.2 c9
          refine r_iload hC dX7_learn_27 0 rfl ?_
          refine r_aload_n hC dX7_learn_29 rfl 1 rfl ?_
          obtain ⟨v30, g30, h⟩ := h
          refine r_get hC (ci := 8) (kf := 1) (N := 4) (Cn := RX7) (T := TX7) rfl (by decide) tin_X7 fl_X7_15 rfl dX7_learn_30 g30 ?_
          obtain ⟨v33, g33, h⟩ := h
          refine r_alen hC dX7_learn_33 g33 ?_
          refine r_icmp_ge (tgt := 49) hC dX7_learn_34 (by decide) (fun c9 => ?_) (fun c9 => ?_)
          · have h := h.1 c9
            refine r_iinc (w := 4) (v := x3 + 1) (lv' := [(3, .int (x3 + 1)), (4, .int v20), (0, va_rf x0), (1, .int x1), (2, va_rf x2)]) hC dX7_learn_49 rfl rfl (by decide) (by first | rfl | simp [lvs1, List.filter, cat_rf, cat_i, cat_j]) ?_
            refine r_goto (tgt := 2) hC dX7_learn_52 (by decide) ?_
            exact RR.wid (by decide) (by decide) (RR.sub [2, 3, 4, 0] rfl (ih _ _ _ _ _ h))
          · have h := h.2 c9
            refine r_aload_n hC dX7_learn_37 rfl 1 rfl ?_
            obtain ⟨v38, g38, h⟩ := h
            refine r_get hC (ci := 8) (kf := 1) (N := 4) (Cn := RX7) (T := TX7) rfl (by decide) tin_X7 fl_X7_15 rfl dX7_learn_38 g38 ?_
            refine r_iload hC dX7_learn_41 0 rfl ?_
            refine r_aload_n hC dX7_learn_43 rfl 3 rfl ?_
            refine r_iload_n hC dX7_learn_44 rfl 4 rfl ?_
            obtain ⟨a45, o45, h⟩ := h
            refine r_VI hC hAo [.int x3] cal_X9_letterAt ml_X7_30 (ci := 10) rfl rfl rfl (c_X9_letterAt G _ _ _ _ _ h) o45 ⟨by decide, by decide⟩ ⟨by decide, by decide⟩ (by simp only [List.map_nil, List.map_cons, List.sum_nil, List.sum_cons, cat_rf, cat_i, cat_j]; decide) rfl dX7_learn_45 (fun E u hx9 => hx _ _ _ _ _ _ _ (by decide) (by decide) hx9) (fun v45 ph45 h => ?_)
            refine RR.wid (k' := 0) (n' := 0) (by decide) (by decide) ?_
            obtain ⟨ph48, g48, h⟩ := h
            refine r_iast hC dX7_learn_48 g48 ?_
            refine r_iinc (w := 4) (v := x3 + 1) (lv' := [(3, .int (x3 + 1)), (4, .int v20), (0, va_rf x0), (1, .int x1), (2, va_rf x2)]) hC dX7_learn_49 rfl rfl (by decide) (by first | rfl | simp [lvs1, List.filter, cat_rf, cat_i, cat_j]) ?_
            refine r_goto (tgt := 2) hC dX7_learn_52 (by decide) ?_
            exact RR.wid (by decide) (by decide) (RR.sub [2, 3, 4, 0] rfl (ih _ _ _ _ _ h))
set_option maxRecDepth 20000 in
theorem c_X7_learn (G : GG) (x0 : Nat) (x1 : Int32) (x2 : Option Nat) (ph : PH) (Q : PH → Prop) (X : String → PH → Prop) (h : w_X7_learn x0 x1 x2 ph Q X) : Ct G yX7_learn (.code yX7_learn cX7_learn 5 none) 2 42 0 0 [va_rf (some x0), .int x1, va_rf x2] ph (oV Q) X := by
  refine ct_of (lv0 := [(0, va_rf (some x0)), (1, .int x1), (2, va_rf x2)]) (by decide +kernel) (by simp [lg_sl, cat_rf, cat_i, cat_j]) (by simp [lv_args, cat_rf, cat_i, cat_j]) ?_
  intro C A hC hAo hex hrt hnm
  have hr : HV C (ZM C G A (oV Q) X 0 0) A G 5 cX7_learn 0 0 Q := fun pc lv ph k n d hk hn hq => e_v hC hrt pc lv ph k n d hk hn ⟨rfl, hq⟩
  have hx := e_x (Q := oV Q) (X := X) (mc := 0) (ms := 0) hC hex
  have hn := e_n (Q := oV Q) (X := X) (mc := 0) (ms := 0) hC hex
  have hnw := e_nw (Q := oV Q) (X := X) (mc := 0) (ms := 0) hC hex
  have hnx := e_nx (Q := oV Q) (X := X) (mc := 0) (ms := 0) hC hex
  have hi : True := trivial
  generalize ZM C G A (oV Q) X 0 0 = Z at *
  refine r_iconst (v := 0) hC dX7_learn_0 (by decide) ?_
  refine r_istore_n (i := 3) (lv' := [(3, .int (0 : Int32)), (0, va_rf (some x0)), (1, .int x1), (2, va_rf x2)]) hC dX7_learn_1 rfl (by decide) (by first | rfl | simp [lvs1, lvs2, List.filter, cat_rf, cat_i, cat_j]) ?_
  obtain ⟨fu2, h⟩ := h
  exact RR.wid (by decide) (by decide) (RR.sub [1, 2, 3, 0] rfl (b_X7_learn_2 hC hAo hr hx hn hnw hnx hi  fu2 _ _ _ _ _ h))
