set_option maxRecDepth 20000 in
theorem b_X6_refine_79 {C : Cx} {Z : State → Prop} {A : Nat → Prop} {G : GG} {Q : Int32 → PH → Prop} {X : String → PH → Prop} (hC : CxOk RX6 cX6_refine 6 G A (rmk 3 69 0 0) C) (hAo : Ao (xs C)) (hr : HI C Z A G 6 cX6_refine 0 0 Q) (hx : HX C Z A G 6 0 0 X) (hn : HN C Z A G 6 RX6 cX6_refine 0 0 (rmk 3 69 0 0) X) (hnw : HNW C Z A G 6 RX6 cX6_refine 0 0 (rmk 3 69 0 0) X) (hnx : HNX C Z A G 6 RX6 cX6_refine 0 0 (rmk 3 69 0 0) X) (hi : True) : ∀ (fu : Nat) (x0 : Option Nat) (x1 : Int32) (x3 : Int32) (x4 : Int32) (ph : PH), w_X6_refine_79 Q X fu x0 x1 x3 x4 ph → RR C Z A G 6 79 [(0, va_rf x0), (1, .int x1), (3, .int x3), (4, .int x4)] [] ph 0 0 := by
  intro fu
  induction fu with
  | zero => intro x0 x1 x3 x4 ph h; exact h.elim
  | succ fu ih =>
    intro x0 x1 x3 x4 ph h
    refine r_iload hC dX6_refine_79 3 rfl ?_
    refine r_iload_n hC dX6_refine_81 rfl 1 rfl ?_
    refine r_icmp_ge (tgt := 125) hC dX6_refine_82 (by decide) (fun c9 => ?_) (fun c9 => ?_)
    · have h := h.1 c9
      refine r_iload_n hC dX6_refine_125 rfl 2 rfl ?_
      exact hr _ _ _ _ _ _ dX6_refine_126 (by decide) (by decide) h
    · have h := h.2 c9
      refine r_iload hC dX6_refine_85 3 rfl ?_
      refine r_aload_n hC dX6_refine_87 rfl 0 rfl ?_
      obtain ⟨v88, g88, h⟩ := h
      refine r_get hC (ci := 7) (kf := 6) (N := 11) (Cn := RX6) (T := TX6) rfl (by decide) tin_X6 fl_X6_30 rfl dX6_refine_88 g88 ?_
      obtain ⟨v91, g91, h⟩ := h
      refine r_alen hC dX6_refine_91 g91 ?_
      refine r_icmp_ge (tgt := 125) hC dX6_refine_92 (by decide) (fun c9 => ?_) (fun c9 => ?_)
      · have h := h.1 c9
        refine r_iload_n hC dX6_refine_125 rfl 2 rfl ?_
        exact hr _ _ _ _ _ _ dX6_refine_126 (by decide) (by decide) h
      · have h := h.2 c9
        refine r_iload hC dX6_refine_95 3 rfl ?_
        refine r_aload_n hC dX6_refine_97 rfl 0 rfl ?_
        obtain ⟨v98, g98, h⟩ := h
        refine r_get hC (ci := 7) (kf := 7) (N := 11) (Cn := RX6) (T := TX6) rfl (by decide) tin_X6 fl_X6_33 rfl dX6_refine_98 g98 ?_
        obtain ⟨v101, g101, h⟩ := h
        refine r_alen hC dX6_refine_101 g101 ?_
        refine r_icmp_ge (tgt := 125) hC dX6_refine_102 (by decide) (fun c9 => ?_) (fun c9 => ?_)
        · have h := h.1 c9
          refine r_iload_n hC dX6_refine_125 rfl 2 rfl ?_
          exact hr _ _ _ _ _ _ dX6_refine_126 (by decide) (by decide) h
        · have h := h.2 c9
          refine r_aload_n hC dX6_refine_105 rfl 0 rfl ?_
          obtain ⟨v106, g106, h⟩ := h
          refine r_get hC (ci := 7) (kf := 6) (N := 11) (Cn := RX6) (T := TX6) rfl (by decide) tin_X6 fl_X6_30 rfl dX6_refine_106 g106 ?_
          refine r_iload hC dX6_refine_109 3 rfl ?_
          refine r_aload_n hC dX6_refine_111 rfl 0 rfl ?_
          obtain ⟨v112, g112, h⟩ := h
          refine r_get hC (ci := 7) (kf := 7) (N := 11) (Cn := RX6) (T := TX6) rfl (by decide) tin_X6 fl_X6_33 rfl dX6_refine_112 g112 ?_
          refine r_iload hC dX6_refine_115 3 rfl ?_
          obtain ⟨v117, g117, h⟩ := h
          refine r_iald hC dX6_refine_117 g117 ?_
          obtain ⟨ph118, g118, h⟩ := h
          refine r_iast hC dX6_refine_118 g118 ?_
          refine r_iinc (w := 3) (v := x4 + 1) (lv' := [(4, .int (x4 + 1)), (0, va_rf x0), (1, .int x1), (3, .int x3)]) hC dX6_refine_119 rfl rfl (by decide) (by first | rfl | simp [lvs1, List.filter, cat_rf, cat_i, cat_j]) ?_
          refine r_goto (tgt := 79) hC dX6_refine_122 (by decide) ?_
          exact RR.wid (by decide) (by decide) (RR.sub [1, 2, 3, 0] rfl (ih _ _ _ _ _ h))
set_option maxRecDepth 20000 in
theorem b_X6_refine_5 {C : Cx} {Z : State → Prop} {A : Nat → Prop} {G : GG} {Q : Int32 → PH → Prop} {X : String → PH → Prop} (hC : CxOk RX6 cX6_refine 6 G A (rmk 3 69 0 0) C) (hAo : Ao (xs C)) (hr : HI C Z A G 6 cX6_refine 0 0 Q) (hx : HX C Z A G 6 0 0 X) (hn : HN C Z A G 6 RX6 cX6_refine 0 0 (rmk 3 69 0 0) X) (hnw : HNW C Z A G 6 RX6 cX6_refine 0 0 (rmk 3 69 0 0) X) (hnx : HNX C Z A G 6 RX6 cX6_refine 0 0 (rmk 3 69 0 0) X) (hi : True) : ∀ (fu : Nat) (x0 : Option Nat) (x1 : Int32) (x2 : Int32) (x3 : Int32) (x4 : Int32) (ph : PH), w_X6_refine_5 Q X fu x0 x1 x2 x3 x4 ph → RR C Z A G 6 5 [(0, va_rf x0), (1, .int x1), (2, .int x2), (3, .int x3), (4, .int x4)] [] ph 0 0 := by
  intro fu
  induction fu with
  | zero => intro x0 x1 x2 x3 x4 ph h; exact h.elim
  | succ fu ih =>
    intro x0 x1 x2 x3 x4 ph h
    refine r_iload hC dX6_refine_5 4 rfl ?_
    refine r_iload_n hC dX6_refine_7 rfl 1 rfl ?_
    refine r_icmp_ge (tgt := 76) hC dX6_refine_8 (by decide) (fun c9 => ?_) (fun c9 => ?_)
    · have h := h.1 c9
      refine r_iconst (v := 0) hC dX6_refine_76 (by decide) ?_
      refine r_istore (i := 4) (lv' := [(4, .int (0 : Int32)), (0, va_rf x0), (1, .int x1), (2, .int x2), (3, .int x3)]) hC dX6_refine_77 (by decide) (by first | rfl | simp [lvs1, lvs2, List.filter, cat_rf, cat_i, cat_j]) ?_
      obtain ⟨fu79, h⟩ := h
      exact RR.wid (by decide) (by decide) (RR.sub [1, 2, 4, 0] rfl (b_X6_refine_79 hC hAo hr hx hn hnw hnx hi  fu79 _ _ _ _ _ h))
    · have h := h.2 c9
      refine r_iload hC dX6_refine_11 4 rfl ?_
      refine r_aload_n hC dX6_refine_13 rfl 0 rfl ?_
      obtain ⟨v14, g14, h⟩ := h
      refine r_get hC (ci := 7) (kf := 7) (N := 11) (Cn := RX6) (T := TX6) rfl (by decide) tin_X6 fl_X6_33 rfl dX6_refine_14 g14 ?_
      obtain ⟨v17, g17, h⟩ := h
      refine r_alen hC dX6_refine_17 g17 ?_
      refine r_icmp_ge (tgt := 76) hC dX6_refine_18 (by decide) (fun c9 => ?_) (fun c9 => ?_)
      · have h := h.1 c9
        refine r_iconst (v := 0) hC dX6_refine_76 (by decide) ?_
        refine r_istore (i := 4) (lv' := [(4, .int (0 : Int32)), (0, va_rf x0), (1, .int x1), (2, .int x2), (3, .int x3)]) hC dX6_refine_77 (by decide) (by first | rfl | simp [lvs1, lvs2, List.filter, cat_rf, cat_i, cat_j]) ?_
        obtain ⟨fu79, h⟩ := h
        exact RR.wid (by decide) (by decide) (RR.sub [1, 2, 4, 0] rfl (b_X6_refine_79 hC hAo hr hx hn hnw hnx hi  fu79 _ _ _ _ _ h))
      · have h := h.2 c9
        refine r_aload_n hC dX6_refine_21 rfl 0 rfl ?_
        refine r_iload hC dX6_refine_22 4 rfl ?_
        refine r_iload_n hC dX6_refine_24 rfl 2 rfl ?_
        obtain ⟨a25, o25, h⟩ := h
        refine r_VI hC hAo [.int x4, .int x2] cal_X6_firstLike ml_X6_131 (ci := 7) rfl rfl rfl (c_X6_firstLike G _ _ _ _ _ _ h) o25 ⟨by decide, by decide⟩ ⟨by decide, by decide⟩ (by simp only [List.map_nil, List.map_cons, List.sum_nil, List.sum_cons, cat_rf, cat_i, cat_j]; decide) rfl dX6_refine_25 (fun E u hx9 => hx _ _ _ _ _ _ _ (by decide) (by decide) hx9) (fun v25 ph25 h => ?_)
        refine RR.wid (k' := 0) (n' := 0) (by decide) (by decide) ?_
        refine r_istore (i := 5) (lv' := [(5, .int v25), (0, va_rf x0), (1, .int x1), (2, .int x2), (3, .int x3), (4, .int x4)]) hC dX6_refine_28 (by decide) (by first | rfl | simp [lvs1, lvs2, List.filter, cat_rf, cat_i, cat_j]) ?_
        refine r_iload hC dX6_refine_30 0 rfl ?_
        refine r_iload hC dX6_refine_32 5 rfl ?_
        refine r_icmp_ge (tgt := 59) hC dX6_refine_34 (by decide) (fun c9 => ?_) (fun c9 => ?_)
        · have h := h.1 c9
          refine r_aload_n hC dX6_refine_59 rfl 1 rfl ?_
          obtain ⟨v60, g60, h⟩ := h
          refine r_get hC (ci := 7) (kf := 7) (N := 11) (Cn := RX6) (T := TX6) rfl (by decide) tin_X6 fl_X6_33 rfl dX6_refine_60 g60 ?_
          refine r_iload hC dX6_refine_63 5 rfl ?_
          refine r_iload_n hC dX6_refine_65 rfl 4 rfl ?_
          obtain ⟨ph66, g66, h⟩ := h
          refine r_iast hC dX6_refine_66 g66 ?_
          refine r_iinc (w := 4) (v := x3 + 1) (lv' := [(3, .int (x3 + 1)), (5, .int v25), (0, va_rf x0), (1, .int x1), (2, .int x2), (4, .int x4)]) hC dX6_refine_67 rfl rfl (by decide) (by first | rfl | simp [lvs1, List.filter, cat_rf, cat_i, cat_j]) ?_
          refine r_iinc (w := 5) (v := x4 + 1) (lv' := [(4, .int (x4 + 1)), (3, .int (x3 + 1)), (5, .int v25), (0, va_rf x0), (1, .int x1), (2, .int x2)]) hC dX6_refine_70 rfl rfl (by decide) (by first | rfl | simp [lvs1, List.filter, cat_rf, cat_i, cat_j]) ?_
          refine r_goto (tgt := 5) hC dX6_refine_73 (by decide) ?_
          exact RR.wid (by decide) (by decide) (RR.sub [3, 4, 5, 1, 0] rfl (ih _ _ _ _ _ _ h))
        · have h := h.2 c9
          refine r_iload hC dX6_refine_37 0 rfl ?_
          refine r_if_lt (tgt := 59) hC dX6_refine_39 (by decide) (fun c9 => ?_) (fun c9 => ?_)
          · have h := h.1 c9
            refine r_aload_n hC dX6_refine_59 rfl 1 rfl ?_
            obtain ⟨v60, g60, h⟩ := h
            refine r_get hC (ci := 7) (kf := 7) (N := 11) (Cn := RX6) (T := TX6) rfl (by decide) tin_X6 fl_X6_33 rfl dX6_refine_60 g60 ?_
            refine r_iload hC dX6_refine_63 5 rfl ?_
            refine r_iload_n hC dX6_refine_65 rfl 4 rfl ?_
            obtain ⟨ph66, g66, h⟩ := h
            refine r_iast hC dX6_refine_66 g66 ?_
            refine r_iinc (w := 4) (v := x3 + 1) (lv' := [(3, .int (x3 + 1)), (5, .int v25), (0, va_rf x0), (1, .int x1), (2, .int x2), (4, .int x4)]) hC dX6_refine_67 rfl rfl (by decide) (by first | rfl | simp [lvs1, List.filter, cat_rf, cat_i, cat_j]) ?_
            refine r_iinc (w := 5) (v := x4 + 1) (lv' := [(4, .int (x4 + 1)), (3, .int (x3 + 1)), (5, .int v25), (0, va_rf x0), (1, .int x1), (2, .int x2)]) hC dX6_refine_70 rfl rfl (by decide) (by first | rfl | simp [lvs1, List.filter, cat_rf, cat_i, cat_j]) ?_
            refine r_goto (tgt := 5) hC dX6_refine_73 (by decide) ?_
            exact RR.wid (by decide) (by decide) (RR.sub [3, 4, 5, 1, 0] rfl (ih _ _ _ _ _ _ h))
          · have h := h.2 c9
            refine r_aload_n hC dX6_refine_42 rfl 1 rfl ?_
            obtain ⟨v43, g43, h⟩ := h
            refine r_get hC (ci := 7) (kf := 7) (N := 11) (Cn := RX6) (T := TX6) rfl (by decide) tin_X6 fl_X6_33 rfl dX6_refine_43 g43 ?_
            refine r_iload hC dX6_refine_46 5 rfl ?_
            refine r_aload_n hC dX6_refine_48 rfl 1 rfl ?_
            obtain ⟨v49, g49, h⟩ := h
            refine r_get hC (ci := 7) (kf := 7) (N := 11) (Cn := RX6) (T := TX6) rfl (by decide) tin_X6 fl_X6_33 rfl dX6_refine_49 g49 ?_
            refine r_iload hC dX6_refine_52 0 rfl ?_
            obtain ⟨v54, g54, h⟩ := h
            refine r_iald hC dX6_refine_54 g54 ?_
            obtain ⟨ph55, g55, h⟩ := h
            refine r_iast hC dX6_refine_55 g55 ?_
            refine r_goto (tgt := 70) hC dX6_refine_56 (by decide) ?_
            refine r_iinc (w := 5) (v := x4 + 1) (lv' := [(4, .int (x4 + 1)), (5, .int v25), (0, va_rf x0), (1, .int x1), (2, .int x2), (3, .int x3)]) hC dX6_refine_70 rfl rfl (by decide) (by first | rfl | simp [lvs1, List.filter, cat_rf, cat_i, cat_j]) ?_
            refine r_goto (tgt := 5) hC dX6_refine_73 (by decide) ?_
            exact RR.wid (by decide) (by decide) (RR.sub [2, 3, 4, 5, 0] rfl (ih _ _ _ _ _ _ h))
set_option maxRecDepth 20000 in
theorem c_X6_refine (G : GG) (x0 : Nat) (x1 : Int32) (x2 : Int32) (ph : PH) (Q : Int32 → PH → Prop) (X : String → PH → Prop) (h : w_X6_refine x0 x1 x2 ph Q X) : Ct G yX6_refine (.code yX6_refine cX6_refine 6 (some (.int))) 3 69 0 0 [va_rf (some x0), .int x1, .int x2] ph (oI Q) X := by
  refine ct_of (lv0 := [(0, va_rf (some x0)), (1, .int x1), (2, .int x2)]) (by decide +kernel) (by simp [lg_sl, cat_rf, cat_i, cat_j]) (by simp [lv_args, cat_rf, cat_i, cat_j]) ?_
  intro C A hC hAo hex hrt hnm
  have hr : HI C (ZM C G A (oI Q) X 0 0) A G 6 cX6_refine 0 0 Q := fun pc lv v ph k n d hk hn hq => e_i hC hrt pc lv v ph k n d hk hn ⟨v, rfl, hq⟩
  have hx := e_x (Q := oI Q) (X := X) (mc := 0) (ms := 0) hC hex
  have hn := e_n (Q := oI Q) (X := X) (mc := 0) (ms := 0) hC hex
  have hnw := e_nw (Q := oI Q) (X := X) (mc := 0) (ms := 0) hC hex
  have hnx := e_nx (Q := oI Q) (X := X) (mc := 0) (ms := 0) hC hex
  have hi : True := trivial
  generalize ZM C G A (oI Q) X 0 0 = Z at *
  refine r_iconst (v := 0) hC dX6_refine_0 (by decide) ?_
  refine r_istore_n (i := 3) (lv' := [(3, .int (0 : Int32)), (0, va_rf (some x0)), (1, .int x1), (2, .int x2)]) hC dX6_refine_1 rfl (by decide) (by first | rfl | simp [lvs1, lvs2, List.filter, cat_rf, cat_i, cat_j]) ?_
  refine r_iconst (v := 0) hC dX6_refine_2 (by decide) ?_
  refine r_istore (i := 4) (lv' := [(4, .int (0 : Int32)), (3, .int (0 : Int32)), (0, va_rf (some x0)), (1, .int x1), (2, .int x2)]) hC dX6_refine_3 (by decide) (by first | rfl | simp [lvs1, lvs2, List.filter, cat_rf, cat_i, cat_j]) ?_
  obtain ⟨fu5, h⟩ := h
  exact RR.wid (by decide) (by decide) (RR.sub [2, 3, 4, 1, 0] rfl (b_X6_refine_5 hC hAo hr hx hn hnw hnx hi  fu5 _ _ _ _ _ _ h))
set_option maxRecDepth 20000 in
theorem b_X6_countFutures_33 {C : Cx} {Z : State → Prop} {A : Nat → Prop} {G : GG} {Q : Int32 → PH → Prop} {X : String → PH → Prop} (hC : CxOk RX6 cX6_countFutures 6 G A (rmk 5 120 0 0) C) (hAo : Ao (xs C)) (hr : HI C Z A G 6 cX6_countFutures 0 0 Q) (hx : HX C Z A G 6 0 0 X) (hn : HN C Z A G 6 RX6 cX6_countFutures 0 0 (rmk 5 120 0 0) X) (hnw : HNW C Z A G 6 RX6 cX6_countFutures 0 0 (rmk 5 120 0 0) X) (hnx : HNX C Z A G 6 RX6 cX6_countFutures 0 0 (rmk 5 120 0 0) X) (hi : True) : ∀ (fu : Nat) (x0 : Option Nat) (x1 : Option Nat) (x2 : Int32) (x3 : Int32) (x4 : Int32) (ph : PH), w_X6_countFutures_33 Q X fu x0 x1 x2 x3 x4 ph → RR C Z A G 6 33 [(0, va_rf x0), (1, va_rf x1), (2, .int x2), (3, .int x3), (4, .int x4)] [] ph 0 0 := by
  intro fu
  induction fu with
  | zero => intro x0 x1 x2 x3 x4 ph h; exact h.elim
  | succ fu ih =>
    intro x0 x1 x2 x3 x4 ph h
    refine r_iload hC dX6_countFutures_33 4 rfl ?_
    refine r_bipush (v := 60) hC dX6_countFutures_35 (by decide) ?_
    refine r_icmp_ge (tgt := 69) hC dX6_countFutures_37 (by decide) (fun c9 => ?_) (fun c9 => ?_)
    · have h := h.1 c9
      refine r_iload_n hC dX6_countFutures_69 rfl 3 rfl ?_
      exact hr _ _ _ _ _ _ dX6_countFutures_70 (by decide) (by decide) h
    · have h := h.2 c9
      refine r_aload_n hC dX6_countFutures_40 rfl 0 rfl ?_
      refine r_iload_n hC dX6_countFutures_41 rfl 2 rfl ?_
      refine r_aload_n hC dX6_countFutures_42 rfl 1 rfl ?_
      obtain ⟨v43, g43, h⟩ := h
      refine r_get hC (ci := 6) (kf := 1) (N := 3) (Cn := RX3) (T := TX3) rfl (by decide) tin_X3 fl_X6_82 rfl dX6_countFutures_43 g43 ?_
      obtain ⟨a46, o46, h⟩ := h
      refine r_VI hC hAo [.int x2, .int v43] cal_X6_refine ml_X6_117 (ci := 7) rfl rfl rfl (c_X6_refine G _ _ _ _ _ _ h) o46 ⟨by decide, by decide⟩ ⟨by decide, by decide⟩ (by simp only [List.map_nil, List.map_cons, List.sum_nil, List.sum_cons, cat_rf, cat_i, cat_j]; decide) rfl dX6_countFutures_46 (fun E u hx9 => hx _ _ _ _ _ _ _ (by decide) (by decide) hx9) (fun v46 ph46 h => ?_)
      refine RR.wid (k' := 0) (n' := 0) (by decide) (by decide) ?_
      refine r_istore (i := 5) (lv' := [(5, .int v46), (0, va_rf x0), (1, va_rf x1), (2, .int x2), (3, .int x3), (4, .int x4)]) hC dX6_countFutures_49 (by decide) (by first | rfl | simp [lvs1, lvs2, List.filter, cat_rf, cat_i, cat_j]) ?_
      refine r_iload hC dX6_countFutures_51 0 rfl ?_
      refine r_iload_n hC dX6_countFutures_53 rfl 4 rfl ?_
      refine r_icmp_gt (tgt := 60) hC dX6_countFutures_54 (by decide) (fun c9 => ?_) (fun c9 => ?_)
      · have h := h.1 c9
        refine r_iload hC dX6_countFutures_60 0 rfl ?_
        refine r_istore_n (i := 3) (lv' := [(3, .int v46), (5, .int v46), (0, va_rf x0), (1, va_rf x1), (2, .int x2), (4, .int x4)]) hC dX6_countFutures_62 rfl (by decide) (by first | rfl | simp [lvs1, lvs2, List.filter, cat_rf, cat_i, cat_j]) ?_
        refine r_iinc (w := 5) (v := x4 + 1) (lv' := [(4, .int (x4 + 1)), (3, .int v46), (5, .int v46), (0, va_rf x0), (1, va_rf x1), (2, .int x2)]) hC dX6_countFutures_63 rfl rfl (by decide) (by first | rfl | simp [lvs1, List.filter, cat_rf, cat_i, cat_j]) ?_
        refine r_goto (tgt := 33) hC dX6_countFutures_66 (by decide) ?_
        exact RR.wid (by decide) (by decide) (RR.sub [3, 4, 5, 1, 0] rfl (ih _ _ _ _ _ _ h))
      · have h := h.2 c9
        refine r_goto (tgt := 69) hC dX6_countFutures_57 (by decide) ?_
        refine r_iload_n hC dX6_countFutures_69 rfl 4 rfl ?_
        exact hr _ _ _ _ _ _ dX6_countFutures_70 (by decide) (by decide) h
set_option maxRecDepth 20000 in
theorem b_X6_countFutures_21 {C : Cx} {Z : State → Prop} {A : Nat → Prop} {G : GG} {Q : Int32 → PH → Prop} {X : String → PH → Prop} (hC : CxOk RX6 cX6_countFutures 6 G A (rmk 5 120 0 0) C) (hAo : Ao (xs C)) (hr : HI C Z A G 6 cX6_countFutures 0 0 Q) (hx : HX C Z A G 6 0 0 X) (hn : HN C Z A G 6 RX6 cX6_countFutures 0 0 (rmk 5 120 0 0) X) (hnw : HNW C Z A G 6 RX6 cX6_countFutures 0 0 (rmk 5 120 0 0) X) (hnx : HNX C Z A G 6 RX6 cX6_countFutures 0 0 (rmk 5 120 0 0) X) (hi : True) : ∀ (x0 : Option Nat) (x1 : Option Nat) (x2 : Int32) (s0 : Int32) (ph : PH), w_X6_countFutures_21 Q X x0 x1 x2 s0 ph → RR C Z A G 6 21 [(0, va_rf x0), (1, va_rf x1), (2, .int x2)] [.int s0] ph 0 0 := by
  intro x0 x1 x2 s0 ph h
  refine r_istore_n (i := 3) (lv' := [(3, .int s0), (0, va_rf x0), (1, va_rf x1), (2, .int x2)]) hC dX6_countFutures_21 rfl (by decide) (by first | rfl | simp [lvs1, lvs2, List.filter, cat_rf, cat_i, cat_j]) ?_
  refine r_aload_n hC dX6_countFutures_22 rfl 1 rfl ?_
  obtain ⟨v23, g23, h⟩ := h
  refine r_get hC (ci := 7) (kf := 6) (N := 11) (Cn := RX6) (T := TX6) rfl (by decide) tin_X6 fl_X6_30 rfl dX6_countFutures_23 g23 ?_
  refine r_iconst (v := 0) hC dX6_countFutures_26 (by decide) ?_
  refine r_SV hC hAo [va_rf v23, .int (0 : Int32)] cal_J7_fill_53178 ml_X6_65 rfl (c_J7_fill_53178 G _ _ _ _ _ h) ⟨by decide, by decide⟩ ⟨by decide, by decide⟩ (by simp only [List.map_nil, List.map_cons, List.sum_nil, List.sum_cons, cat_rf, cat_i, cat_j]; decide) rfl dX6_countFutures_27 (fun E u hx9 => hx _ _ _ _ _ _ _ (by decide) (by decide) hx9) (fun ph27 h => ?_)
  refine RR.wid (k' := 0) (n' := 0) (by decide) (by decide) ?_
  refine r_iconst (v := 0) hC dX6_countFutures_30 (by decide) ?_
  refine r_istore (i := 4) (lv' := [(4, .int (0 : Int32)), (3, .int s0), (0, va_rf x0), (1, va_rf x1), (2, .int x2)]) hC dX6_countFutures_31 (by decide) (by first | rfl | simp [lvs1, lvs2, List.filter, cat_rf, cat_i, cat_j]) ?_
  obtain ⟨fu33, h⟩ := h
  exact RR.wid (by decide) (by decide) (RR.sub [2, 3, 4, 1, 0] rfl (b_X6_countFutures_33 hC hAo hr hx hn hnw hnx hi  fu33 _ _ _ _ _ _ h))
set_option maxRecDepth 20000 in
theorem c_X6_countFutures (G : GG) (x0 : Nat) (x1 : Option Nat) (ph : PH) (Q : Int32 → PH → Prop) (X : String → PH → Prop) (h : w_X6_countFutures x0 x1 ph Q X) : Ct G yX6_countFutures (.code yX6_countFutures cX6_countFutures 6 (some (.int))) 5 120 0 0 [va_rf (some x0), va_rf x1] ph (oI Q) X := by
  refine ct_of (lv0 := [(0, va_rf (some x0)), (1, va_rf x1)]) (by decide +kernel) (by simp [lg_sl, cat_rf, cat_i, cat_j]) (by simp [lv_args, cat_rf, cat_i, cat_j]) ?_
  intro C A hC hAo hex hrt hnm
  have hr : HI C (ZM C G A (oI Q) X 0 0) A G 6 cX6_countFutures 0 0 Q := fun pc lv v ph k n d hk hn hq => e_i hC hrt pc lv v ph k n d hk hn ⟨v, rfl, hq⟩
  have hx := e_x (Q := oI Q) (X := X) (mc := 0) (ms := 0) hC hex
  have hn := e_n (Q := oI Q) (X := X) (mc := 0) (ms := 0) hC hex
  have hnw := e_nw (Q := oI Q) (X := X) (mc := 0) (ms := 0) hC hex
  have hnx := e_nx (Q := oI Q) (X := X) (mc := 0) (ms := 0) hC hex
  have hi : True := trivial
  generalize ZM C G A (oI Q) X 0 0 = Z at *
  refine r_aload_n hC dX6_countFutures_0 rfl 0 rfl ?_
  refine r_aload_n hC dX6_countFutures_1 rfl 1 rfl ?_
  obtain ⟨a2, o2, h⟩ := h
  refine r_VI hC hAo [va_rf x1] cal_X6_collectSets ml_X6_113 (ci := 7) rfl rfl rfl (c_X6_collectSets G _ _ _ _ _ h) o2 ⟨by decide, by decide⟩ ⟨by decide, by decide⟩ (by simp only [List.map_nil, List.map_cons, List.sum_nil, List.sum_cons, cat_rf, cat_i, cat_j]; decide) rfl dX6_countFutures_2 (fun E u hx9 => hx _ _ _ _ _ _ _ (by decide) (by decide) hx9) (fun v2 ph2 h => ?_)
  refine RR.wid (k' := 0) (n' := 0) (by decide) (by decide) ?_
  refine r_istore_n (i := 2) (lv' := [(2, .int v2), (0, va_rf (some x0)), (1, va_rf x1)]) hC dX6_countFutures_5 rfl (by decide) (by first | rfl | simp [lvs1, lvs2, List.filter, cat_rf, cat_i, cat_j]) ?_
  refine r_iload_n hC dX6_countFutures_6 rfl 0 rfl ?_
  refine r_if_ge (tgt := 12) hC dX6_countFutures_7 (by decide) (fun c9 => ?_) (fun c9 => ?_)
  · have h := h.1 c9
    refine r_iload_n hC dX6_countFutures_12 rfl 0 rfl ?_
    refine r_if_le (tgt := 20) hC dX6_countFutures_13 (by decide) (fun c9 => ?_) (fun c9 => ?_)
    · have h := h.1 c9
      refine r_iconst (v := 0) hC dX6_countFutures_20 (by decide) ?_
      exact RR.wid (by decide) (by decide) (RR.sub [1, 2, 0] rfl (b_X6_countFutures_21 hC hAo hr hx hn hnw hnx hi  _ _ _ _ _ h))
    · have h := h.2 c9
      refine r_iconst (v := 1) hC dX6_countFutures_16 (by decide) ?_
      refine r_goto (tgt := 21) hC dX6_countFutures_17 (by decide) ?_
      exact RR.wid (by decide) (by decide) (RR.sub [1, 2, 0] rfl (b_X6_countFutures_21 hC hAo hr hx hn hnw hnx hi  _ _ _ _ _ h))
  · have h := h.2 c9
    refine r_iconst (v := -1) hC dX6_countFutures_10 (by decide) ?_
    exact hr _ _ _ _ _ _ dX6_countFutures_11 (by decide) (by decide) h
set_option maxRecDepth 20000 in
theorem c_X11_futures (G : GG) (x0 : Nat) (x1 : Int32) (ph : PH) (Q : Int32 → PH → Prop) (X : String → PH → Prop) (h : w_X11_futures x0 x1 ph Q X) : Ct G yX11_futures (.code yX11_futures cX11_futures 3 (some (.int))) 7 145 2 12 [va_rf (some x0), .int x1] ph (oI Q) X := by
  refine ct_of (lv0 := [(0, va_rf (some x0)), (1, .int x1)]) (by decide +kernel) (by simp [lg_sl, cat_rf, cat_i, cat_j]) (by simp [lv_args, cat_rf, cat_i, cat_j]) ?_
  intro C A hC hAo hex hrt hnm
  have hr : HI C (ZM C G A (oI Q) X 2 12) A G 3 cX11_futures 2 12 Q := fun pc lv v ph k n d hk hn hq => e_i hC hrt pc lv v ph k n d hk hn ⟨v, rfl, hq⟩
  have hx := e_x (Q := oI Q) (X := X) (mc := 2) (ms := 12) hC hex
  have hn := e_n (Q := oI Q) (X := X) (mc := 2) (ms := 12) hC hex
  have hnw := e_nw (Q := oI Q) (X := X) (mc := 2) (ms := 12) hC hex
  have hnx := e_nx (Q := oI Q) (X := X) (mc := 2) (ms := 12) hC hex
  have hi : True := trivial
  generalize ZM C G A (oI Q) X 2 12 = Z at *
  refine r_aload_n hC dX11_futures_0 rfl 0 rfl ?_
  obtain ⟨v1, g1, h⟩ := h
  refine r_get hC (ci := 12) (kf := 7) (N := 12) (Cn := RX11) (T := TX11) rfl (by decide) tin_X11 fl_X11_37 rfl dX11_futures_1 g1 ?_
  refine r_aload_n hC dX11_futures_4 rfl 0 rfl ?_
  refine r_iload_n hC dX11_futures_5 rfl 1 rfl ?_
  obtain ⟨a6, o6, h⟩ := h
  refine r_VR hC hAo [.int x1] cal_X11_shiftAt ml_X11_110 (ci := 12) rfl rfl rfl (c_X11_shiftAt G _ _ _ _ _ h) o6 ⟨by decide, by decide⟩ ⟨by decide, by decide⟩ (by simp only [List.map_nil, List.map_cons, List.sum_nil, List.sum_cons, cat_rf, cat_i, cat_j]; decide) rfl dX11_futures_6 (fun E u hx9 => hx _ _ _ _ _ _ _ (by decide) (by decide) hx9) (fun v6 ph6 h => ?_)
  refine RR.wid (k' := 1) (n' := 6) (by decide) (by decide) ?_
  obtain ⟨a9, o9, h⟩ := h
  refine r_VI hC hAo [va_rf v6] cal_X6_countFutures ml_X11_206 (ci := 7) rfl rfl rfl (c_X6_countFutures G _ _ _ _ _ h) o9 ⟨by decide, by decide⟩ ⟨by decide, by decide⟩ (by simp only [List.map_nil, List.map_cons, List.sum_nil, List.sum_cons, cat_rf, cat_i, cat_j]; decide) rfl dX11_futures_9 (fun E u hx9 => hx _ _ _ _ _ _ _ (by decide) (by decide) hx9) (fun v9 ph9 h => ?_)
  refine RR.wid (k' := 1) (n' := 6) (by decide) (by decide) ?_
  refine r_istore_n (i := 2) (lv' := [(2, .int v9), (0, va_rf (some x0)), (1, .int x1)]) hC dX11_futures_12 rfl (by decide) (by first | rfl | simp [lvs1, lvs2, List.filter, cat_rf, cat_i, cat_j]) ?_
  refine r_iload_n hC dX11_futures_13 rfl 0 rfl ?_
  refine r_if_ge (tgt := 27) hC dX11_futures_14 (by decide) (fun c9 => ?_) (fun c9 => ?_)
  · have h := h.1 c9
    refine r_iload_n hC dX11_futures_27 rfl 0 rfl ?_
    exact hr _ _ _ _ _ _ dX11_futures_28 (by decide) (by decide) h
  · have h := h.2 c9
    exact hn _ _ _ _ _ _ _ _ _ _ _ _ 10 th_X11_142_146 rfl dX11_futures_17 dX11_futures_20 dX11_futures_21 dX11_futures_23 dX11_futures_26 (by decide) (by simp only [List.map_nil, List.map_cons, List.sum_nil, List.sum_cons, cat_rf, cat_i, cat_j]; decide) (by decide) (by decide) (by decide) (by decide) h
set_option maxRecDepth 20000 in
theorem b_X6_isUnlike_18 {C : Cx} {Z : State → Prop} {A : Nat → Prop} {G : GG} {Q : Int32 → PH → Prop} {X : String → PH → Prop} (hC : CxOk RX6 cX6_isUnlike 2 G A (rmk 0 0 0 0) C) (hAo : Ao (xs C)) (hr : HZ C Z A G 2 cX6_isUnlike 0 0 Q) (hx : HX C Z A G 2 0 0 X) (hn : HN C Z A G 2 RX6 cX6_isUnlike 0 0 (rmk 0 0 0 0) X) (hnw : HNW C Z A G 2 RX6 cX6_isUnlike 0 0 (rmk 0 0 0 0) X) (hnx : HNX C Z A G 2 RX6 cX6_isUnlike 0 0 (rmk 0 0 0 0) X) (hi : True) : ∀ (s0 : Int32) (s1 : Int32) (ph : PH), w_X6_isUnlike_18 Q X s0 s1 ph → RR C Z A G 2 18 [] [.int s0, .int s1] ph 0 0 := by
  intro s0 s1 ph h
  refine r_icmp_eq (tgt := 25) hC dX6_isUnlike_18 (by decide) (fun c9 => ?_) (fun c9 => ?_)
  · have h := h.1 c9
    refine r_iconst (v := 0) hC dX6_isUnlike_25 (by decide) ?_
    exact hr _ _ _ _ _ _ dX6_isUnlike_26 (by decide) (by decide) h
  · have h := h.2 c9
    refine r_iconst (v := 1) hC dX6_isUnlike_21 (by decide) ?_
    refine r_goto (tgt := 26) hC dX6_isUnlike_22 (by decide) ?_
    exact hr _ _ _ _ _ _ dX6_isUnlike_26 (by decide) (by decide) h
set_option maxRecDepth 20000 in
theorem b_X6_isUnlike_9 {C : Cx} {Z : State → Prop} {A : Nat → Prop} {G : GG} {Q : Int32 → PH → Prop} {X : String → PH → Prop} (hC : CxOk RX6 cX6_isUnlike 2 G A (rmk 0 0 0 0) C) (hAo : Ao (xs C)) (hr : HZ C Z A G 2 cX6_isUnlike 0 0 Q) (hx : HX C Z A G 2 0 0 X) (hn : HN C Z A G 2 RX6 cX6_isUnlike 0 0 (rmk 0 0 0 0) X) (hnw : HNW C Z A G 2 RX6 cX6_isUnlike 0 0 (rmk 0 0 0 0) X) (hnx : HNX C Z A G 2 RX6 cX6_isUnlike 0 0 (rmk 0 0 0 0) X) (hi : True) : ∀ (x1 : Int32) (s0 : Int32) (ph : PH), w_X6_isUnlike_9 Q X x1 s0 ph → RR C Z A G 2 9 [(1, .int x1)] [.int s0] ph 0 0 := by
  intro x1 s0 ph h
  refine r_iload_n hC dX6_isUnlike_9 rfl 0 rfl ?_
  refine r_if_ne (tgt := 17) hC dX6_isUnlike_10 (by decide) (fun c9 => ?_) (fun c9 => ?_)
  · have h := h.1 c9
    refine r_iconst (v := 0) hC dX6_isUnlike_17 (by decide) ?_
    exact RR.wid (by decide) (by decide) (RR.sub [] rfl (b_X6_isUnlike_18 hC hAo hr hx hn hnw hnx hi  _ _ _ h))
  · have h := h.2 c9
    refine r_iconst (v := 1) hC dX6_isUnlike_13 (by decide) ?_
    refine r_goto (tgt := 18) hC dX6_isUnlike_14 (by decide) ?_
    exact RR.wid (by decide) (by decide) (RR.sub [] rfl (b_X6_isUnlike_18 hC hAo hr hx hn hnw hnx hi  _ _ _ h))
set_option maxRecDepth 20000 in
theorem c_X6_isUnlike (G : GG) (x0 : Int32) (x1 : Int32) (ph : PH) (Q : Int32 → PH → Prop) (X : String → PH → Prop) (h : w_X6_isUnlike x0 x1 ph Q X) : Ct G yX6_isUnlike (.code yX6_isUnlike cX6_isUnlike 2 (some (.boolean))) 0 0 0 0 [.int x0, .int x1] ph (oI Q) X := by
  refine ct_of (lv0 := [(0, .int x0), (1, .int x1)]) (by decide +kernel) (by simp [lg_sl, cat_rf, cat_i, cat_j]) (by simp [lv_args, cat_rf, cat_i, cat_j]) ?_
  intro C A hC hAo hex hrt hnm
  have hr : HZ C (ZM C G A (oI Q) X 0 0) A G 2 cX6_isUnlike 0 0 Q := fun pc lv v ph k n d hk hn hq => e_s hC (ty := .boolean) hrt pc lv v ph k n d hk hn ⟨hq.1, v, rfl, hq.2⟩
  have hx := e_x (Q := oI Q) (X := X) (mc := 0) (ms := 0) hC hex
  have hn := e_n (Q := oI Q) (X := X) (mc := 0) (ms := 0) hC hex
  have hnw := e_nw (Q := oI Q) (X := X) (mc := 0) (ms := 0) hC hex
  have hnx := e_nx (Q := oI Q) (X := X) (mc := 0) (ms := 0) hC hex
  have hi : True := trivial
  generalize ZM C G A (oI Q) X 0 0 = Z at *
  refine r_iload_n hC dX6_isUnlike_0 rfl 0 rfl ?_
  refine r_if_ne (tgt := 8) hC dX6_isUnlike_1 (by decide) (fun c9 => ?_) (fun c9 => ?_)
  · have h := h.1 c9
    refine r_iconst (v := 0) hC dX6_isUnlike_8 (by decide) ?_
    exact RR.wid (by decide) (by decide) (RR.sub [1] rfl (b_X6_isUnlike_9 hC hAo hr hx hn hnw hnx hi  _ _ _ h))
  · have h := h.2 c9
    refine r_iconst (v := 1) hC dX6_isUnlike_4 (by decide) ?_
    refine r_goto (tgt := 9) hC dX6_isUnlike_5 (by decide) ?_
    exact RR.wid (by decide) (by decide) (RR.sub [1] rfl (b_X6_isUnlike_9 hC hAo hr hx hn hnw hnx hi  _ _ _ h))
set_option maxRecDepth 20000 in
theorem c_X6_keepPair (G : GG) (x0 : Nat) (x1 : Int32) (x2 : Int32) (x3 : Int32) (ph : PH) (Q : PH → Prop) (X : String → PH → Prop) (h : w_X6_keepPair x0 x1 x2 x3 ph Q X) : Ct G yX6_keepPair (.code yX6_keepPair cX6_keepPair 4 none) 0 0 0 0 [va_rf (some x0), .int x1, .int x2, .int x3] ph (oV Q) X := by
  refine ct_of (lv0 := [(0, va_rf (some x0)), (1, .int x1), (2, .int x2), (3, .int x3)]) (by decide +kernel) (by simp [lg_sl, cat_rf, cat_i, cat_j]) (by simp [lv_args, cat_rf, cat_i, cat_j]) ?_
  intro C A hC hAo hex hrt hnm
  have hr : HV C (ZM C G A (oV Q) X 0 0) A G 4 cX6_keepPair 0 0 Q := fun pc lv ph k n d hk hn hq => e_v hC hrt pc lv ph k n d hk hn ⟨rfl, hq⟩
  have hx := e_x (Q := oV Q) (X := X) (mc := 0) (ms := 0) hC hex
  have hn := e_n (Q := oV Q) (X := X) (mc := 0) (ms := 0) hC hex
  have hnw := e_nw (Q := oV Q) (X := X) (mc := 0) (ms := 0) hC hex
  have hnx := e_nx (Q := oV Q) (X := X) (mc := 0) (ms := 0) hC hex
  have hi : True := trivial
  generalize ZM C G A (oV Q) X 0 0 = Z at *
  refine r_iload_n hC dX6_keepPair_0 rfl 1 rfl ?_
  refine r_if_lt (tgt := 36) hC dX6_keepPair_1 (by decide) (fun c9 => ?_) (fun c9 => ?_)
  · have h := h.1 c9
    exact hr _ _ _ _ _ dX6_keepPair_36 (by decide) (by decide) h
  · have h := h.2 c9
    refine r_iload_n hC dX6_keepPair_4 rfl 1 rfl ?_
    refine r_aload_n hC dX6_keepPair_5 rfl 0 rfl ?_
    obtain ⟨v6, g6, h⟩ := h
    refine r_get hC (ci := 7) (kf := 8) (N := 11) (Cn := RX6) (T := TX6) rfl (by decide) tin_X6 fl_X6_36 rfl dX6_keepPair_6 g6 ?_
    obtain ⟨v9, g9, h⟩ := h
    refine r_alen hC dX6_keepPair_9 g9 ?_
    refine r_icmp_ge (tgt := 36) hC dX6_keepPair_10 (by decide) (fun c9 => ?_) (fun c9 => ?_)
    · have h := h.1 c9
      exact hr _ _ _ _ _ dX6_keepPair_36 (by decide) (by decide) h
    · have h := h.2 c9
      refine r_iload_n hC dX6_keepPair_13 rfl 1 rfl ?_
      refine r_aload_n hC dX6_keepPair_14 rfl 0 rfl ?_
      obtain ⟨v15, g15, h⟩ := h
      refine r_get hC (ci := 7) (kf := 9) (N := 11) (Cn := RX6) (T := TX6) rfl (by decide) tin_X6 fl_X6_39 rfl dX6_keepPair_15 g15 ?_
      obtain ⟨v18, g18, h⟩ := h
      refine r_alen hC dX6_keepPair_18 g18 ?_
      refine r_icmp_ge (tgt := 36) hC dX6_keepPair_19 (by decide) (fun c9 => ?_) (fun c9 => ?_)
      · have h := h.1 c9
        exact hr _ _ _ _ _ dX6_keepPair_36 (by decide) (by decide) h
      · have h := h.2 c9
        refine r_aload_n hC dX6_keepPair_22 rfl 0 rfl ?_
        obtain ⟨v23, g23, h⟩ := h
        refine r_get hC (ci := 7) (kf := 8) (N := 11) (Cn := RX6) (T := TX6) rfl (by decide) tin_X6 fl_X6_36 rfl dX6_keepPair_23 g23 ?_
        refine r_iload_n hC dX6_keepPair_26 rfl 1 rfl ?_
        refine r_iload_n hC dX6_keepPair_27 rfl 2 rfl ?_
        obtain ⟨ph28, g28, h⟩ := h
        refine r_iast hC dX6_keepPair_28 g28 ?_
        refine r_aload_n hC dX6_keepPair_29 rfl 0 rfl ?_
        obtain ⟨v30, g30, h⟩ := h
        refine r_get hC (ci := 7) (kf := 9) (N := 11) (Cn := RX6) (T := TX6) rfl (by decide) tin_X6 fl_X6_39 rfl dX6_keepPair_30 g30 ?_
        refine r_iload_n hC dX6_keepPair_33 rfl 1 rfl ?_
        refine r_iload_n hC dX6_keepPair_34 rfl 3 rfl ?_
        obtain ⟨ph35, g35, h⟩ := h
        refine r_iast hC dX6_keepPair_35 g35 ?_
        exact hr _ _ _ _ _ dX6_keepPair_36 (by decide) (by decide) h
set_option maxRecDepth 20000 in
theorem b_X6_isMet_3 {C : Cx} {Z : State → Prop} {A : Nat → Prop} {G : GG} {Q : Int32 → PH → Prop} {X : String → PH → Prop} (hC : CxOk RX6 cX6_isMet 5 G A (rmk 0 0 0 0) C) (hAo : Ao (xs C)) (hr : HZ C Z A G 5 cX6_isMet 0 0 Q) (hx : HX C Z A G 5 0 0 X) (hn : HN C Z A G 5 RX6 cX6_isMet 0 0 (rmk 0 0 0 0) X) (hnw : HNW C Z A G 5 RX6 cX6_isMet 0 0 (rmk 0 0 0 0) X) (hnx : HNX C Z A G 5 RX6 cX6_isMet 0 0 (rmk 0 0 0 0) X) (hi : True) : ∀ (fu : Nat) (x0 : Option Nat) (x1 : Int32) (x2 : Int32) (x3 : Int32) (x4 : Int32) (ph : PH), w_X6_isMet_3 Q X fu x0 x1 x2 x3 x4 ph → RR C Z A G 5 3 [(0, va_rf x0), (1, .int x1), (2, .int x2), (3, .int x3), (4, .int x4)] [] ph 0 0 := by
  intro fu
  induction fu with
  | zero => intro x0 x1 x2 x3 x4 ph h; exact h.elim
  | succ fu ih =>
    intro x0 x1 x2 x3 x4 ph h
    refine r_iload hC dX6_isMet_3 4 rfl ?_
    refine r_iload_n hC dX6_isMet_5 rfl 3 rfl ?_
    refine r_icmp_ge (tgt := 59) hC dX6_isMet_6 (by decide) (fun c9 => ?_) (fun c9 => ?_)
    · have h := h.1 c9
      refine r_iconst (v := 0) hC dX6_isMet_59 (by decide) ?_
      exact hr _ _ _ _ _ _ dX6_isMet_60 (by decide) (by decide) h
    · have h := h.2 c9
      refine r_iload hC dX6_isMet_9 4 rfl ?_
      refine r_aload_n hC dX6_isMet_11 rfl 0 rfl ?_
      obtain ⟨v12, g12, h⟩ := h
      refine r_get hC (ci := 7) (kf := 8) (N := 11) (Cn := RX6) (T := TX6) rfl (by decide) tin_X6 fl_X6_36 rfl dX6_isMet_12 g12 ?_
      obtain ⟨v15, g15, h⟩ := h
      refine r_alen hC dX6_isMet_15 g15 ?_
      refine r_icmp_ge (tgt := 59) hC dX6_isMet_16 (by decide) (fun c9 => ?_) (fun c9 => ?_)
      · have h := h.1 c9
        refine r_iconst (v := 0) hC dX6_isMet_59 (by decide) ?_
        exact hr _ _ _ _ _ _ dX6_isMet_60 (by decide) (by decide) h
      · have h := h.2 c9
        refine r_iload hC dX6_isMet_19 4 rfl ?_
        refine r_aload_n hC dX6_isMet_21 rfl 0 rfl ?_
        obtain ⟨v22, g22, h⟩ := h
        refine r_get hC (ci := 7) (kf := 9) (N := 11) (Cn := RX6) (T := TX6) rfl (by decide) tin_X6 fl_X6_39 rfl dX6_isMet_22 g22 ?_
        obtain ⟨v25, g25, h⟩ := h
        refine r_alen hC dX6_isMet_25 g25 ?_
        refine r_icmp_ge (tgt := 59) hC dX6_isMet_26 (by decide) (fun c9 => ?_) (fun c9 => ?_)
        · have h := h.1 c9
          refine r_iconst (v := 0) hC dX6_isMet_59 (by decide) ?_
          exact hr _ _ _ _ _ _ dX6_isMet_60 (by decide) (by decide) h
        · have h := h.2 c9
          refine r_aload_n hC dX6_isMet_29 rfl 0 rfl ?_
          obtain ⟨v30, g30, h⟩ := h
          refine r_get hC (ci := 7) (kf := 8) (N := 11) (Cn := RX6) (T := TX6) rfl (by decide) tin_X6 fl_X6_36 rfl dX6_isMet_30 g30 ?_
          refine r_iload hC dX6_isMet_33 4 rfl ?_
          obtain ⟨v35, g35, h⟩ := h
          refine r_iald hC dX6_isMet_35 g35 ?_
          refine r_iload_n hC dX6_isMet_36 rfl 1 rfl ?_
          refine r_icmp_ne (tgt := 53) hC dX6_isMet_37 (by decide) (fun c9 => ?_) (fun c9 => ?_)
          · have h := h.1 c9
            refine r_iinc (w := 4) (v := x4 + 1) (lv' := [(4, .int (x4 + 1)), (0, va_rf x0), (1, .int x1), (2, .int x2), (3, .int x3)]) hC dX6_isMet_53 rfl rfl (by decide) (by first | rfl | simp [lvs1, List.filter, cat_rf, cat_i, cat_j]) ?_
            refine r_goto (tgt := 3) hC dX6_isMet_56 (by decide) ?_
            exact RR.wid (by decide) (by decide) (RR.sub [1, 2, 3, 4, 0] rfl (ih _ _ _ _ _ _ h))
          · have h := h.2 c9
            refine r_aload_n hC dX6_isMet_40 rfl 0 rfl ?_
            obtain ⟨v41, g41, h⟩ := h
            refine r_get hC (ci := 7) (kf := 9) (N := 11) (Cn := RX6) (T := TX6) rfl (by decide) tin_X6 fl_X6_39 rfl dX6_isMet_41 g41 ?_
            refine r_iload hC dX6_isMet_44 4 rfl ?_
            obtain ⟨v46, g46, h⟩ := h
            refine r_iald hC dX6_isMet_46 g46 ?_
            refine r_iload_n hC dX6_isMet_47 rfl 2 rfl ?_
            refine r_icmp_ne (tgt := 53) hC dX6_isMet_48 (by decide) (fun c9 => ?_) (fun c9 => ?_)
            · have h := h.1 c9
              refine r_iinc (w := 4) (v := x4 + 1) (lv' := [(4, .int (x4 + 1)), (0, va_rf x0), (1, .int x1), (2, .int x2), (3, .int x3)]) hC dX6_isMet_53 rfl rfl (by decide) (by first | rfl | simp [lvs1, List.filter, cat_rf, cat_i, cat_j]) ?_
              refine r_goto (tgt := 3) hC dX6_isMet_56 (by decide) ?_
              exact RR.wid (by decide) (by decide) (RR.sub [1, 2, 3, 4, 0] rfl (ih _ _ _ _ _ _ h))
            · have h := h.2 c9
              refine r_iconst (v := 1) hC dX6_isMet_51 (by decide) ?_
              exact hr _ _ _ _ _ _ dX6_isMet_52 (by decide) (by decide) h
set_option maxRecDepth 20000 in
theorem c_X6_isMet (G : GG) (x0 : Nat) (x1 : Int32) (x2 : Int32) (x3 : Int32) (ph : PH) (Q : Int32 → PH → Prop) (X : String → PH → Prop) (h : w_X6_isMet x0 x1 x2 x3 ph Q X) : Ct G yX6_isMet (.code yX6_isMet cX6_isMet 5 (some (.boolean))) 0 0 0 0 [va_rf (some x0), .int x1, .int x2, .int x3] ph (oI Q) X := by
  refine ct_of (lv0 := [(0, va_rf (some x0)), (1, .int x1), (2, .int x2), (3, .int x3)]) (by decide +kernel) (by simp [lg_sl, cat_rf, cat_i, cat_j]) (by simp [lv_args, cat_rf, cat_i, cat_j]) ?_
  intro C A hC hAo hex hrt hnm
  have hr : HZ C (ZM C G A (oI Q) X 0 0) A G 5 cX6_isMet 0 0 Q := fun pc lv v ph k n d hk hn hq => e_s hC (ty := .boolean) hrt pc lv v ph k n d hk hn ⟨hq.1, v, rfl, hq.2⟩
  have hx := e_x (Q := oI Q) (X := X) (mc := 0) (ms := 0) hC hex
  have hn := e_n (Q := oI Q) (X := X) (mc := 0) (ms := 0) hC hex
  have hnw := e_nw (Q := oI Q) (X := X) (mc := 0) (ms := 0) hC hex
  have hnx := e_nx (Q := oI Q) (X := X) (mc := 0) (ms := 0) hC hex
  have hi : True := trivial
  generalize ZM C G A (oI Q) X 0 0 = Z at *
  refine r_iconst (v := 0) hC dX6_isMet_0 (by decide) ?_
  refine r_istore (i := 4) (lv' := [(4, .int (0 : Int32)), (0, va_rf (some x0)), (1, .int x1), (2, .int x2), (3, .int x3)]) hC dX6_isMet_1 (by decide) (by first | rfl | simp [lvs1, lvs2, List.filter, cat_rf, cat_i, cat_j]) ?_
  obtain ⟨fu3, h⟩ := h
  exact RR.wid (by decide) (by decide) (RR.sub [1, 2, 3, 4, 0] rfl (b_X6_isMet_3 hC hAo hr hx hn hnw hnx hi  fu3 _ _ _ _ _ _ h))
set_option maxRecDepth 20000 in
theorem b_X6_match_84 {C : Cx} {Z : State → Prop} {A : Nat → Prop} {G : GG} {Q : Int32 → PH → Prop} {X : String → PH → Prop} {K36 : Option Nat → Option Nat → Option Nat → Int32 → Int32 → Int32 → Int32 → PH → Prop} (hC : CxOk RX6 cX6_match 12 G A (rmk 4 93 0 0) C) (hAo : Ao (xs C)) (hr : HI C Z A G 12 cX6_match 0 0 Q) (hx : HX C Z A G 12 0 0 X) (hn : HN C Z A G 12 RX6 cX6_match 0 0 (rmk 4 93 0 0) X) (hnw : HNW C Z A G 12 RX6 cX6_match 0 0 (rmk 4 93 0 0) X) (hnx : HNX C Z A G 12 RX6 cX6_match 0 0 (rmk 4 93 0 0) X) (hi : True) (hK36 : ∀ (x0 : Option Nat) (x1 : Option Nat) (x2 : Option Nat) (x3 : Int32) (x4 : Int32) (x5 : Int32) (x6 : Int32) (ph : PH), K36 x0 x1 x2 x3 x4 x5 x6 ph → RR C Z A G 12 36 [(0, va_rf x0), (1, va_rf x1), (2, va_rf x2), (3, .int x3), (4, .int x4), (5, .int x5), (6, .int x6)] [] ph 0 0) : ∀ (fu : Nat) (x0 : Option Nat) (x1 : Option Nat) (x2 : Option Nat) (x3 : Int32) (x4 : Int32) (x5 : Int32) (x6 : Int32) (x7 : Int32) (x8 : Int32) (x9 : Int32) (ph : PH), w_X6_match_84 Q X K36 fu x0 x1 x2 x3 x4 x5 x6 x7 x8 x9 ph → RR C Z A G 12 84 [(0, va_rf x0), (1, va_rf x1), (2, va_rf x2), (3, .int x3), (4, .int x4), (5, .int x5), (6, .int x6), (7, .int x7), (8, .int x8), (9, .int x9)] [] ph 0 0 := by
  intro fu
  induction fu with
  | zero => intro x0 x1 x2 x3 x4 x5 x6 x7 x8 x9 ph h; exact h.elim
  | succ fu ih =>
    intro x0 x1 x2 x3 x4 x5 x6 x7 x8 x9 ph h
    refine r_iload hC dX6_match_84 9 rfl ?_
    refine r_aload_n hC dX6_match_86 rfl 1 rfl ?_
    obtain ⟨v87, g87, h⟩ := h
    refine r_get hC (ci := 6) (kf := 1) (N := 3) (Cn := RX3) (T := TX3) rfl (by decide) tin_X3 fl_X6_82 rfl dX6_match_87 g87 ?_
    refine r_icmp_ge (tgt := 177) hC dX6_match_90 (by decide) (fun c9 => ?_) (fun c9 => ?_)
    · have h := h.1 c9
      refine r_iinc (w := 6) (v := x6 + 1) (lv' := [(6, .int (x6 + 1)), (0, va_rf x0), (1, va_rf x1), (2, va_rf x2), (3, .int x3), (4, .int x4), (5, .int x5), (7, .int x7), (8, .int x8), (9, .int x9)]) hC dX6_match_177 rfl rfl (by decide) (by first | rfl | simp [lvs1, List.filter, cat_rf, cat_i, cat_j]) ?_
      refine r_goto (tgt := 36) hC dX6_match_180 (by decide) ?_
      exact RR.wid (by decide) (by decide) (RR.sub [1, 2, 3, 4, 5, 6, 0] rfl (hK36 _ _ _ _ _ _ _ _ h))
    · have h := h.2 c9
      refine r_iload hC dX6_match_93 7 rfl ?_
      refine r_if_eq (tgt := 177) hC dX6_match_95 (by decide) (fun c9 => ?_) (fun c9 => ?_)
      · have h := h.1 c9
        refine r_iinc (w := 6) (v := x6 + 1) (lv' := [(6, .int (x6 + 1)), (0, va_rf x0), (1, va_rf x1), (2, va_rf x2), (3, .int x3), (4, .int x4), (5, .int x5), (7, .int x7), (8, .int x8), (9, .int x9)]) hC dX6_match_177 rfl rfl (by decide) (by first | rfl | simp [lvs1, List.filter, cat_rf, cat_i, cat_j]) ?_
        refine r_goto (tgt := 36) hC dX6_match_180 (by decide) ?_
        exact RR.wid (by decide) (by decide) (RR.sub [1, 2, 3, 4, 5, 6, 0] rfl (hK36 _ _ _ _ _ _ _ _ h))
      · have h := h.2 c9
        refine r_aload_n hC dX6_match_98 rfl 1 rfl ?_
        refine r_iload hC dX6_match_99 7 rfl ?_
        refine r_iload hC dX6_match_101 9 rfl ?_
        obtain ⟨a103, o103, h⟩ := h
        refine r_VI hC hAo [.int x7, .int x9] cal_X3_read ml_X6_61 (ci := 6) rfl rfl rfl (c_X3_read G _ _ _ _ _ _ h) o103 ⟨by decide, by decide⟩ ⟨by decide, by decide⟩ (by simp only [List.map_nil, List.map_cons, List.sum_nil, List.sum_cons, cat_rf, cat_i, cat_j]; decide) rfl dX6_match_103 (fun E u hx9 => hx _ _ _ _ _ _ _ (by decide) (by decide) hx9) (fun v103 ph103 h => ?_)
        refine RR.wid (k' := 0) (n' := 0) (by decide) (by decide) ?_
        refine r_iload_n hC dX6_match_106 rfl 3 rfl ?_
        refine r_iand hC dX6_match_107 ?_
        obtain ⟨v108, ev108⟩ : ∃ z : Int32, z = v103 &&& x3 := ⟨_, rfl⟩
        have h := h v108 ev108
        refine RR.to (st' := [.int v108]) (by rw [ev108]) ?_
        refine r_istore (i := 10) (lv' := [(10, .int v108), (0, va_rf x0), (1, va_rf x1), (2, va_rf x2), (3, .int x3), (4, .int x4), (5, .int x5), (6, .int x6), (7, .int x7), (8, .int x8), (9, .int x9)]) hC dX6_match_108 (by decide) (by first | rfl | simp [lvs1, lvs2, List.filter, cat_rf, cat_i, cat_j]) ?_
        refine r_aload_n hC dX6_match_110 rfl 3 rfl ?_
        refine r_iload hC dX6_match_111 9 rfl ?_
        refine r_iload hC dX6_match_113 10 rfl ?_
        obtain ⟨a115, o115, h⟩ := h
        refine r_VI hC hAo [.int x8, .int x9] cal_X3_read ml_X6_61 (ci := 6) rfl rfl rfl (c_X3_read G _ _ _ _ _ _ h) o115 ⟨by decide, by decide⟩ ⟨by decide, by decide⟩ (by simp only [List.map_nil, List.map_cons, List.sum_nil, List.sum_cons, cat_rf, cat_i, cat_j]; decide) rfl dX6_match_115 (fun E u hx9 => hx _ _ _ _ _ _ _ (by decide) (by decide) hx9) (fun v115 ph115 h => ?_)
        refine RR.wid (k' := 0) (n' := 0) (by decide) (by decide) ?_
        refine r_iload hC dX6_match_118 5 rfl ?_
        refine r_iand hC dX6_match_120 ?_
        obtain ⟨v121, ev121⟩ : ∃ z : Int32, z = v115 &&& x4 := ⟨_, rfl⟩
        have h := h v121 ev121
        refine RR.to (st' := [.int v121]) (by rw [ev121]) ?_
        refine r_istore (i := 11) (lv' := [(11, .int v121), (10, .int v108), (0, va_rf x0), (1, va_rf x1), (2, va_rf x2), (3, .int x3), (4, .int x4), (5, .int x5), (6, .int x6), (7, .int x7), (8, .int x8), (9, .int x9)]) hC dX6_match_121 (by decide) (by first | rfl | simp [lvs1, lvs2, List.filter, cat_rf, cat_i, cat_j]) ?_
        refine r_iload hC dX6_match_123 1 rfl ?_
        refine r_iload hC dX6_match_125 0 rfl ?_
        refine r_SI hC hAo [.int v108, .int v121] cal_X6_isUnlike ml_X6_140 rfl (c_X6_isUnlike G _ _ _ _ _ h) ⟨by decide, by decide⟩ ⟨by decide, by decide⟩ (by simp only [List.map_nil, List.map_cons, List.sum_nil, List.sum_cons, cat_rf, cat_i, cat_j]; decide) rfl dX6_match_127 (fun E u hx9 => hx _ _ _ _ _ _ _ (by decide) (by decide) hx9) (fun v127 ph127 h => ?_)
        refine RR.wid (k' := 0) (n' := 0) (by decide) (by decide) ?_
        refine r_if_eq (tgt := 135) hC dX6_match_130 (by decide) (fun c9 => ?_) (fun c9 => ?_)
        · have h := h.1 c9
          refine r_aload_n hC dX6_match_135 rfl 2 rfl ?_
          refine r_iload hC dX6_match_136 1 rfl ?_
          refine r_iload hC dX6_match_138 0 rfl ?_
          refine r_iload hC dX6_match_140 7 rfl ?_
          obtain ⟨a142, o142, h⟩ := h
          refine r_VI hC hAo [.int v108, .int v121, .int x5] cal_X6_isMet ml_X6_146 (ci := 7) rfl rfl rfl (c_X6_isMet G _ _ _ _ _ _ _ h) o142 ⟨by decide, by decide⟩ ⟨by decide, by decide⟩ (by simp only [List.map_nil, List.map_cons, List.sum_nil, List.sum_cons, cat_rf, cat_i, cat_j]; decide) rfl dX6_match_142 (fun E u hx9 => hx _ _ _ _ _ _ _ (by decide) (by decide) hx9) (fun v142 ph142 h => ?_)
          refine RR.wid (k' := 0) (n' := 0) (by decide) (by decide) ?_
          refine r_if_ne (tgt := 171) hC dX6_match_145 (by decide) (fun c9 => ?_) (fun c9 => ?_)
          · have h := h.1 c9
            refine r_iinc (w := 11) (v := x9 + 1) (lv' := [(9, .int (x9 + 1)), (11, .int v121), (10, .int v108), (0, va_rf x0), (1, va_rf x1), (2, va_rf x2), (3, .int x3), (4, .int x4), (5, .int x5), (6, .int x6), (7, .int x7), (8, .int x8)]) hC dX6_match_171 rfl rfl (by decide) (by first | rfl | simp [lvs1, List.filter, cat_rf, cat_i, cat_j]) ?_
            refine r_goto (tgt := 84) hC dX6_match_174 (by decide) ?_
            exact RR.wid (by decide) (by decide) (RR.sub [3, 4, 5, 6, 7, 8, 9, 10, 11, 0] rfl (ih _ _ _ _ _ _ _ _ _ _ _ h))
          · have h := h.2 c9
            refine r_iload hC dX6_match_148 7 rfl ?_
            refine r_sipush (v := 400) hC dX6_match_150 (by decide) ?_
            refine r_icmp_lt (tgt := 158) hC dX6_match_153 (by decide) (fun c9 => ?_) (fun c9 => ?_)
            · have h := h.1 c9
              refine r_aload_n hC dX6_match_158 rfl 2 rfl ?_
              refine r_iload hC dX6_match_159 7 rfl ?_
              refine r_iload hC dX6_match_161 1 rfl ?_
              refine r_iload hC dX6_match_163 0 rfl ?_
              obtain ⟨a165, o165, h⟩ := h
              refine r_VV hC hAo [.int x5, .int v108, .int v121] cal_X6_keepPair ml_X6_143 (ci := 7) rfl rfl rfl (c_X6_keepPair G _ _ _ _ _ _ _ h) o165 ⟨by decide, by decide⟩ ⟨by decide, by decide⟩ (by simp only [List.map_nil, List.map_cons, List.sum_nil, List.sum_cons, cat_rf, cat_i, cat_j]; decide) rfl dX6_match_165 (fun E u hx9 => hx _ _ _ _ _ _ _ (by decide) (by decide) hx9) (fun ph165 h => ?_)
              refine RR.wid (k' := 0) (n' := 0) (by decide) (by decide) ?_
              refine r_iinc (w := 7) (v := x5 + 1) (lv' := [(5, .int (x5 + 1)), (11, .int v121), (10, .int v108), (0, va_rf x0), (1, va_rf x1), (2, va_rf x2), (3, .int x3), (4, .int x4), (6, .int x6), (7, .int x7), (8, .int x8), (9, .int x9)]) hC dX6_match_168 rfl rfl (by decide) (by first | rfl | simp [lvs1, List.filter, cat_rf, cat_i, cat_j]) ?_
              refine r_iinc (w := 11) (v := x9 + 1) (lv' := [(9, .int (x9 + 1)), (5, .int (x5 + 1)), (11, .int v121), (10, .int v108), (0, va_rf x0), (1, va_rf x1), (2, va_rf x2), (3, .int x3), (4, .int x4), (6, .int x6), (7, .int x7), (8, .int x8)]) hC dX6_match_171 rfl rfl (by decide) (by first | rfl | simp [lvs1, List.filter, cat_rf, cat_i, cat_j]) ?_
              refine r_goto (tgt := 84) hC dX6_match_174 (by decide) ?_
              exact RR.wid (by decide) (by decide) (RR.sub [4, 5, 6, 7, 8, 1, 9, 10, 11, 0] rfl (ih _ _ _ _ _ _ _ _ _ _ _ h))
            · have h := h.2 c9
              refine r_iconst (v := -1) hC dX6_match_156 (by decide) ?_
              exact hr _ _ _ _ _ _ dX6_match_157 (by decide) (by decide) h
        · have h := h.2 c9
          refine r_iconst (v := 0) hC dX6_match_133 (by decide) ?_
          exact hr _ _ _ _ _ _ dX6_match_134 (by decide) (by decide) h
set_option maxRecDepth 20000 in
theorem b_X6_match_36 {C : Cx} {Z : State → Prop} {A : Nat → Prop} {G : GG} {Q : Int32 → PH → Prop} {X : String → PH → Prop} (hC : CxOk RX6 cX6_match 12 G A (rmk 4 93 0 0) C) (hAo : Ao (xs C)) (hr : HI C Z A G 12 cX6_match 0 0 Q) (hx : HX C Z A G 12 0 0 X) (hn : HN C Z A G 12 RX6 cX6_match 0 0 (rmk 4 93 0 0) X) (hnw : HNW C Z A G 12 RX6 cX6_match 0 0 (rmk 4 93 0 0) X) (hnx : HNX C Z A G 12 RX6 cX6_match 0 0 (rmk 4 93 0 0) X) (hi : True) : ∀ (fu : Nat) (x0 : Option Nat) (x1 : Option Nat) (x2 : Option Nat) (x3 : Int32) (x4 : Int32) (x5 : Int32) (x6 : Int32) (ph : PH), w_X6_match_36 Q X fu x0 x1 x2 x3 x4 x5 x6 ph → RR C Z A G 12 36 [(0, va_rf x0), (1, va_rf x1), (2, va_rf x2), (3, .int x3), (4, .int x4), (5, .int x5), (6, .int x6)] [] ph 0 0 := by
  intro fu
  induction fu with
  | zero => intro x0 x1 x2 x3 x4 x5 x6 ph h; exact h.elim
  | succ fu ih =>
    intro x0 x1 x2 x3 x4 x5 x6 ph h
    refine r_iload hC dX6_match_36 6 rfl ?_
    refine r_iload hC dX6_match_38 5 rfl ?_
    refine r_icmp_ge (tgt := 183) hC dX6_match_40 (by decide) (fun c9 => ?_) (fun c9 => ?_)
    · have h := h.1 c9
      refine r_iconst (v := 1) hC dX6_match_183 (by decide) ?_
      exact hr _ _ _ _ _ _ dX6_match_184 (by decide) (by decide) h
    · have h := h.2 c9
      refine r_iload hC dX6_match_43 6 rfl ?_
      refine r_aload_n hC dX6_match_45 rfl 0 rfl ?_
      obtain ⟨v46, g46, h⟩ := h
      refine r_get hC (ci := 7) (kf := 8) (N := 11) (Cn := RX6) (T := TX6) rfl (by decide) tin_X6 fl_X6_36 rfl dX6_match_46 g46 ?_
      obtain ⟨v49, g49, h⟩ := h
      refine r_alen hC dX6_match_49 g49 ?_
      refine r_icmp_ge (tgt := 183) hC dX6_match_50 (by decide) (fun c9 => ?_) (fun c9 => ?_)
      · have h := h.1 c9
        refine r_iconst (v := 1) hC dX6_match_183 (by decide) ?_
        exact hr _ _ _ _ _ _ dX6_match_184 (by decide) (by decide) h
      · have h := h.2 c9
        refine r_iload hC dX6_match_53 6 rfl ?_
        refine r_aload_n hC dX6_match_55 rfl 0 rfl ?_
        obtain ⟨v56, g56, h⟩ := h
        refine r_get hC (ci := 7) (kf := 9) (N := 11) (Cn := RX6) (T := TX6) rfl (by decide) tin_X6 fl_X6_39 rfl dX6_match_56 g56 ?_
        obtain ⟨v59, g59, h⟩ := h
        refine r_alen hC dX6_match_59 g59 ?_
        refine r_icmp_ge (tgt := 183) hC dX6_match_60 (by decide) (fun c9 => ?_) (fun c9 => ?_)
        · have h := h.1 c9
          refine r_iconst (v := 1) hC dX6_match_183 (by decide) ?_
          exact hr _ _ _ _ _ _ dX6_match_184 (by decide) (by decide) h
        · have h := h.2 c9
          refine r_aload_n hC dX6_match_63 rfl 0 rfl ?_
          obtain ⟨v64, g64, h⟩ := h
          refine r_get hC (ci := 7) (kf := 8) (N := 11) (Cn := RX6) (T := TX6) rfl (by decide) tin_X6 fl_X6_36 rfl dX6_match_64 g64 ?_
          refine r_iload hC dX6_match_67 6 rfl ?_
          obtain ⟨v69, g69, h⟩ := h
          refine r_iald hC dX6_match_69 g69 ?_
          refine r_istore (i := 7) (lv' := [(7, .int v69), (0, va_rf x0), (1, va_rf x1), (2, va_rf x2), (3, .int x3), (4, .int x4), (5, .int x5), (6, .int x6)]) hC dX6_match_70 (by decide) (by first | rfl | simp [lvs1, lvs2, List.filter, cat_rf, cat_i, cat_j]) ?_
          refine r_aload_n hC dX6_match_72 rfl 1 rfl ?_
          obtain ⟨v73, g73, h⟩ := h
          refine r_get hC (ci := 7) (kf := 9) (N := 11) (Cn := RX6) (T := TX6) rfl (by decide) tin_X6 fl_X6_39 rfl dX6_match_73 g73 ?_
          refine r_iload hC dX6_match_76 7 rfl ?_
          obtain ⟨v78, g78, h⟩ := h
          refine r_iald hC dX6_match_78 g78 ?_
          refine r_istore (i := 8) (lv' := [(8, .int v78), (7, .int v69), (0, va_rf x0), (1, va_rf x1), (2, va_rf x2), (3, .int x3), (4, .int x4), (5, .int x5), (6, .int x6)]) hC dX6_match_79 (by decide) (by first | rfl | simp [lvs1, lvs2, List.filter, cat_rf, cat_i, cat_j]) ?_
          refine r_iconst (v := 0) hC dX6_match_81 (by decide) ?_
          refine r_istore (i := 9) (lv' := [(9, .int (0 : Int32)), (8, .int v78), (7, .int v69), (0, va_rf x0), (1, va_rf x1), (2, va_rf x2), (3, .int x3), (4, .int x4), (5, .int x5), (6, .int x6)]) hC dX6_match_82 (by decide) (by first | rfl | simp [lvs1, lvs2, List.filter, cat_rf, cat_i, cat_j]) ?_
          have k84_36 : ∀ (x0 : Option Nat) (x1 : Option Nat) (x2 : Option Nat) (x3 : Int32) (x4 : Int32) (x5 : Int32) (x6 : Int32) (ph : PH), w_X6_match_36 Q X fu x0 x1 x2 x3 x4 x5 x6 ph → RR C Z A G 12 36 [(0, va_rf x0), (1, va_rf x1), (2, va_rf x2), (3, .int x3), (4, .int x4), (5, .int x5), (6, .int x6)] [] ph 0 0 := by
            intro x0 x1 x2 x3 x4 x5 x6 ph h
            exact RR.wid (by decide) (by decide) (RR.sub [0, 1, 2, 3, 4, 5, 6] rfl (ih _ _ _ _ _ _ _ _ h))
          obtain ⟨fu84, h⟩ := h
          exact RR.wid (by decide) (by decide) (RR.sub [3, 4, 5, 6, 7, 8, 9, 2, 1, 0] rfl (b_X6_match_84 hC hAo hr hx hn hnw hnx hi k84_36 fu84 _ _ _ _ _ _ _ _ _ _ _ h))
set_option maxRecDepth 20000 in
theorem c_X6_match (G : GG) (x0 : Nat) (x1 : Option Nat) (x2 : Option Nat) (ph : PH) (Q : Int32 → PH → Prop) (X : String → PH → Prop) (h : w_X6_match x0 x1 x2 ph Q X) : Ct G yX6_match (.code yX6_match cX6_match 12 (some (.int))) 4 93 0 0 [va_rf (some x0), va_rf x1, va_rf x2] ph (oI Q) X := by
  refine ct_of (lv0 := [(0, va_rf (some x0)), (1, va_rf x1), (2, va_rf x2)]) (by decide +kernel) (by simp [lg_sl, cat_rf, cat_i, cat_j]) (by simp [lv_args, cat_rf, cat_i, cat_j]) ?_
  intro C A hC hAo hex hrt hnm
  have hr : HI C (ZM C G A (oI Q) X 0 0) A G 12 cX6_match 0 0 Q := fun pc lv v ph k n d hk hn hq => e_i hC hrt pc lv v ph k n d hk hn ⟨v, rfl, hq⟩
  have hx := e_x (Q := oI Q) (X := X) (mc := 0) (ms := 0) hC hex
  have hn := e_n (Q := oI Q) (X := X) (mc := 0) (ms := 0) hC hex
  have hnw := e_nw (Q := oI Q) (X := X) (mc := 0) (ms := 0) hC hex
  have hnx := e_nx (Q := oI Q) (X := X) (mc := 0) (ms := 0) hC hex
  have hi : True := trivial
  generalize ZM C G A (oI Q) X 0 0 = Z at *
  refine r_aload_n hC dX6_match_0 rfl 1 rfl ?_
  obtain ⟨a1, o1, h⟩ := h
  refine r_VI hC hAo [] cal_X3_liveSet ml_X6_45 (ci := 6) rfl rfl rfl (c_X3_liveSet G _ _ _ _ h) o1 ⟨by decide, by decide⟩ ⟨by decide, by decide⟩ (by simp only [List.map_nil, List.map_cons, List.sum_nil, List.sum_cons, cat_rf, cat_i, cat_j]; decide) rfl dX6_match_1 (fun E u hx9 => hx _ _ _ _ _ _ _ (by decide) (by decide) hx9) (fun v1 ph1 h => ?_)
  refine RR.wid (k' := 0) (n' := 0) (by decide) (by decide) ?_
  refine r_istore_n (i := 3) (lv' := [(3, .int v1), (0, va_rf (some x0)), (1, va_rf x1), (2, va_rf x2)]) hC dX6_match_4 rfl (by decide) (by first | rfl | simp [lvs1, lvs2, List.filter, cat_rf, cat_i, cat_j]) ?_
  refine r_aload_n hC dX6_match_5 rfl 3 rfl ?_
  obtain ⟨a6, o6, h⟩ := h
  refine r_VI hC hAo [] cal_X3_liveSet ml_X6_45 (ci := 6) rfl rfl rfl (c_X3_liveSet G _ _ _ _ h) o6 ⟨by decide, by decide⟩ ⟨by decide, by decide⟩ (by simp only [List.map_nil, List.map_cons, List.sum_nil, List.sum_cons, cat_rf, cat_i, cat_j]; decide) rfl dX6_match_6 (fun E u hx9 => hx _ _ _ _ _ _ _ (by decide) (by decide) hx9) (fun v6 ph6 h => ?_)
  refine RR.wid (k' := 0) (n' := 0) (by decide) (by decide) ?_
  refine r_istore (i := 4) (lv' := [(4, .int v6), (3, .int v1), (0, va_rf (some x0)), (1, va_rf x1), (2, va_rf x2)]) hC dX6_match_9 (by decide) (by first | rfl | simp [lvs1, lvs2, List.filter, cat_rf, cat_i, cat_j]) ?_
  refine r_iload_n hC dX6_match_11 rfl 1 rfl ?_
  refine r_iload hC dX6_match_12 0 rfl ?_
  refine r_SI hC hAo [.int v1, .int v6] cal_X6_isUnlike ml_X6_140 rfl (c_X6_isUnlike G _ _ _ _ _ h) ⟨by decide, by decide⟩ ⟨by decide, by decide⟩ (by simp only [List.map_nil, List.map_cons, List.sum_nil, List.sum_cons, cat_rf, cat_i, cat_j]; decide) rfl dX6_match_14 (fun E u hx9 => hx _ _ _ _ _ _ _ (by decide) (by decide) hx9) (fun v14 ph14 h => ?_)
  refine RR.wid (k' := 0) (n' := 0) (by decide) (by decide) ?_
  refine r_if_eq (tgt := 22) hC dX6_match_17 (by decide) (fun c9 => ?_) (fun c9 => ?_)
  · have h := h.1 c9
    refine r_aload_n hC dX6_match_22 rfl 2 rfl ?_
    refine r_iconst (v := 0) hC dX6_match_23 (by decide) ?_
    refine r_iload_n hC dX6_match_24 rfl 1 rfl ?_
    refine r_iload hC dX6_match_25 0 rfl ?_
    obtain ⟨a27, o27, h⟩ := h
    refine r_VV hC hAo [.int (0 : Int32), .int v1, .int v6] cal_X6_keepPair ml_X6_143 (ci := 7) rfl rfl rfl (c_X6_keepPair G _ _ _ _ _ _ _ h) o27 ⟨by decide, by decide⟩ ⟨by decide, by decide⟩ (by simp only [List.map_nil, List.map_cons, List.sum_nil, List.sum_cons, cat_rf, cat_i, cat_j]; decide) rfl dX6_match_27 (fun E u hx9 => hx _ _ _ _ _ _ _ (by decide) (by decide) hx9) (fun ph27 h => ?_)
    refine RR.wid (k' := 0) (n' := 0) (by decide) (by decide) ?_
    refine r_iconst (v := 1) hC dX6_match_30 (by decide) ?_
    refine r_istore (i := 5) (lv' := [(5, .int (1 : Int32)), (4, .int v6), (3, .int v1), (0, va_rf (some x0)), (1, va_rf x1), (2, va_rf x2)]) hC dX6_match_31 (by decide) (by first | rfl | simp [lvs1, lvs2, List.filter, cat_rf, cat_i, cat_j]) ?_
    refine r_iconst (v := 0) hC dX6_match_33 (by decide) ?_
    refine r_istore (i := 6) (lv' := [(6, .int (0 : Int32)), (5, .int (1 : Int32)), (4, .int v6), (3, .int v1), (0, va_rf (some x0)), (1, va_rf x1), (2, va_rf x2)]) hC dX6_match_34 (by decide) (by first | rfl | simp [lvs1, lvs2, List.filter, cat_rf, cat_i, cat_j]) ?_
    obtain ⟨fu36, h⟩ := h
    exact RR.wid (by decide) (by decide) (RR.sub [4, 5, 6, 3, 2, 1, 0] rfl (b_X6_match_36 hC hAo hr hx hn hnw hnx hi  fu36 _ _ _ _ _ _ _ _ h))
  · have h := h.2 c9
    refine r_iconst (v := 0) hC dX6_match_20 (by decide) ?_
    exact hr _ _ _ _ _ _ dX6_match_21 (by decide) (by decide) h
set_option maxRecDepth 20000 in
theorem c_X11_areSame (G : GG) (x0 : Nat) (x1 : Int32) (x2 : Int32) (ph : PH) (Q : Int32 → PH → Prop) (X : String → PH → Prop) (h : w_X11_areSame x0 x1 x2 ph Q X) : Ct G yX11_areSame (.code yX11_areSame cX11_areSame 6 (some (.boolean))) 7 124 3 18 [va_rf (some x0), .int x1, .int x2] ph (oI Q) X := by
  refine ct_of (lv0 := [(0, va_rf (some x0)), (1, .int x1), (2, .int x2)]) (by decide +kernel) (by simp [lg_sl, cat_rf, cat_i, cat_j]) (by simp [lv_args, cat_rf, cat_i, cat_j]) ?_
  intro C A hC hAo hex hrt hnm
  have hr : HZ C (ZM C G A (oI Q) X 3 18) A G 6 cX11_areSame 3 18 Q := fun pc lv v ph k n d hk hn hq => e_s hC (ty := .boolean) hrt pc lv v ph k n d hk hn ⟨hq.1, v, rfl, hq.2⟩
  have hx := e_x (Q := oI Q) (X := X) (mc := 3) (ms := 18) hC hex
  have hn := e_n (Q := oI Q) (X := X) (mc := 3) (ms := 18) hC hex
  have hnw := e_nw (Q := oI Q) (X := X) (mc := 3) (ms := 18) hC hex
  have hnx := e_nx (Q := oI Q) (X := X) (mc := 3) (ms := 18) hC hex
  have hi : True := trivial
  generalize ZM C G A (oI Q) X 3 18 = Z at *
  refine r_aload_n hC dX11_areSame_0 rfl 0 rfl ?_
  refine r_iload_n hC dX11_areSame_1 rfl 1 rfl ?_
  obtain ⟨a2, o2, h⟩ := h
  refine r_VR hC hAo [.int x1] cal_X11_shiftAt ml_X11_110 (ci := 12) rfl rfl rfl (c_X11_shiftAt G _ _ _ _ _ h) o2 ⟨by decide, by decide⟩ ⟨by decide, by decide⟩ (by simp only [List.map_nil, List.map_cons, List.sum_nil, List.sum_cons, cat_rf, cat_i, cat_j]; decide) rfl dX11_areSame_2 (fun E u hx9 => hx _ _ _ _ _ _ _ (by decide) (by decide) hx9) (fun v2 ph2 h => ?_)
  refine RR.wid (k' := 1) (n' := 6) (by decide) (by decide) ?_
  refine r_astore_n (i := 3) (lv' := [(3, va_rf v2), (0, va_rf (some x0)), (1, .int x1), (2, .int x2)]) hC dX11_areSame_5 rfl (by decide) (by first | rfl | simp [lvs1, lvs2, List.filter, cat_rf, cat_i, cat_j]) ?_
  refine r_aload_n hC dX11_areSame_6 rfl 1 rfl ?_
  refine r_iload_n hC dX11_areSame_7 rfl 3 rfl ?_
  obtain ⟨a8, o8, h⟩ := h
  refine r_VR hC hAo [.int x2] cal_X11_shiftAt ml_X11_110 (ci := 12) rfl rfl rfl (c_X11_shiftAt G _ _ _ _ _ h) o8 ⟨by decide, by decide⟩ ⟨by decide, by decide⟩ (by simp only [List.map_nil, List.map_cons, List.sum_nil, List.sum_cons, cat_rf, cat_i, cat_j]; decide) rfl dX11_areSame_8 (fun E u hx9 => hx _ _ _ _ _ _ _ (by decide) (by decide) hx9) (fun v8 ph8 h => ?_)
  refine RR.wid (k' := 2) (n' := 12) (by decide) (by decide) ?_
  refine r_astore (i := 4) (lv' := [(4, va_rf v8), (3, va_rf v2), (0, va_rf (some x0)), (1, .int x1), (2, .int x2)]) hC dX11_areSame_11 (by decide) (by first | rfl | simp [lvs1, lvs2, List.filter, cat_rf, cat_i, cat_j]) ?_
  refine r_aload_n hC dX11_areSame_13 rfl 1 rfl ?_
  obtain ⟨v14, g14, h⟩ := h
  refine r_get hC (ci := 6) (kf := 1) (N := 3) (Cn := RX3) (T := TX3) rfl (by decide) tin_X3 fl_X11_170 rfl dX11_areSame_14 g14 ?_
  refine r_aload hC dX11_areSame_17 0 rfl ?_
  obtain ⟨v19, g19, h⟩ := h
  refine r_get hC (ci := 6) (kf := 1) (N := 3) (Cn := RX3) (T := TX3) rfl (by decide) tin_X3 fl_X11_170 rfl dX11_areSame_19 g19 ?_
  refine r_icmp_eq (tgt := 35) hC dX11_areSame_22 (by decide) (fun c9 => ?_) (fun c9 => ?_)
  · have h := h.1 c9
    refine r_aload_n hC dX11_areSame_35 rfl 2 rfl ?_
    obtain ⟨v36, g36, h⟩ := h
    refine r_get hC (ci := 12) (kf := 7) (N := 12) (Cn := RX11) (T := TX11) rfl (by decide) tin_X11 fl_X11_37 rfl dX11_areSame_36 g36 ?_
    refine r_aload_n hC dX11_areSame_39 rfl 1 rfl ?_
    refine r_aload hC dX11_areSame_40 0 rfl ?_
    obtain ⟨a42, o42, h⟩ := h
    refine r_VI hC hAo [va_rf v2, va_rf v8] cal_X6_match ml_X11_213 (ci := 7) rfl rfl rfl (c_X6_match G _ _ _ _ _ _ h) o42 ⟨by decide, by decide⟩ ⟨by decide, by decide⟩ (by simp only [List.map_nil, List.map_cons, List.sum_nil, List.sum_cons, cat_rf, cat_i, cat_j]; decide) rfl dX11_areSame_42 (fun E u hx9 => hx _ _ _ _ _ _ _ (by decide) (by decide) hx9) (fun v42 ph42 h => ?_)
    refine RR.wid (k' := 2) (n' := 12) (by decide) (by decide) ?_
    refine r_istore (i := 5) (lv' := [(5, .int v42), (4, va_rf v8), (3, va_rf v2), (0, va_rf (some x0)), (1, .int x1), (2, .int x2)]) hC dX11_areSame_45 (by decide) (by first | rfl | simp [lvs1, lvs2, List.filter, cat_rf, cat_i, cat_j]) ?_
    refine r_iload hC dX11_areSame_47 0 rfl ?_
    refine r_if_ge (tgt := 62) hC dX11_areSame_49 (by decide) (fun c9 => ?_) (fun c9 => ?_)
    · have h := h.1 c9
      refine r_iload hC dX11_areSame_62 0 rfl ?_
      refine r_iconst (v := 1) hC dX11_areSame_64 (by decide) ?_
      refine r_icmp_ne (tgt := 72) hC dX11_areSame_65 (by decide) (fun c9 => ?_) (fun c9 => ?_)
      · have h := h.1 c9
        refine r_iconst (v := 0) hC dX11_areSame_72 (by decide) ?_
        exact hr _ _ _ _ _ _ dX11_areSame_73 (by decide) (by decide) h
      · have h := h.2 c9
        refine r_iconst (v := 1) hC dX11_areSame_68 (by decide) ?_
        refine r_goto (tgt := 73) hC dX11_areSame_69 (by decide) ?_
        exact hr _ _ _ _ _ _ dX11_areSame_73 (by decide) (by decide) h
    · have h := h.2 c9
      exact hn _ _ _ _ _ _ _ _ _ _ _ _ 12 th_X11_142_146 rfl dX11_areSame_52 dX11_areSame_55 dX11_areSame_56 dX11_areSame_58 dX11_areSame_61 (by decide) (by simp only [List.map_nil, List.map_cons, List.sum_nil, List.sum_cons, cat_rf, cat_i, cat_j]; decide) (by decide) (by decide) (by decide) (by decide) h
  · have h := h.2 c9
    exact hn _ _ _ _ _ _ _ _ _ _ _ _ 11 th_X11_142_146 rfl dX11_areSame_25 dX11_areSame_28 dX11_areSame_29 dX11_areSame_31 dX11_areSame_34 (by decide) (by simp only [List.map_nil, List.map_cons, List.sum_nil, List.sum_cons, cat_rf, cat_i, cat_j]; decide) (by decide) (by decide) (by decide) (by decide) h
set_option maxRecDepth 20000 in
theorem b_J7_fill_d0a16_6 {C : Cx} {Z : State → Prop} {A : Nat → Prop} {G : GG} {Q : PH → Prop} {X : String → PH → Prop} (hC : CxOk RJ7 cJ7_fill_d0a16 5 G A (rmk 0 0 0 0) C) (hAo : Ao (xs C)) (hr : HV C Z A G 5 cJ7_fill_d0a16 0 0 Q) (hx : HX C Z A G 5 0 0 X) (hn : HN C Z A G 5 RJ7 cJ7_fill_d0a16 0 0 (rmk 0 0 0 0) X) (hnw : HNW C Z A G 5 RJ7 cJ7_fill_d0a16 0 0 (rmk 0 0 0 0) X) (hnx : HNX C Z A G 5 RJ7 cJ7_fill_d0a16 0 0 (rmk 0 0 0 0) X) (hi : True) : ∀ (fu : Nat) (x0 : Option Nat) (x1 : Int64) (x3 : Int32) (x4 : Int32) (ph : PH), w_J7_fill_d0a16_6 Q X fu x0 x1 x3 x4 ph → RR C Z A G 5 6 [(0, va_rf x0), (1, .long x1), (3, .int x3), (4, .int x4)] [] ph 0 0 := by
  intro fu
  induction fu with
  | zero => intro x0 x1 x3 x4 ph h; exact h.elim
  | succ fu ih =>
    intro x0 x1 x3 x4 ph h
    refine r_iload_n hC dJ7_fill_d0a16_6 rfl 2 rfl ?_
    refine r_iload hC dJ7_fill_d0a16_7 3 rfl ?_
    refine r_icmp_ge (tgt := 22) hC dJ7_fill_d0a16_9 (by decide) (fun c9 => ?_) (fun c9 => ?_)
    · have h := h.1 c9
      exact hr _ _ _ _ _ dJ7_fill_d0a16_22 (by decide) (by decide) h
    · have h := h.2 c9
      refine r_aload_n hC dJ7_fill_d0a16_12 rfl 0 rfl ?_
      refine r_iload_n hC dJ7_fill_d0a16_13 rfl 2 rfl ?_
      refine r_lload_n hC dJ7_fill_d0a16_14 rfl 1 rfl ?_
      obtain ⟨ph15, g15, h⟩ := h
      refine r_last hC dJ7_fill_d0a16_15 g15 ?_
      refine r_iinc (w := 2) (v := x3 + 1) (lv' := [(3, .int (x3 + 1)), (0, va_rf x0), (1, .long x1), (4, .int x4)]) hC dJ7_fill_d0a16_16 rfl rfl (by decide) (by first | rfl | simp [lvs1, List.filter, cat_rf, cat_i, cat_j]) ?_
      refine r_goto (tgt := 6) hC dJ7_fill_d0a16_19 (by decide) ?_
      exact RR.wid (by decide) (by decide) (RR.sub [1, 2, 0, 3] rfl (ih _ _ _ _ _ h))
set_option maxRecDepth 20000 in
theorem c_J7_fill_d0a16 (G : GG) (x0 : Option Nat) (x1 : Int64) (ph : PH) (Q : PH → Prop) (X : String → PH → Prop) (h : w_J7_fill_d0a16 x0 x1 ph Q X) : Ct G yJ7_fill_d0a16 (.code yJ7_fill_d0a16 cJ7_fill_d0a16 5 none) 0 0 0 0 [va_rf x0, .long x1] ph (oV Q) X := by
  refine ct_of (lv0 := [(0, va_rf x0), (1, .long x1)]) (by decide +kernel) (by simp [lg_sl, cat_rf, cat_i, cat_j]) (by simp [lv_args, cat_rf, cat_i, cat_j]) ?_
  intro C A hC hAo hex hrt hnm
  have hr : HV C (ZM C G A (oV Q) X 0 0) A G 5 cJ7_fill_d0a16 0 0 Q := fun pc lv ph k n d hk hn hq => e_v hC hrt pc lv ph k n d hk hn ⟨rfl, hq⟩
  have hx := e_x (Q := oV Q) (X := X) (mc := 0) (ms := 0) hC hex
  have hn := e_n (Q := oV Q) (X := X) (mc := 0) (ms := 0) hC hex
  have hnw := e_nw (Q := oV Q) (X := X) (mc := 0) (ms := 0) hC hex
  have hnx := e_nx (Q := oV Q) (X := X) (mc := 0) (ms := 0) hC hex
  have hi : True := trivial
  generalize ZM C G A (oV Q) X 0 0 = Z at *
  refine r_iconst (v := 0) hC dJ7_fill_d0a16_0 (by decide) ?_
  refine r_istore_n (i := 3) (lv' := [(3, .int (0 : Int32)), (0, va_rf x0), (1, .long x1)]) hC dJ7_fill_d0a16_1 rfl (by decide) (by first | rfl | simp [lvs1, lvs2, List.filter, cat_rf, cat_i, cat_j]) ?_
  refine r_aload_n hC dJ7_fill_d0a16_2 rfl 1 rfl ?_
  obtain ⟨v3, g3, h⟩ := h
  refine r_alen hC dJ7_fill_d0a16_3 g3 ?_
  refine r_istore (i := 4) (lv' := [(4, .int v3), (3, .int (0 : Int32)), (0, va_rf x0), (1, .long x1)]) hC dJ7_fill_d0a16_4 (by decide) (by first | rfl | simp [lvs1, lvs2, List.filter, cat_rf, cat_i, cat_j]) ?_
  obtain ⟨fu6, h⟩ := h
  exact RR.wid (by decide) (by decide) (RR.sub [2, 3, 1, 0] rfl (b_J7_fill_d0a16_6 hC hAo hr hx hn hnw hnx hi  fu6 _ _ _ _ _ h))
set_option maxRecDepth 20000 in
theorem c_X8_reshape (G : GG) (x0 : Nat) (x1 : Int32) (x2 : Int32) (ph : PH) (Q : PH → Prop) (X : String → PH → Prop) (h : w_X8_reshape x0 x1 x2 ph Q X) : Ct G yX8_reshape (.code yX8_reshape cX8_reshape 3 none) 1 24 0 0 [va_rf (some x0), .int x1, .int x2] ph (oV Q) X := by
  refine ct_of (lv0 := [(0, va_rf (some x0)), (1, .int x1), (2, .int x2)]) (by decide +kernel) (by simp [lg_sl, cat_rf, cat_i, cat_j]) (by simp [lv_args, cat_rf, cat_i, cat_j]) ?_
  intro C A hC hAo hex hrt hnm
  have hr : HV C (ZM C G A (oV Q) X 0 0) A G 3 cX8_reshape 0 0 Q := fun pc lv ph k n d hk hn hq => e_v hC hrt pc lv ph k n d hk hn ⟨rfl, hq⟩
  have hx := e_x (Q := oV Q) (X := X) (mc := 0) (ms := 0) hC hex
  have hn := e_n (Q := oV Q) (X := X) (mc := 0) (ms := 0) hC hex
  have hnw := e_nw (Q := oV Q) (X := X) (mc := 0) (ms := 0) hC hex
  have hnx := e_nx (Q := oV Q) (X := X) (mc := 0) (ms := 0) hC hex
  have hi : True := trivial
  generalize ZM C G A (oV Q) X 0 0 = Z at *
  refine r_aload_n hC dX8_reshape_0 rfl 0 rfl ?_
  refine r_iload_n hC dX8_reshape_1 rfl 1 rfl ?_
  obtain ⟨ph2, g2, h⟩ := h
  refine r_put hC (ci := 9) (kf := 0) (N := 3) (Cn := RX8) (T := TX8) (ty := .int) (ty0 := tyX8) rfl (by decide) tin_X8 tyX8_ok nmX8 fl_X8_15 rfl rfl (by decide +kernel) rfl rfl dX8_reshape_2 g2 ?_
  refine r_aload_n hC dX8_reshape_5 rfl 0 rfl ?_
  refine r_iload_n hC dX8_reshape_6 rfl 2 rfl ?_
  obtain ⟨ph7, g7, h⟩ := h
  refine r_put hC (ci := 9) (kf := 1) (N := 3) (Cn := RX8) (T := TX8) (ty := .int) (ty0 := tyX8) rfl (by decide) tin_X8 tyX8_ok nmX8 fl_X8_19 rfl rfl (by decide +kernel) rfl rfl dX8_reshape_7 g7 ?_
  refine r_aload_n hC dX8_reshape_10 rfl 0 rfl ?_
  obtain ⟨v11, g11, h⟩ := h
  refine r_get hC (ci := 9) (kf := 2) (N := 3) (Cn := RX8) (T := TX8) rfl (by decide) tin_X8 fl_X8_11 rfl dX8_reshape_11 g11 ?_
  refine r_lconst (v := 0) hC dX8_reshape_14 (by decide) ?_
  refine r_SV hC hAo [va_rf v11, .long (0 : Int64)] cal_J7_fill_d0a16 ml_X8_22 rfl (c_J7_fill_d0a16 G _ _ _ _ _ h) ⟨by decide, by decide⟩ ⟨by decide, by decide⟩ (by simp only [List.map_nil, List.map_cons, List.sum_nil, List.sum_cons, cat_rf, cat_i, cat_j]; decide) rfl dX8_reshape_15 (fun E u hx9 => hx _ _ _ _ _ _ _ (by decide) (by decide) hx9) (fun ph15 h => ?_)
  refine RR.wid (k' := 0) (n' := 0) (by decide) (by decide) ?_
  exact hr _ _ _ _ _ dX8_reshape_18 (by decide) (by decide) h
set_option maxRecDepth 20000 in
theorem b_X8_placeOf_35 {C : Cx} {Z : State → Prop} {A : Nat → Prop} {G : GG} {Q : Int32 → PH → Prop} {X : String → PH → Prop} (hC : CxOk RX8 cX8_placeOf 4 G A (rmk 0 0 0 0) C) (hAo : Ao (xs C)) (hr : HI C Z A G 4 cX8_placeOf 0 0 Q) (hx : HX C Z A G 4 0 0 X) (hn : HN C Z A G 4 RX8 cX8_placeOf 0 0 (rmk 0 0 0 0) X) (hnw : HNW C Z A G 4 RX8 cX8_placeOf 0 0 (rmk 0 0 0 0) X) (hnx : HNX C Z A G 4 RX8 cX8_placeOf 0 0 (rmk 0 0 0 0) X) (hi : True) : ∀ (x1 : Int32) (x2 : Int32) (s0 : Int32) (ph : PH), w_X8_placeOf_35 Q X x1 x2 s0 ph → RR C Z A G 4 35 [(1, .int x1), (2, .int x2)] [.int s0] ph 0 0 := by
  intro x1 x2 s0 ph h
  refine r_istore_n (i := 3) (lv' := [(3, .int s0), (1, .int x1), (2, .int x2)]) hC dX8_placeOf_35 rfl (by decide) (by first | rfl | simp [lvs1, lvs2, List.filter, cat_rf, cat_i, cat_j]) ?_
  refine r_iload_n hC dX8_placeOf_36 rfl 0 rfl ?_
  refine r_if_eq (tgt := 49) hC dX8_placeOf_37 (by decide) (fun c9 => ?_) (fun c9 => ?_)
  · have h := h.1 c9
    refine r_iconst (v := -1) hC dX8_placeOf_49 (by decide) ?_
    exact hr _ _ _ _ _ _ dX8_placeOf_50 (by decide) (by decide) h
  · have h := h.2 c9
    refine r_bipush (v := 12) hC dX8_placeOf_40 (by decide) ?_
    refine r_iload_n hC dX8_placeOf_42 rfl 1 rfl ?_
    refine r_imul hC dX8_placeOf_43 ?_
    refine r_iload_n hC dX8_placeOf_44 rfl 2 rfl ?_
    refine r_iadd hC dX8_placeOf_45 ?_
    refine r_goto (tgt := 50) hC dX8_placeOf_46 (by decide) ?_
    exact hr _ _ _ _ _ _ dX8_placeOf_50 (by decide) (by decide) h
set_option maxRecDepth 20000 in
theorem c_X8_placeOf (G : GG) (x0 : Nat) (x1 : Int32) (x2 : Int32) (ph : PH) (Q : Int32 → PH → Prop) (X : String → PH → Prop) (h : w_X8_placeOf x0 x1 x2 ph Q X) : Ct G yX8_placeOf (.code yX8_placeOf cX8_placeOf 4 (some (.int))) 0 0 0 0 [va_rf (some x0), .int x1, .int x2] ph (oI Q) X := by
  refine ct_of (lv0 := [(0, va_rf (some x0)), (1, .int x1), (2, .int x2)]) (by decide +kernel) (by simp [lg_sl, cat_rf, cat_i, cat_j]) (by simp [lv_args, cat_rf, cat_i, cat_j]) ?_
  intro C A hC hAo hex hrt hnm
  have hr : HI C (ZM C G A (oI Q) X 0 0) A G 4 cX8_placeOf 0 0 Q := fun pc lv v ph k n d hk hn hq => e_i hC hrt pc lv v ph k n d hk hn ⟨v, rfl, hq⟩
  have hx := e_x (Q := oI Q) (X := X) (mc := 0) (ms := 0) hC hex
  have hn := e_n (Q := oI Q) (X := X) (mc := 0) (ms := 0) hC hex
  have hnw := e_nw (Q := oI Q) (X := X) (mc := 0) (ms := 0) hC hex
  have hnx := e_nx (Q := oI Q) (X := X) (mc := 0) (ms := 0) hC hex
  have hi : True := trivial
  generalize ZM C G A (oI Q) X 0 0 = Z at *
  refine r_iload_n hC dX8_placeOf_0 rfl 1 rfl ?_
  refine r_if_lt (tgt := 34) hC dX8_placeOf_1 (by decide) (fun c9 => ?_) (fun c9 => ?_)
  · have h := h.1 c9
    refine r_iconst (v := 0) hC dX8_placeOf_34 (by decide) ?_
    exact RR.wid (by decide) (by decide) (RR.sub [1, 2] rfl (b_X8_placeOf_35 hC hAo hr hx hn hnw hnx hi  _ _ _ _ h))
  · have h := h.2 c9
    refine r_iload_n hC dX8_placeOf_4 rfl 1 rfl ?_
    refine r_aload_n hC dX8_placeOf_5 rfl 0 rfl ?_
    obtain ⟨v6, g6, h⟩ := h
    refine r_get hC (ci := 9) (kf := 0) (N := 3) (Cn := RX8) (T := TX8) rfl (by decide) tin_X8 fl_X8_15 rfl dX8_placeOf_6 g6 ?_
    refine r_icmp_ge (tgt := 34) hC dX8_placeOf_9 (by decide) (fun c9 => ?_) (fun c9 => ?_)
    · have h := h.1 c9
      refine r_iconst (v := 0) hC dX8_placeOf_34 (by decide) ?_
      exact RR.wid (by decide) (by decide) (RR.sub [1, 2] rfl (b_X8_placeOf_35 hC hAo hr hx hn hnw hnx hi  _ _ _ _ h))
    · have h := h.2 c9
      refine r_iload_n hC dX8_placeOf_12 rfl 2 rfl ?_
      refine r_if_lt (tgt := 34) hC dX8_placeOf_13 (by decide) (fun c9 => ?_) (fun c9 => ?_)
      · have h := h.1 c9
        refine r_iconst (v := 0) hC dX8_placeOf_34 (by decide) ?_
        exact RR.wid (by decide) (by decide) (RR.sub [1, 2] rfl (b_X8_placeOf_35 hC hAo hr hx hn hnw hnx hi  _ _ _ _ h))
      · have h := h.2 c9
        refine r_iload_n hC dX8_placeOf_16 rfl 2 rfl ?_
        refine r_aload_n hC dX8_placeOf_17 rfl 0 rfl ?_
        obtain ⟨v18, g18, h⟩ := h
        refine r_get hC (ci := 9) (kf := 1) (N := 3) (Cn := RX8) (T := TX8) rfl (by decide) tin_X8 fl_X8_19 rfl dX8_placeOf_18 g18 ?_
        refine r_icmp_ge (tgt := 34) hC dX8_placeOf_21 (by decide) (fun c9 => ?_) (fun c9 => ?_)
        · have h := h.1 c9
          refine r_iconst (v := 0) hC dX8_placeOf_34 (by decide) ?_
          exact RR.wid (by decide) (by decide) (RR.sub [1, 2] rfl (b_X8_placeOf_35 hC hAo hr hx hn hnw hnx hi  _ _ _ _ h))
        · have h := h.2 c9
          refine r_iload_n hC dX8_placeOf_24 rfl 2 rfl ?_
          refine r_bipush (v := 12) hC dX8_placeOf_25 (by decide) ?_
          refine r_icmp_ge (tgt := 34) hC dX8_placeOf_27 (by decide) (fun c9 => ?_) (fun c9 => ?_)
          · have h := h.1 c9
            refine r_iconst (v := 0) hC dX8_placeOf_34 (by decide) ?_
            exact RR.wid (by decide) (by decide) (RR.sub [1, 2] rfl (b_X8_placeOf_35 hC hAo hr hx hn hnw hnx hi  _ _ _ _ h))
          · have h := h.2 c9
            refine r_iconst (v := 1) hC dX8_placeOf_30 (by decide) ?_
            refine r_goto (tgt := 35) hC dX8_placeOf_31 (by decide) ?_
            exact RR.wid (by decide) (by decide) (RR.sub [1, 2] rfl (b_X8_placeOf_35 hC hAo hr hx hn hnw hnx hi  _ _ _ _ h))
set_option maxRecDepth 20000 in
theorem c_X8_write (G : GG) (x0 : Nat) (x1 : Int32) (x2 : Int32) (x3 : Int64) (ph : PH) (Q : PH → Prop) (X : String → PH → Prop) (h : w_X8_write x0 x1 x2 x3 ph Q X) : Ct G yX8_write (.code yX8_write cX8_write 6 none) 1 23 0 0 [va_rf (some x0), .int x1, .int x2, .long x3] ph (oV Q) X := by
  refine ct_of (lv0 := [(0, va_rf (some x0)), (1, .int x1), (2, .int x2), (3, .long x3)]) (by decide +kernel) (by simp [lg_sl, cat_rf, cat_i, cat_j]) (by simp [lv_args, cat_rf, cat_i, cat_j]) ?_
  intro C A hC hAo hex hrt hnm
  have hr : HV C (ZM C G A (oV Q) X 0 0) A G 6 cX8_write 0 0 Q := fun pc lv ph k n d hk hn hq => e_v hC hrt pc lv ph k n d hk hn ⟨rfl, hq⟩
  have hx := e_x (Q := oV Q) (X := X) (mc := 0) (ms := 0) hC hex
  have hn := e_n (Q := oV Q) (X := X) (mc := 0) (ms := 0) hC hex
  have hnw := e_nw (Q := oV Q) (X := X) (mc := 0) (ms := 0) hC hex
  have hnx := e_nx (Q := oV Q) (X := X) (mc := 0) (ms := 0) hC hex
  have hi : True := trivial
  generalize ZM C G A (oV Q) X 0 0 = Z at *
  refine r_aload_n hC dX8_write_0 rfl 0 rfl ?_
  refine r_iload_n hC dX8_write_1 rfl 1 rfl ?_
  refine r_iload_n hC dX8_write_2 rfl 2 rfl ?_
  obtain ⟨a3, o3, h⟩ := h
  refine r_VI hC hAo [.int x1, .int x2] cal_X8_placeOf ml_X8_28 (ci := 9) rfl rfl rfl (c_X8_placeOf G _ _ _ _ _ _ h) o3 ⟨by decide, by decide⟩ ⟨by decide, by decide⟩ (by simp only [List.map_nil, List.map_cons, List.sum_nil, List.sum_cons, cat_rf, cat_i, cat_j]; decide) rfl dX8_write_3 (fun E u hx9 => hx _ _ _ _ _ _ _ (by decide) (by decide) hx9) (fun v3 ph3 h => ?_)
  refine RR.wid (k' := 0) (n' := 0) (by decide) (by decide) ?_
  refine r_istore (i := 5) (lv' := [(5, .int v3), (0, va_rf (some x0)), (1, .int x1), (2, .int x2), (3, .long x3)]) hC dX8_write_6 (by decide) (by first | rfl | simp [lvs1, lvs2, List.filter, cat_rf, cat_i, cat_j]) ?_
  refine r_iload hC dX8_write_8 0 rfl ?_
  refine r_if_lt (tgt := 31) hC dX8_write_10 (by decide) (fun c9 => ?_) (fun c9 => ?_)
  · have h := h.1 c9
    exact hr _ _ _ _ _ dX8_write_31 (by decide) (by decide) h
  · have h := h.2 c9
    refine r_iload hC dX8_write_13 0 rfl ?_
    refine r_aload_n hC dX8_write_15 rfl 1 rfl ?_
    obtain ⟨v16, g16, h⟩ := h
    refine r_get hC (ci := 9) (kf := 2) (N := 3) (Cn := RX8) (T := TX8) rfl (by decide) tin_X8 fl_X8_11 rfl dX8_write_16 g16 ?_
    obtain ⟨v19, g19, h⟩ := h
    refine r_alen hC dX8_write_19 g19 ?_
    refine r_icmp_ge (tgt := 31) hC dX8_write_20 (by decide) (fun c9 => ?_) (fun c9 => ?_)
    · have h := h.1 c9
      exact hr _ _ _ _ _ dX8_write_31 (by decide) (by decide) h
    · have h := h.2 c9
      refine r_aload_n hC dX8_write_23 rfl 1 rfl ?_
      obtain ⟨v24, g24, h⟩ := h
      refine r_get hC (ci := 9) (kf := 2) (N := 3) (Cn := RX8) (T := TX8) rfl (by decide) tin_X8 fl_X8_11 rfl dX8_write_24 g24 ?_
      refine r_iload hC dX8_write_27 0 rfl ?_
      refine r_lload_n hC dX8_write_29 rfl 4 rfl ?_
      obtain ⟨ph30, g30, h⟩ := h
      refine r_last hC dX8_write_30 g30 ?_
      exact hr _ _ _ _ _ dX8_write_31 (by decide) (by decide) h
set_option maxRecDepth 20000 in
theorem b_X0_countRow_30 {C : Cx} {Z : State → Prop} {A : Nat → Prop} {G : GG} {Q : PH → Prop} {X : String → PH → Prop} {K6 : Option Nat → Option Nat → Int32 → Int32 → Int32 → Int32 → Int32 → PH → Prop} (hC : CxOk RX0 cX0_countRow 9 G A (rmk 2 48 0 0) C) (hAo : Ao (xs C)) (hr : HV C Z A G 9 cX0_countRow 0 0 Q) (hx : HX C Z A G 9 0 0 X) (hn : HN C Z A G 9 RX0 cX0_countRow 0 0 (rmk 2 48 0 0) X) (hnw : HNW C Z A G 9 RX0 cX0_countRow 0 0 (rmk 2 48 0 0) X) (hnx : HNX C Z A G 9 RX0 cX0_countRow 0 0 (rmk 2 48 0 0) X) (hi : True) (hK6 : ∀ (x0 : Option Nat) (x1 : Option Nat) (x2 : Int32) (x3 : Int32) (x4 : Int32) (x5 : Int32) (x6 : Int32) (ph : PH), K6 x0 x1 x2 x3 x4 x5 x6 ph → RR C Z A G 9 6 [(0, va_rf x0), (1, va_rf x1), (2, .int x2), (3, .int x3), (4, .int x4), (5, .int x5), (6, .int x6)] [] ph 0 0) : ∀ (fu : Nat) (x0 : Option Nat) (x1 : Option Nat) (x2 : Int32) (x3 : Int32) (x4 : Int32) (x5 : Int32) (x6 : Int32) (x7 : Int32) (x8 : Int32) (ph : PH), w_X0_countRow_30 Q X K6 fu x0 x1 x2 x3 x4 x5 x6 x7 x8 ph → RR C Z A G 9 30 [(0, va_rf x0), (1, va_rf x1), (2, .int x2), (3, .int x3), (4, .int x4), (5, .int x5), (6, .int x6), (7, .int x7), (8, .int x8)] [] ph 0 0 := by
  intro fu
  induction fu with
  | zero => intro x0 x1 x2 x3 x4 x5 x6 x7 x8 ph h; exact h.elim
  | succ fu ih =>
    intro x0 x1 x2 x3 x4 x5 x6 x7 x8 ph h
    refine r_iload hC dX0_countRow_30 8 rfl ?_
    refine r_aload_n hC dX0_countRow_32 rfl 1 rfl ?_
    obtain ⟨v33, g33, h⟩ := h
    refine r_get hC (ci := 6) (kf := 1) (N := 3) (Cn := RX3) (T := TX3) rfl (by decide) tin_X3 fl_X0_82 rfl dX0_countRow_33 g33 ?_
    refine r_icmp_ge (tgt := 62) hC dX0_countRow_36 (by decide) (fun c9 => ?_) (fun c9 => ?_)
    · have h := h.1 c9
      refine r_aload_n hC dX0_countRow_62 rfl 0 rfl ?_
      obtain ⟨v63, g63, h⟩ := h
      refine r_get hC (ci := 3) (kf := 2) (N := 8) (Cn := RX0) (T := TX0) rfl (by decide) tin_X0 fl_X0_21 rfl dX0_countRow_63 g63 ?_
      refine r_iload hC dX0_countRow_66 4 rfl ?_
      refine r_iload hC dX0_countRow_68 5 rfl ?_
      refine r_iload hC dX0_countRow_70 7 rfl ?_
      refine r_i2l hC dX0_countRow_72 ?_
      obtain ⟨a73, o73, h⟩ := h
      refine r_VV hC hAo [.int x4, .int x5, .long x7.toInt64] cal_X8_write ml_X0_89 (ci := 9) rfl rfl rfl (c_X8_write G _ _ _ _ _ _ _ h) o73 ⟨by decide, by decide⟩ ⟨by decide, by decide⟩ (by simp only [List.map_nil, List.map_cons, List.sum_nil, List.sum_cons, cat_rf, cat_i, cat_j]; decide) rfl dX0_countRow_73 (fun E u hx9 => hx _ _ _ _ _ _ _ (by decide) (by decide) hx9) (fun ph73 h => ?_)
      refine RR.wid (k' := 0) (n' := 0) (by decide) (by decide) ?_
      refine r_iinc (w := 5) (v := x5 + 1) (lv' := [(5, .int (x5 + 1)), (0, va_rf x0), (1, va_rf x1), (2, .int x2), (3, .int x3), (4, .int x4), (6, .int x6), (7, .int x7), (8, .int x8)]) hC dX0_countRow_76 rfl rfl (by decide) (by first | rfl | simp [lvs1, List.filter, cat_rf, cat_i, cat_j]) ?_
      refine r_iinc (w := 6) (v := x6 + 1) (lv' := [(6, .int (x6 + 1)), (5, .int (x5 + 1)), (0, va_rf x0), (1, va_rf x1), (2, .int x2), (3, .int x3), (4, .int x4), (7, .int x7), (8, .int x8)]) hC dX0_countRow_79 rfl rfl (by decide) (by first | rfl | simp [lvs1, List.filter, cat_rf, cat_i, cat_j]) ?_
      refine r_goto (tgt := 6) hC dX0_countRow_82 (by decide) ?_
      exact RR.wid (by decide) (by decide) (RR.sub [2, 3, 4, 5, 6, 1, 0] rfl (hK6 _ _ _ _ _ _ _ _ h))
    · have h := h.2 c9
      refine r_iload hC dX0_countRow_39 7 rfl ?_
      refine r_aload_n hC dX0_countRow_41 rfl 1 rfl ?_
      refine r_iload_n hC dX0_countRow_42 rfl 3 rfl ?_
      refine r_iload hC dX0_countRow_43 8 rfl ?_
      obtain ⟨a45, o45, h⟩ := h
      refine r_VI hC hAo [.int x3, .int x8] cal_X3_targets ml_X0_85 (ci := 6) rfl rfl rfl (c_X3_targets G _ _ _ _ _ _ h) o45 ⟨by decide, by decide⟩ ⟨by decide, by decide⟩ (by simp only [List.map_nil, List.map_cons, List.sum_nil, List.sum_cons, cat_rf, cat_i, cat_j]; decide) rfl dX0_countRow_45 (fun E u hx9 => hx _ _ _ _ _ _ _ (by decide) (by decide) hx9) (fun v45 ph45 h => ?_)
      refine RR.wid (k' := 0) (n' := 0) (by decide) (by decide) ?_
      refine r_iload hC dX0_countRow_48 6 rfl ?_
      refine r_ishr hC dX0_countRow_50 ?_
      refine r_iconst (v := 1) hC dX0_countRow_51 (by decide) ?_
      refine r_iand hC dX0_countRow_52 ?_
      refine r_iadd hC dX0_countRow_53 ?_
      obtain ⟨v54, ev54⟩ : ∃ z : Int32, z = x7 + ((v45 >>> (x6 &&& 31)) &&& (1 : Int32)) := ⟨_, rfl⟩
      have h := h v54 ev54
      refine RR.to (st' := [.int v54]) (by rw [ev54]) ?_
      refine r_istore (i := 7) (lv' := [(7, .int v54), (0, va_rf x0), (1, va_rf x1), (2, .int x2), (3, .int x3), (4, .int x4), (5, .int x5), (6, .int x6), (8, .int x8)]) hC dX0_countRow_54 (by decide) (by first | rfl | simp [lvs1, lvs2, List.filter, cat_rf, cat_i, cat_j]) ?_
      refine r_iinc (w := 8) (v := x8 + 1) (lv' := [(8, .int (x8 + 1)), (7, .int v54), (0, va_rf x0), (1, va_rf x1), (2, .int x2), (3, .int x3), (4, .int x4), (5, .int x5), (6, .int x6)]) hC dX0_countRow_56 rfl rfl (by decide) (by first | rfl | simp [lvs1, List.filter, cat_rf, cat_i, cat_j]) ?_
      refine r_goto (tgt := 30) hC dX0_countRow_59 (by decide) ?_
      exact RR.wid (by decide) (by decide) (RR.sub [2, 3, 4, 5, 6, 7, 8, 1, 0] rfl (ih _ _ _ _ _ _ _ _ _ _ h))
set_option maxRecDepth 20000 in
theorem b_X0_countRow_6 {C : Cx} {Z : State → Prop} {A : Nat → Prop} {G : GG} {Q : PH → Prop} {X : String → PH → Prop} (hC : CxOk RX0 cX0_countRow 9 G A (rmk 2 48 0 0) C) (hAo : Ao (xs C)) (hr : HV C Z A G 9 cX0_countRow 0 0 Q) (hx : HX C Z A G 9 0 0 X) (hn : HN C Z A G 9 RX0 cX0_countRow 0 0 (rmk 2 48 0 0) X) (hnw : HNW C Z A G 9 RX0 cX0_countRow 0 0 (rmk 2 48 0 0) X) (hnx : HNX C Z A G 9 RX0 cX0_countRow 0 0 (rmk 2 48 0 0) X) (hi : True) : ∀ (fu : Nat) (x0 : Option Nat) (x1 : Option Nat) (x2 : Int32) (x3 : Int32) (x4 : Int32) (x5 : Int32) (x6 : Int32) (ph : PH), w_X0_countRow_6 Q X fu x0 x1 x2 x3 x4 x5 x6 ph → RR C Z A G 9 6 [(0, va_rf x0), (1, va_rf x1), (2, .int x2), (3, .int x3), (4, .int x4), (5, .int x5), (6, .int x6)] [] ph 0 0 := by
  intro fu
  induction fu with
  | zero => intro x0 x1 x2 x3 x4 x5 x6 ph h; exact h.elim
  | succ fu ih =>
    intro x0 x1 x2 x3 x4 x5 x6 ph h
    refine r_iload hC dX0_countRow_6 6 rfl ?_
    refine r_aload_n hC dX0_countRow_8 rfl 1 rfl ?_
    obtain ⟨v9, g9, h⟩ := h
    refine r_get hC (ci := 6) (kf := 0) (N := 3) (Cn := RX3) (T := TX3) rfl (by decide) tin_X3 fl_X0_70 rfl dX0_countRow_9 g9 ?_
    refine r_icmp_ge (tgt := 85) hC dX0_countRow_12 (by decide) (fun c9 => ?_) (fun c9 => ?_)
    · have h := h.1 c9
      exact hr _ _ _ _ _ dX0_countRow_85 (by decide) (by decide) h
    · have h := h.2 c9
      refine r_iload_n hC dX0_countRow_15 rfl 2 rfl ?_
      refine r_iload hC dX0_countRow_16 6 rfl ?_
      refine r_SI hC hAo [.int x2, .int x6] cal_X11_hasBit ml_X0_74 rfl (c_X11_hasBit G _ _ _ _ _ h) ⟨by decide, by decide⟩ ⟨by decide, by decide⟩ (by simp only [List.map_nil, List.map_cons, List.sum_nil, List.sum_cons, cat_rf, cat_i, cat_j]; decide) rfl dX0_countRow_18 (fun E u hx9 => hx _ _ _ _ _ _ _ (by decide) (by decide) hx9) (fun v18 ph18 h => ?_)
      refine RR.wid (k' := 0) (n' := 0) (by decide) (by decide) ?_
      refine r_if_eq (tgt := 79) hC dX0_countRow_21 (by decide) (fun c9 => ?_) (fun c9 => ?_)
      · have h := h.1 c9
        refine r_iinc (w := 6) (v := x6 + 1) (lv' := [(6, .int (x6 + 1)), (0, va_rf x0), (1, va_rf x1), (2, .int x2), (3, .int x3), (4, .int x4), (5, .int x5)]) hC dX0_countRow_79 rfl rfl (by decide) (by first | rfl | simp [lvs1, List.filter, cat_rf, cat_i, cat_j]) ?_
        refine r_goto (tgt := 6) hC dX0_countRow_82 (by decide) ?_
        exact RR.wid (by decide) (by decide) (RR.sub [1, 2, 3, 4, 5, 6, 0] rfl (ih _ _ _ _ _ _ _ _ h))
      · have h := h.2 c9
        refine r_iconst (v := 0) hC dX0_countRow_24 (by decide) ?_
        refine r_istore (i := 7) (lv' := [(7, .int (0 : Int32)), (0, va_rf x0), (1, va_rf x1), (2, .int x2), (3, .int x3), (4, .int x4), (5, .int x5), (6, .int x6)]) hC dX0_countRow_25 (by decide) (by first | rfl | simp [lvs1, lvs2, List.filter, cat_rf, cat_i, cat_j]) ?_
        refine r_iconst (v := 0) hC dX0_countRow_27 (by decide) ?_
        refine r_istore (i := 8) (lv' := [(8, .int (0 : Int32)), (7, .int (0 : Int32)), (0, va_rf x0), (1, va_rf x1), (2, .int x2), (3, .int x3), (4, .int x4), (5, .int x5), (6, .int x6)]) hC dX0_countRow_28 (by decide) (by first | rfl | simp [lvs1, lvs2, List.filter, cat_rf, cat_i, cat_j]) ?_
        have k30_6 : ∀ (x0 : Option Nat) (x1 : Option Nat) (x2 : Int32) (x3 : Int32) (x4 : Int32) (x5 : Int32) (x6 : Int32) (ph : PH), w_X0_countRow_6 Q X fu x0 x1 x2 x3 x4 x5 x6 ph → RR C Z A G 9 6 [(0, va_rf x0), (1, va_rf x1), (2, .int x2), (3, .int x3), (4, .int x4), (5, .int x5), (6, .int x6)] [] ph 0 0 := by
          intro x0 x1 x2 x3 x4 x5 x6 ph h
          exact RR.wid (by decide) (by decide) (RR.sub [0, 1, 2, 3, 4, 5, 6] rfl (ih _ _ _ _ _ _ _ _ h))
        obtain ⟨fu30, h⟩ := h
        exact RR.wid (by decide) (by decide) (RR.sub [2, 3, 4, 5, 6, 7, 8, 1, 0] rfl (b_X0_countRow_30 hC hAo hr hx hn hnw hnx hi k30_6 fu30 _ _ _ _ _ _ _ _ _ _ h))
set_option maxRecDepth 20000 in
theorem c_X0_countRow (G : GG) (x0 : Nat) (x1 : Option Nat) (x2 : Int32) (x3 : Int32) (x4 : Int32) (ph : PH) (Q : PH → Prop) (X : String → PH → Prop) (h : w_X0_countRow x0 x1 x2 x3 x4 ph Q X) : Ct G yX0_countRow (.code yX0_countRow cX0_countRow 9 none) 2 48 0 0 [va_rf (some x0), va_rf x1, .int x2, .int x3, .int x4] ph (oV Q) X := by
  refine ct_of (lv0 := [(0, va_rf (some x0)), (1, va_rf x1), (2, .int x2), (3, .int x3), (4, .int x4)]) (by decide +kernel) (by simp [lg_sl, cat_rf, cat_i, cat_j]) (by simp [lv_args, cat_rf, cat_i, cat_j]) ?_
  intro C A hC hAo hex hrt hnm
  have hr : HV C (ZM C G A (oV Q) X 0 0) A G 9 cX0_countRow 0 0 Q := fun pc lv ph k n d hk hn hq => e_v hC hrt pc lv ph k n d hk hn ⟨rfl, hq⟩
  have hx := e_x (Q := oV Q) (X := X) (mc := 0) (ms := 0) hC hex
  have hn := e_n (Q := oV Q) (X := X) (mc := 0) (ms := 0) hC hex
  have hnw := e_nw (Q := oV Q) (X := X) (mc := 0) (ms := 0) hC hex
  have hnx := e_nx (Q := oV Q) (X := X) (mc := 0) (ms := 0) hC hex
  have hi : True := trivial
  generalize ZM C G A (oV Q) X 0 0 = Z at *
  refine r_iconst (v := 0) hC dX0_countRow_0 (by decide) ?_
  refine r_istore (i := 5) (lv' := [(5, .int (0 : Int32)), (0, va_rf (some x0)), (1, va_rf x1), (2, .int x2), (3, .int x3), (4, .int x4)]) hC dX0_countRow_1 (by decide) (by first | rfl | simp [lvs1, lvs2, List.filter, cat_rf, cat_i, cat_j]) ?_
  refine r_iconst (v := 0) hC dX0_countRow_3 (by decide) ?_
  refine r_istore (i := 6) (lv' := [(6, .int (0 : Int32)), (5, .int (0 : Int32)), (0, va_rf (some x0)), (1, va_rf x1), (2, .int x2), (3, .int x3), (4, .int x4)]) hC dX0_countRow_4 (by decide) (by first | rfl | simp [lvs1, lvs2, List.filter, cat_rf, cat_i, cat_j]) ?_
  obtain ⟨fu6, h⟩ := h
  exact RR.wid (by decide) (by decide) (RR.sub [2, 3, 4, 5, 6, 1, 0] rfl (b_X0_countRow_6 hC hAo hr hx hn hnw hnx hi  fu6 _ _ _ _ _ _ _ _ h))
