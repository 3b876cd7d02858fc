set_option maxRecDepth 20000 in
theorem c_J6_bitCount_0f7a4 (G : GG) (x0 : Int32) (ph : PH) (Q : Int32 → PH → Prop) (X : String → PH → Prop) (h : w_J6_bitCount_0f7a4 x0 ph Q X) : Ct G yJ6_bitCount_0f7a4 (.code yJ6_bitCount_0f7a4 cJ6_bitCount_0f7a4 1 (some (.int))) 0 0 0 0 [.int x0] ph (oI Q) X := by
  refine ct_of (lv0 := [(0, .int x0)]) (by decide +kernel) (by simp [lg_sl, cat_rf, cat_i, cat_j]) (by simp [lv_args, cat_rf, cat_i, cat_j]) ?_
  intro C A hC hAo hex hrt hnm
  have hr : HI C (ZM C G A (oI Q) X 0 0) A G 1 cJ6_bitCount_0f7a4 0 0 Q := fun pc lv v ph k n d hk hn hq => e_i hC hrt pc lv v ph k n d hk hn ⟨v, rfl, hq⟩
  have hx := e_x (Q := oI Q) (X := X) (mc := 0) (ms := 0) hC hex
  have hn := e_n (Q := oI Q) (X := X) (mc := 0) (ms := 0) hC hex
  have hnw := e_nw (Q := oI Q) (X := X) (mc := 0) (ms := 0) hC hex
  have hnx := e_nx (Q := oI Q) (X := X) (mc := 0) (ms := 0) hC hex
  have hi : True := trivial
  generalize ZM C G A (oI Q) X 0 0 = Z at *
  refine r_iload_n hC dJ6_bitCount_0f7a4_0 rfl 0 rfl ?_
  refine r_iload_n hC dJ6_bitCount_0f7a4_1 rfl 0 rfl ?_
  refine r_iconst (v := 1) hC dJ6_bitCount_0f7a4_2 (by decide) ?_
  refine r_iushr hC dJ6_bitCount_0f7a4_3 ?_
  refine r_ldc_w (v := 1431655765) hC tb_694 dJ6_bitCount_0f7a4_4 ?_
  refine r_iand hC dJ6_bitCount_0f7a4_7 ?_
  refine r_isub hC dJ6_bitCount_0f7a4_8 ?_
  obtain ⟨v9, ev9⟩ : ∃ z : Int32, z = x0 - (((x0.toUInt32 >>> ((1 : Int32).toUInt32 &&& Int32.toUInt32 31)).toInt32) &&& (1431655765 : Int32)) := ⟨_, rfl⟩
  have h := h v9 ev9
  refine RR.to (st' := [.int v9]) (by rw [ev9]) ?_
  refine r_istore_n (i := 0) (lv' := [(0, .int v9)]) hC dJ6_bitCount_0f7a4_9 rfl (by decide) (by first | rfl | simp [lvs1, lvs2, List.filter, cat_rf, cat_i, cat_j]) ?_
  refine r_iload_n hC dJ6_bitCount_0f7a4_10 rfl 0 rfl ?_
  refine r_ldc_w (v := 858993459) hC tb_695 dJ6_bitCount_0f7a4_11 ?_
  refine r_iand hC dJ6_bitCount_0f7a4_14 ?_
  refine r_iload_n hC dJ6_bitCount_0f7a4_15 rfl 0 rfl ?_
  refine r_iconst (v := 2) hC dJ6_bitCount_0f7a4_16 (by decide) ?_
  refine r_iushr hC dJ6_bitCount_0f7a4_17 ?_
  refine r_ldc_w (v := 858993459) hC tb_695 dJ6_bitCount_0f7a4_18 ?_
  refine r_iand hC dJ6_bitCount_0f7a4_21 ?_
  refine r_iadd hC dJ6_bitCount_0f7a4_22 ?_
  obtain ⟨v23, ev23⟩ : ∃ z : Int32, z = (v9 &&& (858993459 : Int32)) + (((v9.toUInt32 >>> ((2 : Int32).toUInt32 &&& Int32.toUInt32 31)).toInt32) &&& (858993459 : Int32)) := ⟨_, rfl⟩
  have h := h v23 ev23
  refine RR.to (st' := [.int v23]) (by rw [ev23]) ?_
  refine r_istore_n (i := 0) (lv' := [(0, .int v23)]) hC dJ6_bitCount_0f7a4_23 rfl (by decide) (by first | rfl | simp [lvs1, lvs2, List.filter, cat_rf, cat_i, cat_j]) ?_
  refine r_iload_n hC dJ6_bitCount_0f7a4_24 rfl 0 rfl ?_
  refine r_iload_n hC dJ6_bitCount_0f7a4_25 rfl 0 rfl ?_
  refine r_iconst (v := 4) hC dJ6_bitCount_0f7a4_26 (by decide) ?_
  refine r_iushr hC dJ6_bitCount_0f7a4_27 ?_
  refine r_iadd hC dJ6_bitCount_0f7a4_28 ?_
  refine r_ldc_w (v := 252645135) hC tb_696 dJ6_bitCount_0f7a4_29 ?_
  refine r_iand hC dJ6_bitCount_0f7a4_32 ?_
  obtain ⟨v33, ev33⟩ : ∃ z : Int32, z = (v23 + ((v23.toUInt32 >>> ((4 : Int32).toUInt32 &&& Int32.toUInt32 31)).toInt32)) &&& (252645135 : Int32) := ⟨_, rfl⟩
  have h := h v33 ev33
  refine RR.to (st' := [.int v33]) (by rw [ev33]) ?_
  refine r_istore_n (i := 0) (lv' := [(0, .int v33)]) hC dJ6_bitCount_0f7a4_33 rfl (by decide) (by first | rfl | simp [lvs1, lvs2, List.filter, cat_rf, cat_i, cat_j]) ?_
  refine r_iload_n hC dJ6_bitCount_0f7a4_34 rfl 0 rfl ?_
  refine r_iload_n hC dJ6_bitCount_0f7a4_35 rfl 0 rfl ?_
  refine r_bipush (v := 8) hC dJ6_bitCount_0f7a4_36 (by decide) ?_
  refine r_iushr hC dJ6_bitCount_0f7a4_38 ?_
  refine r_iadd hC dJ6_bitCount_0f7a4_39 ?_
  obtain ⟨v40, ev40⟩ : ∃ z : Int32, z = v33 + ((v33.toUInt32 >>> ((8 : Int32).toUInt32 &&& Int32.toUInt32 31)).toInt32) := ⟨_, rfl⟩
  have h := h v40 ev40
  refine RR.to (st' := [.int v40]) (by rw [ev40]) ?_
  refine r_istore_n (i := 0) (lv' := [(0, .int v40)]) hC dJ6_bitCount_0f7a4_40 rfl (by decide) (by first | rfl | simp [lvs1, lvs2, List.filter, cat_rf, cat_i, cat_j]) ?_
  refine r_iload_n hC dJ6_bitCount_0f7a4_41 rfl 0 rfl ?_
  refine r_iload_n hC dJ6_bitCount_0f7a4_42 rfl 0 rfl ?_
  refine r_bipush (v := 16) hC dJ6_bitCount_0f7a4_43 (by decide) ?_
  refine r_iushr hC dJ6_bitCount_0f7a4_45 ?_
  refine r_iadd hC dJ6_bitCount_0f7a4_46 ?_
  obtain ⟨v47, ev47⟩ : ∃ z : Int32, z = v40 + ((v40.toUInt32 >>> ((16 : Int32).toUInt32 &&& Int32.toUInt32 31)).toInt32) := ⟨_, rfl⟩
  have h := h v47 ev47
  refine RR.to (st' := [.int v47]) (by rw [ev47]) ?_
  refine r_istore_n (i := 0) (lv' := [(0, .int v47)]) hC dJ6_bitCount_0f7a4_47 rfl (by decide) (by first | rfl | simp [lvs1, lvs2, List.filter, cat_rf, cat_i, cat_j]) ?_
  refine r_iload_n hC dJ6_bitCount_0f7a4_48 rfl 0 rfl ?_
  refine r_bipush (v := 63) hC dJ6_bitCount_0f7a4_49 (by decide) ?_
  refine r_iand hC dJ6_bitCount_0f7a4_51 ?_
  exact hr _ _ _ _ _ _ dJ6_bitCount_0f7a4_52 (by decide) (by decide) h
set_option maxRecDepth 20000 in
theorem c_X11_states (G : GG) (x0 : Nat) (x1 : Int32) (ph : PH) (Q : Int32 → PH → Prop) (X : String → PH → Prop) (h : w_X11_states x0 x1 ph Q X) : Ct G yX11_states (.code yX11_states cX11_states 2 (some (.int))) 7 112 1 6 [va_rf (some x0), .int x1] ph (oI Q) X := by
  refine ct_of (lv0 := [(0, va_rf (some x0)), (1, .int x1)]) (by decide +kernel) (by simp [lg_sl, cat_rf, cat_i, cat_j]) (by simp [lv_args, cat_rf, cat_i, cat_j]) ?_
  intro C A hC hAo hex hrt hnm
  have hr : HI C (ZM C G A (oI Q) X 1 6) A G 2 cX11_states 1 6 Q := fun pc lv v ph k n d hk hn hq => e_i hC hrt pc lv v ph k n d hk hn ⟨v, rfl, hq⟩
  have hx := e_x (Q := oI Q) (X := X) (mc := 1) (ms := 6) hC hex
  have hn := e_n (Q := oI Q) (X := X) (mc := 1) (ms := 6) hC hex
  have hnw := e_nw (Q := oI Q) (X := X) (mc := 1) (ms := 6) hC hex
  have hnx := e_nx (Q := oI Q) (X := X) (mc := 1) (ms := 6) hC hex
  have hi : True := trivial
  generalize ZM C G A (oI Q) X 1 6 = Z at *
  refine r_aload_n hC dX11_states_0 rfl 0 rfl ?_
  refine r_iload_n hC dX11_states_1 rfl 1 rfl ?_
  obtain ⟨a2, o2, h⟩ := h
  refine r_VR hC hAo [.int x1] cal_X11_shiftAt ml_X11_110 (ci := 12) rfl rfl rfl (c_X11_shiftAt G _ _ _ _ _ h) o2 ⟨by decide, by decide⟩ ⟨by decide, by decide⟩ (by simp only [List.map_nil, List.map_cons, List.sum_nil, List.sum_cons, cat_rf, cat_i, cat_j]; decide) rfl dX11_states_2 (fun E u hx9 => hx _ _ _ _ _ _ _ (by decide) (by decide) hx9) (fun v2 ph2 h => ?_)
  refine RR.wid (k' := 1) (n' := 6) (by decide) (by decide) ?_
  obtain ⟨a5, o5, h⟩ := h
  refine r_VI hC hAo [] cal_X3_liveSet ml_X11_156 (ci := 6) rfl rfl rfl (c_X3_liveSet G _ _ _ _ h) o5 ⟨by decide, by decide⟩ ⟨by decide, by decide⟩ (by simp only [List.map_nil, List.map_cons, List.sum_nil, List.sum_cons, cat_rf, cat_i, cat_j]; decide) rfl dX11_states_5 (fun E u hx9 => hx _ _ _ _ _ _ _ (by decide) (by decide) hx9) (fun v5 ph5 h => ?_)
  refine RR.wid (k' := 1) (n' := 6) (by decide) (by decide) ?_
  refine r_SI hC hAo [.int v5] cal_J6_bitCount_0f7a4 ml_X11_160 rfl (c_J6_bitCount_0f7a4 G _ _ _ _ h) ⟨by decide, by decide⟩ ⟨by decide, by decide⟩ (by simp only [List.map_nil, List.map_cons, List.sum_nil, List.sum_cons, cat_rf, cat_i, cat_j]; decide) rfl dX11_states_8 (fun E u hx9 => hx _ _ _ _ _ _ _ (by decide) (by decide) hx9) (fun v8 ph8 h => ?_)
  refine RR.wid (k' := 1) (n' := 6) (by decide) (by decide) ?_
  exact hr _ _ _ _ _ _ dX11_states_11 (by decide) (by decide) h
set_option maxRecDepth 20000 in
theorem b_J7_fill_53178_5 {C : Cx} {Z : State → Prop} {A : Nat → Prop} {G : GG} {Q : PH → Prop} {X : String → PH → Prop} (hC : CxOk RJ7 cJ7_fill_53178 4 G A (rmk 0 0 0 0) C) (hAo : Ao (xs C)) (hr : HV C Z A G 4 cJ7_fill_53178 0 0 Q) (hx : HX C Z A G 4 0 0 X) (hn : HN C Z A G 4 RJ7 cJ7_fill_53178 0 0 (rmk 0 0 0 0) X) (hnw : HNW C Z A G 4 RJ7 cJ7_fill_53178 0 0 (rmk 0 0 0 0) X) (hnx : HNX C Z A G 4 RJ7 cJ7_fill_53178 0 0 (rmk 0 0 0 0) X) (hi : True) : ∀ (fu : Nat) (x0 : Option Nat) (x1 : Int32) (x2 : Int32) (x3 : Int32) (ph : PH), w_J7_fill_53178_5 Q X fu x0 x1 x2 x3 ph → RR C Z A G 4 5 [(0, va_rf x0), (1, .int x1), (2, .int x2), (3, .int x3)] [] ph 0 0 := by
  intro fu
  induction fu with
  | zero => intro x0 x1 x2 x3 ph h; exact h.elim
  | succ fu ih =>
    intro x0 x1 x2 x3 ph h
    refine r_iload_n hC dJ7_fill_53178_5 rfl 2 rfl ?_
    refine r_iload_n hC dJ7_fill_53178_6 rfl 3 rfl ?_
    refine r_icmp_ge (tgt := 20) hC dJ7_fill_53178_7 (by decide) (fun c9 => ?_) (fun c9 => ?_)
    · have h := h.1 c9
      exact hr _ _ _ _ _ dJ7_fill_53178_20 (by decide) (by decide) h
    · have h := h.2 c9
      refine r_aload_n hC dJ7_fill_53178_10 rfl 0 rfl ?_
      refine r_iload_n hC dJ7_fill_53178_11 rfl 2 rfl ?_
      refine r_iload_n hC dJ7_fill_53178_12 rfl 1 rfl ?_
      obtain ⟨ph13, g13, h⟩ := h
      refine r_iast hC dJ7_fill_53178_13 g13 ?_
      refine r_iinc (w := 2) (v := x2 + 1) (lv' := [(2, .int (x2 + 1)), (0, va_rf x0), (1, .int x1), (3, .int x3)]) hC dJ7_fill_53178_14 rfl rfl (by decide) (by first | rfl | simp [lvs1, List.filter, cat_rf, cat_i, cat_j]) ?_
      refine r_goto (tgt := 5) hC dJ7_fill_53178_17 (by decide) ?_
      exact RR.wid (by decide) (by decide) (RR.sub [1, 2, 0, 3] rfl (ih _ _ _ _ _ h))
set_option maxRecDepth 20000 in
theorem c_J7_fill_53178 (G : GG) (x0 : Option Nat) (x1 : Int32) (ph : PH) (Q : PH → Prop) (X : String → PH → Prop) (h : w_J7_fill_53178 x0 x1 ph Q X) : Ct G yJ7_fill_53178 (.code yJ7_fill_53178 cJ7_fill_53178 4 none) 0 0 0 0 [va_rf x0, .int x1] ph (oV Q) X := by
  refine ct_of (lv0 := [(0, va_rf x0), (1, .int x1)]) (by decide +kernel) (by simp [lg_sl, cat_rf, cat_i, cat_j]) (by simp [lv_args, cat_rf, cat_i, cat_j]) ?_
  intro C A hC hAo hex hrt hnm
  have hr : HV C (ZM C G A (oV Q) X 0 0) A G 4 cJ7_fill_53178 0 0 Q := fun pc lv ph k n d hk hn hq => e_v hC hrt pc lv ph k n d hk hn ⟨rfl, hq⟩
  have hx := e_x (Q := oV Q) (X := X) (mc := 0) (ms := 0) hC hex
  have hn := e_n (Q := oV Q) (X := X) (mc := 0) (ms := 0) hC hex
  have hnw := e_nw (Q := oV Q) (X := X) (mc := 0) (ms := 0) hC hex
  have hnx := e_nx (Q := oV Q) (X := X) (mc := 0) (ms := 0) hC hex
  have hi : True := trivial
  generalize ZM C G A (oV Q) X 0 0 = Z at *
  refine r_iconst (v := 0) hC dJ7_fill_53178_0 (by decide) ?_
  refine r_istore_n (i := 2) (lv' := [(2, .int (0 : Int32)), (0, va_rf x0), (1, .int x1)]) hC dJ7_fill_53178_1 rfl (by decide) (by first | rfl | simp [lvs1, lvs2, List.filter, cat_rf, cat_i, cat_j]) ?_
  refine r_aload_n hC dJ7_fill_53178_2 rfl 1 rfl ?_
  obtain ⟨v3, g3, h⟩ := h
  refine r_alen hC dJ7_fill_53178_3 g3 ?_
  refine r_istore_n (i := 3) (lv' := [(3, .int v3), (2, .int (0 : Int32)), (0, va_rf x0), (1, .int x1)]) hC dJ7_fill_53178_4 rfl (by decide) (by first | rfl | simp [lvs1, lvs2, List.filter, cat_rf, cat_i, cat_j]) ?_
  obtain ⟨fu5, h⟩ := h
  exact RR.wid (by decide) (by decide) (RR.sub [2, 3, 1, 0] rfl (b_J7_fill_53178_5 hC hAo hr hx hn hnw hnx hi  fu5 _ _ _ _ _ h))
set_option maxRecDepth 20000 in
theorem c_X6_slotOf (G : GG) (x0 : Int32) (x1 : Int32) (ph : PH) (Q : Int32 → PH → Prop) (X : String → PH → Prop) (h : w_X6_slotOf x0 x1 ph Q X) : Ct G yX6_slotOf (.code yX6_slotOf cX6_slotOf 3 (some (.int))) 0 0 0 0 [.int x0, .int x1] ph (oI Q) X := by
  refine ct_of (lv0 := [(0, .int x0), (1, .int x1)]) (by decide +kernel) (by simp [lg_sl, cat_rf, cat_i, cat_j]) (by simp [lv_args, cat_rf, cat_i, cat_j]) ?_
  intro C A hC hAo hex hrt hnm
  have hr : HI C (ZM C G A (oI Q) X 0 0) A G 3 cX6_slotOf 0 0 Q := fun pc lv v ph k n d hk hn hq => e_i hC hrt pc lv v ph k n d hk hn ⟨v, rfl, hq⟩
  have hx := e_x (Q := oI Q) (X := X) (mc := 0) (ms := 0) hC hex
  have hn := e_n (Q := oI Q) (X := X) (mc := 0) (ms := 0) hC hex
  have hnw := e_nw (Q := oI Q) (X := X) (mc := 0) (ms := 0) hC hex
  have hnx := e_nx (Q := oI Q) (X := X) (mc := 0) (ms := 0) hC hex
  have hi : True := trivial
  generalize ZM C G A (oI Q) X 0 0 = Z at *
  refine r_iload_n hC dX6_slotOf_0 rfl 0 rfl ?_
  refine r_bipush (v := 31) hC dX6_slotOf_1 (by decide) ?_
  refine r_imul hC dX6_slotOf_3 ?_
  refine r_iload_n hC dX6_slotOf_4 rfl 1 rfl ?_
  refine r_iadd hC dX6_slotOf_5 ?_
  obtain ⟨v6, ev6⟩ : ∃ z : Int32, z = (x0 * (31 : Int32)) + x1 := ⟨_, rfl⟩
  have h := h v6 ev6
  refine RR.to (st' := [.int v6]) (by rw [ev6]) ?_
  refine r_istore_n (i := 2) (lv' := [(2, .int v6), (0, .int x0), (1, .int x1)]) hC dX6_slotOf_6 rfl (by decide) (by first | rfl | simp [lvs1, lvs2, List.filter, cat_rf, cat_i, cat_j]) ?_
  refine r_iload_n hC dX6_slotOf_7 rfl 0 rfl ?_
  refine r_iload_n hC dX6_slotOf_8 rfl 0 rfl ?_
  refine r_bipush (v := 10) hC dX6_slotOf_9 (by decide) ?_
  refine r_iushr hC dX6_slotOf_11 ?_
  refine r_iload_n hC dX6_slotOf_12 rfl 0 rfl ?_
  refine r_bipush (v := 20) hC dX6_slotOf_13 (by decide) ?_
  refine r_iushr hC dX6_slotOf_15 ?_
  refine r_ixor hC dX6_slotOf_16 ?_
  refine r_ixor hC dX6_slotOf_17 ?_
  obtain ⟨v18, ev18⟩ : ∃ z : Int32, z = v6 ^^^ (((v6.toUInt32 >>> ((10 : Int32).toUInt32 &&& Int32.toUInt32 31)).toInt32) ^^^ ((v6.toUInt32 >>> ((20 : Int32).toUInt32 &&& Int32.toUInt32 31)).toInt32)) := ⟨_, rfl⟩
  have h := h v18 ev18
  refine RR.to (st' := [.int v18]) (by rw [ev18]) ?_
  refine r_istore_n (i := 2) (lv' := [(2, .int v18), (0, .int x0), (1, .int x1)]) hC dX6_slotOf_18 rfl (by decide) (by first | rfl | simp [lvs1, lvs2, List.filter, cat_rf, cat_i, cat_j]) ?_
  refine r_iload_n hC dX6_slotOf_19 rfl 0 rfl ?_
  refine r_sipush (v := 1023) hC dX6_slotOf_20 (by decide) ?_
  refine r_iand hC dX6_slotOf_23 ?_
  exact hr _ _ _ _ _ _ dX6_slotOf_24 (by decide) (by decide) h
set_option maxRecDepth 20000 in
theorem c_X6_recall (G : GG) (x0 : Nat) (x1 : Int32) (x2 : Int32) (x3 : Int32) (ph : PH) (Q : Int32 → PH → Prop) (X : String → PH → Prop) (h : w_X6_recall x0 x1 x2 x3 ph Q X) : Ct G yX6_recall (.code yX6_recall cX6_recall 4 (some (.int))) 0 0 0 0 [va_rf (some x0), .int x1, .int x2, .int x3] ph (oI Q) X := by
  refine ct_of (lv0 := [(0, va_rf (some x0)), (1, .int x1), (2, .int x2), (3, .int x3)]) (by decide +kernel) (by simp [lg_sl, cat_rf, cat_i, cat_j]) (by simp [lv_args, cat_rf, cat_i, cat_j]) ?_
  intro C A hC hAo hex hrt hnm
  have hr : HI C (ZM C G A (oI Q) X 0 0) A G 4 cX6_recall 0 0 Q := fun pc lv v ph k n d hk hn hq => e_i hC hrt pc lv v ph k n d hk hn ⟨v, rfl, hq⟩
  have hx := e_x (Q := oI Q) (X := X) (mc := 0) (ms := 0) hC hex
  have hn := e_n (Q := oI Q) (X := X) (mc := 0) (ms := 0) hC hex
  have hnw := e_nw (Q := oI Q) (X := X) (mc := 0) (ms := 0) hC hex
  have hnx := e_nx (Q := oI Q) (X := X) (mc := 0) (ms := 0) hC hex
  have hi : True := trivial
  generalize ZM C G A (oI Q) X 0 0 = Z at *
  refine r_iload_n hC dX6_recall_0 rfl 1 rfl ?_
  refine r_if_lt (tgt := 31) hC dX6_recall_1 (by decide) (fun c9 => ?_) (fun c9 => ?_)
  · have h := h.1 c9
    refine r_iconst (v := -1) hC dX6_recall_31 (by decide) ?_
    exact hr _ _ _ _ _ _ dX6_recall_32 (by decide) (by decide) h
  · have h := h.2 c9
    refine r_iload_n hC dX6_recall_4 rfl 1 rfl ?_
    refine r_aload_n hC dX6_recall_5 rfl 0 rfl ?_
    obtain ⟨v6, g6, h⟩ := h
    refine r_get hC (ci := 7) (kf := 0) (N := 11) (Cn := RX6) (T := TX6) rfl (by decide) tin_X6 fl_X6_11 rfl dX6_recall_6 g6 ?_
    obtain ⟨v9, g9, h⟩ := h
    refine r_alen hC dX6_recall_9 g9 ?_
    refine r_icmp_ge (tgt := 31) hC dX6_recall_10 (by decide) (fun c9 => ?_) (fun c9 => ?_)
    · have h := h.1 c9
      refine r_iconst (v := -1) hC dX6_recall_31 (by decide) ?_
      exact hr _ _ _ _ _ _ dX6_recall_32 (by decide) (by decide) h
    · have h := h.2 c9
      refine r_iload_n hC dX6_recall_13 rfl 1 rfl ?_
      refine r_aload_n hC dX6_recall_14 rfl 0 rfl ?_
      obtain ⟨v15, g15, h⟩ := h
      refine r_get hC (ci := 7) (kf := 1) (N := 11) (Cn := RX6) (T := TX6) rfl (by decide) tin_X6 fl_X6_15 rfl dX6_recall_15 g15 ?_
      obtain ⟨v18, g18, h⟩ := h
      refine r_alen hC dX6_recall_18 g18 ?_
      refine r_icmp_ge (tgt := 31) hC dX6_recall_19 (by decide) (fun c9 => ?_) (fun c9 => ?_)
      · have h := h.1 c9
        refine r_iconst (v := -1) hC dX6_recall_31 (by decide) ?_
        exact hr _ _ _ _ _ _ dX6_recall_32 (by decide) (by decide) h
      · have h := h.2 c9
        refine r_iload_n hC dX6_recall_22 rfl 1 rfl ?_
        refine r_aload_n hC dX6_recall_23 rfl 0 rfl ?_
        obtain ⟨v24, g24, h⟩ := h
        refine r_get hC (ci := 7) (kf := 2) (N := 11) (Cn := RX6) (T := TX6) rfl (by decide) tin_X6 fl_X6_18 rfl dX6_recall_24 g24 ?_
        obtain ⟨v27, g27, h⟩ := h
        refine r_alen hC dX6_recall_27 g27 ?_
        refine r_icmp_lt (tgt := 33) hC dX6_recall_28 (by decide) (fun c9 => ?_) (fun c9 => ?_)
        · have h := h.1 c9
          refine r_aload_n hC dX6_recall_33 rfl 0 rfl ?_
          obtain ⟨v34, g34, h⟩ := h
          refine r_get hC (ci := 7) (kf := 0) (N := 11) (Cn := RX6) (T := TX6) rfl (by decide) tin_X6 fl_X6_11 rfl dX6_recall_34 g34 ?_
          refine r_iload_n hC dX6_recall_37 rfl 1 rfl ?_
          obtain ⟨v38, g38, h⟩ := h
          refine r_iald hC dX6_recall_38 g38 ?_
          refine r_iload_n hC dX6_recall_39 rfl 2 rfl ?_
          refine r_icmp_ne (tgt := 62) hC dX6_recall_40 (by decide) (fun c9 => ?_) (fun c9 => ?_)
          · have h := h.1 c9
            refine r_iconst (v := -1) hC dX6_recall_62 (by decide) ?_
            exact hr _ _ _ _ _ _ dX6_recall_63 (by decide) (by decide) h
          · have h := h.2 c9
            refine r_aload_n hC dX6_recall_43 rfl 0 rfl ?_
            obtain ⟨v44, g44, h⟩ := h
            refine r_get hC (ci := 7) (kf := 1) (N := 11) (Cn := RX6) (T := TX6) rfl (by decide) tin_X6 fl_X6_15 rfl dX6_recall_44 g44 ?_
            refine r_iload_n hC dX6_recall_47 rfl 1 rfl ?_
            obtain ⟨v48, g48, h⟩ := h
            refine r_iald hC dX6_recall_48 g48 ?_
            refine r_iload_n hC dX6_recall_49 rfl 3 rfl ?_
            refine r_icmp_ne (tgt := 62) hC dX6_recall_50 (by decide) (fun c9 => ?_) (fun c9 => ?_)
            · have h := h.1 c9
              refine r_iconst (v := -1) hC dX6_recall_62 (by decide) ?_
              exact hr _ _ _ _ _ _ dX6_recall_63 (by decide) (by decide) h
            · have h := h.2 c9
              refine r_aload_n hC dX6_recall_53 rfl 0 rfl ?_
              obtain ⟨v54, g54, h⟩ := h
              refine r_get hC (ci := 7) (kf := 2) (N := 11) (Cn := RX6) (T := TX6) rfl (by decide) tin_X6 fl_X6_18 rfl dX6_recall_54 g54 ?_
              refine r_iload_n hC dX6_recall_57 rfl 1 rfl ?_
              obtain ⟨v58, g58, h⟩ := h
              refine r_iald hC dX6_recall_58 g58 ?_
              refine r_goto (tgt := 63) hC dX6_recall_59 (by decide) ?_
              exact hr _ _ _ _ _ _ dX6_recall_63 (by decide) (by decide) h
        · have h := h.2 c9
          refine r_iconst (v := -1) hC dX6_recall_31 (by decide) ?_
          exact hr _ _ _ _ _ _ dX6_recall_32 (by decide) (by decide) h
set_option maxRecDepth 20000 in
theorem c_X6_keep (G : GG) (x0 : Nat) (x1 : Int32) (x2 : Int32) (x3 : Int32) (x4 : Int32) (ph : PH) (Q : PH → Prop) (X : String → PH → Prop) (h : w_X6_keep x0 x1 x2 x3 x4 ph Q X) : Ct G yX6_keep (.code yX6_keep cX6_keep 5 none) 0 0 0 0 [va_rf (some x0), .int x1, .int x2, .int x3, .int x4] ph (oV Q) X := by
  refine ct_of (lv0 := [(0, va_rf (some x0)), (1, .int x1), (2, .int x2), (3, .int x3), (4, .int x4)]) (by decide +kernel) (by simp [lg_sl, cat_rf, cat_i, cat_j]) (by simp [lv_args, cat_rf, cat_i, cat_j]) ?_
  intro C A hC hAo hex hrt hnm
  have hr : HV C (ZM C G A (oV Q) X 0 0) A G 5 cX6_keep 0 0 Q := fun pc lv ph k n d hk hn hq => e_v hC hrt pc lv ph k n d hk hn ⟨rfl, hq⟩
  have hx := e_x (Q := oV Q) (X := X) (mc := 0) (ms := 0) hC hex
  have hn := e_n (Q := oV Q) (X := X) (mc := 0) (ms := 0) hC hex
  have hnw := e_nw (Q := oV Q) (X := X) (mc := 0) (ms := 0) hC hex
  have hnx := e_nx (Q := oV Q) (X := X) (mc := 0) (ms := 0) hC hex
  have hi : True := trivial
  generalize ZM C G A (oV Q) X 0 0 = Z at *
  refine r_iload_n hC dX6_keep_0 rfl 1 rfl ?_
  refine r_if_lt (tgt := 53) hC dX6_keep_1 (by decide) (fun c9 => ?_) (fun c9 => ?_)
  · have h := h.1 c9
    exact hr _ _ _ _ _ dX6_keep_53 (by decide) (by decide) h
  · have h := h.2 c9
    refine r_iload_n hC dX6_keep_4 rfl 1 rfl ?_
    refine r_aload_n hC dX6_keep_5 rfl 0 rfl ?_
    obtain ⟨v6, g6, h⟩ := h
    refine r_get hC (ci := 7) (kf := 0) (N := 11) (Cn := RX6) (T := TX6) rfl (by decide) tin_X6 fl_X6_11 rfl dX6_keep_6 g6 ?_
    obtain ⟨v9, g9, h⟩ := h
    refine r_alen hC dX6_keep_9 g9 ?_
    refine r_icmp_ge (tgt := 53) hC dX6_keep_10 (by decide) (fun c9 => ?_) (fun c9 => ?_)
    · have h := h.1 c9
      exact hr _ _ _ _ _ dX6_keep_53 (by decide) (by decide) h
    · have h := h.2 c9
      refine r_iload_n hC dX6_keep_13 rfl 1 rfl ?_
      refine r_aload_n hC dX6_keep_14 rfl 0 rfl ?_
      obtain ⟨v15, g15, h⟩ := h
      refine r_get hC (ci := 7) (kf := 1) (N := 11) (Cn := RX6) (T := TX6) rfl (by decide) tin_X6 fl_X6_15 rfl dX6_keep_15 g15 ?_
      obtain ⟨v18, g18, h⟩ := h
      refine r_alen hC dX6_keep_18 g18 ?_
      refine r_icmp_ge (tgt := 53) hC dX6_keep_19 (by decide) (fun c9 => ?_) (fun c9 => ?_)
      · have h := h.1 c9
        exact hr _ _ _ _ _ dX6_keep_53 (by decide) (by decide) h
      · have h := h.2 c9
        refine r_iload_n hC dX6_keep_22 rfl 1 rfl ?_
        refine r_aload_n hC dX6_keep_23 rfl 0 rfl ?_
        obtain ⟨v24, g24, h⟩ := h
        refine r_get hC (ci := 7) (kf := 2) (N := 11) (Cn := RX6) (T := TX6) rfl (by decide) tin_X6 fl_X6_18 rfl dX6_keep_24 g24 ?_
        obtain ⟨v27, g27, h⟩ := h
        refine r_alen hC dX6_keep_27 g27 ?_
        refine r_icmp_ge (tgt := 53) hC dX6_keep_28 (by decide) (fun c9 => ?_) (fun c9 => ?_)
        · have h := h.1 c9
          exact hr _ _ _ _ _ dX6_keep_53 (by decide) (by decide) h
        · have h := h.2 c9
          refine r_aload_n hC dX6_keep_31 rfl 0 rfl ?_
          obtain ⟨v32, g32, h⟩ := h
          refine r_get hC (ci := 7) (kf := 0) (N := 11) (Cn := RX6) (T := TX6) rfl (by decide) tin_X6 fl_X6_11 rfl dX6_keep_32 g32 ?_
          refine r_iload_n hC dX6_keep_35 rfl 1 rfl ?_
          refine r_iload_n hC dX6_keep_36 rfl 2 rfl ?_
          obtain ⟨ph37, g37, h⟩ := h
          refine r_iast hC dX6_keep_37 g37 ?_
          refine r_aload_n hC dX6_keep_38 rfl 0 rfl ?_
          obtain ⟨v39, g39, h⟩ := h
          refine r_get hC (ci := 7) (kf := 1) (N := 11) (Cn := RX6) (T := TX6) rfl (by decide) tin_X6 fl_X6_15 rfl dX6_keep_39 g39 ?_
          refine r_iload_n hC dX6_keep_42 rfl 1 rfl ?_
          refine r_iload_n hC dX6_keep_43 rfl 3 rfl ?_
          obtain ⟨ph44, g44, h⟩ := h
          refine r_iast hC dX6_keep_44 g44 ?_
          refine r_aload_n hC dX6_keep_45 rfl 0 rfl ?_
          obtain ⟨v46, g46, h⟩ := h
          refine r_get hC (ci := 7) (kf := 2) (N := 11) (Cn := RX6) (T := TX6) rfl (by decide) tin_X6 fl_X6_18 rfl dX6_keep_46 g46 ?_
          refine r_iload_n hC dX6_keep_49 rfl 1 rfl ?_
          refine r_iload hC dX6_keep_50 4 rfl ?_
          obtain ⟨ph52, g52, h⟩ := h
          refine r_iast hC dX6_keep_52 g52 ?_
          exact hr _ _ _ _ _ dX6_keep_53 (by decide) (by decide) h
set_option maxRecDepth 20000 in
theorem b_X3_read_5 {C : Cx} {Z : State → Prop} {A : Nat → Prop} {G : GG} {Q : Int32 → PH → Prop} {X : String → PH → Prop} (hC : CxOk RX3 cX3_read 5 G A (rmk 1 24 0 0) C) (hAo : Ao (xs C)) (hr : HI C Z A G 5 cX3_read 0 0 Q) (hx : HX C Z A G 5 0 0 X) (hn : HN C Z A G 5 RX3 cX3_read 0 0 (rmk 1 24 0 0) X) (hnw : HNW C Z A G 5 RX3 cX3_read 0 0 (rmk 1 24 0 0) X) (hnx : HNX C Z A G 5 RX3 cX3_read 0 0 (rmk 1 24 0 0) X) (hi : True) : ∀ (fu : Nat) (x0 : Option Nat) (x1 : Int32) (x2 : Int32) (x3 : Int32) (x4 : Int32) (ph : PH), w_X3_read_5 Q X fu x0 x1 x2 x3 x4 ph → RR C Z A G 5 5 [(0, va_rf x0), (1, .int x1), (2, .int x2), (3, .int x3), (4, .int x4)] [] ph 0 0 := by
  intro fu
  induction fu with
  | zero => intro x0 x1 x2 x3 x4 ph h; exact h.elim
  | succ fu ih =>
    intro x0 x1 x2 x3 x4 ph h
    refine r_iload hC dX3_read_5 4 rfl ?_
    refine r_aload_n hC dX3_read_7 rfl 0 rfl ?_
    obtain ⟨v8, g8, h⟩ := h
    refine r_get hC (ci := 6) (kf := 0) (N := 3) (Cn := RX3) (T := TX3) rfl (by decide) tin_X3 fl_X3_9 rfl dX3_read_8 g8 ?_
    refine r_icmp_ge (tgt := 46) hC dX3_read_11 (by decide) (fun c9 => ?_) (fun c9 => ?_)
    · have h := h.1 c9
      refine r_iload_n hC dX3_read_46 rfl 3 rfl ?_
      exact hr _ _ _ _ _ _ dX3_read_47 (by decide) (by decide) h
    · have h := h.2 c9
      refine r_iload_n hC dX3_read_14 rfl 1 rfl ?_
      refine r_iload hC dX3_read_15 4 rfl ?_
      refine r_ishr hC dX3_read_17 ?_
      refine r_if_eq (tgt := 46) hC dX3_read_18 (by decide) (fun c9 => ?_) (fun c9 => ?_)
      · have h := h.1 c9
        refine r_iload_n hC dX3_read_46 rfl 3 rfl ?_
        exact hr _ _ _ _ _ _ dX3_read_47 (by decide) (by decide) h
      · have h := h.2 c9
        refine r_iload_n hC dX3_read_21 rfl 1 rfl ?_
        refine r_iload hC dX3_read_22 4 rfl ?_
        refine r_SI hC hAo [.int x1, .int x4] cal_X11_hasBit ml_X3_39 rfl (c_X11_hasBit G _ _ _ _ _ h) ⟨by decide, by decide⟩ ⟨by decide, by decide⟩ (by simp only [List.map_nil, List.map_cons, List.sum_nil, List.sum_cons, cat_rf, cat_i, cat_j]; decide) rfl dX3_read_24 (fun E u hx9 => hx _ _ _ _ _ _ _ (by decide) (by decide) hx9) (fun v24 ph24 h => ?_)
        refine RR.wid (k' := 0) (n' := 0) (by decide) (by decide) ?_
        refine r_if_eq (tgt := 40) hC dX3_read_27 (by decide) (fun c9 => ?_) (fun c9 => ?_)
        · have h := h.1 c9
          refine r_iinc (w := 4) (v := x4 + 1) (lv' := [(4, .int (x4 + 1)), (0, va_rf x0), (1, .int x1), (2, .int x2), (3, .int x3)]) hC dX3_read_40 rfl rfl (by decide) (by first | rfl | simp [lvs1, List.filter, cat_rf, cat_i, cat_j]) ?_
          refine r_goto (tgt := 5) hC dX3_read_43 (by decide) ?_
          exact RR.wid (by decide) (by decide) (RR.sub [1, 2, 3, 4, 0] rfl (ih _ _ _ _ _ _ h))
        · have h := h.2 c9
          refine r_iload_n hC dX3_read_30 rfl 3 rfl ?_
          refine r_aload_n hC dX3_read_31 rfl 0 rfl ?_
          refine r_iload hC dX3_read_32 4 rfl ?_
          refine r_iload_n hC dX3_read_34 rfl 2 rfl ?_
          obtain ⟨a35, o35, h⟩ := h
          refine r_VI hC hAo [.int x4, .int x2] cal_X3_targets ml_X3_35 (ci := 6) rfl rfl rfl (c_X3_targets G _ _ _ _ _ _ h) o35 ⟨by decide, by decide⟩ ⟨by decide, by decide⟩ (by simp only [List.map_nil, List.map_cons, List.sum_nil, List.sum_cons, cat_rf, cat_i, cat_j]; decide) rfl dX3_read_35 (fun E u hx9 => hx _ _ _ _ _ _ _ (by decide) (by decide) hx9) (fun v35 ph35 h => ?_)
          refine RR.wid (k' := 0) (n' := 0) (by decide) (by decide) ?_
          refine r_ior hC dX3_read_38 ?_
          obtain ⟨v39, ev39⟩ : ∃ z : Int32, z = x3 ||| v35 := ⟨_, rfl⟩
          have h := h v39 ev39
          refine RR.to (st' := [.int v39]) (by rw [ev39]) ?_
          refine r_istore_n (i := 3) (lv' := [(3, .int v39), (0, va_rf x0), (1, .int x1), (2, .int x2), (4, .int x4)]) hC dX3_read_39 rfl (by decide) (by first | rfl | simp [lvs1, lvs2, List.filter, cat_rf, cat_i, cat_j]) ?_
          refine r_iinc (w := 4) (v := x4 + 1) (lv' := [(4, .int (x4 + 1)), (3, .int v39), (0, va_rf x0), (1, .int x1), (2, .int x2)]) hC dX3_read_40 rfl rfl (by decide) (by first | rfl | simp [lvs1, List.filter, cat_rf, cat_i, cat_j]) ?_
          refine r_goto (tgt := 5) hC dX3_read_43 (by decide) ?_
          exact RR.wid (by decide) (by decide) (RR.sub [2, 3, 4, 1, 0] rfl (ih _ _ _ _ _ _ h))
set_option maxRecDepth 20000 in
theorem c_X3_read (G : GG) (x0 : Nat) (x1 : Int32) (x2 : Int32) (ph : PH) (Q : Int32 → PH → Prop) (X : String → PH → Prop) (h : w_X3_read x0 x1 x2 ph Q X) : Ct G yX3_read (.code yX3_read cX3_read 5 (some (.int))) 1 24 0 0 [va_rf (some x0), .int x1, .int x2] ph (oI Q) X := by
  refine ct_of (lv0 := [(0, va_rf (some x0)), (1, .int x1), (2, .int x2)]) (by decide +kernel) (by simp [lg_sl, cat_rf, cat_i, cat_j]) (by simp [lv_args, cat_rf, cat_i, cat_j]) ?_
  intro C A hC hAo hex hrt hnm
  have hr : HI C (ZM C G A (oI Q) X 0 0) A G 5 cX3_read 0 0 Q := fun pc lv v ph k n d hk hn hq => e_i hC hrt pc lv v ph k n d hk hn ⟨v, rfl, hq⟩
  have hx := e_x (Q := oI Q) (X := X) (mc := 0) (ms := 0) hC hex
  have hn := e_n (Q := oI Q) (X := X) (mc := 0) (ms := 0) hC hex
  have hnw := e_nw (Q := oI Q) (X := X) (mc := 0) (ms := 0) hC hex
  have hnx := e_nx (Q := oI Q) (X := X) (mc := 0) (ms := 0) hC hex
  have hi : True := trivial
  generalize ZM C G A (oI Q) X 0 0 = Z at *
  refine r_iconst (v := 0) hC dX3_read_0 (by decide) ?_
  refine r_istore_n (i := 3) (lv' := [(3, .int (0 : Int32)), (0, va_rf (some x0)), (1, .int x1), (2, .int x2)]) hC dX3_read_1 rfl (by decide) (by first | rfl | simp [lvs1, lvs2, List.filter, cat_rf, cat_i, cat_j]) ?_
  refine r_iconst (v := 0) hC dX3_read_2 (by decide) ?_
  refine r_istore (i := 4) (lv' := [(4, .int (0 : Int32)), (3, .int (0 : Int32)), (0, va_rf (some x0)), (1, .int x1), (2, .int x2)]) hC dX3_read_3 (by decide) (by first | rfl | simp [lvs1, lvs2, List.filter, cat_rf, cat_i, cat_j]) ?_
  obtain ⟨fu5, h⟩ := h
  exact RR.wid (by decide) (by decide) (RR.sub [2, 3, 4, 1, 0] rfl (b_X3_read_5 hC hAo hr hx hn hnw hnx hi  fu5 _ _ _ _ _ _ h))
set_option maxRecDepth 20000 in
theorem b_X6_countOn_53 {REC : Option Nat → Option Nat → Int32 → Int32 → Int32 → PH → (Int32 → PH → Prop) → (String → PH → Prop) → Prop} {dd : Nat} {C : Cx} {Z : State → Prop} {A : Nat → Prop} {G : GG} {Q : Int32 → PH → Prop} {X : String → PH → Prop} (hC : CxOk RX6 cX6_countOn 9 G A (rmk (dd + 1 + 2) (28 * dd + 28 + 48) 0 0) C) (hAo : Ao (xs C)) (hr : HI C Z A G 9 cX6_countOn 0 0 Q) (hx : HX C Z A G 9 0 0 X) (hn : HN C Z A G 9 RX6 cX6_countOn 0 0 (rmk (dd + 1 + 2) (28 * dd + 28 + 48) 0 0) X) (hnw : HNW C Z A G 9 RX6 cX6_countOn 0 0 (rmk (dd + 1 + 2) (28 * dd + 28 + 48) 0 0) X) (hnx : HNX C Z A G 9 RX6 cX6_countOn 0 0 (rmk (dd + 1 + 2) (28 * dd + 28 + 48) 0 0) X) (hi : True) (hREC : ∀ (z0 : Option Nat) (z1 : Option Nat) (z2 : Int32) (z3 : Int32) (z4 : Int32) (ph : PH) (Q : Int32 → PH → Prop) (X : String → PH → Prop), REC z0 z1 z2 z3 z4 ph Q X → Ct G yX6_countOn (.code yX6_countOn cX6_countOn 9 (some (.int))) (dd + 2) (28 * dd + 48) 0 0 [va_rf z0, va_rf z1, .int z2, .int z3, .int z4] ph (oI Q) X) : ∀ (fu : Nat) (x0 : Option Nat) (x1 : Option Nat) (x2 : Int32) (x3 : Int32) (x4 : Int32) (x5 : Int32) (x7 : Int32) (x8 : Int32) (ph : PH), w_X6_countOn_53 REC Q X fu x0 x1 x2 x3 x4 x5 x7 x8 ph → RR C Z A G 9 53 [(0, va_rf x0), (1, va_rf x1), (2, .int x2), (3, .int x3), (4, .int x4), (5, .int x5), (7, .int x7), (8, .int x8)] [] ph 0 0 := by
  intro fu
  induction fu with
  | zero => intro x0 x1 x2 x3 x4 x5 x7 x8 ph h; exact h.elim
  | succ fu ih =>
    intro x0 x1 x2 x3 x4 x5 x7 x8 ph h
    refine r_iload hC dX6_countOn_53 7 rfl ?_
    refine r_aload_n hC dX6_countOn_55 rfl 1 rfl ?_
    obtain ⟨v56, g56, h⟩ := h
    refine r_get hC (ci := 6) (kf := 1) (N := 3) (Cn := RX3) (T := TX3) rfl (by decide) tin_X3 fl_X6_82 rfl dX6_countOn_56 g56 ?_
    refine r_icmp_ge (tgt := 92) hC dX6_countOn_59 (by decide) (fun c9 => ?_) (fun c9 => ?_)
    · have h := h.1 c9
      refine r_aload_n hC dX6_countOn_92 rfl 0 rfl ?_
      refine r_iload hC dX6_countOn_93 5 rfl ?_
      refine r_iload_n hC dX6_countOn_95 rfl 3 rfl ?_
      refine r_iload hC dX6_countOn_96 4 rfl ?_
      refine r_iload hC dX6_countOn_98 6 rfl ?_
      obtain ⟨a100, o100, h⟩ := h
      refine r_VV hC hAo [.int x5, .int x3, .int x4, .int x7] cal_X6_keep ml_X6_85 (ci := 7) rfl rfl rfl (c_X6_keep G _ _ _ _ _ _ _ _ h) o100 ⟨by simp only [rmk]; omega, by simp only [rmk]; omega⟩ ⟨by simp only [rmk]; omega, by simp only [rmk]; omega⟩ (by simp only [List.map_nil, List.map_cons, List.sum_nil, List.sum_cons, cat_rf, cat_i, cat_j]; decide) rfl dX6_countOn_100 (fun E u hx9 => hx _ _ _ _ _ _ _ (by decide) (by decide) hx9) (fun ph100 h => ?_)
      refine RR.wid (k' := 0) (n' := 0) (by decide) (by decide) ?_
      refine r_iload hC dX6_countOn_103 6 rfl ?_
      exact hr _ _ _ _ _ _ dX6_countOn_105 (by decide) (by decide) h
    · have h := h.2 c9
      refine r_iload hC dX6_countOn_62 6 rfl ?_
      refine r_aload_n hC dX6_countOn_64 rfl 0 rfl ?_
      refine r_aload_n hC dX6_countOn_65 rfl 1 rfl ?_
      refine r_iload_n hC dX6_countOn_66 rfl 2 rfl ?_
      refine r_aload_n hC dX6_countOn_67 rfl 1 rfl ?_
      refine r_iload_n hC dX6_countOn_68 rfl 3 rfl ?_
      refine r_iload hC dX6_countOn_69 7 rfl ?_
      obtain ⟨a71, o71, h⟩ := h
      refine r_VI hC hAo [.int x3, .int x8] cal_X3_read ml_X6_61 (ci := 6) rfl rfl rfl (c_X3_read G _ _ _ _ _ _ h) o71 ⟨by simp only [rmk]; omega, by simp only [rmk]; omega⟩ ⟨by simp only [rmk]; omega, by simp only [rmk]; omega⟩ (by simp only [List.map_nil, List.map_cons, List.sum_nil, List.sum_cons, cat_rf, cat_i, cat_j]; decide) rfl dX6_countOn_71 (fun E u hx9 => hx _ _ _ _ _ _ _ (by decide) (by decide) hx9) (fun v71 ph71 h => ?_)
      refine RR.wid (k' := 0) (n' := 0) (by decide) (by decide) ?_
      refine r_iload_n hC dX6_countOn_74 rfl 2 rfl ?_
      refine r_iand hC dX6_countOn_75 ?_
      refine r_iload hC dX6_countOn_76 4 rfl ?_
      refine r_iconst (v := 1) hC dX6_countOn_78 (by decide) ?_
      refine r_isub hC dX6_countOn_79 ?_
      refine r_SI hC hAo [va_rf x0, va_rf x1, .int x2, .int (v71 &&& x2), .int (x4 - (1 : Int32))] cal_X6_countOn ml_X6_71 rfl (hREC _ _ _ _ _ _ _ _ h) ⟨by simp only [rmk]; omega, by simp only [rmk]; omega⟩ ⟨by simp only [rmk]; omega, by simp only [rmk]; omega⟩ (by simp only [List.map_nil, List.map_cons, List.sum_nil, List.sum_cons, cat_rf, cat_i, cat_j]; decide) rfl dX6_countOn_80 (fun E u hx9 => hx _ _ _ _ _ _ _ (by decide) (by decide) hx9) (fun v80 ph80 h => ?_)
      refine RR.wid (k' := 0) (n' := 0) (by decide) (by decide) ?_
      refine r_iadd hC dX6_countOn_83 ?_
      obtain ⟨v84, ev84⟩ : ∃ z : Int32, z = x7 + v80 := ⟨_, rfl⟩
      have h := h v84 ev84
      refine RR.to (st' := [.int v84]) (by rw [ev84]) ?_
      refine r_istore (i := 7) (lv' := [(7, .int v84), (0, va_rf x0), (1, va_rf x1), (2, .int x2), (3, .int x3), (4, .int x4), (5, .int x5), (8, .int x8)]) hC dX6_countOn_84 (by decide) (by first | rfl | simp [lvs1, lvs2, List.filter, cat_rf, cat_i, cat_j]) ?_
      refine r_iinc (w := 7) (v := x8 + 1) (lv' := [(8, .int (x8 + 1)), (7, .int v84), (0, va_rf x0), (1, va_rf x1), (2, .int x2), (3, .int x3), (4, .int x4), (5, .int x5)]) hC dX6_countOn_86 rfl rfl (by decide) (by first | rfl | simp [lvs1, List.filter, cat_rf, cat_i, cat_j]) ?_
      refine r_goto (tgt := 53) hC dX6_countOn_89 (by decide) ?_
      exact RR.wid (by decide) (by decide) (RR.sub [2, 3, 4, 5, 6, 7, 1, 0] rfl (ih _ _ _ _ _ _ _ _ _ h))
set_option maxRecDepth 20000 in
theorem c_X6_countOn_b {REC : Option Nat → Option Nat → Int32 → Int32 → Int32 → PH → (Int32 → PH → Prop) → (String → PH → Prop) → Prop} {dd : Nat} (G : GG) (hREC : ∀ (z0 : Option Nat) (z1 : Option Nat) (z2 : Int32) (z3 : Int32) (z4 : Int32) (ph : PH) (Q : Int32 → PH → Prop) (X : String → PH → Prop), REC z0 z1 z2 z3 z4 ph Q X → Ct G yX6_countOn (.code yX6_countOn cX6_countOn 9 (some (.int))) (dd + 2) (28 * dd + 48) 0 0 [va_rf z0, va_rf z1, .int z2, .int z3, .int z4] ph (oI Q) X) (x0 : Option Nat) (x1 : Option Nat) (x2 : Int32) (x3 : Int32) (x4 : Int32) (ph : PH) (Q : Int32 → PH → Prop) (X : String → PH → Prop) (h : w_X6_countOn_b REC x0 x1 x2 x3 x4 ph Q X) : Ct G yX6_countOn (.code yX6_countOn cX6_countOn 9 (some (.int))) (dd + 1 + 2) (28 * dd + 28 + 48) 0 0 [va_rf x0, va_rf x1, .int x2, .int x3, .int x4] ph (oI Q) X := by
  refine ct_of (lv0 := [(0, va_rf x0), (1, va_rf x1), (2, .int x2), (3, .int x3), (4, .int x4)]) (by decide +kernel) (by simp [lg_sl, cat_rf, cat_i, cat_j]) (by simp [lv_args, cat_rf, cat_i, cat_j]) ?_
  intro C A hC hAo hex hrt hnm
  have hr : HI C (ZM C G A (oI Q) X 0 0) A G 9 cX6_countOn 0 0 Q := fun pc lv v ph k n d hk hn hq => e_i hC hrt pc lv v ph k n d hk hn ⟨v, rfl, hq⟩
  have hx := e_x (Q := oI Q) (X := X) (mc := 0) (ms := 0) hC hex
  have hn := e_n (Q := oI Q) (X := X) (mc := 0) (ms := 0) hC hex
  have hnw := e_nw (Q := oI Q) (X := X) (mc := 0) (ms := 0) hC hex
  have hnx := e_nx (Q := oI Q) (X := X) (mc := 0) (ms := 0) hC hex
  have hi : True := trivial
  generalize ZM C G A (oI Q) X 0 0 = Z at *
  refine r_iload_n hC dX6_countOn_0 rfl 3 rfl ?_
  refine r_if_eq (tgt := 11) hC dX6_countOn_1 (by decide) (fun c9 => ?_) (fun c9 => ?_)
  · have h := h.1 c9
    refine r_iconst (v := 0) hC dX6_countOn_11 (by decide) ?_
    exact hr _ _ _ _ _ _ dX6_countOn_12 (by decide) (by decide) h
  · have h := h.2 c9
    refine r_iload hC dX6_countOn_4 4 rfl ?_
    refine r_bipush (v := 10) hC dX6_countOn_6 (by decide) ?_
    refine r_icmp_le (tgt := 13) hC dX6_countOn_8 (by decide) (fun c9 => ?_) (fun c9 => ?_)
    · have h := h.1 c9
      refine r_iload hC dX6_countOn_13 4 rfl ?_
      refine r_if_gt (tgt := 20) hC dX6_countOn_15 (by decide) (fun c9 => ?_) (fun c9 => ?_)
      · have h := h.1 c9
        refine r_iload_n hC dX6_countOn_20 rfl 3 rfl ?_
        refine r_iload hC dX6_countOn_21 4 rfl ?_
        refine r_SI hC hAo [.int x3, .int x4] cal_X6_slotOf ml_X6_75 rfl (c_X6_slotOf G _ _ _ _ _ h) ⟨by simp only [rmk]; omega, by simp only [rmk]; omega⟩ ⟨by simp only [rmk]; omega, by simp only [rmk]; omega⟩ (by simp only [List.map_nil, List.map_cons, List.sum_nil, List.sum_cons, cat_rf, cat_i, cat_j]; decide) rfl dX6_countOn_23 (fun E u hx9 => hx _ _ _ _ _ _ _ (by decide) (by decide) hx9) (fun v23 ph23 h => ?_)
        refine RR.wid (k' := 0) (n' := 0) (by decide) (by decide) ?_
        refine r_istore (i := 5) (lv' := [(5, .int v23), (0, va_rf x0), (1, va_rf x1), (2, .int x2), (3, .int x3), (4, .int x4)]) hC dX6_countOn_26 (by decide) (by first | rfl | simp [lvs1, lvs2, List.filter, cat_rf, cat_i, cat_j]) ?_
        refine r_aload_n hC dX6_countOn_28 rfl 1 rfl ?_
        refine r_iload hC dX6_countOn_29 0 rfl ?_
        refine r_iload_n hC dX6_countOn_31 rfl 4 rfl ?_
        refine r_iload hC dX6_countOn_32 5 rfl ?_
        obtain ⟨a34, o34, h⟩ := h
        refine r_VI hC hAo [.int v23, .int x3, .int x4] cal_X6_recall ml_X6_78 (ci := 7) rfl rfl rfl (c_X6_recall G _ _ _ _ _ _ _ h) o34 ⟨by simp only [rmk]; omega, by simp only [rmk]; omega⟩ ⟨by simp only [rmk]; omega, by simp only [rmk]; omega⟩ (by simp only [List.map_nil, List.map_cons, List.sum_nil, List.sum_cons, cat_rf, cat_i, cat_j]; decide) rfl dX6_countOn_34 (fun E u hx9 => hx _ _ _ _ _ _ _ (by decide) (by decide) hx9) (fun v34 ph34 h => ?_)
        refine RR.wid (k' := 0) (n' := 0) (by decide) (by decide) ?_
        refine r_istore (i := 6) (lv' := [(6, .int v34), (5, .int v23), (0, va_rf x0), (1, va_rf x1), (2, .int x2), (3, .int x3), (4, .int x4)]) hC dX6_countOn_37 (by decide) (by first | rfl | simp [lvs1, lvs2, List.filter, cat_rf, cat_i, cat_j]) ?_
        refine r_iload hC dX6_countOn_39 0 rfl ?_
        refine r_if_lt (tgt := 47) hC dX6_countOn_41 (by decide) (fun c9 => ?_) (fun c9 => ?_)
        · have h := h.1 c9
          refine r_iconst (v := 0) hC dX6_countOn_47 (by decide) ?_
          refine r_istore (i := 7) (lv' := [(7, .int (0 : Int32)), (6, .int v34), (5, .int v23), (0, va_rf x0), (1, va_rf x1), (2, .int x2), (3, .int x3), (4, .int x4)]) hC dX6_countOn_48 (by decide) (by first | rfl | simp [lvs1, lvs2, List.filter, cat_rf, cat_i, cat_j]) ?_
          refine r_iconst (v := 0) hC dX6_countOn_50 (by decide) ?_
          refine r_istore (i := 8) (lv' := [(8, .int (0 : Int32)), (7, .int (0 : Int32)), (6, .int v34), (5, .int v23), (0, va_rf x0), (1, va_rf x1), (2, .int x2), (3, .int x3), (4, .int x4)]) hC dX6_countOn_51 (by decide) (by first | rfl | simp [lvs1, lvs2, List.filter, cat_rf, cat_i, cat_j]) ?_
          obtain ⟨fu53, h⟩ := h
          exact RR.wid (by decide) (by decide) (RR.sub [4, 5, 6, 7, 8, 3, 1, 0] rfl (b_X6_countOn_53 hC hAo hr hx hn hnw hnx hi hREC  fu53 _ _ _ _ _ _ _ _ _ h))
        · have h := h.2 c9
          refine r_iload hC dX6_countOn_44 0 rfl ?_
          exact hr _ _ _ _ _ _ dX6_countOn_46 (by decide) (by decide) h
      · have h := h.2 c9
        refine r_iconst (v := 1) hC dX6_countOn_18 (by decide) ?_
        exact hr _ _ _ _ _ _ dX6_countOn_19 (by decide) (by decide) h
    · have h := h.2 c9
      refine r_iconst (v := 0) hC dX6_countOn_11 (by decide) ?_
      exact hr _ _ _ _ _ _ dX6_countOn_12 (by decide) (by decide) h
theorem c_X6_countOn (G : GG) : ∀ (dd : Nat) (x0 : Option Nat) (x1 : Option Nat) (x2 : Int32) (x3 : Int32) (x4 : Int32) (ph : PH) (Q : Int32 → PH → Prop) (X : String → PH → Prop), w_X6_countOn dd x0 x1 x2 x3 x4 ph Q X → Ct G yX6_countOn (.code yX6_countOn cX6_countOn 9 (some (.int))) (dd + 2) (28 * dd + 48) 0 0 [va_rf x0, va_rf x1, .int x2, .int x3, .int x4] ph (oI Q) X := by
  intro dd
  induction dd with
  | zero => intro x0 x1 x2 x3 x4 ph Q X h; exact h.elim
  | succ dd ih => intro x0 x1 x2 x3 x4 ph Q X h; exact c_X6_countOn_b G ih x0 x1 x2 x3 x4 ph Q X h
set_option maxRecDepth 20000 in
theorem c_X6_countWords (G : GG) (x0 : Nat) (x1 : Option Nat) (x2 : Int32) (ph : PH) (Q : Int32 → PH → Prop) (X : String → PH → Prop) (h : w_X6_countWords x0 x1 x2 ph Q X) : Ct G yX6_countWords (.code yX6_countWords cX6_countWords 4 (some (.int))) 15 412 0 0 [va_rf (some x0), va_rf x1, .int x2] ph (oI Q) X := by
  refine ct_of (lv0 := [(0, va_rf (some x0)), (1, va_rf x1), (2, .int x2)]) (by decide +kernel) (by simp [lg_sl, cat_rf, cat_i, cat_j]) (by simp [lv_args, cat_rf, cat_i, cat_j]) ?_
  intro C A hC hAo hex hrt hnm
  have hr : HI C (ZM C G A (oI Q) X 0 0) A G 4 cX6_countWords 0 0 Q := fun pc lv v ph k n d hk hn hq => e_i hC hrt pc lv v ph k n d hk hn ⟨v, rfl, hq⟩
  have hx := e_x (Q := oI Q) (X := X) (mc := 0) (ms := 0) hC hex
  have hn := e_n (Q := oI Q) (X := X) (mc := 0) (ms := 0) hC hex
  have hnw := e_nw (Q := oI Q) (X := X) (mc := 0) (ms := 0) hC hex
  have hnx := e_nx (Q := oI Q) (X := X) (mc := 0) (ms := 0) hC hex
  have hi : True := trivial
  generalize ZM C G A (oI Q) X 0 0 = Z at *
  refine r_aload_n hC dX6_countWords_0 rfl 0 rfl ?_
  obtain ⟨v1, g1, h⟩ := h
  refine r_get hC (ci := 7) (kf := 1) (N := 11) (Cn := RX6) (T := TX6) rfl (by decide) tin_X6 fl_X6_15 rfl dX6_countWords_1 g1 ?_
  refine r_iconst (v := -1) hC dX6_countWords_4 (by decide) ?_
  refine r_SV hC hAo [va_rf v1, .int (-1 : Int32)] cal_J7_fill_53178 ml_X6_65 rfl (c_J7_fill_53178 G _ _ _ _ _ h) ⟨by decide, by decide⟩ ⟨by decide, by decide⟩ (by simp only [List.map_nil, List.map_cons, List.sum_nil, List.sum_cons, cat_rf, cat_i, cat_j]; decide) rfl dX6_countWords_5 (fun E u hx9 => hx _ _ _ _ _ _ _ (by decide) (by decide) hx9) (fun ph5 h => ?_)
  refine RR.wid (k' := 0) (n' := 0) (by decide) (by decide) ?_
  refine r_aload_n hC dX6_countWords_8 rfl 1 rfl ?_
  obtain ⟨a9, o9, h⟩ := h
  refine r_VI hC hAo [] cal_X3_liveSet ml_X6_45 (ci := 6) rfl rfl rfl (c_X3_liveSet G _ _ _ _ h) o9 ⟨by decide, by decide⟩ ⟨by decide, by decide⟩ (by simp only [List.map_nil, List.map_cons, List.sum_nil, List.sum_cons, cat_rf, cat_i, cat_j]; decide) rfl dX6_countWords_9 (fun E u hx9 => hx _ _ _ _ _ _ _ (by decide) (by decide) hx9) (fun v9 ph9 h => ?_)
  refine RR.wid (k' := 0) (n' := 0) (by decide) (by decide) ?_
  refine r_istore_n (i := 3) (lv' := [(3, .int v9), (0, va_rf (some x0)), (1, va_rf x1), (2, .int x2)]) hC dX6_countWords_12 rfl (by decide) (by first | rfl | simp [lvs1, lvs2, List.filter, cat_rf, cat_i, cat_j]) ?_
  refine r_aload_n hC dX6_countWords_13 rfl 1 rfl ?_
  refine r_aload_n hC dX6_countWords_14 rfl 2 rfl ?_
  refine r_iload_n hC dX6_countWords_15 rfl 0 rfl ?_
  refine r_iload_n hC dX6_countWords_16 rfl 0 rfl ?_
  refine r_iload_n hC dX6_countWords_17 rfl 3 rfl ?_
  refine r_SI hC hAo [va_rf (some x0), va_rf x1, .int v9, .int v9, .int x2] cal_X6_countOn ml_X6_71 rfl (c_X6_countOn G 12 _ _ _ _ _ _ _ _ h) ⟨by decide, by decide⟩ ⟨by decide, by decide⟩ (by simp only [List.map_nil, List.map_cons, List.sum_nil, List.sum_cons, cat_rf, cat_i, cat_j]; decide) rfl dX6_countWords_18 (fun E u hx9 => hx _ _ _ _ _ _ _ (by decide) (by decide) hx9) (fun v18 ph18 h => ?_)
  refine RR.wid (k' := 0) (n' := 0) (by decide) (by decide) ?_
  exact hr _ _ _ _ _ _ dX6_countWords_21 (by decide) (by decide) h
set_option maxRecDepth 20000 in
theorem c_X11_words (G : GG) (x0 : Nat) (x1 : Int32) (x2 : Int32) (ph : PH) (Q : Int32 → PH → Prop) (X : String → PH → Prop) (h : w_X11_words x0 x1 x2 ph Q X) : Ct G yX11_words (.code yX11_words cX11_words 4 (some (.int))) 16 435 2 12 [va_rf (some x0), .int x1, .int x2] ph (oI Q) X := by
  refine ct_of (lv0 := [(0, va_rf (some x0)), (1, .int x1), (2, .int x2)]) (by decide +kernel) (by simp [lg_sl, cat_rf, cat_i, cat_j]) (by simp [lv_args, cat_rf, cat_i, cat_j]) ?_
  intro C A hC hAo hex hrt hnm
  have hr : HI C (ZM C G A (oI Q) X 2 12) A G 4 cX11_words 2 12 Q := fun pc lv v ph k n d hk hn hq => e_i hC hrt pc lv v ph k n d hk hn ⟨v, rfl, hq⟩
  have hx := e_x (Q := oI Q) (X := X) (mc := 2) (ms := 12) hC hex
  have hn := e_n (Q := oI Q) (X := X) (mc := 2) (ms := 12) hC hex
  have hnw := e_nw (Q := oI Q) (X := X) (mc := 2) (ms := 12) hC hex
  have hnx := e_nx (Q := oI Q) (X := X) (mc := 2) (ms := 12) hC hex
  have hi : True := trivial
  generalize ZM C G A (oI Q) X 2 12 = Z at *
  refine r_aload_n hC dX11_words_0 rfl 0 rfl ?_
  refine r_iload_n hC dX11_words_1 rfl 1 rfl ?_
  obtain ⟨a2, o2, h⟩ := h
  refine r_VR hC hAo [.int x1] cal_X11_shiftAt ml_X11_110 (ci := 12) rfl rfl rfl (c_X11_shiftAt G _ _ _ _ _ h) o2 ⟨by decide, by decide⟩ ⟨by decide, by decide⟩ (by simp only [List.map_nil, List.map_cons, List.sum_nil, List.sum_cons, cat_rf, cat_i, cat_j]; decide) rfl dX11_words_2 (fun E u hx9 => hx _ _ _ _ _ _ _ (by decide) (by decide) hx9) (fun v2 ph2 h => ?_)
  refine RR.wid (k' := 1) (n' := 6) (by decide) (by decide) ?_
  refine r_astore_n (i := 3) (lv' := [(3, va_rf v2), (0, va_rf (some x0)), (1, .int x1), (2, .int x2)]) hC dX11_words_5 rfl (by decide) (by first | rfl | simp [lvs1, lvs2, List.filter, cat_rf, cat_i, cat_j]) ?_
  refine r_iload_n hC dX11_words_6 rfl 3 rfl ?_
  refine r_iconst (v := 0) hC dX11_words_7 (by decide) ?_
  refine r_bipush (v := 10) hC dX11_words_8 (by decide) ?_
  refine r_SV hC hAo [.int x2, .int (0 : Int32), .int (10 : Int32)] cal_X11_demandRange ml_X11_96 rfl (c_X11_demandRange G _ _ _ _ _ _ h) ⟨by decide, by decide⟩ ⟨by decide, by decide⟩ (by simp only [List.map_nil, List.map_cons, List.sum_nil, List.sum_cons, cat_rf, cat_i, cat_j]; decide) rfl dX11_words_10 (fun E u hx9 => hx _ _ _ _ _ _ _ (by decide) (by decide) hx9) (fun ph10 h => ?_)
  refine RR.wid (k' := 2) (n' := 12) (by decide) (by decide) ?_
  refine r_aload_n hC dX11_words_13 rfl 1 rfl ?_
  obtain ⟨v14, g14, h⟩ := h
  refine r_get hC (ci := 12) (kf := 7) (N := 12) (Cn := RX11) (T := TX11) rfl (by decide) tin_X11 fl_X11_37 rfl dX11_words_14 g14 ?_
  refine r_aload_n hC dX11_words_17 rfl 0 rfl ?_
  refine r_iload_n hC dX11_words_18 rfl 3 rfl ?_
  obtain ⟨a19, o19, h⟩ := h
  refine r_VI hC hAo [va_rf v2, .int x2] cal_X6_countWords ml_X11_166 (ci := 7) rfl rfl rfl (c_X6_countWords G _ _ _ _ _ _ h) o19 ⟨by decide, by decide⟩ ⟨by decide, by decide⟩ (by simp only [List.map_nil, List.map_cons, List.sum_nil, List.sum_cons, cat_rf, cat_i, cat_j]; decide) rfl dX11_words_19 (fun E u hx9 => hx _ _ _ _ _ _ _ (by decide) (by decide) hx9) (fun v19 ph19 h => ?_)
  refine RR.wid (k' := 2) (n' := 12) (by decide) (by decide) ?_
  exact hr _ _ _ _ _ _ dX11_words_22 (by decide) (by decide) h
set_option maxRecDepth 20000 in
theorem b_X6_readRow_6 {C : Cx} {Z : State → Prop} {A : Nat → Prop} {G : GG} {Q : Int32 → PH → Prop} {X : String → PH → Prop} (hC : CxOk RX6 cX6_readRow 7 G A (rmk 2 48 0 0) C) (hAo : Ao (xs C)) (hr : HI C Z A G 7 cX6_readRow 0 0 Q) (hx : HX C Z A G 7 0 0 X) (hn : HN C Z A G 7 RX6 cX6_readRow 0 0 (rmk 2 48 0 0) X) (hnw : HNW C Z A G 7 RX6 cX6_readRow 0 0 (rmk 2 48 0 0) X) (hnx : HNX C Z A G 7 RX6 cX6_readRow 0 0 (rmk 2 48 0 0) X) (hi : True) : ∀ (fu : Nat) (x0 : Option Nat) (x1 : Option Nat) (x2 : Int32) (x4 : Int32) (x5 : Int32) (x6 : Int32) (ph : PH), w_X6_readRow_6 Q X fu x0 x1 x2 x4 x5 x6 ph → RR C Z A G 7 6 [(0, va_rf x0), (1, va_rf x1), (2, .int x2), (4, .int x4), (5, .int x5), (6, .int x6)] [] ph 0 0 := by
  intro fu
  induction fu with
  | zero => intro x0 x1 x2 x4 x5 x6 ph h; exact h.elim
  | succ fu ih =>
    intro x0 x1 x2 x4 x5 x6 ph h
    refine r_iload hC dX6_readRow_6 5 rfl ?_
    refine r_iload hC dX6_readRow_8 3 rfl ?_
    refine r_icmp_ge (tgt := 51) hC dX6_readRow_10 (by decide) (fun c9 => ?_) (fun c9 => ?_)
    · have h := h.1 c9
      refine r_iload hC dX6_readRow_51 4 rfl ?_
      exact hr _ _ _ _ _ _ dX6_readRow_53 (by decide) (by decide) h
    · have h := h.2 c9
      refine r_iload hC dX6_readRow_13 5 rfl ?_
      refine r_aload_n hC dX6_readRow_15 rfl 0 rfl ?_
      obtain ⟨v16, g16, h⟩ := h
      refine r_get hC (ci := 7) (kf := 3) (N := 11) (Cn := RX6) (T := TX6) rfl (by decide) tin_X6 fl_X6_21 rfl dX6_readRow_16 g16 ?_
      obtain ⟨v19, g19, h⟩ := h
      refine r_alen hC dX6_readRow_19 g19 ?_
      refine r_icmp_ge (tgt := 51) hC dX6_readRow_20 (by decide) (fun c9 => ?_) (fun c9 => ?_)
      · have h := h.1 c9
        refine r_iload hC dX6_readRow_51 4 rfl ?_
        exact hr _ _ _ _ _ _ dX6_readRow_53 (by decide) (by decide) h
      · have h := h.2 c9
        refine r_iload hC dX6_readRow_23 4 rfl ?_
        refine r_if_eq (tgt := 51) hC dX6_readRow_25 (by decide) (fun c9 => ?_) (fun c9 => ?_)
        · have h := h.1 c9
          refine r_iload hC dX6_readRow_51 4 rfl ?_
          exact hr _ _ _ _ _ _ dX6_readRow_53 (by decide) (by decide) h
        · have h := h.2 c9
          refine r_aload_n hC dX6_readRow_28 rfl 1 rfl ?_
          refine r_iload hC dX6_readRow_29 4 rfl ?_
          refine r_aload_n hC dX6_readRow_31 rfl 0 rfl ?_
          obtain ⟨v32, g32, h⟩ := h
          refine r_get hC (ci := 7) (kf := 3) (N := 11) (Cn := RX6) (T := TX6) rfl (by decide) tin_X6 fl_X6_21 rfl dX6_readRow_32 g32 ?_
          refine r_iload hC dX6_readRow_35 5 rfl ?_
          obtain ⟨v37, g37, h⟩ := h
          refine r_iald hC dX6_readRow_37 g37 ?_
          obtain ⟨a38, o38, h⟩ := h
          refine r_VI hC hAo [.int x5, .int v37] cal_X3_read ml_X6_61 (ci := 6) rfl rfl rfl (c_X3_read G _ _ _ _ _ _ h) o38 ⟨by decide, by decide⟩ ⟨by decide, by decide⟩ (by simp only [List.map_nil, List.map_cons, List.sum_nil, List.sum_cons, cat_rf, cat_i, cat_j]; decide) rfl dX6_readRow_38 (fun E u hx9 => hx _ _ _ _ _ _ _ (by decide) (by decide) hx9) (fun v38 ph38 h => ?_)
          refine RR.wid (k' := 0) (n' := 0) (by decide) (by decide) ?_
          refine r_iload_n hC dX6_readRow_41 rfl 2 rfl ?_
          refine r_iand hC dX6_readRow_42 ?_
          obtain ⟨v43, ev43⟩ : ∃ z : Int32, z = v38 &&& x2 := ⟨_, rfl⟩
          have h := h v43 ev43
          refine RR.to (st' := [.int v43]) (by rw [ev43]) ?_
          refine r_istore (i := 5) (lv' := [(5, .int v43), (0, va_rf x0), (1, va_rf x1), (2, .int x2), (4, .int x4), (6, .int x6)]) hC dX6_readRow_43 (by decide) (by first | rfl | simp [lvs1, lvs2, List.filter, cat_rf, cat_i, cat_j]) ?_
          refine r_iinc (w := 5) (v := x6 + 1) (lv' := [(6, .int (x6 + 1)), (5, .int v43), (0, va_rf x0), (1, va_rf x1), (2, .int x2), (4, .int x4)]) hC dX6_readRow_45 rfl rfl (by decide) (by first | rfl | simp [lvs1, List.filter, cat_rf, cat_i, cat_j]) ?_
          refine r_goto (tgt := 6) hC dX6_readRow_48 (by decide) ?_
          exact RR.wid (by decide) (by decide) (RR.sub [2, 3, 4, 5, 1, 0] rfl (ih _ _ _ _ _ _ _ h))
set_option maxRecDepth 20000 in
theorem c_X6_readRow (G : GG) (x0 : Nat) (x1 : Option Nat) (x2 : Int32) (x3 : Int32) (x4 : Int32) (ph : PH) (Q : Int32 → PH → Prop) (X : String → PH → Prop) (h : w_X6_readRow x0 x1 x2 x3 x4 ph Q X) : Ct G yX6_readRow (.code yX6_readRow cX6_readRow 7 (some (.int))) 2 48 0 0 [va_rf (some x0), va_rf x1, .int x2, .int x3, .int x4] ph (oI Q) X := by
  refine ct_of (lv0 := [(0, va_rf (some x0)), (1, va_rf x1), (2, .int x2), (3, .int x3), (4, .int x4)]) (by decide +kernel) (by simp [lg_sl, cat_rf, cat_i, cat_j]) (by simp [lv_args, cat_rf, cat_i, cat_j]) ?_
  intro C A hC hAo hex hrt hnm
  have hr : HI C (ZM C G A (oI Q) X 0 0) A G 7 cX6_readRow 0 0 Q := fun pc lv v ph k n d hk hn hq => e_i hC hrt pc lv v ph k n d hk hn ⟨v, rfl, hq⟩
  have hx := e_x (Q := oI Q) (X := X) (mc := 0) (ms := 0) hC hex
  have hn := e_n (Q := oI Q) (X := X) (mc := 0) (ms := 0) hC hex
  have hnw := e_nw (Q := oI Q) (X := X) (mc := 0) (ms := 0) hC hex
  have hnx := e_nx (Q := oI Q) (X := X) (mc := 0) (ms := 0) hC hex
  have hi : True := trivial
  generalize ZM C G A (oI Q) X 0 0 = Z at *
  refine r_iload_n hC dX6_readRow_0 rfl 3 rfl ?_
  refine r_istore (i := 5) (lv' := [(5, .int x3), (0, va_rf (some x0)), (1, va_rf x1), (2, .int x2), (3, .int x3), (4, .int x4)]) hC dX6_readRow_1 (by decide) (by first | rfl | simp [lvs1, lvs2, List.filter, cat_rf, cat_i, cat_j]) ?_
  refine r_iconst (v := 0) hC dX6_readRow_3 (by decide) ?_
  refine r_istore (i := 6) (lv' := [(6, .int (0 : Int32)), (5, .int x3), (0, va_rf (some x0)), (1, va_rf x1), (2, .int x2), (3, .int x3), (4, .int x4)]) hC dX6_readRow_4 (by decide) (by first | rfl | simp [lvs1, lvs2, List.filter, cat_rf, cat_i, cat_j]) ?_
  obtain ⟨fu6, h⟩ := h
  exact RR.wid (by decide) (by decide) (RR.sub [2, 3, 4, 6, 1, 0] rfl (b_X6_readRow_6 hC hAo hr hx hn hnw hnx hi  fu6 _ _ _ _ _ _ _ h))
set_option maxRecDepth 20000 in
theorem b_X6_isPoint_49 {C : Cx} {Z : State → Prop} {A : Nat → Prop} {G : GG} {Q : Int32 → PH → Prop} {X : String → PH → Prop} (hC : CxOk RX6 cX6_isPoint 7 G A (rmk 3 74 0 0) C) (hAo : Ao (xs C)) (hr : HZ C Z A G 7 cX6_isPoint 0 0 Q) (hx : HX C Z A G 7 0 0 X) (hn : HN C Z A G 7 RX6 cX6_isPoint 0 0 (rmk 3 74 0 0) X) (hnw : HNW C Z A G 7 RX6 cX6_isPoint 0 0 (rmk 3 74 0 0) X) (hnx : HNX C Z A G 7 RX6 cX6_isPoint 0 0 (rmk 3 74 0 0) X) (hi : True) : ∀ (x4 : Int32) (ph : PH), w_X6_isPoint_49 Q X x4 ph → RR C Z A G 7 49 [(4, .int x4)] [] ph 0 0 := by
  intro x4 ph h
  refine r_iload hC dX6_isPoint_49 0 rfl ?_
  refine r_if_eq (tgt := 58) hC dX6_isPoint_51 (by decide) (fun c9 => ?_) (fun c9 => ?_)
  · have h := h.1 c9
    refine r_iconst (v := 0) hC dX6_isPoint_58 (by decide) ?_
    exact hr _ _ _ _ _ _ dX6_isPoint_59 (by decide) (by decide) h
  · have h := h.2 c9
    refine r_iconst (v := 1) hC dX6_isPoint_54 (by decide) ?_
    refine r_goto (tgt := 59) hC dX6_isPoint_55 (by decide) ?_
    exact hr _ _ _ _ _ _ dX6_isPoint_59 (by decide) (by decide) h
set_option maxRecDepth 20000 in
theorem b_X6_isPoint_6 {C : Cx} {Z : State → Prop} {A : Nat → Prop} {G : GG} {Q : Int32 → PH → Prop} {X : String → PH → Prop} (hC : CxOk RX6 cX6_isPoint 7 G A (rmk 3 74 0 0) C) (hAo : Ao (xs C)) (hr : HZ C Z A G 7 cX6_isPoint 0 0 Q) (hx : HX C Z A G 7 0 0 X) (hn : HN C Z A G 7 RX6 cX6_isPoint 0 0 (rmk 3 74 0 0) X) (hnw : HNW C Z A G 7 RX6 cX6_isPoint 0 0 (rmk 3 74 0 0) X) (hnx : HNX C Z A G 7 RX6 cX6_isPoint 0 0 (rmk 3 74 0 0) X) (hi : True) : ∀ (fu : Nat) (x0 : Option Nat) (x1 : Option Nat) (x2 : Int32) (x3 : Int32) (x4 : Int32) (x5 : Int32) (ph : PH), w_X6_isPoint_6 Q X fu x0 x1 x2 x3 x4 x5 ph → RR C Z A G 7 6 [(0, va_rf x0), (1, va_rf x1), (2, .int x2), (3, .int x3), (4, .int x4), (5, .int x5)] [] ph 0 0 := by
  intro fu
  induction fu with
  | zero => intro x0 x1 x2 x3 x4 x5 ph h; exact h.elim
  | succ fu ih =>
    intro x0 x1 x2 x3 x4 x5 ph h
    refine r_iload hC dX6_isPoint_6 5 rfl ?_
    refine r_bipush (v := 24) hC dX6_isPoint_8 (by decide) ?_
    refine r_icmp_ge (tgt := 49) hC dX6_isPoint_10 (by decide) (fun c9 => ?_) (fun c9 => ?_)
    · have h := h.1 c9
      exact RR.wid (by decide) (by decide) (RR.sub [4] rfl (b_X6_isPoint_49 hC hAo hr hx hn hnw hnx hi  _ _ h))
    · have h := h.2 c9
      refine r_iload hC dX6_isPoint_13 4 rfl ?_
      refine r_if_eq (tgt := 49) hC dX6_isPoint_15 (by decide) (fun c9 => ?_) (fun c9 => ?_)
      · have h := h.1 c9
        exact RR.wid (by decide) (by decide) (RR.sub [4] rfl (b_X6_isPoint_49 hC hAo hr hx hn hnw hnx hi  _ _ h))
      · have h := h.2 c9
        refine r_aload_n hC dX6_isPoint_18 rfl 0 rfl ?_
        refine r_aload_n hC dX6_isPoint_19 rfl 1 rfl ?_
        refine r_iload_n hC dX6_isPoint_20 rfl 2 rfl ?_
        refine r_iload hC dX6_isPoint_21 4 rfl ?_
        refine r_iload_n hC dX6_isPoint_23 rfl 3 rfl ?_
        obtain ⟨a24, o24, h⟩ := h
        refine r_VI hC hAo [va_rf x1, .int x2, .int x4, .int x3] cal_X6_readRow ml_X6_97 (ci := 7) rfl rfl rfl (c_X6_readRow G _ _ _ _ _ _ _ _ h) o24 ⟨by decide, by decide⟩ ⟨by decide, by decide⟩ (by simp only [List.map_nil, List.map_cons, List.sum_nil, List.sum_cons, cat_rf, cat_i, cat_j]; decide) rfl dX6_isPoint_24 (fun E u hx9 => hx _ _ _ _ _ _ _ (by decide) (by decide) hx9) (fun v24 ph24 h => ?_)
        refine RR.wid (k' := 0) (n' := 0) (by decide) (by decide) ?_
        refine r_istore (i := 6) (lv' := [(6, .int v24), (0, va_rf x0), (1, va_rf x1), (2, .int x2), (3, .int x3), (4, .int x4), (5, .int x5)]) hC dX6_isPoint_27 (by decide) (by first | rfl | simp [lvs1, lvs2, List.filter, cat_rf, cat_i, cat_j]) ?_
        refine r_iload hC dX6_isPoint_29 0 rfl ?_
        refine r_iload hC dX6_isPoint_31 5 rfl ?_
        refine r_icmp_ne (tgt := 39) hC dX6_isPoint_33 (by decide) (fun c9 => ?_) (fun c9 => ?_)
        · have h := h.1 c9
          refine r_iload hC dX6_isPoint_39 0 rfl ?_
          refine r_istore (i := 4) (lv' := [(4, .int v24), (6, .int v24), (0, va_rf x0), (1, va_rf x1), (2, .int x2), (3, .int x3), (5, .int x5)]) hC dX6_isPoint_41 (by decide) (by first | rfl | simp [lvs1, lvs2, List.filter, cat_rf, cat_i, cat_j]) ?_
          refine r_iinc (w := 6) (v := x5 + 1) (lv' := [(5, .int (x5 + 1)), (4, .int v24), (6, .int v24), (0, va_rf x0), (1, va_rf x1), (2, .int x2), (3, .int x3)]) hC dX6_isPoint_43 rfl rfl (by decide) (by first | rfl | simp [lvs1, List.filter, cat_rf, cat_i, cat_j]) ?_
          refine r_goto (tgt := 6) hC dX6_isPoint_46 (by decide) ?_
          exact RR.wid (by decide) (by decide) (RR.sub [3, 4, 5, 6, 1, 0] rfl (ih _ _ _ _ _ _ _ h))
        · have h := h.2 c9
          refine r_goto (tgt := 49) hC dX6_isPoint_36 (by decide) ?_
          exact RR.wid (by decide) (by decide) (RR.sub [5] rfl (b_X6_isPoint_49 hC hAo hr hx hn hnw hnx hi  _ _ h))
set_option maxRecDepth 20000 in
theorem c_X6_isPoint (G : GG) (x0 : Nat) (x1 : Option Nat) (x2 : Int32) (x3 : Int32) (ph : PH) (Q : Int32 → PH → Prop) (X : String → PH → Prop) (h : w_X6_isPoint x0 x1 x2 x3 ph Q X) : Ct G yX6_isPoint (.code yX6_isPoint cX6_isPoint 7 (some (.boolean))) 3 74 0 0 [va_rf (some x0), va_rf x1, .int x2, .int x3] ph (oI Q) X := by
  refine ct_of (lv0 := [(0, va_rf (some x0)), (1, va_rf x1), (2, .int x2), (3, .int x3)]) (by decide +kernel) (by simp [lg_sl, cat_rf, cat_i, cat_j]) (by simp [lv_args, cat_rf, cat_i, cat_j]) ?_
  intro C A hC hAo hex hrt hnm
  have hr : HZ C (ZM C G A (oI Q) X 0 0) A G 7 cX6_isPoint 0 0 Q := fun pc lv v ph k n d hk hn hq => e_s hC (ty := .boolean) hrt pc lv v ph k n d hk hn ⟨hq.1, v, rfl, hq.2⟩
  have hx := e_x (Q := oI Q) (X := X) (mc := 0) (ms := 0) hC hex
  have hn := e_n (Q := oI Q) (X := X) (mc := 0) (ms := 0) hC hex
  have hnw := e_nw (Q := oI Q) (X := X) (mc := 0) (ms := 0) hC hex
  have hnx := e_nx (Q := oI Q) (X := X) (mc := 0) (ms := 0) hC hex
  have hi : True := trivial
  generalize ZM C G A (oI Q) X 0 0 = Z at *
  refine r_iload_n hC dX6_isPoint_0 rfl 2 rfl ?_
  refine r_istore (i := 4) (lv' := [(4, .int x2), (0, va_rf (some x0)), (1, va_rf x1), (2, .int x2), (3, .int x3)]) hC dX6_isPoint_1 (by decide) (by first | rfl | simp [lvs1, lvs2, List.filter, cat_rf, cat_i, cat_j]) ?_
  refine r_iconst (v := 0) hC dX6_isPoint_3 (by decide) ?_
  refine r_istore (i := 5) (lv' := [(5, .int (0 : Int32)), (4, .int x2), (0, va_rf (some x0)), (1, va_rf x1), (2, .int x2), (3, .int x3)]) hC dX6_isPoint_4 (by decide) (by first | rfl | simp [lvs1, lvs2, List.filter, cat_rf, cat_i, cat_j]) ?_
  obtain ⟨fu6, h⟩ := h
  exact RR.wid (by decide) (by decide) (RR.sub [2, 3, 4, 5, 1, 0] rfl (b_X6_isPoint_6 hC hAo hr hx hn hnw hnx hi  fu6 _ _ _ _ _ _ _ h))
set_option maxRecDepth 20000 in
theorem b_X6_isAdvanced_2 {C : Cx} {Z : State → Prop} {A : Nat → Prop} {G : GG} {Q : Int32 → PH → Prop} {X : String → PH → Prop} (hC : CxOk RX6 cX6_isAdvanced 4 G A (rmk 0 0 0 0) C) (hAo : Ao (xs C)) (hr : HZ C Z A G 4 cX6_isAdvanced 0 0 Q) (hx : HX C Z A G 4 0 0 X) (hn : HN C Z A G 4 RX6 cX6_isAdvanced 0 0 (rmk 0 0 0 0) X) (hnw : HNW C Z A G 4 RX6 cX6_isAdvanced 0 0 (rmk 0 0 0 0) X) (hnx : HNX C Z A G 4 RX6 cX6_isAdvanced 0 0 (rmk 0 0 0 0) X) (hi : True) : ∀ (fu : Nat) (x0 : Option Nat) (x1 : Int32) (x2 : Int32) (x3 : Int32) (ph : PH), w_X6_isAdvanced_2 Q X fu x0 x1 x2 x3 ph → RR C Z A G 4 2 [(0, va_rf x0), (1, .int x1), (2, .int x2), (3, .int x3)] [] ph 0 0 := by
  intro fu
  induction fu with
  | zero => intro x0 x1 x2 x3 ph h; exact h.elim
  | succ fu ih =>
    intro x0 x1 x2 x3 ph h
    refine r_iload_n hC dX6_isAdvanced_2 rfl 3 rfl ?_
    refine r_iload_n hC dX6_isAdvanced_3 rfl 2 rfl ?_
    refine r_icmp_ge (tgt := 53) hC dX6_isAdvanced_4 (by decide) (fun c9 => ?_) (fun c9 => ?_)
    · have h := h.1 c9
      refine r_iconst (v := 0) hC dX6_isAdvanced_53 (by decide) ?_
      exact hr _ _ _ _ _ _ dX6_isAdvanced_54 (by decide) (by decide) h
    · have h := h.2 c9
      refine r_iload_n hC dX6_isAdvanced_7 rfl 3 rfl ?_
      refine r_aload_n hC dX6_isAdvanced_8 rfl 0 rfl ?_
      obtain ⟨v9, g9, h⟩ := h
      refine r_get hC (ci := 7) (kf := 3) (N := 11) (Cn := RX6) (T := TX6) rfl (by decide) tin_X6 fl_X6_21 rfl dX6_isAdvanced_9 g9 ?_
      obtain ⟨v12, g12, h⟩ := h
      refine r_alen hC dX6_isAdvanced_12 g12 ?_
      refine r_icmp_ge (tgt := 53) hC dX6_isAdvanced_13 (by decide) (fun c9 => ?_) (fun c9 => ?_)
      · have h := h.1 c9
        refine r_iconst (v := 0) hC dX6_isAdvanced_53 (by decide) ?_
        exact hr _ _ _ _ _ _ dX6_isAdvanced_54 (by decide) (by decide) h
      · have h := h.2 c9
        refine r_aload_n hC dX6_isAdvanced_16 rfl 0 rfl ?_
        obtain ⟨v17, g17, h⟩ := h
        refine r_get hC (ci := 7) (kf := 3) (N := 11) (Cn := RX6) (T := TX6) rfl (by decide) tin_X6 fl_X6_21 rfl dX6_isAdvanced_17 g17 ?_
        refine r_iload_n hC dX6_isAdvanced_20 rfl 3 rfl ?_
        obtain ⟨v21, g21, h⟩ := h
        refine r_iald hC dX6_isAdvanced_21 g21 ?_
        refine r_iconst (v := 1) hC dX6_isAdvanced_22 (by decide) ?_
        refine r_iadd hC dX6_isAdvanced_23 ?_
        refine r_iload_n hC dX6_isAdvanced_24 rfl 1 rfl ?_
        refine r_icmp_ge (tgt := 40) hC dX6_isAdvanced_25 (by decide) (fun c9 => ?_) (fun c9 => ?_)
        · have h := h.1 c9
          refine r_aload_n hC dX6_isAdvanced_40 rfl 0 rfl ?_
          obtain ⟨v41, g41, h⟩ := h
          refine r_get hC (ci := 7) (kf := 3) (N := 11) (Cn := RX6) (T := TX6) rfl (by decide) tin_X6 fl_X6_21 rfl dX6_isAdvanced_41 g41 ?_
          refine r_iload_n hC dX6_isAdvanced_44 rfl 3 rfl ?_
          refine r_iconst (v := 0) hC dX6_isAdvanced_45 (by decide) ?_
          obtain ⟨ph46, g46, h⟩ := h
          refine r_iast hC dX6_isAdvanced_46 g46 ?_
          refine r_iinc (w := 3) (v := x3 + 1) (lv' := [(3, .int (x3 + 1)), (0, va_rf x0), (1, .int x1), (2, .int x2)]) hC dX6_isAdvanced_47 rfl rfl (by decide) (by first | rfl | simp [lvs1, List.filter, cat_rf, cat_i, cat_j]) ?_
          refine r_goto (tgt := 2) hC dX6_isAdvanced_50 (by decide) ?_
          exact RR.wid (by decide) (by decide) (RR.sub [1, 2, 3, 0] rfl (ih _ _ _ _ _ h))
        · have h := h.2 c9
          refine r_aload_n hC dX6_isAdvanced_28 rfl 0 rfl ?_
          obtain ⟨v29, g29, h⟩ := h
          refine r_get hC (ci := 7) (kf := 3) (N := 11) (Cn := RX6) (T := TX6) rfl (by decide) tin_X6 fl_X6_21 rfl dX6_isAdvanced_29 g29 ?_
          refine r_iload_n hC dX6_isAdvanced_32 rfl 3 rfl ?_
          refine r_dup2 hC dX6_isAdvanced_33 (by first | rfl | exact cat_rf _) (by first | rfl | exact cat_rf _) ?_
          obtain ⟨v34, g34, h⟩ := h
          refine r_iald hC dX6_isAdvanced_34 g34 ?_
          refine r_iconst (v := 1) hC dX6_isAdvanced_35 (by decide) ?_
          refine r_iadd hC dX6_isAdvanced_36 ?_
          obtain ⟨ph37, g37, h⟩ := h
          refine r_iast hC dX6_isAdvanced_37 g37 ?_
          refine r_iconst (v := 1) hC dX6_isAdvanced_38 (by decide) ?_
          exact hr _ _ _ _ _ _ dX6_isAdvanced_39 (by decide) (by decide) h
set_option maxRecDepth 20000 in
theorem c_X6_isAdvanced (G : GG) (x0 : Nat) (x1 : Int32) (x2 : Int32) (ph : PH) (Q : Int32 → PH → Prop) (X : String → PH → Prop) (h : w_X6_isAdvanced x0 x1 x2 ph Q X) : Ct G yX6_isAdvanced (.code yX6_isAdvanced cX6_isAdvanced 4 (some (.boolean))) 0 0 0 0 [va_rf (some x0), .int x1, .int x2] ph (oI Q) X := by
  refine ct_of (lv0 := [(0, va_rf (some x0)), (1, .int x1), (2, .int x2)]) (by decide +kernel) (by simp [lg_sl, cat_rf, cat_i, cat_j]) (by simp [lv_args, cat_rf, cat_i, cat_j]) ?_
  intro C A hC hAo hex hrt hnm
  have hr : HZ C (ZM C G A (oI Q) X 0 0) A G 4 cX6_isAdvanced 0 0 Q := fun pc lv v ph k n d hk hn hq => e_s hC (ty := .boolean) hrt pc lv v ph k n d hk hn ⟨hq.1, v, rfl, hq.2⟩
  have hx := e_x (Q := oI Q) (X := X) (mc := 0) (ms := 0) hC hex
  have hn := e_n (Q := oI Q) (X := X) (mc := 0) (ms := 0) hC hex
  have hnw := e_nw (Q := oI Q) (X := X) (mc := 0) (ms := 0) hC hex
  have hnx := e_nx (Q := oI Q) (X := X) (mc := 0) (ms := 0) hC hex
  have hi : True := trivial
  generalize ZM C G A (oI Q) X 0 0 = Z at *
  refine r_iconst (v := 0) hC dX6_isAdvanced_0 (by decide) ?_
  refine r_istore_n (i := 3) (lv' := [(3, .int (0 : Int32)), (0, va_rf (some x0)), (1, .int x1), (2, .int x2)]) hC dX6_isAdvanced_1 rfl (by decide) (by first | rfl | simp [lvs1, lvs2, List.filter, cat_rf, cat_i, cat_j]) ?_
  obtain ⟨fu2, h⟩ := h
  exact RR.wid (by decide) (by decide) (RR.sub [1, 2, 3, 0] rfl (b_X6_isAdvanced_2 hC hAo hr hx hn hnw hnx hi  fu2 _ _ _ _ _ h))
set_option maxRecDepth 20000 in
theorem b_X6_countPoints_40 {C : Cx} {Z : State → Prop} {A : Nat → Prop} {G : GG} {Q : Int32 → PH → Prop} {X : String → PH → Prop} {K19 : Option Nat → Option Nat → Int32 → Int32 → Int32 → Int32 → PH → Prop} (hC : CxOk RX6 cX6_countPoints 6 G A (rmk 4 100 0 0) C) (hAo : Ao (xs C)) (hr : HI C Z A G 6 cX6_countPoints 0 0 Q) (hx : HX C Z A G 6 0 0 X) (hn : HN C Z A G 6 RX6 cX6_countPoints 0 0 (rmk 4 100 0 0) X) (hnw : HNW C Z A G 6 RX6 cX6_countPoints 0 0 (rmk 4 100 0 0) X) (hnx : HNX C Z A G 6 RX6 cX6_countPoints 0 0 (rmk 4 100 0 0) X) (hi : True) (hK19 : ∀ (x0 : Option Nat) (x1 : Option Nat) (x2 : Int32) (x3 : Int32) (x4 : Int32) (x5 : Int32) (ph : PH), K19 x0 x1 x2 x3 x4 x5 ph → RR C Z A G 6 19 [(0, va_rf x0), (1, va_rf x1), (2, .int x2), (3, .int x3), (4, .int x4), (5, .int x5)] [] ph 0 0) : ∀ (x0 : Option Nat) (x1 : Option Nat) (x2 : Int32) (x3 : Int32) (x4 : Int32) (x5 : Int32) (ph : PH), w_X6_countPoints_40 Q X K19 x0 x1 x2 x3 x4 x5 ph → RR C Z A G 6 40 [(0, va_rf x0), (1, va_rf x1), (2, .int x2), (3, .int x3), (4, .int x4), (5, .int x5)] [] ph 0 0 := by
  intro x0 x1 x2 x3 x4 x5 ph h
  refine r_aload_n hC dX6_countPoints_40 rfl 0 rfl ?_
  refine r_aload_n hC dX6_countPoints_41 rfl 1 rfl ?_
  obtain ⟨v42, g42, h⟩ := h
  refine r_get hC (ci := 6) (kf := 1) (N := 3) (Cn := RX3) (T := TX3) rfl (by decide) tin_X3 fl_X6_82 rfl dX6_countPoints_42 g42 ?_
  refine r_iload_n hC dX6_countPoints_45 rfl 2 rfl ?_
  obtain ⟨a46, o46, h⟩ := h
  refine r_VI hC hAo [.int v42, .int x2] cal_X6_isAdvanced ml_X6_93 (ci := 7) rfl rfl rfl (c_X6_isAdvanced G _ _ _ _ _ _ h) o46 ⟨by decide, by decide⟩ ⟨by decide, by decide⟩ (by simp only [List.map_nil, List.map_cons, List.sum_nil, List.sum_cons, cat_rf, cat_i, cat_j]; decide) rfl dX6_countPoints_46 (fun E u hx9 => hx _ _ _ _ _ _ _ (by decide) (by decide) hx9) (fun v46 ph46 h => ?_)
  refine RR.wid (k' := 0) (n' := 0) (by decide) (by decide) ?_
  refine r_if_ne (tgt := 55) hC dX6_countPoints_49 (by decide) (fun c9 => ?_) (fun c9 => ?_)
  · have h := h.1 c9
    refine r_iinc (w := 5) (v := x5 + 1) (lv' := [(5, .int (x5 + 1)), (0, va_rf x0), (1, va_rf x1), (2, .int x2), (3, .int x3), (4, .int x4)]) hC dX6_countPoints_55 rfl rfl (by decide) (by first | rfl | simp [lvs1, List.filter, cat_rf, cat_i, cat_j]) ?_
    refine r_goto (tgt := 19) hC dX6_countPoints_58 (by decide) ?_
    exact RR.wid (by decide) (by decide) (RR.sub [1, 2, 3, 4, 5, 0] rfl (hK19 _ _ _ _ _ _ _ h))
  · have h := h.2 c9
    refine r_goto (tgt := 61) hC dX6_countPoints_52 (by decide) ?_
    refine r_iload hC dX6_countPoints_61 4 rfl ?_
    exact hr _ _ _ _ _ _ dX6_countPoints_63 (by decide) (by decide) h
set_option maxRecDepth 20000 in
theorem b_X6_countPoints_19 {C : Cx} {Z : State → Prop} {A : Nat → Prop} {G : GG} {Q : Int32 → PH → Prop} {X : String → PH → Prop} (hC : CxOk RX6 cX6_countPoints 6 G A (rmk 4 100 0 0) C) (hAo : Ao (xs C)) (hr : HI C Z A G 6 cX6_countPoints 0 0 Q) (hx : HX C Z A G 6 0 0 X) (hn : HN C Z A G 6 RX6 cX6_countPoints 0 0 (rmk 4 100 0 0) X) (hnw : HNW C Z A G 6 RX6 cX6_countPoints 0 0 (rmk 4 100 0 0) X) (hnx : HNX C Z A G 6 RX6 cX6_countPoints 0 0 (rmk 4 100 0 0) X) (hi : True) : ∀ (fu : Nat) (x0 : Option Nat) (x1 : Option Nat) (x2 : Int32) (x3 : Int32) (x4 : Int32) (x5 : Int32) (ph : PH), w_X6_countPoints_19 Q X fu x0 x1 x2 x3 x4 x5 ph → RR C Z A G 6 19 [(0, va_rf x0), (1, va_rf x1), (2, .int x2), (3, .int x3), (4, .int x4), (5, .int x5)] [] ph 0 0 := by
  intro fu
  induction fu with
  | zero => intro x0 x1 x2 x3 x4 x5 ph h; exact h.elim
  | succ fu ih =>
    intro x0 x1 x2 x3 x4 x5 ph h
    refine r_iload hC dX6_countPoints_19 5 rfl ?_
    refine r_sipush (v := 2187) hC dX6_countPoints_21 (by decide) ?_
    refine r_icmp_ge (tgt := 61) hC dX6_countPoints_24 (by decide) (fun c9 => ?_) (fun c9 => ?_)
    · have h := h.1 c9
      refine r_iload hC dX6_countPoints_61 4 rfl ?_
      exact hr _ _ _ _ _ _ dX6_countPoints_63 (by decide) (by decide) h
    · have h := h.2 c9
      refine r_aload_n hC dX6_countPoints_27 rfl 0 rfl ?_
      refine r_aload_n hC dX6_countPoints_28 rfl 1 rfl ?_
      refine r_iload_n hC dX6_countPoints_29 rfl 3 rfl ?_
      refine r_iload_n hC dX6_countPoints_30 rfl 2 rfl ?_
      obtain ⟨a31, o31, h⟩ := h
      refine r_VI hC hAo [va_rf x1, .int x3, .int x2] cal_X6_isPoint ml_X6_89 (ci := 7) rfl rfl rfl (c_X6_isPoint G _ _ _ _ _ _ _ h) o31 ⟨by decide, by decide⟩ ⟨by decide, by decide⟩ (by simp only [List.map_nil, List.map_cons, List.sum_nil, List.sum_cons, cat_rf, cat_i, cat_j]; decide) rfl dX6_countPoints_31 (fun E u hx9 => hx _ _ _ _ _ _ _ (by decide) (by decide) hx9) (fun v31 ph31 h => ?_)
      refine RR.wid (k' := 0) (n' := 0) (by decide) (by decide) ?_
      refine r_if_eq (tgt := 40) hC dX6_countPoints_34 (by decide) (fun c9 => ?_) (fun c9 => ?_)
      · have h := h.1 c9
        have k40_19 : ∀ (x0 : Option Nat) (x1 : Option Nat) (x2 : Int32) (x3 : Int32) (x4 : Int32) (x5 : Int32) (ph : PH), w_X6_countPoints_19 Q X fu x0 x1 x2 x3 x4 x5 ph → RR C Z A G 6 19 [(0, va_rf x0), (1, va_rf x1), (2, .int x2), (3, .int x3), (4, .int x4), (5, .int x5)] [] ph 0 0 := by
          intro x0 x1 x2 x3 x4 x5 ph h
          exact RR.wid (by decide) (by decide) (RR.sub [0, 1, 2, 3, 4, 5] rfl (ih _ _ _ _ _ _ _ h))
        exact RR.wid (by decide) (by decide) (RR.sub [0, 1, 2, 3, 4, 5] rfl (b_X6_countPoints_40 hC hAo hr hx hn hnw hnx hi k40_19 _ _ _ _ _ _ _ h))
      · have h := h.2 c9
        refine r_iinc (w := 4) (v := x4 + 1) (lv' := [(4, .int (x4 + 1)), (0, va_rf x0), (1, va_rf x1), (2, .int x2), (3, .int x3), (5, .int x5)]) hC dX6_countPoints_37 rfl rfl (by decide) (by first | rfl | simp [lvs1, List.filter, cat_rf, cat_i, cat_j]) ?_
        have k40_19 : ∀ (x0 : Option Nat) (x1 : Option Nat) (x2 : Int32) (x3 : Int32) (x4 : Int32) (x5 : Int32) (ph : PH), w_X6_countPoints_19 Q X fu x0 x1 x2 x3 x4 x5 ph → RR C Z A G 6 19 [(0, va_rf x0), (1, va_rf x1), (2, .int x2), (3, .int x3), (4, .int x4), (5, .int x5)] [] ph 0 0 := by
          intro x0 x1 x2 x3 x4 x5 ph h
          exact RR.wid (by decide) (by decide) (RR.sub [0, 1, 2, 3, 4, 5] rfl (ih _ _ _ _ _ _ _ h))
        exact RR.wid (by decide) (by decide) (RR.sub [1, 2, 3, 4, 0, 5] rfl (b_X6_countPoints_40 hC hAo hr hx hn hnw hnx hi k40_19 _ _ _ _ _ _ _ h))
set_option maxRecDepth 20000 in
theorem c_X6_countPoints (G : GG) (x0 : Nat) (x1 : Option Nat) (x2 : Int32) (ph : PH) (Q : Int32 → PH → Prop) (X : String → PH → Prop) (h : w_X6_countPoints x0 x1 x2 ph Q X) : Ct G yX6_countPoints (.code yX6_countPoints cX6_countPoints 6 (some (.int))) 4 100 0 0 [va_rf (some x0), va_rf x1, .int x2] ph (oI Q) X := by
  refine ct_of (lv0 := [(0, va_rf (some x0)), (1, va_rf x1), (2, .int x2)]) (by decide +kernel) (by simp [lg_sl, cat_rf, cat_i, cat_j]) (by simp [lv_args, cat_rf, cat_i, cat_j]) ?_
  intro C A hC hAo hex hrt hnm
  have hr : HI C (ZM C G A (oI Q) X 0 0) A G 6 cX6_countPoints 0 0 Q := fun pc lv v ph k n d hk hn hq => e_i hC hrt pc lv v ph k n d hk hn ⟨v, rfl, hq⟩
  have hx := e_x (Q := oI Q) (X := X) (mc := 0) (ms := 0) hC hex
  have hn := e_n (Q := oI Q) (X := X) (mc := 0) (ms := 0) hC hex
  have hnw := e_nw (Q := oI Q) (X := X) (mc := 0) (ms := 0) hC hex
  have hnx := e_nx (Q := oI Q) (X := X) (mc := 0) (ms := 0) hC hex
  have hi : True := trivial
  generalize ZM C G A (oI Q) X 0 0 = Z at *
  refine r_aload_n hC dX6_countPoints_0 rfl 1 rfl ?_
  obtain ⟨a1, o1, h⟩ := h
  refine r_VI hC hAo [] cal_X3_liveSet ml_X6_45 (ci := 6) rfl rfl rfl (c_X3_liveSet G _ _ _ _ h) o1 ⟨by decide, by decide⟩ ⟨by decide, by decide⟩ (by simp only [List.map_nil, List.map_cons, List.sum_nil, List.sum_cons, cat_rf, cat_i, cat_j]; decide) rfl dX6_countPoints_1 (fun E u hx9 => hx _ _ _ _ _ _ _ (by decide) (by decide) hx9) (fun v1 ph1 h => ?_)
  refine RR.wid (k' := 0) (n' := 0) (by decide) (by decide) ?_
  refine r_istore_n (i := 3) (lv' := [(3, .int v1), (0, va_rf (some x0)), (1, va_rf x1), (2, .int x2)]) hC dX6_countPoints_4 rfl (by decide) (by first | rfl | simp [lvs1, lvs2, List.filter, cat_rf, cat_i, cat_j]) ?_
  refine r_iconst (v := 0) hC dX6_countPoints_5 (by decide) ?_
  refine r_istore (i := 4) (lv' := [(4, .int (0 : Int32)), (3, .int v1), (0, va_rf (some x0)), (1, va_rf x1), (2, .int x2)]) hC dX6_countPoints_6 (by decide) (by first | rfl | simp [lvs1, lvs2, List.filter, cat_rf, cat_i, cat_j]) ?_
  refine r_aload_n hC dX6_countPoints_8 rfl 2 rfl ?_
  obtain ⟨v9, g9, h⟩ := h
  refine r_get hC (ci := 7) (kf := 3) (N := 11) (Cn := RX6) (T := TX6) rfl (by decide) tin_X6 fl_X6_21 rfl dX6_countPoints_9 g9 ?_
  refine r_iconst (v := 0) hC dX6_countPoints_12 (by decide) ?_
  refine r_SV hC hAo [va_rf v9, .int (0 : Int32)] cal_J7_fill_53178 ml_X6_65 rfl (c_J7_fill_53178 G _ _ _ _ _ h) ⟨by decide, by decide⟩ ⟨by decide, by decide⟩ (by simp only [List.map_nil, List.map_cons, List.sum_nil, List.sum_cons, cat_rf, cat_i, cat_j]; decide) rfl dX6_countPoints_13 (fun E u hx9 => hx _ _ _ _ _ _ _ (by decide) (by decide) hx9) (fun ph13 h => ?_)
  refine RR.wid (k' := 0) (n' := 0) (by decide) (by decide) ?_
  refine r_iconst (v := 0) hC dX6_countPoints_16 (by decide) ?_
  refine r_istore (i := 5) (lv' := [(5, .int (0 : Int32)), (4, .int (0 : Int32)), (3, .int v1), (0, va_rf (some x0)), (1, va_rf x1), (2, .int x2)]) hC dX6_countPoints_17 (by decide) (by first | rfl | simp [lvs1, lvs2, List.filter, cat_rf, cat_i, cat_j]) ?_
  obtain ⟨fu19, h⟩ := h
  exact RR.wid (by decide) (by decide) (RR.sub [3, 4, 5, 2, 1, 0] rfl (b_X6_countPoints_19 hC hAo hr hx hn hnw hnx hi  fu19 _ _ _ _ _ _ _ h))
set_option maxRecDepth 20000 in
theorem c_X11_points (G : GG) (x0 : Nat) (x1 : Int32) (x2 : Int32) (ph : PH) (Q : Int32 → PH → Prop) (X : String → PH → Prop) (h : w_X11_points x0 x1 x2 ph Q X) : Ct G yX11_points (.code yX11_points cX11_points 4 (some (.int))) 7 125 2 12 [va_rf (some x0), .int x1, .int x2] ph (oI Q) X := by
  refine ct_of (lv0 := [(0, va_rf (some x0)), (1, .int x1), (2, .int x2)]) (by decide +kernel) (by simp [lg_sl, cat_rf, cat_i, cat_j]) (by simp [lv_args, cat_rf, cat_i, cat_j]) ?_
  intro C A hC hAo hex hrt hnm
  have hr : HI C (ZM C G A (oI Q) X 2 12) A G 4 cX11_points 2 12 Q := fun pc lv v ph k n d hk hn hq => e_i hC hrt pc lv v ph k n d hk hn ⟨v, rfl, hq⟩
  have hx := e_x (Q := oI Q) (X := X) (mc := 2) (ms := 12) hC hex
  have hn := e_n (Q := oI Q) (X := X) (mc := 2) (ms := 12) hC hex
  have hnw := e_nw (Q := oI Q) (X := X) (mc := 2) (ms := 12) hC hex
  have hnx := e_nx (Q := oI Q) (X := X) (mc := 2) (ms := 12) hC hex
  have hi : True := trivial
  generalize ZM C G A (oI Q) X 2 12 = Z at *
  refine r_aload_n hC dX11_points_0 rfl 0 rfl ?_
  refine r_iload_n hC dX11_points_1 rfl 1 rfl ?_
  obtain ⟨a2, o2, h⟩ := h
  refine r_VR hC hAo [.int x1] cal_X11_shiftAt ml_X11_110 (ci := 12) rfl rfl rfl (c_X11_shiftAt G _ _ _ _ _ h) o2 ⟨by decide, by decide⟩ ⟨by decide, by decide⟩ (by simp only [List.map_nil, List.map_cons, List.sum_nil, List.sum_cons, cat_rf, cat_i, cat_j]; decide) rfl dX11_points_2 (fun E u hx9 => hx _ _ _ _ _ _ _ (by decide) (by decide) hx9) (fun v2 ph2 h => ?_)
  refine RR.wid (k' := 1) (n' := 6) (by decide) (by decide) ?_
  refine r_astore_n (i := 3) (lv' := [(3, va_rf v2), (0, va_rf (some x0)), (1, .int x1), (2, .int x2)]) hC dX11_points_5 rfl (by decide) (by first | rfl | simp [lvs1, lvs2, List.filter, cat_rf, cat_i, cat_j]) ?_
  refine r_iload_n hC dX11_points_6 rfl 3 rfl ?_
  refine r_iconst (v := 1) hC dX11_points_7 (by decide) ?_
  refine r_bipush (v := 7) hC dX11_points_8 (by decide) ?_
  refine r_SV hC hAo [.int x2, .int (1 : Int32), .int (7 : Int32)] cal_X11_demandRange ml_X11_96 rfl (c_X11_demandRange G _ _ _ _ _ _ h) ⟨by decide, by decide⟩ ⟨by decide, by decide⟩ (by simp only [List.map_nil, List.map_cons, List.sum_nil, List.sum_cons, cat_rf, cat_i, cat_j]; decide) rfl dX11_points_10 (fun E u hx9 => hx _ _ _ _ _ _ _ (by decide) (by decide) hx9) (fun ph10 h => ?_)
  refine RR.wid (k' := 2) (n' := 12) (by decide) (by decide) ?_
  refine r_aload_n hC dX11_points_13 rfl 1 rfl ?_
  obtain ⟨v14, g14, h⟩ := h
  refine r_get hC (ci := 12) (kf := 7) (N := 12) (Cn := RX11) (T := TX11) rfl (by decide) tin_X11 fl_X11_37 rfl dX11_points_14 g14 ?_
  refine r_aload_n hC dX11_points_17 rfl 0 rfl ?_
  refine r_iload_n hC dX11_points_18 rfl 3 rfl ?_
  obtain ⟨a19, o19, h⟩ := h
  refine r_VI hC hAo [va_rf v2, .int x2] cal_X6_countPoints ml_X11_182 (ci := 7) rfl rfl rfl (c_X6_countPoints G _ _ _ _ _ _ h) o19 ⟨by decide, by decide⟩ ⟨by decide, by decide⟩ (by simp only [List.map_nil, List.map_cons, List.sum_nil, List.sum_cons, cat_rf, cat_i, cat_j]; decide) rfl dX11_points_19 (fun E u hx9 => hx _ _ _ _ _ _ _ (by decide) (by decide) hx9) (fun v19 ph19 h => ?_)
  refine RR.wid (k' := 2) (n' := 12) (by decide) (by decide) ?_
  exact hr _ _ _ _ _ _ dX11_points_22 (by decide) (by decide) h
