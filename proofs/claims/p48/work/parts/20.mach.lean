set_option maxRecDepth 20000 in
theorem c_J5_init_d00df (G : GG) (x0 : Nat) (x1 : Int32) (ph : PH) (Q : PH → Prop) (X : String → PH → Prop) (h : w_J5_init_d00df x0 x1 ph Q X) : Ct G yJ5_init_d00df (.code yJ5_init_d00df cJ5_init_d00df 2 none) 1 20 1 16 [va_rf (some x0), .int x1] ph (oV Q) X := by
  refine ct_of (lv0 := [(0, va_rf (some x0)), (1, .int x1)]) (by decide +kernel) (by simp [lg_sl, cat_rf, cat_i, cat_j]) (by simp [lv_args, cat_rf, cat_i, cat_j]) ?_
  intro C A hC hAo hex hrt hnm
  have hr : HV C (ZM C G A (oV Q) X 1 16) A G 2 cJ5_init_d00df 1 16 Q := fun pc lv ph k n d hk hn hq => e_v hC hrt pc lv ph k n d hk hn ⟨rfl, hq⟩
  have hx := e_x (Q := oV Q) (X := X) (mc := 1) (ms := 16) hC hex
  have hn := e_n (Q := oV Q) (X := X) (mc := 1) (ms := 16) hC hex
  have hnw := e_nw (Q := oV Q) (X := X) (mc := 1) (ms := 16) hC hex
  have hnx := e_nx (Q := oV Q) (X := X) (mc := 1) (ms := 16) hC hex
  have hi : (xt C).name = "<init>" := hnm
  generalize ZM C G A (oV Q) X 1 16 = Z at *
  refine r_aload_n hC dJ5_init_d00df_0 rfl 0 rfl ?_
  obtain ⟨a1, o1, h⟩ := h
  refine r_objInit hC o1 tb_1384 tb_141 tb_142 (by decide) (by simp only [List.map_nil, List.map_cons, List.sum_nil, List.sum_cons, cat_rf, cat_i, cat_j]; decide) dJ5_init_d00df_1 ?_
  refine r_gets hC tb_1385 rfl dJ5_init_d00df_4 ?_
  refine r_if_eq (tgt := 25) hC dJ5_init_d00df_7 (by decide) (fun c9 => ?_) (fun c9 => ?_)
  · have h := h.1 c9
    refine r_aload_n hC dJ5_init_d00df_25 rfl 0 rfl ?_
    refine r_iload_n hC dJ5_init_d00df_26 rfl 1 rfl ?_
    exact h.elim
  · have h := h.2 c9
    refine r_aload_n hC dJ5_init_d00df_10 rfl 0 rfl ?_
    refine r_iload_n hC dJ5_init_d00df_11 rfl 1 rfl ?_
    obtain ⟨p12, q12, h⟩ := h
    refine r_newa hC (ty := .byte) (N := x1.toNatClampNeg) (y := .inl (fun _ => 0)) 200 (by decide) rfl (fun _ q => by cases q) (fun _ => rfl) tb_461 p12 rfl (by have := q12; show _ * 1 ≤ _; omega) (by decide) (by have := q12; simp only [rmk]; omega) dJ5_init_d00df_12 (fun a12 f12 => ?_)
    refine RR.wid (k' := 1) (n' := 16) (by omega) (by omega) ?_
    have h := h a12 _ f12 rfl
    obtain ⟨ph14, g14, h⟩ := h
    refine r_put hC (ci := 1) (kf := 0) (N := 4) (Cn := RJ4) (T := TJ4) (ty := .array .byte) (ty0 := tyJ4) rfl (by decide) tin_J4 tyJ4_ok nmJ4 fl_J5_15 rfl rfl (by decide +kernel) (nar_ra _ _) (fit_ra _ _) dJ5_init_d00df_14 g14 ?_
    refine r_aload_n hC dJ5_init_d00df_17 rfl 0 rfl ?_
    refine r_iconst (v := 0) hC dJ5_init_d00df_18 (by decide) ?_
    obtain ⟨n19, h⟩ := h
    obtain ⟨ph19, g19, h⟩ := h
    refine r_put hC (ci := 1) (kf := 1) (N := 4) (Cn := RJ4) (T := TJ4) (ty := .byte) (ty0 := tyJ4) rfl (by decide) tin_J4 tyJ4_ok nmJ4 fl_J5_22 rfl rfl (by decide +kernel) n19.1 n19.2 dJ5_init_d00df_19 g19 ?_
    refine r_goto (tgt := 38) hC dJ5_init_d00df_22 (by decide) ?_
    exact hr _ _ _ _ _ dJ5_init_d00df_38 (by decide) (by decide) h
set_option maxRecDepth 20000 in
theorem c_J4_init_da8c8 (G : GG) (x0 : Nat) (ph : PH) (Q : PH → Prop) (X : String → PH → Prop) (h : w_J4_init_da8c8 x0 ph Q X) : Ct G yJ4_init_da8c8 (.code yJ4_init_da8c8 cJ4_init_da8c8 1 none) 2 41 1 16 [va_rf (some x0)] ph (oV Q) X := by
  refine ct_of (lv0 := [(0, va_rf (some x0))]) (by decide +kernel) (by simp [lg_sl, cat_rf, cat_i, cat_j]) (by simp [lv_args, cat_rf, cat_i, cat_j]) ?_
  intro C A hC hAo hex hrt hnm
  have hr : HV C (ZM C G A (oV Q) X 1 16) A G 1 cJ4_init_da8c8 1 16 Q := fun pc lv ph k n d hk hn hq => e_v hC hrt pc lv ph k n d hk hn ⟨rfl, hq⟩
  have hx := e_x (Q := oV Q) (X := X) (mc := 1) (ms := 16) hC hex
  have hn := e_n (Q := oV Q) (X := X) (mc := 1) (ms := 16) hC hex
  have hnw := e_nw (Q := oV Q) (X := X) (mc := 1) (ms := 16) hC hex
  have hnx := e_nx (Q := oV Q) (X := X) (mc := 1) (ms := 16) hC hex
  have hi : (xt C).name = "<init>" := hnm
  generalize ZM C G A (oV Q) X 1 16 = Z at *
  refine r_aload_n hC dJ4_init_da8c8_0 rfl 0 rfl ?_
  refine r_bipush (v := 16) hC dJ4_init_da8c8_1 (by decide) ?_
  obtain ⟨a3, o3, h⟩ := h
  refine r_IV hC hAo [.int (16 : Int32)] cal_J5_init_d00df ml_J4_1 rfl o3 (c_J5_init_d00df G _ _ _ _ _ h) ⟨by decide, by decide⟩ ⟨by decide, by decide⟩ (by simp only [List.map_nil, List.map_cons, List.sum_nil, List.sum_cons, cat_rf, cat_i, cat_j]; decide) rfl dJ4_init_da8c8_3 (fun E u hx9 => hx _ _ _ _ _ _ _ (by decide) (by decide) hx9) (fun ph3 h => ?_)
  refine RR.wid (k' := 1) (n' := 16) (by decide) (by decide) ?_
  exact hr _ _ _ _ _ dJ4_init_da8c8_6 (by decide) (by decide) h
set_option maxRecDepth 20000 in
theorem c_J0_coder_7d493 (G : GG) (x0 : Nat) (ph : PH) (Q : Int32 → PH → Prop) (X : String → PH → Prop) (h : w_J0_coder_7d493 x0 ph Q X) : Ct G yJ0_coder_7d493 (.code yJ0_coder_7d493 cJ0_coder_7d493 1 (some (.byte))) 0 0 0 0 [va_rf (some x0)] ph (oI Q) X := by
  refine ct_of (lv0 := [(0, va_rf (some x0))]) (by decide +kernel) (by simp [lg_sl, cat_rf, cat_i, cat_j]) (by simp [lv_args, cat_rf, cat_i, cat_j]) ?_
  intro C A hC hAo hex hrt hnm
  have hr : HB C (ZM C G A (oI Q) X 0 0) A G 1 cJ0_coder_7d493 0 0 Q := fun pc lv v ph k n d hk hn hq => e_s hC (ty := .byte) hrt pc lv v ph k n d hk hn ⟨hq.1, v, rfl, hq.2⟩
  have hx := e_x (Q := oI Q) (X := X) (mc := 0) (ms := 0) hC hex
  have hn := e_n (Q := oI Q) (X := X) (mc := 0) (ms := 0) hC hex
  have hnw := e_nw (Q := oI Q) (X := X) (mc := 0) (ms := 0) hC hex
  have hnx := e_nx (Q := oI Q) (X := X) (mc := 0) (ms := 0) hC hex
  have hi : True := trivial
  generalize ZM C G A (oI Q) X 0 0 = Z at *
  refine r_gets hC tb_1322 rfl dJ0_coder_7d493_0 ?_
  refine r_if_eq (tgt := 13) hC dJ0_coder_7d493_3 (by decide) (fun c9 => ?_) (fun c9 => ?_)
  · have h := h.1 c9
    refine r_iconst (v := 1) hC dJ0_coder_7d493_13 (by decide) ?_
    exact hr _ _ _ _ _ _ dJ0_coder_7d493_14 (by decide) (by decide) h
  · have h := h.2 c9
    refine r_aload_n hC dJ0_coder_7d493_6 rfl 0 rfl ?_
    obtain ⟨v7, g7, h⟩ := h
    refine r_get hC (ci := 0) (kf := 1) (N := 4) (Cn := RJ0) (T := TJ0) rfl (by decide) tin_J0 fl_J0_15 rfl dJ0_coder_7d493_7 g7 ?_
    refine r_goto (tgt := 14) hC dJ0_coder_7d493_10 (by decide) ?_
    exact hr _ _ _ _ _ _ dJ0_coder_7d493_14 (by decide) (by decide) h
set_option maxRecDepth 20000 in
theorem c_J0_length_8abf5 (G : GG) (x0 : Nat) (ph : PH) (Q : Int32 → PH → Prop) (X : String → PH → Prop) (h : w_J0_length_8abf5 x0 ph Q X) : Ct G yJ0_length_8abf5 (.code yJ0_length_8abf5 cJ0_length_8abf5 1 (some (.int))) 1 20 0 0 [va_rf (some x0)] ph (oI Q) X := by
  refine ct_of (lv0 := [(0, va_rf (some x0))]) (by decide +kernel) (by simp [lg_sl, cat_rf, cat_i, cat_j]) (by simp [lv_args, cat_rf, cat_i, cat_j]) ?_
  intro C A hC hAo hex hrt hnm
  have hr : HI C (ZM C G A (oI Q) X 0 0) A G 1 cJ0_length_8abf5 0 0 Q := fun pc lv v ph k n d hk hn hq => e_i hC hrt pc lv v ph k n d hk hn ⟨v, rfl, hq⟩
  have hx := e_x (Q := oI Q) (X := X) (mc := 0) (ms := 0) hC hex
  have hn := e_n (Q := oI Q) (X := X) (mc := 0) (ms := 0) hC hex
  have hnw := e_nw (Q := oI Q) (X := X) (mc := 0) (ms := 0) hC hex
  have hnx := e_nx (Q := oI Q) (X := X) (mc := 0) (ms := 0) hC hex
  have hi : True := trivial
  generalize ZM C G A (oI Q) X 0 0 = Z at *
  refine r_aload_n hC dJ0_length_8abf5_0 rfl 0 rfl ?_
  obtain ⟨v1, g1, h⟩ := h
  refine r_get hC (ci := 0) (kf := 0) (N := 4) (Cn := RJ0) (T := TJ0) rfl (by decide) tin_J0 fl_J0_9 rfl dJ0_length_8abf5_1 g1 ?_
  obtain ⟨v4, g4, h⟩ := h
  refine r_alen hC dJ0_length_8abf5_4 g4 ?_
  refine r_aload_n hC dJ0_length_8abf5_5 rfl 0 rfl ?_
  obtain ⟨a6, o6, h⟩ := h
  refine r_VI hC hAo [] cal_J0_coder_7d493 ml_J0_335 (ci := 0) rfl rfl rfl (c_J0_coder_7d493 G _ _ _ _ h) o6 ⟨by decide, by decide⟩ ⟨by decide, by decide⟩ (by simp only [List.map_nil, List.map_cons, List.sum_nil, List.sum_cons, cat_rf, cat_i, cat_j]; decide) rfl dJ0_length_8abf5_6 (fun E u hx9 => hx _ _ _ _ _ _ _ (by decide) (by decide) hx9) (fun v6 ph6 h => ?_)
  refine RR.wid (k' := 0) (n' := 0) (by decide) (by decide) ?_
  refine r_ishr hC dJ0_length_8abf5_9 ?_
  exact hr _ _ _ _ _ _ dJ0_length_8abf5_10 (by decide) (by decide) h
set_option maxRecDepth 20000 in
theorem c_J5_ensureCapacityInternal_d00df (G : GG) (x0 : Nat) (x1 : Int32) (ph : PH) (Q : PH → Prop) (X : String → PH → Prop) (h : w_J5_ensureCapacityInternal_d00df x0 x1 ph Q X) : Ct G yJ5_ensureCapacityInternal_d00df (.code yJ5_ensureCapacityInternal_d00df cJ5_ensureCapacityInternal_d00df 3 none) 0 0 0 0 [va_rf (some x0), .int x1] ph (oV Q) X := by
  refine ct_of (lv0 := [(0, va_rf (some x0)), (1, .int x1)]) (by decide +kernel) (by simp [lg_sl, cat_rf, cat_i, cat_j]) (by simp [lv_args, cat_rf, cat_i, cat_j]) ?_
  intro C A hC hAo hex hrt hnm
  have hr : HV C (ZM C G A (oV Q) X 0 0) A G 3 cJ5_ensureCapacityInternal_d00df 0 0 Q := fun pc lv ph k n d hk hn hq => e_v hC hrt pc lv ph k n d hk hn ⟨rfl, hq⟩
  have hx := e_x (Q := oV Q) (X := X) (mc := 0) (ms := 0) hC hex
  have hn := e_n (Q := oV Q) (X := X) (mc := 0) (ms := 0) hC hex
  have hnw := e_nw (Q := oV Q) (X := X) (mc := 0) (ms := 0) hC hex
  have hnx := e_nx (Q := oV Q) (X := X) (mc := 0) (ms := 0) hC hex
  have hi : True := trivial
  generalize ZM C G A (oV Q) X 0 0 = Z at *
  refine r_aload_n hC dJ5_ensureCapacityInternal_d00df_0 rfl 0 rfl ?_
  obtain ⟨v1, g1, h⟩ := h
  refine r_get hC (ci := 1) (kf := 0) (N := 4) (Cn := RJ4) (T := TJ4) rfl (by decide) tin_J4 fl_J5_15 rfl dJ5_ensureCapacityInternal_d00df_1 g1 ?_
  obtain ⟨v4, g4, h⟩ := h
  refine r_alen hC dJ5_ensureCapacityInternal_d00df_4 g4 ?_
  refine r_aload_n hC dJ5_ensureCapacityInternal_d00df_5 rfl 0 rfl ?_
  obtain ⟨v6, g6, h⟩ := h
  refine r_get hC (ci := 1) (kf := 1) (N := 4) (Cn := RJ4) (T := TJ4) rfl (by decide) tin_J4 fl_J5_22 rfl dJ5_ensureCapacityInternal_d00df_6 g6 ?_
  refine r_ishr hC dJ5_ensureCapacityInternal_d00df_9 ?_
  obtain ⟨v10, ev10⟩ : ∃ z : Int32, z = v4 >>> (v6 &&& 31) := ⟨_, rfl⟩
  have h := h v10 ev10
  refine RR.to (st' := [.int v10]) (by rw [ev10]) ?_
  refine r_istore_n (i := 2) (lv' := [(2, .int v10), (0, va_rf (some x0)), (1, .int x1)]) hC dJ5_ensureCapacityInternal_d00df_10 rfl (by decide) (by first | rfl | simp [lvs1, lvs2, List.filter, cat_rf, cat_i, cat_j]) ?_
  refine r_iload_n hC dJ5_ensureCapacityInternal_d00df_11 rfl 2 rfl ?_
  refine r_iload_n hC dJ5_ensureCapacityInternal_d00df_12 rfl 0 rfl ?_
  refine r_isub hC dJ5_ensureCapacityInternal_d00df_13 ?_
  refine r_if_le (tgt := 38) hC dJ5_ensureCapacityInternal_d00df_14 (by decide) (fun c9 => ?_) (fun c9 => ?_)
  · have h := h.1 c9
    exact hr _ _ _ _ _ dJ5_ensureCapacityInternal_d00df_38 (by decide) (by decide) h
  · have h := h.2 c9
    refine r_aload_n hC dJ5_ensureCapacityInternal_d00df_17 rfl 1 rfl ?_
    refine r_aload_n hC dJ5_ensureCapacityInternal_d00df_18 rfl 1 rfl ?_
    obtain ⟨v19, g19, h⟩ := h
    refine r_get hC (ci := 1) (kf := 0) (N := 4) (Cn := RJ4) (T := TJ4) rfl (by decide) tin_J4 fl_J5_15 rfl dJ5_ensureCapacityInternal_d00df_19 g19 ?_
    refine r_aload_n hC dJ5_ensureCapacityInternal_d00df_22 rfl 1 rfl ?_
    refine r_iload_n hC dJ5_ensureCapacityInternal_d00df_23 rfl 2 rfl ?_
    exact h.elim
set_option maxRecDepth 20000 in
theorem c_J5_inflateIfNeededFor_a7421 (G : GG) (x0 : Nat) (x1 : Option Nat) (ph : PH) (Q : PH → Prop) (X : String → PH → Prop) (h : w_J5_inflateIfNeededFor_a7421 x0 x1 ph Q X) : Ct G yJ5_inflateIfNeededFor_a7421 (.code yJ5_inflateIfNeededFor_a7421 cJ5_inflateIfNeededFor_a7421 2 none) 1 20 0 0 [va_rf (some x0), va_rf x1] ph (oV Q) X := by
  refine ct_of (lv0 := [(0, va_rf (some x0)), (1, va_rf x1)]) (by decide +kernel) (by simp [lg_sl, cat_rf, cat_i, cat_j]) (by simp [lv_args, cat_rf, cat_i, cat_j]) ?_
  intro C A hC hAo hex hrt hnm
  have hr : HV C (ZM C G A (oV Q) X 0 0) A G 2 cJ5_inflateIfNeededFor_a7421 0 0 Q := fun pc lv ph k n d hk hn hq => e_v hC hrt pc lv ph k n d hk hn ⟨rfl, hq⟩
  have hx := e_x (Q := oV Q) (X := X) (mc := 0) (ms := 0) hC hex
  have hn := e_n (Q := oV Q) (X := X) (mc := 0) (ms := 0) hC hex
  have hnw := e_nw (Q := oV Q) (X := X) (mc := 0) (ms := 0) hC hex
  have hnx := e_nx (Q := oV Q) (X := X) (mc := 0) (ms := 0) hC hex
  have hi : True := trivial
  generalize ZM C G A (oV Q) X 0 0 = Z at *
  refine r_gets hC tb_1385 rfl dJ5_inflateIfNeededFor_a7421_0 ?_
  refine r_if_eq (tgt := 21) hC dJ5_inflateIfNeededFor_a7421_3 (by decide) (fun c9 => ?_) (fun c9 => ?_)
  · have h := h.1 c9
    exact hr _ _ _ _ _ dJ5_inflateIfNeededFor_a7421_21 (by decide) (by decide) h
  · have h := h.2 c9
    refine r_aload_n hC dJ5_inflateIfNeededFor_a7421_6 rfl 0 rfl ?_
    obtain ⟨v7, g7, h⟩ := h
    refine r_get hC (ci := 1) (kf := 1) (N := 4) (Cn := RJ4) (T := TJ4) rfl (by decide) tin_J4 fl_J5_22 rfl dJ5_inflateIfNeededFor_a7421_7 g7 ?_
    refine r_aload_n hC dJ5_inflateIfNeededFor_a7421_10 rfl 1 rfl ?_
    obtain ⟨a11, o11, h⟩ := h
    refine r_VI hC hAo [] cal_J0_coder_7d493 ml_J5_40 (ci := 0) rfl rfl rfl (c_J0_coder_7d493 G _ _ _ _ h) o11 ⟨by decide, by decide⟩ ⟨by decide, by decide⟩ (by simp only [List.map_nil, List.map_cons, List.sum_nil, List.sum_cons, cat_rf, cat_i, cat_j]; decide) rfl dJ5_inflateIfNeededFor_a7421_11 (fun E u hx9 => hx _ _ _ _ _ _ _ (by decide) (by decide) hx9) (fun v11 ph11 h => ?_)
    refine RR.wid (k' := 0) (n' := 0) (by decide) (by decide) ?_
    refine r_icmp_eq (tgt := 21) hC dJ5_inflateIfNeededFor_a7421_14 (by decide) (fun c9 => ?_) (fun c9 => ?_)
    · have h := h.1 c9
      exact hr _ _ _ _ _ dJ5_inflateIfNeededFor_a7421_21 (by decide) (by decide) h
    · have h := h.2 c9
      refine r_aload_n hC dJ5_inflateIfNeededFor_a7421_17 rfl 0 rfl ?_
      exact h.elim
set_option maxRecDepth 20000 in
theorem c_J0_getBytes_840e7 (G : GG) (x0 : Nat) (x1 : Option Nat) (x2 : Int32) (x3 : Int32) (ph : PH) (Q : PH → Prop) (X : String → PH → Prop) (h : w_J0_getBytes_840e7 x0 x1 x2 x3 ph Q X) : Ct G yJ0_getBytes_840e7 (.code yJ0_getBytes_840e7 cJ0_getBytes_840e7 4 none) 1 40 0 0 [va_rf (some x0), va_rf x1, .int x2, .int x3] ph (oV Q) X := by
  refine ct_of (lv0 := [(0, va_rf (some x0)), (1, va_rf x1), (2, .int x2), (3, .int x3)]) (by decide +kernel) (by simp [lg_sl, cat_rf, cat_i, cat_j]) (by simp [lv_args, cat_rf, cat_i, cat_j]) ?_
  intro C A hC hAo hex hrt hnm
  have hr : HV C (ZM C G A (oV Q) X 0 0) A G 4 cJ0_getBytes_840e7 0 0 Q := fun pc lv ph k n d hk hn hq => e_v hC hrt pc lv ph k n d hk hn ⟨rfl, hq⟩
  have hx := e_x (Q := oV Q) (X := X) (mc := 0) (ms := 0) hC hex
  have hn := e_n (Q := oV Q) (X := X) (mc := 0) (ms := 0) hC hex
  have hnw := e_nw (Q := oV Q) (X := X) (mc := 0) (ms := 0) hC hex
  have hnx := e_nx (Q := oV Q) (X := X) (mc := 0) (ms := 0) hC hex
  have hi : True := trivial
  generalize ZM C G A (oV Q) X 0 0 = Z at *
  refine r_aload_n hC dJ0_getBytes_840e7_0 rfl 0 rfl ?_
  obtain ⟨a1, o1, h⟩ := h
  refine r_VI hC hAo [] cal_J0_coder_7d493 ml_J0_335 (ci := 0) rfl rfl rfl (c_J0_coder_7d493 G _ _ _ _ h) o1 ⟨by decide, by decide⟩ ⟨by decide, by decide⟩ (by simp only [List.map_nil, List.map_cons, List.sum_nil, List.sum_cons, cat_rf, cat_i, cat_j]; decide) rfl dJ0_getBytes_840e7_1 (fun E u hx9 => hx _ _ _ _ _ _ _ (by decide) (by decide) hx9) (fun v1 ph1 h => ?_)
  refine RR.wid (k' := 0) (n' := 0) (by decide) (by decide) ?_
  refine r_iload_n hC dJ0_getBytes_840e7_4 rfl 3 rfl ?_
  refine r_icmp_ne (tgt := 28) hC dJ0_getBytes_840e7_5 (by decide) (fun c9 => ?_) (fun c9 => ?_)
  · have h := h.1 c9
    refine r_aload_n hC dJ0_getBytes_840e7_28 rfl 0 rfl ?_
    obtain ⟨v29, g29, h⟩ := h
    refine r_get hC (ci := 0) (kf := 0) (N := 4) (Cn := RJ0) (T := TJ0) rfl (by decide) tin_J0 fl_J0_9 rfl dJ0_getBytes_840e7_29 g29 ?_
    refine r_iconst (v := 0) hC dJ0_getBytes_840e7_32 (by decide) ?_
    refine r_aload_n hC dJ0_getBytes_840e7_33 rfl 1 rfl ?_
    refine r_iload_n hC dJ0_getBytes_840e7_34 rfl 2 rfl ?_
    refine r_aload_n hC dJ0_getBytes_840e7_35 rfl 0 rfl ?_
    obtain ⟨v36, g36, h⟩ := h
    refine r_get hC (ci := 0) (kf := 0) (N := 4) (Cn := RJ0) (T := TJ0) rfl (by decide) tin_J0 fl_J0_9 rfl dJ0_getBytes_840e7_36 g36 ?_
    obtain ⟨v39, g39, h⟩ := h
    refine r_alen hC dJ0_getBytes_840e7_39 g39 ?_
    exact h.elim
  · have h := h.2 c9
    refine r_aload_n hC dJ0_getBytes_840e7_8 rfl 0 rfl ?_
    obtain ⟨v9, g9, h⟩ := h
    refine r_get hC (ci := 0) (kf := 0) (N := 4) (Cn := RJ0) (T := TJ0) rfl (by decide) tin_J0 fl_J0_9 rfl dJ0_getBytes_840e7_9 g9 ?_
    refine r_iconst (v := 0) hC dJ0_getBytes_840e7_12 (by decide) ?_
    refine r_aload_n hC dJ0_getBytes_840e7_13 rfl 1 rfl ?_
    refine r_iload_n hC dJ0_getBytes_840e7_14 rfl 2 rfl ?_
    refine r_iload_n hC dJ0_getBytes_840e7_15 rfl 3 rfl ?_
    refine r_ishl hC dJ0_getBytes_840e7_16 ?_
    refine r_aload_n hC dJ0_getBytes_840e7_17 rfl 0 rfl ?_
    obtain ⟨v18, g18, h⟩ := h
    refine r_get hC (ci := 0) (kf := 0) (N := 4) (Cn := RJ0) (T := TJ0) rfl (by decide) tin_J0 fl_J0_9 rfl dJ0_getBytes_840e7_18 g18 ?_
    obtain ⟨v21, g21, h⟩ := h
    refine r_alen hC dJ0_getBytes_840e7_21 g21 ?_
    obtain ⟨ph22, g22, h⟩ := h
    refine r_copyB hC tb_1505 tb_1451 tb_1450 tb_116 (by decide) (by simp only [List.map_nil, List.map_cons, List.sum_nil, List.sum_cons, cat_rf, cat_i, cat_j]; decide) dJ0_getBytes_840e7_22 g22 ?_
    refine r_goto (tgt := 43) hC dJ0_getBytes_840e7_25 (by decide) ?_
    exact hr _ _ _ _ _ dJ0_getBytes_840e7_43 (by decide) (by decide) h
set_option maxRecDepth 20000 in
theorem c_J5_putStringAt_47b60 (G : GG) (x0 : Nat) (x1 : Int32) (x2 : Option Nat) (ph : PH) (Q : PH → Prop) (X : String → PH → Prop) (h : w_J5_putStringAt_47b60 x0 x1 x2 ph Q X) : Ct G yJ5_putStringAt_47b60 (.code yJ5_putStringAt_47b60 cJ5_putStringAt_47b60 3 none) 2 63 0 0 [va_rf (some x0), .int x1, va_rf x2] ph (oV Q) X := by
  refine ct_of (lv0 := [(0, va_rf (some x0)), (1, .int x1), (2, va_rf x2)]) (by decide +kernel) (by simp [lg_sl, cat_rf, cat_i, cat_j]) (by simp [lv_args, cat_rf, cat_i, cat_j]) ?_
  intro C A hC hAo hex hrt hnm
  have hr : HV C (ZM C G A (oV Q) X 0 0) A G 3 cJ5_putStringAt_47b60 0 0 Q := fun pc lv ph k n d hk hn hq => e_v hC hrt pc lv ph k n d hk hn ⟨rfl, hq⟩
  have hx := e_x (Q := oV Q) (X := X) (mc := 0) (ms := 0) hC hex
  have hn := e_n (Q := oV Q) (X := X) (mc := 0) (ms := 0) hC hex
  have hnw := e_nw (Q := oV Q) (X := X) (mc := 0) (ms := 0) hC hex
  have hnx := e_nx (Q := oV Q) (X := X) (mc := 0) (ms := 0) hC hex
  have hi : True := trivial
  generalize ZM C G A (oV Q) X 0 0 = Z at *
  refine r_aload_n hC dJ5_putStringAt_47b60_0 rfl 0 rfl ?_
  refine r_aload_n hC dJ5_putStringAt_47b60_1 rfl 2 rfl ?_
  obtain ⟨a2, o2, h⟩ := h
  refine r_VV hC hAo [va_rf x2] cal_J5_inflateIfNeededFor_a7421 ml_J5_397 (ci := 1) rfl rfl rfl (c_J5_inflateIfNeededFor_a7421 G _ _ _ _ _ h) o2 ⟨by decide, by decide⟩ ⟨by decide, by decide⟩ (by simp only [List.map_nil, List.map_cons, List.sum_nil, List.sum_cons, cat_rf, cat_i, cat_j]; decide) rfl dJ5_putStringAt_47b60_2 (fun E u hx9 => hx _ _ _ _ _ _ _ (by decide) (by decide) hx9) (fun ph2 h => ?_)
  refine RR.wid (k' := 0) (n' := 0) (by decide) (by decide) ?_
  refine r_aload_n hC dJ5_putStringAt_47b60_5 rfl 2 rfl ?_
  refine r_aload_n hC dJ5_putStringAt_47b60_6 rfl 0 rfl ?_
  obtain ⟨v7, g7, h⟩ := h
  refine r_get hC (ci := 1) (kf := 0) (N := 4) (Cn := RJ4) (T := TJ4) rfl (by decide) tin_J4 fl_J5_15 rfl dJ5_putStringAt_47b60_7 g7 ?_
  refine r_iload_n hC dJ5_putStringAt_47b60_10 rfl 1 rfl ?_
  refine r_aload_n hC dJ5_putStringAt_47b60_11 rfl 0 rfl ?_
  obtain ⟨v12, g12, h⟩ := h
  refine r_get hC (ci := 1) (kf := 1) (N := 4) (Cn := RJ4) (T := TJ4) rfl (by decide) tin_J4 fl_J5_22 rfl dJ5_putStringAt_47b60_12 g12 ?_
  obtain ⟨a15, o15, h⟩ := h
  refine r_VV hC hAo [va_rf v7, .int x1, .int v12] cal_J0_getBytes_840e7 ml_J5_399 (ci := 0) rfl rfl rfl (c_J0_getBytes_840e7 G _ _ _ _ _ _ _ h) o15 ⟨by decide, by decide⟩ ⟨by decide, by decide⟩ (by simp only [List.map_nil, List.map_cons, List.sum_nil, List.sum_cons, cat_rf, cat_i, cat_j]; decide) rfl dJ5_putStringAt_47b60_15 (fun E u hx9 => hx _ _ _ _ _ _ _ (by decide) (by decide) hx9) (fun ph15 h => ?_)
  refine RR.wid (k' := 0) (n' := 0) (by decide) (by decide) ?_
  exact hr _ _ _ _ _ dJ5_putStringAt_47b60_18 (by decide) (by decide) h
set_option maxRecDepth 20000 in
theorem c_J5_append_cf1ce (G : GG) (x0 : Nat) (x1 : Option Nat) (ph : PH) (Q : Option Nat → PH → Prop) (X : String → PH → Prop) (h : w_J5_append_cf1ce x0 x1 ph Q X) : Ct G yJ5_append_cf1ce (.code yJ5_append_cf1ce cJ5_append_cf1ce 3 (some (.object "java/lang/AbstractStringBuilder"))) 3 85 0 0 [va_rf (some x0), va_rf x1] ph (oR Q) X := by
  refine ct_of (lv0 := [(0, va_rf (some x0)), (1, va_rf x1)]) (by decide +kernel) (by simp [lg_sl, cat_rf, cat_i, cat_j]) (by simp [lv_args, cat_rf, cat_i, cat_j]) ?_
  intro C A hC hAo hex hrt hnm
  have hr : HA C (ZM C G A (oR Q) X 0 0) A G 3 cJ5_append_cf1ce 0 0 Q := fun pc lv v ph k n d hk hn hq => e_a hC (cn := "java/lang/AbstractStringBuilder") (Or.inl hrt) pc lv v ph k n d hk hn ⟨v, rfl, hq⟩
  have hx := e_x (Q := oR Q) (X := X) (mc := 0) (ms := 0) hC hex
  have hn := e_n (Q := oR Q) (X := X) (mc := 0) (ms := 0) hC hex
  have hnw := e_nw (Q := oR Q) (X := X) (mc := 0) (ms := 0) hC hex
  have hnx := e_nx (Q := oR Q) (X := X) (mc := 0) (ms := 0) hC hex
  have hi : True := trivial
  generalize ZM C G A (oR Q) X 0 0 = Z at *
  refine r_aload_n hC dJ5_append_cf1ce_0 rfl 1 rfl ?_
  refine r_ifnonnull (tgt := 9) hC dJ5_append_cf1ce_1 (by decide) (fun c9 => ?_) (fun c9 => ?_)
  · have h := h.1 c9
    refine r_aload_n hC dJ5_append_cf1ce_9 rfl 1 rfl ?_
    obtain ⟨a10, o10, h⟩ := h
    refine r_VI hC hAo [] cal_J0_length_8abf5 ml_J5_32 (ci := 0) rfl rfl rfl (c_J0_length_8abf5 G _ _ _ _ h) o10 ⟨by decide, by decide⟩ ⟨by decide, by decide⟩ (by simp only [List.map_nil, List.map_cons, List.sum_nil, List.sum_cons, cat_rf, cat_i, cat_j]; decide) rfl dJ5_append_cf1ce_10 (fun E u hx9 => hx _ _ _ _ _ _ _ (by decide) (by decide) hx9) (fun v10 ph10 h => ?_)
    refine RR.wid (k' := 0) (n' := 0) (by decide) (by decide) ?_
    refine r_istore_n (i := 2) (lv' := [(2, .int v10), (0, va_rf (some x0)), (1, va_rf x1)]) hC dJ5_append_cf1ce_13 rfl (by decide) (by first | rfl | simp [lvs1, lvs2, List.filter, cat_rf, cat_i, cat_j]) ?_
    refine r_aload_n hC dJ5_append_cf1ce_14 rfl 1 rfl ?_
    refine r_aload_n hC dJ5_append_cf1ce_15 rfl 1 rfl ?_
    obtain ⟨v16, g16, h⟩ := h
    refine r_get hC (ci := 1) (kf := 3) (N := 4) (Cn := RJ4) (T := TJ4) rfl (by decide) tin_J4 fl_J5_79 rfl dJ5_append_cf1ce_16 g16 ?_
    refine r_iload_n hC dJ5_append_cf1ce_19 rfl 0 rfl ?_
    refine r_iadd hC dJ5_append_cf1ce_20 ?_
    obtain ⟨a21, o21, h⟩ := h
    refine r_VV hC hAo [.int (v16 + v10)] cal_J5_ensureCapacityInternal_d00df ml_J5_100 (ci := 1) rfl rfl rfl (c_J5_ensureCapacityInternal_d00df G _ _ _ _ _ h) o21 ⟨by decide, by decide⟩ ⟨by decide, by decide⟩ (by simp only [List.map_nil, List.map_cons, List.sum_nil, List.sum_cons, cat_rf, cat_i, cat_j]; decide) rfl dJ5_append_cf1ce_21 (fun E u hx9 => hx _ _ _ _ _ _ _ (by decide) (by decide) hx9) (fun ph21 h => ?_)
    refine RR.wid (k' := 0) (n' := 0) (by decide) (by decide) ?_
    refine r_aload_n hC dJ5_append_cf1ce_24 rfl 1 rfl ?_
    refine r_aload_n hC dJ5_append_cf1ce_25 rfl 1 rfl ?_
    obtain ⟨v26, g26, h⟩ := h
    refine r_get hC (ci := 1) (kf := 3) (N := 4) (Cn := RJ4) (T := TJ4) rfl (by decide) tin_J4 fl_J5_79 rfl dJ5_append_cf1ce_26 g26 ?_
    refine r_aload_n hC dJ5_append_cf1ce_29 rfl 2 rfl ?_
    obtain ⟨a30, o30, h⟩ := h
    refine r_VV hC hAo [.int v26, va_rf x1] cal_J5_putStringAt_47b60 ml_J5_208 (ci := 1) rfl rfl rfl (c_J5_putStringAt_47b60 G _ _ _ _ _ _ h) o30 ⟨by decide, by decide⟩ ⟨by decide, by decide⟩ (by simp only [List.map_nil, List.map_cons, List.sum_nil, List.sum_cons, cat_rf, cat_i, cat_j]; decide) rfl dJ5_append_cf1ce_30 (fun E u hx9 => hx _ _ _ _ _ _ _ (by decide) (by decide) hx9) (fun ph30 h => ?_)
    refine RR.wid (k' := 0) (n' := 0) (by decide) (by decide) ?_
    refine r_aload_n hC dJ5_append_cf1ce_33 rfl 1 rfl ?_
    refine r_dup hC dJ5_append_cf1ce_34 (by first | rfl | exact cat_rf _) ?_
    obtain ⟨v35, g35, h⟩ := h
    refine r_get hC (ci := 1) (kf := 3) (N := 4) (Cn := RJ4) (T := TJ4) rfl (by decide) tin_J4 fl_J5_79 rfl dJ5_append_cf1ce_35 g35 ?_
    refine r_iload_n hC dJ5_append_cf1ce_38 rfl 0 rfl ?_
    refine r_iadd hC dJ5_append_cf1ce_39 ?_
    obtain ⟨ph40, g40, h⟩ := h
    refine r_put hC (ci := 1) (kf := 3) (N := 4) (Cn := RJ4) (T := TJ4) (ty := .int) (ty0 := tyJ4) rfl (by decide) tin_J4 tyJ4_ok nmJ4 fl_J5_79 rfl rfl (by decide +kernel) rfl rfl dJ5_append_cf1ce_40 g40 ?_
    refine r_aload_n hC dJ5_append_cf1ce_43 rfl 1 rfl ?_
    exact hr _ _ _ _ _ _ dJ5_append_cf1ce_44 (by decide) (by decide) h
  · have h := h.2 c9
    refine r_aload_n hC dJ5_append_cf1ce_4 rfl 0 rfl ?_
    exact h.elim
set_option maxRecDepth 20000 in
theorem c_J4_append_15ec4 (G : GG) (x0 : Nat) (x1 : Option Nat) (ph : PH) (Q : Option Nat → PH → Prop) (X : String → PH → Prop) (h : w_J4_append_15ec4 x0 x1 ph Q X) : Ct G yJ4_append_15ec4 (.code yJ4_append_15ec4 cJ4_append_15ec4 2 (some (.object "java/lang/StringBuilder"))) 4 107 0 0 [va_rf (some x0), va_rf x1] ph (oR Q) X := by
  refine ct_of (lv0 := [(0, va_rf (some x0)), (1, va_rf x1)]) (by decide +kernel) (by simp [lg_sl, cat_rf, cat_i, cat_j]) (by simp [lv_args, cat_rf, cat_i, cat_j]) ?_
  intro C A hC hAo hex hrt hnm
  have hr : HA C (ZM C G A (oR Q) X 0 0) A G 2 cJ4_append_15ec4 0 0 Q := fun pc lv v ph k n d hk hn hq => e_a hC (cn := "java/lang/StringBuilder") (Or.inl hrt) pc lv v ph k n d hk hn ⟨v, rfl, hq⟩
  have hx := e_x (Q := oR Q) (X := X) (mc := 0) (ms := 0) hC hex
  have hn := e_n (Q := oR Q) (X := X) (mc := 0) (ms := 0) hC hex
  have hnw := e_nw (Q := oR Q) (X := X) (mc := 0) (ms := 0) hC hex
  have hnx := e_nx (Q := oR Q) (X := X) (mc := 0) (ms := 0) hC hex
  have hi : True := trivial
  generalize ZM C G A (oR Q) X 0 0 = Z at *
  refine r_aload_n hC dJ4_append_15ec4_0 rfl 0 rfl ?_
  refine r_aload_n hC dJ4_append_15ec4_1 rfl 1 rfl ?_
  obtain ⟨a2, o2, h⟩ := h
  refine r_PR hC hAo [va_rf x1] cal_J5_append_cf1ce_P tb_1410 (ci := 1) rfl rfl (c_J5_append_cf1ce G _ _ _ _ _ h) o2 ⟨by decide, by decide⟩ ⟨by decide, by decide⟩ (by simp only [List.map_nil, List.map_cons, List.sum_nil, List.sum_cons, cat_rf, cat_i, cat_j]; decide) rfl dJ4_append_15ec4_2 (fun E u hx9 => hx _ _ _ _ _ _ _ (by decide) (by decide) hx9) (fun v2 ph2 h => ?_)
  refine RR.wid (k' := 0) (n' := 0) (by decide) (by decide) ?_
  refine r_pop hC dJ4_append_15ec4_5 (by first | rfl | exact cat_rf _) ?_
  refine r_aload_n hC dJ4_append_15ec4_6 rfl 0 rfl ?_
  exact hr _ _ _ _ _ _ dJ4_append_15ec4_7 (by decide) (by decide) h
set_option maxRecDepth 20000 in
theorem c_J5_isLatin1_aae02 (G : GG) (x0 : Nat) (ph : PH) (Q : Int32 → PH → Prop) (X : String → PH → Prop) (h : w_J5_isLatin1_aae02 x0 ph Q X) : Ct G yJ5_isLatin1_aae02 (.code yJ5_isLatin1_aae02 cJ5_isLatin1_aae02 1 (some (.boolean))) 0 0 0 0 [va_rf (some x0)] ph (oI Q) X := by
  refine ct_of (lv0 := [(0, va_rf (some x0))]) (by decide +kernel) (by simp [lg_sl, cat_rf, cat_i, cat_j]) (by simp [lv_args, cat_rf, cat_i, cat_j]) ?_
  intro C A hC hAo hex hrt hnm
  have hr : HZ C (ZM C G A (oI Q) X 0 0) A G 1 cJ5_isLatin1_aae02 0 0 Q := fun pc lv v ph k n d hk hn hq => e_s hC (ty := .boolean) hrt pc lv v ph k n d hk hn ⟨hq.1, v, rfl, hq.2⟩
  have hx := e_x (Q := oI Q) (X := X) (mc := 0) (ms := 0) hC hex
  have hn := e_n (Q := oI Q) (X := X) (mc := 0) (ms := 0) hC hex
  have hnw := e_nw (Q := oI Q) (X := X) (mc := 0) (ms := 0) hC hex
  have hnx := e_nx (Q := oI Q) (X := X) (mc := 0) (ms := 0) hC hex
  have hi : True := trivial
  generalize ZM C G A (oI Q) X 0 0 = Z at *
  refine r_gets hC tb_1385 rfl dJ5_isLatin1_aae02_0 ?_
  refine r_if_eq (tgt := 17) hC dJ5_isLatin1_aae02_3 (by decide) (fun c9 => ?_) (fun c9 => ?_)
  · have h := h.1 c9
    refine r_iconst (v := 0) hC dJ5_isLatin1_aae02_17 (by decide) ?_
    exact hr _ _ _ _ _ _ dJ5_isLatin1_aae02_18 (by decide) (by decide) h
  · have h := h.2 c9
    refine r_aload_n hC dJ5_isLatin1_aae02_6 rfl 0 rfl ?_
    obtain ⟨v7, g7, h⟩ := h
    refine r_get hC (ci := 1) (kf := 1) (N := 4) (Cn := RJ4) (T := TJ4) rfl (by decide) tin_J4 fl_J5_22 rfl dJ5_isLatin1_aae02_7 g7 ?_
    refine r_if_ne (tgt := 17) hC dJ5_isLatin1_aae02_10 (by decide) (fun c9 => ?_) (fun c9 => ?_)
    · have h := h.1 c9
      refine r_iconst (v := 0) hC dJ5_isLatin1_aae02_17 (by decide) ?_
      exact hr _ _ _ _ _ _ dJ5_isLatin1_aae02_18 (by decide) (by decide) h
    · have h := h.2 c9
      refine r_iconst (v := 1) hC dJ5_isLatin1_aae02_13 (by decide) ?_
      refine r_goto (tgt := 18) hC dJ5_isLatin1_aae02_14 (by decide) ?_
      exact hr _ _ _ _ _ _ dJ5_isLatin1_aae02_18 (by decide) (by decide) h
set_option maxRecDepth 20000 in
theorem c_J1_canEncode_fc78d (G : GG) (x0 : Int32) (ph : PH) (Q : Int32 → PH → Prop) (X : String → PH → Prop) (h : w_J1_canEncode_fc78d x0 ph Q X) : Ct G yJ1_canEncode_fc78d (.code yJ1_canEncode_fc78d cJ1_canEncode_fc78d 1 (some (.boolean))) 0 0 0 0 [.int x0] ph (oI Q) X := by
  refine ct_of (lv0 := [(0, .int x0)]) (by decide +kernel) (by simp [lg_sl, cat_rf, cat_i, cat_j]) (by simp [lv_args, cat_rf, cat_i, cat_j]) ?_
  intro C A hC hAo hex hrt hnm
  have hr : HZ C (ZM C G A (oI Q) X 0 0) A G 1 cJ1_canEncode_fc78d 0 0 Q := fun pc lv v ph k n d hk hn hq => e_s hC (ty := .boolean) hrt pc lv v ph k n d hk hn ⟨hq.1, v, rfl, hq.2⟩
  have hx := e_x (Q := oI Q) (X := X) (mc := 0) (ms := 0) hC hex
  have hn := e_n (Q := oI Q) (X := X) (mc := 0) (ms := 0) hC hex
  have hnw := e_nw (Q := oI Q) (X := X) (mc := 0) (ms := 0) hC hex
  have hnx := e_nx (Q := oI Q) (X := X) (mc := 0) (ms := 0) hC hex
  have hi : True := trivial
  generalize ZM C G A (oI Q) X 0 0 = Z at *
  refine r_iload_n hC dJ1_canEncode_fc78d_0 rfl 0 rfl ?_
  refine r_sipush (v := 255) hC dJ1_canEncode_fc78d_1 (by decide) ?_
  refine r_icmp_gt (tgt := 11) hC dJ1_canEncode_fc78d_4 (by decide) (fun c9 => ?_) (fun c9 => ?_)
  · have h := h.1 c9
    refine r_iconst (v := 0) hC dJ1_canEncode_fc78d_11 (by decide) ?_
    exact hr _ _ _ _ _ _ dJ1_canEncode_fc78d_12 (by decide) (by decide) h
  · have h := h.2 c9
    refine r_iconst (v := 1) hC dJ1_canEncode_fc78d_7 (by decide) ?_
    refine r_goto (tgt := 12) hC dJ1_canEncode_fc78d_8 (by decide) ?_
    exact hr _ _ _ _ _ _ dJ1_canEncode_fc78d_12 (by decide) (by decide) h
set_option maxRecDepth 20000 in
theorem b_J5_append_3fe6f_45 {C : Cx} {Z : State → Prop} {A : Nat → Prop} {G : GG} {Q : Option Nat → PH → Prop} {X : String → PH → Prop} (hC : CxOk RJ5 cJ5_append_3fe6f 2 G A (rmk 1 22 0 0) C) (hAo : Ao (xs C)) (hr : HA C Z A G 2 cJ5_append_3fe6f 0 0 Q) (hx : HX C Z A G 2 0 0 X) (hn : HN C Z A G 2 RJ5 cJ5_append_3fe6f 0 0 (rmk 1 22 0 0) X) (hnw : HNW C Z A G 2 RJ5 cJ5_append_3fe6f 0 0 (rmk 1 22 0 0) X) (hnx : HNX C Z A G 2 RJ5 cJ5_append_3fe6f 0 0 (rmk 1 22 0 0) X) (hi : True) : ∀ (x0 : Option Nat) (x1 : Int32) (ph : PH), w_J5_append_3fe6f_45 Q X x0 x1 ph → RR C Z A G 2 45 [(0, va_rf x0), (1, .int x1)] [] ph 0 0 := by
  intro x0 x1 ph h
  refine r_aload_n hC dJ5_append_3fe6f_45 rfl 0 rfl ?_
  obtain ⟨a46, o46, h⟩ := h
  refine r_VI hC hAo [] cal_J5_isLatin1_aae02 ml_J5_83 (ci := 1) rfl rfl rfl (c_J5_isLatin1_aae02 G _ _ _ _ h) o46 ⟨by decide, by decide⟩ ⟨by decide, by decide⟩ (by simp only [List.map_nil, List.map_cons, List.sum_nil, List.sum_cons, cat_rf, cat_i, cat_j]; decide) rfl dJ5_append_3fe6f_46 (fun E u hx9 => hx _ _ _ _ _ _ _ (by decide) (by decide) hx9) (fun v46 ph46 h => ?_)
  refine RR.wid (k' := 0) (n' := 0) (by decide) (by decide) ?_
  refine r_if_eq (tgt := 56) hC dJ5_append_3fe6f_49 (by decide) (fun c9 => ?_) (fun c9 => ?_)
  · have h := h.1 c9
    refine r_aload_n hC dJ5_append_3fe6f_56 rfl 0 rfl ?_
    obtain ⟨v57, g57, h⟩ := h
    refine r_get hC (ci := 1) (kf := 0) (N := 4) (Cn := RJ4) (T := TJ4) rfl (by decide) tin_J4 fl_J5_15 rfl dJ5_append_3fe6f_57 g57 ?_
    refine r_aload_n hC dJ5_append_3fe6f_60 rfl 0 rfl ?_
    refine r_dup hC dJ5_append_3fe6f_61 (by first | rfl | exact cat_rf _) ?_
    obtain ⟨v62, g62, h⟩ := h
    refine r_get hC (ci := 1) (kf := 3) (N := 4) (Cn := RJ4) (T := TJ4) rfl (by decide) tin_J4 fl_J5_79 rfl dJ5_append_3fe6f_62 g62 ?_
    refine r_dup_x1 hC dJ5_append_3fe6f_65 (by first | rfl | exact cat_rf _) (by first | rfl | exact cat_rf _) ?_
    refine r_iconst (v := 1) hC dJ5_append_3fe6f_66 (by decide) ?_
    refine r_iadd hC dJ5_append_3fe6f_67 ?_
    obtain ⟨ph68, g68, h⟩ := h
    refine r_put hC (ci := 1) (kf := 3) (N := 4) (Cn := RJ4) (T := TJ4) (ty := .int) (ty0 := tyJ4) rfl (by decide) tin_J4 tyJ4_ok nmJ4 fl_J5_79 rfl rfl (by decide +kernel) rfl rfl dJ5_append_3fe6f_68 g68 ?_
    refine r_iload_n hC dJ5_append_3fe6f_71 rfl 1 rfl ?_
    exact h.elim
  · have h := h.2 c9
    refine r_aload_n hC dJ5_append_3fe6f_52 rfl 0 rfl ?_
    exact h.elim
set_option maxRecDepth 20000 in
theorem c_J5_append_3fe6f (G : GG) (x0 : Nat) (x1 : Int32) (ph : PH) (Q : Option Nat → PH → Prop) (X : String → PH → Prop) (h : w_J5_append_3fe6f x0 x1 ph Q X) : Ct G yJ5_append_3fe6f (.code yJ5_append_3fe6f cJ5_append_3fe6f 2 (some (.object "java/lang/AbstractStringBuilder"))) 1 22 0 0 [va_rf (some x0), .int x1] ph (oR Q) X := by
  refine ct_of (lv0 := [(0, va_rf (some x0)), (1, .int x1)]) (by decide +kernel) (by simp [lg_sl, cat_rf, cat_i, cat_j]) (by simp [lv_args, cat_rf, cat_i, cat_j]) ?_
  intro C A hC hAo hex hrt hnm
  have hr : HA C (ZM C G A (oR Q) X 0 0) A G 2 cJ5_append_3fe6f 0 0 Q := fun pc lv v ph k n d hk hn hq => e_a hC (cn := "java/lang/AbstractStringBuilder") (Or.inl hrt) pc lv v ph k n d hk hn ⟨v, rfl, hq⟩
  have hx := e_x (Q := oR Q) (X := X) (mc := 0) (ms := 0) hC hex
  have hn := e_n (Q := oR Q) (X := X) (mc := 0) (ms := 0) hC hex
  have hnw := e_nw (Q := oR Q) (X := X) (mc := 0) (ms := 0) hC hex
  have hnx := e_nx (Q := oR Q) (X := X) (mc := 0) (ms := 0) hC hex
  have hi : True := trivial
  generalize ZM C G A (oR Q) X 0 0 = Z at *
  refine r_aload_n hC dJ5_append_3fe6f_0 rfl 0 rfl ?_
  refine r_aload_n hC dJ5_append_3fe6f_1 rfl 0 rfl ?_
  obtain ⟨v2, g2, h⟩ := h
  refine r_get hC (ci := 1) (kf := 3) (N := 4) (Cn := RJ4) (T := TJ4) rfl (by decide) tin_J4 fl_J5_79 rfl dJ5_append_3fe6f_2 g2 ?_
  refine r_iconst (v := 1) hC dJ5_append_3fe6f_5 (by decide) ?_
  refine r_iadd hC dJ5_append_3fe6f_6 ?_
  obtain ⟨a7, o7, h⟩ := h
  refine r_VV hC hAo [.int (v2 + (1 : Int32))] cal_J5_ensureCapacityInternal_d00df ml_J5_100 (ci := 1) rfl rfl rfl (c_J5_ensureCapacityInternal_d00df G _ _ _ _ _ h) o7 ⟨by decide, by decide⟩ ⟨by decide, by decide⟩ (by simp only [List.map_nil, List.map_cons, List.sum_nil, List.sum_cons, cat_rf, cat_i, cat_j]; decide) rfl dJ5_append_3fe6f_7 (fun E u hx9 => hx _ _ _ _ _ _ _ (by decide) (by decide) hx9) (fun ph7 h => ?_)
  refine RR.wid (k' := 0) (n' := 0) (by decide) (by decide) ?_
  refine r_aload_n hC dJ5_append_3fe6f_10 rfl 0 rfl ?_
  obtain ⟨a11, o11, h⟩ := h
  refine r_VI hC hAo [] cal_J5_isLatin1_aae02 ml_J5_83 (ci := 1) rfl rfl rfl (c_J5_isLatin1_aae02 G _ _ _ _ h) o11 ⟨by decide, by decide⟩ ⟨by decide, by decide⟩ (by simp only [List.map_nil, List.map_cons, List.sum_nil, List.sum_cons, cat_rf, cat_i, cat_j]; decide) rfl dJ5_append_3fe6f_11 (fun E u hx9 => hx _ _ _ _ _ _ _ (by decide) (by decide) hx9) (fun v11 ph11 h => ?_)
  refine RR.wid (k' := 0) (n' := 0) (by decide) (by decide) ?_
  refine r_if_eq (tgt := 45) hC dJ5_append_3fe6f_14 (by decide) (fun c9 => ?_) (fun c9 => ?_)
  · have h := h.1 c9
    exact RR.wid (by decide) (by decide) (RR.sub [0, 1] rfl (b_J5_append_3fe6f_45 hC hAo hr hx hn hnw hnx hi  _ _ _ h))
  · have h := h.2 c9
    refine r_iload_n hC dJ5_append_3fe6f_17 rfl 1 rfl ?_
    refine r_SI hC hAo [.int x1] cal_J1_canEncode_fc78d ml_J5_191 rfl (c_J1_canEncode_fc78d G _ _ _ _ h) ⟨by decide, by decide⟩ ⟨by decide, by decide⟩ (by simp only [List.map_nil, List.map_cons, List.sum_nil, List.sum_cons, cat_rf, cat_i, cat_j]; decide) rfl dJ5_append_3fe6f_18 (fun E u hx9 => hx _ _ _ _ _ _ _ (by decide) (by decide) hx9) (fun v18 ph18 h => ?_)
    refine RR.wid (k' := 0) (n' := 0) (by decide) (by decide) ?_
    refine r_if_eq (tgt := 45) hC dJ5_append_3fe6f_21 (by decide) (fun c9 => ?_) (fun c9 => ?_)
    · have h := h.1 c9
      exact RR.wid (by decide) (by decide) (RR.sub [0, 1] rfl (b_J5_append_3fe6f_45 hC hAo hr hx hn hnw hnx hi  _ _ _ h))
    · have h := h.2 c9
      refine r_aload_n hC dJ5_append_3fe6f_24 rfl 0 rfl ?_
      obtain ⟨v25, g25, h⟩ := h
      refine r_get hC (ci := 1) (kf := 0) (N := 4) (Cn := RJ4) (T := TJ4) rfl (by decide) tin_J4 fl_J5_15 rfl dJ5_append_3fe6f_25 g25 ?_
      refine r_aload_n hC dJ5_append_3fe6f_28 rfl 0 rfl ?_
      refine r_dup hC dJ5_append_3fe6f_29 (by first | rfl | exact cat_rf _) ?_
      obtain ⟨v30, g30, h⟩ := h
      refine r_get hC (ci := 1) (kf := 3) (N := 4) (Cn := RJ4) (T := TJ4) rfl (by decide) tin_J4 fl_J5_79 rfl dJ5_append_3fe6f_30 g30 ?_
      refine r_dup_x1 hC dJ5_append_3fe6f_33 (by first | rfl | exact cat_rf _) (by first | rfl | exact cat_rf _) ?_
      refine r_iconst (v := 1) hC dJ5_append_3fe6f_34 (by decide) ?_
      refine r_iadd hC dJ5_append_3fe6f_35 ?_
      obtain ⟨ph36, g36, h⟩ := h
      refine r_put hC (ci := 1) (kf := 3) (N := 4) (Cn := RJ4) (T := TJ4) (ty := .int) (ty0 := tyJ4) rfl (by decide) tin_J4 tyJ4_ok nmJ4 fl_J5_79 rfl rfl (by decide +kernel) rfl rfl dJ5_append_3fe6f_36 g36 ?_
      refine r_iload_n hC dJ5_append_3fe6f_39 rfl 1 rfl ?_
      refine r_i2b hC dJ5_append_3fe6f_40 ?_
      obtain ⟨n41, h⟩ := h
      obtain ⟨ph41, g41, h⟩ := h
      refine r_bast hC n41 dJ5_append_3fe6f_41 g41 ?_
      refine r_goto (tgt := 75) hC dJ5_append_3fe6f_42 (by decide) ?_
      refine r_aload_n hC dJ5_append_3fe6f_75 rfl 0 rfl ?_
      exact hr _ _ _ _ _ _ dJ5_append_3fe6f_76 (by decide) (by decide) h
set_option maxRecDepth 20000 in
theorem c_J4_append_cf468 (G : GG) (x0 : Nat) (x1 : Int32) (ph : PH) (Q : Option Nat → PH → Prop) (X : String → PH → Prop) (h : w_J4_append_cf468 x0 x1 ph Q X) : Ct G yJ4_append_cf468 (.code yJ4_append_cf468 cJ4_append_cf468 2 (some (.object "java/lang/StringBuilder"))) 2 43 0 0 [va_rf (some x0), .int x1] ph (oR Q) X := by
  refine ct_of (lv0 := [(0, va_rf (some x0)), (1, .int x1)]) (by decide +kernel) (by simp [lg_sl, cat_rf, cat_i, cat_j]) (by simp [lv_args, cat_rf, cat_i, cat_j]) ?_
  intro C A hC hAo hex hrt hnm
  have hr : HA C (ZM C G A (oR Q) X 0 0) A G 2 cJ4_append_cf468 0 0 Q := fun pc lv v ph k n d hk hn hq => e_a hC (cn := "java/lang/StringBuilder") (Or.inl hrt) pc lv v ph k n d hk hn ⟨v, rfl, hq⟩
  have hx := e_x (Q := oR Q) (X := X) (mc := 0) (ms := 0) hC hex
  have hn := e_n (Q := oR Q) (X := X) (mc := 0) (ms := 0) hC hex
  have hnw := e_nw (Q := oR Q) (X := X) (mc := 0) (ms := 0) hC hex
  have hnx := e_nx (Q := oR Q) (X := X) (mc := 0) (ms := 0) hC hex
  have hi : True := trivial
  generalize ZM C G A (oR Q) X 0 0 = Z at *
  refine r_aload_n hC dJ4_append_cf468_0 rfl 0 rfl ?_
  refine r_iload_n hC dJ4_append_cf468_1 rfl 1 rfl ?_
  obtain ⟨a2, o2, h⟩ := h
  refine r_PR hC hAo [.int x1] cal_J5_append_3fe6f_P tb_1511 (ci := 1) rfl rfl (c_J5_append_3fe6f G _ _ _ _ _ h) o2 ⟨by decide, by decide⟩ ⟨by decide, by decide⟩ (by simp only [List.map_nil, List.map_cons, List.sum_nil, List.sum_cons, cat_rf, cat_i, cat_j]; decide) rfl dJ4_append_cf468_2 (fun E u hx9 => hx _ _ _ _ _ _ _ (by decide) (by decide) hx9) (fun v2 ph2 h => ?_)
  refine RR.wid (k' := 0) (n' := 0) (by decide) (by decide) ?_
  refine r_pop hC dJ4_append_cf468_5 (by first | rfl | exact cat_rf _) ?_
  refine r_aload_n hC dJ4_append_cf468_6 rfl 0 rfl ?_
  exact hr _ _ _ _ _ _ dJ4_append_cf468_7 (by decide) (by decide) h
set_option maxRecDepth 20000 in
theorem c_J5_getValue_6d5f1 (G : GG) (x0 : Nat) (ph : PH) (Q : Option Nat → PH → Prop) (X : String → PH → Prop) (h : w_J5_getValue_6d5f1 x0 ph Q X) : Ct G yJ5_getValue_6d5f1 (.code yJ5_getValue_6d5f1 cJ5_getValue_6d5f1 1 (some (.array .byte))) 0 0 0 0 [va_rf (some x0)] ph (oR Q) X := by
  refine ct_of (lv0 := [(0, va_rf (some x0))]) (by decide +kernel) (by simp [lg_sl, cat_rf, cat_i, cat_j]) (by simp [lv_args, cat_rf, cat_i, cat_j]) ?_
  intro C A hC hAo hex hrt hnm
  have hr : HA C (ZM C G A (oR Q) X 0 0) A G 1 cJ5_getValue_6d5f1 0 0 Q := fun pc lv v ph k n d hk hn hq => e_a hC (cn := "") (Or.inr ⟨_, hrt⟩) pc lv v ph k n d hk hn ⟨v, rfl, hq⟩
  have hx := e_x (Q := oR Q) (X := X) (mc := 0) (ms := 0) hC hex
  have hn := e_n (Q := oR Q) (X := X) (mc := 0) (ms := 0) hC hex
  have hnw := e_nw (Q := oR Q) (X := X) (mc := 0) (ms := 0) hC hex
  have hnx := e_nx (Q := oR Q) (X := X) (mc := 0) (ms := 0) hC hex
  have hi : True := trivial
  generalize ZM C G A (oR Q) X 0 0 = Z at *
  refine r_aload_n hC dJ5_getValue_6d5f1_0 rfl 0 rfl ?_
  obtain ⟨v1, g1, h⟩ := h
  refine r_get hC (ci := 1) (kf := 0) (N := 4) (Cn := RJ4) (T := TJ4) rfl (by decide) tin_J4 fl_J5_15 rfl dJ5_getValue_6d5f1_1 g1 ?_
  exact hr _ _ _ _ _ _ dJ5_getValue_6d5f1_4 (by decide) (by decide) h
set_option maxRecDepth 20000 in
theorem c_J5_length_8abf5 (G : GG) (x0 : Nat) (ph : PH) (Q : Int32 → PH → Prop) (X : String → PH → Prop) (h : w_J5_length_8abf5 x0 ph Q X) : Ct G yJ5_length_8abf5 (.code yJ5_length_8abf5 cJ5_length_8abf5 1 (some (.int))) 0 0 0 0 [va_rf (some x0)] ph (oI Q) X := by
  refine ct_of (lv0 := [(0, va_rf (some x0))]) (by decide +kernel) (by simp [lg_sl, cat_rf, cat_i, cat_j]) (by simp [lv_args, cat_rf, cat_i, cat_j]) ?_
  intro C A hC hAo hex hrt hnm
  have hr : HI C (ZM C G A (oI Q) X 0 0) A G 1 cJ5_length_8abf5 0 0 Q := fun pc lv v ph k n d hk hn hq => e_i hC hrt pc lv v ph k n d hk hn ⟨v, rfl, hq⟩
  have hx := e_x (Q := oI Q) (X := X) (mc := 0) (ms := 0) hC hex
  have hn := e_n (Q := oI Q) (X := X) (mc := 0) (ms := 0) hC hex
  have hnw := e_nw (Q := oI Q) (X := X) (mc := 0) (ms := 0) hC hex
  have hnx := e_nx (Q := oI Q) (X := X) (mc := 0) (ms := 0) hC hex
  have hi : True := trivial
  generalize ZM C G A (oI Q) X 0 0 = Z at *
  refine r_aload_n hC dJ5_length_8abf5_0 rfl 0 rfl ?_
  obtain ⟨v1, g1, h⟩ := h
  refine r_get hC (ci := 1) (kf := 3) (N := 4) (Cn := RJ4) (T := TJ4) rfl (by decide) tin_J4 fl_J5_79 rfl dJ5_length_8abf5_1 g1 ?_
  exact hr _ _ _ _ _ _ dJ5_length_8abf5_4 (by decide) (by decide) h
set_option maxRecDepth 20000 in
theorem c_J4_length_8abf5 (G : GG) (x0 : Nat) (ph : PH) (Q : Int32 → PH → Prop) (X : String → PH → Prop) (h : w_J4_length_8abf5 x0 ph Q X) : Ct G yJ4_length_8abf5 (.code yJ4_length_8abf5 cJ4_length_8abf5 1 (some (.int))) 1 20 0 0 [va_rf (some x0)] ph (oI Q) X := by
  refine ct_of (lv0 := [(0, va_rf (some x0))]) (by decide +kernel) (by simp [lg_sl, cat_rf, cat_i, cat_j]) (by simp [lv_args, cat_rf, cat_i, cat_j]) ?_
  intro C A hC hAo hex hrt hnm
  have hr : HI C (ZM C G A (oI Q) X 0 0) A G 1 cJ4_length_8abf5 0 0 Q := fun pc lv v ph k n d hk hn hq => e_i hC hrt pc lv v ph k n d hk hn ⟨v, rfl, hq⟩
  have hx := e_x (Q := oI Q) (X := X) (mc := 0) (ms := 0) hC hex
  have hn := e_n (Q := oI Q) (X := X) (mc := 0) (ms := 0) hC hex
  have hnw := e_nw (Q := oI Q) (X := X) (mc := 0) (ms := 0) hC hex
  have hnx := e_nx (Q := oI Q) (X := X) (mc := 0) (ms := 0) hC hex
  have hi : True := trivial
  generalize ZM C G A (oI Q) X 0 0 = Z at *
  refine r_aload_n hC dJ4_length_8abf5_0 rfl 0 rfl ?_
  obtain ⟨a1, o1, h⟩ := h
  refine r_PI hC hAo [] cal_J5_length_8abf5_P tb_1543 (ci := 1) rfl rfl (c_J5_length_8abf5 G _ _ _ _ h) o1 ⟨by decide, by decide⟩ ⟨by decide, by decide⟩ (by simp only [List.map_nil, List.map_cons, List.sum_nil, List.sum_cons, cat_rf, cat_i, cat_j]; decide) rfl dJ4_length_8abf5_1 (fun E u hx9 => hx _ _ _ _ _ _ _ (by decide) (by decide) hx9) (fun v1 ph1 h => ?_)
  refine RR.wid (k' := 0) (n' := 0) (by decide) (by decide) ?_
  exact hr _ _ _ _ _ _ dJ4_length_8abf5_4 (by decide) (by decide) h
set_option maxRecDepth 20000 in
theorem c_J7_checkLength_df160 (G : GG) (x0 : Int32) (x1 : Int32) (ph : PH) (Q : PH → Prop) (X : String → PH → Prop) (h : w_J7_checkLength_df160 x0 x1 ph Q X) : Ct G yJ7_checkLength_df160 (.code yJ7_checkLength_df160 cJ7_checkLength_df160 2 none) 0 0 0 0 [.int x0, .int x1] ph (oV Q) X := by
  refine ct_of (lv0 := [(0, .int x0), (1, .int x1)]) (by decide +kernel) (by simp [lg_sl, cat_rf, cat_i, cat_j]) (by simp [lv_args, cat_rf, cat_i, cat_j]) ?_
  intro C A hC hAo hex hrt hnm
  have hr : HV C (ZM C G A (oV Q) X 0 0) A G 2 cJ7_checkLength_df160 0 0 Q := fun pc lv ph k n d hk hn hq => e_v hC hrt pc lv ph k n d hk hn ⟨rfl, hq⟩
  have hx := e_x (Q := oV Q) (X := X) (mc := 0) (ms := 0) hC hex
  have hn := e_n (Q := oV Q) (X := X) (mc := 0) (ms := 0) hC hex
  have hnw := e_nw (Q := oV Q) (X := X) (mc := 0) (ms := 0) hC hex
  have hnx := e_nx (Q := oV Q) (X := X) (mc := 0) (ms := 0) hC hex
  have hi : True := trivial
  generalize ZM C G A (oV Q) X 0 0 = Z at *
  refine r_iload_n hC dJ7_checkLength_df160_0 rfl 1 rfl ?_
  refine r_iload_n hC dJ7_checkLength_df160_1 rfl 0 rfl ?_
  refine r_icmp_ge (tgt := 37) hC dJ7_checkLength_df160_2 (by decide) (fun c9 => ?_) (fun c9 => ?_)
  · have h := h.1 c9
    exact hr _ _ _ _ _ dJ7_checkLength_df160_37 (by decide) (by decide) h
  · have h := h.2 c9
    exact h.elim
set_option maxRecDepth 20000 in
theorem c_J7_copyOfRangeByte_39247 (G : GG) (x0 : Option Nat) (x1 : Int32) (x2 : Int32) (ph : PH) (Q : Option Nat → PH → Prop) (X : String → PH → Prop) (h : w_J7_copyOfRangeByte_39247 x0 x1 x2 ph Q X) : Ct G yJ7_copyOfRangeByte_39247 (.code yJ7_copyOfRangeByte_39247 cJ7_copyOfRangeByte_39247 5 (some (.array .byte))) 1 40 1 16 [va_rf x0, .int x1, .int x2] ph (oR Q) X := by
  refine ct_of (lv0 := [(0, va_rf x0), (1, .int x1), (2, .int x2)]) (by decide +kernel) (by simp [lg_sl, cat_rf, cat_i, cat_j]) (by simp [lv_args, cat_rf, cat_i, cat_j]) ?_
  intro C A hC hAo hex hrt hnm
  have hr : HA C (ZM C G A (oR Q) X 1 16) A G 5 cJ7_copyOfRangeByte_39247 1 16 Q := fun pc lv v ph k n d hk hn hq => e_a hC (cn := "") (Or.inr ⟨_, hrt⟩) pc lv v ph k n d hk hn ⟨v, rfl, hq⟩
  have hx := e_x (Q := oR Q) (X := X) (mc := 1) (ms := 16) hC hex
  have hn := e_n (Q := oR Q) (X := X) (mc := 1) (ms := 16) hC hex
  have hnw := e_nw (Q := oR Q) (X := X) (mc := 1) (ms := 16) hC hex
  have hnx := e_nx (Q := oR Q) (X := X) (mc := 1) (ms := 16) hC hex
  have hi : True := trivial
  generalize ZM C G A (oR Q) X 1 16 = Z at *
  refine r_iload_n hC dJ7_copyOfRangeByte_39247_0 rfl 1 rfl ?_
  refine r_iload_n hC dJ7_copyOfRangeByte_39247_1 rfl 2 rfl ?_
  refine r_SV hC hAo [.int x1, .int x2] cal_J7_checkLength_df160 ml_J7_343 rfl (c_J7_checkLength_df160 G _ _ _ _ _ h) ⟨by decide, by decide⟩ ⟨by decide, by decide⟩ (by simp only [List.map_nil, List.map_cons, List.sum_nil, List.sum_cons, cat_rf, cat_i, cat_j]; decide) rfl dJ7_copyOfRangeByte_39247_2 (fun E u hx9 => hx _ _ _ _ _ _ _ (by decide) (by decide) hx9) (fun ph2 h => ?_)
  refine RR.wid (k' := 0) (n' := 0) (by decide) (by decide) ?_
  refine r_iload_n hC dJ7_copyOfRangeByte_39247_5 rfl 2 rfl ?_
  refine r_iload_n hC dJ7_copyOfRangeByte_39247_6 rfl 1 rfl ?_
  refine r_isub hC dJ7_copyOfRangeByte_39247_7 ?_
  obtain ⟨v8, ev8⟩ : ∃ z : Int32, z = x2 - x1 := ⟨_, rfl⟩
  have h := h v8 ev8
  refine RR.to (st' := [.int v8]) (by rw [ev8]) ?_
  refine r_istore_n (i := 3) (lv' := [(3, .int v8), (0, va_rf x0), (1, .int x1), (2, .int x2)]) hC dJ7_copyOfRangeByte_39247_8 rfl (by decide) (by first | rfl | simp [lvs1, lvs2, List.filter, cat_rf, cat_i, cat_j]) ?_
  refine r_iload_n hC dJ7_copyOfRangeByte_39247_9 rfl 0 rfl ?_
  obtain ⟨p10, q10, h⟩ := h
  refine r_newa hC (ty := .byte) (N := v8.toNatClampNeg) (y := .inl (fun _ => 0)) 201 (by decide) rfl (fun _ q => by cases q) (fun _ => rfl) tb_461 p10 rfl (by have := q10; show _ * 1 ≤ _; omega) (by decide) (by have := q10; simp only [rmk]; omega) dJ7_copyOfRangeByte_39247_10 (fun a10 f10 => ?_)
  refine RR.wid (k' := 1) (n' := 16) (by omega) (by omega) ?_
  have h := h a10 _ f10 rfl
  refine r_astore (i := 4) (lv' := [(4, va_rf (some a10)), (3, .int v8), (0, va_rf x0), (1, .int x1), (2, .int x2)]) hC dJ7_copyOfRangeByte_39247_12 (by decide) (by first | rfl | simp [lvs1, lvs2, List.filter, cat_rf, cat_i, cat_j]) ?_
  refine r_aload_n hC dJ7_copyOfRangeByte_39247_14 rfl 2 rfl ?_
  refine r_iload_n hC dJ7_copyOfRangeByte_39247_15 rfl 3 rfl ?_
  refine r_aload hC dJ7_copyOfRangeByte_39247_16 0 rfl ?_
  refine r_iconst (v := 0) hC dJ7_copyOfRangeByte_39247_18 (by decide) ?_
  refine r_aload_n hC dJ7_copyOfRangeByte_39247_19 rfl 2 rfl ?_
  obtain ⟨v20, g20, h⟩ := h
  refine r_alen hC dJ7_copyOfRangeByte_39247_20 g20 ?_
  refine r_iload_n hC dJ7_copyOfRangeByte_39247_21 rfl 3 rfl ?_
  refine r_isub hC dJ7_copyOfRangeByte_39247_22 ?_
  refine r_iload_n hC dJ7_copyOfRangeByte_39247_23 rfl 1 rfl ?_
  refine r_min hC tb_1446 tb_1447 tb_114 tb_1448 (by decide) (by simp only [List.map_nil, List.map_cons, List.sum_nil, List.sum_cons, cat_rf, cat_i, cat_j]; decide) (by decide) (by decide) dJ7_copyOfRangeByte_39247_24 ?_
  obtain ⟨ph27, g27, h⟩ := h
  refine r_copyB hC tb_1449 tb_1451 tb_1450 tb_116 (by decide) (by simp only [List.map_nil, List.map_cons, List.sum_nil, List.sum_cons, cat_rf, cat_i, cat_j]; decide) dJ7_copyOfRangeByte_39247_27 g27 ?_
  refine r_aload hC dJ7_copyOfRangeByte_39247_30 0 rfl ?_
  exact hr _ _ _ _ _ _ dJ7_copyOfRangeByte_39247_32 (by decide) (by decide) h
set_option maxRecDepth 20000 in
theorem b_J7_copyOfRange_39247_10 {C : Cx} {Z : State → Prop} {A : Nat → Prop} {G : GG} {Q : Option Nat → PH → Prop} {X : String → PH → Prop} (hC : CxOk RJ7 cJ7_copyOfRange_39247 3 G A (rmk 2 64 1 16) C) (hAo : Ao (xs C)) (hr : HA C Z A G 3 cJ7_copyOfRange_39247 1 16 Q) (hx : HX C Z A G 3 1 16 X) (hn : HN C Z A G 3 RJ7 cJ7_copyOfRange_39247 1 16 (rmk 2 64 1 16) X) (hnw : HNW C Z A G 3 RJ7 cJ7_copyOfRange_39247 1 16 (rmk 2 64 1 16) X) (hnx : HNX C Z A G 3 RJ7 cJ7_copyOfRange_39247 1 16 (rmk 2 64 1 16) X) (hi : True) : ∀ (x0 : Option Nat) (x1 : Int32) (x2 : Int32) (ph : PH), w_J7_copyOfRange_39247_10 Q X x0 x1 x2 ph → RR C Z A G 3 10 [(0, va_rf x0), (1, .int x1), (2, .int x2)] [] ph 0 0 := by
  intro x0 x1 x2 ph h
  refine r_aload_n hC dJ7_copyOfRange_39247_10 rfl 0 rfl ?_
  refine r_iload_n hC dJ7_copyOfRange_39247_11 rfl 1 rfl ?_
  refine r_iload_n hC dJ7_copyOfRange_39247_12 rfl 2 rfl ?_
  refine r_SR hC hAo [va_rf x0, .int x1, .int x2] cal_J7_copyOfRangeByte_39247 ml_J7_339 rfl (c_J7_copyOfRangeByte_39247 G _ _ _ _ _ _ h) ⟨by decide, by decide⟩ ⟨by decide, by decide⟩ (by simp only [List.map_nil, List.map_cons, List.sum_nil, List.sum_cons, cat_rf, cat_i, cat_j]; decide) rfl dJ7_copyOfRange_39247_13 (fun E u hx9 => hx _ _ _ _ _ _ _ (by decide) (by decide) hx9) (fun v13 ph13 h => ?_)
  refine RR.wid (k' := 1) (n' := 16) (by decide) (by decide) ?_
  exact hr _ _ _ _ _ _ dJ7_copyOfRange_39247_16 (by decide) (by decide) h
set_option maxRecDepth 20000 in
theorem c_J7_copyOfRange_39247 (G : GG) (x0 : Option Nat) (x1 : Int32) (x2 : Int32) (ph : PH) (Q : Option Nat → PH → Prop) (X : String → PH → Prop) (h : w_J7_copyOfRange_39247 x0 x1 x2 ph Q X) : Ct G yJ7_copyOfRange_39247 (.code yJ7_copyOfRange_39247 cJ7_copyOfRange_39247 3 (some (.array .byte))) 2 64 1 16 [va_rf x0, .int x1, .int x2] ph (oR Q) X := by
  refine ct_of (lv0 := [(0, va_rf x0), (1, .int x1), (2, .int x2)]) (by decide +kernel) (by simp [lg_sl, cat_rf, cat_i, cat_j]) (by simp [lv_args, cat_rf, cat_i, cat_j]) ?_
  intro C A hC hAo hex hrt hnm
  have hr : HA C (ZM C G A (oR Q) X 1 16) A G 3 cJ7_copyOfRange_39247 1 16 Q := fun pc lv v ph k n d hk hn hq => e_a hC (cn := "") (Or.inr ⟨_, hrt⟩) pc lv v ph k n d hk hn ⟨v, rfl, hq⟩
  have hx := e_x (Q := oR Q) (X := X) (mc := 1) (ms := 16) hC hex
  have hn := e_n (Q := oR Q) (X := X) (mc := 1) (ms := 16) hC hex
  have hnw := e_nw (Q := oR Q) (X := X) (mc := 1) (ms := 16) hC hex
  have hnx := e_nx (Q := oR Q) (X := X) (mc := 1) (ms := 16) hC hex
  have hi : True := trivial
  generalize ZM C G A (oR Q) X 1 16 = Z at *
  refine r_iload_n hC dJ7_copyOfRange_39247_0 rfl 1 rfl ?_
  refine r_if_ne (tgt := 10) hC dJ7_copyOfRange_39247_1 (by decide) (fun c9 => ?_) (fun c9 => ?_)
  · have h := h.1 c9
    exact RR.wid (by decide) (by decide) (RR.sub [0, 1, 2] rfl (b_J7_copyOfRange_39247_10 hC hAo hr hx hn hnw hnx hi  _ _ _ _ h))
  · have h := h.2 c9
    refine r_iload_n hC dJ7_copyOfRange_39247_4 rfl 2 rfl ?_
    refine r_aload_n hC dJ7_copyOfRange_39247_5 rfl 0 rfl ?_
    obtain ⟨v6, g6, h⟩ := h
    refine r_alen hC dJ7_copyOfRange_39247_6 g6 ?_
    refine r_icmp_eq (tgt := 17) hC dJ7_copyOfRange_39247_7 (by decide) (fun c9 => ?_) (fun c9 => ?_)
    · have h := h.1 c9
      refine r_aload_n hC dJ7_copyOfRange_39247_17 rfl 0 rfl ?_
      exact h.elim
    · have h := h.2 c9
      exact RR.wid (by decide) (by decide) (RR.sub [0, 1, 2] rfl (b_J7_copyOfRange_39247_10 hC hAo hr hx hn hnw hnx hi  _ _ _ _ h))
set_option maxRecDepth 20000 in
theorem b_J0_init_db425_79 {C : Cx} {Z : State → Prop} {A : Nat → Prop} {G : GG} {Q : PH → Prop} {X : String → PH → Prop} (hC : CxOk RJ0 cJ0_init_db425 5 G A (rmk 3 86 1 16) C) (hAo : Ao (xs C)) (hr : HV C Z A G 5 cJ0_init_db425 1 16 Q) (hx : HX C Z A G 5 1 16 X) (hn : HN C Z A G 5 RJ0 cJ0_init_db425 1 16 (rmk 3 86 1 16) X) (hnw : HNW C Z A G 5 RJ0 cJ0_init_db425 1 16 (rmk 3 86 1 16) X) (hnx : HNX C Z A G 5 RJ0 cJ0_init_db425 1 16 (rmk 3 86 1 16) X) (hi : (xt C).name = "<init>") : ∀ (x0 : Option Nat) (x3 : Option Nat) (x4 : Int32) (ph : PH), w_J0_init_db425_79 Q X x0 x3 x4 ph → RR C Z A G 5 79 [(0, va_rf x0), (3, va_rf x3), (4, .int x4)] [] ph 0 0 := by
  intro x0 x3 x4 ph h
  refine r_aload_n hC dJ0_init_db425_79 rfl 0 rfl ?_
  refine r_iconst (v := 1) hC dJ0_init_db425_80 (by decide) ?_
  obtain ⟨n81, h⟩ := h
  obtain ⟨ph81, g81, h⟩ := h
  refine r_putF hC hi (ci := 0) (kf := 1) (N := 4) (Cn := RJ0) (T := TJ0) (ty := .byte) (ty0 := tyJ0) rfl (by decide) tin_J0 tyJ0_ok nmJ0 tb_1598 rfl rfl rfl (by decide +kernel) n81.1 n81.2 dJ0_init_db425_81 g81 ?_
  refine r_aload_n hC dJ0_init_db425_84 rfl 0 rfl ?_
  refine r_aload_n hC dJ0_init_db425_85 rfl 1 rfl ?_
  refine r_iconst (v := 0) hC dJ0_init_db425_86 (by decide) ?_
  refine r_iload hC dJ0_init_db425_87 2 rfl ?_
  refine r_iconst (v := 1) hC dJ0_init_db425_89 (by decide) ?_
  refine r_ishl hC dJ0_init_db425_90 ?_
  refine r_SR hC hAo [va_rf x3, .int (0 : Int32), .int (x4 <<< ((1 : Int32) &&& 31))] cal_J7_copyOfRange_39247 ml_J0_54 rfl (c_J7_copyOfRange_39247 G _ _ _ _ _ _ h) ⟨by decide, by decide⟩ ⟨by decide, by decide⟩ (by simp only [List.map_nil, List.map_cons, List.sum_nil, List.sum_cons, cat_rf, cat_i, cat_j]; decide) rfl dJ0_init_db425_91 (fun E u hx9 => hx _ _ _ _ _ _ _ (by decide) (by decide) hx9) (fun v91 ph91 h => ?_)
  refine RR.wid (k' := 1) (n' := 16) (by decide) (by decide) ?_
  obtain ⟨ph94, g94, h⟩ := h
  refine r_putF hC hi (ci := 0) (kf := 0) (N := 4) (Cn := RJ0) (T := TJ0) (ty := .array .byte) (ty0 := tyJ0) rfl (by decide) tin_J0 tyJ0_ok nmJ0 tb_1597 rfl rfl rfl (by decide +kernel) (nar_ra _ _) (fit_ra _ _) dJ0_init_db425_94 g94 ?_
  exact hr _ _ _ _ _ dJ0_init_db425_97 (by decide) (by decide) h
set_option maxRecDepth 20000 in
theorem c_J0_init_db425 (G : GG) (x0 : Nat) (x1 : Option Nat) (x2 : Option Nat) (ph : PH) (Q : PH → Prop) (X : String → PH → Prop) (h : w_J0_init_db425 x0 x1 x2 ph Q X) : Ct G yJ0_init_db425 (.code yJ0_init_db425 cJ0_init_db425 5 none) 3 86 1 16 [va_rf (some x0), va_rf x1, va_rf x2] ph (oV Q) X := by
  refine ct_of (lv0 := [(0, va_rf (some x0)), (1, va_rf x1), (2, va_rf x2)]) (by decide +kernel) (by simp [lg_sl, cat_rf, cat_i, cat_j]) (by simp [lv_args, cat_rf, cat_i, cat_j]) ?_
  intro C A hC hAo hex hrt hnm
  have hr : HV C (ZM C G A (oV Q) X 1 16) A G 5 cJ0_init_db425 1 16 Q := fun pc lv ph k n d hk hn hq => e_v hC hrt pc lv ph k n d hk hn ⟨rfl, hq⟩
  have hx := e_x (Q := oV Q) (X := X) (mc := 1) (ms := 16) hC hex
  have hn := e_n (Q := oV Q) (X := X) (mc := 1) (ms := 16) hC hex
  have hnw := e_nw (Q := oV Q) (X := X) (mc := 1) (ms := 16) hC hex
  have hnx := e_nx (Q := oV Q) (X := X) (mc := 1) (ms := 16) hC hex
  have hi : (xt C).name = "<init>" := hnm
  generalize ZM C G A (oV Q) X 1 16 = Z at *
  refine r_aload_n hC dJ0_init_db425_0 rfl 0 rfl ?_
  obtain ⟨a1, o1, h⟩ := h
  refine r_objInit hC o1 tb_1531 tb_141 tb_142 (by decide) (by simp only [List.map_nil, List.map_cons, List.sum_nil, List.sum_cons, cat_rf, cat_i, cat_j]; decide) dJ0_init_db425_1 ?_
  refine r_aload_n hC dJ0_init_db425_4 rfl 1 rfl ?_
  obtain ⟨a5, o5, h⟩ := h
  refine r_VR hC hAo [] cal_J5_getValue_6d5f1 ml_J0_552 (ci := 1) rfl rfl rfl (c_J5_getValue_6d5f1 G _ _ _ _ h) o5 ⟨by decide, by decide⟩ ⟨by decide, by decide⟩ (by simp only [List.map_nil, List.map_cons, List.sum_nil, List.sum_cons, cat_rf, cat_i, cat_j]; decide) rfl dJ0_init_db425_5 (fun E u hx9 => hx _ _ _ _ _ _ _ (by decide) (by decide) hx9) (fun v5 ph5 h => ?_)
  refine RR.wid (k' := 0) (n' := 0) (by decide) (by decide) ?_
  refine r_astore_n (i := 3) (lv' := [(3, va_rf v5), (0, va_rf (some x0)), (1, va_rf x1), (2, va_rf x2)]) hC dJ0_init_db425_8 rfl (by decide) (by first | rfl | simp [lvs1, lvs2, List.filter, cat_rf, cat_i, cat_j]) ?_
  refine r_aload_n hC dJ0_init_db425_9 rfl 2 rfl ?_
  obtain ⟨a10, o10, h⟩ := h
  refine r_UI hC hAo [] cal_J4_length_8abf5_U tb_1537 (ci := 1) rfl rfl rfl (c_J4_length_8abf5 G _ _ _ _ h) o10 ⟨by decide, by decide⟩ ⟨by decide, by decide⟩ (by simp only [List.map_nil, List.map_cons, List.sum_nil, List.sum_cons, cat_rf, cat_i, cat_j]; decide) rfl dJ0_init_db425_10 (fun E u hx9 => hx _ _ _ _ _ _ _ (by decide) (by decide) hx9) (fun v10 ph10 h => ?_)
  refine RR.wid (k' := 0) (n' := 0) (by decide) (by decide) ?_
  refine r_istore (i := 4) (lv' := [(4, .int v10), (3, va_rf v5), (0, va_rf (some x0)), (1, va_rf x1), (2, va_rf x2)]) hC dJ0_init_db425_13 (by decide) (by first | rfl | simp [lvs1, lvs2, List.filter, cat_rf, cat_i, cat_j]) ?_
  refine r_aload_n hC dJ0_init_db425_15 rfl 3 rfl ?_
  obtain ⟨a16, o16, h⟩ := h
  refine r_VI hC hAo [] cal_J5_isLatin1_aae02 ml_J0_1047 (ci := 1) rfl rfl rfl (c_J5_isLatin1_aae02 G _ _ _ _ h) o16 ⟨by decide, by decide⟩ ⟨by decide, by decide⟩ (by simp only [List.map_nil, List.map_cons, List.sum_nil, List.sum_cons, cat_rf, cat_i, cat_j]; decide) rfl dJ0_init_db425_16 (fun E u hx9 => hx _ _ _ _ _ _ _ (by decide) (by decide) hx9) (fun v16 ph16 h => ?_)
  refine RR.wid (k' := 0) (n' := 0) (by decide) (by decide) ?_
  refine r_if_eq (tgt := 41) hC dJ0_init_db425_19 (by decide) (fun c9 => ?_) (fun c9 => ?_)
  · have h := h.1 c9
    refine r_gets hC tb_1322 rfl dJ0_init_db425_41 ?_
    refine r_if_eq (tgt := 79) hC dJ0_init_db425_44 (by decide) (fun c9 => ?_) (fun c9 => ?_)
    · have h := h.1 c9
      exact RR.wid (by decide) (by decide) (RR.sub [2, 1, 0] rfl (b_J0_init_db425_79 hC hAo hr hx hn hnw hnx hi  _ _ _ _ h))
    · have h := h.2 c9
      refine r_aload_n hC dJ0_init_db425_47 rfl 3 rfl ?_
      obtain ⟨v48, g48, h⟩ := h
      refine r_get hC (ci := 1) (kf := 2) (N := 4) (Cn := RJ4) (T := TJ4) rfl (by decide) tin_J4 fl_J0_1048 rfl dJ0_init_db425_48 g48 ?_
      refine r_if_eq (tgt := 79) hC dJ0_init_db425_51 (by decide) (fun c9 => ?_) (fun c9 => ?_)
      · have h := h.1 c9
        exact RR.wid (by decide) (by decide) (RR.sub [2, 1, 0] rfl (b_J0_init_db425_79 hC hAo hr hx hn hnw hnx hi  _ _ _ _ h))
      · have h := h.2 c9
        refine r_aload_n hC dJ0_init_db425_54 rfl 2 rfl ?_
        refine r_aload_n hC dJ0_init_db425_55 rfl 1 rfl ?_
        refine r_iconst (v := 0) hC dJ0_init_db425_56 (by decide) ?_
        refine r_iload hC dJ0_init_db425_57 0 rfl ?_
        exact h.elim
  · have h := h.2 c9
    refine r_aload_n hC dJ0_init_db425_22 rfl 2 rfl ?_
    refine r_iconst (v := 0) hC dJ0_init_db425_23 (by decide) ?_
    obtain ⟨n24, h⟩ := h
    obtain ⟨ph24, g24, h⟩ := h
    refine r_putF hC hi (ci := 0) (kf := 1) (N := 4) (Cn := RJ0) (T := TJ0) (ty := .byte) (ty0 := tyJ0) rfl (by decide) tin_J0 tyJ0_ok nmJ0 tb_1598 rfl rfl rfl (by decide +kernel) n24.1 n24.2 dJ0_init_db425_24 g24 ?_
    refine r_aload_n hC dJ0_init_db425_27 rfl 2 rfl ?_
    refine r_aload_n hC dJ0_init_db425_28 rfl 1 rfl ?_
    refine r_iconst (v := 0) hC dJ0_init_db425_29 (by decide) ?_
    refine r_iload hC dJ0_init_db425_30 0 rfl ?_
    refine r_SR hC hAo [va_rf v5, .int (0 : Int32), .int v10] cal_J7_copyOfRange_39247 ml_J0_54 rfl (c_J7_copyOfRange_39247 G _ _ _ _ _ _ h) ⟨by decide, by decide⟩ ⟨by decide, by decide⟩ (by simp only [List.map_nil, List.map_cons, List.sum_nil, List.sum_cons, cat_rf, cat_i, cat_j]; decide) rfl dJ0_init_db425_32 (fun E u hx9 => hx _ _ _ _ _ _ _ (by decide) (by decide) hx9) (fun v32 ph32 h => ?_)
    refine RR.wid (k' := 1) (n' := 16) (by decide) (by decide) ?_
    obtain ⟨ph35, g35, h⟩ := h
    refine r_putF hC hi (ci := 0) (kf := 0) (N := 4) (Cn := RJ0) (T := TJ0) (ty := .array .byte) (ty0 := tyJ0) rfl (by decide) tin_J0 tyJ0_ok nmJ0 tb_1597 rfl rfl rfl (by decide +kernel) (nar_ra _ _) (fit_ra _ _) dJ0_init_db425_35 g35 ?_
    refine r_goto (tgt := 97) hC dJ0_init_db425_38 (by decide) ?_
    exact hr _ _ _ _ _ dJ0_init_db425_97 (by decide) (by decide) h
set_option maxRecDepth 20000 in
theorem c_J0_init_81219 (G : GG) (x0 : Nat) (x1 : Option Nat) (ph : PH) (Q : PH → Prop) (X : String → PH → Prop) (h : w_J0_init_81219 x0 x1 ph Q X) : Ct G yJ0_init_81219 (.code yJ0_init_81219 cJ0_init_81219 2 none) 4 110 1 16 [va_rf (some x0), va_rf x1] ph (oV Q) X := by
  refine ct_of (lv0 := [(0, va_rf (some x0)), (1, va_rf x1)]) (by decide +kernel) (by simp [lg_sl, cat_rf, cat_i, cat_j]) (by simp [lv_args, cat_rf, cat_i, cat_j]) ?_
  intro C A hC hAo hex hrt hnm
  have hr : HV C (ZM C G A (oV Q) X 1 16) A G 2 cJ0_init_81219 1 16 Q := fun pc lv ph k n d hk hn hq => e_v hC hrt pc lv ph k n d hk hn ⟨rfl, hq⟩
  have hx := e_x (Q := oV Q) (X := X) (mc := 1) (ms := 16) hC hex
  have hn := e_n (Q := oV Q) (X := X) (mc := 1) (ms := 16) hC hex
  have hnw := e_nw (Q := oV Q) (X := X) (mc := 1) (ms := 16) hC hex
  have hnx := e_nx (Q := oV Q) (X := X) (mc := 1) (ms := 16) hC hex
  have hi : (xt C).name = "<init>" := hnm
  generalize ZM C G A (oV Q) X 1 16 = Z at *
  refine r_aload_n hC dJ0_init_81219_0 rfl 0 rfl ?_
  refine r_aload_n hC dJ0_init_81219_1 rfl 1 rfl ?_
  refine r_null hC dJ0_init_81219_2 ?_
  refine RR.to (st' := [va_rf none, va_rf x1, va_rf (some x0)]) rfl ?_
  obtain ⟨a3, o3, h⟩ := h
  refine r_IV hC hAo [va_rf x1, va_rf none] cal_J0_init_db425 ml_J0_489 rfl o3 (c_J0_init_db425 G _ _ _ _ _ _ h) ⟨by decide, by decide⟩ ⟨by decide, by decide⟩ (by simp only [List.map_nil, List.map_cons, List.sum_nil, List.sum_cons, cat_rf, cat_i, cat_j]; decide) rfl dJ0_init_81219_3 (fun E u hx9 => hx _ _ _ _ _ _ _ (by decide) (by decide) hx9) (fun ph3 h => ?_)
  refine RR.wid (k' := 1) (n' := 16) (by decide) (by decide) ?_
  exact hr _ _ _ _ _ dJ0_init_81219_6 (by decide) (by decide) h
set_option maxRecDepth 20000 in
theorem c_J4_toString_0e30d (G : GG) (x0 : Nat) (ph : PH) (Q : Option Nat → PH → Prop) (X : String → PH → Prop) (h : w_J4_toString_0e30d x0 ph Q X) : Ct G yJ4_toString_0e30d (.code yJ4_toString_0e30d cJ4_toString_0e30d 1 (some (.object "java/lang/String"))) 5 131 2 20 [va_rf (some x0)] ph (oR Q) X := by
  refine ct_of (lv0 := [(0, va_rf (some x0))]) (by decide +kernel) (by simp [lg_sl, cat_rf, cat_i, cat_j]) (by simp [lv_args, cat_rf, cat_i, cat_j]) ?_
  intro C A hC hAo hex hrt hnm
  have hr : HA C (ZM C G A (oR Q) X 2 20) A G 1 cJ4_toString_0e30d 2 20 Q := fun pc lv v ph k n d hk hn hq => e_a hC (cn := "java/lang/String") (Or.inl hrt) pc lv v ph k n d hk hn ⟨v, rfl, hq⟩
  have hx := e_x (Q := oR Q) (X := X) (mc := 2) (ms := 20) hC hex
  have hn := e_n (Q := oR Q) (X := X) (mc := 2) (ms := 20) hC hex
  have hnw := e_nw (Q := oR Q) (X := X) (mc := 2) (ms := 20) hC hex
  have hnx := e_nx (Q := oR Q) (X := X) (mc := 2) (ms := 20) hC hex
  have hi : True := trivial
  generalize ZM C G A (oR Q) X 2 20 = Z at *
  refine r_new hC (ci := 0) (N := 4) (Cn := RJ0) (T := TJ0) (ty := tyJ0) (fs := [.null, .int 0, .int 0, .int 0]) 100 (by decide) rfl tin_J0 tyJ0_ok tb_1524 tb_460 tb_111 rfl (fun j hj => by rcases (show j = 0 ∨ j = 1 ∨ j = 2 ∨ j = 3 by omega) with rfl | rfl | rfl | rfl <;> rfl) (by decide) (by decide) dJ4_toString_0e30d_0 (fun a0 f0 => ?_)
  have h := h a0 _ f0 rfl
  refine r_dup hC dJ4_toString_0e30d_3 (by first | rfl | exact cat_rf _) ?_
  refine r_aload_n hC dJ4_toString_0e30d_4 rfl 0 rfl ?_
  obtain ⟨a5, o5, h⟩ := h
  refine r_IV hC hAo [va_rf (some x0)] cal_J0_init_81219 ml_J4_137 rfl o5 (c_J0_init_81219 G _ _ _ _ _ h) ⟨by decide, by decide⟩ ⟨by decide, by decide⟩ (by simp only [List.map_nil, List.map_cons, List.sum_nil, List.sum_cons, cat_rf, cat_i, cat_j]; decide) rfl dJ4_toString_0e30d_5 (fun E u hx9 => hx _ _ _ _ _ _ _ (by decide) (by decide) hx9) (fun ph5 h => ?_)
  refine RR.wid (k' := 2) (n' := 20) (by decide) (by decide) ?_
  exact hr _ _ _ _ _ _ dJ4_toString_0e30d_8 (by decide) (by decide) h
set_option maxRecDepth 20000 in
theorem c_J0_isLatin1_aae02 (G : GG) (x0 : Nat) (ph : PH) (Q : Int32 → PH → Prop) (X : String → PH → Prop) (h : w_J0_isLatin1_aae02 x0 ph Q X) : Ct G yJ0_isLatin1_aae02 (.code yJ0_isLatin1_aae02 cJ0_isLatin1_aae02 1 (some (.boolean))) 0 0 0 0 [va_rf (some x0)] ph (oI Q) X := by
  refine ct_of (lv0 := [(0, va_rf (some x0))]) (by decide +kernel) (by simp [lg_sl, cat_rf, cat_i, cat_j]) (by simp [lv_args, cat_rf, cat_i, cat_j]) ?_
  intro C A hC hAo hex hrt hnm
  have hr : HZ C (ZM C G A (oI Q) X 0 0) A G 1 cJ0_isLatin1_aae02 0 0 Q := fun pc lv v ph k n d hk hn hq => e_s hC (ty := .boolean) hrt pc lv v ph k n d hk hn ⟨hq.1, v, rfl, hq.2⟩
  have hx := e_x (Q := oI Q) (X := X) (mc := 0) (ms := 0) hC hex
  have hn := e_n (Q := oI Q) (X := X) (mc := 0) (ms := 0) hC hex
  have hnw := e_nw (Q := oI Q) (X := X) (mc := 0) (ms := 0) hC hex
  have hnx := e_nx (Q := oI Q) (X := X) (mc := 0) (ms := 0) hC hex
  have hi : True := trivial
  generalize ZM C G A (oI Q) X 0 0 = Z at *
  refine r_gets hC tb_1322 rfl dJ0_isLatin1_aae02_0 ?_
  refine r_if_eq (tgt := 17) hC dJ0_isLatin1_aae02_3 (by decide) (fun c9 => ?_) (fun c9 => ?_)
  · have h := h.1 c9
    refine r_iconst (v := 0) hC dJ0_isLatin1_aae02_17 (by decide) ?_
    exact hr _ _ _ _ _ _ dJ0_isLatin1_aae02_18 (by decide) (by decide) h
  · have h := h.2 c9
    refine r_aload_n hC dJ0_isLatin1_aae02_6 rfl 0 rfl ?_
    obtain ⟨v7, g7, h⟩ := h
    refine r_get hC (ci := 0) (kf := 1) (N := 4) (Cn := RJ0) (T := TJ0) rfl (by decide) tin_J0 fl_J0_15 rfl dJ0_isLatin1_aae02_7 g7 ?_
    refine r_if_ne (tgt := 17) hC dJ0_isLatin1_aae02_10 (by decide) (fun c9 => ?_) (fun c9 => ?_)
    · have h := h.1 c9
      refine r_iconst (v := 0) hC dJ0_isLatin1_aae02_17 (by decide) ?_
      exact hr _ _ _ _ _ _ dJ0_isLatin1_aae02_18 (by decide) (by decide) h
    · have h := h.2 c9
      refine r_iconst (v := 1) hC dJ0_isLatin1_aae02_13 (by decide) ?_
      refine r_goto (tgt := 18) hC dJ0_isLatin1_aae02_14 (by decide) ?_
      exact hr _ _ _ _ _ _ dJ0_isLatin1_aae02_18 (by decide) (by decide) h
set_option maxRecDepth 20000 in
theorem c_J3_checkIndex_8e157 (G : GG) (x0 : Int32) (x1 : Int32) (x2 : Option Nat) (ph : PH) (Q : Int32 → PH → Prop) (X : String → PH → Prop) (h : w_J3_checkIndex_8e157 x0 x1 x2 ph Q X) : Ct G yJ3_checkIndex_8e157 (.code yJ3_checkIndex_8e157 cJ3_checkIndex_8e157 3 (some (.int))) 0 0 0 0 [.int x0, .int x1, va_rf x2] ph (oI Q) X := by
  refine ct_of (lv0 := [(0, .int x0), (1, .int x1), (2, va_rf x2)]) (by decide +kernel) (by simp [lg_sl, cat_rf, cat_i, cat_j]) (by simp [lv_args, cat_rf, cat_i, cat_j]) ?_
  intro C A hC hAo hex hrt hnm
  have hr : HI C (ZM C G A (oI Q) X 0 0) A G 3 cJ3_checkIndex_8e157 0 0 Q := fun pc lv v ph k n d hk hn hq => e_i hC hrt pc lv v ph k n d hk hn ⟨v, rfl, hq⟩
  have hx := e_x (Q := oI Q) (X := X) (mc := 0) (ms := 0) hC hex
  have hn := e_n (Q := oI Q) (X := X) (mc := 0) (ms := 0) hC hex
  have hnw := e_nw (Q := oI Q) (X := X) (mc := 0) (ms := 0) hC hex
  have hnx := e_nx (Q := oI Q) (X := X) (mc := 0) (ms := 0) hC hex
  have hi : True := trivial
  generalize ZM C G A (oI Q) X 0 0 = Z at *
  refine r_iload_n hC dJ3_checkIndex_8e157_0 rfl 0 rfl ?_
  refine r_if_lt (tgt := 9) hC dJ3_checkIndex_8e157_1 (by decide) (fun c9 => ?_) (fun c9 => ?_)
  · have h := h.1 c9
    refine r_aload_n hC dJ3_checkIndex_8e157_9 rfl 2 rfl ?_
    refine r_iload_n hC dJ3_checkIndex_8e157_10 rfl 0 rfl ?_
    refine r_iload_n hC dJ3_checkIndex_8e157_11 rfl 1 rfl ?_
    exact h.elim
  · have h := h.2 c9
    refine r_iload_n hC dJ3_checkIndex_8e157_4 rfl 0 rfl ?_
    refine r_iload_n hC dJ3_checkIndex_8e157_5 rfl 1 rfl ?_
    refine r_icmp_lt (tgt := 16) hC dJ3_checkIndex_8e157_6 (by decide) (fun c9 => ?_) (fun c9 => ?_)
    · have h := h.1 c9
      refine r_iload_n hC dJ3_checkIndex_8e157_16 rfl 0 rfl ?_
      exact hr _ _ _ _ _ _ dJ3_checkIndex_8e157_17 (by decide) (by decide) h
    · have h := h.2 c9
      refine r_aload_n hC dJ3_checkIndex_8e157_9 rfl 2 rfl ?_
      refine r_iload_n hC dJ3_checkIndex_8e157_10 rfl 0 rfl ?_
      refine r_iload_n hC dJ3_checkIndex_8e157_11 rfl 1 rfl ?_
      exact h.elim
set_option maxRecDepth 20000 in
theorem c_J0_checkIndex_df160 (G : GG) (x0 : Int32) (x1 : Int32) (ph : PH) (Q : PH → Prop) (X : String → PH → Prop) (h : w_J0_checkIndex_df160 x0 x1 ph Q X) : Ct G yJ0_checkIndex_df160 (.code yJ0_checkIndex_df160 cJ0_checkIndex_df160 2 none) 1 22 0 0 [.int x0, .int x1] ph (oV Q) X := by
  refine ct_of (lv0 := [(0, .int x0), (1, .int x1)]) (by decide +kernel) (by simp [lg_sl, cat_rf, cat_i, cat_j]) (by simp [lv_args, cat_rf, cat_i, cat_j]) ?_
  intro C A hC hAo hex hrt hnm
  have hr : HV C (ZM C G A (oV Q) X 0 0) A G 2 cJ0_checkIndex_df160 0 0 Q := fun pc lv ph k n d hk hn hq => e_v hC hrt pc lv ph k n d hk hn ⟨rfl, hq⟩
  have hx := e_x (Q := oV Q) (X := X) (mc := 0) (ms := 0) hC hex
  have hn := e_n (Q := oV Q) (X := X) (mc := 0) (ms := 0) hC hex
  have hnw := e_nw (Q := oV Q) (X := X) (mc := 0) (ms := 0) hC hex
  have hnx := e_nx (Q := oV Q) (X := X) (mc := 0) (ms := 0) hC hex
  have hi : True := trivial
  generalize ZM C G A (oV Q) X 0 0 = Z at *
  refine r_iload_n hC dJ0_checkIndex_df160_0 rfl 0 rfl ?_
  refine r_iload_n hC dJ0_checkIndex_df160_1 rfl 1 rfl ?_
  refine r_getsq hC tb_1338 rfl dJ0_checkIndex_df160_2 (fun v2 => ?_)
  have h := h v2
  refine r_SI hC hAo [.int x0, .int x1, va_rf v2] cal_J3_checkIndex_8e157 ml_J0_1059 rfl (c_J3_checkIndex_8e157 G _ _ _ _ _ _ h) ⟨by decide, by decide⟩ ⟨by decide, by decide⟩ (by simp only [List.map_nil, List.map_cons, List.sum_nil, List.sum_cons, cat_rf, cat_i, cat_j]; decide) rfl dJ0_checkIndex_df160_5 (fun E u hx9 => hx _ _ _ _ _ _ _ (by decide) (by decide) hx9) (fun v5 ph5 h => ?_)
  refine RR.wid (k' := 0) (n' := 0) (by decide) (by decide) ?_
  refine r_pop hC dJ0_checkIndex_df160_8 (by first | rfl | exact cat_rf _) ?_
  exact hr _ _ _ _ _ dJ0_checkIndex_df160_9 (by decide) (by decide) h
set_option maxRecDepth 20000 in
theorem c_J1_charAt_3b067 (G : GG) (x0 : Option Nat) (x1 : Int32) (ph : PH) (Q : Int32 → PH → Prop) (X : String → PH → Prop) (h : w_J1_charAt_3b067 x0 x1 ph Q X) : Ct G yJ1_charAt_3b067 (.code yJ1_charAt_3b067 cJ1_charAt_3b067 2 (some (.char))) 2 43 0 0 [va_rf x0, .int x1] ph (oI Q) X := by
  refine ct_of (lv0 := [(0, va_rf x0), (1, .int x1)]) (by decide +kernel) (by simp [lg_sl, cat_rf, cat_i, cat_j]) (by simp [lv_args, cat_rf, cat_i, cat_j]) ?_
  intro C A hC hAo hex hrt hnm
  have hr : HC C (ZM C G A (oI Q) X 0 0) A G 2 cJ1_charAt_3b067 0 0 Q := fun pc lv v ph k n d hk hn hq => e_s hC (ty := .char) hrt pc lv v ph k n d hk hn ⟨hq.1, v, rfl, hq.2⟩
  have hx := e_x (Q := oI Q) (X := X) (mc := 0) (ms := 0) hC hex
  have hn := e_n (Q := oI Q) (X := X) (mc := 0) (ms := 0) hC hex
  have hnw := e_nw (Q := oI Q) (X := X) (mc := 0) (ms := 0) hC hex
  have hnx := e_nx (Q := oI Q) (X := X) (mc := 0) (ms := 0) hC hex
  have hi : True := trivial
  generalize ZM C G A (oI Q) X 0 0 = Z at *
  refine r_iload_n hC dJ1_charAt_3b067_0 rfl 1 rfl ?_
  refine r_aload_n hC dJ1_charAt_3b067_1 rfl 0 rfl ?_
  obtain ⟨v2, g2, h⟩ := h
  refine r_alen hC dJ1_charAt_3b067_2 g2 ?_
  refine r_SV hC hAo [.int x1, .int v2] cal_J0_checkIndex_df160 ml_J1_9 rfl (c_J0_checkIndex_df160 G _ _ _ _ _ h) ⟨by decide, by decide⟩ ⟨by decide, by decide⟩ (by simp only [List.map_nil, List.map_cons, List.sum_nil, List.sum_cons, cat_rf, cat_i, cat_j]; decide) rfl dJ1_charAt_3b067_3 (fun E u hx9 => hx _ _ _ _ _ _ _ (by decide) (by decide) hx9) (fun ph3 h => ?_)
  refine RR.wid (k' := 0) (n' := 0) (by decide) (by decide) ?_
  refine r_aload_n hC dJ1_charAt_3b067_6 rfl 0 rfl ?_
  refine r_iload_n hC dJ1_charAt_3b067_7 rfl 1 rfl ?_
  obtain ⟨v8, g8, h⟩ := h
  refine r_bald hC dJ1_charAt_3b067_8 g8 ?_
  refine r_sipush (v := 255) hC dJ1_charAt_3b067_9 (by decide) ?_
  refine r_iand hC dJ1_charAt_3b067_12 ?_
  refine r_i2c hC dJ1_charAt_3b067_13 ?_
  exact hr _ _ _ _ _ _ dJ1_charAt_3b067_14 (by decide) (by decide) h
set_option maxRecDepth 20000 in
theorem c_J0_charAt_5068e (G : GG) (x0 : Nat) (x1 : Int32) (ph : PH) (Q : Int32 → PH → Prop) (X : String → PH → Prop) (h : w_J0_charAt_5068e x0 x1 ph Q X) : Ct G yJ0_charAt_5068e (.code yJ0_charAt_5068e cJ0_charAt_5068e 2 (some (.char))) 3 64 0 0 [va_rf (some x0), .int x1] ph (oI Q) X := by
  refine ct_of (lv0 := [(0, va_rf (some x0)), (1, .int x1)]) (by decide +kernel) (by simp [lg_sl, cat_rf, cat_i, cat_j]) (by simp [lv_args, cat_rf, cat_i, cat_j]) ?_
  intro C A hC hAo hex hrt hnm
  have hr : HC C (ZM C G A (oI Q) X 0 0) A G 2 cJ0_charAt_5068e 0 0 Q := fun pc lv v ph k n d hk hn hq => e_s hC (ty := .char) hrt pc lv v ph k n d hk hn ⟨hq.1, v, rfl, hq.2⟩
  have hx := e_x (Q := oI Q) (X := X) (mc := 0) (ms := 0) hC hex
  have hn := e_n (Q := oI Q) (X := X) (mc := 0) (ms := 0) hC hex
  have hnw := e_nw (Q := oI Q) (X := X) (mc := 0) (ms := 0) hC hex
  have hnx := e_nx (Q := oI Q) (X := X) (mc := 0) (ms := 0) hC hex
  have hi : True := trivial
  generalize ZM C G A (oI Q) X 0 0 = Z at *
  refine r_aload_n hC dJ0_charAt_5068e_0 rfl 0 rfl ?_
  obtain ⟨a1, o1, h⟩ := h
  refine r_VI hC hAo [] cal_J0_isLatin1_aae02 ml_J0_492 (ci := 0) rfl rfl rfl (c_J0_isLatin1_aae02 G _ _ _ _ h) o1 ⟨by decide, by decide⟩ ⟨by decide, by decide⟩ (by simp only [List.map_nil, List.map_cons, List.sum_nil, List.sum_cons, cat_rf, cat_i, cat_j]; decide) rfl dJ0_charAt_5068e_1 (fun E u hx9 => hx _ _ _ _ _ _ _ (by decide) (by decide) hx9) (fun v1 ph1 h => ?_)
  refine RR.wid (k' := 0) (n' := 0) (by decide) (by decide) ?_
  refine r_if_eq (tgt := 16) hC dJ0_charAt_5068e_4 (by decide) (fun c9 => ?_) (fun c9 => ?_)
  · have h := h.1 c9
    refine r_aload_n hC dJ0_charAt_5068e_16 rfl 0 rfl ?_
    obtain ⟨v17, g17, h⟩ := h
    refine r_get hC (ci := 0) (kf := 0) (N := 4) (Cn := RJ0) (T := TJ0) rfl (by decide) tin_J0 fl_J0_9 rfl dJ0_charAt_5068e_17 g17 ?_
    refine r_iload_n hC dJ0_charAt_5068e_20 rfl 1 rfl ?_
    exact h.elim
  · have h := h.2 c9
    refine r_aload_n hC dJ0_charAt_5068e_7 rfl 0 rfl ?_
    obtain ⟨v8, g8, h⟩ := h
    refine r_get hC (ci := 0) (kf := 0) (N := 4) (Cn := RJ0) (T := TJ0) rfl (by decide) tin_J0 fl_J0_9 rfl dJ0_charAt_5068e_8 g8 ?_
    refine r_iload_n hC dJ0_charAt_5068e_11 rfl 1 rfl ?_
    refine r_SI hC hAo [va_rf v8, .int x1] cal_J1_charAt_3b067 ml_J0_495 rfl (c_J1_charAt_3b067 G _ _ _ _ _ h) ⟨by decide, by decide⟩ ⟨by decide, by decide⟩ (by simp only [List.map_nil, List.map_cons, List.sum_nil, List.sum_cons, cat_rf, cat_i, cat_j]; decide) rfl dJ0_charAt_5068e_12 (fun E u hx9 => hx _ _ _ _ _ _ _ (by decide) (by decide) hx9) (fun v12 ph12 h => ?_)
    refine RR.wid (k' := 0) (n' := 0) (by decide) (by decide) ?_
    exact hr _ _ _ _ _ _ dJ0_charAt_5068e_15 (by decide) (by decide) h
set_option maxRecDepth 20000 in
theorem c_L_cell (G : GG) (x0 : Option Nat) (x1 : Int32) (ph : PH) (Q : Int32 → PH → Prop) (X : String → PH → Prop) (h : w_L_cell x0 x1 ph Q X) : Ct G yL_cell (.code yL_cell cL_cell 2 (some (.int))) 0 0 0 0 [va_rf x0, .int x1] ph (oI Q) X := by
  refine ct_of (lv0 := [(0, va_rf x0), (1, .int x1)]) (by decide +kernel) (by simp [lg_sl, cat_rf, cat_i, cat_j]) (by simp [lv_args, cat_rf, cat_i, cat_j]) ?_
  intro C A hC hAo hex hrt hnm
  have hr : HI C (ZM C G A (oI Q) X 0 0) A G 2 cL_cell 0 0 Q := fun pc lv v ph k n d hk hn hq => e_i hC hrt pc lv v ph k n d hk hn ⟨v, rfl, hq⟩
  have hx := e_x (Q := oI Q) (X := X) (mc := 0) (ms := 0) hC hex
  have hn := e_n (Q := oI Q) (X := X) (mc := 0) (ms := 0) hC hex
  have hnw := e_nw (Q := oI Q) (X := X) (mc := 0) (ms := 0) hC hex
  have hnx := e_nx (Q := oI Q) (X := X) (mc := 0) (ms := 0) hC hex
  have hi : True := trivial
  generalize ZM C G A (oI Q) X 0 0 = Z at *
  refine r_iload_n hC dL_cell_0 rfl 1 rfl ?_
  refine r_aload_n hC dL_cell_1 rfl 0 rfl ?_
  obtain ⟨v2, g2, h⟩ := h
  refine r_alen hC dL_cell_2 g2 ?_
  refine r_icmp_ge (tgt := 12) hC dL_cell_3 (by decide) (fun c9 => ?_) (fun c9 => ?_)
  · have h := h.1 c9
    refine r_ldc (v := 310019) hC tb_378 dL_cell_12 ?_
    refine r_iload_n hC dL_cell_14 rfl 1 rfl ?_
    refine r_imul hC dL_cell_15 ?_
    refine r_bipush (v := 97) hC dL_cell_16 (by decide) ?_
    refine r_iadd hC dL_cell_18 ?_
    exact hr _ _ _ _ _ _ dL_cell_19 (by decide) (by decide) h
  · have h := h.2 c9
    refine r_aload_n hC dL_cell_6 rfl 0 rfl ?_
    refine r_iload_n hC dL_cell_7 rfl 1 rfl ?_
    obtain ⟨v8, g8, h⟩ := h
    refine r_iald hC dL_cell_8 g8 ?_
    refine r_goto (tgt := 19) hC dL_cell_9 (by decide) ?_
    exact hr _ _ _ _ _ _ dL_cell_19 (by decide) (by decide) h
set_option maxRecDepth 20000 in
theorem c_L_low (G : GG) (x0 : Int32) (x1 : Int32) (ph : PH) (Q : Int32 → PH → Prop) (X : String → PH → Prop) (h : w_L_low x0 x1 ph Q X) : Ct G yL_low (.code yL_low cL_low 2 (some (.int))) 0 0 0 0 [.int x0, .int x1] ph (oI Q) X := by
  refine ct_of (lv0 := [(0, .int x0), (1, .int x1)]) (by decide +kernel) (by simp [lg_sl, cat_rf, cat_i, cat_j]) (by simp [lv_args, cat_rf, cat_i, cat_j]) ?_
  intro C A hC hAo hex hrt hnm
  have hr : HI C (ZM C G A (oI Q) X 0 0) A G 2 cL_low 0 0 Q := fun pc lv v ph k n d hk hn hq => e_i hC hrt pc lv v ph k n d hk hn ⟨v, rfl, hq⟩
  have hx := e_x (Q := oI Q) (X := X) (mc := 0) (ms := 0) hC hex
  have hn := e_n (Q := oI Q) (X := X) (mc := 0) (ms := 0) hC hex
  have hnw := e_nw (Q := oI Q) (X := X) (mc := 0) (ms := 0) hC hex
  have hnx := e_nx (Q := oI Q) (X := X) (mc := 0) (ms := 0) hC hex
  have hi : True := trivial
  generalize ZM C G A (oI Q) X 0 0 = Z at *
  refine r_iload_n hC dL_low_0 rfl 0 rfl ?_
  refine r_ldc (v := 2147483647) hC tb_382 dL_low_1 ?_
  refine r_iand hC dL_low_3 ?_
  refine r_iload_n hC dL_low_4 rfl 1 rfl ?_
  obtain ⟨z5, h⟩ := h
  refine r_irem hC dL_low_5 z5 ?_
  exact hr _ _ _ _ _ _ dL_low_6 (by decide) (by decide) h
set_option maxRecDepth 20000 in
theorem c_X9_init (G : GG) (x0 : Nat) (ph : PH) (Q : PH → Prop) (X : String → PH → Prop) (h : w_X9_init x0 ph Q X) : Ct G yX9_init (.code yX9_init cX9_init 1 none) 1 20 1 40 [va_rf (some x0)] ph (oV Q) X := by
  refine ct_of (lv0 := [(0, va_rf (some x0))]) (by decide +kernel) (by simp [lg_sl, cat_rf, cat_i, cat_j]) (by simp [lv_args, cat_rf, cat_i, cat_j]) ?_
  intro C A hC hAo hex hrt hnm
  have hr : HV C (ZM C G A (oV Q) X 1 40) A G 1 cX9_init 1 40 Q := fun pc lv ph k n d hk hn hq => e_v hC hrt pc lv ph k n d hk hn ⟨rfl, hq⟩
  have hx := e_x (Q := oV Q) (X := X) (mc := 1) (ms := 40) hC hex
  have hn := e_n (Q := oV Q) (X := X) (mc := 1) (ms := 40) hC hex
  have hnw := e_nw (Q := oV Q) (X := X) (mc := 1) (ms := 40) hC hex
  have hnx := e_nx (Q := oV Q) (X := X) (mc := 1) (ms := 40) hC hex
  have hi : (xt C).name = "<init>" := hnm
  generalize ZM C G A (oV Q) X 1 40 = Z at *
  refine r_aload_n hC dX9_init_0 rfl 0 rfl ?_
  obtain ⟨a1, o1, h⟩ := h
  refine r_objInit hC o1 tb_148 tb_141 tb_142 (by decide) (by simp only [List.map_nil, List.map_cons, List.sum_nil, List.sum_cons, cat_rf, cat_i, cat_j]; decide) dX9_init_1 ?_
  refine r_aload_n hC dX9_init_4 rfl 0 rfl ?_
  refine r_bipush (v := 40) hC dX9_init_5 (by decide) ?_
  refine r_newa hC (ty := .char) (N := 40) (y := .inl (fun _ => 0)) 202 (by decide) rfl (fun _ q => by cases q) (fun _ => rfl) tb_160 (by decide) (by decide) (by decide) (by decide) (by decide) dX9_init_7 (fun a7 f7 => ?_)
  have h := h a7 _ f7 rfl
  obtain ⟨ph9, g9, h⟩ := h
  refine r_putF hC hi (ci := 10) (kf := 0) (N := 2) (Cn := RX9) (T := TX9) (ty := .array .char) (ty0 := tyX9) rfl (by decide) tin_X9 tyX9_ok nmX9 tb_149 rfl rfl rfl (by decide +kernel) (nar_ra _ _) (fit_ra _ _) dX9_init_9 g9 ?_
  exact hr _ _ _ _ _ dX9_init_12 (by decide) (by decide) h
set_option maxRecDepth 20000 in
theorem c_X6_init (G : GG) (x0 : Nat) (ph : PH) (Q : PH → Prop) (X : String → PH → Prop) (h : w_X6_init x0 ph Q X) : Ct G yX6_init (.code yX6_init cX6_init 1 none) 1 20 11 4482 [va_rf (some x0)] ph (oV Q) X := by
  refine ct_of (lv0 := [(0, va_rf (some x0))]) (by decide +kernel) (by simp [lg_sl, cat_rf, cat_i, cat_j]) (by simp [lv_args, cat_rf, cat_i, cat_j]) ?_
  intro C A hC hAo hex hrt hnm
  have hr : HV C (ZM C G A (oV Q) X 11 4482) A G 1 cX6_init 11 4482 Q := fun pc lv ph k n d hk hn hq => e_v hC hrt pc lv ph k n d hk hn ⟨rfl, hq⟩
  have hx := e_x (Q := oV Q) (X := X) (mc := 11) (ms := 4482) hC hex
  have hn := e_n (Q := oV Q) (X := X) (mc := 11) (ms := 4482) hC hex
  have hnw := e_nw (Q := oV Q) (X := X) (mc := 11) (ms := 4482) hC hex
  have hnx := e_nx (Q := oV Q) (X := X) (mc := 11) (ms := 4482) hC hex
  have hi : (xt C).name = "<init>" := hnm
  generalize ZM C G A (oV Q) X 11 4482 = Z at *
  refine r_aload_n hC dX6_init_0 rfl 0 rfl ?_
  obtain ⟨a1, o1, h⟩ := h
  refine r_objInit hC o1 tb_172 tb_141 tb_142 (by decide) (by simp only [List.map_nil, List.map_cons, List.sum_nil, List.sum_cons, cat_rf, cat_i, cat_j]; decide) dX6_init_1 ?_
  refine r_aload_n hC dX6_init_4 rfl 0 rfl ?_
  refine r_sipush (v := 1024) hC dX6_init_5 (by decide) ?_
  refine r_newa hC (ty := .int) (N := 1024) (y := .inl (fun _ => 0)) 206 (by decide) rfl (fun _ q => by cases q) (fun _ => rfl) tb_207 (by decide) (by decide) (by decide) (by decide) (by decide) dX6_init_8 (fun a8 f8 => ?_)
  have h := h a8 _ f8 rfl
  obtain ⟨ph10, g10, h⟩ := h
  refine r_putF hC hi (ci := 7) (kf := 0) (N := 11) (Cn := RX6) (T := TX6) (ty := .array .int) (ty0 := tyX6) rfl (by decide) tin_X6 tyX6_ok nmX6 tb_173 rfl rfl rfl (by decide +kernel) (nar_ra _ _) (fit_ra _ _) dX6_init_10 g10 ?_
  refine r_aload_n hC dX6_init_13 rfl 0 rfl ?_
  refine r_sipush (v := 1024) hC dX6_init_14 (by decide) ?_
  refine r_newa hC (ty := .int) (N := 1024) (y := .inl (fun _ => 0)) 207 (by decide) rfl (fun _ q => by cases q) (fun _ => rfl) tb_207 (by decide) (by decide) (by decide) (by decide) (by decide) dX6_init_17 (fun a17 f17 => ?_)
  have h := h a17 _ f17 rfl
  obtain ⟨ph19, g19, h⟩ := h
  refine r_putF hC hi (ci := 7) (kf := 1) (N := 11) (Cn := RX6) (T := TX6) (ty := .array .int) (ty0 := tyX6) rfl (by decide) tin_X6 tyX6_ok nmX6 tb_174 rfl rfl rfl (by decide +kernel) (nar_ra _ _) (fit_ra _ _) dX6_init_19 g19 ?_
  refine r_aload_n hC dX6_init_22 rfl 0 rfl ?_
  refine r_sipush (v := 1024) hC dX6_init_23 (by decide) ?_
  refine r_newa hC (ty := .int) (N := 1024) (y := .inl (fun _ => 0)) 208 (by decide) rfl (fun _ q => by cases q) (fun _ => rfl) tb_207 (by decide) (by decide) (by decide) (by decide) (by decide) dX6_init_26 (fun a26 f26 => ?_)
  have h := h a26 _ f26 rfl
  obtain ⟨ph28, g28, h⟩ := h
  refine r_putF hC hi (ci := 7) (kf := 2) (N := 11) (Cn := RX6) (T := TX6) (ty := .array .int) (ty0 := tyX6) rfl (by decide) tin_X6 tyX6_ok nmX6 tb_175 rfl rfl rfl (by decide +kernel) (nar_ra _ _) (fit_ra _ _) dX6_init_28 g28 ?_
  refine r_aload_n hC dX6_init_31 rfl 0 rfl ?_
  refine r_bipush (v := 7) hC dX6_init_32 (by decide) ?_
  refine r_newa hC (ty := .int) (N := 7) (y := .inl (fun _ => 0)) 209 (by decide) rfl (fun _ q => by cases q) (fun _ => rfl) tb_207 (by decide) (by decide) (by decide) (by decide) (by decide) dX6_init_34 (fun a34 f34 => ?_)
  have h := h a34 _ f34 rfl
  obtain ⟨ph36, g36, h⟩ := h
  refine r_putF hC hi (ci := 7) (kf := 3) (N := 11) (Cn := RX6) (T := TX6) (ty := .array .int) (ty0 := tyX6) rfl (by decide) tin_X6 tyX6_ok nmX6 tb_176 rfl rfl rfl (by decide +kernel) (nar_ra _ _) (fit_ra _ _) dX6_init_36 g36 ?_
  refine r_aload_n hC dX6_init_39 rfl 0 rfl ?_
  refine r_bipush (v := 60) hC dX6_init_40 (by decide) ?_
  refine r_newa hC (ty := .int) (N := 60) (y := .inl (fun _ => 0)) 210 (by decide) rfl (fun _ q => by cases q) (fun _ => rfl) tb_207 (by decide) (by decide) (by decide) (by decide) (by decide) dX6_init_42 (fun a42 f42 => ?_)
  have h := h a42 _ f42 rfl
  obtain ⟨ph44, g44, h⟩ := h
  refine r_putF hC hi (ci := 7) (kf := 4) (N := 11) (Cn := RX6) (T := TX6) (ty := .array .int) (ty0 := tyX6) rfl (by decide) tin_X6 tyX6_ok nmX6 tb_177 rfl rfl rfl (by decide +kernel) (nar_ra _ _) (fit_ra _ _) dX6_init_44 g44 ?_
  refine r_aload_n hC dX6_init_47 rfl 0 rfl ?_
  refine r_sipush (v := 180) hC dX6_init_48 (by decide) ?_
  refine r_newa hC (ty := .int) (N := 180) (y := .inl (fun _ => 0)) 211 (by decide) rfl (fun _ q => by cases q) (fun _ => rfl) tb_207 (by decide) (by decide) (by decide) (by decide) (by decide) dX6_init_51 (fun a51 f51 => ?_)
  have h := h a51 _ f51 rfl
  obtain ⟨ph53, g53, h⟩ := h
  refine r_putF hC hi (ci := 7) (kf := 5) (N := 11) (Cn := RX6) (T := TX6) (ty := .array .int) (ty0 := tyX6) rfl (by decide) tin_X6 tyX6_ok nmX6 tb_178 rfl rfl rfl (by decide +kernel) (nar_ra _ _) (fit_ra _ _) dX6_init_53 g53 ?_
  refine r_aload_n hC dX6_init_56 rfl 0 rfl ?_
  refine r_bipush (v := 60) hC dX6_init_57 (by decide) ?_
  refine r_newa hC (ty := .int) (N := 60) (y := .inl (fun _ => 0)) 212 (by decide) rfl (fun _ q => by cases q) (fun _ => rfl) tb_207 (by decide) (by decide) (by decide) (by decide) (by decide) dX6_init_59 (fun a59 f59 => ?_)
  have h := h a59 _ f59 rfl
  obtain ⟨ph61, g61, h⟩ := h
  refine r_putF hC hi (ci := 7) (kf := 6) (N := 11) (Cn := RX6) (T := TX6) (ty := .array .int) (ty0 := tyX6) rfl (by decide) tin_X6 tyX6_ok nmX6 tb_179 rfl rfl rfl (by decide +kernel) (nar_ra _ _) (fit_ra _ _) dX6_init_61 g61 ?_
  refine r_aload_n hC dX6_init_64 rfl 0 rfl ?_
  refine r_bipush (v := 60) hC dX6_init_65 (by decide) ?_
  refine r_newa hC (ty := .int) (N := 60) (y := .inl (fun _ => 0)) 213 (by decide) rfl (fun _ q => by cases q) (fun _ => rfl) tb_207 (by decide) (by decide) (by decide) (by decide) (by decide) dX6_init_67 (fun a67 f67 => ?_)
  have h := h a67 _ f67 rfl
  obtain ⟨ph69, g69, h⟩ := h
  refine r_putF hC hi (ci := 7) (kf := 7) (N := 11) (Cn := RX6) (T := TX6) (ty := .array .int) (ty0 := tyX6) rfl (by decide) tin_X6 tyX6_ok nmX6 tb_180 rfl rfl rfl (by decide +kernel) (nar_ra _ _) (fit_ra _ _) dX6_init_69 g69 ?_
  refine r_aload_n hC dX6_init_72 rfl 0 rfl ?_
  refine r_sipush (v := 400) hC dX6_init_73 (by decide) ?_
  refine r_newa hC (ty := .int) (N := 400) (y := .inl (fun _ => 0)) 214 (by decide) rfl (fun _ q => by cases q) (fun _ => rfl) tb_207 (by decide) (by decide) (by decide) (by decide) (by decide) dX6_init_76 (fun a76 f76 => ?_)
  have h := h a76 _ f76 rfl
  obtain ⟨ph78, g78, h⟩ := h
  refine r_putF hC hi (ci := 7) (kf := 8) (N := 11) (Cn := RX6) (T := TX6) (ty := .array .int) (ty0 := tyX6) rfl (by decide) tin_X6 tyX6_ok nmX6 tb_181 rfl rfl rfl (by decide +kernel) (nar_ra _ _) (fit_ra _ _) dX6_init_78 g78 ?_
  refine r_aload_n hC dX6_init_81 rfl 0 rfl ?_
  refine r_sipush (v := 400) hC dX6_init_82 (by decide) ?_
  refine r_newa hC (ty := .int) (N := 400) (y := .inl (fun _ => 0)) 215 (by decide) rfl (fun _ q => by cases q) (fun _ => rfl) tb_207 (by decide) (by decide) (by decide) (by decide) (by decide) dX6_init_85 (fun a85 f85 => ?_)
  have h := h a85 _ f85 rfl
  obtain ⟨ph87, g87, h⟩ := h
  refine r_putF hC hi (ci := 7) (kf := 9) (N := 11) (Cn := RX6) (T := TX6) (ty := .array .int) (ty0 := tyX6) rfl (by decide) tin_X6 tyX6_ok nmX6 tb_182 rfl rfl rfl (by decide +kernel) (nar_ra _ _) (fit_ra _ _) dX6_init_87 g87 ?_
  refine r_aload_n hC dX6_init_90 rfl 0 rfl ?_
  refine r_sipush (v := 243) hC dX6_init_91 (by decide) ?_
  refine r_newa hC (ty := .int) (N := 243) (y := .inl (fun _ => 0)) 216 (by decide) rfl (fun _ q => by cases q) (fun _ => rfl) tb_207 (by decide) (by decide) (by decide) (by decide) (by decide) dX6_init_94 (fun a94 f94 => ?_)
  have h := h a94 _ f94 rfl
  obtain ⟨ph96, g96, h⟩ := h
  refine r_putF hC hi (ci := 7) (kf := 10) (N := 11) (Cn := RX6) (T := TX6) (ty := .array .int) (ty0 := tyX6) rfl (by decide) tin_X6 tyX6_ok nmX6 tb_183 rfl rfl rfl (by decide +kernel) (nar_ra _ _) (fit_ra _ _) dX6_init_96 g96 ?_
  exact hr _ _ _ _ _ dX6_init_99 (by decide) (by decide) h
set_option maxRecDepth 20000 in
theorem c_X10_init (G : GG) (x0 : Nat) (ph : PH) (Q : PH → Prop) (X : String → PH → Prop) (h : w_X10_init x0 ph Q X) : Ct G yX10_init (.code yX10_init cX10_init 1 none) 1 20 2 48 [va_rf (some x0)] ph (oV Q) X := by
  refine ct_of (lv0 := [(0, va_rf (some x0))]) (by decide +kernel) (by simp [lg_sl, cat_rf, cat_i, cat_j]) (by simp [lv_args, cat_rf, cat_i, cat_j]) ?_
  intro C A hC hAo hex hrt hnm
  have hr : HV C (ZM C G A (oV Q) X 2 48) A G 1 cX10_init 2 48 Q := fun pc lv ph k n d hk hn hq => e_v hC hrt pc lv ph k n d hk hn ⟨rfl, hq⟩
  have hx := e_x (Q := oV Q) (X := X) (mc := 2) (ms := 48) hC hex
  have hn := e_n (Q := oV Q) (X := X) (mc := 2) (ms := 48) hC hex
  have hnw := e_nw (Q := oV Q) (X := X) (mc := 2) (ms := 48) hC hex
  have hnx := e_nx (Q := oV Q) (X := X) (mc := 2) (ms := 48) hC hex
  have hi : (xt C).name = "<init>" := hnm
  generalize ZM C G A (oV Q) X 2 48 = Z at *
  refine r_aload_n hC dX10_init_0 rfl 0 rfl ?_
  obtain ⟨a1, o1, h⟩ := h
  refine r_objInit hC o1 tb_213 tb_141 tb_142 (by decide) (by simp only [List.map_nil, List.map_cons, List.sum_nil, List.sum_cons, cat_rf, cat_i, cat_j]; decide) dX10_init_1 ?_
  refine r_aload_n hC dX10_init_4 rfl 0 rfl ?_
  refine r_bipush (v := 24) hC dX10_init_5 (by decide) ?_
  refine r_newa hC (ty := .int) (N := 24) (y := .inl (fun _ => 0)) 217 (by decide) rfl (fun _ q => by cases q) (fun _ => rfl) tb_207 (by decide) (by decide) (by decide) (by decide) (by decide) dX10_init_7 (fun a7 f7 => ?_)
  have h := h a7 _ f7 rfl
  obtain ⟨ph9, g9, h⟩ := h
  refine r_putF hC hi (ci := 11) (kf := 0) (N := 2) (Cn := RX10) (T := TX10) (ty := .array .int) (ty0 := tyX10) rfl (by decide) tin_X10 tyX10_ok nmX10 tb_214 rfl rfl rfl (by decide +kernel) (nar_ra _ _) (fit_ra _ _) dX10_init_9 g9 ?_
  refine r_aload_n hC dX10_init_12 rfl 0 rfl ?_
  refine r_bipush (v := 24) hC dX10_init_13 (by decide) ?_
  refine r_newa hC (ty := .int) (N := 24) (y := .inl (fun _ => 0)) 218 (by decide) rfl (fun _ q => by cases q) (fun _ => rfl) tb_207 (by decide) (by decide) (by decide) (by decide) (by decide) dX10_init_15 (fun a15 f15 => ?_)
  have h := h a15 _ f15 rfl
  obtain ⟨ph17, g17, h⟩ := h
  refine r_putF hC hi (ci := 11) (kf := 1) (N := 2) (Cn := RX10) (T := TX10) (ty := .array .int) (ty0 := tyX10) rfl (by decide) tin_X10 tyX10_ok nmX10 tb_215 rfl rfl rfl (by decide +kernel) (nar_ra _ _) (fit_ra _ _) dX10_init_17 g17 ?_
  exact hr _ _ _ _ _ dX10_init_20 (by decide) (by decide) h
set_option maxRecDepth 20000 in
theorem c_X8_init (G : GG) (x0 : Nat) (ph : PH) (Q : PH → Prop) (X : String → PH → Prop) (h : w_X8_init x0 ph Q X) : Ct G yX8_init (.code yX8_init cX8_init 1 none) 1 20 1 144 [va_rf (some x0)] ph (oV Q) X := by
  refine ct_of (lv0 := [(0, va_rf (some x0))]) (by decide +kernel) (by simp [lg_sl, cat_rf, cat_i, cat_j]) (by simp [lv_args, cat_rf, cat_i, cat_j]) ?_
  intro C A hC hAo hex hrt hnm
  have hr : HV C (ZM C G A (oV Q) X 1 144) A G 1 cX8_init 1 144 Q := fun pc lv ph k n d hk hn hq => e_v hC hrt pc lv ph k n d hk hn ⟨rfl, hq⟩
  have hx := e_x (Q := oV Q) (X := X) (mc := 1) (ms := 144) hC hex
  have hn := e_n (Q := oV Q) (X := X) (mc := 1) (ms := 144) hC hex
  have hnw := e_nw (Q := oV Q) (X := X) (mc := 1) (ms := 144) hC hex
  have hnx := e_nx (Q := oV Q) (X := X) (mc := 1) (ms := 144) hC hex
  have hi : (xt C).name = "<init>" := hnm
  generalize ZM C G A (oV Q) X 1 144 = Z at *
  refine r_aload_n hC dX8_init_0 rfl 0 rfl ?_
  obtain ⟨a1, o1, h⟩ := h
  refine r_objInit hC o1 tb_232 tb_141 tb_142 (by decide) (by simp only [List.map_nil, List.map_cons, List.sum_nil, List.sum_cons, cat_rf, cat_i, cat_j]; decide) dX8_init_1 ?_
  refine r_aload_n hC dX8_init_4 rfl 0 rfl ?_
  refine r_sipush (v := 144) hC dX8_init_5 (by decide) ?_
  refine r_newa hC (ty := .long) (N := 144) (y := .inr (.inl (fun _ => 0))) 219 (by decide) rfl (fun _ q => by cases q) (fun _ => rfl) tb_246 (by decide) (by decide) (by decide) (by decide) (by decide) dX8_init_8 (fun a8 f8 => ?_)
  have h := h a8 _ f8 rfl
  obtain ⟨ph10, g10, h⟩ := h
  refine r_putF hC hi (ci := 9) (kf := 2) (N := 3) (Cn := RX8) (T := TX8) (ty := .array .long) (ty0 := tyX8) rfl (by decide) tin_X8 tyX8_ok nmX8 tb_238 rfl rfl rfl (by decide +kernel) (nar_ra _ _) (fit_ra _ _) dX8_init_10 g10 ?_
  exact hr _ _ _ _ _ dX8_init_13 (by decide) (by decide) h
