set_option maxRecDepth 20000 in
theorem c_X0_init (G : GG) (x0 : Nat) (ph : PH) (Q : PH → Prop) (X : String → PH → Prop) (h : w_X0_init x0 ph Q X) : Ct G yX0_init (.code yX0_init cX0_init 1 none) 2 40 11 1544 [va_rf (some x0)] ph (oV Q) X := by
  refine ct_of (lv0 := [(0, va_rf (some x0))]) (by decide +kernel) (by simp [lg_sl, cat_rf, cat_i, cat_j]) (by simp [lv_args, cat_rf, cat_i, cat_j]) ?_
  intro C A hC hAo hex hrt hnm
  have hr : HV C (ZM C G A (oV Q) X 11 1544) A G 1 cX0_init 11 1544 Q := fun pc lv ph k n d hk hn hq => e_v hC hrt pc lv ph k n d hk hn ⟨rfl, hq⟩
  have hx := e_x (Q := oV Q) (X := X) (mc := 11) (ms := 1544) hC hex
  have hn := e_n (Q := oV Q) (X := X) (mc := 11) (ms := 1544) hC hex
  have hnw := e_nw (Q := oV Q) (X := X) (mc := 11) (ms := 1544) hC hex
  have hnx := e_nx (Q := oV Q) (X := X) (mc := 11) (ms := 1544) hC hex
  have hi : (xt C).name = "<init>" := hnm
  generalize ZM C G A (oV Q) X 11 1544 = Z at *
  refine r_aload_n hC dX0_init_0 rfl 0 rfl ?_
  obtain ⟨a1, o1, h⟩ := h
  refine r_objInit hC o1 tb_226 tb_141 tb_142 (by decide) (by simp only [List.map_nil, List.map_cons, List.sum_nil, List.sum_cons, cat_rf, cat_i, cat_j]; decide) dX0_init_1 ?_
  refine r_aload_n hC dX0_init_4 rfl 0 rfl ?_
  refine r_new hC (ci := 9) (N := 3) (Cn := RX8) (T := TX8) (ty := tyX8) (fs := [.int 0, .int 0, .null]) 109 (by decide) rfl tin_X8 tyX8_ok tb_227 tb_228 tb_106 rfl (fun j hj => by rcases (show j = 0 ∨ j = 1 ∨ j = 2 by omega) with rfl | rfl | rfl <;> rfl) (by decide) (by decide) dX0_init_5 (fun a5 f5 => ?_)
  have h := h a5 _ f5 rfl
  refine r_dup hC dX0_init_8 (by first | rfl | exact cat_rf _) ?_
  obtain ⟨a9, o9, h⟩ := h
  refine r_IV hC hAo [] cal_X8_init ml_X0_11 rfl o9 (c_X8_init G _ _ _ _ h) ⟨by decide, by decide⟩ ⟨by decide, by decide⟩ (by simp only [List.map_nil, List.map_cons, List.sum_nil, List.sum_cons, cat_rf, cat_i, cat_j]; decide) rfl dX0_init_9 (fun E u hx9 => hx _ _ _ _ _ _ _ (by decide) (by decide) hx9) (fun ph9 h => ?_)
  refine RR.wid (k' := 2) (n' := 147) (by decide) (by decide) ?_
  obtain ⟨ph12, g12, h⟩ := h
  refine r_putF hC hi (ci := 3) (kf := 0) (N := 8) (Cn := RX0) (T := TX0) (ty := .object "Shiftgate$Table") (ty0 := tyX0) rfl (by decide) tin_X0 tyX0_ok nmX0 tb_247 rfl rfl rfl (by decide +kernel) (nar_rf _ _) (fit_rf _ _) dX0_init_12 g12 ?_
  refine r_aload_n hC dX0_init_15 rfl 0 rfl ?_
  refine r_new hC (ci := 9) (N := 3) (Cn := RX8) (T := TX8) (ty := tyX8) (fs := [.int 0, .int 0, .null]) 109 (by decide) rfl tin_X8 tyX8_ok tb_227 tb_228 tb_106 rfl (fun j hj => by rcases (show j = 0 ∨ j = 1 ∨ j = 2 by omega) with rfl | rfl | rfl <;> rfl) (by decide) (by decide) dX0_init_16 (fun a16 f16 => ?_)
  have h := h a16 _ f16 rfl
  refine r_dup hC dX0_init_19 (by first | rfl | exact cat_rf _) ?_
  obtain ⟨a20, o20, h⟩ := h
  refine r_IV hC hAo [] cal_X8_init ml_X0_11 rfl o20 (c_X8_init G _ _ _ _ h) ⟨by decide, by decide⟩ ⟨by decide, by decide⟩ (by simp only [List.map_nil, List.map_cons, List.sum_nil, List.sum_cons, cat_rf, cat_i, cat_j]; decide) rfl dX0_init_20 (fun E u hx9 => hx _ _ _ _ _ _ _ (by decide) (by decide) hx9) (fun ph20 h => ?_)
  refine RR.wid (k' := 4) (n' := 294) (by decide) (by decide) ?_
  obtain ⟨ph23, g23, h⟩ := h
  refine r_putF hC hi (ci := 3) (kf := 1) (N := 8) (Cn := RX0) (T := TX0) (ty := .object "Shiftgate$Table") (ty0 := tyX0) rfl (by decide) tin_X0 tyX0_ok nmX0 tb_248 rfl rfl rfl (by decide +kernel) (nar_rf _ _) (fit_rf _ _) dX0_init_23 g23 ?_
  refine r_aload_n hC dX0_init_26 rfl 0 rfl ?_
  refine r_new hC (ci := 9) (N := 3) (Cn := RX8) (T := TX8) (ty := tyX8) (fs := [.int 0, .int 0, .null]) 109 (by decide) rfl tin_X8 tyX8_ok tb_227 tb_228 tb_106 rfl (fun j hj => by rcases (show j = 0 ∨ j = 1 ∨ j = 2 by omega) with rfl | rfl | rfl <;> rfl) (by decide) (by decide) dX0_init_27 (fun a27 f27 => ?_)
  have h := h a27 _ f27 rfl
  refine r_dup hC dX0_init_30 (by first | rfl | exact cat_rf _) ?_
  obtain ⟨a31, o31, h⟩ := h
  refine r_IV hC hAo [] cal_X8_init ml_X0_11 rfl o31 (c_X8_init G _ _ _ _ h) ⟨by decide, by decide⟩ ⟨by decide, by decide⟩ (by simp only [List.map_nil, List.map_cons, List.sum_nil, List.sum_cons, cat_rf, cat_i, cat_j]; decide) rfl dX0_init_31 (fun E u hx9 => hx _ _ _ _ _ _ _ (by decide) (by decide) hx9) (fun ph31 h => ?_)
  refine RR.wid (k' := 6) (n' := 441) (by decide) (by decide) ?_
  obtain ⟨ph34, g34, h⟩ := h
  refine r_putF hC hi (ci := 3) (kf := 2) (N := 8) (Cn := RX0) (T := TX0) (ty := .object "Shiftgate$Table") (ty0 := tyX0) rfl (by decide) tin_X0 tyX0_ok nmX0 tb_249 rfl rfl rfl (by decide +kernel) (nar_rf _ _) (fit_rf _ _) dX0_init_34 g34 ?_
  refine r_aload_n hC dX0_init_37 rfl 0 rfl ?_
  refine r_bipush (v := 25) hC dX0_init_38 (by decide) ?_
  refine r_newa hC (ty := .long) (N := 25) (y := .inr (.inl (fun _ => 0))) 220 (by decide) rfl (fun _ q => by cases q) (fun _ => rfl) tb_246 (by decide) (by decide) (by decide) (by decide) (by decide) dX0_init_40 (fun a40 f40 => ?_)
  have h := h a40 _ f40 rfl
  obtain ⟨ph42, g42, h⟩ := h
  refine r_putF hC hi (ci := 3) (kf := 3) (N := 8) (Cn := RX0) (T := TX0) (ty := .array .long) (ty0 := tyX0) rfl (by decide) tin_X0 tyX0_ok nmX0 tb_250 rfl rfl rfl (by decide +kernel) (nar_ra _ _) (fit_ra _ _) dX0_init_42 g42 ?_
  refine r_aload_n hC dX0_init_45 rfl 0 rfl ?_
  refine r_sipush (v := 1024) hC dX0_init_46 (by decide) ?_
  refine r_newa hC (ty := .long) (N := 1024) (y := .inr (.inl (fun _ => 0))) 221 (by decide) rfl (fun _ q => by cases q) (fun _ => rfl) tb_246 (by decide) (by decide) (by decide) (by decide) (by decide) dX0_init_49 (fun a49 f49 => ?_)
  have h := h a49 _ f49 rfl
  obtain ⟨ph51, g51, h⟩ := h
  refine r_putF hC hi (ci := 3) (kf := 4) (N := 8) (Cn := RX0) (T := TX0) (ty := .array .long) (ty0 := tyX0) rfl (by decide) tin_X0 tyX0_ok nmX0 tb_251 rfl rfl rfl (by decide +kernel) (nar_ra _ _) (fit_ra _ _) dX0_init_51 g51 ?_
  refine r_aload_n hC dX0_init_54 rfl 0 rfl ?_
  refine r_bipush (v := 6) hC dX0_init_55 (by decide) ?_
  refine r_newa hC (ty := .long) (N := 6) (y := .inr (.inl (fun _ => 0))) 222 (by decide) rfl (fun _ q => by cases q) (fun _ => rfl) tb_246 (by decide) (by decide) (by decide) (by decide) (by decide) dX0_init_57 (fun a57 f57 => ?_)
  have h := h a57 _ f57 rfl
  obtain ⟨ph59, g59, h⟩ := h
  refine r_putF hC hi (ci := 3) (kf := 5) (N := 8) (Cn := RX0) (T := TX0) (ty := .array .long) (ty0 := tyX0) rfl (by decide) tin_X0 tyX0_ok nmX0 tb_252 rfl rfl rfl (by decide +kernel) (nar_ra _ _) (fit_ra _ _) dX0_init_59 g59 ?_
  refine r_aload_n hC dX0_init_62 rfl 0 rfl ?_
  refine r_bipush (v := 24) hC dX0_init_63 (by decide) ?_
  refine r_newa hC (ty := .long) (N := 24) (y := .inr (.inl (fun _ => 0))) 223 (by decide) rfl (fun _ q => by cases q) (fun _ => rfl) tb_246 (by decide) (by decide) (by decide) (by decide) (by decide) dX0_init_65 (fun a65 f65 => ?_)
  have h := h a65 _ f65 rfl
  obtain ⟨ph67, g67, h⟩ := h
  refine r_putF hC hi (ci := 3) (kf := 6) (N := 8) (Cn := RX0) (T := TX0) (ty := .array .long) (ty0 := tyX0) rfl (by decide) tin_X0 tyX0_ok nmX0 tb_253 rfl rfl rfl (by decide +kernel) (nar_ra _ _) (fit_ra _ _) dX0_init_67 g67 ?_
  refine r_aload_n hC dX0_init_70 rfl 0 rfl ?_
  refine r_bipush (v := 24) hC dX0_init_71 (by decide) ?_
  refine r_newa hC (ty := .long) (N := 24) (y := .inr (.inl (fun _ => 0))) 224 (by decide) rfl (fun _ q => by cases q) (fun _ => rfl) tb_246 (by decide) (by decide) (by decide) (by decide) (by decide) dX0_init_73 (fun a73 f73 => ?_)
  have h := h a73 _ f73 rfl
  obtain ⟨ph75, g75, h⟩ := h
  refine r_putF hC hi (ci := 3) (kf := 7) (N := 8) (Cn := RX0) (T := TX0) (ty := .array .long) (ty0 := tyX0) rfl (by decide) tin_X0 tyX0_ok nmX0 tb_254 rfl rfl rfl (by decide +kernel) (nar_ra _ _) (fit_ra _ _) dX0_init_75 g75 ?_
  exact hr _ _ _ _ _ dX0_init_78 (by decide) (by decide) h
set_option maxRecDepth 20000 in
theorem c_X2_init (G : GG) (x0 : Nat) (ph : PH) (Q : PH → Prop) (X : String → PH → Prop) (h : w_X2_init x0 ph Q X) : Ct G yX2_init (.code yX2_init cX2_init 1 none) 1 20 1 1024 [va_rf (some x0)] ph (oV Q) X := by
  refine ct_of (lv0 := [(0, va_rf (some x0))]) (by decide +kernel) (by simp [lg_sl, cat_rf, cat_i, cat_j]) (by simp [lv_args, cat_rf, cat_i, cat_j]) ?_
  intro C A hC hAo hex hrt hnm
  have hr : HV C (ZM C G A (oV Q) X 1 1024) A G 1 cX2_init 1 1024 Q := fun pc lv ph k n d hk hn hq => e_v hC hrt pc lv ph k n d hk hn ⟨rfl, hq⟩
  have hx := e_x (Q := oV Q) (X := X) (mc := 1) (ms := 1024) hC hex
  have hn := e_n (Q := oV Q) (X := X) (mc := 1) (ms := 1024) hC hex
  have hnw := e_nw (Q := oV Q) (X := X) (mc := 1) (ms := 1024) hC hex
  have hnx := e_nx (Q := oV Q) (X := X) (mc := 1) (ms := 1024) hC hex
  have hi : (xt C).name = "<init>" := hnm
  generalize ZM C G A (oV Q) X 1 1024 = Z at *
  refine r_aload_n hC dX2_init_0 rfl 0 rfl ?_
  obtain ⟨a1, o1, h⟩ := h
  refine r_objInit hC o1 tb_277 tb_141 tb_142 (by decide) (by simp only [List.map_nil, List.map_cons, List.sum_nil, List.sum_cons, cat_rf, cat_i, cat_j]; decide) dX2_init_1 ?_
  refine r_aload_n hC dX2_init_4 rfl 0 rfl ?_
  refine r_sipush (v := 1024) hC dX2_init_5 (by decide) ?_
  refine r_newa hC (ty := .int) (N := 1024) (y := .inl (fun _ => 0)) 225 (by decide) rfl (fun _ q => by cases q) (fun _ => rfl) tb_207 (by decide) (by decide) (by decide) (by decide) (by decide) dX2_init_8 (fun a8 f8 => ?_)
  have h := h a8 _ f8 rfl
  obtain ⟨ph10, g10, h⟩ := h
  refine r_putF hC hi (ci := 5) (kf := 0) (N := 1) (Cn := RX2) (T := TX2) (ty := .array .int) (ty0 := tyX2) rfl (by decide) tin_X2 tyX2_ok nmX2 tb_278 rfl rfl rfl (by decide +kernel) (nar_ra _ _) (fit_ra _ _) dX2_init_10 g10 ?_
  exact hr _ _ _ _ _ dX2_init_13 (by decide) (by decide) h
set_option maxRecDepth 20000 in
theorem b_X7_init_39 {C : Cx} {Z : State → Prop} {A : Nat → Prop} {G : GG} {Q : PH → Prop} {X : String → PH → Prop} (hC : CxOk RX7 cX7_init 3 G A (rmk 1 20 4 415) C) (hAo : Ao (xs C)) (hr : HV C Z A G 3 cX7_init 4 415 Q) (hx : HX C Z A G 3 4 415 X) (hn : HN C Z A G 3 RX7 cX7_init 4 415 (rmk 1 20 4 415) X) (hnw : HNW C Z A G 3 RX7 cX7_init 4 415 (rmk 1 20 4 415) X) (hnx : HNX C Z A G 3 RX7 cX7_init 4 415 (rmk 1 20 4 415) X) (hi : (xt C).name = "<init>") : ∀ (fu : Nat) (x0 : Option Nat) (x1 : Int32) (ph : PH), w_X7_init_39 Q X fu x0 x1 ph → RR C Z A G 3 39 [(0, va_rf x0), (1, .int x1)] [] ph 4 415 := by
  intro fu
  induction fu with
  | zero => intro x0 x1 ph h; exact h.elim
  | succ fu ih =>
    intro x0 x1 ph h
    refine r_iload_n hC dX7_init_39 rfl 1 rfl ?_
    refine r_aload_n hC dX7_init_40 rfl 0 rfl ?_
    obtain ⟨v41, g41, h⟩ := h
    refine r_get hC (ci := 8) (kf := 0) (N := 4) (Cn := RX7) (T := TX7) rfl (by decide) tin_X7 fl_X7_9 rfl dX7_init_41 g41 ?_
    obtain ⟨v44, g44, h⟩ := h
    refine r_alen hC dX7_init_44 g44 ?_
    refine r_icmp_ge (tgt := 81) hC dX7_init_45 (by decide) (fun c9 => ?_) (fun c9 => ?_)
    · have h := h.1 c9
      exact hr _ _ _ _ _ dX7_init_81 (by decide) (by decide) h
    · have h := h.2 c9
      refine r_aload_n hC dX7_init_48 rfl 0 rfl ?_
      obtain ⟨v49, g49, h⟩ := h
      refine r_get hC (ci := 8) (kf := 0) (N := 4) (Cn := RX7) (T := TX7) rfl (by decide) tin_X7 fl_X7_9 rfl dX7_init_49 g49 ?_
      refine r_iload_n hC dX7_init_52 rfl 1 rfl ?_
      refine r_iconst (v := 1) hC dX7_init_53 (by decide) ?_
      obtain ⟨ph54, g54, h⟩ := h
      refine r_iast hC dX7_init_54 g54 ?_
      refine r_iconst (v := 4) hC dX7_init_55 (by decide) ?_
      refine r_iload_n hC dX7_init_56 rfl 1 rfl ?_
      refine r_imul hC dX7_init_57 ?_
      obtain ⟨v58, ev58⟩ : ∃ z : Int32, z = (4 : Int32) * x1 := ⟨_, rfl⟩
      have h := h v58 ev58
      refine RR.to (st' := [.int v58]) (by rw [ev58]) ?_
      refine r_istore_n (i := 2) (lv' := [(2, .int v58), (0, va_rf x0), (1, .int x1)]) hC dX7_init_58 rfl (by decide) (by first | rfl | simp [lvs1, lvs2, List.filter, cat_rf, cat_i, cat_j]) ?_
      refine r_iload_n hC dX7_init_59 rfl 0 rfl ?_
      refine r_aload_n hC dX7_init_60 rfl 1 rfl ?_
      obtain ⟨v61, g61, h⟩ := h
      refine r_get hC (ci := 8) (kf := 1) (N := 4) (Cn := RX7) (T := TX7) rfl (by decide) tin_X7 fl_X7_15 rfl dX7_init_61 g61 ?_
      obtain ⟨v64, g64, h⟩ := h
      refine r_alen hC dX7_init_64 g64 ?_
      refine r_icmp_ge (tgt := 75) hC dX7_init_65 (by decide) (fun c9 => ?_) (fun c9 => ?_)
      · have h := h.1 c9
        refine r_iinc (w := 2) (v := x1 + 1) (lv' := [(1, .int (x1 + 1)), (2, .int v58), (0, va_rf x0)]) hC dX7_init_75 rfl rfl (by decide) (by first | rfl | simp [lvs1, List.filter, cat_rf, cat_i, cat_j]) ?_
        refine r_goto (tgt := 39) hC dX7_init_78 (by decide) ?_
        exact RR.wid (by decide) (by decide) (RR.sub [2, 0] rfl (ih _ _ _ h))
      · have h := h.2 c9
        refine r_aload_n hC dX7_init_68 rfl 1 rfl ?_
        obtain ⟨v69, g69, h⟩ := h
        refine r_get hC (ci := 8) (kf := 1) (N := 4) (Cn := RX7) (T := TX7) rfl (by decide) tin_X7 fl_X7_15 rfl dX7_init_69 g69 ?_
        refine r_iload_n hC dX7_init_72 rfl 0 rfl ?_
        refine r_iload_n hC dX7_init_73 rfl 2 rfl ?_
        obtain ⟨ph74, g74, h⟩ := h
        refine r_iast hC dX7_init_74 g74 ?_
        refine r_iinc (w := 2) (v := x1 + 1) (lv' := [(1, .int (x1 + 1)), (2, .int v58), (0, va_rf x0)]) hC dX7_init_75 rfl rfl (by decide) (by first | rfl | simp [lvs1, List.filter, cat_rf, cat_i, cat_j]) ?_
        refine r_goto (tgt := 39) hC dX7_init_78 (by decide) ?_
        exact RR.wid (by decide) (by decide) (RR.sub [2, 0] rfl (ih _ _ _ h))
set_option maxRecDepth 20000 in
theorem c_X7_init (G : GG) (x0 : Nat) (ph : PH) (Q : PH → Prop) (X : String → PH → Prop) (h : w_X7_init x0 ph Q X) : Ct G yX7_init (.code yX7_init cX7_init 3 none) 1 20 4 415 [va_rf (some x0)] ph (oV Q) X := by
  refine ct_of (lv0 := [(0, va_rf (some x0))]) (by decide +kernel) (by simp [lg_sl, cat_rf, cat_i, cat_j]) (by simp [lv_args, cat_rf, cat_i, cat_j]) ?_
  intro C A hC hAo hex hrt hnm
  have hr : HV C (ZM C G A (oV Q) X 4 415) A G 3 cX7_init 4 415 Q := fun pc lv ph k n d hk hn hq => e_v hC hrt pc lv ph k n d hk hn ⟨rfl, hq⟩
  have hx := e_x (Q := oV Q) (X := X) (mc := 4) (ms := 415) hC hex
  have hn := e_n (Q := oV Q) (X := X) (mc := 4) (ms := 415) hC hex
  have hnw := e_nw (Q := oV Q) (X := X) (mc := 4) (ms := 415) hC hex
  have hnx := e_nx (Q := oV Q) (X := X) (mc := 4) (ms := 415) hC hex
  have hi : (xt C).name = "<init>" := hnm
  generalize ZM C G A (oV Q) X 4 415 = Z at *
  refine r_aload_n hC dX7_init_0 rfl 0 rfl ?_
  obtain ⟨a1, o1, h⟩ := h
  refine r_objInit hC o1 tb_287 tb_141 tb_142 (by decide) (by simp only [List.map_nil, List.map_cons, List.sum_nil, List.sum_cons, cat_rf, cat_i, cat_j]; decide) dX7_init_1 ?_
  refine r_aload_n hC dX7_init_4 rfl 0 rfl ?_
  refine r_iconst (v := 3) hC dX7_init_5 (by decide) ?_
  refine r_newa hC (ty := .int) (N := 3) (y := .inl (fun _ => 0)) 226 (by decide) rfl (fun _ q => by cases q) (fun _ => rfl) tb_207 (by decide) (by decide) (by decide) (by decide) (by decide) dX7_init_6 (fun a6 f6 => ?_)
  have h := h a6 _ f6 rfl
  obtain ⟨ph8, g8, h⟩ := h
  refine r_putF hC hi (ci := 8) (kf := 0) (N := 4) (Cn := RX7) (T := TX7) (ty := .array .int) (ty0 := tyX7) rfl (by decide) tin_X7 tyX7_ok nmX7 tb_288 rfl rfl rfl (by decide +kernel) (nar_ra _ _) (fit_ra _ _) dX7_init_8 g8 ?_
  refine r_aload_n hC dX7_init_11 rfl 0 rfl ?_
  refine r_bipush (v := 12) hC dX7_init_12 (by decide) ?_
  refine r_newa hC (ty := .int) (N := 12) (y := .inl (fun _ => 0)) 227 (by decide) rfl (fun _ q => by cases q) (fun _ => rfl) tb_207 (by decide) (by decide) (by decide) (by decide) (by decide) dX7_init_14 (fun a14 f14 => ?_)
  have h := h a14 _ f14 rfl
  obtain ⟨ph16, g16, h⟩ := h
  refine r_putF hC hi (ci := 8) (kf := 1) (N := 4) (Cn := RX7) (T := TX7) (ty := .array .int) (ty0 := tyX7) rfl (by decide) tin_X7 tyX7_ok nmX7 tb_289 rfl rfl rfl (by decide +kernel) (nar_ra _ _) (fit_ra _ _) dX7_init_16 g16 ?_
  refine r_aload_n hC dX7_init_19 rfl 0 rfl ?_
  refine r_sipush (v := 200) hC dX7_init_20 (by decide) ?_
  refine r_newa hC (ty := .int) (N := 200) (y := .inl (fun _ => 0)) 228 (by decide) rfl (fun _ q => by cases q) (fun _ => rfl) tb_207 (by decide) (by decide) (by decide) (by decide) (by decide) dX7_init_23 (fun a23 f23 => ?_)
  have h := h a23 _ f23 rfl
  obtain ⟨ph25, g25, h⟩ := h
  refine r_putF hC hi (ci := 8) (kf := 2) (N := 4) (Cn := RX7) (T := TX7) (ty := .array .int) (ty0 := tyX7) rfl (by decide) tin_X7 tyX7_ok nmX7 tb_290 rfl rfl rfl (by decide +kernel) (nar_ra _ _) (fit_ra _ _) dX7_init_25 g25 ?_
  refine r_aload_n hC dX7_init_28 rfl 0 rfl ?_
  refine r_sipush (v := 200) hC dX7_init_29 (by decide) ?_
  refine r_newa hC (ty := .int) (N := 200) (y := .inl (fun _ => 0)) 229 (by decide) rfl (fun _ q => by cases q) (fun _ => rfl) tb_207 (by decide) (by decide) (by decide) (by decide) (by decide) dX7_init_32 (fun a32 f32 => ?_)
  have h := h a32 _ f32 rfl
  obtain ⟨ph34, g34, h⟩ := h
  refine r_putF hC hi (ci := 8) (kf := 3) (N := 4) (Cn := RX7) (T := TX7) (ty := .array .int) (ty0 := tyX7) rfl (by decide) tin_X7 tyX7_ok nmX7 tb_291 rfl rfl rfl (by decide +kernel) (nar_ra _ _) (fit_ra _ _) dX7_init_34 g34 ?_
  refine r_iconst (v := 0) hC dX7_init_37 (by decide) ?_
  refine r_istore_n (i := 1) (lv' := [(1, .int (0 : Int32)), (0, va_rf (some x0))]) hC dX7_init_38 rfl (by decide) (by first | rfl | simp [lvs1, lvs2, List.filter, cat_rf, cat_i, cat_j]) ?_
  obtain ⟨fu39, h⟩ := h
  exact RR.wid (by decide) (by decide) (RR.sub [1, 0] rfl (b_X7_init_39 hC hAo hr hx hn hnw hnx hi  fu39 _ _ _ h))
set_option maxRecDepth 20000 in
theorem c_X11_init (G : GG) (x0 : Nat) (ph : PH) (Q : PH → Prop) (X : String → PH → Prop) (h : w_X11_init x0 ph Q X) : Ct G yX11_init (.code yX11_init cX11_init 1 none) 3 60 39 7603 [va_rf (some x0)] ph (oV Q) X := by
  refine ct_of (lv0 := [(0, va_rf (some x0))]) (by decide +kernel) (by simp [lg_sl, cat_rf, cat_i, cat_j]) (by simp [lv_args, cat_rf, cat_i, cat_j]) ?_
  intro C A hC hAo hex hrt hnm
  have hr : HV C (ZM C G A (oV Q) X 39 7603) A G 1 cX11_init 39 7603 Q := fun pc lv ph k n d hk hn hq => e_v hC hrt pc lv ph k n d hk hn ⟨rfl, hq⟩
  have hx := e_x (Q := oV Q) (X := X) (mc := 39) (ms := 7603) hC hex
  have hn := e_n (Q := oV Q) (X := X) (mc := 39) (ms := 7603) hC hex
  have hnw := e_nw (Q := oV Q) (X := X) (mc := 39) (ms := 7603) hC hex
  have hnx := e_nx (Q := oV Q) (X := X) (mc := 39) (ms := 7603) hC hex
  have hi : (xt C).name = "<init>" := hnm
  generalize ZM C G A (oV Q) X 39 7603 = Z at *
  refine r_aload_n hC dX11_init_0 rfl 0 rfl ?_
  obtain ⟨a1, o1, h⟩ := h
  refine r_objInit hC o1 tb_140 tb_141 tb_142 (by decide) (by simp only [List.map_nil, List.map_cons, List.sum_nil, List.sum_cons, cat_rf, cat_i, cat_j]; decide) dX11_init_1 ?_
  refine r_aload_n hC dX11_init_4 rfl 0 rfl ?_
  refine r_new hC (ci := 10) (N := 2) (Cn := RX9) (T := TX9) (ty := tyX9) (fs := [.null, .int 0]) 110 (by decide) rfl tin_X9 tyX9_ok tb_143 tb_144 tb_102 rfl (fun j hj => by rcases (show j = 0 ∨ j = 1 by omega) with rfl | rfl <;> rfl) (by decide) (by decide) dX11_init_5 (fun a5 f5 => ?_)
  have h := h a5 _ f5 rfl
  refine r_dup hC dX11_init_8 (by first | rfl | exact cat_rf _) ?_
  obtain ⟨a9, o9, h⟩ := h
  refine r_IV hC hAo [] cal_X9_init ml_X11_9 rfl o9 (c_X9_init G _ _ _ _ h) ⟨by decide, by decide⟩ ⟨by decide, by decide⟩ (by simp only [List.map_nil, List.map_cons, List.sum_nil, List.sum_cons, cat_rf, cat_i, cat_j]; decide) rfl dX11_init_9 (fun E u hx9 => hx _ _ _ _ _ _ _ (by decide) (by decide) hx9) (fun ph9 h => ?_)
  refine RR.wid (k' := 2) (n' := 42) (by decide) (by decide) ?_
  obtain ⟨ph12, g12, h⟩ := h
  refine r_putF hC hi (ci := 12) (kf := 0) (N := 12) (Cn := RX11) (T := TX11) (ty := .object "Shiftgate$Tape") (ty0 := tyX11) rfl (by decide) tin_X11 tyX11_ok nmX11 tb_301 rfl rfl rfl (by decide +kernel) (nar_rf _ _) (fit_rf _ _) dX11_init_12 g12 ?_
  refine r_aload_n hC dX11_init_15 rfl 0 rfl ?_
  refine r_bipush (v := 8) hC dX11_init_16 (by decide) ?_
  refine r_anew hC (cn := "Shiftgate$Graph") (N := 8) 203 (by decide) tb_161 (hAo.1 _ (by decide)) (by decide) (by decide) (by decide) (by decide) (by decide) dX11_init_18 (fun a18 f18 => ?_)
  have h := h a18 _ f18 rfl
  obtain ⟨ph21, g21, h⟩ := h
  refine r_putF hC hi (ci := 12) (kf := 1) (N := 12) (Cn := RX11) (T := TX11) (ty := .array (.object "Shiftgate$Graph")) (ty0 := tyX11) rfl (by decide) tin_X11 tyX11_ok nmX11 tb_302 rfl rfl rfl (by decide +kernel) (nar_ra _ _) (fit_ra _ _) dX11_init_21 g21 ?_
  refine r_aload_n hC dX11_init_24 rfl 0 rfl ?_
  refine r_bipush (v := 6) hC dX11_init_25 (by decide) ?_
  refine r_anew hC (cn := "Shiftgate$Block") (N := 6) 204 (by decide) tb_163 (hAo.1 _ (by decide)) (by decide) (by decide) (by decide) (by decide) (by decide) dX11_init_27 (fun a27 f27 => ?_)
  have h := h a27 _ f27 rfl
  obtain ⟨ph30, g30, h⟩ := h
  refine r_putF hC hi (ci := 12) (kf := 3) (N := 12) (Cn := RX11) (T := TX11) (ty := .array (.object "Shiftgate$Block")) (ty0 := tyX11) rfl (by decide) tin_X11 tyX11_ok nmX11 tb_304 rfl rfl rfl (by decide +kernel) (nar_ra _ _) (fit_ra _ _) dX11_init_30 g30 ?_
  refine r_aload_n hC dX11_init_33 rfl 0 rfl ?_
  refine r_bipush (v := 8) hC dX11_init_34 (by decide) ?_
  refine r_anew hC (cn := "Shiftgate$Table") (N := 8) 205 (by decide) tb_165 (hAo.1 _ (by decide)) (by decide) (by decide) (by decide) (by decide) (by decide) dX11_init_36 (fun a36 f36 => ?_)
  have h := h a36 _ f36 rfl
  obtain ⟨ph39, g39, h⟩ := h
  refine r_putF hC hi (ci := 12) (kf := 5) (N := 12) (Cn := RX11) (T := TX11) (ty := .array (.object "Shiftgate$Table")) (ty0 := tyX11) rfl (by decide) tin_X11 tyX11_ok nmX11 tb_306 rfl rfl rfl (by decide +kernel) (nar_ra _ _) (fit_ra _ _) dX11_init_39 g39 ?_
  refine r_aload_n hC dX11_init_42 rfl 0 rfl ?_
  refine r_new hC (ci := 7) (N := 11) (Cn := RX6) (T := TX6) (ty := tyX6) (fs := [.null, .null, .null, .null, .null, .null, .null, .null, .null, .null, .null]) 107 (by decide) rfl tin_X6 tyX6_ok tb_167 tb_168 tb_103 rfl (fun j hj => by rcases (show j = 0 ∨ j = 1 ∨ j = 2 ∨ j = 3 ∨ j = 4 ∨ j = 5 ∨ j = 6 ∨ j = 7 ∨ j = 8 ∨ j = 9 ∨ j = 10 by omega) with rfl | rfl | rfl | rfl | rfl | rfl | rfl | rfl | rfl | rfl | rfl <;> rfl) (by decide) (by decide) dX11_init_43 (fun a43 f43 => ?_)
  have h := h a43 _ f43 rfl
  refine r_dup hC dX11_init_46 (by first | rfl | exact cat_rf _) ?_
  obtain ⟨a47, o47, h⟩ := h
  refine r_IV hC hAo [] cal_X6_init ml_X11_36 rfl o47 (c_X6_init G _ _ _ _ h) ⟨by decide, by decide⟩ ⟨by decide, by decide⟩ (by simp only [List.map_nil, List.map_cons, List.sum_nil, List.sum_cons, cat_rf, cat_i, cat_j]; decide) rfl dX11_init_47 (fun E u hx9 => hx _ _ _ _ _ _ _ (by decide) (by decide) hx9) (fun ph47 h => ?_)
  refine RR.wid (k' := 17) (n' := 4557) (by decide) (by decide) ?_
  obtain ⟨ph50, g50, h⟩ := h
  refine r_putF hC hi (ci := 12) (kf := 7) (N := 12) (Cn := RX11) (T := TX11) (ty := .object "Shiftgate$Reader") (ty0 := tyX11) rfl (by decide) tin_X11 tyX11_ok nmX11 tb_308 rfl rfl rfl (by decide +kernel) (nar_rf _ _) (fit_rf _ _) dX11_init_50 g50 ?_
  refine r_aload_n hC dX11_init_53 rfl 0 rfl ?_
  refine r_new hC (ci := 11) (N := 2) (Cn := RX10) (T := TX10) (ty := tyX10) (fs := [.null, .null]) 111 (by decide) rfl tin_X10 tyX10_ok tb_208 tb_209 tb_104 rfl (fun j hj => by rcases (show j = 0 ∨ j = 1 by omega) with rfl | rfl <;> rfl) (by decide) (by decide) dX11_init_54 (fun a54 f54 => ?_)
  have h := h a54 _ f54 rfl
  refine r_dup hC dX11_init_57 (by first | rfl | exact cat_rf _) ?_
  obtain ⟨a58, o58, h⟩ := h
  refine r_IV hC hAo [] cal_X10_init ml_X11_43 rfl o58 (c_X10_init G _ _ _ _ h) ⟨by decide, by decide⟩ ⟨by decide, by decide⟩ (by simp only [List.map_nil, List.map_cons, List.sum_nil, List.sum_cons, cat_rf, cat_i, cat_j]; decide) rfl dX11_init_58 (fun E u hx9 => hx _ _ _ _ _ _ _ (by decide) (by decide) hx9) (fun ph58 h => ?_)
  refine RR.wid (k' := 20) (n' := 4607) (by decide) (by decide) ?_
  obtain ⟨ph61, g61, h⟩ := h
  refine r_putF hC hi (ci := 12) (kf := 8) (N := 12) (Cn := RX11) (T := TX11) (ty := .object "Shiftgate$Ways") (ty0 := tyX11) rfl (by decide) tin_X11 tyX11_ok nmX11 tb_309 rfl rfl rfl (by decide +kernel) (nar_rf _ _) (fit_rf _ _) dX11_init_61 g61 ?_
  refine r_aload_n hC dX11_init_64 rfl 0 rfl ?_
  refine r_new hC (ci := 3) (N := 8) (Cn := RX0) (T := TX0) (ty := tyX0) (fs := [.null, .null, .null, .null, .null, .null, .null, .null]) 103 (by decide) rfl tin_X0 tyX0_ok tb_221 tb_222 tb_105 rfl (fun j hj => by rcases (show j = 0 ∨ j = 1 ∨ j = 2 ∨ j = 3 ∨ j = 4 ∨ j = 5 ∨ j = 6 ∨ j = 7 by omega) with rfl | rfl | rfl | rfl | rfl | rfl | rfl | rfl <;> rfl) (by decide) (by decide) dX11_init_65 (fun a65 f65 => ?_)
  have h := h a65 _ f65 rfl
  refine r_dup hC dX11_init_68 (by first | rfl | exact cat_rf _) ?_
  obtain ⟨a69, o69, h⟩ := h
  refine r_IV hC hAo [] cal_X0_init ml_X11_50 rfl o69 (c_X0_init G _ _ _ _ h) ⟨by decide, by decide⟩ ⟨by decide, by decide⟩ (by simp only [List.map_nil, List.map_cons, List.sum_nil, List.sum_cons, cat_rf, cat_i, cat_j]; decide) rfl dX11_init_69 (fun E u hx9 => hx _ _ _ _ _ _ _ (by decide) (by decide) hx9) (fun ph69 h => ?_)
  refine RR.wid (k' := 32) (n' := 6159) (by decide) (by decide) ?_
  obtain ⟨ph72, g72, h⟩ := h
  refine r_putF hC hi (ci := 12) (kf := 9) (N := 12) (Cn := RX11) (T := TX11) (ty := .object "Shiftgate$Algebra") (ty0 := tyX11) rfl (by decide) tin_X11 tyX11_ok nmX11 tb_310 rfl rfl rfl (by decide +kernel) (nar_rf _ _) (fit_rf _ _) dX11_init_72 g72 ?_
  refine r_aload_n hC dX11_init_75 rfl 0 rfl ?_
  refine r_new hC (ci := 5) (N := 1) (Cn := RX2) (T := TX2) (ty := tyX2) (fs := [.null]) 105 (by decide) rfl tin_X2 tyX2_ok tb_272 tb_273 tb_107 rfl (fun j hj => by rcases (show j = 0 by omega) with rfl <;> rfl) (by decide) (by decide) dX11_init_76 (fun a76 f76 => ?_)
  have h := h a76 _ f76 rfl
  refine r_dup hC dX11_init_79 (by first | rfl | exact cat_rf _) ?_
  obtain ⟨a80, o80, h⟩ := h
  refine r_IV hC hAo [] cal_X2_init ml_X11_57 rfl o80 (c_X2_init G _ _ _ _ h) ⟨by decide, by decide⟩ ⟨by decide, by decide⟩ (by simp only [List.map_nil, List.map_cons, List.sum_nil, List.sum_cons, cat_rf, cat_i, cat_j]; decide) rfl dX11_init_80 (fun E u hx9 => hx _ _ _ _ _ _ _ (by decide) (by decide) hx9) (fun ph80 h => ?_)
  refine RR.wid (k' := 34) (n' := 7184) (by decide) (by decide) ?_
  obtain ⟨ph83, g83, h⟩ := h
  refine r_putF hC hi (ci := 12) (kf := 10) (N := 12) (Cn := RX11) (T := TX11) (ty := .object "Shiftgate$Cells") (ty0 := tyX11) rfl (by decide) tin_X11 tyX11_ok nmX11 tb_311 rfl rfl rfl (by decide +kernel) (nar_rf _ _) (fit_rf _ _) dX11_init_83 g83 ?_
  refine r_aload_n hC dX11_init_86 rfl 0 rfl ?_
  refine r_new hC (ci := 8) (N := 4) (Cn := RX7) (T := TX7) (ty := tyX7) (fs := [.null, .null, .null, .null]) 108 (by decide) rfl tin_X7 tyX7_ok tb_282 tb_283 tb_108 rfl (fun j hj => by rcases (show j = 0 ∨ j = 1 ∨ j = 2 ∨ j = 3 by omega) with rfl | rfl | rfl | rfl <;> rfl) (by decide) (by decide) dX11_init_87 (fun a87 f87 => ?_)
  have h := h a87 _ f87 rfl
  refine r_dup hC dX11_init_90 (by first | rfl | exact cat_rf _) ?_
  obtain ⟨a91, o91, h⟩ := h
  refine r_IV hC hAo [] cal_X7_init ml_X11_64 rfl o91 (c_X7_init G _ _ _ _ h) ⟨by decide, by decide⟩ ⟨by decide, by decide⟩ (by simp only [List.map_nil, List.map_cons, List.sum_nil, List.sum_cons, cat_rf, cat_i, cat_j]; decide) rfl dX11_init_91 (fun E u hx9 => hx _ _ _ _ _ _ _ (by decide) (by decide) hx9) (fun ph91 h => ?_)
  refine RR.wid (k' := 39) (n' := 7603) (by decide) (by decide) ?_
  obtain ⟨ph94, g94, h⟩ := h
  refine r_putF hC hi (ci := 12) (kf := 11) (N := 12) (Cn := RX11) (T := TX11) (ty := .object "Shiftgate$Replacer") (ty0 := tyX11) rfl (by decide) tin_X11 tyX11_ok nmX11 tb_312 rfl rfl rfl (by decide +kernel) (nar_rf _ _) (fit_rf _ _) dX11_init_94 g94 ?_
  exact hr _ _ _ _ _ dX11_init_97 (by decide) (by decide) h
set_option maxRecDepth 20000 in
theorem c_X9_letterOf (G : GG) (x0 : Int32) (ph : PH) (Q : Int32 → PH → Prop) (X : String → PH → Prop) (h : w_X9_letterOf x0 ph Q X) : Ct G yX9_letterOf (.code yX9_letterOf cX9_letterOf 1 (some (.int))) 0 0 0 0 [.int x0] ph (oI Q) X := by
  refine ct_of (lv0 := [(0, .int x0)]) (by decide +kernel) (by simp [lg_sl, cat_rf, cat_i, cat_j]) (by simp [lv_args, cat_rf, cat_i, cat_j]) ?_
  intro C A hC hAo hex hrt hnm
  have hr : HI C (ZM C G A (oI Q) X 0 0) A G 1 cX9_letterOf 0 0 Q := fun pc lv v ph k n d hk hn hq => e_i hC hrt pc lv v ph k n d hk hn ⟨v, rfl, hq⟩
  have hx := e_x (Q := oI Q) (X := X) (mc := 0) (ms := 0) hC hex
  have hn := e_n (Q := oI Q) (X := X) (mc := 0) (ms := 0) hC hex
  have hnw := e_nw (Q := oI Q) (X := X) (mc := 0) (ms := 0) hC hex
  have hnx := e_nx (Q := oI Q) (X := X) (mc := 0) (ms := 0) hC hex
  have hi : True := trivial
  generalize ZM C G A (oI Q) X 0 0 = Z at *
  refine r_iload_n hC dX9_letterOf_0 rfl 0 rfl ?_
  refine r_bipush (v := 97) hC dX9_letterOf_1 (by decide) ?_
  refine r_icmp_lt (tgt := 19) hC dX9_letterOf_3 (by decide) (fun c9 => ?_) (fun c9 => ?_)
  · have h := h.1 c9
    refine r_iconst (v := -1) hC dX9_letterOf_19 (by decide) ?_
    exact hr _ _ _ _ _ _ dX9_letterOf_20 (by decide) (by decide) h
  · have h := h.2 c9
    refine r_iload_n hC dX9_letterOf_6 rfl 0 rfl ?_
    refine r_bipush (v := 99) hC dX9_letterOf_7 (by decide) ?_
    refine r_icmp_gt (tgt := 19) hC dX9_letterOf_9 (by decide) (fun c9 => ?_) (fun c9 => ?_)
    · have h := h.1 c9
      refine r_iconst (v := -1) hC dX9_letterOf_19 (by decide) ?_
      exact hr _ _ _ _ _ _ dX9_letterOf_20 (by decide) (by decide) h
    · have h := h.2 c9
      refine r_iload_n hC dX9_letterOf_12 rfl 0 rfl ?_
      refine r_bipush (v := 97) hC dX9_letterOf_13 (by decide) ?_
      refine r_isub hC dX9_letterOf_15 ?_
      refine r_goto (tgt := 20) hC dX9_letterOf_16 (by decide) ?_
      exact hr _ _ _ _ _ _ dX9_letterOf_20 (by decide) (by decide) h
set_option maxRecDepth 20000 in
theorem c_X9_isSign (G : GG) (x0 : Int32) (ph : PH) (Q : Int32 → PH → Prop) (X : String → PH → Prop) (h : w_X9_isSign x0 ph Q X) : Ct G yX9_isSign (.code yX9_isSign cX9_isSign 1 (some (.boolean))) 1 20 0 0 [.int x0] ph (oI Q) X := by
  refine ct_of (lv0 := [(0, .int x0)]) (by decide +kernel) (by simp [lg_sl, cat_rf, cat_i, cat_j]) (by simp [lv_args, cat_rf, cat_i, cat_j]) ?_
  intro C A hC hAo hex hrt hnm
  have hr : HZ C (ZM C G A (oI Q) X 0 0) A G 1 cX9_isSign 0 0 Q := fun pc lv v ph k n d hk hn hq => e_s hC (ty := .boolean) hrt pc lv v ph k n d hk hn ⟨hq.1, v, rfl, hq.2⟩
  have hx := e_x (Q := oI Q) (X := X) (mc := 0) (ms := 0) hC hex
  have hn := e_n (Q := oI Q) (X := X) (mc := 0) (ms := 0) hC hex
  have hnw := e_nw (Q := oI Q) (X := X) (mc := 0) (ms := 0) hC hex
  have hnx := e_nx (Q := oI Q) (X := X) (mc := 0) (ms := 0) hC hex
  have hi : True := trivial
  generalize ZM C G A (oI Q) X 0 0 = Z at *
  refine r_iload_n hC dX9_isSign_0 rfl 0 rfl ?_
  refine r_SI hC hAo [.int x0] cal_X9_letterOf ml_X9_15 rfl (c_X9_letterOf G _ _ _ _ h) ⟨by decide, by decide⟩ ⟨by decide, by decide⟩ (by simp only [List.map_nil, List.map_cons, List.sum_nil, List.sum_cons, cat_rf, cat_i, cat_j]; decide) rfl dX9_isSign_1 (fun E u hx9 => hx _ _ _ _ _ _ _ (by decide) (by decide) hx9) (fun v1 ph1 h => ?_)
  refine RR.wid (k' := 0) (n' := 0) (by decide) (by decide) ?_
  refine r_if_ge (tgt := 25) hC dX9_isSign_4 (by decide) (fun c9 => ?_) (fun c9 => ?_)
  · have h := h.1 c9
    refine r_iconst (v := 1) hC dX9_isSign_25 (by decide) ?_
    refine r_goto (tgt := 30) hC dX9_isSign_26 (by decide) ?_
    exact hr _ _ _ _ _ _ dX9_isSign_30 (by decide) (by decide) h
  · have h := h.2 c9
    refine r_iload_n hC dX9_isSign_7 rfl 0 rfl ?_
    refine r_bipush (v := 76) hC dX9_isSign_8 (by decide) ?_
    refine r_icmp_eq (tgt := 25) hC dX9_isSign_10 (by decide) (fun c9 => ?_) (fun c9 => ?_)
    · have h := h.1 c9
      refine r_iconst (v := 1) hC dX9_isSign_25 (by decide) ?_
      refine r_goto (tgt := 30) hC dX9_isSign_26 (by decide) ?_
      exact hr _ _ _ _ _ _ dX9_isSign_30 (by decide) (by decide) h
    · have h := h.2 c9
      refine r_iload_n hC dX9_isSign_13 rfl 0 rfl ?_
      refine r_bipush (v := 82) hC dX9_isSign_14 (by decide) ?_
      refine r_icmp_eq (tgt := 25) hC dX9_isSign_16 (by decide) (fun c9 => ?_) (fun c9 => ?_)
      · have h := h.1 c9
        refine r_iconst (v := 1) hC dX9_isSign_25 (by decide) ?_
        refine r_goto (tgt := 30) hC dX9_isSign_26 (by decide) ?_
        exact hr _ _ _ _ _ _ dX9_isSign_30 (by decide) (by decide) h
      · have h := h.2 c9
        refine r_iload_n hC dX9_isSign_19 rfl 0 rfl ?_
        refine r_bipush (v := 44) hC dX9_isSign_20 (by decide) ?_
        refine r_icmp_ne (tgt := 29) hC dX9_isSign_22 (by decide) (fun c9 => ?_) (fun c9 => ?_)
        · have h := h.1 c9
          refine r_iconst (v := 0) hC dX9_isSign_29 (by decide) ?_
          exact hr _ _ _ _ _ _ dX9_isSign_30 (by decide) (by decide) h
        · have h := h.2 c9
          refine r_iconst (v := 1) hC dX9_isSign_25 (by decide) ?_
          refine r_goto (tgt := 30) hC dX9_isSign_26 (by decide) ?_
          exact hr _ _ _ _ _ _ dX9_isSign_30 (by decide) (by decide) h
set_option maxRecDepth 20000 in
theorem c_X9_append (G : GG) (x0 : Nat) (x1 : Int32) (ph : PH) (Q : PH → Prop) (X : String → PH → Prop) (h : w_X9_append x0 x1 ph Q X) : Ct G yX9_append (.code yX9_append cX9_append 2 none) 0 0 0 0 [va_rf (some x0), .int x1] ph (oV Q) X := by
  refine ct_of (lv0 := [(0, va_rf (some x0)), (1, .int x1)]) (by decide +kernel) (by simp [lg_sl, cat_rf, cat_i, cat_j]) (by simp [lv_args, cat_rf, cat_i, cat_j]) ?_
  intro C A hC hAo hex hrt hnm
  have hr : HV C (ZM C G A (oV Q) X 0 0) A G 2 cX9_append 0 0 Q := fun pc lv ph k n d hk hn hq => e_v hC hrt pc lv ph k n d hk hn ⟨rfl, hq⟩
  have hx := e_x (Q := oV Q) (X := X) (mc := 0) (ms := 0) hC hex
  have hn := e_n (Q := oV Q) (X := X) (mc := 0) (ms := 0) hC hex
  have hnw := e_nw (Q := oV Q) (X := X) (mc := 0) (ms := 0) hC hex
  have hnx := e_nx (Q := oV Q) (X := X) (mc := 0) (ms := 0) hC hex
  have hi : True := trivial
  generalize ZM C G A (oV Q) X 0 0 = Z at *
  refine r_aload_n hC dX9_append_0 rfl 0 rfl ?_
  obtain ⟨v1, g1, h⟩ := h
  refine r_get hC (ci := 10) (kf := 1) (N := 2) (Cn := RX9) (T := TX9) rfl (by decide) tin_X9 fl_X9_19 rfl dX9_append_1 g1 ?_
  refine r_if_lt (tgt := 39) hC dX9_append_4 (by decide) (fun c9 => ?_) (fun c9 => ?_)
  · have h := h.1 c9
    exact hr _ _ _ _ _ dX9_append_39 (by decide) (by decide) h
  · have h := h.2 c9
    refine r_aload_n hC dX9_append_7 rfl 0 rfl ?_
    obtain ⟨v8, g8, h⟩ := h
    refine r_get hC (ci := 10) (kf := 1) (N := 2) (Cn := RX9) (T := TX9) rfl (by decide) tin_X9 fl_X9_19 rfl dX9_append_8 g8 ?_
    refine r_aload_n hC dX9_append_11 rfl 0 rfl ?_
    obtain ⟨v12, g12, h⟩ := h
    refine r_get hC (ci := 10) (kf := 0) (N := 2) (Cn := RX9) (T := TX9) rfl (by decide) tin_X9 fl_X9_9 rfl dX9_append_12 g12 ?_
    obtain ⟨v15, g15, h⟩ := h
    refine r_alen hC dX9_append_15 g15 ?_
    refine r_icmp_ge (tgt := 39) hC dX9_append_16 (by decide) (fun c9 => ?_) (fun c9 => ?_)
    · have h := h.1 c9
      exact hr _ _ _ _ _ dX9_append_39 (by decide) (by decide) h
    · have h := h.2 c9
      refine r_aload_n hC dX9_append_19 rfl 0 rfl ?_
      obtain ⟨v20, g20, h⟩ := h
      refine r_get hC (ci := 10) (kf := 0) (N := 2) (Cn := RX9) (T := TX9) rfl (by decide) tin_X9 fl_X9_9 rfl dX9_append_20 g20 ?_
      refine r_aload_n hC dX9_append_23 rfl 0 rfl ?_
      obtain ⟨v24, g24, h⟩ := h
      refine r_get hC (ci := 10) (kf := 1) (N := 2) (Cn := RX9) (T := TX9) rfl (by decide) tin_X9 fl_X9_19 rfl dX9_append_24 g24 ?_
      refine r_iload_n hC dX9_append_27 rfl 1 rfl ?_
      obtain ⟨n28, h⟩ := h
      obtain ⟨ph28, g28, h⟩ := h
      refine r_cast hC n28 dX9_append_28 g28 ?_
      refine r_aload_n hC dX9_append_29 rfl 0 rfl ?_
      refine r_dup hC dX9_append_30 (by first | rfl | exact cat_rf _) ?_
      obtain ⟨v31, g31, h⟩ := h
      refine r_get hC (ci := 10) (kf := 1) (N := 2) (Cn := RX9) (T := TX9) rfl (by decide) tin_X9 fl_X9_19 rfl dX9_append_31 g31 ?_
      refine r_iconst (v := 1) hC dX9_append_34 (by decide) ?_
      refine r_iadd hC dX9_append_35 ?_
      obtain ⟨ph36, g36, h⟩ := h
      refine r_put hC (ci := 10) (kf := 1) (N := 2) (Cn := RX9) (T := TX9) (ty := .int) (ty0 := tyX9) rfl (by decide) tin_X9 tyX9_ok nmX9 fl_X9_19 rfl rfl (by decide +kernel) rfl rfl dX9_append_36 g36 ?_
      exact hr _ _ _ _ _ dX9_append_39 (by decide) (by decide) h
set_option maxRecDepth 20000 in
theorem c_X11_type (G : GG) (x0 : Nat) (x1 : Int32) (ph : PH) (Q : Int32 → PH → Prop) (X : String → PH → Prop) (h : w_X11_type x0 x1 ph Q X) : Ct G yX11_type (.code yX11_type cX11_type 2 (some (.int))) 6 90 1 6 [va_rf (some x0), .int x1] ph (oI Q) X := by
  refine ct_of (lv0 := [(0, va_rf (some x0)), (1, .int x1)]) (by decide +kernel) (by simp [lg_sl, cat_rf, cat_i, cat_j]) (by simp [lv_args, cat_rf, cat_i, cat_j]) ?_
  intro C A hC hAo hex hrt hnm
  have hr : HI C (ZM C G A (oI Q) X 1 6) A G 2 cX11_type 1 6 Q := fun pc lv v ph k n d hk hn hq => e_i hC hrt pc lv v ph k n d hk hn ⟨v, rfl, hq⟩
  have hx := e_x (Q := oI Q) (X := X) (mc := 1) (ms := 6) hC hex
  have hn := e_n (Q := oI Q) (X := X) (mc := 1) (ms := 6) hC hex
  have hnw := e_nw (Q := oI Q) (X := X) (mc := 1) (ms := 6) hC hex
  have hnx := e_nx (Q := oI Q) (X := X) (mc := 1) (ms := 6) hC hex
  have hi : True := trivial
  generalize ZM C G A (oI Q) X 1 6 = Z at *
  refine r_iload_n hC dX11_type_0 rfl 1 rfl ?_
  refine r_SI hC hAo [.int x1] cal_X9_isSign ml_X11_69 rfl (c_X9_isSign G _ _ _ _ h) ⟨by decide, by decide⟩ ⟨by decide, by decide⟩ (by simp only [List.map_nil, List.map_cons, List.sum_nil, List.sum_cons, cat_rf, cat_i, cat_j]; decide) rfl dX11_type_1 (fun E u hx9 => hx _ _ _ _ _ _ _ (by decide) (by decide) hx9) (fun v1 ph1 h => ?_)
  refine RR.wid (k' := 0) (n' := 0) (by decide) (by decide) ?_
  refine r_if_ne (tgt := 17) hC dX11_type_4 (by decide) (fun c9 => ?_) (fun c9 => ?_)
  · have h := h.1 c9
    refine r_aload_n hC dX11_type_17 rfl 0 rfl ?_
    obtain ⟨v18, g18, h⟩ := h
    refine r_get hC (ci := 12) (kf := 0) (N := 12) (Cn := RX11) (T := TX11) rfl (by decide) tin_X11 fl_X11_10 rfl dX11_type_18 g18 ?_
    obtain ⟨v21, g21, h⟩ := h
    refine r_get hC (ci := 10) (kf := 1) (N := 2) (Cn := RX9) (T := TX9) rfl (by decide) tin_X9 fl_X11_80 rfl dX11_type_21 g21 ?_
    refine r_bipush (v := 40) hC dX11_type_24 (by decide) ?_
    refine r_icmp_lt (tgt := 39) hC dX11_type_26 (by decide) (fun c9 => ?_) (fun c9 => ?_)
    · have h := h.1 c9
      refine r_aload_n hC dX11_type_39 rfl 0 rfl ?_
      obtain ⟨v40, g40, h⟩ := h
      refine r_get hC (ci := 12) (kf := 0) (N := 12) (Cn := RX11) (T := TX11) rfl (by decide) tin_X11 fl_X11_10 rfl dX11_type_40 g40 ?_
      refine r_iload_n hC dX11_type_43 rfl 1 rfl ?_
      obtain ⟨a44, o44, h⟩ := h
      refine r_VV hC hAo [.int x1] cal_X9_append ml_X11_89 (ci := 10) rfl rfl rfl (c_X9_append G _ _ _ _ _ h) o44 ⟨by decide, by decide⟩ ⟨by decide, by decide⟩ (by simp only [List.map_nil, List.map_cons, List.sum_nil, List.sum_cons, cat_rf, cat_i, cat_j]; decide) rfl dX11_type_44 (fun E u hx9 => hx _ _ _ _ _ _ _ (by decide) (by decide) hx9) (fun ph44 h => ?_)
      refine RR.wid (k' := 0) (n' := 0) (by decide) (by decide) ?_
      refine r_aload_n hC dX11_type_47 rfl 0 rfl ?_
      obtain ⟨v48, g48, h⟩ := h
      refine r_get hC (ci := 12) (kf := 0) (N := 12) (Cn := RX11) (T := TX11) rfl (by decide) tin_X11 fl_X11_10 rfl dX11_type_48 g48 ?_
      obtain ⟨v51, g51, h⟩ := h
      refine r_get hC (ci := 10) (kf := 1) (N := 2) (Cn := RX9) (T := TX9) rfl (by decide) tin_X9 fl_X11_80 rfl dX11_type_51 g51 ?_
      exact hr _ _ _ _ _ _ dX11_type_54 (by decide) (by decide) h
    · have h := h.2 c9
      exact hn _ _ _ _ _ _ _ _ _ _ _ _ 1 th_X11_84_88 rfl dX11_type_29 dX11_type_32 dX11_type_33 dX11_type_35 dX11_type_38 (by decide) (by simp only [List.map_nil, List.map_cons, List.sum_nil, List.sum_cons, cat_rf, cat_i, cat_j]; decide) (by decide) (by decide) (by decide) (by decide) h
  · have h := h.2 c9
    exact hn _ _ _ _ _ _ _ _ _ _ _ _ 0 th_X11_73_77 rfl dX11_type_7 dX11_type_10 dX11_type_11 dX11_type_13 dX11_type_16 (by decide) (by simp only [List.map_nil, List.map_cons, List.sum_nil, List.sum_cons, cat_rf, cat_i, cat_j]; decide) (by decide) (by decide) (by decide) (by decide) h
set_option maxRecDepth 20000 in
theorem c_X9_empty (G : GG) (x0 : Nat) (ph : PH) (Q : PH → Prop) (X : String → PH → Prop) (h : w_X9_empty x0 ph Q X) : Ct G yX9_empty (.code yX9_empty cX9_empty 1 none) 0 0 0 0 [va_rf (some x0)] ph (oV Q) X := by
  refine ct_of (lv0 := [(0, va_rf (some x0))]) (by decide +kernel) (by simp [lg_sl, cat_rf, cat_i, cat_j]) (by simp [lv_args, cat_rf, cat_i, cat_j]) ?_
  intro C A hC hAo hex hrt hnm
  have hr : HV C (ZM C G A (oV Q) X 0 0) A G 1 cX9_empty 0 0 Q := fun pc lv ph k n d hk hn hq => e_v hC hrt pc lv ph k n d hk hn ⟨rfl, hq⟩
  have hx := e_x (Q := oV Q) (X := X) (mc := 0) (ms := 0) hC hex
  have hn := e_n (Q := oV Q) (X := X) (mc := 0) (ms := 0) hC hex
  have hnw := e_nw (Q := oV Q) (X := X) (mc := 0) (ms := 0) hC hex
  have hnx := e_nx (Q := oV Q) (X := X) (mc := 0) (ms := 0) hC hex
  have hi : True := trivial
  generalize ZM C G A (oV Q) X 0 0 = Z at *
  refine r_aload_n hC dX9_empty_0 rfl 0 rfl ?_
  refine r_iconst (v := 0) hC dX9_empty_1 (by decide) ?_
  obtain ⟨ph2, g2, h⟩ := h
  refine r_put hC (ci := 10) (kf := 1) (N := 2) (Cn := RX9) (T := TX9) (ty := .int) (ty0 := tyX9) rfl (by decide) tin_X9 tyX9_ok nmX9 fl_X9_19 rfl rfl (by decide +kernel) rfl rfl dX9_empty_2 g2 ?_
  exact hr _ _ _ _ _ dX9_empty_5 (by decide) (by decide) h
set_option maxRecDepth 20000 in
theorem c_X11_clear (G : GG) (x0 : Nat) (ph : PH) (Q : Int32 → PH → Prop) (X : String → PH → Prop) (h : w_X11_clear x0 ph Q X) : Ct G yX11_clear (.code yX11_clear cX11_clear 2 (some (.int))) 1 20 0 0 [va_rf (some x0)] ph (oI Q) X := by
  refine ct_of (lv0 := [(0, va_rf (some x0))]) (by decide +kernel) (by simp [lg_sl, cat_rf, cat_i, cat_j]) (by simp [lv_args, cat_rf, cat_i, cat_j]) ?_
  intro C A hC hAo hex hrt hnm
  have hr : HI C (ZM C G A (oI Q) X 0 0) A G 2 cX11_clear 0 0 Q := fun pc lv v ph k n d hk hn hq => e_i hC hrt pc lv v ph k n d hk hn ⟨v, rfl, hq⟩
  have hx := e_x (Q := oI Q) (X := X) (mc := 0) (ms := 0) hC hex
  have hn := e_n (Q := oI Q) (X := X) (mc := 0) (ms := 0) hC hex
  have hnw := e_nw (Q := oI Q) (X := X) (mc := 0) (ms := 0) hC hex
  have hnx := e_nx (Q := oI Q) (X := X) (mc := 0) (ms := 0) hC hex
  have hi : True := trivial
  generalize ZM C G A (oI Q) X 0 0 = Z at *
  refine r_aload_n hC dX11_clear_0 rfl 0 rfl ?_
  obtain ⟨v1, g1, h⟩ := h
  refine r_get hC (ci := 12) (kf := 0) (N := 12) (Cn := RX11) (T := TX11) rfl (by decide) tin_X11 fl_X11_10 rfl dX11_clear_1 g1 ?_
  obtain ⟨v4, g4, h⟩ := h
  refine r_get hC (ci := 10) (kf := 1) (N := 2) (Cn := RX9) (T := TX9) rfl (by decide) tin_X9 fl_X11_80 rfl dX11_clear_4 g4 ?_
  refine r_istore_n (i := 1) (lv' := [(1, .int v4), (0, va_rf (some x0))]) hC dX11_clear_7 rfl (by decide) (by first | rfl | simp [lvs1, lvs2, List.filter, cat_rf, cat_i, cat_j]) ?_
  refine r_aload_n hC dX11_clear_8 rfl 1 rfl ?_
  obtain ⟨v9, g9, h⟩ := h
  refine r_get hC (ci := 12) (kf := 0) (N := 12) (Cn := RX11) (T := TX11) rfl (by decide) tin_X11 fl_X11_10 rfl dX11_clear_9 g9 ?_
  obtain ⟨a12, o12, h⟩ := h
  refine r_VV hC hAo [] cal_X9_empty ml_X11_93 (ci := 10) rfl rfl rfl (c_X9_empty G _ _ _ _ h) o12 ⟨by decide, by decide⟩ ⟨by decide, by decide⟩ (by simp only [List.map_nil, List.map_cons, List.sum_nil, List.sum_cons, cat_rf, cat_i, cat_j]; decide) rfl dX11_clear_12 (fun E u hx9 => hx _ _ _ _ _ _ _ (by decide) (by decide) hx9) (fun ph12 h => ?_)
  refine RR.wid (k' := 0) (n' := 0) (by decide) (by decide) ?_
  refine r_iload_n hC dX11_clear_15 rfl 0 rfl ?_
  exact hr _ _ _ _ _ _ dX11_clear_16 (by decide) (by decide) h
set_option maxRecDepth 20000 in
theorem c_X11_demandRange (G : GG) (x0 : Int32) (x1 : Int32) (x2 : Int32) (ph : PH) (Q : PH → Prop) (X : String → PH → Prop) (h : w_X11_demandRange x0 x1 x2 ph Q X) : Ct G yX11_demandRange (.code yX11_demandRange cX11_demandRange 3 none) 6 90 1 6 [.int x0, .int x1, .int x2] ph (oV Q) X := by
  refine ct_of (lv0 := [(0, .int x0), (1, .int x1), (2, .int x2)]) (by decide +kernel) (by simp [lg_sl, cat_rf, cat_i, cat_j]) (by simp [lv_args, cat_rf, cat_i, cat_j]) ?_
  intro C A hC hAo hex hrt hnm
  have hr : HV C (ZM C G A (oV Q) X 1 6) A G 3 cX11_demandRange 1 6 Q := fun pc lv ph k n d hk hn hq => e_v hC hrt pc lv ph k n d hk hn ⟨rfl, hq⟩
  have hx := e_x (Q := oV Q) (X := X) (mc := 1) (ms := 6) hC hex
  have hn := e_n (Q := oV Q) (X := X) (mc := 1) (ms := 6) hC hex
  have hnw := e_nw (Q := oV Q) (X := X) (mc := 1) (ms := 6) hC hex
  have hnx := e_nx (Q := oV Q) (X := X) (mc := 1) (ms := 6) hC hex
  have hi : True := trivial
  generalize ZM C G A (oV Q) X 1 6 = Z at *
  refine r_iload_n hC dX11_demandRange_0 rfl 0 rfl ?_
  refine r_iload_n hC dX11_demandRange_1 rfl 1 rfl ?_
  refine r_icmp_lt (tgt := 10) hC dX11_demandRange_2 (by decide) (fun c9 => ?_) (fun c9 => ?_)
  · have h := h.1 c9
    exact hnw _ _ _ _ _ _ _ _ _ _ _ _ 2 th_X11_73_77 rfl dX11_demandRange_10 dX11_demandRange_13 dX11_demandRange_14 dX11_demandRange_17 dX11_demandRange_20 (by decide) (by simp only [List.map_nil, List.map_cons, List.sum_nil, List.sum_cons, cat_rf, cat_i, cat_j]; decide) (by decide) (by decide) (by decide) (by decide) h
  · have h := h.2 c9
    refine r_iload_n hC dX11_demandRange_5 rfl 0 rfl ?_
    refine r_iload_n hC dX11_demandRange_6 rfl 2 rfl ?_
    refine r_icmp_le (tgt := 21) hC dX11_demandRange_7 (by decide) (fun c9 => ?_) (fun c9 => ?_)
    · have h := h.1 c9
      exact hr _ _ _ _ _ dX11_demandRange_21 (by decide) (by decide) h
    · have h := h.2 c9
      exact hnw _ _ _ _ _ _ _ _ _ _ _ _ 2 th_X11_73_77 rfl dX11_demandRange_10 dX11_demandRange_13 dX11_demandRange_14 dX11_demandRange_17 dX11_demandRange_20 (by decide) (by simp only [List.map_nil, List.map_cons, List.sum_nil, List.sum_cons, cat_rf, cat_i, cat_j]; decide) (by decide) (by decide) (by decide) (by decide) h
set_option maxRecDepth 20000 in
theorem c_X11_demandRoomForShift (G : GG) (x0 : Nat) (ph : PH) (Q : PH → Prop) (X : String → PH → Prop) (h : w_X11_demandRoomForShift x0 ph Q X) : Ct G yX11_demandRoomForShift (.code yX11_demandRoomForShift cX11_demandRoomForShift 1 none) 6 90 1 6 [va_rf (some x0)] ph (oV Q) X := by
  refine ct_of (lv0 := [(0, va_rf (some x0))]) (by decide +kernel) (by simp [lg_sl, cat_rf, cat_i, cat_j]) (by simp [lv_args, cat_rf, cat_i, cat_j]) ?_
  intro C A hC hAo hex hrt hnm
  have hr : HV C (ZM C G A (oV Q) X 1 6) A G 1 cX11_demandRoomForShift 1 6 Q := fun pc lv ph k n d hk hn hq => e_v hC hrt pc lv ph k n d hk hn ⟨rfl, hq⟩
  have hx := e_x (Q := oV Q) (X := X) (mc := 1) (ms := 6) hC hex
  have hn := e_n (Q := oV Q) (X := X) (mc := 1) (ms := 6) hC hex
  have hnw := e_nw (Q := oV Q) (X := X) (mc := 1) (ms := 6) hC hex
  have hnx := e_nx (Q := oV Q) (X := X) (mc := 1) (ms := 6) hC hex
  have hi : True := trivial
  generalize ZM C G A (oV Q) X 1 6 = Z at *
  refine r_aload_n hC dX11_demandRoomForShift_0 rfl 0 rfl ?_
  obtain ⟨v1, g1, h⟩ := h
  refine r_get hC (ci := 12) (kf := 2) (N := 12) (Cn := RX11) (T := TX11) rfl (by decide) tin_X11 fl_X11_397 rfl dX11_demandRoomForShift_1 g1 ?_
  refine r_if_lt (tgt := 19) hC dX11_demandRoomForShift_4 (by decide) (fun c9 => ?_) (fun c9 => ?_)
  · have h := h.1 c9
    exact hnw _ _ _ _ _ _ _ _ _ _ _ _ 3 th_X11_84_88 rfl dX11_demandRoomForShift_19 dX11_demandRoomForShift_22 dX11_demandRoomForShift_23 dX11_demandRoomForShift_26 dX11_demandRoomForShift_29 (by decide) (by simp only [List.map_nil, List.map_cons, List.sum_nil, List.sum_cons, cat_rf, cat_i, cat_j]; decide) (by decide) (by decide) (by decide) (by decide) h
  · have h := h.2 c9
    refine r_aload_n hC dX11_demandRoomForShift_7 rfl 0 rfl ?_
    obtain ⟨v8, g8, h⟩ := h
    refine r_get hC (ci := 12) (kf := 2) (N := 12) (Cn := RX11) (T := TX11) rfl (by decide) tin_X11 fl_X11_397 rfl dX11_demandRoomForShift_8 g8 ?_
    refine r_aload_n hC dX11_demandRoomForShift_11 rfl 0 rfl ?_
    obtain ⟨v12, g12, h⟩ := h
    refine r_get hC (ci := 12) (kf := 1) (N := 12) (Cn := RX11) (T := TX11) rfl (by decide) tin_X11 fl_X11_18 rfl dX11_demandRoomForShift_12 g12 ?_
    obtain ⟨v15, g15, h⟩ := h
    refine r_alen hC dX11_demandRoomForShift_15 g15 ?_
    refine r_icmp_lt (tgt := 30) hC dX11_demandRoomForShift_16 (by decide) (fun c9 => ?_) (fun c9 => ?_)
    · have h := h.1 c9
      exact hr _ _ _ _ _ dX11_demandRoomForShift_30 (by decide) (by decide) h
    · have h := h.2 c9
      exact hnw _ _ _ _ _ _ _ _ _ _ _ _ 3 th_X11_84_88 rfl dX11_demandRoomForShift_19 dX11_demandRoomForShift_22 dX11_demandRoomForShift_23 dX11_demandRoomForShift_26 dX11_demandRoomForShift_29 (by decide) (by simp only [List.map_nil, List.map_cons, List.sum_nil, List.sum_cons, cat_rf, cat_i, cat_j]; decide) (by decide) (by decide) (by decide) (by decide) h
set_option maxRecDepth 20000 in
theorem c_X3_init (G : GG) (x0 : Nat) (x1 : Int32) (x2 : Int32) (ph : PH) (Q : PH → Prop) (X : String → PH → Prop) (h : w_X3_init x0 x1 x2 ph Q X) : Ct G yX3_init (.code yX3_init cX3_init 3 none) 1 20 1 72 [va_rf (some x0), .int x1, .int x2] ph (oV Q) X := by
  refine ct_of (lv0 := [(0, va_rf (some x0)), (1, .int x1), (2, .int x2)]) (by decide +kernel) (by simp [lg_sl, cat_rf, cat_i, cat_j]) (by simp [lv_args, cat_rf, cat_i, cat_j]) ?_
  intro C A hC hAo hex hrt hnm
  have hr : HV C (ZM C G A (oV Q) X 1 72) A G 3 cX3_init 1 72 Q := fun pc lv ph k n d hk hn hq => e_v hC hrt pc lv ph k n d hk hn ⟨rfl, hq⟩
  have hx := e_x (Q := oV Q) (X := X) (mc := 1) (ms := 72) hC hex
  have hn := e_n (Q := oV Q) (X := X) (mc := 1) (ms := 72) hC hex
  have hnw := e_nw (Q := oV Q) (X := X) (mc := 1) (ms := 72) hC hex
  have hnx := e_nx (Q := oV Q) (X := X) (mc := 1) (ms := 72) hC hex
  have hi : (xt C).name = "<init>" := hnm
  generalize ZM C G A (oV Q) X 1 72 = Z at *
  refine r_aload_n hC dX3_init_0 rfl 0 rfl ?_
  obtain ⟨a1, o1, h⟩ := h
  refine r_objInit hC o1 tb_541 tb_141 tb_142 (by decide) (by simp only [List.map_nil, List.map_cons, List.sum_nil, List.sum_cons, cat_rf, cat_i, cat_j]; decide) dX3_init_1 ?_
  refine r_aload_n hC dX3_init_4 rfl 0 rfl ?_
  refine r_iload_n hC dX3_init_5 rfl 1 rfl ?_
  obtain ⟨ph6, g6, h⟩ := h
  refine r_putF hC hi (ci := 6) (kf := 0) (N := 3) (Cn := RX3) (T := TX3) (ty := .int) (ty0 := tyX3) rfl (by decide) tin_X3 tyX3_ok nmX3 tb_542 rfl rfl rfl (by decide +kernel) rfl rfl dX3_init_6 g6 ?_
  refine r_aload_n hC dX3_init_9 rfl 0 rfl ?_
  refine r_iload_n hC dX3_init_10 rfl 2 rfl ?_
  obtain ⟨ph11, g11, h⟩ := h
  refine r_putF hC hi (ci := 6) (kf := 1) (N := 3) (Cn := RX3) (T := TX3) (ty := .int) (ty0 := tyX3) rfl (by decide) tin_X3 tyX3_ok nmX3 tb_546 rfl rfl rfl (by decide +kernel) rfl rfl dX3_init_11 g11 ?_
  refine r_aload_n hC dX3_init_14 rfl 0 rfl ?_
  refine r_bipush (v := 72) hC dX3_init_15 (by decide) ?_
  refine r_newa hC (ty := .int) (N := 72) (y := .inl (fun _ => 0)) 230 (by decide) rfl (fun _ q => by cases q) (fun _ => rfl) tb_207 (by decide) (by decide) (by decide) (by decide) (by decide) dX3_init_17 (fun a17 f17 => ?_)
  have h := h a17 _ f17 rfl
  obtain ⟨ph19, g19, h⟩ := h
  refine r_putF hC hi (ci := 6) (kf := 2) (N := 3) (Cn := RX3) (T := TX3) (ty := .array .int) (ty0 := tyX3) rfl (by decide) tin_X3 tyX3_ok nmX3 tb_551 rfl rfl rfl (by decide +kernel) (nar_ra _ _) (fit_ra _ _) dX3_init_19 g19 ?_
  exact hr _ _ _ _ _ dX3_init_22 (by decide) (by decide) h
set_option maxRecDepth 20000 in
theorem c_X11_addShift (G : GG) (x0 : Nat) (x1 : Option Nat) (ph : PH) (Q : Int32 → PH → Prop) (X : String → PH → Prop) (h : w_X11_addShift x0 x1 ph Q X) : Ct G yX11_addShift (.code yX11_addShift cX11_addShift 3 (some (.int))) 0 0 0 0 [va_rf (some x0), va_rf x1] ph (oI Q) X := by
  refine ct_of (lv0 := [(0, va_rf (some x0)), (1, va_rf x1)]) (by decide +kernel) (by simp [lg_sl, cat_rf, cat_i, cat_j]) (by simp [lv_args, cat_rf, cat_i, cat_j]) ?_
  intro C A hC hAo hex hrt hnm
  have hr : HI C (ZM C G A (oI Q) X 0 0) A G 3 cX11_addShift 0 0 Q := fun pc lv v ph k n d hk hn hq => e_i hC hrt pc lv v ph k n d hk hn ⟨v, rfl, hq⟩
  have hx := e_x (Q := oI Q) (X := X) (mc := 0) (ms := 0) hC hex
  have hn := e_n (Q := oI Q) (X := X) (mc := 0) (ms := 0) hC hex
  have hnw := e_nw (Q := oI Q) (X := X) (mc := 0) (ms := 0) hC hex
  have hnx := e_nx (Q := oI Q) (X := X) (mc := 0) (ms := 0) hC hex
  have hi : True := trivial
  generalize ZM C G A (oI Q) X 0 0 = Z at *
  refine r_aload_n hC dX11_addShift_0 rfl 0 rfl ?_
  obtain ⟨v1, g1, h⟩ := h
  refine r_get hC (ci := 12) (kf := 2) (N := 12) (Cn := RX11) (T := TX11) rfl (by decide) tin_X11 fl_X11_397 rfl dX11_addShift_1 g1 ?_
  refine r_istore_n (i := 2) (lv' := [(2, .int v1), (0, va_rf (some x0)), (1, va_rf x1)]) hC dX11_addShift_4 rfl (by decide) (by first | rfl | simp [lvs1, lvs2, List.filter, cat_rf, cat_i, cat_j]) ?_
  refine r_iload_n hC dX11_addShift_5 rfl 0 rfl ?_
  refine r_if_lt (tgt := 35) hC dX11_addShift_6 (by decide) (fun c9 => ?_) (fun c9 => ?_)
  · have h := h.1 c9
    refine r_iload_n hC dX11_addShift_35 rfl 0 rfl ?_
    exact hr _ _ _ _ _ _ dX11_addShift_36 (by decide) (by decide) h
  · have h := h.2 c9
    refine r_iload_n hC dX11_addShift_9 rfl 0 rfl ?_
    refine r_aload_n hC dX11_addShift_10 rfl 1 rfl ?_
    obtain ⟨v11, g11, h⟩ := h
    refine r_get hC (ci := 12) (kf := 1) (N := 12) (Cn := RX11) (T := TX11) rfl (by decide) tin_X11 fl_X11_18 rfl dX11_addShift_11 g11 ?_
    obtain ⟨v14, g14, h⟩ := h
    refine r_alen hC dX11_addShift_14 g14 ?_
    refine r_icmp_ge (tgt := 35) hC dX11_addShift_15 (by decide) (fun c9 => ?_) (fun c9 => ?_)
    · have h := h.1 c9
      refine r_iload_n hC dX11_addShift_35 rfl 0 rfl ?_
      exact hr _ _ _ _ _ _ dX11_addShift_36 (by decide) (by decide) h
    · have h := h.2 c9
      refine r_aload_n hC dX11_addShift_18 rfl 1 rfl ?_
      obtain ⟨v19, g19, h⟩ := h
      refine r_get hC (ci := 12) (kf := 1) (N := 12) (Cn := RX11) (T := TX11) rfl (by decide) tin_X11 fl_X11_18 rfl dX11_addShift_19 g19 ?_
      refine r_iload_n hC dX11_addShift_22 rfl 0 rfl ?_
      refine r_aload_n hC dX11_addShift_23 rfl 2 rfl ?_
      obtain ⟨ph24, g24, h⟩ := h
      refine r_aast hC dX11_addShift_24 g24 ?_
      refine r_aload_n hC dX11_addShift_25 rfl 1 rfl ?_
      refine r_dup hC dX11_addShift_26 (by first | rfl | exact cat_rf _) ?_
      obtain ⟨v27, g27, h⟩ := h
      refine r_get hC (ci := 12) (kf := 2) (N := 12) (Cn := RX11) (T := TX11) rfl (by decide) tin_X11 fl_X11_397 rfl dX11_addShift_27 g27 ?_
      refine r_iconst (v := 1) hC dX11_addShift_30 (by decide) ?_
      refine r_iadd hC dX11_addShift_31 ?_
      obtain ⟨ph32, g32, h⟩ := h
      refine r_put hC (ci := 12) (kf := 2) (N := 12) (Cn := RX11) (T := TX11) (ty := .int) (ty0 := tyX11) rfl (by decide) tin_X11 tyX11_ok nmX11 fl_X11_397 rfl rfl (by decide +kernel) rfl rfl dX11_addShift_32 g32 ?_
      refine r_iload_n hC dX11_addShift_35 rfl 0 rfl ?_
      exact hr _ _ _ _ _ _ dX11_addShift_36 (by decide) (by decide) h
set_option maxRecDepth 20000 in
theorem c_X11_shift (G : GG) (x0 : Nat) (x1 : Int32) (x2 : Int32) (ph : PH) (Q : Int32 → PH → Prop) (X : String → PH → Prop) (h : w_X11_shift x0 x1 x2 ph Q X) : Ct G yX11_shift (.code yX11_shift cX11_shift 3 (some (.int))) 7 112 5 93 [va_rf (some x0), .int x1, .int x2] ph (oI Q) X := by
  refine ct_of (lv0 := [(0, va_rf (some x0)), (1, .int x1), (2, .int x2)]) (by decide +kernel) (by simp [lg_sl, cat_rf, cat_i, cat_j]) (by simp [lv_args, cat_rf, cat_i, cat_j]) ?_
  intro C A hC hAo hex hrt hnm
  have hr : HI C (ZM C G A (oI Q) X 5 93) A G 3 cX11_shift 5 93 Q := fun pc lv v ph k n d hk hn hq => e_i hC hrt pc lv v ph k n d hk hn ⟨v, rfl, hq⟩
  have hx := e_x (Q := oI Q) (X := X) (mc := 5) (ms := 93) hC hex
  have hn := e_n (Q := oI Q) (X := X) (mc := 5) (ms := 93) hC hex
  have hnw := e_nw (Q := oI Q) (X := X) (mc := 5) (ms := 93) hC hex
  have hnx := e_nx (Q := oI Q) (X := X) (mc := 5) (ms := 93) hC hex
  have hi : True := trivial
  generalize ZM C G A (oI Q) X 5 93 = Z at *
  refine r_iload_n hC dX11_shift_0 rfl 1 rfl ?_
  refine r_iconst (v := 1) hC dX11_shift_1 (by decide) ?_
  refine r_bipush (v := 12) hC dX11_shift_2 (by decide) ?_
  refine r_SV hC hAo [.int x1, .int (1 : Int32), .int (12 : Int32)] cal_X11_demandRange ml_X11_96 rfl (c_X11_demandRange G _ _ _ _ _ _ h) ⟨by decide, by decide⟩ ⟨by decide, by decide⟩ (by simp only [List.map_nil, List.map_cons, List.sum_nil, List.sum_cons, cat_rf, cat_i, cat_j]; decide) rfl dX11_shift_4 (fun E u hx9 => hx _ _ _ _ _ _ _ (by decide) (by decide) hx9) (fun ph4 h => ?_)
  refine RR.wid (k' := 1) (n' := 6) (by decide) (by decide) ?_
  refine r_iload_n hC dX11_shift_7 rfl 2 rfl ?_
  refine r_iconst (v := 2) hC dX11_shift_8 (by decide) ?_
  refine r_iconst (v := 3) hC dX11_shift_9 (by decide) ?_
  refine r_SV hC hAo [.int x2, .int (2 : Int32), .int (3 : Int32)] cal_X11_demandRange ml_X11_96 rfl (c_X11_demandRange G _ _ _ _ _ _ h) ⟨by decide, by decide⟩ ⟨by decide, by decide⟩ (by simp only [List.map_nil, List.map_cons, List.sum_nil, List.sum_cons, cat_rf, cat_i, cat_j]; decide) rfl dX11_shift_10 (fun E u hx9 => hx _ _ _ _ _ _ _ (by decide) (by decide) hx9) (fun ph10 h => ?_)
  refine RR.wid (k' := 2) (n' := 12) (by decide) (by decide) ?_
  refine r_aload_n hC dX11_shift_13 rfl 0 rfl ?_
  obtain ⟨a14, o14, h⟩ := h
  refine r_VV hC hAo [] cal_X11_demandRoomForShift ml_X11_100 (ci := 12) rfl rfl rfl (c_X11_demandRoomForShift G _ _ _ _ h) o14 ⟨by decide, by decide⟩ ⟨by decide, by decide⟩ (by simp only [List.map_nil, List.map_cons, List.sum_nil, List.sum_cons, cat_rf, cat_i, cat_j]; decide) rfl dX11_shift_14 (fun E u hx9 => hx _ _ _ _ _ _ _ (by decide) (by decide) hx9) (fun ph14 h => ?_)
  refine RR.wid (k' := 3) (n' := 18) (by decide) (by decide) ?_
  refine r_aload_n hC dX11_shift_17 rfl 0 rfl ?_
  refine r_new hC (ci := 6) (N := 3) (Cn := RX3) (T := TX3) (ty := tyX3) (fs := [.int 0, .int 0, .null]) 106 (by decide) rfl tin_X3 tyX3_ok tb_161 tb_359 tb_129 rfl (fun j hj => by rcases (show j = 0 ∨ j = 1 ∨ j = 2 by omega) with rfl | rfl | rfl <;> rfl) (by decide) (by decide) dX11_shift_18 (fun a18 f18 => ?_)
  have h := h a18 _ f18 rfl
  refine r_dup hC dX11_shift_21 (by first | rfl | exact cat_rf _) ?_
  refine r_iload_n hC dX11_shift_22 rfl 1 rfl ?_
  refine r_iload_n hC dX11_shift_23 rfl 2 rfl ?_
  obtain ⟨a24, o24, h⟩ := h
  refine r_IV hC hAo [.int x1, .int x2] cal_X3_init ml_X11_103 rfl o24 (c_X3_init G _ _ _ _ _ _ h) ⟨by decide, by decide⟩ ⟨by decide, by decide⟩ (by simp only [List.map_nil, List.map_cons, List.sum_nil, List.sum_cons, cat_rf, cat_i, cat_j]; decide) rfl dX11_shift_24 (fun E u hx9 => hx _ _ _ _ _ _ _ (by decide) (by decide) hx9) (fun ph24 h => ?_)
  refine RR.wid (k' := 5) (n' := 93) (by decide) (by decide) ?_
  obtain ⟨a27, o27, h⟩ := h
  refine r_VI hC hAo [va_rf (some a18)] cal_X11_addShift ml_X11_106 (ci := 12) rfl rfl rfl (c_X11_addShift G _ _ _ _ _ h) o27 ⟨by decide, by decide⟩ ⟨by decide, by decide⟩ (by simp only [List.map_nil, List.map_cons, List.sum_nil, List.sum_cons, cat_rf, cat_i, cat_j]; decide) rfl dX11_shift_27 (fun E u hx9 => hx _ _ _ _ _ _ _ (by decide) (by decide) hx9) (fun v27 ph27 h => ?_)
  refine RR.wid (k' := 5) (n' := 93) (by decide) (by decide) ?_
  exact hr _ _ _ _ _ _ dX11_shift_30 (by decide) (by decide) h
set_option maxRecDepth 20000 in
theorem c_X11_shiftOrNull (G : GG) (x0 : Nat) (x1 : Int32) (ph : PH) (Q : Option Nat → PH → Prop) (X : String → PH → Prop) (h : w_X11_shiftOrNull x0 x1 ph Q X) : Ct G yX11_shiftOrNull (.code yX11_shiftOrNull cX11_shiftOrNull 2 (some (.object "Shiftgate$Graph"))) 0 0 0 0 [va_rf (some x0), .int x1] ph (oR Q) X := by
  refine ct_of (lv0 := [(0, va_rf (some x0)), (1, .int x1)]) (by decide +kernel) (by simp [lg_sl, cat_rf, cat_i, cat_j]) (by simp [lv_args, cat_rf, cat_i, cat_j]) ?_
  intro C A hC hAo hex hrt hnm
  have hr : HA C (ZM C G A (oR Q) X 0 0) A G 2 cX11_shiftOrNull 0 0 Q := fun pc lv v ph k n d hk hn hq => e_a hC (cn := "Shiftgate$Graph") (Or.inl hrt) pc lv v ph k n d hk hn ⟨v, rfl, hq⟩
  have hx := e_x (Q := oR Q) (X := X) (mc := 0) (ms := 0) hC hex
  have hn := e_n (Q := oR Q) (X := X) (mc := 0) (ms := 0) hC hex
  have hnw := e_nw (Q := oR Q) (X := X) (mc := 0) (ms := 0) hC hex
  have hnx := e_nx (Q := oR Q) (X := X) (mc := 0) (ms := 0) hC hex
  have hi : True := trivial
  generalize ZM C G A (oR Q) X 0 0 = Z at *
  refine r_iload_n hC dX11_shiftOrNull_0 rfl 1 rfl ?_
  refine r_if_lt (tgt := 30) hC dX11_shiftOrNull_1 (by decide) (fun c9 => ?_) (fun c9 => ?_)
  · have h := h.1 c9
    refine r_null hC dX11_shiftOrNull_30 ?_
    refine RR.to (st' := [va_rf none]) rfl ?_
    exact hr _ _ _ _ _ _ dX11_shiftOrNull_31 (by decide) (by decide) h
  · have h := h.2 c9
    refine r_iload_n hC dX11_shiftOrNull_4 rfl 1 rfl ?_
    refine r_aload_n hC dX11_shiftOrNull_5 rfl 0 rfl ?_
    obtain ⟨v6, g6, h⟩ := h
    refine r_get hC (ci := 12) (kf := 2) (N := 12) (Cn := RX11) (T := TX11) rfl (by decide) tin_X11 fl_X11_397 rfl dX11_shiftOrNull_6 g6 ?_
    refine r_icmp_ge (tgt := 30) hC dX11_shiftOrNull_9 (by decide) (fun c9 => ?_) (fun c9 => ?_)
    · have h := h.1 c9
      refine r_null hC dX11_shiftOrNull_30 ?_
      refine RR.to (st' := [va_rf none]) rfl ?_
      exact hr _ _ _ _ _ _ dX11_shiftOrNull_31 (by decide) (by decide) h
    · have h := h.2 c9
      refine r_iload_n hC dX11_shiftOrNull_12 rfl 1 rfl ?_
      refine r_aload_n hC dX11_shiftOrNull_13 rfl 0 rfl ?_
      obtain ⟨v14, g14, h⟩ := h
      refine r_get hC (ci := 12) (kf := 1) (N := 12) (Cn := RX11) (T := TX11) rfl (by decide) tin_X11 fl_X11_18 rfl dX11_shiftOrNull_14 g14 ?_
      obtain ⟨v17, g17, h⟩ := h
      refine r_alen hC dX11_shiftOrNull_17 g17 ?_
      refine r_icmp_ge (tgt := 30) hC dX11_shiftOrNull_18 (by decide) (fun c9 => ?_) (fun c9 => ?_)
      · have h := h.1 c9
        refine r_null hC dX11_shiftOrNull_30 ?_
        refine RR.to (st' := [va_rf none]) rfl ?_
        exact hr _ _ _ _ _ _ dX11_shiftOrNull_31 (by decide) (by decide) h
      · have h := h.2 c9
        refine r_aload_n hC dX11_shiftOrNull_21 rfl 0 rfl ?_
        obtain ⟨v22, g22, h⟩ := h
        refine r_get hC (ci := 12) (kf := 1) (N := 12) (Cn := RX11) (T := TX11) rfl (by decide) tin_X11 fl_X11_18 rfl dX11_shiftOrNull_22 g22 ?_
        refine r_iload_n hC dX11_shiftOrNull_25 rfl 1 rfl ?_
        obtain ⟨v26, g26, h⟩ := h
        refine r_aald hC dX11_shiftOrNull_26 g26 ?_
        refine r_goto (tgt := 31) hC dX11_shiftOrNull_27 (by decide) ?_
        exact hr _ _ _ _ _ _ dX11_shiftOrNull_31 (by decide) (by decide) h
set_option maxRecDepth 20000 in
theorem c_X11_shiftAt (G : GG) (x0 : Nat) (x1 : Int32) (ph : PH) (Q : Option Nat → PH → Prop) (X : String → PH → Prop) (h : w_X11_shiftAt x0 x1 ph Q X) : Ct G yX11_shiftAt (.code yX11_shiftAt cX11_shiftAt 3 (some (.object "Shiftgate$Graph"))) 6 90 1 6 [va_rf (some x0), .int x1] ph (oR Q) X := by
  refine ct_of (lv0 := [(0, va_rf (some x0)), (1, .int x1)]) (by decide +kernel) (by simp [lg_sl, cat_rf, cat_i, cat_j]) (by simp [lv_args, cat_rf, cat_i, cat_j]) ?_
  intro C A hC hAo hex hrt hnm
  have hr : HA C (ZM C G A (oR Q) X 1 6) A G 3 cX11_shiftAt 1 6 Q := fun pc lv v ph k n d hk hn hq => e_a hC (cn := "Shiftgate$Graph") (Or.inl hrt) pc lv v ph k n d hk hn ⟨v, rfl, hq⟩
  have hx := e_x (Q := oR Q) (X := X) (mc := 1) (ms := 6) hC hex
  have hn := e_n (Q := oR Q) (X := X) (mc := 1) (ms := 6) hC hex
  have hnw := e_nw (Q := oR Q) (X := X) (mc := 1) (ms := 6) hC hex
  have hnx := e_nx (Q := oR Q) (X := X) (mc := 1) (ms := 6) hC hex
  have hi : True := trivial
  generalize ZM C G A (oR Q) X 1 6 = Z at *
  refine r_aload_n hC dX11_shiftAt_0 rfl 0 rfl ?_
  refine r_iload_n hC dX11_shiftAt_1 rfl 1 rfl ?_
  obtain ⟨a2, o2, h⟩ := h
  refine r_VR hC hAo [.int x1] cal_X11_shiftOrNull ml_X11_400 (ci := 12) rfl rfl rfl (c_X11_shiftOrNull G _ _ _ _ _ h) o2 ⟨by decide, by decide⟩ ⟨by decide, by decide⟩ (by simp only [List.map_nil, List.map_cons, List.sum_nil, List.sum_cons, cat_rf, cat_i, cat_j]; decide) rfl dX11_shiftAt_2 (fun E u hx9 => hx _ _ _ _ _ _ _ (by decide) (by decide) hx9) (fun v2 ph2 h => ?_)
  refine RR.wid (k' := 0) (n' := 0) (by decide) (by decide) ?_
  refine r_astore_n (i := 2) (lv' := [(2, va_rf v2), (0, va_rf (some x0)), (1, .int x1)]) hC dX11_shiftAt_5 rfl (by decide) (by first | rfl | simp [lvs1, lvs2, List.filter, cat_rf, cat_i, cat_j]) ?_
  refine r_aload_n hC dX11_shiftAt_6 rfl 0 rfl ?_
  refine r_ifnonnull (tgt := 21) hC dX11_shiftAt_7 (by decide) (fun c9 => ?_) (fun c9 => ?_)
  · have h := h.1 c9
    refine r_aload_n hC dX11_shiftAt_21 rfl 0 rfl ?_
    exact hr _ _ _ _ _ _ dX11_shiftAt_22 (by decide) (by decide) h
  · have h := h.2 c9
    exact hnw _ _ _ _ _ _ _ _ _ _ _ _ 4 th_X11_424_428 rfl dX11_shiftAt_10 dX11_shiftAt_13 dX11_shiftAt_14 dX11_shiftAt_17 dX11_shiftAt_20 (by decide) (by simp only [List.map_nil, List.map_cons, List.sum_nil, List.sum_cons, cat_rf, cat_i, cat_j]; decide) (by decide) (by decide) (by decide) (by decide) h
set_option maxRecDepth 20000 in
theorem c_X3_hasLetter (G : GG) (x0 : Nat) (x1 : Int32) (ph : PH) (Q : Int32 → PH → Prop) (X : String → PH → Prop) (h : w_X3_hasLetter x0 x1 ph Q X) : Ct G yX3_hasLetter (.code yX3_hasLetter cX3_hasLetter 2 (some (.boolean))) 0 0 0 0 [va_rf (some x0), .int x1] ph (oI Q) X := by
  refine ct_of (lv0 := [(0, va_rf (some x0)), (1, .int x1)]) (by decide +kernel) (by simp [lg_sl, cat_rf, cat_i, cat_j]) (by simp [lv_args, cat_rf, cat_i, cat_j]) ?_
  intro C A hC hAo hex hrt hnm
  have hr : HZ C (ZM C G A (oI Q) X 0 0) A G 2 cX3_hasLetter 0 0 Q := fun pc lv v ph k n d hk hn hq => e_s hC (ty := .boolean) hrt pc lv v ph k n d hk hn ⟨hq.1, v, rfl, hq.2⟩
  have hx := e_x (Q := oI Q) (X := X) (mc := 0) (ms := 0) hC hex
  have hn := e_n (Q := oI Q) (X := X) (mc := 0) (ms := 0) hC hex
  have hnw := e_nw (Q := oI Q) (X := X) (mc := 0) (ms := 0) hC hex
  have hnx := e_nx (Q := oI Q) (X := X) (mc := 0) (ms := 0) hC hex
  have hi : True := trivial
  generalize ZM C G A (oI Q) X 0 0 = Z at *
  refine r_iload_n hC dX3_hasLetter_0 rfl 1 rfl ?_
  refine r_if_lt (tgt := 16) hC dX3_hasLetter_1 (by decide) (fun c9 => ?_) (fun c9 => ?_)
  · have h := h.1 c9
    refine r_iconst (v := 0) hC dX3_hasLetter_16 (by decide) ?_
    exact hr _ _ _ _ _ _ dX3_hasLetter_17 (by decide) (by decide) h
  · have h := h.2 c9
    refine r_iload_n hC dX3_hasLetter_4 rfl 1 rfl ?_
    refine r_aload_n hC dX3_hasLetter_5 rfl 0 rfl ?_
    obtain ⟨v6, g6, h⟩ := h
    refine r_get hC (ci := 6) (kf := 1) (N := 3) (Cn := RX3) (T := TX3) rfl (by decide) tin_X3 fl_X3_15 rfl dX3_hasLetter_6 g6 ?_
    refine r_icmp_ge (tgt := 16) hC dX3_hasLetter_9 (by decide) (fun c9 => ?_) (fun c9 => ?_)
    · have h := h.1 c9
      refine r_iconst (v := 0) hC dX3_hasLetter_16 (by decide) ?_
      exact hr _ _ _ _ _ _ dX3_hasLetter_17 (by decide) (by decide) h
    · have h := h.2 c9
      refine r_iconst (v := 1) hC dX3_hasLetter_12 (by decide) ?_
      refine r_goto (tgt := 17) hC dX3_hasLetter_13 (by decide) ?_
      exact hr _ _ _ _ _ _ dX3_hasLetter_17 (by decide) (by decide) h
set_option maxRecDepth 20000 in
theorem c_X3_hasState (G : GG) (x0 : Nat) (x1 : Int32) (ph : PH) (Q : Int32 → PH → Prop) (X : String → PH → Prop) (h : w_X3_hasState x0 x1 ph Q X) : Ct G yX3_hasState (.code yX3_hasState cX3_hasState 2 (some (.boolean))) 0 0 0 0 [va_rf (some x0), .int x1] ph (oI Q) X := by
  refine ct_of (lv0 := [(0, va_rf (some x0)), (1, .int x1)]) (by decide +kernel) (by simp [lg_sl, cat_rf, cat_i, cat_j]) (by simp [lv_args, cat_rf, cat_i, cat_j]) ?_
  intro C A hC hAo hex hrt hnm
  have hr : HZ C (ZM C G A (oI Q) X 0 0) A G 2 cX3_hasState 0 0 Q := fun pc lv v ph k n d hk hn hq => e_s hC (ty := .boolean) hrt pc lv v ph k n d hk hn ⟨hq.1, v, rfl, hq.2⟩
  have hx := e_x (Q := oI Q) (X := X) (mc := 0) (ms := 0) hC hex
  have hn := e_n (Q := oI Q) (X := X) (mc := 0) (ms := 0) hC hex
  have hnw := e_nw (Q := oI Q) (X := X) (mc := 0) (ms := 0) hC hex
  have hnx := e_nx (Q := oI Q) (X := X) (mc := 0) (ms := 0) hC hex
  have hi : True := trivial
  generalize ZM C G A (oI Q) X 0 0 = Z at *
  refine r_iload_n hC dX3_hasState_0 rfl 1 rfl ?_
  refine r_if_lt (tgt := 16) hC dX3_hasState_1 (by decide) (fun c9 => ?_) (fun c9 => ?_)
  · have h := h.1 c9
    refine r_iconst (v := 0) hC dX3_hasState_16 (by decide) ?_
    exact hr _ _ _ _ _ _ dX3_hasState_17 (by decide) (by decide) h
  · have h := h.2 c9
    refine r_iload_n hC dX3_hasState_4 rfl 1 rfl ?_
    refine r_aload_n hC dX3_hasState_5 rfl 0 rfl ?_
    obtain ⟨v6, g6, h⟩ := h
    refine r_get hC (ci := 6) (kf := 0) (N := 3) (Cn := RX3) (T := TX3) rfl (by decide) tin_X3 fl_X3_9 rfl dX3_hasState_6 g6 ?_
    refine r_icmp_ge (tgt := 16) hC dX3_hasState_9 (by decide) (fun c9 => ?_) (fun c9 => ?_)
    · have h := h.1 c9
      refine r_iconst (v := 0) hC dX3_hasState_16 (by decide) ?_
      exact hr _ _ _ _ _ _ dX3_hasState_17 (by decide) (by decide) h
    · have h := h.2 c9
      refine r_iconst (v := 1) hC dX3_hasState_12 (by decide) ?_
      refine r_goto (tgt := 17) hC dX3_hasState_13 (by decide) ?_
      exact hr _ _ _ _ _ _ dX3_hasState_17 (by decide) (by decide) h
set_option maxRecDepth 20000 in
theorem b_X3_targets_36 {C : Cx} {Z : State → Prop} {A : Nat → Prop} {G : GG} {Q : Int32 → PH → Prop} {X : String → PH → Prop} (hC : CxOk RX3 cX3_targets 5 G A (rmk 0 0 0 0) C) (hAo : Ao (xs C)) (hr : HI C Z A G 5 cX3_targets 0 0 Q) (hx : HX C Z A G 5 0 0 X) (hn : HN C Z A G 5 RX3 cX3_targets 0 0 (rmk 0 0 0 0) X) (hnw : HNW C Z A G 5 RX3 cX3_targets 0 0 (rmk 0 0 0 0) X) (hnx : HNX C Z A G 5 RX3 cX3_targets 0 0 (rmk 0 0 0 0) X) (hi : True) : ∀ (x0 : Option Nat) (x3 : Int32) (s0 : Int32) (ph : PH), w_X3_targets_36 Q X x0 x3 s0 ph → RR C Z A G 5 36 [(0, va_rf x0), (3, .int x3)] [.int s0] ph 0 0 := by
  intro x0 x3 s0 ph h
  refine r_istore (i := 4) (lv' := [(4, .int s0), (0, va_rf x0), (3, .int x3)]) hC dX3_targets_36 (by decide) (by first | rfl | simp [lvs1, lvs2, List.filter, cat_rf, cat_i, cat_j]) ?_
  refine r_iload hC dX3_targets_38 0 rfl ?_
  refine r_if_eq (tgt := 65) hC dX3_targets_40 (by decide) (fun c9 => ?_) (fun c9 => ?_)
  · have h := h.1 c9
    refine r_iconst (v := 0) hC dX3_targets_65 (by decide) ?_
    exact hr _ _ _ _ _ _ dX3_targets_66 (by decide) (by decide) h
  · have h := h.2 c9
    refine r_iload_n hC dX3_targets_43 rfl 2 rfl ?_
    refine r_if_lt (tgt := 65) hC dX3_targets_44 (by decide) (fun c9 => ?_) (fun c9 => ?_)
    · have h := h.1 c9
      refine r_iconst (v := 0) hC dX3_targets_65 (by decide) ?_
      exact hr _ _ _ _ _ _ dX3_targets_66 (by decide) (by decide) h
    · have h := h.2 c9
      refine r_iload_n hC dX3_targets_47 rfl 2 rfl ?_
      refine r_aload_n hC dX3_targets_48 rfl 1 rfl ?_
      obtain ⟨v49, g49, h⟩ := h
      refine r_get hC (ci := 6) (kf := 2) (N := 3) (Cn := RX3) (T := TX3) rfl (by decide) tin_X3 fl_X3_18 rfl dX3_targets_49 g49 ?_
      obtain ⟨v52, g52, h⟩ := h
      refine r_alen hC dX3_targets_52 g52 ?_
      refine r_icmp_ge (tgt := 65) hC dX3_targets_53 (by decide) (fun c9 => ?_) (fun c9 => ?_)
      · have h := h.1 c9
        refine r_iconst (v := 0) hC dX3_targets_65 (by decide) ?_
        exact hr _ _ _ _ _ _ dX3_targets_66 (by decide) (by decide) h
      · have h := h.2 c9
        refine r_aload_n hC dX3_targets_56 rfl 1 rfl ?_
        obtain ⟨v57, g57, h⟩ := h
        refine r_get hC (ci := 6) (kf := 2) (N := 3) (Cn := RX3) (T := TX3) rfl (by decide) tin_X3 fl_X3_18 rfl dX3_targets_57 g57 ?_
        refine r_iload_n hC dX3_targets_60 rfl 2 rfl ?_
        obtain ⟨v61, g61, h⟩ := h
        refine r_iald hC dX3_targets_61 g61 ?_
        refine r_goto (tgt := 66) hC dX3_targets_62 (by decide) ?_
        exact hr _ _ _ _ _ _ dX3_targets_66 (by decide) (by decide) h
set_option maxRecDepth 20000 in
theorem c_X3_targets (G : GG) (x0 : Nat) (x1 : Int32) (x2 : Int32) (ph : PH) (Q : Int32 → PH → Prop) (X : String → PH → Prop) (h : w_X3_targets x0 x1 x2 ph Q X) : Ct G yX3_targets (.code yX3_targets cX3_targets 5 (some (.int))) 0 0 0 0 [va_rf (some x0), .int x1, .int x2] ph (oI Q) X := by
  refine ct_of (lv0 := [(0, va_rf (some x0)), (1, .int x1), (2, .int x2)]) (by decide +kernel) (by simp [lg_sl, cat_rf, cat_i, cat_j]) (by simp [lv_args, cat_rf, cat_i, cat_j]) ?_
  intro C A hC hAo hex hrt hnm
  have hr : HI C (ZM C G A (oI Q) X 0 0) A G 5 cX3_targets 0 0 Q := fun pc lv v ph k n d hk hn hq => e_i hC hrt pc lv v ph k n d hk hn ⟨v, rfl, hq⟩
  have hx := e_x (Q := oI Q) (X := X) (mc := 0) (ms := 0) hC hex
  have hn := e_n (Q := oI Q) (X := X) (mc := 0) (ms := 0) hC hex
  have hnw := e_nw (Q := oI Q) (X := X) (mc := 0) (ms := 0) hC hex
  have hnx := e_nx (Q := oI Q) (X := X) (mc := 0) (ms := 0) hC hex
  have hi : True := trivial
  generalize ZM C G A (oI Q) X 0 0 = Z at *
  refine r_iload_n hC dX3_targets_0 rfl 2 rfl ?_
  refine r_bipush (v := 24) hC dX3_targets_1 (by decide) ?_
  refine r_imul hC dX3_targets_3 ?_
  refine r_iload_n hC dX3_targets_4 rfl 1 rfl ?_
  refine r_iadd hC dX3_targets_5 ?_
  obtain ⟨v6, ev6⟩ : ∃ z : Int32, z = (x2 * (24 : Int32)) + x1 := ⟨_, rfl⟩
  have h := h v6 ev6
  refine RR.to (st' := [.int v6]) (by rw [ev6]) ?_
  refine r_istore_n (i := 3) (lv' := [(3, .int v6), (0, va_rf (some x0)), (1, .int x1), (2, .int x2)]) hC dX3_targets_6 rfl (by decide) (by first | rfl | simp [lvs1, lvs2, List.filter, cat_rf, cat_i, cat_j]) ?_
  refine r_iload_n hC dX3_targets_7 rfl 2 rfl ?_
  refine r_if_lt (tgt := 35) hC dX3_targets_8 (by decide) (fun c9 => ?_) (fun c9 => ?_)
  · have h := h.1 c9
    refine r_iconst (v := 0) hC dX3_targets_35 (by decide) ?_
    exact RR.wid (by decide) (by decide) (RR.sub [1, 0] rfl (b_X3_targets_36 hC hAo hr hx hn hnw hnx hi  _ _ _ _ h))
  · have h := h.2 c9
    refine r_iload_n hC dX3_targets_11 rfl 2 rfl ?_
    refine r_aload_n hC dX3_targets_12 rfl 1 rfl ?_
    obtain ⟨v13, g13, h⟩ := h
    refine r_get hC (ci := 6) (kf := 0) (N := 3) (Cn := RX3) (T := TX3) rfl (by decide) tin_X3 fl_X3_9 rfl dX3_targets_13 g13 ?_
    refine r_icmp_ge (tgt := 35) hC dX3_targets_16 (by decide) (fun c9 => ?_) (fun c9 => ?_)
    · have h := h.1 c9
      refine r_iconst (v := 0) hC dX3_targets_35 (by decide) ?_
      exact RR.wid (by decide) (by decide) (RR.sub [1, 0] rfl (b_X3_targets_36 hC hAo hr hx hn hnw hnx hi  _ _ _ _ h))
    · have h := h.2 c9
      refine r_iload_n hC dX3_targets_19 rfl 3 rfl ?_
      refine r_if_lt (tgt := 35) hC dX3_targets_20 (by decide) (fun c9 => ?_) (fun c9 => ?_)
      · have h := h.1 c9
        refine r_iconst (v := 0) hC dX3_targets_35 (by decide) ?_
        exact RR.wid (by decide) (by decide) (RR.sub [1, 0] rfl (b_X3_targets_36 hC hAo hr hx hn hnw hnx hi  _ _ _ _ h))
      · have h := h.2 c9
        refine r_iload_n hC dX3_targets_23 rfl 3 rfl ?_
        refine r_aload_n hC dX3_targets_24 rfl 1 rfl ?_
        obtain ⟨v25, g25, h⟩ := h
        refine r_get hC (ci := 6) (kf := 1) (N := 3) (Cn := RX3) (T := TX3) rfl (by decide) tin_X3 fl_X3_15 rfl dX3_targets_25 g25 ?_
        refine r_icmp_ge (tgt := 35) hC dX3_targets_28 (by decide) (fun c9 => ?_) (fun c9 => ?_)
        · have h := h.1 c9
          refine r_iconst (v := 0) hC dX3_targets_35 (by decide) ?_
          exact RR.wid (by decide) (by decide) (RR.sub [1, 0] rfl (b_X3_targets_36 hC hAo hr hx hn hnw hnx hi  _ _ _ _ h))
        · have h := h.2 c9
          refine r_iconst (v := 1) hC dX3_targets_31 (by decide) ?_
          refine r_goto (tgt := 36) hC dX3_targets_32 (by decide) ?_
          exact RR.wid (by decide) (by decide) (RR.sub [1, 0] rfl (b_X3_targets_36 hC hAo hr hx hn hnw hnx hi  _ _ _ _ h))
set_option maxRecDepth 20000 in
theorem c_X11_hasBit (G : GG) (x0 : Int32) (x1 : Int32) (ph : PH) (Q : Int32 → PH → Prop) (X : String → PH → Prop) (h : w_X11_hasBit x0 x1 ph Q X) : Ct G yX11_hasBit (.code yX11_hasBit cX11_hasBit 2 (some (.boolean))) 0 0 0 0 [.int x0, .int x1] ph (oI Q) X := by
  refine ct_of (lv0 := [(0, .int x0), (1, .int x1)]) (by decide +kernel) (by simp [lg_sl, cat_rf, cat_i, cat_j]) (by simp [lv_args, cat_rf, cat_i, cat_j]) ?_
  intro C A hC hAo hex hrt hnm
  have hr : HZ C (ZM C G A (oI Q) X 0 0) A G 2 cX11_hasBit 0 0 Q := fun pc lv v ph k n d hk hn hq => e_s hC (ty := .boolean) hrt pc lv v ph k n d hk hn ⟨hq.1, v, rfl, hq.2⟩
  have hx := e_x (Q := oI Q) (X := X) (mc := 0) (ms := 0) hC hex
  have hn := e_n (Q := oI Q) (X := X) (mc := 0) (ms := 0) hC hex
  have hnw := e_nw (Q := oI Q) (X := X) (mc := 0) (ms := 0) hC hex
  have hnx := e_nx (Q := oI Q) (X := X) (mc := 0) (ms := 0) hC hex
  have hi : True := trivial
  generalize ZM C G A (oI Q) X 0 0 = Z at *
  refine r_iload_n hC dX11_hasBit_0 rfl 0 rfl ?_
  refine r_iload_n hC dX11_hasBit_1 rfl 1 rfl ?_
  refine r_ishr hC dX11_hasBit_2 ?_
  refine r_iconst (v := 1) hC dX11_hasBit_3 (by decide) ?_
  refine r_iand hC dX11_hasBit_4 ?_
  refine r_if_eq (tgt := 12) hC dX11_hasBit_5 (by decide) (fun c9 => ?_) (fun c9 => ?_)
  · have h := h.1 c9
    refine r_iconst (v := 0) hC dX11_hasBit_12 (by decide) ?_
    exact hr _ _ _ _ _ _ dX11_hasBit_13 (by decide) (by decide) h
  · have h := h.2 c9
    refine r_iconst (v := 1) hC dX11_hasBit_8 (by decide) ?_
    refine r_goto (tgt := 13) hC dX11_hasBit_9 (by decide) ?_
    exact hr _ _ _ _ _ _ dX11_hasBit_13 (by decide) (by decide) h
set_option maxRecDepth 20000 in
theorem b_X3_tell_37 {C : Cx} {Z : State → Prop} {A : Nat → Prop} {G : GG} {Q : PH → Prop} {X : String → PH → Prop} (hC : CxOk RX3 cX3_tell 8 G A (rmk 1 21 0 0) C) (hAo : Ao (xs C)) (hr : HV C Z A G 8 cX3_tell 0 0 Q) (hx : HX C Z A G 8 0 0 X) (hn : HN C Z A G 8 RX3 cX3_tell 0 0 (rmk 1 21 0 0) X) (hnw : HNW C Z A G 8 RX3 cX3_tell 0 0 (rmk 1 21 0 0) X) (hnx : HNX C Z A G 8 RX3 cX3_tell 0 0 (rmk 1 21 0 0) X) (hi : True) : ∀ (x0 : Option Nat) (x3 : Int32) (x4 : Int32) (x5 : Int32) (s0 : Int32) (ph : PH), w_X3_tell_37 Q X x0 x3 x4 x5 s0 ph → RR C Z A G 8 37 [(0, va_rf x0), (3, .int x3), (4, .int x4), (5, .int x5)] [.int s0] ph 0 0 := by
  intro x0 x3 x4 x5 s0 ph h
  refine r_istore (i := 6) (lv' := [(6, .int s0), (0, va_rf x0), (3, .int x3), (4, .int x4), (5, .int x5)]) hC dX3_tell_37 (by decide) (by first | rfl | simp [lvs1, lvs2, List.filter, cat_rf, cat_i, cat_j]) ?_
  refine r_iload hC dX3_tell_39 0 rfl ?_
  refine r_if_eq (tgt := 101) hC dX3_tell_41 (by decide) (fun c9 => ?_) (fun c9 => ?_)
  · have h := h.1 c9
    exact hr _ _ _ _ _ dX3_tell_101 (by decide) (by decide) h
  · have h := h.2 c9
    refine r_iload hC dX3_tell_44 4 rfl ?_
    refine r_if_lt (tgt := 101) hC dX3_tell_46 (by decide) (fun c9 => ?_) (fun c9 => ?_)
    · have h := h.1 c9
      exact hr _ _ _ _ _ dX3_tell_101 (by decide) (by decide) h
    · have h := h.2 c9
      refine r_iload hC dX3_tell_49 4 rfl ?_
      refine r_aload_n hC dX3_tell_51 rfl 1 rfl ?_
      obtain ⟨v52, g52, h⟩ := h
      refine r_get hC (ci := 6) (kf := 2) (N := 3) (Cn := RX3) (T := TX3) rfl (by decide) tin_X3 fl_X3_18 rfl dX3_tell_52 g52 ?_
      obtain ⟨v55, g55, h⟩ := h
      refine r_alen hC dX3_tell_55 g55 ?_
      refine r_icmp_ge (tgt := 101) hC dX3_tell_56 (by decide) (fun c9 => ?_) (fun c9 => ?_)
      · have h := h.1 c9
        exact hr _ _ _ _ _ dX3_tell_101 (by decide) (by decide) h
      · have h := h.2 c9
        refine r_iconst (v := 1) hC dX3_tell_59 (by decide) ?_
        refine r_iload_n hC dX3_tell_60 rfl 2 rfl ?_
        refine r_ishl hC dX3_tell_61 ?_
        obtain ⟨v62, ev62⟩ : ∃ z : Int32, z = (1 : Int32) <<< (x3 &&& 31) := ⟨_, rfl⟩
        have h := h v62 ev62
        refine RR.to (st' := [.int v62]) (by rw [ev62]) ?_
        refine r_istore (i := 7) (lv' := [(7, .int v62), (6, .int s0), (0, va_rf x0), (3, .int x3), (4, .int x4), (5, .int x5)]) hC dX3_tell_62 (by decide) (by first | rfl | simp [lvs1, lvs2, List.filter, cat_rf, cat_i, cat_j]) ?_
        refine r_aload_n hC dX3_tell_64 rfl 2 rfl ?_
        obtain ⟨v65, g65, h⟩ := h
        refine r_get hC (ci := 6) (kf := 2) (N := 3) (Cn := RX3) (T := TX3) rfl (by decide) tin_X3 fl_X3_18 rfl dX3_tell_65 g65 ?_
        refine r_iload hC dX3_tell_68 5 rfl ?_
        refine r_iload hC dX3_tell_70 4 rfl ?_
        refine r_if_eq (tgt := 88) hC dX3_tell_72 (by decide) (fun c9 => ?_) (fun c9 => ?_)
        · have h := h.1 c9
          refine r_aload_n hC dX3_tell_88 rfl 2 rfl ?_
          obtain ⟨v89, g89, h⟩ := h
          refine r_get hC (ci := 6) (kf := 2) (N := 3) (Cn := RX3) (T := TX3) rfl (by decide) tin_X3 fl_X3_18 rfl dX3_tell_89 g89 ?_
          refine r_iload hC dX3_tell_92 5 rfl ?_
          obtain ⟨v94, g94, h⟩ := h
          refine r_iald hC dX3_tell_94 g94 ?_
          refine r_iload hC dX3_tell_95 0 rfl ?_
          refine r_iconst (v := -1) hC dX3_tell_97 (by decide) ?_
          refine r_ixor hC dX3_tell_98 ?_
          refine r_iand hC dX3_tell_99 ?_
          obtain ⟨ph100, g100, h⟩ := h
          refine r_iast hC dX3_tell_100 g100 ?_
          exact hr _ _ _ _ _ dX3_tell_101 (by decide) (by decide) h
        · have h := h.2 c9
          refine r_aload_n hC dX3_tell_75 rfl 2 rfl ?_
          obtain ⟨v76, g76, h⟩ := h
          refine r_get hC (ci := 6) (kf := 2) (N := 3) (Cn := RX3) (T := TX3) rfl (by decide) tin_X3 fl_X3_18 rfl dX3_tell_76 g76 ?_
          refine r_iload hC dX3_tell_79 5 rfl ?_
          obtain ⟨v81, g81, h⟩ := h
          refine r_iald hC dX3_tell_81 g81 ?_
          refine r_iload hC dX3_tell_82 0 rfl ?_
          refine r_ior hC dX3_tell_84 ?_
          refine r_goto (tgt := 100) hC dX3_tell_85 (by decide) ?_
          obtain ⟨ph100, g100, h⟩ := h
          refine r_iast hC dX3_tell_100 g100 ?_
          exact hr _ _ _ _ _ dX3_tell_101 (by decide) (by decide) h
set_option maxRecDepth 20000 in
theorem c_X3_tell (G : GG) (x0 : Nat) (x1 : Int32) (x2 : Int32) (x3 : Int32) (x4 : Int32) (ph : PH) (Q : PH → Prop) (X : String → PH → Prop) (h : w_X3_tell x0 x1 x2 x3 x4 ph Q X) : Ct G yX3_tell (.code yX3_tell cX3_tell 8 none) 1 21 0 0 [va_rf (some x0), .int x1, .int x2, .int x3, .int x4] ph (oV Q) X := by
  refine ct_of (lv0 := [(0, va_rf (some x0)), (1, .int x1), (2, .int x2), (3, .int x3), (4, .int x4)]) (by decide +kernel) (by simp [lg_sl, cat_rf, cat_i, cat_j]) (by simp [lv_args, cat_rf, cat_i, cat_j]) ?_
  intro C A hC hAo hex hrt hnm
  have hr : HV C (ZM C G A (oV Q) X 0 0) A G 8 cX3_tell 0 0 Q := fun pc lv ph k n d hk hn hq => e_v hC hrt pc lv ph k n d hk hn ⟨rfl, hq⟩
  have hx := e_x (Q := oV Q) (X := X) (mc := 0) (ms := 0) hC hex
  have hn := e_n (Q := oV Q) (X := X) (mc := 0) (ms := 0) hC hex
  have hnw := e_nw (Q := oV Q) (X := X) (mc := 0) (ms := 0) hC hex
  have hnx := e_nx (Q := oV Q) (X := X) (mc := 0) (ms := 0) hC hex
  have hi : True := trivial
  generalize ZM C G A (oV Q) X 0 0 = Z at *
  refine r_iload_n hC dX3_tell_0 rfl 2 rfl ?_
  refine r_bipush (v := 24) hC dX3_tell_1 (by decide) ?_
  refine r_imul hC dX3_tell_3 ?_
  refine r_iload_n hC dX3_tell_4 rfl 1 rfl ?_
  refine r_iadd hC dX3_tell_5 ?_
  obtain ⟨v6, ev6⟩ : ∃ z : Int32, z = (x2 * (24 : Int32)) + x1 := ⟨_, rfl⟩
  have h := h v6 ev6
  refine RR.to (st' := [.int v6]) (by rw [ev6]) ?_
  refine r_istore (i := 5) (lv' := [(5, .int v6), (0, va_rf (some x0)), (1, .int x1), (2, .int x2), (3, .int x3), (4, .int x4)]) hC dX3_tell_6 (by decide) (by first | rfl | simp [lvs1, lvs2, List.filter, cat_rf, cat_i, cat_j]) ?_
  refine r_aload_n hC dX3_tell_8 rfl 1 rfl ?_
  refine r_iload_n hC dX3_tell_9 rfl 2 rfl ?_
  obtain ⟨a10, o10, h⟩ := h
  refine r_VI hC hAo [.int x1] cal_X3_hasState ml_X3_22 (ci := 6) rfl rfl rfl (c_X3_hasState G _ _ _ _ _ h) o10 ⟨by decide, by decide⟩ ⟨by decide, by decide⟩ (by simp only [List.map_nil, List.map_cons, List.sum_nil, List.sum_cons, cat_rf, cat_i, cat_j]; decide) rfl dX3_tell_10 (fun E u hx9 => hx _ _ _ _ _ _ _ (by decide) (by decide) hx9) (fun v10 ph10 h => ?_)
  refine RR.wid (k' := 0) (n' := 0) (by decide) (by decide) ?_
  refine r_if_eq (tgt := 36) hC dX3_tell_13 (by decide) (fun c9 => ?_) (fun c9 => ?_)
  · have h := h.1 c9
    refine r_iconst (v := 0) hC dX3_tell_36 (by decide) ?_
    exact RR.wid (by decide) (by decide) (RR.sub [1, 4, 5, 0] rfl (b_X3_tell_37 hC hAo hr hx hn hnw hnx hi  _ _ _ _ _ _ h))
  · have h := h.2 c9
    refine r_aload_n hC dX3_tell_16 rfl 1 rfl ?_
    refine r_iload_n hC dX3_tell_17 rfl 3 rfl ?_
    obtain ⟨a18, o18, h⟩ := h
    refine r_VI hC hAo [.int x2] cal_X3_hasLetter ml_X3_26 (ci := 6) rfl rfl rfl (c_X3_hasLetter G _ _ _ _ _ h) o18 ⟨by decide, by decide⟩ ⟨by decide, by decide⟩ (by simp only [List.map_nil, List.map_cons, List.sum_nil, List.sum_cons, cat_rf, cat_i, cat_j]; decide) rfl dX3_tell_18 (fun E u hx9 => hx _ _ _ _ _ _ _ (by decide) (by decide) hx9) (fun v18 ph18 h => ?_)
    refine RR.wid (k' := 0) (n' := 0) (by decide) (by decide) ?_
    refine r_if_eq (tgt := 36) hC dX3_tell_21 (by decide) (fun c9 => ?_) (fun c9 => ?_)
    · have h := h.1 c9
      refine r_iconst (v := 0) hC dX3_tell_36 (by decide) ?_
      exact RR.wid (by decide) (by decide) (RR.sub [1, 4, 5, 0] rfl (b_X3_tell_37 hC hAo hr hx hn hnw hnx hi  _ _ _ _ _ _ h))
    · have h := h.2 c9
      refine r_aload_n hC dX3_tell_24 rfl 1 rfl ?_
      refine r_iload_n hC dX3_tell_25 rfl 4 rfl ?_
      obtain ⟨a26, o26, h⟩ := h
      refine r_VI hC hAo [.int x3] cal_X3_hasState ml_X3_22 (ci := 6) rfl rfl rfl (c_X3_hasState G _ _ _ _ _ h) o26 ⟨by decide, by decide⟩ ⟨by decide, by decide⟩ (by simp only [List.map_nil, List.map_cons, List.sum_nil, List.sum_cons, cat_rf, cat_i, cat_j]; decide) rfl dX3_tell_26 (fun E u hx9 => hx _ _ _ _ _ _ _ (by decide) (by decide) hx9) (fun v26 ph26 h => ?_)
      refine RR.wid (k' := 0) (n' := 0) (by decide) (by decide) ?_
      refine r_if_eq (tgt := 36) hC dX3_tell_29 (by decide) (fun c9 => ?_) (fun c9 => ?_)
      · have h := h.1 c9
        refine r_iconst (v := 0) hC dX3_tell_36 (by decide) ?_
        exact RR.wid (by decide) (by decide) (RR.sub [1, 4, 5, 0] rfl (b_X3_tell_37 hC hAo hr hx hn hnw hnx hi  _ _ _ _ _ _ h))
      · have h := h.2 c9
        refine r_iconst (v := 1) hC dX3_tell_32 (by decide) ?_
        refine r_goto (tgt := 37) hC dX3_tell_33 (by decide) ?_
        exact RR.wid (by decide) (by decide) (RR.sub [1, 4, 5, 0] rfl (b_X3_tell_37 hC hAo hr hx hn hnw hnx hi  _ _ _ _ _ _ h))
