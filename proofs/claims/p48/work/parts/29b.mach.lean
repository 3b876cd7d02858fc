set_option maxRecDepth 20000 in
theorem b_L_law_214 {C : Cx} {Z : State → Prop} {A : Nat → Prop} {G : GG} {Q : Int32 → PH → Prop} {X : String → PH → Prop} {K122 : Option Nat → Option Nat → Int32 → Int32 → Int32 → Int32 → Int32 → Int32 → Int32 → Option Nat → Int32 → PH → Prop}  {LK LN : Nat} (hLk : LK ≤ 98578) (hLn : LN ≤ 2701240) (hC : CxOk RL cL_law 25 G A room_1 C) (hAo : Ao (xs C)) (hr : HZ C Z A G 25 cL_law 98578 2701240 Q) (hx : HX C Z A G 25 98578 2701240 X) (hn : HN C Z A G 25 RL cL_law 98578 2701240 room_1 X) (hnw : HNW C Z A G 25 RL cL_law 98578 2701240 room_1 X) (hnx : HNX C Z A G 25 RL cL_law 98578 2701240 room_1 X) (hi : True) (hK122 : ∀ (x0 : Option Nat) (x1 : Option Nat) (x2 : Int32) (x3 : Int32) (x4 : Int32) (x5 : Int32) (x7 : Int32) (x8 : Int32) (x9 : Int32) (x10 : Option Nat) (x11 : Int32) (ph : PH), K122 x0 x1 x2 x3 x4 x5 x7 x8 x9 x10 x11 ph → RR C Z A G 25 122 [(0, va_rf x0), (1, va_rf x1), (2, .int x2), (3, .int x3), (4, .int x4), (5, .int x5), (7, .int x7), (8, .int x8), (9, .int x9), (10, va_rf x10), (11, .int x11)] [] ph LK LN) : ∀ (kb nb : Nat), kb + 2 ≤ LK → nb + 20 ≤ LN → ∀ (x0 : Option Nat) (x1 : Option Nat) (x2 : Int32) (x3 : Int32) (x4 : Int32) (x5 : Int32) (x7 : Int32) (x8 : Int32) (x9 : Int32) (x11 : Int32) (s0 : Int32) (s1 : Option Nat) (ph : PH), w_L_law_214 G Q X K122 x0 x1 x2 x3 x4 x5 x7 x8 x9 x11 s0 s1 ph → RR C Z A G 25 214 [(0, va_rf x0), (1, va_rf x1), (2, .int x2), (3, .int x3), (4, .int x4), (5, .int x5), (7, .int x7), (8, .int x8), (9, .int x9), (11, .int x11)] [.int s0, va_rf s1] ph kb nb := by
  intro kb nb e1 e2 x0 x1 x2 x3 x4 x5 x7 x8 x9 x11 s0 s1 ph h
  obtain ⟨a214, o214, h⟩ := h
  refine r_VR hC hAo [.int s0] cal_J4_append_cf468 ml_L_222 (ci := 1) rfl rfl rfl (c_J4_append_cf468 G _ _ _ _ _ h) o214 ⟨by decide, by decide⟩ ⟨(by simp only [room_1]; omega), (by simp only [room_1]; omega)⟩ (by simp only [List.map_nil, List.map_cons, List.sum_nil, List.sum_cons, cat_rf, cat_i, cat_j]; decide) rfl dL_law_214 (fun E u hx9 => hx _ _ _ _ _ _ _ (by omega) (by omega) hx9) (fun v214 ph214 h => ?_)
  refine RR.wid (k' := (kb + 0)) (n' := (nb + 0)) (by omega) (by omega) ?_
  obtain ⟨a217, o217, h⟩ := h
  refine r_VR hC hAo [] cal_J4_toString_0e30d ml_L_225 (ci := 1) rfl rfl rfl (c_J4_toString_0e30d G _ _ _ _ h) o217 ⟨by decide, by decide⟩ ⟨(by simp only [room_1]; omega), (by simp only [room_1]; omega)⟩ (by simp only [List.map_nil, List.map_cons, List.sum_nil, List.sum_cons, cat_rf, cat_i, cat_j]; decide) rfl dL_law_217 (fun E u hx9 => hx _ _ _ _ _ _ _ (by omega) (by omega) hx9) (fun v217 ph217 h => ?_)
  refine RR.wid (k' := (kb + 2)) (n' := (nb + 20)) (by omega) (by omega) ?_
  refine r_astore (i := 10) (lv' := [(10, va_rf v217), (0, va_rf x0), (1, va_rf x1), (2, .int x2), (3, .int x3), (4, .int x4), (5, .int x5), (7, .int x7), (8, .int x8), (9, .int x9), (11, .int x11)]) hC dL_law_220 (by decide) (by first | rfl | simp [lvs1, lvs2, List.filter, cat_rf, cat_i, cat_j]) ?_
  refine r_iinc (w := 10) (v := x11 + (-1)) (lv' := [(11, .int (x11 + (-1))), (10, va_rf v217), (0, va_rf x0), (1, va_rf x1), (2, .int x2), (3, .int x3), (4, .int x4), (5, .int x5), (7, .int x7), (8, .int x8), (9, .int x9)]) hC dL_law_222 rfl rfl (by decide) (by first | rfl | simp [lvs1, List.filter, cat_rf, cat_i, cat_j]) ?_
  refine r_goto (tgt := 122) hC dL_law_225 (by decide) ?_
  exact RR.wid (by omega) (by omega) (RR.sub [2, 3, 4, 5, 6, 7, 8, 9, 10, 1, 0] rfl (hK122 _ _ _ _ _ _ _ _ _ _ _ _ h))
set_option maxRecDepth 20000 in
theorem b_L_law_122 {C : Cx} {Z : State → Prop} {A : Nat → Prop} {G : GG} {Q : Int32 → PH → Prop} {X : String → PH → Prop} {K239 : Option Nat → Option Nat → Int32 → Int32 → Int32 → Int32 → Int32 → Int32 → Int32 → PH → Prop}  {LK LN : Nat} (hLk : LK ≤ 98578) (hLn : LN ≤ 2701240) (hC : CxOk RL cL_law 25 G A room_1 C) (hAo : Ao (xs C)) (hr : HZ C Z A G 25 cL_law 98578 2701240 Q) (hx : HX C Z A G 25 98578 2701240 X) (hn : HN C Z A G 25 RL cL_law 98578 2701240 room_1 X) (hnw : HNW C Z A G 25 RL cL_law 98578 2701240 room_1 X) (hnx : HNX C Z A G 25 RL cL_law 98578 2701240 room_1 X) (hi : True) (hK239 : ∀ (x0 : Option Nat) (x1 : Option Nat) (x2 : Int32) (x3 : Int32) (x4 : Int32) (x5 : Int32) (x7 : Int32) (x8 : Int32) (x9 : Int32) (ph : PH), K239 x0 x1 x2 x3 x4 x5 x7 x8 x9 ph → RR C Z A G 25 239 [(0, va_rf x0), (1, va_rf x1), (2, .int x2), (3, .int x3), (4, .int x4), (5, .int x5), (7, .int x7), (8, .int x8), (9, .int x9)] [] ph LK LN) : ∀ (fu kb nb : Nat), kb + fu * 4 + 48 ≤ LK → nb + fu * 40 + 1320 ≤ LN → ∀ (x0 : Option Nat) (x1 : Option Nat) (x2 : Int32) (x3 : Int32) (x4 : Int32) (x5 : Int32) (x7 : Int32) (x8 : Int32) (x9 : Int32) (x10 : Option Nat) (x11 : Int32) (ph : PH), w_L_law_122 G Q X K239 fu x0 x1 x2 x3 x4 x5 x7 x8 x9 x10 x11 ph → RR C Z A G 25 122 [(0, va_rf x0), (1, va_rf x1), (2, .int x2), (3, .int x3), (4, .int x4), (5, .int x5), (7, .int x7), (8, .int x8), (9, .int x9), (10, va_rf x10), (11, .int x11)] [] ph kb nb := by
  intro fu
  induction fu with
  | zero => intro kb nb e1 e2 x0 x1 x2 x3 x4 x5 x7 x8 x9 x10 x11 ph h; exact h.elim
  | succ fu ih =>
    intro kb nb e1 e2 x0 x1 x2 x3 x4 x5 x7 x8 x9 x10 x11 ph h
    refine r_iload hC dL_law_122 10 rfl ?_
    refine r_if_lt (tgt := 228) hC dL_law_124 (by decide) (fun c9 => ?_) (fun c9 => ?_)
    · have h := h.1 c9
      refine r_aload_n hC dL_law_228 rfl 1 rfl ?_
      refine r_aload hC dL_law_229 9 rfl ?_
      refine r_SI hC hAo [va_rf x1, va_rf x10] cal_L_types ml_L_229 rfl (c_L_types G _ _ _ _ _ h) ⟨by decide, by decide⟩ ⟨(by simp only [room_1]; omega), (by simp only [room_1]; omega)⟩ (by simp only [List.map_nil, List.map_cons, List.sum_nil, List.sum_cons, cat_rf, cat_i, cat_j]; decide) rfl dL_law_231 (fun E u hx9 => hx _ _ _ _ _ _ _ (by omega) (by omega) hx9) (fun v231 ph231 h => ?_)
      refine RR.wid (k' := (kb + 48)) (n' := (nb + 1320)) (by omega) (by omega) ?_
      refine r_if_ne (tgt := 239) hC dL_law_234 (by decide) (fun c9 => ?_) (fun c9 => ?_)
      · have h := h.1 c9
        exact RR.wid (by omega) (by omega) (RR.sub [0, 1, 2, 3, 4, 5, 6, 7, 8] rfl (hK239 _ _ _ _ _ _ _ _ _ _ h))
      · have h := h.2 c9
        refine r_iconst (v := 0) hC dL_law_237 (by decide) ?_
        exact hr _ _ _ _ _ _ dL_law_238 (by omega) (by omega) h
    · have h := h.2 c9
      refine r_new hC (ci := 1) (N := 4) (Cn := RJ4) (T := TJ4) (ty := tyJ4) (fs := [.null, .int 0, .int 0, .int 0]) 101 (by decide) rfl tin_J4 tyJ4_ok tb_1376 tb_1377 tb_110 rfl (fun j hj => by rcases (show j = 0 ∨ j = 1 ∨ j = 2 ∨ j = 3 by omega) with rfl | rfl | rfl | rfl <;> rfl) (by simp only [room_1]; omega) (by simp only [room_1]; omega) dL_law_127 (fun a127 f127 => ?_)
      have h := h a127 _ f127 rfl
      refine r_dup hC dL_law_130 (by first | rfl | exact cat_rf _) ?_
      obtain ⟨a131, o131, h⟩ := h
      refine r_IV hC hAo [] cal_J4_init_da8c8 ml_L_211 rfl o131 (c_J4_init_da8c8 G _ _ _ _ h) ⟨by decide, by decide⟩ ⟨(by simp only [room_1]; omega), (by simp only [room_1]; omega)⟩ (by simp only [List.map_nil, List.map_cons, List.sum_nil, List.sum_cons, cat_rf, cat_i, cat_j]; decide) rfl dL_law_131 (fun E u hx9 => hx _ _ _ _ _ _ _ (by omega) (by omega) hx9) (fun ph131 h => ?_)
      refine RR.wid (k' := (kb + 2)) (n' := (nb + 20)) (by omega) (by omega) ?_
      refine r_aload hC dL_law_134 9 rfl ?_
      obtain ⟨a136, o136, h⟩ := h
      refine r_VR hC hAo [va_rf x10] cal_J4_append_15ec4 ml_L_212 (ci := 1) rfl rfl rfl (c_J4_append_15ec4 G _ _ _ _ _ h) o136 ⟨by decide, by decide⟩ ⟨(by simp only [room_1]; omega), (by simp only [room_1]; omega)⟩ (by simp only [List.map_nil, List.map_cons, List.sum_nil, List.sum_cons, cat_rf, cat_i, cat_j]; decide) rfl dL_law_136 (fun E u hx9 => hx _ _ _ _ _ _ _ (by omega) (by omega) hx9) (fun v136 ph136 h => ?_)
      refine RR.wid (k' := (kb + 2)) (n' := (nb + 20)) (by omega) (by omega) ?_
      refine r_iload hC dL_law_139 8 rfl ?_
      refine r_bipush (v := 8) hC dL_law_141 (by decide) ?_
      refine r_icmp_ne (tgt := 168) hC dL_law_143 (by decide) (fun c9 => ?_) (fun c9 => ?_)
      · have h := h.1 c9
        refine r_iload hC dL_law_168 8 rfl ?_
        refine r_bipush (v := 9) hC dL_law_170 (by decide) ?_
        refine r_icmp_ne (tgt := 196) hC dL_law_172 (by decide) (fun c9 => ?_) (fun c9 => ?_)
        · have h := h.1 c9
          refine r_ldcS (i := 37) hC rfl dL_law_196 ?_
          refine r_iload hC dL_law_198 6 rfl ?_
          refine r_iconst (v := 3) hC dL_law_200 (by decide) ?_
          refine r_iconst (v := 3) hC dL_law_201 (by decide) ?_
          refine r_iload hC dL_law_202 10 rfl ?_
          refine r_imul hC dL_law_204 ?_
          refine r_iadd hC dL_law_205 ?_
          refine r_ishr hC dL_law_206 ?_
          refine r_iconst (v := 3) hC dL_law_207 (by decide) ?_
          refine r_SI hC hAo [.int (x7 >>> (((3 : Int32) + ((3 : Int32) * x11)) &&& 31)), .int (3 : Int32)] cal_L_low ml_L_204 rfl (c_L_low G _ _ _ _ _ h) ⟨by decide, by decide⟩ ⟨(by simp only [room_1]; omega), (by simp only [room_1]; omega)⟩ (by simp only [List.map_nil, List.map_cons, List.sum_nil, List.sum_cons, cat_rf, cat_i, cat_j]; decide) rfl dL_law_208 (fun E u hx9 => hx _ _ _ _ _ _ _ (by omega) (by omega) hx9) (fun v208 ph208 h => ?_)
          refine RR.wid (k' := (kb + 2)) (n' := (nb + 20)) (by omega) (by omega) ?_
          obtain ⟨a211, o211, h⟩ := h
          refine r_VI hC hAo [.int v208] cal_J0_charAt_5068e ml_L_185 (ci := 0) rfl rfl rfl (c_J0_charAt_5068e G _ _ _ _ _ h) o211 ⟨by decide, by decide⟩ ⟨(by simp only [room_1]; omega), (by simp only [room_1]; omega)⟩ (by simp only [List.map_nil, List.map_cons, List.sum_nil, List.sum_cons, cat_rf, cat_i, cat_j]; decide) rfl dL_law_211 (fun E u hx9 => hx _ _ _ _ _ _ _ (by omega) (by omega) hx9) (fun v211 ph211 h => ?_)
          refine RR.wid (k' := (kb + 2)) (n' := (nb + 20)) (by omega) (by omega) ?_
          have k214_122 : ∀ (x0 : Option Nat) (x1 : Option Nat) (x2 : Int32) (x3 : Int32) (x4 : Int32) (x5 : Int32) (x7 : Int32) (x8 : Int32) (x9 : Int32) (x10 : Option Nat) (x11 : Int32) (ph : PH), w_L_law_122 G Q X K239 fu x0 x1 x2 x3 x4 x5 x7 x8 x9 x10 x11 ph → RR C Z A G 25 122 [(0, va_rf x0), (1, va_rf x1), (2, .int x2), (3, .int x3), (4, .int x4), (5, .int x5), (7, .int x7), (8, .int x8), (9, .int x9), (10, va_rf x10), (11, .int x11)] [] ph (kb + 4) (nb + 40) := by
            intro x0 x1 x2 x3 x4 x5 x7 x8 x9 x10 x11 ph h
            exact RR.wid (by omega) (by omega) (RR.sub [0, 1, 2, 3, 4, 5, 6, 7, 8, 9, 10] rfl (ih (kb + 4) (nb + 40) (by omega) (by omega) _ _ _ _ _ _ _ _ _ _ _ _ h))
          exact RR.wid (by omega) (by omega) (RR.sub [0, 1, 2, 3, 4, 5, 6, 7, 8, 10] rfl (b_L_law_214 (LK := (kb + 4)) (LN := (nb + 40)) (by omega) (by omega) hC hAo hr hx hn hnw hnx hi k214_122 (kb + 2) (nb + 20) (by omega) (by omega) _ _ _ _ _ _ _ _ _ _ _ _ _ h))
        · have h := h.2 c9
          refine r_ldcS (i := 36) hC rfl dL_law_175 ?_
          refine r_iload hC dL_law_177 6 rfl ?_
          refine r_iconst (v := 3) hC dL_law_179 (by decide) ?_
          refine r_iconst (v := 3) hC dL_law_180 (by decide) ?_
          refine r_iload hC dL_law_181 10 rfl ?_
          refine r_imul hC dL_law_183 ?_
          refine r_iadd hC dL_law_184 ?_
          refine r_ishr hC dL_law_185 ?_
          refine r_iconst (v := 2) hC dL_law_186 (by decide) ?_
          refine r_SI hC hAo [.int (x7 >>> (((3 : Int32) + ((3 : Int32) * x11)) &&& 31)), .int (2 : Int32)] cal_L_low ml_L_204 rfl (c_L_low G _ _ _ _ _ h) ⟨by decide, by decide⟩ ⟨(by simp only [room_1]; omega), (by simp only [room_1]; omega)⟩ (by simp only [List.map_nil, List.map_cons, List.sum_nil, List.sum_cons, cat_rf, cat_i, cat_j]; decide) rfl dL_law_187 (fun E u hx9 => hx _ _ _ _ _ _ _ (by omega) (by omega) hx9) (fun v187 ph187 h => ?_)
          refine RR.wid (k' := (kb + 2)) (n' := (nb + 20)) (by omega) (by omega) ?_
          obtain ⟨a190, o190, h⟩ := h
          refine r_VI hC hAo [.int v187] cal_J0_charAt_5068e ml_L_185 (ci := 0) rfl rfl rfl (c_J0_charAt_5068e G _ _ _ _ _ h) o190 ⟨by decide, by decide⟩ ⟨(by simp only [room_1]; omega), (by simp only [room_1]; omega)⟩ (by simp only [List.map_nil, List.map_cons, List.sum_nil, List.sum_cons, cat_rf, cat_i, cat_j]; decide) rfl dL_law_190 (fun E u hx9 => hx _ _ _ _ _ _ _ (by omega) (by omega) hx9) (fun v190 ph190 h => ?_)
          refine RR.wid (k' := (kb + 2)) (n' := (nb + 20)) (by omega) (by omega) ?_
          refine r_goto (tgt := 214) hC dL_law_193 (by decide) ?_
          have k214_122 : ∀ (x0 : Option Nat) (x1 : Option Nat) (x2 : Int32) (x3 : Int32) (x4 : Int32) (x5 : Int32) (x7 : Int32) (x8 : Int32) (x9 : Int32) (x10 : Option Nat) (x11 : Int32) (ph : PH), w_L_law_122 G Q X K239 fu x0 x1 x2 x3 x4 x5 x7 x8 x9 x10 x11 ph → RR C Z A G 25 122 [(0, va_rf x0), (1, va_rf x1), (2, .int x2), (3, .int x3), (4, .int x4), (5, .int x5), (7, .int x7), (8, .int x8), (9, .int x9), (10, va_rf x10), (11, .int x11)] [] ph (kb + 4) (nb + 40) := by
            intro x0 x1 x2 x3 x4 x5 x7 x8 x9 x10 x11 ph h
            exact RR.wid (by omega) (by omega) (RR.sub [0, 1, 2, 3, 4, 5, 6, 7, 8, 9, 10] rfl (ih (kb + 4) (nb + 40) (by omega) (by omega) _ _ _ _ _ _ _ _ _ _ _ _ h))
          exact RR.wid (by omega) (by omega) (RR.sub [0, 1, 2, 3, 4, 5, 6, 7, 8, 10] rfl (b_L_law_214 (LK := (kb + 4)) (LN := (nb + 40)) (by omega) (by omega) hC hAo hr hx hn hnw hnx hi k214_122 (kb + 2) (nb + 20) (by omega) (by omega) _ _ _ _ _ _ _ _ _ _ _ _ _ h))
      · have h := h.2 c9
        refine r_ldcS (i := 35) hC rfl dL_law_146 ?_
        refine r_iload hC dL_law_148 6 rfl ?_
        refine r_iconst (v := 3) hC dL_law_150 (by decide) ?_
        refine r_iconst (v := 3) hC dL_law_151 (by decide) ?_
        refine r_iload hC dL_law_152 10 rfl ?_
        refine r_imul hC dL_law_154 ?_
        refine r_iadd hC dL_law_155 ?_
        refine r_ishr hC dL_law_156 ?_
        refine r_bipush (v := 9) hC dL_law_157 (by decide) ?_
        refine r_SI hC hAo [.int (x7 >>> (((3 : Int32) + ((3 : Int32) * x11)) &&& 31)), .int (9 : Int32)] cal_L_low ml_L_204 rfl (c_L_low G _ _ _ _ _ h) ⟨by decide, by decide⟩ ⟨(by simp only [room_1]; omega), (by simp only [room_1]; omega)⟩ (by simp only [List.map_nil, List.map_cons, List.sum_nil, List.sum_cons, cat_rf, cat_i, cat_j]; decide) rfl dL_law_159 (fun E u hx9 => hx _ _ _ _ _ _ _ (by omega) (by omega) hx9) (fun v159 ph159 h => ?_)
        refine RR.wid (k' := (kb + 2)) (n' := (nb + 20)) (by omega) (by omega) ?_
        obtain ⟨a162, o162, h⟩ := h
        refine r_VI hC hAo [.int v159] cal_J0_charAt_5068e ml_L_185 (ci := 0) rfl rfl rfl (c_J0_charAt_5068e G _ _ _ _ _ h) o162 ⟨by decide, by decide⟩ ⟨(by simp only [room_1]; omega), (by simp only [room_1]; omega)⟩ (by simp only [List.map_nil, List.map_cons, List.sum_nil, List.sum_cons, cat_rf, cat_i, cat_j]; decide) rfl dL_law_162 (fun E u hx9 => hx _ _ _ _ _ _ _ (by omega) (by omega) hx9) (fun v162 ph162 h => ?_)
        refine RR.wid (k' := (kb + 2)) (n' := (nb + 20)) (by omega) (by omega) ?_
        refine r_goto (tgt := 214) hC dL_law_165 (by decide) ?_
        have k214_122 : ∀ (x0 : Option Nat) (x1 : Option Nat) (x2 : Int32) (x3 : Int32) (x4 : Int32) (x5 : Int32) (x7 : Int32) (x8 : Int32) (x9 : Int32) (x10 : Option Nat) (x11 : Int32) (ph : PH), w_L_law_122 G Q X K239 fu x0 x1 x2 x3 x4 x5 x7 x8 x9 x10 x11 ph → RR C Z A G 25 122 [(0, va_rf x0), (1, va_rf x1), (2, .int x2), (3, .int x3), (4, .int x4), (5, .int x5), (7, .int x7), (8, .int x8), (9, .int x9), (10, va_rf x10), (11, .int x11)] [] ph (kb + 4) (nb + 40) := by
          intro x0 x1 x2 x3 x4 x5 x7 x8 x9 x10 x11 ph h
          exact RR.wid (by omega) (by omega) (RR.sub [0, 1, 2, 3, 4, 5, 6, 7, 8, 9, 10] rfl (ih (kb + 4) (nb + 40) (by omega) (by omega) _ _ _ _ _ _ _ _ _ _ _ _ h))
        exact RR.wid (by omega) (by omega) (RR.sub [0, 1, 2, 3, 4, 5, 6, 7, 8, 10] rfl (b_L_law_214 (LK := (kb + 4)) (LN := (nb + 40)) (by omega) (by omega) hC hAo hr hx hn hnw hnx hi k214_122 (kb + 2) (nb + 20) (by omega) (by omega) _ _ _ _ _ _ _ _ _ _ _ _ _ h))
set_option maxRecDepth 20000 in
theorem b_L_law_110 {C : Cx} {Z : State → Prop} {A : Nat → Prop} {G : GG} {Q : Int32 → PH → Prop} {X : String → PH → Prop} {K239 : Option Nat → Option Nat → Int32 → Int32 → Int32 → Int32 → Int32 → Int32 → Int32 → PH → Prop}  {LK LN : Nat} (hLk : LK ≤ 98578) (hLn : LN ≤ 2701240) (hC : CxOk RL cL_law 25 G A room_1 C) (hAo : Ao (xs C)) (hr : HZ C Z A G 25 cL_law 98578 2701240 Q) (hx : HX C Z A G 25 98578 2701240 X) (hn : HN C Z A G 25 RL cL_law 98578 2701240 room_1 X) (hnw : HNW C Z A G 25 RL cL_law 98578 2701240 room_1 X) (hnx : HNX C Z A G 25 RL cL_law 98578 2701240 room_1 X) (hi : True) (hK239 : ∀ (x0 : Option Nat) (x1 : Option Nat) (x2 : Int32) (x3 : Int32) (x4 : Int32) (x5 : Int32) (x7 : Int32) (x8 : Int32) (x9 : Int32) (ph : PH), K239 x0 x1 x2 x3 x4 x5 x7 x8 x9 ph → RR C Z A G 25 239 [(0, va_rf x0), (1, va_rf x1), (2, .int x2), (3, .int x3), (4, .int x4), (5, .int x5), (7, .int x7), (8, .int x8), (9, .int x9)] [] ph LK LN) : ∀ (kb nb : Nat), kb + 76 ≤ LK → nb + 1600 ≤ LN → ∀ (x0 : Option Nat) (x1 : Option Nat) (x2 : Int32) (x3 : Int32) (x4 : Int32) (x5 : Int32) (x7 : Int32) (x8 : Int32) (x9 : Int32) (ph : PH), w_L_law_110 G Q X K239 x0 x1 x2 x3 x4 x5 x7 x8 x9 ph → RR C Z A G 25 110 [(0, va_rf x0), (1, va_rf x1), (2, .int x2), (3, .int x3), (4, .int x4), (5, .int x5), (7, .int x7), (8, .int x8), (9, .int x9)] [] ph kb nb := by
  intro kb nb e1 e2 x0 x1 x2 x3 x4 x5 x7 x8 x9 ph h
  refine r_ldcS (i := 34) hC rfl dL_law_110 ?_
  obtain ⟨v112, ev112⟩ : ∃ z : Option Nat, z = some (G.2 34) := ⟨_, rfl⟩
  have h := h v112 ev112
  refine RR.to (st' := [va_rf v112]) (by rw [ev112]) ?_
  refine r_astore (i := 10) (lv' := [(10, va_rf v112), (0, va_rf x0), (1, va_rf x1), (2, .int x2), (3, .int x3), (4, .int x4), (5, .int x5), (7, .int x7), (8, .int x8), (9, .int x9)]) hC dL_law_112 (by decide) (by first | rfl | simp [lvs1, lvs2, List.filter, cat_rf, cat_i, cat_j]) ?_
  refine r_iload hC dL_law_114 7 rfl ?_
  refine r_iconst (v := 5) hC dL_law_116 (by decide) ?_
  refine r_SI hC hAo [.int x7, .int (5 : Int32)] cal_L_low ml_L_204 rfl (c_L_low G _ _ _ _ _ h) ⟨by decide, by decide⟩ ⟨(by simp only [room_1]; omega), (by simp only [room_1]; omega)⟩ (by simp only [List.map_nil, List.map_cons, List.sum_nil, List.sum_cons, cat_rf, cat_i, cat_j]; decide) rfl dL_law_117 (fun E u hx9 => hx _ _ _ _ _ _ _ (by omega) (by omega) hx9) (fun v117 ph117 h => ?_)
  refine RR.wid (k' := (kb + 0)) (n' := (nb + 0)) (by omega) (by omega) ?_
  refine r_istore (i := 11) (lv' := [(11, .int v117), (10, va_rf v112), (0, va_rf x0), (1, va_rf x1), (2, .int x2), (3, .int x3), (4, .int x4), (5, .int x5), (7, .int x7), (8, .int x8), (9, .int x9)]) hC dL_law_120 (by decide) (by first | rfl | simp [lvs1, lvs2, List.filter, cat_rf, cat_i, cat_j]) ?_
  have k122_239 : ∀ (x0 : Option Nat) (x1 : Option Nat) (x2 : Int32) (x3 : Int32) (x4 : Int32) (x5 : Int32) (x7 : Int32) (x8 : Int32) (x9 : Int32) (ph : PH), K239 x0 x1 x2 x3 x4 x5 x7 x8 x9 ph → RR C Z A G 25 239 [(0, va_rf x0), (1, va_rf x1), (2, .int x2), (3, .int x3), (4, .int x4), (5, .int x5), (7, .int x7), (8, .int x8), (9, .int x9)] [] ph (kb + 76) (nb + 1600) := by
    intro x0 x1 x2 x3 x4 x5 x7 x8 x9 ph h
    exact RR.wid (by omega) (by omega) (RR.sub [0, 1, 2, 3, 4, 5, 6, 7, 8] rfl (hK239 _ _ _ _ _ _ _ _ _ _ h))
  obtain ⟨fu122, hfu122, h⟩ := h
  exact RR.wid (by omega) (by omega) (RR.sub [2, 3, 4, 5, 6, 7, 8, 9, 10, 1, 0] rfl (b_L_law_122 (LK := (kb + 76)) (LN := (nb + 1600)) (by omega) (by omega) hC hAo hr hx hn hnw hnx hi k122_239 fu122 (kb + 0) (nb + 0) (by omega) (by omega) _ _ _ _ _ _ _ _ _ _ _ _ h))
set_option maxRecDepth 20000 in
theorem b_L_law_360 {C : Cx} {Z : State → Prop} {A : Nat → Prop} {G : GG} {Q : Int32 → PH → Prop} {X : String → PH → Prop} {K1047 : Option Nat → Option Nat → Int32 → Int32 → Int32 → Int32 → Int64 → Int64 → Int32 → PH → Prop}  {LK LN : Nat} (hLk : LK ≤ 98578) (hLn : LN ≤ 2701240) (hC : CxOk RL cL_law 25 G A room_1 C) (hAo : Ao (xs C)) (hr : HZ C Z A G 25 cL_law 98578 2701240 Q) (hx : HX C Z A G 25 98578 2701240 X) (hn : HN C Z A G 25 RL cL_law 98578 2701240 room_1 X) (hnw : HNW C Z A G 25 RL cL_law 98578 2701240 room_1 X) (hnx : HNX C Z A G 25 RL cL_law 98578 2701240 room_1 X) (hi : True) (hK1047 : ∀ (x0 : Option Nat) (x1 : Option Nat) (x2 : Int32) (x3 : Int32) (x4 : Int32) (x5 : Int32) (x10 : Int64) (x12 : Int64) (x14 : Int32) (ph : PH), K1047 x0 x1 x2 x3 x4 x5 x10 x12 x14 ph → RR C Z A G 25 1047 [(0, va_rf x0), (1, va_rf x1), (2, .int x2), (3, .int x3), (4, .int x4), (5, .int x5), (10, .long x10), (12, .long x12), (14, .int x14)] [] ph LK LN) : ∀ (kb nb : Nat), kb + 6 ≤ LK → nb + 165 ≤ LN → ∀ (x0 : Option Nat) (x1 : Option Nat) (x2 : Int32) (x3 : Int32) (x4 : Int32) (x5 : Int32) (x10 : Int64) (x14 : Int32) (s0 : Int32) (s1 : Int32) (s2 : Int32) (s3 : Int32) (s4 : Int32) (s5 : Int32) (s6 : Option Nat) (ph : PH), w_L_law_360 G Q X K1047 x0 x1 x2 x3 x4 x5 x10 x14 s0 s1 s2 s3 s4 s5 s6 ph → RR C Z A G 25 360 [(0, va_rf x0), (1, va_rf x1), (2, .int x2), (3, .int x3), (4, .int x4), (5, .int x5), (10, .long x10), (14, .int x14)] [.int s0, .int s1, .int s2, .int s3, .int s4, .int s5, va_rf s6] ph kb nb := by
  intro kb nb e1 e2 x0 x1 x2 x3 x4 x5 x10 x14 s0 s1 s2 s3 s4 s5 s6 ph h
  refine r_SXJ hC hAo [va_rf s6, .int s5, .int s4, .int s3, .int s2, .int s1, .int s0] cal_L_call tb_383 rfl (c_L_call G _ _ _ _ _ _ _ _ _ _ h) ⟨by decide, by decide⟩ ⟨(by simp only [room_1]; omega), (by simp only [room_1]; omega)⟩ (by simp only [List.map_nil, List.map_cons, List.sum_nil, List.sum_cons, cat_rf, cat_i, cat_j]; decide) rfl dL_law_360 (fun E u hx9 => hx _ _ _ _ _ _ _ (by omega) (by omega) hx9) (fun v360 ph360 h => ?_)
  refine RR.wid (k' := (kb + 6)) (n' := (nb + 165)) (by omega) (by omega) ?_
  refine r_lstore (i := 12) (lv' := [(12, .long v360), (0, va_rf x0), (1, va_rf x1), (2, .int x2), (3, .int x3), (4, .int x4), (5, .int x5), (10, .long x10), (14, .int x14)]) hC dL_law_363 (by decide) (by first | rfl | simp [lvs1, lvs2, List.filter, cat_rf, cat_i, cat_j]) ?_
  refine r_goto (tgt := 1047) hC dL_law_365 (by decide) ?_
  exact RR.wid (by omega) (by omega) (RR.sub [1, 2, 3, 4, 5, 6, 7, 0, 8] rfl (hK1047 _ _ _ _ _ _ _ _ _ _ h))
set_option maxRecDepth 20000 in
theorem b_L_law_606 {C : Cx} {Z : State → Prop} {A : Nat → Prop} {G : GG} {Q : Int32 → PH → Prop} {X : String → PH → Prop} {K1047 : Option Nat → Option Nat → Int32 → Int32 → Int32 → Int32 → Int64 → Int64 → Int32 → PH → Prop}  {LK LN : Nat} (hLk : LK ≤ 98578) (hLn : LN ≤ 2701240) (hC : CxOk RL cL_law 25 G A room_1 C) (hAo : Ao (xs C)) (hr : HZ C Z A G 25 cL_law 98578 2701240 Q) (hx : HX C Z A G 25 98578 2701240 X) (hn : HN C Z A G 25 RL cL_law 98578 2701240 room_1 X) (hnw : HNW C Z A G 25 RL cL_law 98578 2701240 room_1 X) (hnx : HNX C Z A G 25 RL cL_law 98578 2701240 room_1 X) (hi : True) (hK1047 : ∀ (x0 : Option Nat) (x1 : Option Nat) (x2 : Int32) (x3 : Int32) (x4 : Int32) (x5 : Int32) (x10 : Int64) (x12 : Int64) (x14 : Int32) (ph : PH), K1047 x0 x1 x2 x3 x4 x5 x10 x12 x14 ph → RR C Z A G 25 1047 [(0, va_rf x0), (1, va_rf x1), (2, .int x2), (3, .int x3), (4, .int x4), (5, .int x5), (10, .long x10), (12, .long x12), (14, .int x14)] [] ph LK LN) : ∀ (fu kb nb : Nat), kb + fu * 18 + 18 ≤ LK → nb + fu * 495 + 495 ≤ LN → ∀ (x0 : Option Nat) (x1 : Option Nat) (x2 : Int32) (x3 : Int32) (x4 : Int32) (x5 : Int32) (x8 : Int32) (x10 : Int64) (x12 : Int64) (x14 : Int32) (x16 : Int32) (ph : PH), w_L_law_606 G Q X K1047 fu x0 x1 x2 x3 x4 x5 x8 x10 x12 x14 x16 ph → RR C Z A G 25 606 [(0, va_rf x0), (1, va_rf x1), (2, .int x2), (3, .int x3), (4, .int x4), (5, .int x5), (8, .int x8), (10, .long x10), (12, .long x12), (14, .int x14), (16, .int x16)] [] ph kb nb := by
  intro fu
  induction fu with
  | zero => intro kb nb e1 e2 x0 x1 x2 x3 x4 x5 x8 x10 x12 x14 x16 ph h; exact h.elim
  | succ fu ih =>
    intro kb nb e1 e2 x0 x1 x2 x3 x4 x5 x8 x10 x12 x14 x16 ph h
    refine r_iload hC dL_law_606 10 rfl ?_
    refine r_iconst (v := 5) hC dL_law_608 (by decide) ?_
    refine r_icmp_ge (tgt := 671) hC dL_law_609 (by decide) (fun c9 => ?_) (fun c9 => ?_)
    · have h := h.1 c9
      refine r_goto (tgt := 1047) hC dL_law_671 (by decide) ?_
      exact RR.wid (by omega) (by omega) (RR.sub [0, 1, 2, 3, 4, 5, 7, 8, 9] rfl (hK1047 _ _ _ _ _ _ _ _ _ _ h))
    · have h := h.2 c9
      refine r_iload hC dL_law_612 9 rfl ?_
      refine r_if_eq (tgt := 671) hC dL_law_614 (by decide) (fun c9 => ?_) (fun c9 => ?_)
      · have h := h.1 c9
        refine r_goto (tgt := 1047) hC dL_law_671 (by decide) ?_
        exact RR.wid (by omega) (by omega) (RR.sub [0, 1, 2, 3, 4, 5, 7, 8, 9] rfl (hK1047 _ _ _ _ _ _ _ _ _ _ h))
      · have h := h.2 c9
        refine r_aload_n hC dL_law_617 rfl 1 rfl ?_
        refine r_bipush (v := 6) hC dL_law_618 (by decide) ?_
        refine r_lload hC dL_law_620 8 rfl ?_
        refine r_l2i hC dL_law_622 ?_
        refine r_iload hC dL_law_623 10 rfl ?_
        refine r_iconst (v := 0) hC dL_law_625 (by decide) ?_
        refine r_SJ hC hAo [va_rf x1, .int (6 : Int32), .int x12.toInt32, .int x16, .int (0 : Int32)] cal_L_call_ ml_L_188 rfl (c_L_call_ G _ _ _ _ _ _ _ _ h) ⟨by decide, by decide⟩ ⟨(by simp only [room_1]; omega), (by simp only [room_1]; omega)⟩ (by simp only [List.map_nil, List.map_cons, List.sum_nil, List.sum_cons, cat_rf, cat_i, cat_j]; decide) rfl dL_law_626 (fun E u hx9 => hx _ _ _ _ _ _ _ (by omega) (by omega) hx9) (fun v626 ph626 h => ?_)
        refine RR.wid (k' := (kb + 6)) (n' := (nb + 165)) (by omega) (by omega) ?_
        refine r_aload_n hC dL_law_629 rfl 1 rfl ?_
        refine r_bipush (v := 6) hC dL_law_630 (by decide) ?_
        refine r_iload hC dL_law_632 6 rfl ?_
        refine r_iload hC dL_law_634 10 rfl ?_
        refine r_iconst (v := 1) hC dL_law_636 (by decide) ?_
        refine r_iadd hC dL_law_637 ?_
        refine r_iconst (v := 0) hC dL_law_638 (by decide) ?_
        refine r_SJ hC hAo [va_rf x1, .int (6 : Int32), .int x8, .int (x16 + (1 : Int32)), .int (0 : Int32)] cal_L_call_ ml_L_188 rfl (c_L_call_ G _ _ _ _ _ _ _ _ h) ⟨by decide, by decide⟩ ⟨(by simp only [room_1]; omega), (by simp only [room_1]; omega)⟩ (by simp only [List.map_nil, List.map_cons, List.sum_nil, List.sum_cons, cat_rf, cat_i, cat_j]; decide) rfl dL_law_639 (fun E u hx9 => hx _ _ _ _ _ _ _ (by omega) (by omega) hx9) (fun v639 ph639 h => ?_)
        refine RR.wid (k' := (kb + 12)) (n' := (nb + 330)) (by omega) (by omega) ?_
        refine r_lcmp hC dL_law_642 ?_
        refine r_if_gt (tgt := 663) hC dL_law_643 (by decide) (fun c9 => ?_) (fun c9 => ?_)
        · have h := h.1 c9
          refine r_iconst (v := 0) hC dL_law_663 (by decide) ?_
          exact hr _ _ _ _ _ _ dL_law_664 (by omega) (by omega) h
        · have h := h.2 c9
          refine r_aload_n hC dL_law_646 rfl 1 rfl ?_
          refine r_bipush (v := 6) hC dL_law_647 (by decide) ?_
          refine r_lload hC dL_law_649 8 rfl ?_
          refine r_l2i hC dL_law_651 ?_
          refine r_iload hC dL_law_652 10 rfl ?_
          refine r_iconst (v := 0) hC dL_law_654 (by decide) ?_
          refine r_SJ hC hAo [va_rf x1, .int (6 : Int32), .int x12.toInt32, .int x16, .int (0 : Int32)] cal_L_call_ ml_L_188 rfl (c_L_call_ G _ _ _ _ _ _ _ _ h) ⟨by decide, by decide⟩ ⟨(by simp only [room_1]; omega), (by simp only [room_1]; omega)⟩ (by simp only [List.map_nil, List.map_cons, List.sum_nil, List.sum_cons, cat_rf, cat_i, cat_j]; decide) rfl dL_law_655 (fun E u hx9 => hx _ _ _ _ _ _ _ (by omega) (by omega) hx9) (fun v655 ph655 h => ?_)
          refine RR.wid (k' := (kb + 18)) (n' := (nb + 495)) (by omega) (by omega) ?_
          refine r_lconst (v := 1) hC dL_law_658 (by decide) ?_
          refine r_lcmp hC dL_law_659 ?_
          refine r_if_ge (tgt := 665) hC dL_law_660 (by decide) (fun c9 => ?_) (fun c9 => ?_)
          · have h := h.1 c9
            refine r_iinc (w := 10) (v := x16 + 1) (lv' := [(16, .int (x16 + 1)), (0, va_rf x0), (1, va_rf x1), (2, .int x2), (3, .int x3), (4, .int x4), (5, .int x5), (8, .int x8), (10, .long x10), (12, .long x12), (14, .int x14)]) hC dL_law_665 rfl rfl (by decide) (by first | rfl | simp [lvs1, List.filter, cat_rf, cat_i, cat_j]) ?_
            refine r_goto (tgt := 606) hC dL_law_668 (by decide) ?_
            exact RR.wid (by omega) (by omega) (RR.sub [1, 2, 3, 4, 5, 6, 7, 8, 9, 10, 0] rfl (ih (kb + 18) (nb + 495) (by omega) (by omega) _ _ _ _ _ _ _ _ _ _ _ _ h))
          · have h := h.2 c9
            refine r_iconst (v := 0) hC dL_law_663 (by decide) ?_
            exact hr _ _ _ _ _ _ dL_law_664 (by omega) (by omega) h
set_option maxRecDepth 20000 in
theorem b_L_law_969 {C : Cx} {Z : State → Prop} {A : Nat → Prop} {G : GG} {Q : Int32 → PH → Prop} {X : String → PH → Prop} {K1047 : Option Nat → Option Nat → Int32 → Int32 → Int32 → Int32 → Int64 → Int64 → Int32 → PH → Prop}  {LK LN : Nat} (hLk : LK ≤ 98578) (hLn : LN ≤ 2701240) (hC : CxOk RL cL_law 25 G A room_1 C) (hAo : Ao (xs C)) (hr : HZ C Z A G 25 cL_law 98578 2701240 Q) (hx : HX C Z A G 25 98578 2701240 X) (hn : HN C Z A G 25 RL cL_law 98578 2701240 room_1 X) (hnw : HNW C Z A G 25 RL cL_law 98578 2701240 room_1 X) (hnx : HNX C Z A G 25 RL cL_law 98578 2701240 room_1 X) (hi : True) (hK1047 : ∀ (x0 : Option Nat) (x1 : Option Nat) (x2 : Int32) (x3 : Int32) (x4 : Int32) (x5 : Int32) (x10 : Int64) (x12 : Int64) (x14 : Int32) (ph : PH), K1047 x0 x1 x2 x3 x4 x5 x10 x12 x14 ph → RR C Z A G 25 1047 [(0, va_rf x0), (1, va_rf x1), (2, .int x2), (3, .int x3), (4, .int x4), (5, .int x5), (10, .long x10), (12, .long x12), (14, .int x14)] [] ph LK LN) : ∀ (fu kb nb : Nat), kb + fu * 24 + 24 ≤ LK → nb + fu * 660 + 660 ≤ LN → ∀ (x0 : Option Nat) (x1 : Option Nat) (x2 : Int32) (x3 : Int32) (x4 : Int32) (x5 : Int32) (x8 : Int32) (x10 : Int64) (x12 : Int64) (x14 : Int32) (x15 : Int32) (x16 : Int32) (ph : PH), w_L_law_969 G Q X K1047 fu x0 x1 x2 x3 x4 x5 x8 x10 x12 x14 x15 x16 ph → RR C Z A G 25 969 [(0, va_rf x0), (1, va_rf x1), (2, .int x2), (3, .int x3), (4, .int x4), (5, .int x5), (8, .int x8), (10, .long x10), (12, .long x12), (14, .int x14), (15, .int x15), (16, .int x16)] [] ph kb nb := by
  intro fu
  induction fu with
  | zero => intro kb nb e1 e2 x0 x1 x2 x3 x4 x5 x8 x10 x12 x14 x15 x16 ph h; exact h.elim
  | succ fu ih =>
    intro kb nb e1 e2 x0 x1 x2 x3 x4 x5 x8 x10 x12 x14 x15 x16 ph h
    refine r_iload hC dL_law_969 11 rfl ?_
    refine r_iconst (v := 5) hC dL_law_971 (by decide) ?_
    refine r_icmp_ge (tgt := 1047) hC dL_law_972 (by decide) (fun c9 => ?_) (fun c9 => ?_)
    · have h := h.1 c9
      exact RR.wid (by omega) (by omega) (RR.sub [0, 1, 2, 3, 4, 5, 7, 8, 9] rfl (hK1047 _ _ _ _ _ _ _ _ _ _ h))
    · have h := h.2 c9
      refine r_lload hC dL_law_975 8 rfl ?_
      refine r_lconst (v := 1) hC dL_law_977 (by decide) ?_
      refine r_lcmp hC dL_law_978 ?_
      refine r_if_ne (tgt := 1047) hC dL_law_979 (by decide) (fun c9 => ?_) (fun c9 => ?_)
      · have h := h.1 c9
        exact RR.wid (by omega) (by omega) (RR.sub [0, 1, 2, 3, 4, 5, 7, 8, 9] rfl (hK1047 _ _ _ _ _ _ _ _ _ _ h))
      · have h := h.2 c9
        refine r_aload_n hC dL_law_982 rfl 1 rfl ?_
        refine r_bipush (v := 6) hC dL_law_983 (by decide) ?_
        refine r_iload hC dL_law_985 6 rfl ?_
        refine r_iload hC dL_law_987 11 rfl ?_
        refine r_iconst (v := 0) hC dL_law_989 (by decide) ?_
        refine r_SJ hC hAo [va_rf x1, .int (6 : Int32), .int x8, .int x16, .int (0 : Int32)] cal_L_call_ ml_L_188 rfl (c_L_call_ G _ _ _ _ _ _ _ _ h) ⟨by decide, by decide⟩ ⟨(by simp only [room_1]; omega), (by simp only [room_1]; omega)⟩ (by simp only [List.map_nil, List.map_cons, List.sum_nil, List.sum_cons, cat_rf, cat_i, cat_j]; decide) rfl dL_law_990 (fun E u hx9 => hx _ _ _ _ _ _ _ (by omega) (by omega) hx9) (fun v990 ph990 h => ?_)
        refine RR.wid (k' := (kb + 6)) (n' := (nb + 165)) (by omega) (by omega) ?_
        refine r_aload_n hC dL_law_993 rfl 1 rfl ?_
        refine r_bipush (v := 6) hC dL_law_994 (by decide) ?_
        refine r_iload hC dL_law_996 10 rfl ?_
        refine r_iload hC dL_law_998 11 rfl ?_
        refine r_iconst (v := 0) hC dL_law_1000 (by decide) ?_
        refine r_SJ hC hAo [va_rf x1, .int (6 : Int32), .int x15, .int x16, .int (0 : Int32)] cal_L_call_ ml_L_188 rfl (c_L_call_ G _ _ _ _ _ _ _ _ h) ⟨by decide, by decide⟩ ⟨(by simp only [room_1]; omega), (by simp only [room_1]; omega)⟩ (by simp only [List.map_nil, List.map_cons, List.sum_nil, List.sum_cons, cat_rf, cat_i, cat_j]; decide) rfl dL_law_1001 (fun E u hx9 => hx _ _ _ _ _ _ _ (by omega) (by omega) hx9) (fun v1001 ph1001 h => ?_)
        refine RR.wid (k' := (kb + 12)) (n' := (nb + 330)) (by omega) (by omega) ?_
        refine r_lcmp hC dL_law_1004 ?_
        refine r_if_ne (tgt := 1039) hC dL_law_1005 (by decide) (fun c9 => ?_) (fun c9 => ?_)
        · have h := h.1 c9
          refine r_iconst (v := 0) hC dL_law_1039 (by decide) ?_
          exact hr _ _ _ _ _ _ dL_law_1040 (by omega) (by omega) h
        · have h := h.2 c9
          refine r_iload hC dL_law_1008 11 rfl ?_
          refine r_if_le (tgt := 1041) hC dL_law_1010 (by decide) (fun c9 => ?_) (fun c9 => ?_)
          · have h := h.1 c9
            refine r_iinc (w := 11) (v := x16 + 1) (lv' := [(16, .int (x16 + 1)), (0, va_rf x0), (1, va_rf x1), (2, .int x2), (3, .int x3), (4, .int x4), (5, .int x5), (8, .int x8), (10, .long x10), (12, .long x12), (14, .int x14), (15, .int x15)]) hC dL_law_1041 rfl rfl (by decide) (by first | rfl | simp [lvs1, List.filter, cat_rf, cat_i, cat_j]) ?_
            refine r_goto (tgt := 969) hC dL_law_1044 (by decide) ?_
            exact RR.wid (by omega) (by omega) (RR.sub [1, 2, 3, 4, 5, 6, 7, 8, 9, 10, 11, 0] rfl (ih (kb + 24) (nb + 660) (by omega) (by omega) _ _ _ _ _ _ _ _ _ _ _ _ _ h))
          · have h := h.2 c9
            refine r_aload_n hC dL_law_1013 rfl 1 rfl ?_
            refine r_bipush (v := 8) hC dL_law_1014 (by decide) ?_
            refine r_iload hC dL_law_1016 6 rfl ?_
            refine r_iload hC dL_law_1018 11 rfl ?_
            refine r_iconst (v := 0) hC dL_law_1020 (by decide) ?_
            refine r_SJ hC hAo [va_rf x1, .int (8 : Int32), .int x8, .int x16, .int (0 : Int32)] cal_L_call_ ml_L_188 rfl (c_L_call_ G _ _ _ _ _ _ _ _ h) ⟨by decide, by decide⟩ ⟨(by simp only [room_1]; omega), (by simp only [room_1]; omega)⟩ (by simp only [List.map_nil, List.map_cons, List.sum_nil, List.sum_cons, cat_rf, cat_i, cat_j]; decide) rfl dL_law_1021 (fun E u hx9 => hx _ _ _ _ _ _ _ (by omega) (by omega) hx9) (fun v1021 ph1021 h => ?_)
            refine RR.wid (k' := (kb + 18)) (n' := (nb + 495)) (by omega) (by omega) ?_
            refine r_aload_n hC dL_law_1024 rfl 1 rfl ?_
            refine r_bipush (v := 8) hC dL_law_1025 (by decide) ?_
            refine r_iload hC dL_law_1027 10 rfl ?_
            refine r_iload hC dL_law_1029 11 rfl ?_
            refine r_iconst (v := 0) hC dL_law_1031 (by decide) ?_
            refine r_SJ hC hAo [va_rf x1, .int (8 : Int32), .int x15, .int x16, .int (0 : Int32)] cal_L_call_ ml_L_188 rfl (c_L_call_ G _ _ _ _ _ _ _ _ h) ⟨by decide, by decide⟩ ⟨(by simp only [room_1]; omega), (by simp only [room_1]; omega)⟩ (by simp only [List.map_nil, List.map_cons, List.sum_nil, List.sum_cons, cat_rf, cat_i, cat_j]; decide) rfl dL_law_1032 (fun E u hx9 => hx _ _ _ _ _ _ _ (by omega) (by omega) hx9) (fun v1032 ph1032 h => ?_)
            refine RR.wid (k' := (kb + 24)) (n' := (nb + 660)) (by omega) (by omega) ?_
            refine r_lcmp hC dL_law_1035 ?_
            refine r_if_eq (tgt := 1041) hC dL_law_1036 (by decide) (fun c9 => ?_) (fun c9 => ?_)
            · have h := h.1 c9
              refine r_iinc (w := 11) (v := x16 + 1) (lv' := [(16, .int (x16 + 1)), (0, va_rf x0), (1, va_rf x1), (2, .int x2), (3, .int x3), (4, .int x4), (5, .int x5), (8, .int x8), (10, .long x10), (12, .long x12), (14, .int x14), (15, .int x15)]) hC dL_law_1041 rfl rfl (by decide) (by first | rfl | simp [lvs1, List.filter, cat_rf, cat_i, cat_j]) ?_
              refine r_goto (tgt := 969) hC dL_law_1044 (by decide) ?_
              exact RR.wid (by omega) (by omega) (RR.sub [1, 2, 3, 4, 5, 6, 7, 8, 9, 10, 11, 0] rfl (ih (kb + 24) (nb + 660) (by omega) (by omega) _ _ _ _ _ _ _ _ _ _ _ _ _ h))
            · have h := h.2 c9
              refine r_iconst (v := 0) hC dL_law_1039 (by decide) ?_
              exact hr _ _ _ _ _ _ dL_law_1040 (by omega) (by omega) h
set_option maxRecDepth 20000 in
theorem b_L_law_1383 {C : Cx} {Z : State → Prop} {A : Nat → Prop} {G : GG} {Q : Int32 → PH → Prop} {X : String → PH → Prop} {K1102 : Option Nat → Option Nat → Int32 → Int32 → Int32 → Int32 → Int32 → PH → Prop}  {LK LN : Nat} (hLk : LK ≤ 98578) (hLn : LN ≤ 2701240) (hC : CxOk RL cL_law 25 G A room_1 C) (hAo : Ao (xs C)) (hr : HZ C Z A G 25 cL_law 98578 2701240 Q) (hx : HX C Z A G 25 98578 2701240 X) (hn : HN C Z A G 25 RL cL_law 98578 2701240 room_1 X) (hnw : HNW C Z A G 25 RL cL_law 98578 2701240 room_1 X) (hnx : HNX C Z A G 25 RL cL_law 98578 2701240 room_1 X) (hi : True) (hK1102 : ∀ (x0 : Option Nat) (x1 : Option Nat) (x2 : Int32) (x3 : Int32) (x4 : Int32) (x5 : Int32) (x15 : Int32) (ph : PH), K1102 x0 x1 x2 x3 x4 x5 x15 ph → RR C Z A G 25 1102 [(0, va_rf x0), (1, va_rf x1), (2, .int x2), (3, .int x3), (4, .int x4), (5, .int x5), (15, .int x15)] [] ph LK LN) : ∀ (kb nb : Nat), kb + 6 ≤ LK → nb + 165 ≤ LN → ∀ (x0 : Option Nat) (x1 : Option Nat) (x2 : Int32) (x3 : Int32) (x4 : Int32) (x5 : Int32) (x15 : Int32) (x16 : Int64) (ph : PH), w_L_law_1383 G Q X K1102 x0 x1 x2 x3 x4 x5 x15 x16 ph → RR C Z A G 25 1383 [(0, va_rf x0), (1, va_rf x1), (2, .int x2), (3, .int x3), (4, .int x4), (5, .int x5), (15, .int x15), (16, .long x16)] [] ph kb nb := by
  intro kb nb e1 e2 x0 x1 x2 x3 x4 x5 x15 x16 ph h
  refine r_lload hC dL_law_1383 7 rfl ?_
  refine r_ldc2 (v := 12) hC tb_1609 dL_law_1385 ?_
  refine r_lcmp hC dL_law_1388 ?_
  refine r_if_gt (tgt := 1409) hC dL_law_1389 (by decide) (fun c9 => ?_) (fun c9 => ?_)
  · have h := h.1 c9
    refine r_iinc (w := 6) (v := x15 + 1) (lv' := [(15, .int (x15 + 1)), (0, va_rf x0), (1, va_rf x1), (2, .int x2), (3, .int x3), (4, .int x4), (5, .int x5), (16, .long x16)]) hC dL_law_1409 rfl rfl (by decide) (by first | rfl | simp [lvs1, List.filter, cat_rf, cat_i, cat_j]) ?_
    refine r_goto (tgt := 1102) hC dL_law_1412 (by decide) ?_
    exact RR.wid (by omega) (by omega) (RR.sub [1, 2, 3, 4, 5, 6, 0] rfl (hK1102 _ _ _ _ _ _ _ _ h))
  · have h := h.2 c9
    refine r_aload_n hC dL_law_1392 rfl 1 rfl ?_
    refine r_bipush (v := 15) hC dL_law_1393 (by decide) ?_
    refine r_iload hC dL_law_1395 6 rfl ?_
    refine r_iconst (v := 0) hC dL_law_1397 (by decide) ?_
    refine r_iconst (v := 0) hC dL_law_1398 (by decide) ?_
    refine r_SJ hC hAo [va_rf x1, .int (15 : Int32), .int x15, .int (0 : Int32), .int (0 : Int32)] cal_L_call_ ml_L_188 rfl (c_L_call_ G _ _ _ _ _ _ _ _ h) ⟨by decide, by decide⟩ ⟨(by simp only [room_1]; omega), (by simp only [room_1]; omega)⟩ (by simp only [List.map_nil, List.map_cons, List.sum_nil, List.sum_cons, cat_rf, cat_i, cat_j]; decide) rfl dL_law_1399 (fun E u hx9 => hx _ _ _ _ _ _ _ (by omega) (by omega) hx9) (fun v1399 ph1399 h => ?_)
    refine RR.wid (k' := (kb + 6)) (n' := (nb + 165)) (by omega) (by omega) ?_
    refine r_lconst (v := 1) hC dL_law_1402 (by decide) ?_
    refine r_lcmp hC dL_law_1403 ?_
    refine r_if_eq (tgt := 1409) hC dL_law_1404 (by decide) (fun c9 => ?_) (fun c9 => ?_)
    · have h := h.1 c9
      refine r_iinc (w := 6) (v := x15 + 1) (lv' := [(15, .int (x15 + 1)), (0, va_rf x0), (1, va_rf x1), (2, .int x2), (3, .int x3), (4, .int x4), (5, .int x5), (16, .long x16)]) hC dL_law_1409 rfl rfl (by decide) (by first | rfl | simp [lvs1, List.filter, cat_rf, cat_i, cat_j]) ?_
      refine r_goto (tgt := 1102) hC dL_law_1412 (by decide) ?_
      exact RR.wid (by omega) (by omega) (RR.sub [1, 2, 3, 4, 5, 6, 0] rfl (hK1102 _ _ _ _ _ _ _ _ h))
    · have h := h.2 c9
      refine r_iconst (v := 0) hC dL_law_1407 (by decide) ?_
      exact hr _ _ _ _ _ _ dL_law_1408 (by omega) (by omega) h
set_option maxRecDepth 20000 in
theorem b_L_law_1302 {C : Cx} {Z : State → Prop} {A : Nat → Prop} {G : GG} {Q : Int32 → PH → Prop} {X : String → PH → Prop} {K1102 : Option Nat → Option Nat → Int32 → Int32 → Int32 → Int32 → Int32 → PH → Prop}  {LK LN : Nat} (hLk : LK ≤ 98578) (hLn : LN ≤ 2701240) (hC : CxOk RL cL_law 25 G A room_1 C) (hAo : Ao (xs C)) (hr : HZ C Z A G 25 cL_law 98578 2701240 Q) (hx : HX C Z A G 25 98578 2701240 X) (hn : HN C Z A G 25 RL cL_law 98578 2701240 room_1 X) (hnw : HNW C Z A G 25 RL cL_law 98578 2701240 room_1 X) (hnx : HNX C Z A G 25 RL cL_law 98578 2701240 room_1 X) (hi : True) (hK1102 : ∀ (x0 : Option Nat) (x1 : Option Nat) (x2 : Int32) (x3 : Int32) (x4 : Int32) (x5 : Int32) (x15 : Int32) (ph : PH), K1102 x0 x1 x2 x3 x4 x5 x15 ph → RR C Z A G 25 1102 [(0, va_rf x0), (1, va_rf x1), (2, .int x2), (3, .int x3), (4, .int x4), (5, .int x5), (15, .int x15)] [] ph LK LN) : ∀ (kb nb : Nat), kb + 42 ≤ LK → nb + 1155 ≤ LN → ∀ (x0 : Option Nat) (x1 : Option Nat) (x2 : Int32) (x3 : Int32) (x4 : Int32) (x5 : Int32) (x15 : Int32) (x16 : Int64) (ph : PH), w_L_law_1302 G Q X K1102 x0 x1 x2 x3 x4 x5 x15 x16 ph → RR C Z A G 25 1302 [(0, va_rf x0), (1, va_rf x1), (2, .int x2), (3, .int x3), (4, .int x4), (5, .int x5), (15, .int x15), (16, .long x16)] [] ph kb nb := by
  intro kb nb e1 e2 x0 x1 x2 x3 x4 x5 x15 x16 ph h
  refine r_lload hC dL_law_1302 7 rfl ?_
  refine r_lconst (v := 0) hC dL_law_1304 (by decide) ?_
  refine r_lcmp hC dL_law_1305 ?_
  refine r_if_le (tgt := 1383) hC dL_law_1306 (by decide) (fun c9 => ?_) (fun c9 => ?_)
  · have h := h.1 c9
    have k1383_1102 : ∀ (x0 : Option Nat) (x1 : Option Nat) (x2 : Int32) (x3 : Int32) (x4 : Int32) (x5 : Int32) (x15 : Int32) (ph : PH), K1102 x0 x1 x2 x3 x4 x5 x15 ph → RR C Z A G 25 1102 [(0, va_rf x0), (1, va_rf x1), (2, .int x2), (3, .int x3), (4, .int x4), (5, .int x5), (15, .int x15)] [] ph (kb + 6) (nb + 165) := by
      intro x0 x1 x2 x3 x4 x5 x15 ph h
      exact RR.wid (by omega) (by omega) (RR.sub [0, 1, 2, 3, 4, 5, 6] rfl (hK1102 _ _ _ _ _ _ _ _ h))
    exact RR.wid (by omega) (by omega) (RR.sub [0, 1, 2, 3, 4, 5, 6, 7] rfl (b_L_law_1383 (LK := (kb + 6)) (LN := (nb + 165)) (by omega) (by omega) hC hAo hr hx hn hnw hnx hi k1383_1102 (kb + 0) (nb + 0) (by omega) (by omega) _ _ _ _ _ _ _ _ _ h))
  · have h := h.2 c9
    refine r_aload_n hC dL_law_1309 rfl 1 rfl ?_
    refine r_bipush (v := 16) hC dL_law_1310 (by decide) ?_
    refine r_iload hC dL_law_1312 6 rfl ?_
    refine r_iconst (v := 2) hC dL_law_1314 (by decide) ?_
    refine r_iconst (v := 1) hC dL_law_1315 (by decide) ?_
    refine r_SJ hC hAo [va_rf x1, .int (16 : Int32), .int x15, .int (2 : Int32), .int (1 : Int32)] cal_L_call_ ml_L_188 rfl (c_L_call_ G _ _ _ _ _ _ _ _ h) ⟨by decide, by decide⟩ ⟨(by simp only [room_1]; omega), (by simp only [room_1]; omega)⟩ (by simp only [List.map_nil, List.map_cons, List.sum_nil, List.sum_cons, cat_rf, cat_i, cat_j]; decide) rfl dL_law_1316 (fun E u hx9 => hx _ _ _ _ _ _ _ (by omega) (by omega) hx9) (fun v1316 ph1316 h => ?_)
    refine RR.wid (k' := (kb + 6)) (n' := (nb + 165)) (by omega) (by omega) ?_
    refine r_aload_n hC dL_law_1319 rfl 1 rfl ?_
    refine r_bipush (v := 16) hC dL_law_1320 (by decide) ?_
    refine r_iload hC dL_law_1322 6 rfl ?_
    refine r_iconst (v := 2) hC dL_law_1324 (by decide) ?_
    refine r_iconst (v := 0) hC dL_law_1325 (by decide) ?_
    refine r_SJ hC hAo [va_rf x1, .int (16 : Int32), .int x15, .int (2 : Int32), .int (0 : Int32)] cal_L_call_ ml_L_188 rfl (c_L_call_ G _ _ _ _ _ _ _ _ h) ⟨by decide, by decide⟩ ⟨(by simp only [room_1]; omega), (by simp only [room_1]; omega)⟩ (by simp only [List.map_nil, List.map_cons, List.sum_nil, List.sum_cons, cat_rf, cat_i, cat_j]; decide) rfl dL_law_1326 (fun E u hx9 => hx _ _ _ _ _ _ _ (by omega) (by omega) hx9) (fun v1326 ph1326 h => ?_)
    refine RR.wid (k' := (kb + 12)) (n' := (nb + 330)) (by omega) (by omega) ?_
    refine r_lcmp hC dL_law_1329 ?_
    refine r_if_gt (tgt := 1381) hC dL_law_1330 (by decide) (fun c9 => ?_) (fun c9 => ?_)
    · have h := h.1 c9
      refine r_iconst (v := 0) hC dL_law_1381 (by decide) ?_
      exact hr _ _ _ _ _ _ dL_law_1382 (by omega) (by omega) h
    · have h := h.2 c9
      refine r_aload_n hC dL_law_1333 rfl 1 rfl ?_
      refine r_bipush (v := 16) hC dL_law_1334 (by decide) ?_
      refine r_iload hC dL_law_1336 6 rfl ?_
      refine r_iconst (v := 3) hC dL_law_1338 (by decide) ?_
      refine r_iconst (v := 1) hC dL_law_1339 (by decide) ?_
      refine r_SJ hC hAo [va_rf x1, .int (16 : Int32), .int x15, .int (3 : Int32), .int (1 : Int32)] cal_L_call_ ml_L_188 rfl (c_L_call_ G _ _ _ _ _ _ _ _ h) ⟨by decide, by decide⟩ ⟨(by simp only [room_1]; omega), (by simp only [room_1]; omega)⟩ (by simp only [List.map_nil, List.map_cons, List.sum_nil, List.sum_cons, cat_rf, cat_i, cat_j]; decide) rfl dL_law_1340 (fun E u hx9 => hx _ _ _ _ _ _ _ (by omega) (by omega) hx9) (fun v1340 ph1340 h => ?_)
      refine RR.wid (k' := (kb + 18)) (n' := (nb + 495)) (by omega) (by omega) ?_
      refine r_aload_n hC dL_law_1343 rfl 1 rfl ?_
      refine r_bipush (v := 16) hC dL_law_1344 (by decide) ?_
      refine r_iload hC dL_law_1346 6 rfl ?_
      refine r_iconst (v := 2) hC dL_law_1348 (by decide) ?_
      refine r_iconst (v := 1) hC dL_law_1349 (by decide) ?_
      refine r_SJ hC hAo [va_rf x1, .int (16 : Int32), .int x15, .int (2 : Int32), .int (1 : Int32)] cal_L_call_ ml_L_188 rfl (c_L_call_ G _ _ _ _ _ _ _ _ h) ⟨by decide, by decide⟩ ⟨(by simp only [room_1]; omega), (by simp only [room_1]; omega)⟩ (by simp only [List.map_nil, List.map_cons, List.sum_nil, List.sum_cons, cat_rf, cat_i, cat_j]; decide) rfl dL_law_1350 (fun E u hx9 => hx _ _ _ _ _ _ _ (by omega) (by omega) hx9) (fun v1350 ph1350 h => ?_)
      refine RR.wid (k' := (kb + 24)) (n' := (nb + 660)) (by omega) (by omega) ?_
      refine r_lcmp hC dL_law_1353 ?_
      refine r_if_lt (tgt := 1381) hC dL_law_1354 (by decide) (fun c9 => ?_) (fun c9 => ?_)
      · have h := h.1 c9
        refine r_iconst (v := 0) hC dL_law_1381 (by decide) ?_
        exact hr _ _ _ _ _ _ dL_law_1382 (by omega) (by omega) h
      · have h := h.2 c9
        refine r_aload_n hC dL_law_1357 rfl 1 rfl ?_
        refine r_bipush (v := 16) hC dL_law_1358 (by decide) ?_
        refine r_iload hC dL_law_1360 6 rfl ?_
        refine r_iconst (v := 3) hC dL_law_1362 (by decide) ?_
        refine r_iconst (v := 0) hC dL_law_1363 (by decide) ?_
        refine r_SJ hC hAo [va_rf x1, .int (16 : Int32), .int x15, .int (3 : Int32), .int (0 : Int32)] cal_L_call_ ml_L_188 rfl (c_L_call_ G _ _ _ _ _ _ _ _ h) ⟨by decide, by decide⟩ ⟨(by simp only [room_1]; omega), (by simp only [room_1]; omega)⟩ (by simp only [List.map_nil, List.map_cons, List.sum_nil, List.sum_cons, cat_rf, cat_i, cat_j]; decide) rfl dL_law_1364 (fun E u hx9 => hx _ _ _ _ _ _ _ (by omega) (by omega) hx9) (fun v1364 ph1364 h => ?_)
        refine RR.wid (k' := (kb + 30)) (n' := (nb + 825)) (by omega) (by omega) ?_
        refine r_aload_n hC dL_law_1367 rfl 1 rfl ?_
        refine r_bipush (v := 16) hC dL_law_1368 (by decide) ?_
        refine r_iload hC dL_law_1370 6 rfl ?_
        refine r_iconst (v := 2) hC dL_law_1372 (by decide) ?_
        refine r_iconst (v := 0) hC dL_law_1373 (by decide) ?_
        refine r_SJ hC hAo [va_rf x1, .int (16 : Int32), .int x15, .int (2 : Int32), .int (0 : Int32)] cal_L_call_ ml_L_188 rfl (c_L_call_ G _ _ _ _ _ _ _ _ h) ⟨by decide, by decide⟩ ⟨(by simp only [room_1]; omega), (by simp only [room_1]; omega)⟩ (by simp only [List.map_nil, List.map_cons, List.sum_nil, List.sum_cons, cat_rf, cat_i, cat_j]; decide) rfl dL_law_1374 (fun E u hx9 => hx _ _ _ _ _ _ _ (by omega) (by omega) hx9) (fun v1374 ph1374 h => ?_)
        refine RR.wid (k' := (kb + 36)) (n' := (nb + 990)) (by omega) (by omega) ?_
        refine r_lcmp hC dL_law_1377 ?_
        refine r_if_le (tgt := 1383) hC dL_law_1378 (by decide) (fun c9 => ?_) (fun c9 => ?_)
        · have h := h.1 c9
          have k1383_1102 : ∀ (x0 : Option Nat) (x1 : Option Nat) (x2 : Int32) (x3 : Int32) (x4 : Int32) (x5 : Int32) (x15 : Int32) (ph : PH), K1102 x0 x1 x2 x3 x4 x5 x15 ph → RR C Z A G 25 1102 [(0, va_rf x0), (1, va_rf x1), (2, .int x2), (3, .int x3), (4, .int x4), (5, .int x5), (15, .int x15)] [] ph (kb + 42) (nb + 1155) := by
            intro x0 x1 x2 x3 x4 x5 x15 ph h
            exact RR.wid (by omega) (by omega) (RR.sub [0, 1, 2, 3, 4, 5, 6] rfl (hK1102 _ _ _ _ _ _ _ _ h))
          exact RR.wid (by omega) (by omega) (RR.sub [0, 1, 2, 3, 4, 5, 6, 7] rfl (b_L_law_1383 (LK := (kb + 42)) (LN := (nb + 1155)) (by omega) (by omega) hC hAo hr hx hn hnw hnx hi k1383_1102 (kb + 36) (nb + 990) (by omega) (by omega) _ _ _ _ _ _ _ _ _ h))
        · have h := h.2 c9
          refine r_iconst (v := 0) hC dL_law_1381 (by decide) ?_
          exact hr _ _ _ _ _ _ dL_law_1382 (by omega) (by omega) h
set_option maxRecDepth 20000 in
theorem b_L_law_1278 {C : Cx} {Z : State → Prop} {A : Nat → Prop} {G : GG} {Q : Int32 → PH → Prop} {X : String → PH → Prop} {K1102 : Option Nat → Option Nat → Int32 → Int32 → Int32 → Int32 → Int32 → PH → Prop}  {LK LN : Nat} (hLk : LK ≤ 98578) (hLn : LN ≤ 2701240) (hC : CxOk RL cL_law 25 G A room_1 C) (hAo : Ao (xs C)) (hr : HZ C Z A G 25 cL_law 98578 2701240 Q) (hx : HX C Z A G 25 98578 2701240 X) (hn : HN C Z A G 25 RL cL_law 98578 2701240 room_1 X) (hnw : HNW C Z A G 25 RL cL_law 98578 2701240 room_1 X) (hnx : HNX C Z A G 25 RL cL_law 98578 2701240 room_1 X) (hi : True) (hK1102 : ∀ (x0 : Option Nat) (x1 : Option Nat) (x2 : Int32) (x3 : Int32) (x4 : Int32) (x5 : Int32) (x15 : Int32) (ph : PH), K1102 x0 x1 x2 x3 x4 x5 x15 ph → RR C Z A G 25 1102 [(0, va_rf x0), (1, va_rf x1), (2, .int x2), (3, .int x3), (4, .int x4), (5, .int x5), (15, .int x15)] [] ph LK LN) : ∀ (kb nb : Nat), kb + 48 ≤ LK → nb + 1320 ≤ LN → ∀ (x0 : Option Nat) (x1 : Option Nat) (x2 : Int32) (x3 : Int32) (x4 : Int32) (x5 : Int32) (x15 : Int32) (x16 : Int64) (x22 : Int64) (ph : PH), w_L_law_1278 G Q X K1102 x0 x1 x2 x3 x4 x5 x15 x16 x22 ph → RR C Z A G 25 1278 [(0, va_rf x0), (1, va_rf x1), (2, .int x2), (3, .int x3), (4, .int x4), (5, .int x5), (15, .int x15), (16, .long x16), (22, .long x22)] [] ph kb nb := by
  intro kb nb e1 e2 x0 x1 x2 x3 x4 x5 x15 x16 x22 ph h
  refine r_aload_n hC dL_law_1278 rfl 1 rfl ?_
  refine r_bipush (v := 11) hC dL_law_1279 (by decide) ?_
  refine r_iload hC dL_law_1281 6 rfl ?_
  refine r_iconst (v := 0) hC dL_law_1283 (by decide) ?_
  refine r_iconst (v := 0) hC dL_law_1284 (by decide) ?_
  refine r_SJ hC hAo [va_rf x1, .int (11 : Int32), .int x15, .int (0 : Int32), .int (0 : Int32)] cal_L_call_ ml_L_188 rfl (c_L_call_ G _ _ _ _ _ _ _ _ h) ⟨by decide, by decide⟩ ⟨(by simp only [room_1]; omega), (by simp only [room_1]; omega)⟩ (by simp only [List.map_nil, List.map_cons, List.sum_nil, List.sum_cons, cat_rf, cat_i, cat_j]; decide) rfl dL_law_1285 (fun E u hx9 => hx _ _ _ _ _ _ _ (by omega) (by omega) hx9) (fun v1285 ph1285 h => ?_)
  refine RR.wid (k' := (kb + 6)) (n' := (nb + 165)) (by omega) (by omega) ?_
  refine r_lconst (v := 1) hC dL_law_1288 (by decide) ?_
  refine r_lcmp hC dL_law_1289 ?_
  refine r_if_ne (tgt := 1302) hC dL_law_1290 (by decide) (fun c9 => ?_) (fun c9 => ?_)
  · have h := h.1 c9
    have k1302_1102 : ∀ (x0 : Option Nat) (x1 : Option Nat) (x2 : Int32) (x3 : Int32) (x4 : Int32) (x5 : Int32) (x15 : Int32) (ph : PH), K1102 x0 x1 x2 x3 x4 x5 x15 ph → RR C Z A G 25 1102 [(0, va_rf x0), (1, va_rf x1), (2, .int x2), (3, .int x3), (4, .int x4), (5, .int x5), (15, .int x15)] [] ph (kb + 48) (nb + 1320) := by
      intro x0 x1 x2 x3 x4 x5 x15 ph h
      exact RR.wid (by omega) (by omega) (RR.sub [0, 1, 2, 3, 4, 5, 6] rfl (hK1102 _ _ _ _ _ _ _ _ h))
    exact RR.wid (by omega) (by omega) (RR.sub [0, 1, 2, 3, 4, 5, 6, 7] rfl (b_L_law_1302 (LK := (kb + 48)) (LN := (nb + 1320)) (by omega) (by omega) hC hAo hr hx hn hnw hnx hi k1302_1102 (kb + 6) (nb + 165) (by omega) (by omega) _ _ _ _ _ _ _ _ _ h))
  · have h := h.2 c9
    refine r_lload hC dL_law_1293 8 rfl ?_
    refine r_lconst (v := 1) hC dL_law_1295 (by decide) ?_
    refine r_lcmp hC dL_law_1296 ?_
    refine r_if_ge (tgt := 1302) hC dL_law_1297 (by decide) (fun c9 => ?_) (fun c9 => ?_)
    · have h := h.1 c9
      have k1302_1102 : ∀ (x0 : Option Nat) (x1 : Option Nat) (x2 : Int32) (x3 : Int32) (x4 : Int32) (x5 : Int32) (x15 : Int32) (ph : PH), K1102 x0 x1 x2 x3 x4 x5 x15 ph → RR C Z A G 25 1102 [(0, va_rf x0), (1, va_rf x1), (2, .int x2), (3, .int x3), (4, .int x4), (5, .int x5), (15, .int x15)] [] ph (kb + 48) (nb + 1320) := by
        intro x0 x1 x2 x3 x4 x5 x15 ph h
        exact RR.wid (by omega) (by omega) (RR.sub [0, 1, 2, 3, 4, 5, 6] rfl (hK1102 _ _ _ _ _ _ _ _ h))
      exact RR.wid (by omega) (by omega) (RR.sub [0, 1, 2, 3, 4, 5, 6, 7] rfl (b_L_law_1302 (LK := (kb + 48)) (LN := (nb + 1320)) (by omega) (by omega) hC hAo hr hx hn hnw hnx hi k1302_1102 (kb + 6) (nb + 165) (by omega) (by omega) _ _ _ _ _ _ _ _ _ h))
    · have h := h.2 c9
      refine r_iconst (v := 0) hC dL_law_1300 (by decide) ?_
      exact hr _ _ _ _ _ _ dL_law_1301 (by omega) (by omega) h
set_option maxRecDepth 20000 in
theorem b_L_law_1154 {C : Cx} {Z : State → Prop} {A : Nat → Prop} {G : GG} {Q : Int32 → PH → Prop} {X : String → PH → Prop} {K1102 : Option Nat → Option Nat → Int32 → Int32 → Int32 → Int32 → Int32 → PH → Prop}  {LK LN : Nat} (hLk : LK ≤ 98578) (hLn : LN ≤ 2701240) (hC : CxOk RL cL_law 25 G A room_1 C) (hAo : Ao (xs C)) (hr : HZ C Z A G 25 cL_law 98578 2701240 Q) (hx : HX C Z A G 25 98578 2701240 X) (hn : HN C Z A G 25 RL cL_law 98578 2701240 room_1 X) (hnw : HNW C Z A G 25 RL cL_law 98578 2701240 room_1 X) (hnx : HNX C Z A G 25 RL cL_law 98578 2701240 room_1 X) (hi : True) (hK1102 : ∀ (x0 : Option Nat) (x1 : Option Nat) (x2 : Int32) (x3 : Int32) (x4 : Int32) (x5 : Int32) (x15 : Int32) (ph : PH), K1102 x0 x1 x2 x3 x4 x5 x15 ph → RR C Z A G 25 1102 [(0, va_rf x0), (1, va_rf x1), (2, .int x2), (3, .int x3), (4, .int x4), (5, .int x5), (15, .int x15)] [] ph LK LN) : ∀ (fu kb nb : Nat), kb + fu * 12 + 60 ≤ LK → nb + fu * 330 + 1650 ≤ LN → ∀ (x0 : Option Nat) (x1 : Option Nat) (x2 : Int32) (x3 : Int32) (x4 : Int32) (x5 : Int32) (x15 : Int32) (x16 : Int64) (x18 : Int64) (x20 : Int32) (ph : PH), w_L_law_1154 G Q X K1102 fu x0 x1 x2 x3 x4 x5 x15 x16 x18 x20 ph → RR C Z A G 25 1154 [(0, va_rf x0), (1, va_rf x1), (2, .int x2), (3, .int x3), (4, .int x4), (5, .int x5), (15, .int x15), (16, .long x16), (18, .long x18), (20, .int x20)] [] ph kb nb := by
  intro fu
  induction fu with
  | zero => intro kb nb e1 e2 x0 x1 x2 x3 x4 x5 x15 x16 x18 x20 ph h; exact h.elim
  | succ fu ih =>
    intro kb nb e1 e2 x0 x1 x2 x3 x4 x5 x15 x16 x18 x20 ph h
    refine r_iload hC dL_law_1154 9 rfl ?_
    refine r_iconst (v := 5) hC dL_law_1156 (by decide) ?_
    refine r_icmp_ge (tgt := 1233) hC dL_law_1157 (by decide) (fun c9 => ?_) (fun c9 => ?_)
    · have h := h.1 c9
      refine r_aload_n hC dL_law_1233 rfl 1 rfl ?_
      refine r_bipush (v := 13) hC dL_law_1234 (by decide) ?_
      refine r_iload hC dL_law_1236 6 rfl ?_
      refine r_iconst (v := 0) hC dL_law_1238 (by decide) ?_
      refine r_iconst (v := 0) hC dL_law_1239 (by decide) ?_
      refine r_SJ hC hAo [va_rf x1, .int (13 : Int32), .int x15, .int (0 : Int32), .int (0 : Int32)] cal_L_call_ ml_L_188 rfl (c_L_call_ G _ _ _ _ _ _ _ _ h) ⟨by decide, by decide⟩ ⟨(by simp only [room_1]; omega), (by simp only [room_1]; omega)⟩ (by simp only [List.map_nil, List.map_cons, List.sum_nil, List.sum_cons, cat_rf, cat_i, cat_j]; decide) rfl dL_law_1240 (fun E u hx9 => hx _ _ _ _ _ _ _ (by omega) (by omega) hx9) (fun v1240 ph1240 h => ?_)
      refine RR.wid (k' := (kb + 6)) (n' := (nb + 165)) (by omega) (by omega) ?_
      refine r_lstore (i := 20) (lv' := [(20, .long v1240), (0, va_rf x0), (1, va_rf x1), (2, .int x2), (3, .int x3), (4, .int x4), (5, .int x5), (15, .int x15), (16, .long x16), (18, .long x18)]) hC dL_law_1243 (by decide) (by first | rfl | simp [lvs1, lvs2, List.filter, cat_rf, cat_i, cat_j]) ?_
      refine r_aload_n hC dL_law_1245 rfl 2 rfl ?_
      refine r_bipush (v := 9) hC dL_law_1246 (by decide) ?_
      refine r_iload hC dL_law_1248 7 rfl ?_
      refine r_iconst (v := 0) hC dL_law_1250 (by decide) ?_
      refine r_iconst (v := 0) hC dL_law_1251 (by decide) ?_
      refine r_SJ hC hAo [va_rf x1, .int (9 : Int32), .int x15, .int (0 : Int32), .int (0 : Int32)] cal_L_call_ ml_L_188 rfl (c_L_call_ G _ _ _ _ _ _ _ _ h) ⟨by decide, by decide⟩ ⟨(by simp only [room_1]; omega), (by simp only [room_1]; omega)⟩ (by simp only [List.map_nil, List.map_cons, List.sum_nil, List.sum_cons, cat_rf, cat_i, cat_j]; decide) rfl dL_law_1252 (fun E u hx9 => hx _ _ _ _ _ _ _ (by omega) (by omega) hx9) (fun v1252 ph1252 h => ?_)
      refine RR.wid (k' := (kb + 12)) (n' := (nb + 330)) (by omega) (by omega) ?_
      refine r_lstore (i := 22) (lv' := [(22, .long v1252), (20, .long v1240), (0, va_rf x0), (1, va_rf x1), (2, .int x2), (3, .int x3), (4, .int x4), (5, .int x5), (15, .int x15), (16, .long x16), (18, .long x18)]) hC dL_law_1255 (by decide) (by first | rfl | simp [lvs1, lvs2, List.filter, cat_rf, cat_i, cat_j]) ?_
      refine r_lload hC dL_law_1257 9 rfl ?_
      refine r_lconst (v := 0) hC dL_law_1259 (by decide) ?_
      refine r_lcmp hC dL_law_1260 ?_
      refine r_if_le (tgt := 1278) hC dL_law_1261 (by decide) (fun c9 => ?_) (fun c9 => ?_)
      · have h := h.1 c9
        have k1278_1102 : ∀ (x0 : Option Nat) (x1 : Option Nat) (x2 : Int32) (x3 : Int32) (x4 : Int32) (x5 : Int32) (x15 : Int32) (ph : PH), K1102 x0 x1 x2 x3 x4 x5 x15 ph → RR C Z A G 25 1102 [(0, va_rf x0), (1, va_rf x1), (2, .int x2), (3, .int x3), (4, .int x4), (5, .int x5), (15, .int x15)] [] ph (kb + 60) (nb + 1650) := by
          intro x0 x1 x2 x3 x4 x5 x15 ph h
          exact RR.wid (by omega) (by omega) (RR.sub [0, 1, 2, 3, 4, 5, 6] rfl (hK1102 _ _ _ _ _ _ _ _ h))
        exact RR.wid (by omega) (by omega) (RR.sub [2, 3, 4, 5, 6, 7, 8, 9, 0] rfl (b_L_law_1278 (LK := (kb + 60)) (LN := (nb + 1650)) (by omega) (by omega) hC hAo hr hx hn hnw hnx hi k1278_1102 (kb + 12) (nb + 330) (by omega) (by omega) _ _ _ _ _ _ _ _ _ _ h))
      · have h := h.2 c9
        refine r_lload hC dL_law_1264 1 rfl ?_
        refine r_lconst (v := 0) hC dL_law_1266 (by decide) ?_
        refine r_lcmp hC dL_law_1267 ?_
        refine r_if_eq (tgt := 1300) hC dL_law_1268 (by decide) (fun c9 => ?_) (fun c9 => ?_)
        · have h := h.1 c9
          refine r_iconst (v := 0) hC dL_law_1300 (by decide) ?_
          exact hr _ _ _ _ _ _ dL_law_1301 (by omega) (by omega) h
        · have h := h.2 c9
          refine r_lload hC dL_law_1271 0 rfl ?_
          refine r_lconst (v := 1) hC dL_law_1273 (by decide) ?_
          refine r_lcmp hC dL_law_1274 ?_
          refine r_if_lt (tgt := 1300) hC dL_law_1275 (by decide) (fun c9 => ?_) (fun c9 => ?_)
          · have h := h.1 c9
            refine r_iconst (v := 0) hC dL_law_1300 (by decide) ?_
            exact hr _ _ _ _ _ _ dL_law_1301 (by omega) (by omega) h
          · have h := h.2 c9
            have k1278_1102 : ∀ (x0 : Option Nat) (x1 : Option Nat) (x2 : Int32) (x3 : Int32) (x4 : Int32) (x5 : Int32) (x15 : Int32) (ph : PH), K1102 x0 x1 x2 x3 x4 x5 x15 ph → RR C Z A G 25 1102 [(0, va_rf x0), (1, va_rf x1), (2, .int x2), (3, .int x3), (4, .int x4), (5, .int x5), (15, .int x15)] [] ph (kb + 60) (nb + 1650) := by
              intro x0 x1 x2 x3 x4 x5 x15 ph h
              exact RR.wid (by omega) (by omega) (RR.sub [0, 1, 2, 3, 4, 5, 6] rfl (hK1102 _ _ _ _ _ _ _ _ h))
            exact RR.wid (by omega) (by omega) (RR.sub [2, 3, 4, 5, 6, 7, 8, 9, 0] rfl (b_L_law_1278 (LK := (kb + 60)) (LN := (nb + 1650)) (by omega) (by omega) hC hAo hr hx hn hnw hnx hi k1278_1102 (kb + 12) (nb + 330) (by omega) (by omega) _ _ _ _ _ _ _ _ _ _ h))
    · have h := h.2 c9
      refine r_aload_n hC dL_law_1160 rfl 1 rfl ?_
      refine r_bipush (v := 6) hC dL_law_1161 (by decide) ?_
      refine r_iload hC dL_law_1163 6 rfl ?_
      refine r_iload hC dL_law_1165 9 rfl ?_
      refine r_iconst (v := 0) hC dL_law_1167 (by decide) ?_
      refine r_SJ hC hAo [va_rf x1, .int (6 : Int32), .int x15, .int x20, .int (0 : Int32)] cal_L_call_ ml_L_188 rfl (c_L_call_ G _ _ _ _ _ _ _ _ h) ⟨by decide, by decide⟩ ⟨(by simp only [room_1]; omega), (by simp only [room_1]; omega)⟩ (by simp only [List.map_nil, List.map_cons, List.sum_nil, List.sum_cons, cat_rf, cat_i, cat_j]; decide) rfl dL_law_1168 (fun E u hx9 => hx _ _ _ _ _ _ _ (by omega) (by omega) hx9) (fun v1168 ph1168 h => ?_)
      refine RR.wid (k' := (kb + 6)) (n' := (nb + 165)) (by omega) (by omega) ?_
      refine r_lstore (i := 21) (lv' := [(21, .long v1168), (0, va_rf x0), (1, va_rf x1), (2, .int x2), (3, .int x3), (4, .int x4), (5, .int x5), (15, .int x15), (16, .long x16), (18, .long x18), (20, .int x20)]) hC dL_law_1171 (by decide) (by first | rfl | simp [lvs1, lvs2, List.filter, cat_rf, cat_i, cat_j]) ?_
      refine r_aload_n hC dL_law_1173 rfl 2 rfl ?_
      refine r_bipush (v := 8) hC dL_law_1174 (by decide) ?_
      refine r_iload hC dL_law_1176 7 rfl ?_
      refine r_iload hC dL_law_1178 10 rfl ?_
      refine r_iconst (v := 0) hC dL_law_1180 (by decide) ?_
      refine r_SJ hC hAo [va_rf x1, .int (8 : Int32), .int x15, .int x20, .int (0 : Int32)] cal_L_call_ ml_L_188 rfl (c_L_call_ G _ _ _ _ _ _ _ _ h) ⟨by decide, by decide⟩ ⟨(by simp only [room_1]; omega), (by simp only [room_1]; omega)⟩ (by simp only [List.map_nil, List.map_cons, List.sum_nil, List.sum_cons, cat_rf, cat_i, cat_j]; decide) rfl dL_law_1181 (fun E u hx9 => hx _ _ _ _ _ _ _ (by omega) (by omega) hx9) (fun v1181 ph1181 h => ?_)
      refine RR.wid (k' := (kb + 12)) (n' := (nb + 330)) (by omega) (by omega) ?_
      refine r_lstore (i := 23) (lv' := [(23, .long v1181), (21, .long v1168), (0, va_rf x0), (1, va_rf x1), (2, .int x2), (3, .int x3), (4, .int x4), (5, .int x5), (15, .int x15), (16, .long x16), (18, .long x18), (20, .int x20)]) hC dL_law_1184 (by decide) (by first | rfl | simp [lvs1, lvs2, List.filter, cat_rf, cat_i, cat_j]) ?_
      refine r_lload hC dL_law_1186 1 rfl ?_
      refine r_lload hC dL_law_1188 10 rfl ?_
      refine r_lcmp hC dL_law_1190 ?_
      refine r_if_lt (tgt := 1221) hC dL_law_1191 (by decide) (fun c9 => ?_) (fun c9 => ?_)
      · have h := h.1 c9
        refine r_iconst (v := 0) hC dL_law_1221 (by decide) ?_
        exact hr _ _ _ _ _ _ dL_law_1222 (by omega) (by omega) h
      · have h := h.2 c9
        refine r_lload hC dL_law_1194 1 rfl ?_
        refine r_ldc2 (v := 3) hC tb_1608 dL_law_1196 ?_
        refine r_lload hC dL_law_1199 10 rfl ?_
        refine r_lmul hC dL_law_1201 ?_
        refine r_lcmp hC dL_law_1202 ?_
        refine r_if_gt (tgt := 1221) hC dL_law_1203 (by decide) (fun c9 => ?_) (fun c9 => ?_)
        · have h := h.1 c9
          refine r_iconst (v := 0) hC dL_law_1221 (by decide) ?_
          exact hr _ _ _ _ _ _ dL_law_1222 (by omega) (by omega) h
        · have h := h.2 c9
          refine r_lload hC dL_law_1206 0 rfl ?_
          refine r_lconst (v := 0) hC dL_law_1208 (by decide) ?_
          refine r_lcmp hC dL_law_1209 ?_
          refine r_if_lt (tgt := 1221) hC dL_law_1210 (by decide) (fun c9 => ?_) (fun c9 => ?_)
          · have h := h.1 c9
            refine r_iconst (v := 0) hC dL_law_1221 (by decide) ?_
            exact hr _ _ _ _ _ _ dL_law_1222 (by omega) (by omega) h
          · have h := h.2 c9
            refine r_lload hC dL_law_1213 0 rfl ?_
            refine r_lload hC dL_law_1215 1 rfl ?_
            refine r_lcmp hC dL_law_1217 ?_
            refine r_if_le (tgt := 1223) hC dL_law_1218 (by decide) (fun c9 => ?_) (fun c9 => ?_)
            · have h := h.1 c9
              refine r_lload hC dL_law_1223 1 rfl ?_
              refine r_lstore (i := 18) (lv' := [(18, .long v1168), (23, .long v1181), (21, .long v1168), (0, va_rf x0), (1, va_rf x1), (2, .int x2), (3, .int x3), (4, .int x4), (5, .int x5), (15, .int x15), (16, .long x16), (20, .int x20)]) hC dL_law_1225 (by decide) (by first | rfl | simp [lvs1, lvs2, List.filter, cat_rf, cat_i, cat_j]) ?_
              refine r_iinc (w := 11) (v := x20 + 1) (lv' := [(20, .int (x20 + 1)), (18, .long v1168), (23, .long v1181), (21, .long v1168), (0, va_rf x0), (1, va_rf x1), (2, .int x2), (3, .int x3), (4, .int x4), (5, .int x5), (15, .int x15), (16, .long x16)]) hC dL_law_1227 rfl rfl (by decide) (by first | rfl | simp [lvs1, List.filter, cat_rf, cat_i, cat_j]) ?_
              refine r_goto (tgt := 1154) hC dL_law_1230 (by decide) ?_
              exact RR.wid (by omega) (by omega) (RR.sub [4, 5, 6, 7, 8, 9, 10, 11, 1, 0] rfl (ih (kb + 12) (nb + 330) (by omega) (by omega) _ _ _ _ _ _ _ _ _ _ _ h))
            · have h := h.2 c9
              refine r_iconst (v := 0) hC dL_law_1221 (by decide) ?_
              exact hr _ _ _ _ _ _ dL_law_1222 (by omega) (by omega) h
set_option maxRecDepth 20000 in
theorem b_L_law_1145 {C : Cx} {Z : State → Prop} {A : Nat → Prop} {G : GG} {Q : Int32 → PH → Prop} {X : String → PH → Prop} {K1102 : Option Nat → Option Nat → Int32 → Int32 → Int32 → Int32 → Int32 → PH → Prop}  {LK LN : Nat} (hLk : LK ≤ 98578) (hLn : LN ≤ 2701240) (hC : CxOk RL cL_law 25 G A room_1 C) (hAo : Ao (xs C)) (hr : HZ C Z A G 25 cL_law 98578 2701240 Q) (hx : HX C Z A G 25 98578 2701240 X) (hn : HN C Z A G 25 RL cL_law 98578 2701240 room_1 X) (hnw : HNW C Z A G 25 RL cL_law 98578 2701240 room_1 X) (hnx : HNX C Z A G 25 RL cL_law 98578 2701240 room_1 X) (hi : True) (hK1102 : ∀ (x0 : Option Nat) (x1 : Option Nat) (x2 : Int32) (x3 : Int32) (x4 : Int32) (x5 : Int32) (x15 : Int32) (ph : PH), K1102 x0 x1 x2 x3 x4 x5 x15 ph → RR C Z A G 25 1102 [(0, va_rf x0), (1, va_rf x1), (2, .int x2), (3, .int x3), (4, .int x4), (5, .int x5), (15, .int x15)] [] ph LK LN) : ∀ (kb nb : Nat), kb + 144 ≤ LK → nb + 3960 ≤ LN → ∀ (x0 : Option Nat) (x1 : Option Nat) (x2 : Int32) (x3 : Int32) (x4 : Int32) (x5 : Int32) (x15 : Int32) (x16 : Int64) (x18 : Int64) (s0 : Int64) (s1 : Int64) (ph : PH), w_L_law_1145 G Q X K1102 x0 x1 x2 x3 x4 x5 x15 x16 x18 s0 s1 ph → RR C Z A G 25 1145 [(0, va_rf x0), (1, va_rf x1), (2, .int x2), (3, .int x3), (4, .int x4), (5, .int x5), (15, .int x15), (16, .long x16), (18, .long x18)] [.long s0, .long s1] ph kb nb := by
  intro kb nb e1 e2 x0 x1 x2 x3 x4 x5 x15 x16 x18 s0 s1 ph h
  refine r_lcmp hC dL_law_1145 ?_
  refine r_if_eq (tgt := 1151) hC dL_law_1146 (by decide) (fun c9 => ?_) (fun c9 => ?_)
  · have h := h.1 c9
    refine r_iconst (v := 1) hC dL_law_1151 (by decide) ?_
    refine r_istore (i := 20) (lv' := [(20, .int (1 : Int32)), (0, va_rf x0), (1, va_rf x1), (2, .int x2), (3, .int x3), (4, .int x4), (5, .int x5), (15, .int x15), (16, .long x16), (18, .long x18)]) hC dL_law_1152 (by decide) (by first | rfl | simp [lvs1, lvs2, List.filter, cat_rf, cat_i, cat_j]) ?_
    have k1154_1102 : ∀ (x0 : Option Nat) (x1 : Option Nat) (x2 : Int32) (x3 : Int32) (x4 : Int32) (x5 : Int32) (x15 : Int32) (ph : PH), K1102 x0 x1 x2 x3 x4 x5 x15 ph → RR C Z A G 25 1102 [(0, va_rf x0), (1, va_rf x1), (2, .int x2), (3, .int x3), (4, .int x4), (5, .int x5), (15, .int x15)] [] ph (kb + 144) (nb + 3960) := by
      intro x0 x1 x2 x3 x4 x5 x15 ph h
      exact RR.wid (by omega) (by omega) (RR.sub [0, 1, 2, 3, 4, 5, 6] rfl (hK1102 _ _ _ _ _ _ _ _ h))
    obtain ⟨fu1154, hfu1154, h⟩ := h
    exact RR.wid (by omega) (by omega) (RR.sub [1, 2, 3, 4, 5, 6, 7, 8, 9, 0] rfl (b_L_law_1154 (LK := (kb + 144)) (LN := (nb + 3960)) (by omega) (by omega) hC hAo hr hx hn hnw hnx hi k1154_1102 fu1154 (kb + 0) (nb + 0) (by omega) (by omega) _ _ _ _ _ _ _ _ _ _ _ h))
  · have h := h.2 c9
    refine r_iconst (v := 0) hC dL_law_1149 (by decide) ?_
    exact hr _ _ _ _ _ _ dL_law_1150 (by omega) (by omega) h
set_option maxRecDepth 20000 in
theorem b_L_law_1102 {C : Cx} {Z : State → Prop} {A : Nat → Prop} {G : GG} {Q : Int32 → PH → Prop} {X : String → PH → Prop} {K18 : Option Nat → Option Nat → Int32 → Int32 → Int32 → Int32 → PH → Prop}  {LK LN : Nat} (hLk : LK ≤ 98578) (hLn : LN ≤ 2701240) (hC : CxOk RL cL_law 25 G A room_1 C) (hAo : Ao (xs C)) (hr : HZ C Z A G 25 cL_law 98578 2701240 Q) (hx : HX C Z A G 25 98578 2701240 X) (hn : HN C Z A G 25 RL cL_law 98578 2701240 room_1 X) (hnw : HNW C Z A G 25 RL cL_law 98578 2701240 room_1 X) (hnx : HNX C Z A G 25 RL cL_law 98578 2701240 room_1 X) (hi : True) (hK18 : ∀ (x0 : Option Nat) (x1 : Option Nat) (x2 : Int32) (x3 : Int32) (x4 : Int32) (x5 : Int32) (ph : PH), K18 x0 x1 x2 x3 x4 x5 ph → RR C Z A G 25 18 [(0, va_rf x0), (1, va_rf x1), (2, .int x2), (3, .int x3), (4, .int x4), (5, .int x5)] [] ph LK LN) : ∀ (fu kb nb : Nat), kb + fu * 156 + 156 ≤ LK → nb + fu * 4290 + 4290 ≤ LN → ∀ (x0 : Option Nat) (x1 : Option Nat) (x2 : Int32) (x3 : Int32) (x4 : Int32) (x5 : Int32) (x15 : Int32) (ph : PH), w_L_law_1102 G Q X K18 fu x0 x1 x2 x3 x4 x5 x15 ph → RR C Z A G 25 1102 [(0, va_rf x0), (1, va_rf x1), (2, .int x2), (3, .int x3), (4, .int x4), (5, .int x5), (15, .int x15)] [] ph kb nb := by
  intro fu
  induction fu with
  | zero => intro kb nb e1 e2 x0 x1 x2 x3 x4 x5 x15 ph h; exact h.elim
  | succ fu ih =>
    intro kb nb e1 e2 x0 x1 x2 x3 x4 x5 x15 ph h
    refine r_iload hC dL_law_1102 6 rfl ?_
    refine r_iload_n hC dL_law_1104 rfl 2 rfl ?_
    refine r_icmp_ge (tgt := 1415) hC dL_law_1105 (by decide) (fun c9 => ?_) (fun c9 => ?_)
    · have h := h.1 c9
      refine r_aload_n hC dL_law_1415 rfl 1 rfl ?_
      obtain ⟨a1416, o1416, h⟩ := h
      refine r_VI hC hAo [] cal_X11_isSound ml_L_241 (ci := 12) rfl rfl rfl (c_X11_isSound G _ _ _ _ h) o1416 ⟨by decide, by decide⟩ ⟨(by simp only [room_1]; omega), (by simp only [room_1]; omega)⟩ (by simp only [List.map_nil, List.map_cons, List.sum_nil, List.sum_cons, cat_rf, cat_i, cat_j]; decide) rfl dL_law_1416 (fun E u hx9 => hx _ _ _ _ _ _ _ (by omega) (by omega) hx9) (fun v1416 ph1416 h => ?_)
      refine RR.wid (k' := (kb + 0)) (n' := (nb + 0)) (by omega) (by omega) ?_
      refine r_if_ne (tgt := 1424) hC dL_law_1419 (by decide) (fun c9 => ?_) (fun c9 => ?_)
      · have h := h.1 c9
        refine r_iinc (w := 5) (v := x5 + 1) (lv' := [(5, .int (x5 + 1)), (0, va_rf x0), (1, va_rf x1), (2, .int x2), (3, .int x3), (4, .int x4), (15, .int x15)]) hC dL_law_1424 rfl rfl (by decide) (by first | rfl | simp [lvs1, List.filter, cat_rf, cat_i, cat_j]) ?_
        refine r_goto (tgt := 18) hC dL_law_1427 (by decide) ?_
        exact RR.wid (by omega) (by omega) (RR.sub [1, 2, 3, 4, 5, 0] rfl (hK18 _ _ _ _ _ _ _ h))
      · have h := h.2 c9
        refine r_iconst (v := 0) hC dL_law_1422 (by decide) ?_
        exact hr _ _ _ _ _ _ dL_law_1423 (by omega) (by omega) h
    · have h := h.2 c9
      refine r_aload_n hC dL_law_1108 rfl 1 rfl ?_
      refine r_iconst (v := 5) hC dL_law_1109 (by decide) ?_
      refine r_iload hC dL_law_1110 6 rfl ?_
      refine r_iconst (v := 0) hC dL_law_1112 (by decide) ?_
      refine r_iconst (v := 0) hC dL_law_1113 (by decide) ?_
      refine r_SJ hC hAo [va_rf x1, .int (5 : Int32), .int x15, .int (0 : Int32), .int (0 : Int32)] cal_L_call_ ml_L_188 rfl (c_L_call_ G _ _ _ _ _ _ _ _ h) ⟨by decide, by decide⟩ ⟨(by simp only [room_1]; omega), (by simp only [room_1]; omega)⟩ (by simp only [List.map_nil, List.map_cons, List.sum_nil, List.sum_cons, cat_rf, cat_i, cat_j]; decide) rfl dL_law_1114 (fun E u hx9 => hx _ _ _ _ _ _ _ (by omega) (by omega) hx9) (fun v1114 ph1114 h => ?_)
      refine RR.wid (k' := (kb + 6)) (n' := (nb + 165)) (by omega) (by omega) ?_
      refine r_lstore (i := 16) (lv' := [(16, .long v1114), (0, va_rf x0), (1, va_rf x1), (2, .int x2), (3, .int x3), (4, .int x4), (5, .int x5), (15, .int x15)]) hC dL_law_1117 (by decide) (by first | rfl | simp [lvs1, lvs2, List.filter, cat_rf, cat_i, cat_j]) ?_
      refine r_aload_n hC dL_law_1119 rfl 2 rfl ?_
      refine r_bipush (v := 6) hC dL_law_1120 (by decide) ?_
      refine r_iload hC dL_law_1122 7 rfl ?_
      refine r_iconst (v := 0) hC dL_law_1124 (by decide) ?_
      refine r_iconst (v := 0) hC dL_law_1125 (by decide) ?_
      refine r_SJ hC hAo [va_rf x1, .int (6 : Int32), .int x15, .int (0 : Int32), .int (0 : Int32)] cal_L_call_ ml_L_188 rfl (c_L_call_ G _ _ _ _ _ _ _ _ h) ⟨by decide, by decide⟩ ⟨(by simp only [room_1]; omega), (by simp only [room_1]; omega)⟩ (by simp only [List.map_nil, List.map_cons, List.sum_nil, List.sum_cons, cat_rf, cat_i, cat_j]; decide) rfl dL_law_1126 (fun E u hx9 => hx _ _ _ _ _ _ _ (by omega) (by omega) hx9) (fun v1126 ph1126 h => ?_)
      refine RR.wid (k' := (kb + 12)) (n' := (nb + 330)) (by omega) (by omega) ?_
      refine r_lstore (i := 18) (lv' := [(18, .long v1126), (16, .long v1114), (0, va_rf x0), (1, va_rf x1), (2, .int x2), (3, .int x3), (4, .int x4), (5, .int x5), (15, .int x15)]) hC dL_law_1129 (by decide) (by first | rfl | simp [lvs1, lvs2, List.filter, cat_rf, cat_i, cat_j]) ?_
      refine r_lload hC dL_law_1131 0 rfl ?_
      refine r_lload hC dL_law_1133 1 rfl ?_
      refine r_lconst (v := 0) hC dL_law_1135 (by decide) ?_
      refine r_lcmp hC dL_law_1136 ?_
      refine r_if_le (tgt := 1144) hC dL_law_1137 (by decide) (fun c9 => ?_) (fun c9 => ?_)
      · have h := h.1 c9
        refine r_lconst (v := 0) hC dL_law_1144 (by decide) ?_
        have k1145_1102 : ∀ (x0 : Option Nat) (x1 : Option Nat) (x2 : Int32) (x3 : Int32) (x4 : Int32) (x5 : Int32) (x15 : Int32) (ph : PH), w_L_law_1102 G Q X K18 fu x0 x1 x2 x3 x4 x5 x15 ph → RR C Z A G 25 1102 [(0, va_rf x0), (1, va_rf x1), (2, .int x2), (3, .int x3), (4, .int x4), (5, .int x5), (15, .int x15)] [] ph (kb + 156) (nb + 4290) := by
          intro x0 x1 x2 x3 x4 x5 x15 ph h
          exact RR.wid (by omega) (by omega) (RR.sub [0, 1, 2, 3, 4, 5, 6] rfl (ih (kb + 156) (nb + 4290) (by omega) (by omega) _ _ _ _ _ _ _ _ h))
        exact RR.wid (by omega) (by omega) (RR.sub [2, 3, 4, 5, 6, 7, 8, 1, 0] rfl (b_L_law_1145 (LK := (kb + 156)) (LN := (nb + 4290)) (by omega) (by omega) hC hAo hr hx hn hnw hnx hi k1145_1102 (kb + 12) (nb + 330) (by omega) (by omega) _ _ _ _ _ _ _ _ _ _ _ _ h))
      · have h := h.2 c9
        refine r_lconst (v := 1) hC dL_law_1140 (by decide) ?_
        refine r_goto (tgt := 1145) hC dL_law_1141 (by decide) ?_
        have k1145_1102 : ∀ (x0 : Option Nat) (x1 : Option Nat) (x2 : Int32) (x3 : Int32) (x4 : Int32) (x5 : Int32) (x15 : Int32) (ph : PH), w_L_law_1102 G Q X K18 fu x0 x1 x2 x3 x4 x5 x15 ph → RR C Z A G 25 1102 [(0, va_rf x0), (1, va_rf x1), (2, .int x2), (3, .int x3), (4, .int x4), (5, .int x5), (15, .int x15)] [] ph (kb + 156) (nb + 4290) := by
          intro x0 x1 x2 x3 x4 x5 x15 ph h
          exact RR.wid (by omega) (by omega) (RR.sub [0, 1, 2, 3, 4, 5, 6] rfl (ih (kb + 156) (nb + 4290) (by omega) (by omega) _ _ _ _ _ _ _ _ h))
        exact RR.wid (by omega) (by omega) (RR.sub [2, 3, 4, 5, 6, 7, 8, 1, 0] rfl (b_L_law_1145 (LK := (kb + 156)) (LN := (nb + 4290)) (by omega) (by omega) hC hAo hr hx hn hnw hnx hi k1145_1102 (kb + 12) (nb + 330) (by omega) (by omega) _ _ _ _ _ _ _ _ _ _ _ _ h))
set_option maxRecDepth 20000 in
theorem b_L_law_1073 {C : Cx} {Z : State → Prop} {A : Nat → Prop} {G : GG} {Q : Int32 → PH → Prop} {X : String → PH → Prop} {K18 : Option Nat → Option Nat → Int32 → Int32 → Int32 → Int32 → PH → Prop}  {LK LN : Nat} (hLk : LK ≤ 98578) (hLn : LN ≤ 2701240) (hC : CxOk RL cL_law 25 G A room_1 C) (hAo : Ao (xs C)) (hr : HZ C Z A G 25 cL_law 98578 2701240 Q) (hx : HX C Z A G 25 98578 2701240 X) (hn : HN C Z A G 25 RL cL_law 98578 2701240 room_1 X) (hnw : HNW C Z A G 25 RL cL_law 98578 2701240 room_1 X) (hnx : HNX C Z A G 25 RL cL_law 98578 2701240 room_1 X) (hi : True) (hK18 : ∀ (x0 : Option Nat) (x1 : Option Nat) (x2 : Int32) (x3 : Int32) (x4 : Int32) (x5 : Int32) (ph : PH), K18 x0 x1 x2 x3 x4 x5 ph → RR C Z A G 25 18 [(0, va_rf x0), (1, va_rf x1), (2, .int x2), (3, .int x3), (4, .int x4), (5, .int x5)] [] ph LK LN) : ∀ (kb nb : Nat), kb + 2214 ≤ LK → nb + 60885 ≤ LN → ∀ (x0 : Option Nat) (x1 : Option Nat) (x3 : Int32) (x4 : Int32) (x5 : Int32) (x10 : Int64) (x12 : Int64) (s0 : Int32) (s1 : Int32) (ph : PH), w_L_law_1073 G Q X K18 x0 x1 x3 x4 x5 x10 x12 s0 s1 ph → RR C Z A G 25 1073 [(0, va_rf x0), (1, va_rf x1), (3, .int x3), (4, .int x4), (5, .int x5), (10, .long x10), (12, .long x12)] [.int s0, .int s1] ph kb nb := by
  intro kb nb e1 e2 x0 x1 x3 x4 x5 x10 x12 s0 s1 ph h
  refine r_iadd hC dL_law_1073 ?_
  obtain ⟨v1074, ev1074⟩ : ∃ z : Int32, z = s1 + s0 := ⟨_, rfl⟩
  have h := h v1074 ev1074
  refine RR.to (st' := [.int v1074]) (by rw [ev1074]) ?_
  refine r_istore_n (i := 2) (lv' := [(2, .int v1074), (0, va_rf x0), (1, va_rf x1), (3, .int x3), (4, .int x4), (5, .int x5), (10, .long x10), (12, .long x12)]) hC dL_law_1074 rfl (by decide) (by first | rfl | simp [lvs1, lvs2, List.filter, cat_rf, cat_i, cat_j]) ?_
  refine r_lload hC dL_law_1075 7 rfl ?_
  refine r_ldc2 (v := -1001000) hC tb_1298 dL_law_1077 ?_
  refine r_lcmp hC dL_law_1080 ?_
  refine r_if_gt (tgt := 1099) hC dL_law_1081 (by decide) (fun c9 => ?_) (fun c9 => ?_)
  · have h := h.1 c9
    refine r_iconst (v := 0) hC dL_law_1099 (by decide) ?_
    refine r_istore (i := 15) (lv' := [(15, .int (0 : Int32)), (2, .int v1074), (0, va_rf x0), (1, va_rf x1), (3, .int x3), (4, .int x4), (5, .int x5), (10, .long x10), (12, .long x12)]) hC dL_law_1100 (by decide) (by first | rfl | simp [lvs1, lvs2, List.filter, cat_rf, cat_i, cat_j]) ?_
    have k1102_18 : ∀ (x0 : Option Nat) (x1 : Option Nat) (x2 : Int32) (x3 : Int32) (x4 : Int32) (x5 : Int32) (ph : PH), K18 x0 x1 x2 x3 x4 x5 ph → RR C Z A G 25 18 [(0, va_rf x0), (1, va_rf x1), (2, .int x2), (3, .int x3), (4, .int x4), (5, .int x5)] [] ph (kb + 1716) (nb + 47190) := by
      intro x0 x1 x2 x3 x4 x5 ph h
      exact RR.wid (by omega) (by omega) (RR.sub [0, 1, 2, 3, 4, 5] rfl (hK18 _ _ _ _ _ _ _ h))
    obtain ⟨fu1102, hfu1102, h⟩ := h
    exact RR.wid (by omega) (by omega) (RR.sub [2, 3, 1, 4, 5, 6, 0] rfl (b_L_law_1102 (LK := (kb + 1716)) (LN := (nb + 47190)) (by omega) (by omega) hC hAo hr hx hn hnw hnx hi k1102_18 fu1102 (kb + 0) (nb + 0) (by omega) (by omega) _ _ _ _ _ _ _ _ h))
  · have h := h.2 c9
    refine r_aload_n hC dL_law_1084 rfl 2 rfl ?_
    refine r_iload_n hC dL_law_1085 rfl 0 rfl ?_
    refine r_iload hC dL_law_1086 4 rfl ?_
    refine r_SJ hC hAo [va_rf x1, .int v1074, .int x4] cal_L_state ml_L_233 rfl (c_L_state G _ _ _ _ _ _ h) ⟨by decide, by decide⟩ ⟨(by simp only [room_1]; omega), (by simp only [room_1]; omega)⟩ (by simp only [List.map_nil, List.map_cons, List.sum_nil, List.sum_cons, cat_rf, cat_i, cat_j]; decide) rfl dL_law_1088 (fun E u hx9 => hx _ _ _ _ _ _ _ (by omega) (by omega) hx9) (fun v1088 ph1088 h => ?_)
    refine RR.wid (k' := (kb + 498)) (n' := (nb + 13695)) (by omega) (by omega) ?_
    refine r_lload hC dL_law_1091 6 rfl ?_
    refine r_lcmp hC dL_law_1093 ?_
    refine r_if_eq (tgt := 1099) hC dL_law_1094 (by decide) (fun c9 => ?_) (fun c9 => ?_)
    · have h := h.1 c9
      refine r_iconst (v := 0) hC dL_law_1099 (by decide) ?_
      refine r_istore (i := 15) (lv' := [(15, .int (0 : Int32)), (2, .int v1074), (0, va_rf x0), (1, va_rf x1), (3, .int x3), (4, .int x4), (5, .int x5), (10, .long x10), (12, .long x12)]) hC dL_law_1100 (by decide) (by first | rfl | simp [lvs1, lvs2, List.filter, cat_rf, cat_i, cat_j]) ?_
      have k1102_18 : ∀ (x0 : Option Nat) (x1 : Option Nat) (x2 : Int32) (x3 : Int32) (x4 : Int32) (x5 : Int32) (ph : PH), K18 x0 x1 x2 x3 x4 x5 ph → RR C Z A G 25 18 [(0, va_rf x0), (1, va_rf x1), (2, .int x2), (3, .int x3), (4, .int x4), (5, .int x5)] [] ph (kb + 2214) (nb + 60885) := by
        intro x0 x1 x2 x3 x4 x5 ph h
        exact RR.wid (by omega) (by omega) (RR.sub [0, 1, 2, 3, 4, 5] rfl (hK18 _ _ _ _ _ _ _ h))
      obtain ⟨fu1102, hfu1102, h⟩ := h
      exact RR.wid (by omega) (by omega) (RR.sub [2, 3, 1, 4, 5, 6, 0] rfl (b_L_law_1102 (LK := (kb + 2214)) (LN := (nb + 60885)) (by omega) (by omega) hC hAo hr hx hn hnw hnx hi k1102_18 fu1102 (kb + 498) (nb + 13695) (by omega) (by omega) _ _ _ _ _ _ _ _ h))
    · have h := h.2 c9
      refine r_iconst (v := 0) hC dL_law_1097 (by decide) ?_
      exact hr _ _ _ _ _ _ dL_law_1098 (by omega) (by omega) h
set_option maxRecDepth 20000 in
theorem b_L_law_1062 {C : Cx} {Z : State → Prop} {A : Nat → Prop} {G : GG} {Q : Int32 → PH → Prop} {X : String → PH → Prop} {K18 : Option Nat → Option Nat → Int32 → Int32 → Int32 → Int32 → PH → Prop}  {LK LN : Nat} (hLk : LK ≤ 98578) (hLn : LN ≤ 2701240) (hC : CxOk RL cL_law 25 G A room_1 C) (hAo : Ao (xs C)) (hr : HZ C Z A G 25 cL_law 98578 2701240 Q) (hx : HX C Z A G 25 98578 2701240 X) (hn : HN C Z A G 25 RL cL_law 98578 2701240 room_1 X) (hnw : HNW C Z A G 25 RL cL_law 98578 2701240 room_1 X) (hnx : HNX C Z A G 25 RL cL_law 98578 2701240 room_1 X) (hi : True) (hK18 : ∀ (x0 : Option Nat) (x1 : Option Nat) (x2 : Int32) (x3 : Int32) (x4 : Int32) (x5 : Int32) (ph : PH), K18 x0 x1 x2 x3 x4 x5 ph → RR C Z A G 25 18 [(0, va_rf x0), (1, va_rf x1), (2, .int x2), (3, .int x3), (4, .int x4), (5, .int x5)] [] ph LK LN) : ∀ (kb nb : Nat), kb + 2214 ≤ LK → nb + 60885 ≤ LN → ∀ (x0 : Option Nat) (x1 : Option Nat) (x2 : Int32) (x3 : Int32) (x4 : Int32) (x5 : Int32) (x10 : Int64) (x12 : Int64) (x14 : Int32) (ph : PH), w_L_law_1062 G Q X K18 x0 x1 x2 x3 x4 x5 x10 x12 x14 ph → RR C Z A G 25 1062 [(0, va_rf x0), (1, va_rf x1), (2, .int x2), (3, .int x3), (4, .int x4), (5, .int x5), (10, .long x10), (12, .long x12), (14, .int x14)] [] ph kb nb := by
  intro kb nb e1 e2 x0 x1 x2 x3 x4 x5 x10 x12 x14 ph h
  refine r_iload_n hC dL_law_1062 rfl 2 rfl ?_
  refine r_iload hC dL_law_1063 8 rfl ?_
  refine r_if_eq (tgt := 1072) hC dL_law_1065 (by decide) (fun c9 => ?_) (fun c9 => ?_)
  · have h := h.1 c9
    refine r_iconst (v := 0) hC dL_law_1072 (by decide) ?_
    have k1073_18 : ∀ (x0 : Option Nat) (x1 : Option Nat) (x2 : Int32) (x3 : Int32) (x4 : Int32) (x5 : Int32) (ph : PH), K18 x0 x1 x2 x3 x4 x5 ph → RR C Z A G 25 18 [(0, va_rf x0), (1, va_rf x1), (2, .int x2), (3, .int x3), (4, .int x4), (5, .int x5)] [] ph (kb + 2214) (nb + 60885) := by
      intro x0 x1 x2 x3 x4 x5 ph h
      exact RR.wid (by omega) (by omega) (RR.sub [0, 1, 2, 3, 4, 5] rfl (hK18 _ _ _ _ _ _ _ h))
    exact RR.wid (by omega) (by omega) (RR.sub [0, 1, 3, 4, 5, 6, 7] rfl (b_L_law_1073 (LK := (kb + 2214)) (LN := (nb + 60885)) (by omega) (by omega) hC hAo hr hx hn hnw hnx hi k1073_18 (kb + 0) (nb + 0) (by omega) (by omega) _ _ _ _ _ _ _ _ _ _ h))
  · have h := h.2 c9
    refine r_iconst (v := 1) hC dL_law_1068 (by decide) ?_
    refine r_goto (tgt := 1073) hC dL_law_1069 (by decide) ?_
    have k1073_18 : ∀ (x0 : Option Nat) (x1 : Option Nat) (x2 : Int32) (x3 : Int32) (x4 : Int32) (x5 : Int32) (ph : PH), K18 x0 x1 x2 x3 x4 x5 ph → RR C Z A G 25 18 [(0, va_rf x0), (1, va_rf x1), (2, .int x2), (3, .int x3), (4, .int x4), (5, .int x5)] [] ph (kb + 2214) (nb + 60885) := by
      intro x0 x1 x2 x3 x4 x5 ph h
      exact RR.wid (by omega) (by omega) (RR.sub [0, 1, 2, 3, 4, 5] rfl (hK18 _ _ _ _ _ _ _ h))
    exact RR.wid (by omega) (by omega) (RR.sub [0, 1, 3, 4, 5, 6, 7] rfl (b_L_law_1073 (LK := (kb + 2214)) (LN := (nb + 60885)) (by omega) (by omega) hC hAo hr hx hn hnw hnx hi k1073_18 (kb + 0) (nb + 0) (by omega) (by omega) _ _ _ _ _ _ _ _ _ _ h))
set_option maxRecDepth 20000 in
theorem b_L_law_1047 {C : Cx} {Z : State → Prop} {A : Nat → Prop} {G : GG} {Q : Int32 → PH → Prop} {X : String → PH → Prop} {K18 : Option Nat → Option Nat → Int32 → Int32 → Int32 → Int32 → PH → Prop}  {LK LN : Nat} (hLk : LK ≤ 98578) (hLn : LN ≤ 2701240) (hC : CxOk RL cL_law 25 G A room_1 C) (hAo : Ao (xs C)) (hr : HZ C Z A G 25 cL_law 98578 2701240 Q) (hx : HX C Z A G 25 98578 2701240 X) (hn : HN C Z A G 25 RL cL_law 98578 2701240 room_1 X) (hnw : HNW C Z A G 25 RL cL_law 98578 2701240 room_1 X) (hnx : HNX C Z A G 25 RL cL_law 98578 2701240 room_1 X) (hi : True) (hK18 : ∀ (x0 : Option Nat) (x1 : Option Nat) (x2 : Int32) (x3 : Int32) (x4 : Int32) (x5 : Int32) (ph : PH), K18 x0 x1 x2 x3 x4 x5 ph → RR C Z A G 25 18 [(0, va_rf x0), (1, va_rf x1), (2, .int x2), (3, .int x3), (4, .int x4), (5, .int x5)] [] ph LK LN) : ∀ (kb nb : Nat), kb + 2214 ≤ LK → nb + 60885 ≤ LN → ∀ (x0 : Option Nat) (x1 : Option Nat) (x2 : Int32) (x3 : Int32) (x4 : Int32) (x5 : Int32) (x10 : Int64) (x12 : Int64) (x14 : Int32) (ph : PH), w_L_law_1047 G Q X K18 x0 x1 x2 x3 x4 x5 x10 x12 x14 ph → RR C Z A G 25 1047 [(0, va_rf x0), (1, va_rf x1), (2, .int x2), (3, .int x3), (4, .int x4), (5, .int x5), (10, .long x10), (12, .long x12), (14, .int x14)] [] ph kb nb := by
  intro kb nb e1 e2 x0 x1 x2 x3 x4 x5 x10 x12 x14 ph h
  refine r_iload hC dL_law_1047 8 rfl ?_
  refine r_if_eq (tgt := 1062) hC dL_law_1049 (by decide) (fun c9 => ?_) (fun c9 => ?_)
  · have h := h.1 c9
    have k1062_18 : ∀ (x0 : Option Nat) (x1 : Option Nat) (x2 : Int32) (x3 : Int32) (x4 : Int32) (x5 : Int32) (ph : PH), K18 x0 x1 x2 x3 x4 x5 ph → RR C Z A G 25 18 [(0, va_rf x0), (1, va_rf x1), (2, .int x2), (3, .int x3), (4, .int x4), (5, .int x5)] [] ph (kb + 2214) (nb + 60885) := by
      intro x0 x1 x2 x3 x4 x5 ph h
      exact RR.wid (by omega) (by omega) (RR.sub [0, 1, 2, 3, 4, 5] rfl (hK18 _ _ _ _ _ _ _ h))
    exact RR.wid (by omega) (by omega) (RR.sub [0, 1, 2, 3, 4, 5, 6, 7, 8] rfl (b_L_law_1062 (LK := (kb + 2214)) (LN := (nb + 60885)) (by omega) (by omega) hC hAo hr hx hn hnw hnx hi k1062_18 (kb + 0) (nb + 0) (by omega) (by omega) _ _ _ _ _ _ _ _ _ _ h))
  · have h := h.2 c9
    refine r_lload hC dL_law_1052 7 rfl ?_
    refine r_iload_n hC dL_law_1054 rfl 2 rfl ?_
    refine r_i2l hC dL_law_1055 ?_
    refine r_lcmp hC dL_law_1056 ?_
    refine r_if_eq (tgt := 1062) hC dL_law_1057 (by decide) (fun c9 => ?_) (fun c9 => ?_)
    · have h := h.1 c9
      have k1062_18 : ∀ (x0 : Option Nat) (x1 : Option Nat) (x2 : Int32) (x3 : Int32) (x4 : Int32) (x5 : Int32) (ph : PH), K18 x0 x1 x2 x3 x4 x5 ph → RR C Z A G 25 18 [(0, va_rf x0), (1, va_rf x1), (2, .int x2), (3, .int x3), (4, .int x4), (5, .int x5)] [] ph (kb + 2214) (nb + 60885) := by
        intro x0 x1 x2 x3 x4 x5 ph h
        exact RR.wid (by omega) (by omega) (RR.sub [0, 1, 2, 3, 4, 5] rfl (hK18 _ _ _ _ _ _ _ h))
      exact RR.wid (by omega) (by omega) (RR.sub [0, 1, 2, 3, 4, 5, 6, 7, 8] rfl (b_L_law_1062 (LK := (kb + 2214)) (LN := (nb + 60885)) (by omega) (by omega) hC hAo hr hx hn hnw hnx hi k1062_18 (kb + 0) (nb + 0) (by omega) (by omega) _ _ _ _ _ _ _ _ _ _ h))
    · have h := h.2 c9
      refine r_iconst (v := 0) hC dL_law_1060 (by decide) ?_
      exact hr _ _ _ _ _ _ dL_law_1061 (by omega) (by omega) h
set_option maxRecDepth 20000 in
theorem b_L_law_239 {C : Cx} {Z : State → Prop} {A : Nat → Prop} {G : GG} {Q : Int32 → PH → Prop} {X : String → PH → Prop} {K18 : Option Nat → Option Nat → Int32 → Int32 → Int32 → Int32 → PH → Prop}  {LK LN : Nat} (hLk : LK ≤ 98578) (hLn : LN ≤ 2701240) (hC : CxOk RL cL_law 25 G A room_1 C) (hAo : Ao (xs C)) (hr : HZ C Z A G 25 cL_law 98578 2701240 Q) (hx : HX C Z A G 25 98578 2701240 X) (hn : HN C Z A G 25 RL cL_law 98578 2701240 room_1 X) (hnw : HNW C Z A G 25 RL cL_law 98578 2701240 room_1 X) (hnx : HNX C Z A G 25 RL cL_law 98578 2701240 room_1 X) (hi : True) (hK18 : ∀ (x0 : Option Nat) (x1 : Option Nat) (x2 : Int32) (x3 : Int32) (x4 : Int32) (x5 : Int32) (ph : PH), K18 x0 x1 x2 x3 x4 x5 ph → RR C Z A G 25 18 [(0, va_rf x0), (1, va_rf x1), (2, .int x2), (3, .int x3), (4, .int x4), (5, .int x5)] [] ph LK LN) : ∀ (kb nb : Nat), kb + 2910 ≤ LK → nb + 80025 ≤ LN → ∀ (x0 : Option Nat) (x1 : Option Nat) (x2 : Int32) (x3 : Int32) (x4 : Int32) (x5 : Int32) (x7 : Int32) (x8 : Int32) (x9 : Int32) (ph : PH), w_L_law_239 G Q X K18 x0 x1 x2 x3 x4 x5 x7 x8 x9 ph → RR C Z A G 25 239 [(0, va_rf x0), (1, va_rf x1), (2, .int x2), (3, .int x3), (4, .int x4), (5, .int x5), (7, .int x7), (8, .int x8), (9, .int x9)] [] ph kb nb := by
  intro kb nb e1 e2 x0 x1 x2 x3 x4 x5 x7 x8 x9 ph h
  refine r_aload_n hC dL_law_239 rfl 1 rfl ?_
  refine r_iload_n hC dL_law_240 rfl 2 rfl ?_
  refine r_iload hC dL_law_241 4 rfl ?_
  refine r_SJ hC hAo [va_rf x1, .int x2, .int x4] cal_L_state ml_L_233 rfl (c_L_state G _ _ _ _ _ _ h) ⟨by decide, by decide⟩ ⟨(by simp only [room_1]; omega), (by simp only [room_1]; omega)⟩ (by simp only [List.map_nil, List.map_cons, List.sum_nil, List.sum_cons, cat_rf, cat_i, cat_j]; decide) rfl dL_law_243 (fun E u hx9 => hx _ _ _ _ _ _ _ (by omega) (by omega) hx9) (fun v243 ph243 h => ?_)
  refine RR.wid (k' := (kb + 498)) (n' := (nb + 13695)) (by omega) (by omega) ?_
  refine r_lstore (i := 10) (lv' := [(10, .long v243), (0, va_rf x0), (1, va_rf x1), (2, .int x2), (3, .int x3), (4, .int x4), (5, .int x5), (7, .int x7), (8, .int x8), (9, .int x9)]) hC dL_law_246 (by decide) (by first | rfl | simp [lvs1, lvs2, List.filter, cat_rf, cat_i, cat_j]) ?_
  refine r_lconst (v := 0) hC dL_law_248 (by decide) ?_
  refine r_lstore (i := 12) (lv' := [(12, .long (0 : Int64)), (10, .long v243), (0, va_rf x0), (1, va_rf x1), (2, .int x2), (3, .int x3), (4, .int x4), (5, .int x5), (7, .int x7), (8, .int x8), (9, .int x9)]) hC dL_law_249 (by decide) (by first | rfl | simp [lvs1, lvs2, List.filter, cat_rf, cat_i, cat_j]) ?_
  refine r_iconst (v := 0) hC dL_law_251 (by decide) ?_
  refine r_istore (i := 14) (lv' := [(14, .int (0 : Int32)), (12, .long (0 : Int64)), (10, .long v243), (0, va_rf x0), (1, va_rf x1), (2, .int x2), (3, .int x3), (4, .int x4), (5, .int x5), (7, .int x7), (8, .int x8), (9, .int x9)]) hC dL_law_252 (by decide) (by first | rfl | simp [lvs1, lvs2, List.filter, cat_rf, cat_i, cat_j]) ?_
  refine r_iload hC dL_law_254 11 rfl ?_
  refine r_if_ne (tgt := 303) hC dL_law_256 (by decide) (fun c9 => ?_) (fun c9 => ?_)
  · have h := h.1 c9
    refine r_iload hC dL_law_303 11 rfl ?_
    refine r_bipush (v := 8) hC dL_law_305 (by decide) ?_
    refine r_icmp_ge (tgt := 368) hC dL_law_307 (by decide) (fun c9 => ?_) (fun c9 => ?_)
    · have h := h.1 c9
      refine r_iload hC dL_law_368 11 rfl ?_
      refine r_bipush (v := 8) hC dL_law_370 (by decide) ?_
      refine r_icmp_ne (tgt := 412) hC dL_law_372 (by decide) (fun c9 => ?_) (fun c9 => ?_)
      · have h := h.1 c9
        refine r_iload hC dL_law_412 11 rfl ?_
        refine r_bipush (v := 9) hC dL_law_414 (by decide) ?_
        refine r_icmp_ne (tgt := 443) hC dL_law_416 (by decide) (fun c9 => ?_) (fun c9 => ?_)
        · have h := h.1 c9
          refine r_iload hC dL_law_443 11 rfl ?_
          refine r_bipush (v := 10) hC dL_law_445 (by decide) ?_
          refine r_icmp_ne (tgt := 484) hC dL_law_447 (by decide) (fun c9 => ?_) (fun c9 => ?_)
          · have h := h.1 c9
            refine r_iload hC dL_law_484 11 rfl ?_
            refine r_bipush (v := 11) hC dL_law_486 (by decide) ?_
            refine r_icmp_ne (tgt := 527) hC dL_law_488 (by decide) (fun c9 => ?_) (fun c9 => ?_)
            · have h := h.1 c9
              refine r_iload hC dL_law_527 11 rfl ?_
              refine r_bipush (v := 12) hC dL_law_529 (by decide) ?_
              refine r_icmp_ne (tgt := 559) hC dL_law_531 (by decide) (fun c9 => ?_) (fun c9 => ?_)
              · have h := h.1 c9
                refine r_iload hC dL_law_559 11 rfl ?_
                refine r_bipush (v := 15) hC dL_law_561 (by decide) ?_
                refine r_icmp_ge (tgt := 674) hC dL_law_563 (by decide) (fun c9 => ?_) (fun c9 => ?_)
                · have h := h.1 c9
                  refine r_iload hC dL_law_674 11 rfl ?_
                  refine r_bipush (v := 15) hC dL_law_676 (by decide) ?_
                  refine r_icmp_ne (tgt := 735) hC dL_law_678 (by decide) (fun c9 => ?_) (fun c9 => ?_)
                  · have h := h.1 c9
                    refine r_iload hC dL_law_735 11 rfl ?_
                    refine r_bipush (v := 16) hC dL_law_737 (by decide) ?_
                    refine r_icmp_ne (tgt := 789) hC dL_law_739 (by decide) (fun c9 => ?_) (fun c9 => ?_)
                    · have h := h.1 c9
                      refine r_iload hC dL_law_789 11 rfl ?_
                      refine r_bipush (v := 17) hC dL_law_791 (by decide) ?_
                      refine r_icmp_ne (tgt := 843) hC dL_law_793 (by decide) (fun c9 => ?_) (fun c9 => ?_)
                      · have h := h.1 c9
                        refine r_iload hC dL_law_843 11 rfl ?_
                        refine r_bipush (v := 18) hC dL_law_845 (by decide) ?_
                        refine r_icmp_ne (tgt := 937) hC dL_law_847 (by decide) (fun c9 => ?_) (fun c9 => ?_)
                        · have h := h.1 c9
                          refine r_aload_n hC dL_law_937 rfl 4 rfl ?_
                          refine r_bipush (v := 14) hC dL_law_938 (by decide) ?_
                          refine r_iload hC dL_law_940 10 rfl ?_
                          refine r_iload hC dL_law_942 9 rfl ?_
                          refine r_iload_n hC dL_law_944 rfl 5 rfl ?_
                          refine r_iconst (v := 1) hC dL_law_945 (by decide) ?_
                          refine r_iadd hC dL_law_946 ?_
                          refine r_SI hC hAo [.int x7, .int (x2 + (1 : Int32))] cal_L_low ml_L_204 rfl (c_L_low G _ _ _ _ _ h) ⟨by decide, by decide⟩ ⟨(by simp only [room_1]; omega), (by simp only [room_1]; omega)⟩ (by simp only [List.map_nil, List.map_cons, List.sum_nil, List.sum_cons, cat_rf, cat_i, cat_j]; decide) rfl dL_law_947 (fun E u hx9 => hx _ _ _ _ _ _ _ (by omega) (by omega) hx9) (fun v947 ph947 h => ?_)
                          refine RR.wid (k' := (kb + 498)) (n' := (nb + 13695)) (by omega) (by omega) ?_
                          refine r_iconst (v := 0) hC dL_law_950 (by decide) ?_
                          refine r_SJ hC hAo [va_rf x1, .int (14 : Int32), .int x8, .int v947, .int (0 : Int32)] cal_L_call_ ml_L_188 rfl (c_L_call_ G _ _ _ _ _ _ _ _ h) ⟨by decide, by decide⟩ ⟨(by simp only [room_1]; omega), (by simp only [room_1]; omega)⟩ (by simp only [List.map_nil, List.map_cons, List.sum_nil, List.sum_cons, cat_rf, cat_i, cat_j]; decide) rfl dL_law_951 (fun E u hx9 => hx _ _ _ _ _ _ _ (by omega) (by omega) hx9) (fun v951 ph951 h => ?_)
                          refine RR.wid (k' := (kb + 504)) (n' := (nb + 13860)) (by omega) (by omega) ?_
                          refine r_lstore (i := 12) (lv' := [(12, .long v951), (14, .int (0 : Int32)), (10, .long v243), (0, va_rf x0), (1, va_rf x1), (2, .int x2), (3, .int x3), (4, .int x4), (5, .int x5), (7, .int x7), (8, .int x8), (9, .int x9)]) hC dL_law_954 (by decide) (by first | rfl | simp [lvs1, lvs2, List.filter, cat_rf, cat_i, cat_j]) ?_
                          refine r_iload hC dL_law_956 9 rfl ?_
                          refine r_iload_n hC dL_law_958 rfl 5 rfl ?_
                          refine r_iconst (v := 1) hC dL_law_959 (by decide) ?_
                          refine r_iadd hC dL_law_960 ?_
                          refine r_SI hC hAo [.int x7, .int (x2 + (1 : Int32))] cal_L_low ml_L_204 rfl (c_L_low G _ _ _ _ _ h) ⟨by decide, by decide⟩ ⟨(by simp only [room_1]; omega), (by simp only [room_1]; omega)⟩ (by simp only [List.map_nil, List.map_cons, List.sum_nil, List.sum_cons, cat_rf, cat_i, cat_j]; decide) rfl dL_law_961 (fun E u hx9 => hx _ _ _ _ _ _ _ (by omega) (by omega) hx9) (fun v961 ph961 h => ?_)
                          refine RR.wid (k' := (kb + 504)) (n' := (nb + 13860)) (by omega) (by omega) ?_
                          refine r_istore (i := 15) (lv' := [(15, .int v961), (12, .long v951), (14, .int (0 : Int32)), (10, .long v243), (0, va_rf x0), (1, va_rf x1), (2, .int x2), (3, .int x3), (4, .int x4), (5, .int x5), (7, .int x7), (8, .int x8), (9, .int x9)]) hC dL_law_964 (by decide) (by first | rfl | simp [lvs1, lvs2, List.filter, cat_rf, cat_i, cat_j]) ?_
                          refine r_iconst (v := 0) hC dL_law_966 (by decide) ?_
                          refine r_istore (i := 16) (lv' := [(16, .int (0 : Int32)), (15, .int v961), (12, .long v951), (14, .int (0 : Int32)), (10, .long v243), (0, va_rf x0), (1, va_rf x1), (2, .int x2), (3, .int x3), (4, .int x4), (5, .int x5), (7, .int x7), (8, .int x8), (9, .int x9)]) hC dL_law_967 (by decide) (by first | rfl | simp [lvs1, lvs2, List.filter, cat_rf, cat_i, cat_j]) ?_
                          have k969_1047 : ∀ (x0 : Option Nat) (x1 : Option Nat) (x2 : Int32) (x3 : Int32) (x4 : Int32) (x5 : Int32) (x10 : Int64) (x12 : Int64) (x14 : Int32) (ph : PH), w_L_law_1047 G Q X (fun x0 x1 x2 x3 x4 x5 ph => K18 x0 x1 x2 x3 x4 x5 ph) x0 x1 x2 x3 x4 x5 x10 x12 x14 ph → RR C Z A G 25 1047 [(0, va_rf x0), (1, va_rf x1), (2, .int x2), (3, .int x3), (4, .int x4), (5, .int x5), (10, .long x10), (12, .long x12), (14, .int x14)] [] ph (kb + 696) (nb + 19140) := by
                            intro x0 x1 x2 x3 x4 x5 x10 x12 x14 ph h
                            have k1047_18 : ∀ (x0 : Option Nat) (x1 : Option Nat) (x2 : Int32) (x3 : Int32) (x4 : Int32) (x5 : Int32) (ph : PH), K18 x0 x1 x2 x3 x4 x5 ph → RR C Z A G 25 18 [(0, va_rf x0), (1, va_rf x1), (2, .int x2), (3, .int x3), (4, .int x4), (5, .int x5)] [] ph (kb + 2910) (nb + 80025) := by
                              intro x0 x1 x2 x3 x4 x5 ph h
                              exact RR.wid (by omega) (by omega) (RR.sub [0, 1, 2, 3, 4, 5] rfl (hK18 _ _ _ _ _ _ _ h))
                            exact RR.wid (by omega) (by omega) (RR.sub [0, 1, 2, 3, 4, 5, 6, 7, 8] rfl (b_L_law_1047 (LK := (kb + 2910)) (LN := (nb + 80025)) (by omega) (by omega) hC hAo hr hx hn hnw hnx hi k1047_18 (kb + 696) (nb + 19140) (by omega) (by omega) _ _ _ _ _ _ _ _ _ _ h))
                          obtain ⟨fu969, hfu969, h⟩ := h
                          exact RR.wid (by omega) (by omega) (RR.sub [5, 6, 7, 8, 9, 10, 12, 4, 2, 3, 1, 0] rfl (b_L_law_969 (LK := (kb + 696)) (LN := (nb + 19140)) (by omega) (by omega) hC hAo hr hx hn hnw hnx hi k969_1047 fu969 (kb + 504) (nb + 13860) (by omega) (by omega) _ _ _ _ _ _ _ _ _ _ _ _ _ h))
                        · have h := h.2 c9
                          refine r_iload hC dL_law_850 9 rfl ?_
                          refine r_iload hC dL_law_852 7 rfl ?_
                          refine r_iconst (v := 1) hC dL_law_854 (by decide) ?_
                          refine r_iadd hC dL_law_855 ?_
                          refine r_SI hC hAo [.int x7, .int (x4 + (1 : Int32))] cal_L_low ml_L_204 rfl (c_L_low G _ _ _ _ _ h) ⟨by decide, by decide⟩ ⟨(by simp only [room_1]; omega), (by simp only [room_1]; omega)⟩ (by simp only [List.map_nil, List.map_cons, List.sum_nil, List.sum_cons, cat_rf, cat_i, cat_j]; decide) rfl dL_law_856 (fun E u hx9 => hx _ _ _ _ _ _ _ (by omega) (by omega) hx9) (fun v856 ph856 h => ?_)
                          refine RR.wid (k' := (kb + 498)) (n' := (nb + 13695)) (by omega) (by omega) ?_
                          refine r_istore (i := 15) (lv' := [(15, .int v856), (14, .int (0 : Int32)), (12, .long (0 : Int64)), (10, .long v243), (0, va_rf x0), (1, va_rf x1), (2, .int x2), (3, .int x3), (4, .int x4), (5, .int x5), (7, .int x7), (8, .int x8), (9, .int x9)]) hC dL_law_859 (by decide) (by first | rfl | simp [lvs1, lvs2, List.filter, cat_rf, cat_i, cat_j]) ?_
                          refine r_aload_n hC dL_law_861 rfl 5 rfl ?_
                          refine r_bipush (v := 30) hC dL_law_862 (by decide) ?_
                          refine r_iload hC dL_law_864 0 rfl ?_
                          refine r_iconst (v := 3) hC dL_law_866 (by decide) ?_
                          refine r_iconst (v := 0) hC dL_law_867 (by decide) ?_
                          refine r_SJ hC hAo [va_rf x1, .int (30 : Int32), .int v856, .int (3 : Int32), .int (0 : Int32)] cal_L_call_ ml_L_188 rfl (c_L_call_ G _ _ _ _ _ _ _ _ h) ⟨by decide, by decide⟩ ⟨(by simp only [room_1]; omega), (by simp only [room_1]; omega)⟩ (by simp only [List.map_nil, List.map_cons, List.sum_nil, List.sum_cons, cat_rf, cat_i, cat_j]; decide) rfl dL_law_868 (fun E u hx9 => hx _ _ _ _ _ _ _ (by omega) (by omega) hx9) (fun v868 ph868 h => ?_)
                          refine RR.wid (k' := (kb + 504)) (n' := (nb + 13860)) (by omega) (by omega) ?_
                          refine r_lstore (i := 16) (lv' := [(16, .long v868), (15, .int v856), (14, .int (0 : Int32)), (12, .long (0 : Int64)), (10, .long v243), (0, va_rf x0), (1, va_rf x1), (2, .int x2), (3, .int x3), (4, .int x4), (5, .int x5), (7, .int x7), (8, .int x8), (9, .int x9)]) hC dL_law_871 (by decide) (by first | rfl | simp [lvs1, lvs2, List.filter, cat_rf, cat_i, cat_j]) ?_
                          refine r_aload_n hC dL_law_873 rfl 6 rfl ?_
                          refine r_bipush (v := 26) hC dL_law_874 (by decide) ?_
                          refine r_iload hC dL_law_876 1 rfl ?_
                          refine r_iload hC dL_law_878 11 rfl ?_
                          refine r_iconst (v := 3) hC dL_law_880 (by decide) ?_
                          refine r_ishr hC dL_law_881 ?_
                          refine r_iconst (v := 3) hC dL_law_882 (by decide) ?_
                          refine r_SI hC hAo [.int (x7 >>> ((3 : Int32) &&& 31)), .int (3 : Int32)] cal_L_low ml_L_204 rfl (c_L_low G _ _ _ _ _ h) ⟨by decide, by decide⟩ ⟨(by simp only [room_1]; omega), (by simp only [room_1]; omega)⟩ (by simp only [List.map_nil, List.map_cons, List.sum_nil, List.sum_cons, cat_rf, cat_i, cat_j]; decide) rfl dL_law_883 (fun E u hx9 => hx _ _ _ _ _ _ _ (by omega) (by omega) hx9) (fun v883 ph883 h => ?_)
                          refine RR.wid (k' := (kb + 504)) (n' := (nb + 13860)) (by omega) (by omega) ?_
                          refine r_iload hC dL_law_886 11 rfl ?_
                          refine r_iconst (v := 5) hC dL_law_888 (by decide) ?_
                          refine r_ishr hC dL_law_889 ?_
                          refine r_iconst (v := 3) hC dL_law_890 (by decide) ?_
                          refine r_SI hC hAo [.int (x7 >>> ((5 : Int32) &&& 31)), .int (3 : Int32)] cal_L_low ml_L_204 rfl (c_L_low G _ _ _ _ _ h) ⟨by decide, by decide⟩ ⟨(by simp only [room_1]; omega), (by simp only [room_1]; omega)⟩ (by simp only [List.map_nil, List.map_cons, List.sum_nil, List.sum_cons, cat_rf, cat_i, cat_j]; decide) rfl dL_law_891 (fun E u hx9 => hx _ _ _ _ _ _ _ (by omega) (by omega) hx9) (fun v891 ph891 h => ?_)
                          refine RR.wid (k' := (kb + 504)) (n' := (nb + 13860)) (by omega) (by omega) ?_
                          refine r_iload hC dL_law_894 11 rfl ?_
                          refine r_bipush (v := 7) hC dL_law_896 (by decide) ?_
                          refine r_ishr hC dL_law_898 ?_
                          refine r_iconst (v := 3) hC dL_law_899 (by decide) ?_
                          refine r_SI hC hAo [.int (x7 >>> ((7 : Int32) &&& 31)), .int (3 : Int32)] cal_L_low ml_L_204 rfl (c_L_low G _ _ _ _ _ h) ⟨by decide, by decide⟩ ⟨(by simp only [room_1]; omega), (by simp only [room_1]; omega)⟩ (by simp only [List.map_nil, List.map_cons, List.sum_nil, List.sum_cons, cat_rf, cat_i, cat_j]; decide) rfl dL_law_900 (fun E u hx9 => hx _ _ _ _ _ _ _ (by omega) (by omega) hx9) (fun v900 ph900 h => ?_)
                          refine RR.wid (k' := (kb + 504)) (n' := (nb + 13860)) (by omega) (by omega) ?_
                          refine r_iconst (v := 0) hC dL_law_903 (by decide) ?_
                          refine r_SXJ hC hAo [va_rf x1, .int (26 : Int32), .int v856, .int v883, .int v891, .int v900, .int (0 : Int32)] cal_L_call tb_383 rfl (c_L_call G _ _ _ _ _ _ _ _ _ _ h) ⟨by decide, by decide⟩ ⟨(by simp only [room_1]; omega), (by simp only [room_1]; omega)⟩ (by simp only [List.map_nil, List.map_cons, List.sum_nil, List.sum_cons, cat_rf, cat_i, cat_j]; decide) rfl dL_law_904 (fun E u hx9 => hx _ _ _ _ _ _ _ (by omega) (by omega) hx9) (fun v904 ph904 h => ?_)
                          refine RR.wid (k' := (kb + 510)) (n' := (nb + 14025)) (by omega) (by omega) ?_
                          refine r_lstore (i := 12) (lv' := [(12, .long v904), (16, .long v868), (15, .int v856), (14, .int (0 : Int32)), (10, .long v243), (0, va_rf x0), (1, va_rf x1), (2, .int x2), (3, .int x3), (4, .int x4), (5, .int x5), (7, .int x7), (8, .int x8), (9, .int x9)]) hC dL_law_907 (by decide) (by first | rfl | simp [lvs1, lvs2, List.filter, cat_rf, cat_i, cat_j]) ?_
                          refine r_lload hC dL_law_909 0 rfl ?_
                          refine r_lconst (v := 0) hC dL_law_911 (by decide) ?_
                          refine r_lcmp hC dL_law_912 ?_
                          refine r_if_lt (tgt := 934) hC dL_law_913 (by decide) (fun c9 => ?_) (fun c9 => ?_)
                          · have h := h.1 c9
                            refine r_goto (tgt := 1047) hC dL_law_934 (by decide) ?_
                            have k1047_18 : ∀ (x0 : Option Nat) (x1 : Option Nat) (x2 : Int32) (x3 : Int32) (x4 : Int32) (x5 : Int32) (ph : PH), K18 x0 x1 x2 x3 x4 x5 ph → RR C Z A G 25 18 [(0, va_rf x0), (1, va_rf x1), (2, .int x2), (3, .int x3), (4, .int x4), (5, .int x5)] [] ph (kb + 2724) (nb + 74910) := by
                              intro x0 x1 x2 x3 x4 x5 ph h
                              exact RR.wid (by omega) (by omega) (RR.sub [0, 1, 2, 3, 4, 5] rfl (hK18 _ _ _ _ _ _ _ h))
                            exact RR.wid (by omega) (by omega) (RR.sub [5, 6, 7, 8, 9, 10, 4, 0, 3] rfl (b_L_law_1047 (LK := (kb + 2724)) (LN := (nb + 74910)) (by omega) (by omega) hC hAo hr hx hn hnw hnx hi k1047_18 (kb + 510) (nb + 14025) (by omega) (by omega) _ _ _ _ _ _ _ _ _ _ h))
                          · have h := h.2 c9
                            refine r_aload_n hC dL_law_916 rfl 6 rfl ?_
                            refine r_bipush (v := 30) hC dL_law_917 (by decide) ?_
                            refine r_iload hC dL_law_919 2 rfl ?_
                            refine r_iconst (v := 3) hC dL_law_921 (by decide) ?_
                            refine r_iconst (v := 0) hC dL_law_922 (by decide) ?_
                            refine r_SJ hC hAo [va_rf x1, .int (30 : Int32), .int v856, .int (3 : Int32), .int (0 : Int32)] cal_L_call_ ml_L_188 rfl (c_L_call_ G _ _ _ _ _ _ _ _ h) ⟨by decide, by decide⟩ ⟨(by simp only [room_1]; omega), (by simp only [room_1]; omega)⟩ (by simp only [List.map_nil, List.map_cons, List.sum_nil, List.sum_cons, cat_rf, cat_i, cat_j]; decide) rfl dL_law_923 (fun E u hx9 => hx _ _ _ _ _ _ _ (by omega) (by omega) hx9) (fun v923 ph923 h => ?_)
                            refine RR.wid (k' := (kb + 516)) (n' := (nb + 14190)) (by omega) (by omega) ?_
                            refine r_lload hC dL_law_926 1 rfl ?_
                            refine r_lcmp hC dL_law_928 ?_
                            refine r_if_eq (tgt := 934) hC dL_law_929 (by decide) (fun c9 => ?_) (fun c9 => ?_)
                            · have h := h.1 c9
                              refine r_goto (tgt := 1047) hC dL_law_934 (by decide) ?_
                              have k1047_18 : ∀ (x0 : Option Nat) (x1 : Option Nat) (x2 : Int32) (x3 : Int32) (x4 : Int32) (x5 : Int32) (ph : PH), K18 x0 x1 x2 x3 x4 x5 ph → RR C Z A G 25 18 [(0, va_rf x0), (1, va_rf x1), (2, .int x2), (3, .int x3), (4, .int x4), (5, .int x5)] [] ph (kb + 2730) (nb + 75075) := by
                                intro x0 x1 x2 x3 x4 x5 ph h
                                exact RR.wid (by omega) (by omega) (RR.sub [0, 1, 2, 3, 4, 5] rfl (hK18 _ _ _ _ _ _ _ h))
                              exact RR.wid (by omega) (by omega) (RR.sub [5, 6, 7, 8, 9, 10, 4, 0, 3] rfl (b_L_law_1047 (LK := (kb + 2730)) (LN := (nb + 75075)) (by omega) (by omega) hC hAo hr hx hn hnw hnx hi k1047_18 (kb + 516) (nb + 14190) (by omega) (by omega) _ _ _ _ _ _ _ _ _ _ h))
                            · have h := h.2 c9
                              refine r_iconst (v := 0) hC dL_law_932 (by decide) ?_
                              exact hr _ _ _ _ _ _ dL_law_933 (by omega) (by omega) h
                      · have h := h.2 c9
                        refine r_aload_n hC dL_law_796 rfl 4 rfl ?_
                        refine r_bipush (v := 24) hC dL_law_797 (by decide) ?_
                        refine r_iload hC dL_law_799 9 rfl ?_
                        refine r_iload hC dL_law_801 7 rfl ?_
                        refine r_iconst (v := 1) hC dL_law_803 (by decide) ?_
                        refine r_iadd hC dL_law_804 ?_
                        refine r_SI hC hAo [.int x7, .int (x4 + (1 : Int32))] cal_L_low ml_L_204 rfl (c_L_low G _ _ _ _ _ h) ⟨by decide, by decide⟩ ⟨(by simp only [room_1]; omega), (by simp only [room_1]; omega)⟩ (by simp only [List.map_nil, List.map_cons, List.sum_nil, List.sum_cons, cat_rf, cat_i, cat_j]; decide) rfl dL_law_805 (fun E u hx9 => hx _ _ _ _ _ _ _ (by omega) (by omega) hx9) (fun v805 ph805 h => ?_)
                        refine RR.wid (k' := (kb + 498)) (n' := (nb + 13695)) (by omega) (by omega) ?_
                        refine r_iload hC dL_law_808 9 rfl ?_
                        refine r_iconst (v := 3) hC dL_law_810 (by decide) ?_
                        refine r_ishr hC dL_law_811 ?_
                        refine r_iconst (v := 3) hC dL_law_812 (by decide) ?_
                        refine r_SI hC hAo [.int (x7 >>> ((3 : Int32) &&& 31)), .int (3 : Int32)] cal_L_low ml_L_204 rfl (c_L_low G _ _ _ _ _ h) ⟨by decide, by decide⟩ ⟨(by simp only [room_1]; omega), (by simp only [room_1]; omega)⟩ (by simp only [List.map_nil, List.map_cons, List.sum_nil, List.sum_cons, cat_rf, cat_i, cat_j]; decide) rfl dL_law_813 (fun E u hx9 => hx _ _ _ _ _ _ _ (by omega) (by omega) hx9) (fun v813 ph813 h => ?_)
                        refine RR.wid (k' := (kb + 498)) (n' := (nb + 13695)) (by omega) (by omega) ?_
                        refine r_iload hC dL_law_816 9 rfl ?_
                        refine r_iconst (v := 5) hC dL_law_818 (by decide) ?_
                        refine r_ishr hC dL_law_819 ?_
                        refine r_iconst (v := 3) hC dL_law_820 (by decide) ?_
                        refine r_SI hC hAo [.int (x7 >>> ((5 : Int32) &&& 31)), .int (3 : Int32)] cal_L_low ml_L_204 rfl (c_L_low G _ _ _ _ _ h) ⟨by decide, by decide⟩ ⟨(by simp only [room_1]; omega), (by simp only [room_1]; omega)⟩ (by simp only [List.map_nil, List.map_cons, List.sum_nil, List.sum_cons, cat_rf, cat_i, cat_j]; decide) rfl dL_law_821 (fun E u hx9 => hx _ _ _ _ _ _ _ (by omega) (by omega) hx9) (fun v821 ph821 h => ?_)
                        refine RR.wid (k' := (kb + 498)) (n' := (nb + 13695)) (by omega) (by omega) ?_
                        refine r_iload hC dL_law_824 9 rfl ?_
                        refine r_bipush (v := 7) hC dL_law_826 (by decide) ?_
                        refine r_ishr hC dL_law_828 ?_
                        refine r_bipush (v := 11) hC dL_law_829 (by decide) ?_
                        refine r_SI hC hAo [.int (x7 >>> ((7 : Int32) &&& 31)), .int (11 : Int32)] cal_L_low ml_L_204 rfl (c_L_low G _ _ _ _ _ h) ⟨by decide, by decide⟩ ⟨(by simp only [room_1]; omega), (by simp only [room_1]; omega)⟩ (by simp only [List.map_nil, List.map_cons, List.sum_nil, List.sum_cons, cat_rf, cat_i, cat_j]; decide) rfl dL_law_831 (fun E u hx9 => hx _ _ _ _ _ _ _ (by omega) (by omega) hx9) (fun v831 ph831 h => ?_)
                        refine RR.wid (k' := (kb + 498)) (n' := (nb + 13695)) (by omega) (by omega) ?_
                        refine r_iconst (v := 0) hC dL_law_834 (by decide) ?_
                        refine r_SXJ hC hAo [va_rf x1, .int (24 : Int32), .int v805, .int v813, .int v821, .int v831, .int (0 : Int32)] cal_L_call tb_383 rfl (c_L_call G _ _ _ _ _ _ _ _ _ _ h) ⟨by decide, by decide⟩ ⟨(by simp only [room_1]; omega), (by simp only [room_1]; omega)⟩ (by simp only [List.map_nil, List.map_cons, List.sum_nil, List.sum_cons, cat_rf, cat_i, cat_j]; decide) rfl dL_law_835 (fun E u hx9 => hx _ _ _ _ _ _ _ (by omega) (by omega) hx9) (fun v835 ph835 h => ?_)
                        refine RR.wid (k' := (kb + 504)) (n' := (nb + 13860)) (by omega) (by omega) ?_
                        refine r_lstore (i := 12) (lv' := [(12, .long v835), (14, .int (0 : Int32)), (10, .long v243), (0, va_rf x0), (1, va_rf x1), (2, .int x2), (3, .int x3), (4, .int x4), (5, .int x5), (7, .int x7), (8, .int x8), (9, .int x9)]) hC dL_law_838 (by decide) (by first | rfl | simp [lvs1, lvs2, List.filter, cat_rf, cat_i, cat_j]) ?_
                        refine r_goto (tgt := 1047) hC dL_law_840 (by decide) ?_
                        have k1047_18 : ∀ (x0 : Option Nat) (x1 : Option Nat) (x2 : Int32) (x3 : Int32) (x4 : Int32) (x5 : Int32) (ph : PH), K18 x0 x1 x2 x3 x4 x5 ph → RR C Z A G 25 18 [(0, va_rf x0), (1, va_rf x1), (2, .int x2), (3, .int x3), (4, .int x4), (5, .int x5)] [] ph (kb + 2718) (nb + 74745) := by
                          intro x0 x1 x2 x3 x4 x5 ph h
                          exact RR.wid (by omega) (by omega) (RR.sub [0, 1, 2, 3, 4, 5] rfl (hK18 _ _ _ _ _ _ _ h))
                        exact RR.wid (by omega) (by omega) (RR.sub [3, 4, 5, 6, 7, 8, 2, 0, 1] rfl (b_L_law_1047 (LK := (kb + 2718)) (LN := (nb + 74745)) (by omega) (by omega) hC hAo hr hx hn hnw hnx hi k1047_18 (kb + 504) (nb + 13860) (by omega) (by omega) _ _ _ _ _ _ _ _ _ _ h))
                    · have h := h.2 c9
                      refine r_aload_n hC dL_law_742 rfl 4 rfl ?_
                      refine r_bipush (v := 23) hC dL_law_743 (by decide) ?_
                      refine r_iconst (v := 1) hC dL_law_745 (by decide) ?_
                      refine r_iload hC dL_law_746 9 rfl ?_
                      refine r_iconst (v := 3) hC dL_law_748 (by decide) ?_
                      refine r_SI hC hAo [.int x7, .int (3 : Int32)] cal_L_low ml_L_204 rfl (c_L_low G _ _ _ _ _ h) ⟨by decide, by decide⟩ ⟨(by simp only [room_1]; omega), (by simp only [room_1]; omega)⟩ (by simp only [List.map_nil, List.map_cons, List.sum_nil, List.sum_cons, cat_rf, cat_i, cat_j]; decide) rfl dL_law_749 (fun E u hx9 => hx _ _ _ _ _ _ _ (by omega) (by omega) hx9) (fun v749 ph749 h => ?_)
                      refine RR.wid (k' := (kb + 498)) (n' := (nb + 13695)) (by omega) (by omega) ?_
                      refine r_iadd hC dL_law_752 ?_
                      refine r_iconst (v := 1) hC dL_law_753 (by decide) ?_
                      refine r_iload hC dL_law_754 9 rfl ?_
                      refine r_iconst (v := 2) hC dL_law_756 (by decide) ?_
                      refine r_ishr hC dL_law_757 ?_
                      refine r_iconst (v := 3) hC dL_law_758 (by decide) ?_
                      refine r_SI hC hAo [.int (x7 >>> ((2 : Int32) &&& 31)), .int (3 : Int32)] cal_L_low ml_L_204 rfl (c_L_low G _ _ _ _ _ h) ⟨by decide, by decide⟩ ⟨(by simp only [room_1]; omega), (by simp only [room_1]; omega)⟩ (by simp only [List.map_nil, List.map_cons, List.sum_nil, List.sum_cons, cat_rf, cat_i, cat_j]; decide) rfl dL_law_759 (fun E u hx9 => hx _ _ _ _ _ _ _ (by omega) (by omega) hx9) (fun v759 ph759 h => ?_)
                      refine RR.wid (k' := (kb + 498)) (n' := (nb + 13695)) (by omega) (by omega) ?_
                      refine r_iadd hC dL_law_762 ?_
                      refine r_iconst (v := 0) hC dL_law_763 (by decide) ?_
                      refine r_SJ hC hAo [va_rf x1, .int (23 : Int32), .int ((1 : Int32) + v749), .int ((1 : Int32) + v759), .int (0 : Int32)] cal_L_call_ ml_L_188 rfl (c_L_call_ G _ _ _ _ _ _ _ _ h) ⟨by decide, by decide⟩ ⟨(by simp only [room_1]; omega), (by simp only [room_1]; omega)⟩ (by simp only [List.map_nil, List.map_cons, List.sum_nil, List.sum_cons, cat_rf, cat_i, cat_j]; decide) rfl dL_law_764 (fun E u hx9 => hx _ _ _ _ _ _ _ (by omega) (by omega) hx9) (fun v764 ph764 h => ?_)
                      refine RR.wid (k' := (kb + 504)) (n' := (nb + 13860)) (by omega) (by omega) ?_
                      refine r_lstore (i := 12) (lv' := [(12, .long v764), (14, .int (0 : Int32)), (10, .long v243), (0, va_rf x0), (1, va_rf x1), (2, .int x2), (3, .int x3), (4, .int x4), (5, .int x5), (7, .int x7), (8, .int x8), (9, .int x9)]) hC dL_law_767 (by decide) (by first | rfl | simp [lvs1, lvs2, List.filter, cat_rf, cat_i, cat_j]) ?_
                      refine r_iload hC dL_law_769 7 rfl ?_
                      refine r_lload hC dL_law_771 0 rfl ?_
                      refine r_lconst (v := 0) hC dL_law_773 (by decide) ?_
                      refine r_lcmp hC dL_law_774 ?_
                      refine r_if_lt (tgt := 782) hC dL_law_775 (by decide) (fun c9 => ?_) (fun c9 => ?_)
                      · have h := h.1 c9
                        refine r_iconst (v := 0) hC dL_law_782 (by decide) ?_
                        refine r_iadd hC dL_law_783 ?_
                        obtain ⟨v784, ev784⟩ : ∃ z : Int32, z = x4 + (0 : Int32) := ⟨_, rfl⟩
                        have h := h v784 ev784
                        refine RR.to (st' := [.int v784]) (by rw [ev784]) ?_
                        refine r_istore (i := 4) (lv' := [(4, .int v784), (12, .long v764), (14, .int (0 : Int32)), (10, .long v243), (0, va_rf x0), (1, va_rf x1), (2, .int x2), (3, .int x3), (5, .int x5), (7, .int x7), (8, .int x8), (9, .int x9)]) hC dL_law_784 (by decide) (by first | rfl | simp [lvs1, lvs2, List.filter, cat_rf, cat_i, cat_j]) ?_
                        refine r_goto (tgt := 1047) hC dL_law_786 (by decide) ?_
                        have k1047_18 : ∀ (x0 : Option Nat) (x1 : Option Nat) (x2 : Int32) (x3 : Int32) (x4 : Int32) (x5 : Int32) (ph : PH), K18 x0 x1 x2 x3 x4 x5 ph → RR C Z A G 25 18 [(0, va_rf x0), (1, va_rf x1), (2, .int x2), (3, .int x3), (4, .int x4), (5, .int x5)] [] ph (kb + 2718) (nb + 74745) := by
                          intro x0 x1 x2 x3 x4 x5 ph h
                          exact RR.wid (by omega) (by omega) (RR.sub [0, 1, 2, 3, 4, 5] rfl (hK18 _ _ _ _ _ _ _ h))
                        exact RR.wid (by omega) (by omega) (RR.sub [4, 5, 6, 7, 0, 8, 3, 1, 2] rfl (b_L_law_1047 (LK := (kb + 2718)) (LN := (nb + 74745)) (by omega) (by omega) hC hAo hr hx hn hnw hnx hi k1047_18 (kb + 504) (nb + 13860) (by omega) (by omega) _ _ _ _ _ _ _ _ _ _ h))
                      · have h := h.2 c9
                        refine r_iconst (v := 1) hC dL_law_778 (by decide) ?_
                        refine r_goto (tgt := 783) hC dL_law_779 (by decide) ?_
                        refine r_iadd hC dL_law_783 ?_
                        obtain ⟨v784, ev784⟩ : ∃ z : Int32, z = x4 + (1 : Int32) := ⟨_, rfl⟩
                        have h := h v784 ev784
                        refine RR.to (st' := [.int v784]) (by rw [ev784]) ?_
                        refine r_istore (i := 4) (lv' := [(4, .int v784), (12, .long v764), (14, .int (0 : Int32)), (10, .long v243), (0, va_rf x0), (1, va_rf x1), (2, .int x2), (3, .int x3), (5, .int x5), (7, .int x7), (8, .int x8), (9, .int x9)]) hC dL_law_784 (by decide) (by first | rfl | simp [lvs1, lvs2, List.filter, cat_rf, cat_i, cat_j]) ?_
                        refine r_goto (tgt := 1047) hC dL_law_786 (by decide) ?_
                        have k1047_18 : ∀ (x0 : Option Nat) (x1 : Option Nat) (x2 : Int32) (x3 : Int32) (x4 : Int32) (x5 : Int32) (ph : PH), K18 x0 x1 x2 x3 x4 x5 ph → RR C Z A G 25 18 [(0, va_rf x0), (1, va_rf x1), (2, .int x2), (3, .int x3), (4, .int x4), (5, .int x5)] [] ph (kb + 2718) (nb + 74745) := by
                          intro x0 x1 x2 x3 x4 x5 ph h
                          exact RR.wid (by omega) (by omega) (RR.sub [0, 1, 2, 3, 4, 5] rfl (hK18 _ _ _ _ _ _ _ h))
                        exact RR.wid (by omega) (by omega) (RR.sub [4, 5, 6, 7, 0, 8, 3, 1, 2] rfl (b_L_law_1047 (LK := (kb + 2718)) (LN := (nb + 74745)) (by omega) (by omega) hC hAo hr hx hn hnw hnx hi k1047_18 (kb + 504) (nb + 13860) (by omega) (by omega) _ _ _ _ _ _ _ _ _ _ h))
                  · have h := h.2 c9
                    refine r_aload_n hC dL_law_681 rfl 4 rfl ?_
                    refine r_bipush (v := 18) hC dL_law_682 (by decide) ?_
                    refine r_iload hC dL_law_684 9 rfl ?_
                    refine r_iload_n hC dL_law_686 rfl 6 rfl ?_
                    refine r_iconst (v := 1) hC dL_law_687 (by decide) ?_
                    refine r_iadd hC dL_law_688 ?_
                    refine r_SI hC hAo [.int x7, .int (x3 + (1 : Int32))] cal_L_low ml_L_204 rfl (c_L_low G _ _ _ _ _ h) ⟨by decide, by decide⟩ ⟨(by simp only [room_1]; omega), (by simp only [room_1]; omega)⟩ (by simp only [List.map_nil, List.map_cons, List.sum_nil, List.sum_cons, cat_rf, cat_i, cat_j]; decide) rfl dL_law_689 (fun E u hx9 => hx _ _ _ _ _ _ _ (by omega) (by omega) hx9) (fun v689 ph689 h => ?_)
                    refine RR.wid (k' := (kb + 498)) (n' := (nb + 13695)) (by omega) (by omega) ?_
                    refine r_bipush (v := 97) hC dL_law_692 (by decide) ?_
                    refine r_iload hC dL_law_694 9 rfl ?_
                    refine r_iconst (v := 3) hC dL_law_696 (by decide) ?_
                    refine r_ishr hC dL_law_697 ?_
                    refine r_iconst (v := 3) hC dL_law_698 (by decide) ?_
                    refine r_SI hC hAo [.int (x7 >>> ((3 : Int32) &&& 31)), .int (3 : Int32)] cal_L_low ml_L_204 rfl (c_L_low G _ _ _ _ _ h) ⟨by decide, by decide⟩ ⟨(by simp only [room_1]; omega), (by simp only [room_1]; omega)⟩ (by simp only [List.map_nil, List.map_cons, List.sum_nil, List.sum_cons, cat_rf, cat_i, cat_j]; decide) rfl dL_law_699 (fun E u hx9 => hx _ _ _ _ _ _ _ (by omega) (by omega) hx9) (fun v699 ph699 h => ?_)
                    refine RR.wid (k' := (kb + 498)) (n' := (nb + 13695)) (by omega) (by omega) ?_
                    refine r_iadd hC dL_law_702 ?_
                    refine r_bipush (v := 97) hC dL_law_703 (by decide) ?_
                    refine r_iload hC dL_law_705 9 rfl ?_
                    refine r_iconst (v := 5) hC dL_law_707 (by decide) ?_
                    refine r_ishr hC dL_law_708 ?_
                    refine r_iconst (v := 3) hC dL_law_709 (by decide) ?_
                    refine r_SI hC hAo [.int (x7 >>> ((5 : Int32) &&& 31)), .int (3 : Int32)] cal_L_low ml_L_204 rfl (c_L_low G _ _ _ _ _ h) ⟨by decide, by decide⟩ ⟨(by simp only [room_1]; omega), (by simp only [room_1]; omega)⟩ (by simp only [List.map_nil, List.map_cons, List.sum_nil, List.sum_cons, cat_rf, cat_i, cat_j]; decide) rfl dL_law_710 (fun E u hx9 => hx _ _ _ _ _ _ _ (by omega) (by omega) hx9) (fun v710 ph710 h => ?_)
                    refine RR.wid (k' := (kb + 498)) (n' := (nb + 13695)) (by omega) (by omega) ?_
                    refine r_iadd hC dL_law_713 ?_
                    refine r_bipush (v := 97) hC dL_law_714 (by decide) ?_
                    refine r_iload hC dL_law_716 9 rfl ?_
                    refine r_bipush (v := 7) hC dL_law_718 (by decide) ?_
                    refine r_ishr hC dL_law_720 ?_
                    refine r_iconst (v := 3) hC dL_law_721 (by decide) ?_
                    refine r_SI hC hAo [.int (x7 >>> ((7 : Int32) &&& 31)), .int (3 : Int32)] cal_L_low ml_L_204 rfl (c_L_low G _ _ _ _ _ h) ⟨by decide, by decide⟩ ⟨(by simp only [room_1]; omega), (by simp only [room_1]; omega)⟩ (by simp only [List.map_nil, List.map_cons, List.sum_nil, List.sum_cons, cat_rf, cat_i, cat_j]; decide) rfl dL_law_722 (fun E u hx9 => hx _ _ _ _ _ _ _ (by omega) (by omega) hx9) (fun v722 ph722 h => ?_)
                    refine RR.wid (k' := (kb + 498)) (n' := (nb + 13695)) (by omega) (by omega) ?_
                    refine r_iadd hC dL_law_725 ?_
                    refine r_iconst (v := 0) hC dL_law_726 (by decide) ?_
                    refine r_SXJ hC hAo [va_rf x1, .int (18 : Int32), .int v689, .int ((97 : Int32) + v699), .int ((97 : Int32) + v710), .int ((97 : Int32) + v722), .int (0 : Int32)] cal_L_call tb_383 rfl (c_L_call G _ _ _ _ _ _ _ _ _ _ h) ⟨by decide, by decide⟩ ⟨(by simp only [room_1]; omega), (by simp only [room_1]; omega)⟩ (by simp only [List.map_nil, List.map_cons, List.sum_nil, List.sum_cons, cat_rf, cat_i, cat_j]; decide) rfl dL_law_727 (fun E u hx9 => hx _ _ _ _ _ _ _ (by omega) (by omega) hx9) (fun v727 ph727 h => ?_)
                    refine RR.wid (k' := (kb + 504)) (n' := (nb + 13860)) (by omega) (by omega) ?_
                    refine r_lstore (i := 12) (lv' := [(12, .long v727), (14, .int (0 : Int32)), (10, .long v243), (0, va_rf x0), (1, va_rf x1), (2, .int x2), (3, .int x3), (4, .int x4), (5, .int x5), (7, .int x7), (8, .int x8), (9, .int x9)]) hC dL_law_730 (by decide) (by first | rfl | simp [lvs1, lvs2, List.filter, cat_rf, cat_i, cat_j]) ?_
                    refine r_goto (tgt := 1047) hC dL_law_732 (by decide) ?_
                    have k1047_18 : ∀ (x0 : Option Nat) (x1 : Option Nat) (x2 : Int32) (x3 : Int32) (x4 : Int32) (x5 : Int32) (ph : PH), K18 x0 x1 x2 x3 x4 x5 ph → RR C Z A G 25 18 [(0, va_rf x0), (1, va_rf x1), (2, .int x2), (3, .int x3), (4, .int x4), (5, .int x5)] [] ph (kb + 2718) (nb + 74745) := by
                      intro x0 x1 x2 x3 x4 x5 ph h
                      exact RR.wid (by omega) (by omega) (RR.sub [0, 1, 2, 3, 4, 5] rfl (hK18 _ _ _ _ _ _ _ h))
                    exact RR.wid (by omega) (by omega) (RR.sub [3, 4, 5, 6, 7, 8, 2, 0, 1] rfl (b_L_law_1047 (LK := (kb + 2718)) (LN := (nb + 74745)) (by omega) (by omega) hC hAo hr hx hn hnw hnx hi k1047_18 (kb + 504) (nb + 13860) (by omega) (by omega) _ _ _ _ _ _ _ _ _ _ h))
                · have h := h.2 c9
                  refine r_iload hC dL_law_566 9 rfl ?_
                  refine r_iload_n hC dL_law_568 rfl 6 rfl ?_
                  refine r_iconst (v := 1) hC dL_law_569 (by decide) ?_
                  refine r_iadd hC dL_law_570 ?_
                  refine r_SI hC hAo [.int x7, .int (x3 + (1 : Int32))] cal_L_low ml_L_204 rfl (c_L_low G _ _ _ _ _ h) ⟨by decide, by decide⟩ ⟨(by simp only [room_1]; omega), (by simp only [room_1]; omega)⟩ (by simp only [List.map_nil, List.map_cons, List.sum_nil, List.sum_cons, cat_rf, cat_i, cat_j]; decide) rfl dL_law_571 (fun E u hx9 => hx _ _ _ _ _ _ _ (by omega) (by omega) hx9) (fun v571 ph571 h => ?_)
                  refine RR.wid (k' := (kb + 498)) (n' := (nb + 13695)) (by omega) (by omega) ?_
                  refine r_istore (i := 15) (lv' := [(15, .int v571), (14, .int (0 : Int32)), (12, .long (0 : Int64)), (10, .long v243), (0, va_rf x0), (1, va_rf x1), (2, .int x2), (3, .int x3), (4, .int x4), (5, .int x5), (7, .int x7), (8, .int x8), (9, .int x9)]) hC dL_law_574 (by decide) (by first | rfl | simp [lvs1, lvs2, List.filter, cat_rf, cat_i, cat_j]) ?_
                  refine r_aload_n hC dL_law_576 rfl 5 rfl ?_
                  refine r_bipush (v := 21) hC dL_law_577 (by decide) ?_
                  refine r_iload hC dL_law_579 0 rfl ?_
                  refine r_iload hC dL_law_581 11 rfl ?_
                  refine r_iconst (v := 0) hC dL_law_583 (by decide) ?_
                  refine r_SJ hC hAo [va_rf x1, .int (21 : Int32), .int v571, .int x8, .int (0 : Int32)] cal_L_call_ ml_L_188 rfl (c_L_call_ G _ _ _ _ _ _ _ _ h) ⟨by decide, by decide⟩ ⟨(by simp only [room_1]; omega), (by simp only [room_1]; omega)⟩ (by simp only [List.map_nil, List.map_cons, List.sum_nil, List.sum_cons, cat_rf, cat_i, cat_j]; decide) rfl dL_law_584 (fun E u hx9 => hx _ _ _ _ _ _ _ (by omega) (by omega) hx9) (fun v584 ph584 h => ?_)
                  refine RR.wid (k' := (kb + 504)) (n' := (nb + 13860)) (by omega) (by omega) ?_
                  refine r_lstore (i := 12) (lv' := [(12, .long v584), (15, .int v571), (14, .int (0 : Int32)), (10, .long v243), (0, va_rf x0), (1, va_rf x1), (2, .int x2), (3, .int x3), (4, .int x4), (5, .int x5), (7, .int x7), (8, .int x8), (9, .int x9)]) hC dL_law_587 (by decide) (by first | rfl | simp [lvs1, lvs2, List.filter, cat_rf, cat_i, cat_j]) ?_
                  refine r_lload hC dL_law_589 0 rfl ?_
                  refine r_lconst (v := 0) hC dL_law_591 (by decide) ?_
                  refine r_lcmp hC dL_law_592 ?_
                  refine r_if_lt (tgt := 600) hC dL_law_593 (by decide) (fun c9 => ?_) (fun c9 => ?_)
                  · have h := h.1 c9
                    refine r_iconst (v := 0) hC dL_law_600 (by decide) ?_
                    refine r_istore (i := 14) (lv' := [(14, .int (0 : Int32)), (12, .long v584), (15, .int v571), (10, .long v243), (0, va_rf x0), (1, va_rf x1), (2, .int x2), (3, .int x3), (4, .int x4), (5, .int x5), (7, .int x7), (8, .int x8), (9, .int x9)]) hC dL_law_601 (by decide) (by first | rfl | simp [lvs1, lvs2, List.filter, cat_rf, cat_i, cat_j]) ?_
                    refine r_iconst (v := 1) hC dL_law_603 (by decide) ?_
                    refine r_istore (i := 16) (lv' := [(16, .int (1 : Int32)), (14, .int (0 : Int32)), (12, .long v584), (15, .int v571), (10, .long v243), (0, va_rf x0), (1, va_rf x1), (2, .int x2), (3, .int x3), (4, .int x4), (5, .int x5), (7, .int x7), (8, .int x8), (9, .int x9)]) hC dL_law_604 (by decide) (by first | rfl | simp [lvs1, lvs2, List.filter, cat_rf, cat_i, cat_j]) ?_
                    have k606_1047 : ∀ (x0 : Option Nat) (x1 : Option Nat) (x2 : Int32) (x3 : Int32) (x4 : Int32) (x5 : Int32) (x10 : Int64) (x12 : Int64) (x14 : Int32) (ph : PH), w_L_law_1047 G Q X (fun x0 x1 x2 x3 x4 x5 ph => K18 x0 x1 x2 x3 x4 x5 ph) x0 x1 x2 x3 x4 x5 x10 x12 x14 ph → RR C Z A G 25 1047 [(0, va_rf x0), (1, va_rf x1), (2, .int x2), (3, .int x3), (4, .int x4), (5, .int x5), (10, .long x10), (12, .long x12), (14, .int x14)] [] ph (kb + 648) (nb + 17820) := by
                      intro x0 x1 x2 x3 x4 x5 x10 x12 x14 ph h
                      have k1047_18 : ∀ (x0 : Option Nat) (x1 : Option Nat) (x2 : Int32) (x3 : Int32) (x4 : Int32) (x5 : Int32) (ph : PH), K18 x0 x1 x2 x3 x4 x5 ph → RR C Z A G 25 18 [(0, va_rf x0), (1, va_rf x1), (2, .int x2), (3, .int x3), (4, .int x4), (5, .int x5)] [] ph (kb + 2862) (nb + 78705) := by
                        intro x0 x1 x2 x3 x4 x5 ph h
                        exact RR.wid (by omega) (by omega) (RR.sub [0, 1, 2, 3, 4, 5] rfl (hK18 _ _ _ _ _ _ _ h))
                      exact RR.wid (by omega) (by omega) (RR.sub [0, 1, 2, 3, 4, 5, 6, 7, 8] rfl (b_L_law_1047 (LK := (kb + 2862)) (LN := (nb + 78705)) (by omega) (by omega) hC hAo hr hx hn hnw hnx hi k1047_18 (kb + 648) (nb + 17820) (by omega) (by omega) _ _ _ _ _ _ _ _ _ _ h))
                    obtain ⟨fu606, hfu606, h⟩ := h
                    exact RR.wid (by omega) (by omega) (RR.sub [5, 6, 7, 8, 9, 10, 12, 4, 2, 1, 0] rfl (b_L_law_606 (LK := (kb + 648)) (LN := (nb + 17820)) (by omega) (by omega) hC hAo hr hx hn hnw hnx hi k606_1047 fu606 (kb + 504) (nb + 13860) (by omega) (by omega) _ _ _ _ _ _ _ _ _ _ _ _ h))
                  · have h := h.2 c9
                    refine r_iconst (v := 1) hC dL_law_596 (by decide) ?_
                    refine r_goto (tgt := 601) hC dL_law_597 (by decide) ?_
                    refine r_istore (i := 14) (lv' := [(14, .int (1 : Int32)), (12, .long v584), (15, .int v571), (10, .long v243), (0, va_rf x0), (1, va_rf x1), (2, .int x2), (3, .int x3), (4, .int x4), (5, .int x5), (7, .int x7), (8, .int x8), (9, .int x9)]) hC dL_law_601 (by decide) (by first | rfl | simp [lvs1, lvs2, List.filter, cat_rf, cat_i, cat_j]) ?_
                    refine r_iconst (v := 1) hC dL_law_603 (by decide) ?_
                    refine r_istore (i := 16) (lv' := [(16, .int (1 : Int32)), (14, .int (1 : Int32)), (12, .long v584), (15, .int v571), (10, .long v243), (0, va_rf x0), (1, va_rf x1), (2, .int x2), (3, .int x3), (4, .int x4), (5, .int x5), (7, .int x7), (8, .int x8), (9, .int x9)]) hC dL_law_604 (by decide) (by first | rfl | simp [lvs1, lvs2, List.filter, cat_rf, cat_i, cat_j]) ?_
                    have k606_1047 : ∀ (x0 : Option Nat) (x1 : Option Nat) (x2 : Int32) (x3 : Int32) (x4 : Int32) (x5 : Int32) (x10 : Int64) (x12 : Int64) (x14 : Int32) (ph : PH), w_L_law_1047 G Q X (fun x0 x1 x2 x3 x4 x5 ph => K18 x0 x1 x2 x3 x4 x5 ph) x0 x1 x2 x3 x4 x5 x10 x12 x14 ph → RR C Z A G 25 1047 [(0, va_rf x0), (1, va_rf x1), (2, .int x2), (3, .int x3), (4, .int x4), (5, .int x5), (10, .long x10), (12, .long x12), (14, .int x14)] [] ph (kb + 648) (nb + 17820) := by
                      intro x0 x1 x2 x3 x4 x5 x10 x12 x14 ph h
                      have k1047_18 : ∀ (x0 : Option Nat) (x1 : Option Nat) (x2 : Int32) (x3 : Int32) (x4 : Int32) (x5 : Int32) (ph : PH), K18 x0 x1 x2 x3 x4 x5 ph → RR C Z A G 25 18 [(0, va_rf x0), (1, va_rf x1), (2, .int x2), (3, .int x3), (4, .int x4), (5, .int x5)] [] ph (kb + 2862) (nb + 78705) := by
                        intro x0 x1 x2 x3 x4 x5 ph h
                        exact RR.wid (by omega) (by omega) (RR.sub [0, 1, 2, 3, 4, 5] rfl (hK18 _ _ _ _ _ _ _ h))
                      exact RR.wid (by omega) (by omega) (RR.sub [0, 1, 2, 3, 4, 5, 6, 7, 8] rfl (b_L_law_1047 (LK := (kb + 2862)) (LN := (nb + 78705)) (by omega) (by omega) hC hAo hr hx hn hnw hnx hi k1047_18 (kb + 648) (nb + 17820) (by omega) (by omega) _ _ _ _ _ _ _ _ _ _ h))
                    obtain ⟨fu606, hfu606, h⟩ := h
                    exact RR.wid (by omega) (by omega) (RR.sub [5, 6, 7, 8, 9, 10, 12, 4, 2, 1, 0] rfl (b_L_law_606 (LK := (kb + 648)) (LN := (nb + 17820)) (by omega) (by omega) hC hAo hr hx hn hnw hnx hi k606_1047 fu606 (kb + 504) (nb + 13860) (by omega) (by omega) _ _ _ _ _ _ _ _ _ _ _ _ h))
              · have h := h.2 c9
                refine r_aload_n hC dL_law_534 rfl 4 rfl ?_
                refine r_bipush (v := 38) hC dL_law_535 (by decide) ?_
                refine r_bipush (v := 97) hC dL_law_537 (by decide) ?_
                refine r_iload hC dL_law_539 9 rfl ?_
                refine r_bipush (v := 20) hC dL_law_541 (by decide) ?_
                refine r_ishr hC dL_law_543 ?_
                refine r_iconst (v := 4) hC dL_law_544 (by decide) ?_
                refine r_SI hC hAo [.int (x7 >>> ((20 : Int32) &&& 31)), .int (4 : Int32)] cal_L_low ml_L_204 rfl (c_L_low G _ _ _ _ _ h) ⟨by decide, by decide⟩ ⟨(by simp only [room_1]; omega), (by simp only [room_1]; omega)⟩ (by simp only [List.map_nil, List.map_cons, List.sum_nil, List.sum_cons, cat_rf, cat_i, cat_j]; decide) rfl dL_law_545 (fun E u hx9 => hx _ _ _ _ _ _ _ (by omega) (by omega) hx9) (fun v545 ph545 h => ?_)
                refine RR.wid (k' := (kb + 498)) (n' := (nb + 13695)) (by omega) (by omega) ?_
                refine r_iadd hC dL_law_548 ?_
                refine r_iconst (v := 0) hC dL_law_549 (by decide) ?_
                refine r_iconst (v := 0) hC dL_law_550 (by decide) ?_
                refine r_SJ hC hAo [va_rf x1, .int (38 : Int32), .int ((97 : Int32) + v545), .int (0 : Int32), .int (0 : Int32)] cal_L_call_ ml_L_188 rfl (c_L_call_ G _ _ _ _ _ _ _ _ h) ⟨by decide, by decide⟩ ⟨(by simp only [room_1]; omega), (by simp only [room_1]; omega)⟩ (by simp only [List.map_nil, List.map_cons, List.sum_nil, List.sum_cons, cat_rf, cat_i, cat_j]; decide) rfl dL_law_551 (fun E u hx9 => hx _ _ _ _ _ _ _ (by omega) (by omega) hx9) (fun v551 ph551 h => ?_)
                refine RR.wid (k' := (kb + 504)) (n' := (nb + 13860)) (by omega) (by omega) ?_
                refine r_lstore (i := 12) (lv' := [(12, .long v551), (14, .int (0 : Int32)), (10, .long v243), (0, va_rf x0), (1, va_rf x1), (2, .int x2), (3, .int x3), (4, .int x4), (5, .int x5), (7, .int x7), (8, .int x8), (9, .int x9)]) hC dL_law_554 (by decide) (by first | rfl | simp [lvs1, lvs2, List.filter, cat_rf, cat_i, cat_j]) ?_
                refine r_goto (tgt := 1047) hC dL_law_556 (by decide) ?_
                have k1047_18 : ∀ (x0 : Option Nat) (x1 : Option Nat) (x2 : Int32) (x3 : Int32) (x4 : Int32) (x5 : Int32) (ph : PH), K18 x0 x1 x2 x3 x4 x5 ph → RR C Z A G 25 18 [(0, va_rf x0), (1, va_rf x1), (2, .int x2), (3, .int x3), (4, .int x4), (5, .int x5)] [] ph (kb + 2718) (nb + 74745) := by
                  intro x0 x1 x2 x3 x4 x5 ph h
                  exact RR.wid (by omega) (by omega) (RR.sub [0, 1, 2, 3, 4, 5] rfl (hK18 _ _ _ _ _ _ _ h))
                exact RR.wid (by omega) (by omega) (RR.sub [3, 4, 5, 6, 7, 8, 2, 0, 1] rfl (b_L_law_1047 (LK := (kb + 2718)) (LN := (nb + 74745)) (by omega) (by omega) hC hAo hr hx hn hnw hnx hi k1047_18 (kb + 504) (nb + 13860) (by omega) (by omega) _ _ _ _ _ _ _ _ _ _ h))
            · have h := h.2 c9
              refine r_aload_n hC dL_law_491 rfl 4 rfl ?_
              refine r_bipush (v := 17) hC dL_law_492 (by decide) ?_
              refine r_iconst (v := 2) hC dL_law_494 (by decide) ?_
              refine r_iload hC dL_law_495 9 rfl ?_
              refine r_iconst (v := 2) hC dL_law_497 (by decide) ?_
              refine r_SI hC hAo [.int x7, .int (2 : Int32)] cal_L_low ml_L_204 rfl (c_L_low G _ _ _ _ _ h) ⟨by decide, by decide⟩ ⟨(by simp only [room_1]; omega), (by simp only [room_1]; omega)⟩ (by simp only [List.map_nil, List.map_cons, List.sum_nil, List.sum_cons, cat_rf, cat_i, cat_j]; decide) rfl dL_law_498 (fun E u hx9 => hx _ _ _ _ _ _ _ (by omega) (by omega) hx9) (fun v498 ph498 h => ?_)
              refine RR.wid (k' := (kb + 498)) (n' := (nb + 13695)) (by omega) (by omega) ?_
              refine r_iadd hC dL_law_501 ?_
              refine r_iconst (v := 0) hC dL_law_502 (by decide) ?_
              refine r_iconst (v := 0) hC dL_law_503 (by decide) ?_
              refine r_SJ hC hAo [va_rf x1, .int (17 : Int32), .int ((2 : Int32) + v498), .int (0 : Int32), .int (0 : Int32)] cal_L_call_ ml_L_188 rfl (c_L_call_ G _ _ _ _ _ _ _ _ h) ⟨by decide, by decide⟩ ⟨(by simp only [room_1]; omega), (by simp only [room_1]; omega)⟩ (by simp only [List.map_nil, List.map_cons, List.sum_nil, List.sum_cons, cat_rf, cat_i, cat_j]; decide) rfl dL_law_504 (fun E u hx9 => hx _ _ _ _ _ _ _ (by omega) (by omega) hx9) (fun v504 ph504 h => ?_)
              refine RR.wid (k' := (kb + 504)) (n' := (nb + 13860)) (by omega) (by omega) ?_
              refine r_lstore (i := 12) (lv' := [(12, .long v504), (14, .int (0 : Int32)), (10, .long v243), (0, va_rf x0), (1, va_rf x1), (2, .int x2), (3, .int x3), (4, .int x4), (5, .int x5), (7, .int x7), (8, .int x8), (9, .int x9)]) hC dL_law_507 (by decide) (by first | rfl | simp [lvs1, lvs2, List.filter, cat_rf, cat_i, cat_j]) ?_
              refine r_iload_n hC dL_law_509 rfl 6 rfl ?_
              refine r_lload hC dL_law_510 0 rfl ?_
              refine r_lconst (v := 0) hC dL_law_512 (by decide) ?_
              refine r_lcmp hC dL_law_513 ?_
              refine r_if_lt (tgt := 521) hC dL_law_514 (by decide) (fun c9 => ?_) (fun c9 => ?_)
              · have h := h.1 c9
                refine r_iconst (v := 0) hC dL_law_521 (by decide) ?_
                refine r_iadd hC dL_law_522 ?_
                obtain ⟨v523, ev523⟩ : ∃ z : Int32, z = x3 + (0 : Int32) := ⟨_, rfl⟩
                have h := h v523 ev523
                refine RR.to (st' := [.int v523]) (by rw [ev523]) ?_
                refine r_istore_n (i := 3) (lv' := [(3, .int v523), (12, .long v504), (14, .int (0 : Int32)), (10, .long v243), (0, va_rf x0), (1, va_rf x1), (2, .int x2), (4, .int x4), (5, .int x5), (7, .int x7), (8, .int x8), (9, .int x9)]) hC dL_law_523 rfl (by decide) (by first | rfl | simp [lvs1, lvs2, List.filter, cat_rf, cat_i, cat_j]) ?_
                refine r_goto (tgt := 1047) hC dL_law_524 (by decide) ?_
                have k1047_18 : ∀ (x0 : Option Nat) (x1 : Option Nat) (x2 : Int32) (x3 : Int32) (x4 : Int32) (x5 : Int32) (ph : PH), K18 x0 x1 x2 x3 x4 x5 ph → RR C Z A G 25 18 [(0, va_rf x0), (1, va_rf x1), (2, .int x2), (3, .int x3), (4, .int x4), (5, .int x5)] [] ph (kb + 2718) (nb + 74745) := by
                  intro x0 x1 x2 x3 x4 x5 ph h
                  exact RR.wid (by omega) (by omega) (RR.sub [0, 1, 2, 3, 4, 5] rfl (hK18 _ _ _ _ _ _ _ h))
                exact RR.wid (by omega) (by omega) (RR.sub [4, 5, 6, 0, 7, 8, 3, 1, 2] rfl (b_L_law_1047 (LK := (kb + 2718)) (LN := (nb + 74745)) (by omega) (by omega) hC hAo hr hx hn hnw hnx hi k1047_18 (kb + 504) (nb + 13860) (by omega) (by omega) _ _ _ _ _ _ _ _ _ _ h))
              · have h := h.2 c9
                refine r_iconst (v := 1) hC dL_law_517 (by decide) ?_
                refine r_goto (tgt := 522) hC dL_law_518 (by decide) ?_
                refine r_iadd hC dL_law_522 ?_
                obtain ⟨v523, ev523⟩ : ∃ z : Int32, z = x3 + (1 : Int32) := ⟨_, rfl⟩
                have h := h v523 ev523
                refine RR.to (st' := [.int v523]) (by rw [ev523]) ?_
                refine r_istore_n (i := 3) (lv' := [(3, .int v523), (12, .long v504), (14, .int (0 : Int32)), (10, .long v243), (0, va_rf x0), (1, va_rf x1), (2, .int x2), (4, .int x4), (5, .int x5), (7, .int x7), (8, .int x8), (9, .int x9)]) hC dL_law_523 rfl (by decide) (by first | rfl | simp [lvs1, lvs2, List.filter, cat_rf, cat_i, cat_j]) ?_
                refine r_goto (tgt := 1047) hC dL_law_524 (by decide) ?_
                have k1047_18 : ∀ (x0 : Option Nat) (x1 : Option Nat) (x2 : Int32) (x3 : Int32) (x4 : Int32) (x5 : Int32) (ph : PH), K18 x0 x1 x2 x3 x4 x5 ph → RR C Z A G 25 18 [(0, va_rf x0), (1, va_rf x1), (2, .int x2), (3, .int x3), (4, .int x4), (5, .int x5)] [] ph (kb + 2718) (nb + 74745) := by
                  intro x0 x1 x2 x3 x4 x5 ph h
                  exact RR.wid (by omega) (by omega) (RR.sub [0, 1, 2, 3, 4, 5] rfl (hK18 _ _ _ _ _ _ _ h))
                exact RR.wid (by omega) (by omega) (RR.sub [4, 5, 6, 0, 7, 8, 3, 1, 2] rfl (b_L_law_1047 (LK := (kb + 2718)) (LN := (nb + 74745)) (by omega) (by omega) hC hAo hr hx hn hnw hnx hi k1047_18 (kb + 504) (nb + 13860) (by omega) (by omega) _ _ _ _ _ _ _ _ _ _ h))
          · have h := h.2 c9
            refine r_aload_n hC dL_law_450 rfl 4 rfl ?_
            refine r_iconst (v := 4) hC dL_law_451 (by decide) ?_
            refine r_iload hC dL_law_452 9 rfl ?_
            refine r_sipush (v := 257) hC dL_law_454 (by decide) ?_
            refine r_SI hC hAo [.int x7, .int (257 : Int32)] cal_L_low ml_L_204 rfl (c_L_low G _ _ _ _ _ h) ⟨by decide, by decide⟩ ⟨(by simp only [room_1]; omega), (by simp only [room_1]; omega)⟩ (by simp only [List.map_nil, List.map_cons, List.sum_nil, List.sum_cons, cat_rf, cat_i, cat_j]; decide) rfl dL_law_457 (fun E u hx9 => hx _ _ _ _ _ _ _ (by omega) (by omega) hx9) (fun v457 ph457 h => ?_)
            refine RR.wid (k' := (kb + 498)) (n' := (nb + 13695)) (by omega) (by omega) ?_
            refine r_iconst (v := 0) hC dL_law_460 (by decide) ?_
            refine r_iconst (v := 0) hC dL_law_461 (by decide) ?_
            refine r_SJ hC hAo [va_rf x1, .int (4 : Int32), .int v457, .int (0 : Int32), .int (0 : Int32)] cal_L_call_ ml_L_188 rfl (c_L_call_ G _ _ _ _ _ _ _ _ h) ⟨by decide, by decide⟩ ⟨(by simp only [room_1]; omega), (by simp only [room_1]; omega)⟩ (by simp only [List.map_nil, List.map_cons, List.sum_nil, List.sum_cons, cat_rf, cat_i, cat_j]; decide) rfl dL_law_462 (fun E u hx9 => hx _ _ _ _ _ _ _ (by omega) (by omega) hx9) (fun v462 ph462 h => ?_)
            refine RR.wid (k' := (kb + 504)) (n' := (nb + 13860)) (by omega) (by omega) ?_
            refine r_lstore (i := 12) (lv' := [(12, .long v462), (14, .int (0 : Int32)), (10, .long v243), (0, va_rf x0), (1, va_rf x1), (2, .int x2), (3, .int x3), (4, .int x4), (5, .int x5), (7, .int x7), (8, .int x8), (9, .int x9)]) hC dL_law_465 (by decide) (by first | rfl | simp [lvs1, lvs2, List.filter, cat_rf, cat_i, cat_j]) ?_
            refine r_lload hC dL_law_467 0 rfl ?_
            refine r_lconst (v := 0) hC dL_law_469 (by decide) ?_
            refine r_lcmp hC dL_law_470 ?_
            refine r_if_lt (tgt := 478) hC dL_law_471 (by decide) (fun c9 => ?_) (fun c9 => ?_)
            · have h := h.1 c9
              refine r_iconst (v := 0) hC dL_law_478 (by decide) ?_
              refine r_istore (i := 14) (lv' := [(14, .int (0 : Int32)), (12, .long v462), (10, .long v243), (0, va_rf x0), (1, va_rf x1), (2, .int x2), (3, .int x3), (4, .int x4), (5, .int x5), (7, .int x7), (8, .int x8), (9, .int x9)]) hC dL_law_479 (by decide) (by first | rfl | simp [lvs1, lvs2, List.filter, cat_rf, cat_i, cat_j]) ?_
              refine r_goto (tgt := 1047) hC dL_law_481 (by decide) ?_
              have k1047_18 : ∀ (x0 : Option Nat) (x1 : Option Nat) (x2 : Int32) (x3 : Int32) (x4 : Int32) (x5 : Int32) (ph : PH), K18 x0 x1 x2 x3 x4 x5 ph → RR C Z A G 25 18 [(0, va_rf x0), (1, va_rf x1), (2, .int x2), (3, .int x3), (4, .int x4), (5, .int x5)] [] ph (kb + 2718) (nb + 74745) := by
                intro x0 x1 x2 x3 x4 x5 ph h
                exact RR.wid (by omega) (by omega) (RR.sub [0, 1, 2, 3, 4, 5] rfl (hK18 _ _ _ _ _ _ _ h))
              exact RR.wid (by omega) (by omega) (RR.sub [3, 4, 5, 6, 7, 8, 2, 1, 0] rfl (b_L_law_1047 (LK := (kb + 2718)) (LN := (nb + 74745)) (by omega) (by omega) hC hAo hr hx hn hnw hnx hi k1047_18 (kb + 504) (nb + 13860) (by omega) (by omega) _ _ _ _ _ _ _ _ _ _ h))
            · have h := h.2 c9
              refine r_iconst (v := 1) hC dL_law_474 (by decide) ?_
              refine r_goto (tgt := 479) hC dL_law_475 (by decide) ?_
              refine r_istore (i := 14) (lv' := [(14, .int (1 : Int32)), (12, .long v462), (10, .long v243), (0, va_rf x0), (1, va_rf x1), (2, .int x2), (3, .int x3), (4, .int x4), (5, .int x5), (7, .int x7), (8, .int x8), (9, .int x9)]) hC dL_law_479 (by decide) (by first | rfl | simp [lvs1, lvs2, List.filter, cat_rf, cat_i, cat_j]) ?_
              refine r_goto (tgt := 1047) hC dL_law_481 (by decide) ?_
              have k1047_18 : ∀ (x0 : Option Nat) (x1 : Option Nat) (x2 : Int32) (x3 : Int32) (x4 : Int32) (x5 : Int32) (ph : PH), K18 x0 x1 x2 x3 x4 x5 ph → RR C Z A G 25 18 [(0, va_rf x0), (1, va_rf x1), (2, .int x2), (3, .int x3), (4, .int x4), (5, .int x5)] [] ph (kb + 2718) (nb + 74745) := by
                intro x0 x1 x2 x3 x4 x5 ph h
                exact RR.wid (by omega) (by omega) (RR.sub [0, 1, 2, 3, 4, 5] rfl (hK18 _ _ _ _ _ _ _ h))
              exact RR.wid (by omega) (by omega) (RR.sub [3, 4, 5, 6, 7, 8, 2, 1, 0] rfl (b_L_law_1047 (LK := (kb + 2718)) (LN := (nb + 74745)) (by omega) (by omega) hC hAo hr hx hn hnw hnx hi k1047_18 (kb + 504) (nb + 13860) (by omega) (by omega) _ _ _ _ _ _ _ _ _ _ h))
        · have h := h.2 c9
          refine r_aload_n hC dL_law_419 rfl 4 rfl ?_
          refine r_bipush (v := 19) hC dL_law_420 (by decide) ?_
          refine r_iload hC dL_law_422 9 rfl ?_
          refine r_bipush (v := 20) hC dL_law_424 (by decide) ?_
          refine r_ishr hC dL_law_426 ?_
          refine r_iload_n hC dL_law_427 rfl 6 rfl ?_
          refine r_iconst (v := 1) hC dL_law_428 (by decide) ?_
          refine r_iadd hC dL_law_429 ?_
          refine r_SI hC hAo [.int (x7 >>> ((20 : Int32) &&& 31)), .int (x3 + (1 : Int32))] cal_L_low ml_L_204 rfl (c_L_low G _ _ _ _ _ h) ⟨by decide, by decide⟩ ⟨(by simp only [room_1]; omega), (by simp only [room_1]; omega)⟩ (by simp only [List.map_nil, List.map_cons, List.sum_nil, List.sum_cons, cat_rf, cat_i, cat_j]; decide) rfl dL_law_430 (fun E u hx9 => hx _ _ _ _ _ _ _ (by omega) (by omega) hx9) (fun v430 ph430 h => ?_)
          refine RR.wid (k' := (kb + 498)) (n' := (nb + 13695)) (by omega) (by omega) ?_
          refine r_iconst (v := 0) hC dL_law_433 (by decide) ?_
          refine r_iconst (v := 0) hC dL_law_434 (by decide) ?_
          refine r_SJ hC hAo [va_rf x1, .int (19 : Int32), .int v430, .int (0 : Int32), .int (0 : Int32)] cal_L_call_ ml_L_188 rfl (c_L_call_ G _ _ _ _ _ _ _ _ h) ⟨by decide, by decide⟩ ⟨(by simp only [room_1]; omega), (by simp only [room_1]; omega)⟩ (by simp only [List.map_nil, List.map_cons, List.sum_nil, List.sum_cons, cat_rf, cat_i, cat_j]; decide) rfl dL_law_435 (fun E u hx9 => hx _ _ _ _ _ _ _ (by omega) (by omega) hx9) (fun v435 ph435 h => ?_)
          refine RR.wid (k' := (kb + 504)) (n' := (nb + 13860)) (by omega) (by omega) ?_
          refine r_lstore (i := 12) (lv' := [(12, .long v435), (14, .int (0 : Int32)), (10, .long v243), (0, va_rf x0), (1, va_rf x1), (2, .int x2), (3, .int x3), (4, .int x4), (5, .int x5), (7, .int x7), (8, .int x8), (9, .int x9)]) hC dL_law_438 (by decide) (by first | rfl | simp [lvs1, lvs2, List.filter, cat_rf, cat_i, cat_j]) ?_
          refine r_goto (tgt := 1047) hC dL_law_440 (by decide) ?_
          have k1047_18 : ∀ (x0 : Option Nat) (x1 : Option Nat) (x2 : Int32) (x3 : Int32) (x4 : Int32) (x5 : Int32) (ph : PH), K18 x0 x1 x2 x3 x4 x5 ph → RR C Z A G 25 18 [(0, va_rf x0), (1, va_rf x1), (2, .int x2), (3, .int x3), (4, .int x4), (5, .int x5)] [] ph (kb + 2718) (nb + 74745) := by
            intro x0 x1 x2 x3 x4 x5 ph h
            exact RR.wid (by omega) (by omega) (RR.sub [0, 1, 2, 3, 4, 5] rfl (hK18 _ _ _ _ _ _ _ h))
          exact RR.wid (by omega) (by omega) (RR.sub [3, 4, 5, 6, 7, 8, 2, 0, 1] rfl (b_L_law_1047 (LK := (kb + 2718)) (LN := (nb + 74745)) (by omega) (by omega) hC hAo hr hx hn hnw hnx hi k1047_18 (kb + 504) (nb + 13860) (by omega) (by omega) _ _ _ _ _ _ _ _ _ _ h))
      · have h := h.2 c9
        refine r_aload_n hC dL_law_375 rfl 4 rfl ?_
        refine r_iconst (v := 3) hC dL_law_376 (by decide) ?_
        refine r_iconst (v := 2) hC dL_law_377 (by decide) ?_
        refine r_iload hC dL_law_378 9 rfl ?_
        refine r_bipush (v := 20) hC dL_law_380 (by decide) ?_
        refine r_ishr hC dL_law_382 ?_
        refine r_iconst (v := 2) hC dL_law_383 (by decide) ?_
        refine r_SI hC hAo [.int (x7 >>> ((20 : Int32) &&& 31)), .int (2 : Int32)] cal_L_low ml_L_204 rfl (c_L_low G _ _ _ _ _ h) ⟨by decide, by decide⟩ ⟨(by simp only [room_1]; omega), (by simp only [room_1]; omega)⟩ (by simp only [List.map_nil, List.map_cons, List.sum_nil, List.sum_cons, cat_rf, cat_i, cat_j]; decide) rfl dL_law_384 (fun E u hx9 => hx _ _ _ _ _ _ _ (by omega) (by omega) hx9) (fun v384 ph384 h => ?_)
        refine RR.wid (k' := (kb + 498)) (n' := (nb + 13695)) (by omega) (by omega) ?_
        refine r_iadd hC dL_law_387 ?_
        refine r_iconst (v := 0) hC dL_law_388 (by decide) ?_
        refine r_iconst (v := 0) hC dL_law_389 (by decide) ?_
        refine r_SJ hC hAo [va_rf x1, .int (3 : Int32), .int ((2 : Int32) + v384), .int (0 : Int32), .int (0 : Int32)] cal_L_call_ ml_L_188 rfl (c_L_call_ G _ _ _ _ _ _ _ _ h) ⟨by decide, by decide⟩ ⟨(by simp only [room_1]; omega), (by simp only [room_1]; omega)⟩ (by simp only [List.map_nil, List.map_cons, List.sum_nil, List.sum_cons, cat_rf, cat_i, cat_j]; decide) rfl dL_law_390 (fun E u hx9 => hx _ _ _ _ _ _ _ (by omega) (by omega) hx9) (fun v390 ph390 h => ?_)
        refine RR.wid (k' := (kb + 504)) (n' := (nb + 13860)) (by omega) (by omega) ?_
        refine r_lstore (i := 12) (lv' := [(12, .long v390), (14, .int (0 : Int32)), (10, .long v243), (0, va_rf x0), (1, va_rf x1), (2, .int x2), (3, .int x3), (4, .int x4), (5, .int x5), (7, .int x7), (8, .int x8), (9, .int x9)]) hC dL_law_393 (by decide) (by first | rfl | simp [lvs1, lvs2, List.filter, cat_rf, cat_i, cat_j]) ?_
        refine r_lload hC dL_law_395 0 rfl ?_
        refine r_lconst (v := 0) hC dL_law_397 (by decide) ?_
        refine r_lcmp hC dL_law_398 ?_
        refine r_if_lt (tgt := 406) hC dL_law_399 (by decide) (fun c9 => ?_) (fun c9 => ?_)
        · have h := h.1 c9
          refine r_iconst (v := 0) hC dL_law_406 (by decide) ?_
          refine r_istore (i := 14) (lv' := [(14, .int (0 : Int32)), (12, .long v390), (10, .long v243), (0, va_rf x0), (1, va_rf x1), (2, .int x2), (3, .int x3), (4, .int x4), (5, .int x5), (7, .int x7), (8, .int x8), (9, .int x9)]) hC dL_law_407 (by decide) (by first | rfl | simp [lvs1, lvs2, List.filter, cat_rf, cat_i, cat_j]) ?_
          refine r_goto (tgt := 1047) hC dL_law_409 (by decide) ?_
          have k1047_18 : ∀ (x0 : Option Nat) (x1 : Option Nat) (x2 : Int32) (x3 : Int32) (x4 : Int32) (x5 : Int32) (ph : PH), K18 x0 x1 x2 x3 x4 x5 ph → RR C Z A G 25 18 [(0, va_rf x0), (1, va_rf x1), (2, .int x2), (3, .int x3), (4, .int x4), (5, .int x5)] [] ph (kb + 2718) (nb + 74745) := by
            intro x0 x1 x2 x3 x4 x5 ph h
            exact RR.wid (by omega) (by omega) (RR.sub [0, 1, 2, 3, 4, 5] rfl (hK18 _ _ _ _ _ _ _ h))
          exact RR.wid (by omega) (by omega) (RR.sub [3, 4, 5, 6, 7, 8, 2, 1, 0] rfl (b_L_law_1047 (LK := (kb + 2718)) (LN := (nb + 74745)) (by omega) (by omega) hC hAo hr hx hn hnw hnx hi k1047_18 (kb + 504) (nb + 13860) (by omega) (by omega) _ _ _ _ _ _ _ _ _ _ h))
        · have h := h.2 c9
          refine r_iconst (v := 1) hC dL_law_402 (by decide) ?_
          refine r_goto (tgt := 407) hC dL_law_403 (by decide) ?_
          refine r_istore (i := 14) (lv' := [(14, .int (1 : Int32)), (12, .long v390), (10, .long v243), (0, va_rf x0), (1, va_rf x1), (2, .int x2), (3, .int x3), (4, .int x4), (5, .int x5), (7, .int x7), (8, .int x8), (9, .int x9)]) hC dL_law_407 (by decide) (by first | rfl | simp [lvs1, lvs2, List.filter, cat_rf, cat_i, cat_j]) ?_
          refine r_goto (tgt := 1047) hC dL_law_409 (by decide) ?_
          have k1047_18 : ∀ (x0 : Option Nat) (x1 : Option Nat) (x2 : Int32) (x3 : Int32) (x4 : Int32) (x5 : Int32) (ph : PH), K18 x0 x1 x2 x3 x4 x5 ph → RR C Z A G 25 18 [(0, va_rf x0), (1, va_rf x1), (2, .int x2), (3, .int x3), (4, .int x4), (5, .int x5)] [] ph (kb + 2718) (nb + 74745) := by
            intro x0 x1 x2 x3 x4 x5 ph h
            exact RR.wid (by omega) (by omega) (RR.sub [0, 1, 2, 3, 4, 5] rfl (hK18 _ _ _ _ _ _ _ h))
          exact RR.wid (by omega) (by omega) (RR.sub [3, 4, 5, 6, 7, 8, 2, 1, 0] rfl (b_L_law_1047 (LK := (kb + 2718)) (LN := (nb + 74745)) (by omega) (by omega) hC hAo hr hx hn hnw hnx hi k1047_18 (kb + 504) (nb + 13860) (by omega) (by omega) _ _ _ _ _ _ _ _ _ _ h))
    · have h := h.2 c9
      refine r_aload_n hC dL_law_310 rfl 4 rfl ?_
      refine r_iconst (v := 2) hC dL_law_311 (by decide) ?_
      refine r_iload hC dL_law_312 10 rfl ?_
      refine r_iload hC dL_law_314 9 rfl ?_
      refine r_bipush (v := 6) hC dL_law_316 (by decide) ?_
      refine r_SI hC hAo [.int x7, .int (6 : Int32)] cal_L_low ml_L_204 rfl (c_L_low G _ _ _ _ _ h) ⟨by decide, by decide⟩ ⟨(by simp only [room_1]; omega), (by simp only [room_1]; omega)⟩ (by simp only [List.map_nil, List.map_cons, List.sum_nil, List.sum_cons, cat_rf, cat_i, cat_j]; decide) rfl dL_law_318 (fun E u hx9 => hx _ _ _ _ _ _ _ (by omega) (by omega) hx9) (fun v318 ph318 h => ?_)
      refine RR.wid (k' := (kb + 498)) (n' := (nb + 13695)) (by omega) (by omega) ?_
      refine r_bipush (v := 97) hC dL_law_321 (by decide) ?_
      refine r_iload hC dL_law_323 9 rfl ?_
      refine r_iconst (v := 4) hC dL_law_325 (by decide) ?_
      refine r_ishr hC dL_law_326 ?_
      refine r_iconst (v := 3) hC dL_law_327 (by decide) ?_
      refine r_SI hC hAo [.int (x7 >>> ((4 : Int32) &&& 31)), .int (3 : Int32)] cal_L_low ml_L_204 rfl (c_L_low G _ _ _ _ _ h) ⟨by decide, by decide⟩ ⟨(by simp only [room_1]; omega), (by simp only [room_1]; omega)⟩ (by simp only [List.map_nil, List.map_cons, List.sum_nil, List.sum_cons, cat_rf, cat_i, cat_j]; decide) rfl dL_law_328 (fun E u hx9 => hx _ _ _ _ _ _ _ (by omega) (by omega) hx9) (fun v328 ph328 h => ?_)
      refine RR.wid (k' := (kb + 498)) (n' := (nb + 13695)) (by omega) (by omega) ?_
      refine r_iadd hC dL_law_331 ?_
      refine r_iload hC dL_law_332 9 rfl ?_
      refine r_bipush (v := 7) hC dL_law_334 (by decide) ?_
      refine r_ishr hC dL_law_336 ?_
      refine r_bipush (v := 6) hC dL_law_337 (by decide) ?_
      refine r_SI hC hAo [.int (x7 >>> ((7 : Int32) &&& 31)), .int (6 : Int32)] cal_L_low ml_L_204 rfl (c_L_low G _ _ _ _ _ h) ⟨by decide, by decide⟩ ⟨(by simp only [room_1]; omega), (by simp only [room_1]; omega)⟩ (by simp only [List.map_nil, List.map_cons, List.sum_nil, List.sum_cons, cat_rf, cat_i, cat_j]; decide) rfl dL_law_339 (fun E u hx9 => hx _ _ _ _ _ _ _ (by omega) (by omega) hx9) (fun v339 ph339 h => ?_)
      refine RR.wid (k' := (kb + 498)) (n' := (nb + 13695)) (by omega) (by omega) ?_
      refine r_iload hC dL_law_342 9 rfl ?_
      refine r_bipush (v := 10) hC dL_law_344 (by decide) ?_
      refine r_ishr hC dL_law_346 ?_
      refine r_bipush (v := 6) hC dL_law_347 (by decide) ?_
      refine r_SI hC hAo [.int (x7 >>> ((10 : Int32) &&& 31)), .int (6 : Int32)] cal_L_low ml_L_204 rfl (c_L_low G _ _ _ _ _ h) ⟨by decide, by decide⟩ ⟨(by simp only [room_1]; omega), (by simp only [room_1]; omega)⟩ (by simp only [List.map_nil, List.map_cons, List.sum_nil, List.sum_cons, cat_rf, cat_i, cat_j]; decide) rfl dL_law_349 (fun E u hx9 => hx _ _ _ _ _ _ _ (by omega) (by omega) hx9) (fun v349 ph349 h => ?_)
      refine RR.wid (k' := (kb + 498)) (n' := (nb + 13695)) (by omega) (by omega) ?_
      refine r_if_le (tgt := 359) hC dL_law_352 (by decide) (fun c9 => ?_) (fun c9 => ?_)
      · have h := h.1 c9
        refine r_iconst (v := 0) hC dL_law_359 (by decide) ?_
        have k360_1047 : ∀ (x0 : Option Nat) (x1 : Option Nat) (x2 : Int32) (x3 : Int32) (x4 : Int32) (x5 : Int32) (x10 : Int64) (x12 : Int64) (x14 : Int32) (ph : PH), w_L_law_1047 G Q X (fun x0 x1 x2 x3 x4 x5 ph => K18 x0 x1 x2 x3 x4 x5 ph) x0 x1 x2 x3 x4 x5 x10 x12 x14 ph → RR C Z A G 25 1047 [(0, va_rf x0), (1, va_rf x1), (2, .int x2), (3, .int x3), (4, .int x4), (5, .int x5), (10, .long x10), (12, .long x12), (14, .int x14)] [] ph (kb + 504) (nb + 13860) := by
          intro x0 x1 x2 x3 x4 x5 x10 x12 x14 ph h
          have k1047_18 : ∀ (x0 : Option Nat) (x1 : Option Nat) (x2 : Int32) (x3 : Int32) (x4 : Int32) (x5 : Int32) (ph : PH), K18 x0 x1 x2 x3 x4 x5 ph → RR C Z A G 25 18 [(0, va_rf x0), (1, va_rf x1), (2, .int x2), (3, .int x3), (4, .int x4), (5, .int x5)] [] ph (kb + 2718) (nb + 74745) := by
            intro x0 x1 x2 x3 x4 x5 ph h
            exact RR.wid (by omega) (by omega) (RR.sub [0, 1, 2, 3, 4, 5] rfl (hK18 _ _ _ _ _ _ _ h))
          exact RR.wid (by omega) (by omega) (RR.sub [0, 1, 2, 3, 4, 5, 6, 7, 8] rfl (b_L_law_1047 (LK := (kb + 2718)) (LN := (nb + 74745)) (by omega) (by omega) hC hAo hr hx hn hnw hnx hi k1047_18 (kb + 504) (nb + 13860) (by omega) (by omega) _ _ _ _ _ _ _ _ _ _ h))
        exact RR.wid (by omega) (by omega) (RR.sub [3, 4, 5, 6, 7, 8, 2, 0] rfl (b_L_law_360 (LK := (kb + 504)) (LN := (nb + 13860)) (by omega) (by omega) hC hAo hr hx hn hnw hnx hi k360_1047 (kb + 498) (nb + 13695) (by omega) (by omega) _ _ _ _ _ _ _ _ _ _ _ _ _ _ _ _ h))
      · have h := h.2 c9
        refine r_iconst (v := 1) hC dL_law_355 (by decide) ?_
        refine r_goto (tgt := 360) hC dL_law_356 (by decide) ?_
        have k360_1047 : ∀ (x0 : Option Nat) (x1 : Option Nat) (x2 : Int32) (x3 : Int32) (x4 : Int32) (x5 : Int32) (x10 : Int64) (x12 : Int64) (x14 : Int32) (ph : PH), w_L_law_1047 G Q X (fun x0 x1 x2 x3 x4 x5 ph => K18 x0 x1 x2 x3 x4 x5 ph) x0 x1 x2 x3 x4 x5 x10 x12 x14 ph → RR C Z A G 25 1047 [(0, va_rf x0), (1, va_rf x1), (2, .int x2), (3, .int x3), (4, .int x4), (5, .int x5), (10, .long x10), (12, .long x12), (14, .int x14)] [] ph (kb + 504) (nb + 13860) := by
          intro x0 x1 x2 x3 x4 x5 x10 x12 x14 ph h
          have k1047_18 : ∀ (x0 : Option Nat) (x1 : Option Nat) (x2 : Int32) (x3 : Int32) (x4 : Int32) (x5 : Int32) (ph : PH), K18 x0 x1 x2 x3 x4 x5 ph → RR C Z A G 25 18 [(0, va_rf x0), (1, va_rf x1), (2, .int x2), (3, .int x3), (4, .int x4), (5, .int x5)] [] ph (kb + 2718) (nb + 74745) := by
            intro x0 x1 x2 x3 x4 x5 ph h
            exact RR.wid (by omega) (by omega) (RR.sub [0, 1, 2, 3, 4, 5] rfl (hK18 _ _ _ _ _ _ _ h))
          exact RR.wid (by omega) (by omega) (RR.sub [0, 1, 2, 3, 4, 5, 6, 7, 8] rfl (b_L_law_1047 (LK := (kb + 2718)) (LN := (nb + 74745)) (by omega) (by omega) hC hAo hr hx hn hnw hnx hi k1047_18 (kb + 504) (nb + 13860) (by omega) (by omega) _ _ _ _ _ _ _ _ _ _ h))
        exact RR.wid (by omega) (by omega) (RR.sub [3, 4, 5, 6, 7, 8, 2, 0] rfl (b_L_law_360 (LK := (kb + 504)) (LN := (nb + 13860)) (by omega) (by omega) hC hAo hr hx hn hnw hnx hi k360_1047 (kb + 498) (nb + 13695) (by omega) (by omega) _ _ _ _ _ _ _ _ _ _ _ _ _ _ _ _ h))
  · have h := h.2 c9
    refine r_aload_n hC dL_law_259 rfl 4 rfl ?_
    refine r_iconst (v := 1) hC dL_law_260 (by decide) ?_
    refine r_iconst (v := 1) hC dL_law_261 (by decide) ?_
    refine r_iload hC dL_law_262 9 rfl ?_
    refine r_bipush (v := 6) hC dL_law_264 (by decide) ?_
    refine r_SI hC hAo [.int x7, .int (6 : Int32)] cal_L_low ml_L_204 rfl (c_L_low G _ _ _ _ _ h) ⟨by decide, by decide⟩ ⟨(by simp only [room_1]; omega), (by simp only [room_1]; omega)⟩ (by simp only [List.map_nil, List.map_cons, List.sum_nil, List.sum_cons, cat_rf, cat_i, cat_j]; decide) rfl dL_law_266 (fun E u hx9 => hx _ _ _ _ _ _ _ (by omega) (by omega) hx9) (fun v266 ph266 h => ?_)
    refine RR.wid (k' := (kb + 498)) (n' := (nb + 13695)) (by omega) (by omega) ?_
    refine r_iadd hC dL_law_269 ?_
    refine r_iconst (v := 2) hC dL_law_270 (by decide) ?_
    refine r_iload hC dL_law_271 9 rfl ?_
    refine r_iconst (v := 4) hC dL_law_273 (by decide) ?_
    refine r_ishr hC dL_law_274 ?_
    refine r_iconst (v := 2) hC dL_law_275 (by decide) ?_
    refine r_SI hC hAo [.int (x7 >>> ((4 : Int32) &&& 31)), .int (2 : Int32)] cal_L_low ml_L_204 rfl (c_L_low G _ _ _ _ _ h) ⟨by decide, by decide⟩ ⟨(by simp only [room_1]; omega), (by simp only [room_1]; omega)⟩ (by simp only [List.map_nil, List.map_cons, List.sum_nil, List.sum_cons, cat_rf, cat_i, cat_j]; decide) rfl dL_law_276 (fun E u hx9 => hx _ _ _ _ _ _ _ (by omega) (by omega) hx9) (fun v276 ph276 h => ?_)
    refine RR.wid (k' := (kb + 498)) (n' := (nb + 13695)) (by omega) (by omega) ?_
    refine r_iadd hC dL_law_279 ?_
    refine r_iconst (v := 0) hC dL_law_280 (by decide) ?_
    refine r_SJ hC hAo [va_rf x1, .int (1 : Int32), .int ((1 : Int32) + v266), .int ((2 : Int32) + v276), .int (0 : Int32)] cal_L_call_ ml_L_188 rfl (c_L_call_ G _ _ _ _ _ _ _ _ h) ⟨by decide, by decide⟩ ⟨(by simp only [room_1]; omega), (by simp only [room_1]; omega)⟩ (by simp only [List.map_nil, List.map_cons, List.sum_nil, List.sum_cons, cat_rf, cat_i, cat_j]; decide) rfl dL_law_281 (fun E u hx9 => hx _ _ _ _ _ _ _ (by omega) (by omega) hx9) (fun v281 ph281 h => ?_)
    refine RR.wid (k' := (kb + 504)) (n' := (nb + 13860)) (by omega) (by omega) ?_
    refine r_lstore (i := 12) (lv' := [(12, .long v281), (14, .int (0 : Int32)), (10, .long v243), (0, va_rf x0), (1, va_rf x1), (2, .int x2), (3, .int x3), (4, .int x4), (5, .int x5), (7, .int x7), (8, .int x8), (9, .int x9)]) hC dL_law_284 (by decide) (by first | rfl | simp [lvs1, lvs2, List.filter, cat_rf, cat_i, cat_j]) ?_
    refine r_lload hC dL_law_286 0 rfl ?_
    refine r_lconst (v := 0) hC dL_law_288 (by decide) ?_
    refine r_lcmp hC dL_law_289 ?_
    refine r_if_lt (tgt := 297) hC dL_law_290 (by decide) (fun c9 => ?_) (fun c9 => ?_)
    · have h := h.1 c9
      refine r_iconst (v := 0) hC dL_law_297 (by decide) ?_
      refine r_istore (i := 14) (lv' := [(14, .int (0 : Int32)), (12, .long v281), (10, .long v243), (0, va_rf x0), (1, va_rf x1), (2, .int x2), (3, .int x3), (4, .int x4), (5, .int x5), (7, .int x7), (8, .int x8), (9, .int x9)]) hC dL_law_298 (by decide) (by first | rfl | simp [lvs1, lvs2, List.filter, cat_rf, cat_i, cat_j]) ?_
      refine r_goto (tgt := 1047) hC dL_law_300 (by decide) ?_
      have k1047_18 : ∀ (x0 : Option Nat) (x1 : Option Nat) (x2 : Int32) (x3 : Int32) (x4 : Int32) (x5 : Int32) (ph : PH), K18 x0 x1 x2 x3 x4 x5 ph → RR C Z A G 25 18 [(0, va_rf x0), (1, va_rf x1), (2, .int x2), (3, .int x3), (4, .int x4), (5, .int x5)] [] ph (kb + 2718) (nb + 74745) := by
        intro x0 x1 x2 x3 x4 x5 ph h
        exact RR.wid (by omega) (by omega) (RR.sub [0, 1, 2, 3, 4, 5] rfl (hK18 _ _ _ _ _ _ _ h))
      exact RR.wid (by omega) (by omega) (RR.sub [3, 4, 5, 6, 7, 8, 2, 1, 0] rfl (b_L_law_1047 (LK := (kb + 2718)) (LN := (nb + 74745)) (by omega) (by omega) hC hAo hr hx hn hnw hnx hi k1047_18 (kb + 504) (nb + 13860) (by omega) (by omega) _ _ _ _ _ _ _ _ _ _ h))
    · have h := h.2 c9
      refine r_iconst (v := 1) hC dL_law_293 (by decide) ?_
      refine r_goto (tgt := 298) hC dL_law_294 (by decide) ?_
      refine r_istore (i := 14) (lv' := [(14, .int (1 : Int32)), (12, .long v281), (10, .long v243), (0, va_rf x0), (1, va_rf x1), (2, .int x2), (3, .int x3), (4, .int x4), (5, .int x5), (7, .int x7), (8, .int x8), (9, .int x9)]) hC dL_law_298 (by decide) (by first | rfl | simp [lvs1, lvs2, List.filter, cat_rf, cat_i, cat_j]) ?_
      refine r_goto (tgt := 1047) hC dL_law_300 (by decide) ?_
      have k1047_18 : ∀ (x0 : Option Nat) (x1 : Option Nat) (x2 : Int32) (x3 : Int32) (x4 : Int32) (x5 : Int32) (ph : PH), K18 x0 x1 x2 x3 x4 x5 ph → RR C Z A G 25 18 [(0, va_rf x0), (1, va_rf x1), (2, .int x2), (3, .int x3), (4, .int x4), (5, .int x5)] [] ph (kb + 2718) (nb + 74745) := by
        intro x0 x1 x2 x3 x4 x5 ph h
        exact RR.wid (by omega) (by omega) (RR.sub [0, 1, 2, 3, 4, 5] rfl (hK18 _ _ _ _ _ _ _ h))
      exact RR.wid (by omega) (by omega) (RR.sub [3, 4, 5, 6, 7, 8, 2, 1, 0] rfl (b_L_law_1047 (LK := (kb + 2718)) (LN := (nb + 74745)) (by omega) (by omega) hC hAo hr hx hn hnw hnx hi k1047_18 (kb + 504) (nb + 13860) (by omega) (by omega) _ _ _ _ _ _ _ _ _ _ h))
set_option maxRecDepth 20000 in
theorem b_L_law_87 {C : Cx} {Z : State → Prop} {A : Nat → Prop} {G : GG} {Q : Int32 → PH → Prop} {X : String → PH → Prop} {K18 : Option Nat → Option Nat → Int32 → Int32 → Int32 → Int32 → PH → Prop}  {LK LN : Nat} (hLk : LK ≤ 98578) (hLn : LN ≤ 2701240) (hC : CxOk RL cL_law 25 G A room_1 C) (hAo : Ao (xs C)) (hr : HZ C Z A G 25 cL_law 98578 2701240 Q) (hx : HX C Z A G 25 98578 2701240 X) (hn : HN C Z A G 25 RL cL_law 98578 2701240 room_1 X) (hnw : HNW C Z A G 25 RL cL_law 98578 2701240 room_1 X) (hnx : HNX C Z A G 25 RL cL_law 98578 2701240 room_1 X) (hi : True) (hK18 : ∀ (x0 : Option Nat) (x1 : Option Nat) (x2 : Int32) (x3 : Int32) (x4 : Int32) (x5 : Int32) (ph : PH), K18 x0 x1 x2 x3 x4 x5 ph → RR C Z A G 25 18 [(0, va_rf x0), (1, va_rf x1), (2, .int x2), (3, .int x3), (4, .int x4), (5, .int x5)] [] ph LK LN) : ∀ (kb nb : Nat), kb + 2986 ≤ LK → nb + 81625 ≤ LN → ∀ (x0 : Option Nat) (x1 : Option Nat) (x2 : Int32) (x3 : Int32) (x4 : Int32) (x5 : Int32) (x7 : Int32) (x8 : Int32) (s0 : Int32) (ph : PH), w_L_law_87 G Q X K18 x0 x1 x2 x3 x4 x5 x7 x8 s0 ph → RR C Z A G 25 87 [(0, va_rf x0), (1, va_rf x1), (2, .int x2), (3, .int x3), (4, .int x4), (5, .int x5), (7, .int x7), (8, .int x8)] [.int s0] ph kb nb := by
  intro kb nb e1 e2 x0 x1 x2 x3 x4 x5 x7 x8 s0 ph h
  refine r_istore (i := 9) (lv' := [(9, .int s0), (0, va_rf x0), (1, va_rf x1), (2, .int x2), (3, .int x3), (4, .int x4), (5, .int x5), (7, .int x7), (8, .int x8)]) hC dL_law_87 (by decide) (by first | rfl | simp [lvs1, lvs2, List.filter, cat_rf, cat_i, cat_j]) ?_
  refine r_iload hC dL_law_89 0 rfl ?_
  refine r_bipush (v := 8) hC dL_law_91 (by decide) ?_
  refine r_icmp_eq (tgt := 110) hC dL_law_93 (by decide) (fun c9 => ?_) (fun c9 => ?_)
  · have h := h.1 c9
    have k110_239 : ∀ (x0 : Option Nat) (x1 : Option Nat) (x2 : Int32) (x3 : Int32) (x4 : Int32) (x5 : Int32) (x7 : Int32) (x8 : Int32) (x9 : Int32) (ph : PH), w_L_law_239 G Q X (fun x0 x1 x2 x3 x4 x5 ph => K18 x0 x1 x2 x3 x4 x5 ph) x0 x1 x2 x3 x4 x5 x7 x8 x9 ph → RR C Z A G 25 239 [(0, va_rf x0), (1, va_rf x1), (2, .int x2), (3, .int x3), (4, .int x4), (5, .int x5), (7, .int x7), (8, .int x8), (9, .int x9)] [] ph (kb + 76) (nb + 1600) := by
      intro x0 x1 x2 x3 x4 x5 x7 x8 x9 ph h
      have k239_18 : ∀ (x0 : Option Nat) (x1 : Option Nat) (x2 : Int32) (x3 : Int32) (x4 : Int32) (x5 : Int32) (ph : PH), K18 x0 x1 x2 x3 x4 x5 ph → RR C Z A G 25 18 [(0, va_rf x0), (1, va_rf x1), (2, .int x2), (3, .int x3), (4, .int x4), (5, .int x5)] [] ph (kb + 2986) (nb + 81625) := by
        intro x0 x1 x2 x3 x4 x5 ph h
        exact RR.wid (by omega) (by omega) (RR.sub [0, 1, 2, 3, 4, 5] rfl (hK18 _ _ _ _ _ _ _ h))
      exact RR.wid (by omega) (by omega) (RR.sub [0, 1, 2, 3, 4, 5, 6, 7, 8] rfl (b_L_law_239 (LK := (kb + 2986)) (LN := (nb + 81625)) (by omega) (by omega) hC hAo hr hx hn hnw hnx hi k239_18 (kb + 76) (nb + 1600) (by omega) (by omega) _ _ _ _ _ _ _ _ _ _ h))
    exact RR.wid (by omega) (by omega) (RR.sub [1, 2, 3, 4, 5, 6, 7, 8, 0] rfl (b_L_law_110 (LK := (kb + 76)) (LN := (nb + 1600)) (by omega) (by omega) hC hAo hr hx hn hnw hnx hi k110_239 (kb + 0) (nb + 0) (by omega) (by omega) _ _ _ _ _ _ _ _ _ _ h))
  · have h := h.2 c9
    refine r_iload hC dL_law_96 0 rfl ?_
    refine r_bipush (v := 9) hC dL_law_98 (by decide) ?_
    refine r_icmp_eq (tgt := 110) hC dL_law_100 (by decide) (fun c9 => ?_) (fun c9 => ?_)
    · have h := h.1 c9
      have k110_239 : ∀ (x0 : Option Nat) (x1 : Option Nat) (x2 : Int32) (x3 : Int32) (x4 : Int32) (x5 : Int32) (x7 : Int32) (x8 : Int32) (x9 : Int32) (ph : PH), w_L_law_239 G Q X (fun x0 x1 x2 x3 x4 x5 ph => K18 x0 x1 x2 x3 x4 x5 ph) x0 x1 x2 x3 x4 x5 x7 x8 x9 ph → RR C Z A G 25 239 [(0, va_rf x0), (1, va_rf x1), (2, .int x2), (3, .int x3), (4, .int x4), (5, .int x5), (7, .int x7), (8, .int x8), (9, .int x9)] [] ph (kb + 76) (nb + 1600) := by
        intro x0 x1 x2 x3 x4 x5 x7 x8 x9 ph h
        have k239_18 : ∀ (x0 : Option Nat) (x1 : Option Nat) (x2 : Int32) (x3 : Int32) (x4 : Int32) (x5 : Int32) (ph : PH), K18 x0 x1 x2 x3 x4 x5 ph → RR C Z A G 25 18 [(0, va_rf x0), (1, va_rf x1), (2, .int x2), (3, .int x3), (4, .int x4), (5, .int x5)] [] ph (kb + 2986) (nb + 81625) := by
          intro x0 x1 x2 x3 x4 x5 ph h
          exact RR.wid (by omega) (by omega) (RR.sub [0, 1, 2, 3, 4, 5] rfl (hK18 _ _ _ _ _ _ _ h))
        exact RR.wid (by omega) (by omega) (RR.sub [0, 1, 2, 3, 4, 5, 6, 7, 8] rfl (b_L_law_239 (LK := (kb + 2986)) (LN := (nb + 81625)) (by omega) (by omega) hC hAo hr hx hn hnw hnx hi k239_18 (kb + 76) (nb + 1600) (by omega) (by omega) _ _ _ _ _ _ _ _ _ _ h))
      exact RR.wid (by omega) (by omega) (RR.sub [1, 2, 3, 4, 5, 6, 7, 8, 0] rfl (b_L_law_110 (LK := (kb + 76)) (LN := (nb + 1600)) (by omega) (by omega) hC hAo hr hx hn hnw hnx hi k110_239 (kb + 0) (nb + 0) (by omega) (by omega) _ _ _ _ _ _ _ _ _ _ h))
    · have h := h.2 c9
      refine r_iload hC dL_law_103 0 rfl ?_
      refine r_bipush (v := 12) hC dL_law_105 (by decide) ?_
      refine r_icmp_ne (tgt := 239) hC dL_law_107 (by decide) (fun c9 => ?_) (fun c9 => ?_)
      · have h := h.1 c9
        have k239_18 : ∀ (x0 : Option Nat) (x1 : Option Nat) (x2 : Int32) (x3 : Int32) (x4 : Int32) (x5 : Int32) (ph : PH), K18 x0 x1 x2 x3 x4 x5 ph → RR C Z A G 25 18 [(0, va_rf x0), (1, va_rf x1), (2, .int x2), (3, .int x3), (4, .int x4), (5, .int x5)] [] ph (kb + 2910) (nb + 80025) := by
          intro x0 x1 x2 x3 x4 x5 ph h
          exact RR.wid (by omega) (by omega) (RR.sub [0, 1, 2, 3, 4, 5] rfl (hK18 _ _ _ _ _ _ _ h))
        exact RR.wid (by omega) (by omega) (RR.sub [1, 2, 3, 4, 5, 6, 7, 8, 0] rfl (b_L_law_239 (LK := (kb + 2910)) (LN := (nb + 80025)) (by omega) (by omega) hC hAo hr hx hn hnw hnx hi k239_18 (kb + 0) (nb + 0) (by omega) (by omega) _ _ _ _ _ _ _ _ _ _ h))
      · have h := h.2 c9
        have k110_239 : ∀ (x0 : Option Nat) (x1 : Option Nat) (x2 : Int32) (x3 : Int32) (x4 : Int32) (x5 : Int32) (x7 : Int32) (x8 : Int32) (x9 : Int32) (ph : PH), w_L_law_239 G Q X (fun x0 x1 x2 x3 x4 x5 ph => K18 x0 x1 x2 x3 x4 x5 ph) x0 x1 x2 x3 x4 x5 x7 x8 x9 ph → RR C Z A G 25 239 [(0, va_rf x0), (1, va_rf x1), (2, .int x2), (3, .int x3), (4, .int x4), (5, .int x5), (7, .int x7), (8, .int x8), (9, .int x9)] [] ph (kb + 76) (nb + 1600) := by
          intro x0 x1 x2 x3 x4 x5 x7 x8 x9 ph h
          have k239_18 : ∀ (x0 : Option Nat) (x1 : Option Nat) (x2 : Int32) (x3 : Int32) (x4 : Int32) (x5 : Int32) (ph : PH), K18 x0 x1 x2 x3 x4 x5 ph → RR C Z A G 25 18 [(0, va_rf x0), (1, va_rf x1), (2, .int x2), (3, .int x3), (4, .int x4), (5, .int x5)] [] ph (kb + 2986) (nb + 81625) := by
            intro x0 x1 x2 x3 x4 x5 ph h
            exact RR.wid (by omega) (by omega) (RR.sub [0, 1, 2, 3, 4, 5] rfl (hK18 _ _ _ _ _ _ _ h))
          exact RR.wid (by omega) (by omega) (RR.sub [0, 1, 2, 3, 4, 5, 6, 7, 8] rfl (b_L_law_239 (LK := (kb + 2986)) (LN := (nb + 81625)) (by omega) (by omega) hC hAo hr hx hn hnw hnx hi k239_18 (kb + 76) (nb + 1600) (by omega) (by omega) _ _ _ _ _ _ _ _ _ _ h))
        exact RR.wid (by omega) (by omega) (RR.sub [1, 2, 3, 4, 5, 6, 7, 8, 0] rfl (b_L_law_110 (LK := (kb + 76)) (LN := (nb + 1600)) (by omega) (by omega) hC hAo hr hx hn hnw hnx hi k110_239 (kb + 0) (nb + 0) (by omega) (by omega) _ _ _ _ _ _ _ _ _ _ h))
set_option maxRecDepth 20000 in
theorem b_L_law_18 {C : Cx} {Z : State → Prop} {A : Nat → Prop} {G : GG} {Q : Int32 → PH → Prop} {X : String → PH → Prop}  {LK LN : Nat} (hLk : LK ≤ 98578) (hLn : LN ≤ 2701240) (hC : CxOk RL cL_law 25 G A room_1 C) (hAo : Ao (xs C)) (hr : HZ C Z A G 25 cL_law 98578 2701240 Q) (hx : HX C Z A G 25 98578 2701240 X) (hn : HN C Z A G 25 RL cL_law 98578 2701240 room_1 X) (hnw : HNW C Z A G 25 RL cL_law 98578 2701240 room_1 X) (hnx : HNX C Z A G 25 RL cL_law 98578 2701240 room_1 X) (hi : True) : ∀ (fu kb nb : Nat), kb + fu * 2986 + 2986 ≤ LK → nb + fu * 81625 + 81625 ≤ LN → ∀ (x0 : Option Nat) (x1 : Option Nat) (x2 : Int32) (x3 : Int32) (x4 : Int32) (x5 : Int32) (ph : PH), w_L_law_18 G Q X fu x0 x1 x2 x3 x4 x5 ph → RR C Z A G 25 18 [(0, va_rf x0), (1, va_rf x1), (2, .int x2), (3, .int x3), (4, .int x4), (5, .int x5)] [] ph kb nb := by
  intro fu
  induction fu with
  | zero => intro kb nb e1 e2 x0 x1 x2 x3 x4 x5 ph h; exact h.elim
  | succ fu ih =>
    intro kb nb e1 e2 x0 x1 x2 x3 x4 x5 ph h
    refine r_iload hC dL_law_18 5 rfl ?_
    refine r_bipush (v := 30) hC dL_law_20 (by decide) ?_
    refine r_icmp_ge (tgt := 1430) hC dL_law_22 (by decide) (fun c9 => ?_) (fun c9 => ?_)
    · have h := h.1 c9
      refine r_aload_n hC dL_law_1430 rfl 1 rfl ?_
      refine r_iconst (v := 5) hC dL_law_1431 (by decide) ?_
      refine r_iload_n hC dL_law_1432 rfl 2 rfl ?_
      refine r_iconst (v := 0) hC dL_law_1433 (by decide) ?_
      refine r_iconst (v := 0) hC dL_law_1434 (by decide) ?_
      refine r_SJ hC hAo [va_rf x1, .int (5 : Int32), .int x2, .int (0 : Int32), .int (0 : Int32)] cal_L_call_ ml_L_188 rfl (c_L_call_ G _ _ _ _ _ _ _ _ h) ⟨by decide, by decide⟩ ⟨(by simp only [room_1]; omega), (by simp only [room_1]; omega)⟩ (by simp only [List.map_nil, List.map_cons, List.sum_nil, List.sum_cons, cat_rf, cat_i, cat_j]; decide) rfl dL_law_1435 (fun E u hx9 => hx _ _ _ _ _ _ _ (by omega) (by omega) hx9) (fun v1435 ph1435 h => ?_)
      refine RR.wid (k' := (kb + 6)) (n' := (nb + 165)) (by omega) (by omega) ?_
      refine r_ldc2 (v := -1001000) hC tb_1298 dL_law_1438 ?_
      refine r_lcmp hC dL_law_1441 ?_
      refine r_if_ne (tgt := 1466) hC dL_law_1442 (by decide) (fun c9 => ?_) (fun c9 => ?_)
      · have h := h.1 c9
        refine r_iconst (v := 0) hC dL_law_1466 (by decide) ?_
        exact hr _ _ _ _ _ _ dL_law_1467 (by omega) (by omega) h
      · have h := h.2 c9
        refine r_aload_n hC dL_law_1445 rfl 1 rfl ?_
        refine r_bipush (v := 25) hC dL_law_1446 (by decide) ?_
        refine r_iload hC dL_law_1448 4 rfl ?_
        refine r_iconst (v := 0) hC dL_law_1450 (by decide) ?_
        refine r_iconst (v := 0) hC dL_law_1451 (by decide) ?_
        refine r_SJ hC hAo [va_rf x1, .int (25 : Int32), .int x4, .int (0 : Int32), .int (0 : Int32)] cal_L_call_ ml_L_188 rfl (c_L_call_ G _ _ _ _ _ _ _ _ h) ⟨by decide, by decide⟩ ⟨(by simp only [room_1]; omega), (by simp only [room_1]; omega)⟩ (by simp only [List.map_nil, List.map_cons, List.sum_nil, List.sum_cons, cat_rf, cat_i, cat_j]; decide) rfl dL_law_1452 (fun E u hx9 => hx _ _ _ _ _ _ _ (by omega) (by omega) hx9) (fun v1452 ph1452 h => ?_)
        refine RR.wid (k' := (kb + 12)) (n' := (nb + 330)) (by omega) (by omega) ?_
        refine r_ldc2 (v := -1001000) hC tb_1298 dL_law_1455 ?_
        refine r_lcmp hC dL_law_1458 ?_
        refine r_if_ne (tgt := 1466) hC dL_law_1459 (by decide) (fun c9 => ?_) (fun c9 => ?_)
        · have h := h.1 c9
          refine r_iconst (v := 0) hC dL_law_1466 (by decide) ?_
          exact hr _ _ _ _ _ _ dL_law_1467 (by omega) (by omega) h
        · have h := h.2 c9
          refine r_iconst (v := 1) hC dL_law_1462 (by decide) ?_
          refine r_goto (tgt := 1467) hC dL_law_1463 (by decide) ?_
          exact hr _ _ _ _ _ _ dL_law_1467 (by omega) (by omega) h
    · have h := h.2 c9
      refine r_aload_n hC dL_law_25 rfl 0 rfl ?_
      refine r_iconst (v := 2) hC dL_law_26 (by decide) ?_
      refine r_iload hC dL_law_27 5 rfl ?_
      refine r_imul hC dL_law_29 ?_
      refine r_SI hC hAo [va_rf x0, .int ((2 : Int32) * x5)] cal_L_cell ml_L_200 rfl (c_L_cell G _ _ _ _ _ h) ⟨by decide, by decide⟩ ⟨(by simp only [room_1]; omega), (by simp only [room_1]; omega)⟩ (by simp only [List.map_nil, List.map_cons, List.sum_nil, List.sum_cons, cat_rf, cat_i, cat_j]; decide) rfl dL_law_30 (fun E u hx9 => hx _ _ _ _ _ _ _ (by omega) (by omega) hx9) (fun v30 ph30 h => ?_)
      refine RR.wid (k' := (kb + 0)) (n' := (nb + 0)) (by omega) (by omega) ?_
      refine r_istore (i := 6) (lv' := [(6, .int v30), (0, va_rf x0), (1, va_rf x1), (2, .int x2), (3, .int x3), (4, .int x4), (5, .int x5)]) hC dL_law_33 (by decide) (by first | rfl | simp [lvs1, lvs2, List.filter, cat_rf, cat_i, cat_j]) ?_
      refine r_aload_n hC dL_law_35 rfl 1 rfl ?_
      refine r_iconst (v := 2) hC dL_law_36 (by decide) ?_
      refine r_iload hC dL_law_37 6 rfl ?_
      refine r_imul hC dL_law_39 ?_
      refine r_iconst (v := 1) hC dL_law_40 (by decide) ?_
      refine r_iadd hC dL_law_41 ?_
      refine r_SI hC hAo [va_rf x0, .int (((2 : Int32) * x5) + (1 : Int32))] cal_L_cell ml_L_200 rfl (c_L_cell G _ _ _ _ _ h) ⟨by decide, by decide⟩ ⟨(by simp only [room_1]; omega), (by simp only [room_1]; omega)⟩ (by simp only [List.map_nil, List.map_cons, List.sum_nil, List.sum_cons, cat_rf, cat_i, cat_j]; decide) rfl dL_law_42 (fun E u hx9 => hx _ _ _ _ _ _ _ (by omega) (by omega) hx9) (fun v42 ph42 h => ?_)
      refine RR.wid (k' := (kb + 0)) (n' := (nb + 0)) (by omega) (by omega) ?_
      refine r_istore (i := 7) (lv' := [(7, .int v42), (6, .int v30), (0, va_rf x0), (1, va_rf x1), (2, .int x2), (3, .int x3), (4, .int x4), (5, .int x5)]) hC dL_law_45 (by decide) (by first | rfl | simp [lvs1, lvs2, List.filter, cat_rf, cat_i, cat_j]) ?_
      refine r_iload hC dL_law_47 1 rfl ?_
      refine r_bipush (v := 6) hC dL_law_49 (by decide) ?_
      refine r_ishr hC dL_law_51 ?_
      refine r_iload_n hC dL_law_52 rfl 4 rfl ?_
      refine r_iconst (v := 1) hC dL_law_53 (by decide) ?_
      refine r_iadd hC dL_law_54 ?_
      refine r_SI hC hAo [.int (v30 >>> ((6 : Int32) &&& 31)), .int (x2 + (1 : Int32))] cal_L_low ml_L_204 rfl (c_L_low G _ _ _ _ _ h) ⟨by decide, by decide⟩ ⟨(by simp only [room_1]; omega), (by simp only [room_1]; omega)⟩ (by simp only [List.map_nil, List.map_cons, List.sum_nil, List.sum_cons, cat_rf, cat_i, cat_j]; decide) rfl dL_law_55 (fun E u hx9 => hx _ _ _ _ _ _ _ (by omega) (by omega) hx9) (fun v55 ph55 h => ?_)
      refine RR.wid (k' := (kb + 0)) (n' := (nb + 0)) (by omega) (by omega) ?_
      refine r_istore (i := 8) (lv' := [(8, .int v55), (7, .int v42), (6, .int v30), (0, va_rf x0), (1, va_rf x1), (2, .int x2), (3, .int x3), (4, .int x4), (5, .int x5)]) hC dL_law_58 (by decide) (by first | rfl | simp [lvs1, lvs2, List.filter, cat_rf, cat_i, cat_j]) ?_
      refine r_iload hC dL_law_60 8 rfl ?_
      refine r_if_ne (tgt := 69) hC dL_law_62 (by decide) (fun c9 => ?_) (fun c9 => ?_)
      · have h := h.1 c9
        refine r_iload hC dL_law_69 8 rfl ?_
        refine r_bipush (v := 6) hC dL_law_71 (by decide) ?_
        refine r_icmp_ge (tgt := 80) hC dL_law_73 (by decide) (fun c9 => ?_) (fun c9 => ?_)
        · have h := h.1 c9
          refine r_iload hC dL_law_80 2 rfl ?_
          refine r_bipush (v := 20) hC dL_law_82 (by decide) ?_
          refine r_SI hC hAo [.int v30, .int (20 : Int32)] cal_L_low ml_L_204 rfl (c_L_low G _ _ _ _ _ h) ⟨by decide, by decide⟩ ⟨(by simp only [room_1]; omega), (by simp only [room_1]; omega)⟩ (by simp only [List.map_nil, List.map_cons, List.sum_nil, List.sum_cons, cat_rf, cat_i, cat_j]; decide) rfl dL_law_84 (fun E u hx9 => hx _ _ _ _ _ _ _ (by omega) (by omega) hx9) (fun v84 ph84 h => ?_)
          refine RR.wid (k' := (kb + 0)) (n' := (nb + 0)) (by omega) (by omega) ?_
          have k87_18 : ∀ (x0 : Option Nat) (x1 : Option Nat) (x2 : Int32) (x3 : Int32) (x4 : Int32) (x5 : Int32) (ph : PH), w_L_law_18 G Q X fu x0 x1 x2 x3 x4 x5 ph → RR C Z A G 25 18 [(0, va_rf x0), (1, va_rf x1), (2, .int x2), (3, .int x3), (4, .int x4), (5, .int x5)] [] ph (kb + 2986) (nb + 81625) := by
            intro x0 x1 x2 x3 x4 x5 ph h
            exact RR.wid (by omega) (by omega) (RR.sub [0, 1, 2, 3, 4, 5] rfl (ih (kb + 2986) (nb + 81625) (by omega) (by omega) _ _ _ _ _ _ _ h))
          exact RR.wid (by omega) (by omega) (RR.sub [3, 4, 5, 6, 7, 8, 1, 0] rfl (b_L_law_87 (LK := (kb + 2986)) (LN := (nb + 81625)) (by omega) (by omega) hC hAo hr hx hn hnw hnx hi k87_18 (kb + 0) (nb + 0) (by omega) (by omega) _ _ _ _ _ _ _ _ _ _ h))
        · have h := h.2 c9
          refine r_iconst (v := 1) hC dL_law_76 (by decide) ?_
          refine r_goto (tgt := 87) hC dL_law_77 (by decide) ?_
          have k87_18 : ∀ (x0 : Option Nat) (x1 : Option Nat) (x2 : Int32) (x3 : Int32) (x4 : Int32) (x5 : Int32) (ph : PH), w_L_law_18 G Q X fu x0 x1 x2 x3 x4 x5 ph → RR C Z A G 25 18 [(0, va_rf x0), (1, va_rf x1), (2, .int x2), (3, .int x3), (4, .int x4), (5, .int x5)] [] ph (kb + 2986) (nb + 81625) := by
            intro x0 x1 x2 x3 x4 x5 ph h
            exact RR.wid (by omega) (by omega) (RR.sub [0, 1, 2, 3, 4, 5] rfl (ih (kb + 2986) (nb + 81625) (by omega) (by omega) _ _ _ _ _ _ _ h))
          exact RR.wid (by omega) (by omega) (RR.sub [3, 4, 5, 6, 7, 8, 1, 0] rfl (b_L_law_87 (LK := (kb + 2986)) (LN := (nb + 81625)) (by omega) (by omega) hC hAo hr hx hn hnw hnx hi k87_18 (kb + 0) (nb + 0) (by omega) (by omega) _ _ _ _ _ _ _ _ _ _ h))
      · have h := h.2 c9
        refine r_iconst (v := 0) hC dL_law_65 (by decide) ?_
        refine r_goto (tgt := 87) hC dL_law_66 (by decide) ?_
        have k87_18 : ∀ (x0 : Option Nat) (x1 : Option Nat) (x2 : Int32) (x3 : Int32) (x4 : Int32) (x5 : Int32) (ph : PH), w_L_law_18 G Q X fu x0 x1 x2 x3 x4 x5 ph → RR C Z A G 25 18 [(0, va_rf x0), (1, va_rf x1), (2, .int x2), (3, .int x3), (4, .int x4), (5, .int x5)] [] ph (kb + 2986) (nb + 81625) := by
          intro x0 x1 x2 x3 x4 x5 ph h
          exact RR.wid (by omega) (by omega) (RR.sub [0, 1, 2, 3, 4, 5] rfl (ih (kb + 2986) (nb + 81625) (by omega) (by omega) _ _ _ _ _ _ _ h))
        exact RR.wid (by omega) (by omega) (RR.sub [3, 4, 5, 6, 7, 8, 1, 0] rfl (b_L_law_87 (LK := (kb + 2986)) (LN := (nb + 81625)) (by omega) (by omega) hC hAo hr hx hn hnw hnx hi k87_18 (kb + 0) (nb + 0) (by omega) (by omega) _ _ _ _ _ _ _ _ _ _ h))
set_option maxRecDepth 20000 in
theorem t_L_law {C : Cx} {Z : State → Prop} {A : Nat → Prop} {G : GG} {Q : Int32 → PH → Prop} {X : String → PH → Prop} (hC : CxOk RL cL_law 25 G A room_1 C) (hAo : Ao (xs C)) (hr : HZ C Z A G 25 cL_law 98578 2701240 Q) (hx : HX C Z A G 25 98578 2701240 X) (hn : HN C Z A G 25 RL cL_law 98578 2701240 room_1 X) (hnw : HNW C Z A G 25 RL cL_law 98578 2701240 room_1 X) (hnx : HNX C Z A G 25 RL cL_law 98578 2701240 room_1 X) (hi : True) (x0 : Option Nat) (ph : PH) (h : w_L_law G x0 ph Q X) : RR C Z A G 25 0 [(0, va_rf x0)] [] ph 0 0 := by
  refine r_new hC (ci := 12) (N := 12) (Cn := RX11) (T := TX11) (ty := tyX11) (fs := [.null, .null, .int 0, .null, .int 0, .null, .int 0, .null, .null, .null, .null, .null]) 112 (by decide) rfl tin_X11 tyX11_ok tb_135 tb_136 tb_101 rfl (fun j hj => by rcases (show j = 0 ∨ j = 1 ∨ j = 2 ∨ j = 3 ∨ j = 4 ∨ j = 5 ∨ j = 6 ∨ j = 7 ∨ j = 8 ∨ j = 9 ∨ j = 10 ∨ j = 11 by omega) with rfl | rfl | rfl | rfl | rfl | rfl | rfl | rfl | rfl | rfl | rfl | rfl <;> rfl) (by simp only [room_1]; omega) (by simp only [room_1]; omega) dL_law_0 (fun a0 f0 => ?_)
  have h := h a0 _ f0 rfl
  refine r_dup hC dL_law_3 (by first | rfl | exact cat_rf _) ?_
  obtain ⟨a4, o4, h⟩ := h
  refine r_IV hC hAo [] cal_X11_init ml_L_199 rfl o4 (c_X11_init G _ _ _ _ h) ⟨by decide, by decide⟩ ⟨(by simp only [room_1]; omega), (by simp only [room_1]; omega)⟩ (by simp only [List.map_nil, List.map_cons, List.sum_nil, List.sum_cons, cat_rf, cat_i, cat_j]; decide) rfl dL_law_4 (fun E u hx9 => hx _ _ _ _ _ _ _ (by omega) (by omega) hx9) (fun ph4 h => ?_)
  refine RR.wid (k' := 40) (n' := 7615) (by omega) (by omega) ?_
  refine r_astore_n (i := 1) (lv' := [(1, va_rf (some a0)), (0, va_rf x0)]) hC dL_law_7 rfl (by decide) (by first | rfl | simp [lvs1, lvs2, List.filter, cat_rf, cat_i, cat_j]) ?_
  refine r_iconst (v := 0) hC dL_law_8 (by decide) ?_
  refine r_istore_n (i := 2) (lv' := [(2, .int (0 : Int32)), (1, va_rf (some a0)), (0, va_rf x0)]) hC dL_law_9 rfl (by decide) (by first | rfl | simp [lvs1, lvs2, List.filter, cat_rf, cat_i, cat_j]) ?_
  refine r_iconst (v := 0) hC dL_law_10 (by decide) ?_
  refine r_istore_n (i := 3) (lv' := [(3, .int (0 : Int32)), (2, .int (0 : Int32)), (1, va_rf (some a0)), (0, va_rf x0)]) hC dL_law_11 rfl (by decide) (by first | rfl | simp [lvs1, lvs2, List.filter, cat_rf, cat_i, cat_j]) ?_
  refine r_iconst (v := 0) hC dL_law_12 (by decide) ?_
  refine r_istore (i := 4) (lv' := [(4, .int (0 : Int32)), (3, .int (0 : Int32)), (2, .int (0 : Int32)), (1, va_rf (some a0)), (0, va_rf x0)]) hC dL_law_13 (by decide) (by first | rfl | simp [lvs1, lvs2, List.filter, cat_rf, cat_i, cat_j]) ?_
  refine r_iconst (v := 0) hC dL_law_15 (by decide) ?_
  refine r_istore (i := 5) (lv' := [(5, .int (0 : Int32)), (4, .int (0 : Int32)), (3, .int (0 : Int32)), (2, .int (0 : Int32)), (1, va_rf (some a0)), (0, va_rf x0)]) hC dL_law_16 (by decide) (by first | rfl | simp [lvs1, lvs2, List.filter, cat_rf, cat_i, cat_j]) ?_
  obtain ⟨fu18, hfu18, h⟩ := h
  exact RR.wid (by omega) (by omega) (RR.sub [5, 4, 3, 2, 1, 0] rfl (b_L_law_18 (LK := 98578) (LN := 2701240) (by omega) (by omega) hC hAo hr hx hn hnw hnx hi  fu18 40 7615 (by omega) (by omega) _ _ _ _ _ _ _ h))
