set_option maxRecDepth 20000 in
theorem b_X11_isSound_173 {C : Cx} {Z : State → Prop} {A : Nat → Prop} {G : GG} {Q : Int32 → PH → Prop} {X : String → PH → Prop} (hC : CxOk RX11 cX11_isSound 4 G A (rmk 3 62 0 0) C) (hAo : Ao (xs C)) (hr : HZ C Z A G 4 cX11_isSound 0 0 Q) (hx : HX C Z A G 4 0 0 X) (hn : HN C Z A G 4 RX11 cX11_isSound 0 0 (rmk 3 62 0 0) X) (hnw : HNW C Z A G 4 RX11 cX11_isSound 0 0 (rmk 3 62 0 0) X) (hnx : HNX C Z A G 4 RX11 cX11_isSound 0 0 (rmk 3 62 0 0) X) (hi : True) : ∀ (fu : Nat) (x0 : Option Nat) (x1 : Int32) (x2 : Int32) (ph : PH), w_X11_isSound_173 Q X fu x0 x1 x2 ph → RR C Z A G 4 173 [(0, va_rf x0), (1, .int x1), (2, .int x2)] [] ph 0 0 := by
  intro fu
  induction fu with
  | zero => intro x0 x1 x2 ph h; exact h.elim
  | succ fu ih =>
    intro x0 x1 x2 ph h
    refine r_iload_n hC dX11_isSound_173 rfl 2 rfl ?_
    refine r_aload_n hC dX11_isSound_174 rfl 0 rfl ?_
    obtain ⟨v175, g175, h⟩ := h
    refine r_get hC (ci := 12) (kf := 5) (N := 12) (Cn := RX11) (T := TX11) rfl (by decide) tin_X11 fl_X11_30 rfl dX11_isSound_175 g175 ?_
    obtain ⟨v178, g178, h⟩ := h
    refine r_alen hC dX11_isSound_178 g178 ?_
    refine r_icmp_ge (tgt := 235) hC dX11_isSound_179 (by decide) (fun c9 => ?_) (fun c9 => ?_)
    · have h := h.1 c9
      refine r_iload_n hC dX11_isSound_235 rfl 1 rfl ?_
      exact hr _ _ _ _ _ _ dX11_isSound_236 (by decide) (by decide) h
    · have h := h.2 c9
      refine r_aload_n hC dX11_isSound_182 rfl 0 rfl ?_
      obtain ⟨v183, g183, h⟩ := h
      refine r_get hC (ci := 12) (kf := 5) (N := 12) (Cn := RX11) (T := TX11) rfl (by decide) tin_X11 fl_X11_30 rfl dX11_isSound_183 g183 ?_
      refine r_iload_n hC dX11_isSound_186 rfl 2 rfl ?_
      obtain ⟨v187, g187, h⟩ := h
      refine r_aald hC dX11_isSound_187 g187 ?_
      refine r_astore_n (i := 3) (lv' := [(3, va_rf v187), (0, va_rf x0), (1, .int x1), (2, .int x2)]) hC dX11_isSound_188 rfl (by decide) (by first | rfl | simp [lvs1, lvs2, List.filter, cat_rf, cat_i, cat_j]) ?_
      refine r_iload_n hC dX11_isSound_189 rfl 2 rfl ?_
      refine r_if_eq (tgt := 227) hC dX11_isSound_190 (by decide) (fun c9 => ?_) (fun c9 => ?_)
      · have h := h.1 c9
        refine r_iconst (v := 0) hC dX11_isSound_227 (by decide) ?_
        refine r_istore_n (i := 1) (lv' := [(1, .int (0 : Int32)), (3, va_rf v187), (0, va_rf x0), (2, .int x2)]) hC dX11_isSound_228 rfl (by decide) (by first | rfl | simp [lvs1, lvs2, List.filter, cat_rf, cat_i, cat_j]) ?_
        refine r_iinc (w := 3) (v := x2 + 1) (lv' := [(2, .int (x2 + 1)), (1, .int (0 : Int32)), (3, va_rf v187), (0, va_rf x0)]) hC dX11_isSound_229 rfl rfl (by decide) (by first | rfl | simp [lvs1, List.filter, cat_rf, cat_i, cat_j]) ?_
        refine r_goto (tgt := 173) hC dX11_isSound_232 (by decide) ?_
        exact RR.wid (by decide) (by decide) (RR.sub [3, 1, 0] rfl (ih _ _ _ _ h))
      · have h := h.2 c9
        refine r_aload_n hC dX11_isSound_193 rfl 0 rfl ?_
        refine r_ifnonnull (tgt := 208) hC dX11_isSound_194 (by decide) (fun c9 => ?_) (fun c9 => ?_)
        · have h := h.1 c9
          refine r_iload_n hC dX11_isSound_208 rfl 3 rfl ?_
          refine r_aload_n hC dX11_isSound_209 rfl 1 rfl ?_
          obtain ⟨v210, g210, h⟩ := h
          refine r_get hC (ci := 12) (kf := 6) (N := 12) (Cn := RX11) (T := TX11) rfl (by decide) tin_X11 fl_X11_279 rfl dX11_isSound_210 g210 ?_
          refine r_icmp_ge (tgt := 227) hC dX11_isSound_213 (by decide) (fun c9 => ?_) (fun c9 => ?_)
          · have h := h.1 c9
            refine r_iconst (v := 0) hC dX11_isSound_227 (by decide) ?_
            refine r_istore_n (i := 1) (lv' := [(1, .int (0 : Int32)), (3, va_rf v187), (0, va_rf x0), (2, .int x2)]) hC dX11_isSound_228 rfl (by decide) (by first | rfl | simp [lvs1, lvs2, List.filter, cat_rf, cat_i, cat_j]) ?_
            refine r_iinc (w := 3) (v := x2 + 1) (lv' := [(2, .int (x2 + 1)), (1, .int (0 : Int32)), (3, va_rf v187), (0, va_rf x0)]) hC dX11_isSound_229 rfl rfl (by decide) (by first | rfl | simp [lvs1, List.filter, cat_rf, cat_i, cat_j]) ?_
            refine r_goto (tgt := 173) hC dX11_isSound_232 (by decide) ?_
            exact RR.wid (by decide) (by decide) (RR.sub [3, 1, 0] rfl (ih _ _ _ _ h))
          · have h := h.2 c9
            refine r_aload_n hC dX11_isSound_216 rfl 0 rfl ?_
            obtain ⟨a217, o217, h⟩ := h
            refine r_VI hC hAo [] cal_X8_isInBounds ml_X11_423 (ci := 9) rfl rfl rfl (c_X8_isInBounds G _ _ _ _ h) o217 ⟨by decide, by decide⟩ ⟨by decide, by decide⟩ (by simp only [List.map_nil, List.map_cons, List.sum_nil, List.sum_cons, cat_rf, cat_i, cat_j]; decide) rfl dX11_isSound_217 (fun E u hx9 => hx _ _ _ _ _ _ _ (by decide) (by decide) hx9) (fun v217 ph217 h => ?_)
            refine RR.wid (k' := 0) (n' := 0) (by decide) (by decide) ?_
            refine r_if_eq (tgt := 227) hC dX11_isSound_220 (by decide) (fun c9 => ?_) (fun c9 => ?_)
            · have h := h.1 c9
              refine r_iconst (v := 0) hC dX11_isSound_227 (by decide) ?_
              refine r_istore_n (i := 1) (lv' := [(1, .int (0 : Int32)), (3, va_rf v187), (0, va_rf x0), (2, .int x2)]) hC dX11_isSound_228 rfl (by decide) (by first | rfl | simp [lvs1, lvs2, List.filter, cat_rf, cat_i, cat_j]) ?_
              refine r_iinc (w := 3) (v := x2 + 1) (lv' := [(2, .int (x2 + 1)), (1, .int (0 : Int32)), (3, va_rf v187), (0, va_rf x0)]) hC dX11_isSound_229 rfl rfl (by decide) (by first | rfl | simp [lvs1, List.filter, cat_rf, cat_i, cat_j]) ?_
              refine r_goto (tgt := 173) hC dX11_isSound_232 (by decide) ?_
              exact RR.wid (by decide) (by decide) (RR.sub [3, 1, 0] rfl (ih _ _ _ _ h))
            · have h := h.2 c9
              refine r_iconst (v := 1) hC dX11_isSound_223 (by decide) ?_
              refine r_goto (tgt := 228) hC dX11_isSound_224 (by decide) ?_
              refine r_istore_n (i := 1) (lv' := [(1, .int (1 : Int32)), (3, va_rf v187), (0, va_rf x0), (2, .int x2)]) hC dX11_isSound_228 rfl (by decide) (by first | rfl | simp [lvs1, lvs2, List.filter, cat_rf, cat_i, cat_j]) ?_
              refine r_iinc (w := 3) (v := x2 + 1) (lv' := [(2, .int (x2 + 1)), (1, .int (1 : Int32)), (3, va_rf v187), (0, va_rf x0)]) hC dX11_isSound_229 rfl rfl (by decide) (by first | rfl | simp [lvs1, List.filter, cat_rf, cat_i, cat_j]) ?_
              refine r_goto (tgt := 173) hC dX11_isSound_232 (by decide) ?_
              exact RR.wid (by decide) (by decide) (RR.sub [3, 1, 0] rfl (ih _ _ _ _ h))
        · have h := h.2 c9
          refine r_iload_n hC dX11_isSound_197 rfl 3 rfl ?_
          refine r_aload_n hC dX11_isSound_198 rfl 1 rfl ?_
          obtain ⟨v199, g199, h⟩ := h
          refine r_get hC (ci := 12) (kf := 6) (N := 12) (Cn := RX11) (T := TX11) rfl (by decide) tin_X11 fl_X11_279 rfl dX11_isSound_199 g199 ?_
          refine r_icmp_lt (tgt := 227) hC dX11_isSound_202 (by decide) (fun c9 => ?_) (fun c9 => ?_)
          · have h := h.1 c9
            refine r_iconst (v := 0) hC dX11_isSound_227 (by decide) ?_
            refine r_istore_n (i := 1) (lv' := [(1, .int (0 : Int32)), (3, va_rf v187), (0, va_rf x0), (2, .int x2)]) hC dX11_isSound_228 rfl (by decide) (by first | rfl | simp [lvs1, lvs2, List.filter, cat_rf, cat_i, cat_j]) ?_
            refine r_iinc (w := 3) (v := x2 + 1) (lv' := [(2, .int (x2 + 1)), (1, .int (0 : Int32)), (3, va_rf v187), (0, va_rf x0)]) hC dX11_isSound_229 rfl rfl (by decide) (by first | rfl | simp [lvs1, List.filter, cat_rf, cat_i, cat_j]) ?_
            refine r_goto (tgt := 173) hC dX11_isSound_232 (by decide) ?_
            exact RR.wid (by decide) (by decide) (RR.sub [3, 1, 0] rfl (ih _ _ _ _ h))
          · have h := h.2 c9
            refine r_goto (tgt := 223) hC dX11_isSound_205 (by decide) ?_
            refine r_iconst (v := 1) hC dX11_isSound_223 (by decide) ?_
            refine r_goto (tgt := 228) hC dX11_isSound_224 (by decide) ?_
            refine r_istore_n (i := 1) (lv' := [(1, .int (1 : Int32)), (3, va_rf v187), (0, va_rf x0), (2, .int x2)]) hC dX11_isSound_228 rfl (by decide) (by first | rfl | simp [lvs1, lvs2, List.filter, cat_rf, cat_i, cat_j]) ?_
            refine r_iinc (w := 3) (v := x2 + 1) (lv' := [(2, .int (x2 + 1)), (1, .int (1 : Int32)), (3, va_rf v187), (0, va_rf x0)]) hC dX11_isSound_229 rfl rfl (by decide) (by first | rfl | simp [lvs1, List.filter, cat_rf, cat_i, cat_j]) ?_
            refine r_goto (tgt := 173) hC dX11_isSound_232 (by decide) ?_
            exact RR.wid (by decide) (by decide) (RR.sub [3, 1, 0] rfl (ih _ _ _ _ h))
set_option maxRecDepth 20000 in
theorem b_X11_isSound_109 {C : Cx} {Z : State → Prop} {A : Nat → Prop} {G : GG} {Q : Int32 → PH → Prop} {X : String → PH → Prop} (hC : CxOk RX11 cX11_isSound 4 G A (rmk 3 62 0 0) C) (hAo : Ao (xs C)) (hr : HZ C Z A G 4 cX11_isSound 0 0 Q) (hx : HX C Z A G 4 0 0 X) (hn : HN C Z A G 4 RX11 cX11_isSound 0 0 (rmk 3 62 0 0) X) (hnw : HNW C Z A G 4 RX11 cX11_isSound 0 0 (rmk 3 62 0 0) X) (hnx : HNX C Z A G 4 RX11 cX11_isSound 0 0 (rmk 3 62 0 0) X) (hi : True) : ∀ (fu : Nat) (x0 : Option Nat) (x1 : Int32) (x2 : Int32) (ph : PH), w_X11_isSound_109 Q X fu x0 x1 x2 ph → RR C Z A G 4 109 [(0, va_rf x0), (1, .int x1), (2, .int x2)] [] ph 0 0 := by
  intro fu
  induction fu with
  | zero => intro x0 x1 x2 ph h; exact h.elim
  | succ fu ih =>
    intro x0 x1 x2 ph h
    refine r_iload_n hC dX11_isSound_109 rfl 2 rfl ?_
    refine r_aload_n hC dX11_isSound_110 rfl 0 rfl ?_
    obtain ⟨v111, g111, h⟩ := h
    refine r_get hC (ci := 12) (kf := 3) (N := 12) (Cn := RX11) (T := TX11) rfl (by decide) tin_X11 fl_X11_24 rfl dX11_isSound_111 g111 ?_
    obtain ⟨v114, g114, h⟩ := h
    refine r_alen hC dX11_isSound_114 g114 ?_
    refine r_icmp_ge (tgt := 171) hC dX11_isSound_115 (by decide) (fun c9 => ?_) (fun c9 => ?_)
    · have h := h.1 c9
      refine r_iconst (v := 0) hC dX11_isSound_171 (by decide) ?_
      refine r_istore_n (i := 2) (lv' := [(2, .int (0 : Int32)), (0, va_rf x0), (1, .int x1)]) hC dX11_isSound_172 rfl (by decide) (by first | rfl | simp [lvs1, lvs2, List.filter, cat_rf, cat_i, cat_j]) ?_
      obtain ⟨fu173, h⟩ := h
      exact RR.wid (by decide) (by decide) (RR.sub [1, 2, 0] rfl (b_X11_isSound_173 hC hAo hr hx hn hnw hnx hi  fu173 _ _ _ _ h))
    · have h := h.2 c9
      refine r_aload_n hC dX11_isSound_118 rfl 0 rfl ?_
      obtain ⟨v119, g119, h⟩ := h
      refine r_get hC (ci := 12) (kf := 3) (N := 12) (Cn := RX11) (T := TX11) rfl (by decide) tin_X11 fl_X11_24 rfl dX11_isSound_119 g119 ?_
      refine r_iload_n hC dX11_isSound_122 rfl 2 rfl ?_
      obtain ⟨v123, g123, h⟩ := h
      refine r_aald hC dX11_isSound_123 g123 ?_
      refine r_astore_n (i := 3) (lv' := [(3, va_rf v123), (0, va_rf x0), (1, .int x1), (2, .int x2)]) hC dX11_isSound_124 rfl (by decide) (by first | rfl | simp [lvs1, lvs2, List.filter, cat_rf, cat_i, cat_j]) ?_
      refine r_iload_n hC dX11_isSound_125 rfl 2 rfl ?_
      refine r_if_eq (tgt := 163) hC dX11_isSound_126 (by decide) (fun c9 => ?_) (fun c9 => ?_)
      · have h := h.1 c9
        refine r_iconst (v := 0) hC dX11_isSound_163 (by decide) ?_
        refine r_istore_n (i := 1) (lv' := [(1, .int (0 : Int32)), (3, va_rf v123), (0, va_rf x0), (2, .int x2)]) hC dX11_isSound_164 rfl (by decide) (by first | rfl | simp [lvs1, lvs2, List.filter, cat_rf, cat_i, cat_j]) ?_
        refine r_iinc (w := 3) (v := x2 + 1) (lv' := [(2, .int (x2 + 1)), (1, .int (0 : Int32)), (3, va_rf v123), (0, va_rf x0)]) hC dX11_isSound_165 rfl rfl (by decide) (by first | rfl | simp [lvs1, List.filter, cat_rf, cat_i, cat_j]) ?_
        refine r_goto (tgt := 109) hC dX11_isSound_168 (by decide) ?_
        exact RR.wid (by decide) (by decide) (RR.sub [3, 1, 0] rfl (ih _ _ _ _ h))
      · have h := h.2 c9
        refine r_aload_n hC dX11_isSound_129 rfl 0 rfl ?_
        refine r_ifnonnull (tgt := 144) hC dX11_isSound_130 (by decide) (fun c9 => ?_) (fun c9 => ?_)
        · have h := h.1 c9
          refine r_iload_n hC dX11_isSound_144 rfl 3 rfl ?_
          refine r_aload_n hC dX11_isSound_145 rfl 1 rfl ?_
          obtain ⟨v146, g146, h⟩ := h
          refine r_get hC (ci := 12) (kf := 4) (N := 12) (Cn := RX11) (T := TX11) rfl (by decide) tin_X11 fl_X11_231 rfl dX11_isSound_146 g146 ?_
          refine r_icmp_ge (tgt := 163) hC dX11_isSound_149 (by decide) (fun c9 => ?_) (fun c9 => ?_)
          · have h := h.1 c9
            refine r_iconst (v := 0) hC dX11_isSound_163 (by decide) ?_
            refine r_istore_n (i := 1) (lv' := [(1, .int (0 : Int32)), (3, va_rf v123), (0, va_rf x0), (2, .int x2)]) hC dX11_isSound_164 rfl (by decide) (by first | rfl | simp [lvs1, lvs2, List.filter, cat_rf, cat_i, cat_j]) ?_
            refine r_iinc (w := 3) (v := x2 + 1) (lv' := [(2, .int (x2 + 1)), (1, .int (0 : Int32)), (3, va_rf v123), (0, va_rf x0)]) hC dX11_isSound_165 rfl rfl (by decide) (by first | rfl | simp [lvs1, List.filter, cat_rf, cat_i, cat_j]) ?_
            refine r_goto (tgt := 109) hC dX11_isSound_168 (by decide) ?_
            exact RR.wid (by decide) (by decide) (RR.sub [3, 1, 0] rfl (ih _ _ _ _ h))
          · have h := h.2 c9
            refine r_aload_n hC dX11_isSound_152 rfl 0 rfl ?_
            obtain ⟨a153, o153, h⟩ := h
            refine r_VI hC hAo [] cal_X1_isInBounds ml_X11_422 (ci := 4) rfl rfl rfl (c_X1_isInBounds G _ _ _ _ h) o153 ⟨by decide, by decide⟩ ⟨by decide, by decide⟩ (by simp only [List.map_nil, List.map_cons, List.sum_nil, List.sum_cons, cat_rf, cat_i, cat_j]; decide) rfl dX11_isSound_153 (fun E u hx9 => hx _ _ _ _ _ _ _ (by decide) (by decide) hx9) (fun v153 ph153 h => ?_)
            refine RR.wid (k' := 0) (n' := 0) (by decide) (by decide) ?_
            refine r_if_eq (tgt := 163) hC dX11_isSound_156 (by decide) (fun c9 => ?_) (fun c9 => ?_)
            · have h := h.1 c9
              refine r_iconst (v := 0) hC dX11_isSound_163 (by decide) ?_
              refine r_istore_n (i := 1) (lv' := [(1, .int (0 : Int32)), (3, va_rf v123), (0, va_rf x0), (2, .int x2)]) hC dX11_isSound_164 rfl (by decide) (by first | rfl | simp [lvs1, lvs2, List.filter, cat_rf, cat_i, cat_j]) ?_
              refine r_iinc (w := 3) (v := x2 + 1) (lv' := [(2, .int (x2 + 1)), (1, .int (0 : Int32)), (3, va_rf v123), (0, va_rf x0)]) hC dX11_isSound_165 rfl rfl (by decide) (by first | rfl | simp [lvs1, List.filter, cat_rf, cat_i, cat_j]) ?_
              refine r_goto (tgt := 109) hC dX11_isSound_168 (by decide) ?_
              exact RR.wid (by decide) (by decide) (RR.sub [3, 1, 0] rfl (ih _ _ _ _ h))
            · have h := h.2 c9
              refine r_iconst (v := 1) hC dX11_isSound_159 (by decide) ?_
              refine r_goto (tgt := 164) hC dX11_isSound_160 (by decide) ?_
              refine r_istore_n (i := 1) (lv' := [(1, .int (1 : Int32)), (3, va_rf v123), (0, va_rf x0), (2, .int x2)]) hC dX11_isSound_164 rfl (by decide) (by first | rfl | simp [lvs1, lvs2, List.filter, cat_rf, cat_i, cat_j]) ?_
              refine r_iinc (w := 3) (v := x2 + 1) (lv' := [(2, .int (x2 + 1)), (1, .int (1 : Int32)), (3, va_rf v123), (0, va_rf x0)]) hC dX11_isSound_165 rfl rfl (by decide) (by first | rfl | simp [lvs1, List.filter, cat_rf, cat_i, cat_j]) ?_
              refine r_goto (tgt := 109) hC dX11_isSound_168 (by decide) ?_
              exact RR.wid (by decide) (by decide) (RR.sub [3, 1, 0] rfl (ih _ _ _ _ h))
        · have h := h.2 c9
          refine r_iload_n hC dX11_isSound_133 rfl 3 rfl ?_
          refine r_aload_n hC dX11_isSound_134 rfl 1 rfl ?_
          obtain ⟨v135, g135, h⟩ := h
          refine r_get hC (ci := 12) (kf := 4) (N := 12) (Cn := RX11) (T := TX11) rfl (by decide) tin_X11 fl_X11_231 rfl dX11_isSound_135 g135 ?_
          refine r_icmp_lt (tgt := 163) hC dX11_isSound_138 (by decide) (fun c9 => ?_) (fun c9 => ?_)
          · have h := h.1 c9
            refine r_iconst (v := 0) hC dX11_isSound_163 (by decide) ?_
            refine r_istore_n (i := 1) (lv' := [(1, .int (0 : Int32)), (3, va_rf v123), (0, va_rf x0), (2, .int x2)]) hC dX11_isSound_164 rfl (by decide) (by first | rfl | simp [lvs1, lvs2, List.filter, cat_rf, cat_i, cat_j]) ?_
            refine r_iinc (w := 3) (v := x2 + 1) (lv' := [(2, .int (x2 + 1)), (1, .int (0 : Int32)), (3, va_rf v123), (0, va_rf x0)]) hC dX11_isSound_165 rfl rfl (by decide) (by first | rfl | simp [lvs1, List.filter, cat_rf, cat_i, cat_j]) ?_
            refine r_goto (tgt := 109) hC dX11_isSound_168 (by decide) ?_
            exact RR.wid (by decide) (by decide) (RR.sub [3, 1, 0] rfl (ih _ _ _ _ h))
          · have h := h.2 c9
            refine r_goto (tgt := 159) hC dX11_isSound_141 (by decide) ?_
            refine r_iconst (v := 1) hC dX11_isSound_159 (by decide) ?_
            refine r_goto (tgt := 164) hC dX11_isSound_160 (by decide) ?_
            refine r_istore_n (i := 1) (lv' := [(1, .int (1 : Int32)), (3, va_rf v123), (0, va_rf x0), (2, .int x2)]) hC dX11_isSound_164 rfl (by decide) (by first | rfl | simp [lvs1, lvs2, List.filter, cat_rf, cat_i, cat_j]) ?_
            refine r_iinc (w := 3) (v := x2 + 1) (lv' := [(2, .int (x2 + 1)), (1, .int (1 : Int32)), (3, va_rf v123), (0, va_rf x0)]) hC dX11_isSound_165 rfl rfl (by decide) (by first | rfl | simp [lvs1, List.filter, cat_rf, cat_i, cat_j]) ?_
            refine r_goto (tgt := 109) hC dX11_isSound_168 (by decide) ?_
            exact RR.wid (by decide) (by decide) (RR.sub [3, 1, 0] rfl (ih _ _ _ _ h))
set_option maxRecDepth 20000 in
theorem b_X11_isSound_45 {C : Cx} {Z : State → Prop} {A : Nat → Prop} {G : GG} {Q : Int32 → PH → Prop} {X : String → PH → Prop} (hC : CxOk RX11 cX11_isSound 4 G A (rmk 3 62 0 0) C) (hAo : Ao (xs C)) (hr : HZ C Z A G 4 cX11_isSound 0 0 Q) (hx : HX C Z A G 4 0 0 X) (hn : HN C Z A G 4 RX11 cX11_isSound 0 0 (rmk 3 62 0 0) X) (hnw : HNW C Z A G 4 RX11 cX11_isSound 0 0 (rmk 3 62 0 0) X) (hnx : HNX C Z A G 4 RX11 cX11_isSound 0 0 (rmk 3 62 0 0) X) (hi : True) : ∀ (fu : Nat) (x0 : Option Nat) (x1 : Int32) (x2 : Int32) (ph : PH), w_X11_isSound_45 Q X fu x0 x1 x2 ph → RR C Z A G 4 45 [(0, va_rf x0), (1, .int x1), (2, .int x2)] [] ph 0 0 := by
  intro fu
  induction fu with
  | zero => intro x0 x1 x2 ph h; exact h.elim
  | succ fu ih =>
    intro x0 x1 x2 ph h
    refine r_iload_n hC dX11_isSound_45 rfl 2 rfl ?_
    refine r_aload_n hC dX11_isSound_46 rfl 0 rfl ?_
    obtain ⟨v47, g47, h⟩ := h
    refine r_get hC (ci := 12) (kf := 1) (N := 12) (Cn := RX11) (T := TX11) rfl (by decide) tin_X11 fl_X11_18 rfl dX11_isSound_47 g47 ?_
    obtain ⟨v50, g50, h⟩ := h
    refine r_alen hC dX11_isSound_50 g50 ?_
    refine r_icmp_ge (tgt := 107) hC dX11_isSound_51 (by decide) (fun c9 => ?_) (fun c9 => ?_)
    · have h := h.1 c9
      refine r_iconst (v := 0) hC dX11_isSound_107 (by decide) ?_
      refine r_istore_n (i := 2) (lv' := [(2, .int (0 : Int32)), (0, va_rf x0), (1, .int x1)]) hC dX11_isSound_108 rfl (by decide) (by first | rfl | simp [lvs1, lvs2, List.filter, cat_rf, cat_i, cat_j]) ?_
      obtain ⟨fu109, h⟩ := h
      exact RR.wid (by decide) (by decide) (RR.sub [1, 2, 0] rfl (b_X11_isSound_109 hC hAo hr hx hn hnw hnx hi  fu109 _ _ _ _ h))
    · have h := h.2 c9
      refine r_aload_n hC dX11_isSound_54 rfl 0 rfl ?_
      obtain ⟨v55, g55, h⟩ := h
      refine r_get hC (ci := 12) (kf := 1) (N := 12) (Cn := RX11) (T := TX11) rfl (by decide) tin_X11 fl_X11_18 rfl dX11_isSound_55 g55 ?_
      refine r_iload_n hC dX11_isSound_58 rfl 2 rfl ?_
      obtain ⟨v59, g59, h⟩ := h
      refine r_aald hC dX11_isSound_59 g59 ?_
      refine r_astore_n (i := 3) (lv' := [(3, va_rf v59), (0, va_rf x0), (1, .int x1), (2, .int x2)]) hC dX11_isSound_60 rfl (by decide) (by first | rfl | simp [lvs1, lvs2, List.filter, cat_rf, cat_i, cat_j]) ?_
      refine r_iload_n hC dX11_isSound_61 rfl 2 rfl ?_
      refine r_if_eq (tgt := 99) hC dX11_isSound_62 (by decide) (fun c9 => ?_) (fun c9 => ?_)
      · have h := h.1 c9
        refine r_iconst (v := 0) hC dX11_isSound_99 (by decide) ?_
        refine r_istore_n (i := 1) (lv' := [(1, .int (0 : Int32)), (3, va_rf v59), (0, va_rf x0), (2, .int x2)]) hC dX11_isSound_100 rfl (by decide) (by first | rfl | simp [lvs1, lvs2, List.filter, cat_rf, cat_i, cat_j]) ?_
        refine r_iinc (w := 3) (v := x2 + 1) (lv' := [(2, .int (x2 + 1)), (1, .int (0 : Int32)), (3, va_rf v59), (0, va_rf x0)]) hC dX11_isSound_101 rfl rfl (by decide) (by first | rfl | simp [lvs1, List.filter, cat_rf, cat_i, cat_j]) ?_
        refine r_goto (tgt := 45) hC dX11_isSound_104 (by decide) ?_
        exact RR.wid (by decide) (by decide) (RR.sub [3, 1, 0] rfl (ih _ _ _ _ h))
      · have h := h.2 c9
        refine r_aload_n hC dX11_isSound_65 rfl 0 rfl ?_
        refine r_ifnonnull (tgt := 80) hC dX11_isSound_66 (by decide) (fun c9 => ?_) (fun c9 => ?_)
        · have h := h.1 c9
          refine r_iload_n hC dX11_isSound_80 rfl 3 rfl ?_
          refine r_aload_n hC dX11_isSound_81 rfl 1 rfl ?_
          obtain ⟨v82, g82, h⟩ := h
          refine r_get hC (ci := 12) (kf := 2) (N := 12) (Cn := RX11) (T := TX11) rfl (by decide) tin_X11 fl_X11_397 rfl dX11_isSound_82 g82 ?_
          refine r_icmp_ge (tgt := 99) hC dX11_isSound_85 (by decide) (fun c9 => ?_) (fun c9 => ?_)
          · have h := h.1 c9
            refine r_iconst (v := 0) hC dX11_isSound_99 (by decide) ?_
            refine r_istore_n (i := 1) (lv' := [(1, .int (0 : Int32)), (3, va_rf v59), (0, va_rf x0), (2, .int x2)]) hC dX11_isSound_100 rfl (by decide) (by first | rfl | simp [lvs1, lvs2, List.filter, cat_rf, cat_i, cat_j]) ?_
            refine r_iinc (w := 3) (v := x2 + 1) (lv' := [(2, .int (x2 + 1)), (1, .int (0 : Int32)), (3, va_rf v59), (0, va_rf x0)]) hC dX11_isSound_101 rfl rfl (by decide) (by first | rfl | simp [lvs1, List.filter, cat_rf, cat_i, cat_j]) ?_
            refine r_goto (tgt := 45) hC dX11_isSound_104 (by decide) ?_
            exact RR.wid (by decide) (by decide) (RR.sub [3, 1, 0] rfl (ih _ _ _ _ h))
          · have h := h.2 c9
            refine r_aload_n hC dX11_isSound_88 rfl 0 rfl ?_
            obtain ⟨a89, o89, h⟩ := h
            refine r_VI hC hAo [] cal_X3_isInBounds ml_X11_421 (ci := 6) rfl rfl rfl (c_X3_isInBounds G _ _ _ _ h) o89 ⟨by decide, by decide⟩ ⟨by decide, by decide⟩ (by simp only [List.map_nil, List.map_cons, List.sum_nil, List.sum_cons, cat_rf, cat_i, cat_j]; decide) rfl dX11_isSound_89 (fun E u hx9 => hx _ _ _ _ _ _ _ (by decide) (by decide) hx9) (fun v89 ph89 h => ?_)
            refine RR.wid (k' := 0) (n' := 0) (by decide) (by decide) ?_
            refine r_if_eq (tgt := 99) hC dX11_isSound_92 (by decide) (fun c9 => ?_) (fun c9 => ?_)
            · have h := h.1 c9
              refine r_iconst (v := 0) hC dX11_isSound_99 (by decide) ?_
              refine r_istore_n (i := 1) (lv' := [(1, .int (0 : Int32)), (3, va_rf v59), (0, va_rf x0), (2, .int x2)]) hC dX11_isSound_100 rfl (by decide) (by first | rfl | simp [lvs1, lvs2, List.filter, cat_rf, cat_i, cat_j]) ?_
              refine r_iinc (w := 3) (v := x2 + 1) (lv' := [(2, .int (x2 + 1)), (1, .int (0 : Int32)), (3, va_rf v59), (0, va_rf x0)]) hC dX11_isSound_101 rfl rfl (by decide) (by first | rfl | simp [lvs1, List.filter, cat_rf, cat_i, cat_j]) ?_
              refine r_goto (tgt := 45) hC dX11_isSound_104 (by decide) ?_
              exact RR.wid (by decide) (by decide) (RR.sub [3, 1, 0] rfl (ih _ _ _ _ h))
            · have h := h.2 c9
              refine r_iconst (v := 1) hC dX11_isSound_95 (by decide) ?_
              refine r_goto (tgt := 100) hC dX11_isSound_96 (by decide) ?_
              refine r_istore_n (i := 1) (lv' := [(1, .int (1 : Int32)), (3, va_rf v59), (0, va_rf x0), (2, .int x2)]) hC dX11_isSound_100 rfl (by decide) (by first | rfl | simp [lvs1, lvs2, List.filter, cat_rf, cat_i, cat_j]) ?_
              refine r_iinc (w := 3) (v := x2 + 1) (lv' := [(2, .int (x2 + 1)), (1, .int (1 : Int32)), (3, va_rf v59), (0, va_rf x0)]) hC dX11_isSound_101 rfl rfl (by decide) (by first | rfl | simp [lvs1, List.filter, cat_rf, cat_i, cat_j]) ?_
              refine r_goto (tgt := 45) hC dX11_isSound_104 (by decide) ?_
              exact RR.wid (by decide) (by decide) (RR.sub [3, 1, 0] rfl (ih _ _ _ _ h))
        · have h := h.2 c9
          refine r_iload_n hC dX11_isSound_69 rfl 3 rfl ?_
          refine r_aload_n hC dX11_isSound_70 rfl 1 rfl ?_
          obtain ⟨v71, g71, h⟩ := h
          refine r_get hC (ci := 12) (kf := 2) (N := 12) (Cn := RX11) (T := TX11) rfl (by decide) tin_X11 fl_X11_397 rfl dX11_isSound_71 g71 ?_
          refine r_icmp_lt (tgt := 99) hC dX11_isSound_74 (by decide) (fun c9 => ?_) (fun c9 => ?_)
          · have h := h.1 c9
            refine r_iconst (v := 0) hC dX11_isSound_99 (by decide) ?_
            refine r_istore_n (i := 1) (lv' := [(1, .int (0 : Int32)), (3, va_rf v59), (0, va_rf x0), (2, .int x2)]) hC dX11_isSound_100 rfl (by decide) (by first | rfl | simp [lvs1, lvs2, List.filter, cat_rf, cat_i, cat_j]) ?_
            refine r_iinc (w := 3) (v := x2 + 1) (lv' := [(2, .int (x2 + 1)), (1, .int (0 : Int32)), (3, va_rf v59), (0, va_rf x0)]) hC dX11_isSound_101 rfl rfl (by decide) (by first | rfl | simp [lvs1, List.filter, cat_rf, cat_i, cat_j]) ?_
            refine r_goto (tgt := 45) hC dX11_isSound_104 (by decide) ?_
            exact RR.wid (by decide) (by decide) (RR.sub [3, 1, 0] rfl (ih _ _ _ _ h))
          · have h := h.2 c9
            refine r_goto (tgt := 95) hC dX11_isSound_77 (by decide) ?_
            refine r_iconst (v := 1) hC dX11_isSound_95 (by decide) ?_
            refine r_goto (tgt := 100) hC dX11_isSound_96 (by decide) ?_
            refine r_istore_n (i := 1) (lv' := [(1, .int (1 : Int32)), (3, va_rf v59), (0, va_rf x0), (2, .int x2)]) hC dX11_isSound_100 rfl (by decide) (by first | rfl | simp [lvs1, lvs2, List.filter, cat_rf, cat_i, cat_j]) ?_
            refine r_iinc (w := 3) (v := x2 + 1) (lv' := [(2, .int (x2 + 1)), (1, .int (1 : Int32)), (3, va_rf v59), (0, va_rf x0)]) hC dX11_isSound_101 rfl rfl (by decide) (by first | rfl | simp [lvs1, List.filter, cat_rf, cat_i, cat_j]) ?_
            refine r_goto (tgt := 45) hC dX11_isSound_104 (by decide) ?_
            exact RR.wid (by decide) (by decide) (RR.sub [3, 1, 0] rfl (ih _ _ _ _ h))
set_option maxRecDepth 20000 in
theorem c_X11_isSound (G : GG) (x0 : Nat) (ph : PH) (Q : Int32 → PH → Prop) (X : String → PH → Prop) (h : w_X11_isSound x0 ph Q X) : Ct G yX11_isSound (.code yX11_isSound cX11_isSound 4 (some (.boolean))) 3 62 0 0 [va_rf (some x0)] ph (oI Q) X := by
  refine ct_of (lv0 := [(0, va_rf (some x0))]) (by decide +kernel) (by simp [lg_sl, cat_rf, cat_i, cat_j]) (by simp [lv_args, cat_rf, cat_i, cat_j]) ?_
  intro C A hC hAo hex hrt hnm
  have hr : HZ C (ZM C G A (oI Q) X 0 0) A G 4 cX11_isSound 0 0 Q := fun pc lv v ph k n d hk hn hq => e_s hC (ty := .boolean) hrt pc lv v ph k n d hk hn ⟨hq.1, v, rfl, hq.2⟩
  have hx := e_x (Q := oI Q) (X := X) (mc := 0) (ms := 0) hC hex
  have hn := e_n (Q := oI Q) (X := X) (mc := 0) (ms := 0) hC hex
  have hnw := e_nw (Q := oI Q) (X := X) (mc := 0) (ms := 0) hC hex
  have hnx := e_nx (Q := oI Q) (X := X) (mc := 0) (ms := 0) hC hex
  have hi : True := trivial
  generalize ZM C G A (oI Q) X 0 0 = Z at *
  refine r_aload_n hC dX11_isSound_0 rfl 0 rfl ?_
  obtain ⟨v1, g1, h⟩ := h
  refine r_get hC (ci := 12) (kf := 0) (N := 12) (Cn := RX11) (T := TX11) rfl (by decide) tin_X11 fl_X11_10 rfl dX11_isSound_1 g1 ?_
  obtain ⟨a4, o4, h⟩ := h
  refine r_VI hC hAo [] cal_X9_isInBounds ml_X11_418 (ci := 10) rfl rfl rfl (c_X9_isInBounds G _ _ _ _ h) o4 ⟨by decide, by decide⟩ ⟨by decide, by decide⟩ (by simp only [List.map_nil, List.map_cons, List.sum_nil, List.sum_cons, cat_rf, cat_i, cat_j]; decide) rfl dX11_isSound_4 (fun E u hx9 => hx _ _ _ _ _ _ _ (by decide) (by decide) hx9) (fun v4 ph4 h => ?_)
  refine RR.wid (k' := 0) (n' := 0) (by decide) (by decide) ?_
  refine r_if_eq (tgt := 41) hC dX11_isSound_7 (by decide) (fun c9 => ?_) (fun c9 => ?_)
  · have h := h.1 c9
    refine r_iconst (v := 0) hC dX11_isSound_41 (by decide) ?_
    refine r_istore_n (i := 1) (lv' := [(1, .int (0 : Int32)), (0, va_rf (some x0))]) hC dX11_isSound_42 rfl (by decide) (by first | rfl | simp [lvs1, lvs2, List.filter, cat_rf, cat_i, cat_j]) ?_
    refine r_iconst (v := 0) hC dX11_isSound_43 (by decide) ?_
    refine r_istore_n (i := 2) (lv' := [(2, .int (0 : Int32)), (1, .int (0 : Int32)), (0, va_rf (some x0))]) hC dX11_isSound_44 rfl (by decide) (by first | rfl | simp [lvs1, lvs2, List.filter, cat_rf, cat_i, cat_j]) ?_
    obtain ⟨fu45, h⟩ := h
    exact RR.wid (by decide) (by decide) (RR.sub [2, 1, 0] rfl (b_X11_isSound_45 hC hAo hr hx hn hnw hnx hi  fu45 _ _ _ _ h))
  · have h := h.2 c9
    refine r_aload_n hC dX11_isSound_10 rfl 0 rfl ?_
    obtain ⟨v11, g11, h⟩ := h
    refine r_get hC (ci := 12) (kf := 2) (N := 12) (Cn := RX11) (T := TX11) rfl (by decide) tin_X11 fl_X11_397 rfl dX11_isSound_11 g11 ?_
    refine r_bipush (v := 8) hC dX11_isSound_14 (by decide) ?_
    refine r_icmp_gt (tgt := 41) hC dX11_isSound_16 (by decide) (fun c9 => ?_) (fun c9 => ?_)
    · have h := h.1 c9
      refine r_iconst (v := 0) hC dX11_isSound_41 (by decide) ?_
      refine r_istore_n (i := 1) (lv' := [(1, .int (0 : Int32)), (0, va_rf (some x0))]) hC dX11_isSound_42 rfl (by decide) (by first | rfl | simp [lvs1, lvs2, List.filter, cat_rf, cat_i, cat_j]) ?_
      refine r_iconst (v := 0) hC dX11_isSound_43 (by decide) ?_
      refine r_istore_n (i := 2) (lv' := [(2, .int (0 : Int32)), (1, .int (0 : Int32)), (0, va_rf (some x0))]) hC dX11_isSound_44 rfl (by decide) (by first | rfl | simp [lvs1, lvs2, List.filter, cat_rf, cat_i, cat_j]) ?_
      obtain ⟨fu45, h⟩ := h
      exact RR.wid (by decide) (by decide) (RR.sub [2, 1, 0] rfl (b_X11_isSound_45 hC hAo hr hx hn hnw hnx hi  fu45 _ _ _ _ h))
    · have h := h.2 c9
      refine r_aload_n hC dX11_isSound_19 rfl 0 rfl ?_
      obtain ⟨v20, g20, h⟩ := h
      refine r_get hC (ci := 12) (kf := 4) (N := 12) (Cn := RX11) (T := TX11) rfl (by decide) tin_X11 fl_X11_231 rfl dX11_isSound_20 g20 ?_
      refine r_bipush (v := 6) hC dX11_isSound_23 (by decide) ?_
      refine r_icmp_gt (tgt := 41) hC dX11_isSound_25 (by decide) (fun c9 => ?_) (fun c9 => ?_)
      · have h := h.1 c9
        refine r_iconst (v := 0) hC dX11_isSound_41 (by decide) ?_
        refine r_istore_n (i := 1) (lv' := [(1, .int (0 : Int32)), (0, va_rf (some x0))]) hC dX11_isSound_42 rfl (by decide) (by first | rfl | simp [lvs1, lvs2, List.filter, cat_rf, cat_i, cat_j]) ?_
        refine r_iconst (v := 0) hC dX11_isSound_43 (by decide) ?_
        refine r_istore_n (i := 2) (lv' := [(2, .int (0 : Int32)), (1, .int (0 : Int32)), (0, va_rf (some x0))]) hC dX11_isSound_44 rfl (by decide) (by first | rfl | simp [lvs1, lvs2, List.filter, cat_rf, cat_i, cat_j]) ?_
        obtain ⟨fu45, h⟩ := h
        exact RR.wid (by decide) (by decide) (RR.sub [2, 1, 0] rfl (b_X11_isSound_45 hC hAo hr hx hn hnw hnx hi  fu45 _ _ _ _ h))
      · have h := h.2 c9
        refine r_aload_n hC dX11_isSound_28 rfl 0 rfl ?_
        obtain ⟨v29, g29, h⟩ := h
        refine r_get hC (ci := 12) (kf := 6) (N := 12) (Cn := RX11) (T := TX11) rfl (by decide) tin_X11 fl_X11_279 rfl dX11_isSound_29 g29 ?_
        refine r_bipush (v := 8) hC dX11_isSound_32 (by decide) ?_
        refine r_icmp_gt (tgt := 41) hC dX11_isSound_34 (by decide) (fun c9 => ?_) (fun c9 => ?_)
        · have h := h.1 c9
          refine r_iconst (v := 0) hC dX11_isSound_41 (by decide) ?_
          refine r_istore_n (i := 1) (lv' := [(1, .int (0 : Int32)), (0, va_rf (some x0))]) hC dX11_isSound_42 rfl (by decide) (by first | rfl | simp [lvs1, lvs2, List.filter, cat_rf, cat_i, cat_j]) ?_
          refine r_iconst (v := 0) hC dX11_isSound_43 (by decide) ?_
          refine r_istore_n (i := 2) (lv' := [(2, .int (0 : Int32)), (1, .int (0 : Int32)), (0, va_rf (some x0))]) hC dX11_isSound_44 rfl (by decide) (by first | rfl | simp [lvs1, lvs2, List.filter, cat_rf, cat_i, cat_j]) ?_
          obtain ⟨fu45, h⟩ := h
          exact RR.wid (by decide) (by decide) (RR.sub [2, 1, 0] rfl (b_X11_isSound_45 hC hAo hr hx hn hnw hnx hi  fu45 _ _ _ _ h))
        · have h := h.2 c9
          refine r_iconst (v := 1) hC dX11_isSound_37 (by decide) ?_
          refine r_goto (tgt := 42) hC dX11_isSound_38 (by decide) ?_
          refine r_istore_n (i := 1) (lv' := [(1, .int (1 : Int32)), (0, va_rf (some x0))]) hC dX11_isSound_42 rfl (by decide) (by first | rfl | simp [lvs1, lvs2, List.filter, cat_rf, cat_i, cat_j]) ?_
          refine r_iconst (v := 0) hC dX11_isSound_43 (by decide) ?_
          refine r_istore_n (i := 2) (lv' := [(2, .int (0 : Int32)), (1, .int (1 : Int32)), (0, va_rf (some x0))]) hC dX11_isSound_44 rfl (by decide) (by first | rfl | simp [lvs1, lvs2, List.filter, cat_rf, cat_i, cat_j]) ?_
          obtain ⟨fu45, h⟩ := h
          exact RR.wid (by decide) (by decide) (RR.sub [2, 1, 0] rfl (b_X11_isSound_45 hC hAo hr hx hn hnw hnx hi  fu45 _ _ _ _ h))
