set_option maxRecDepth 20000 in
theorem b_X11_isSound_173 {C : Cx} {Z : State → Prop} {A : Nat → Prop} {G : GG} {Q : Int32 → PH → Prop} {X : String → PH → Prop} (hC : CxOk RX11 cX11_isSound 4 G A (rmk 3 62 0 0) C) (hAo : Ao (xs C)) (hr : HZ C Z A G 4 cX11_isSound 0 0 Q) (hx : HX C Z A G 4 0 0 X) (hn : HN C Z A G 4 RX11 cX11_isSound 0 0 (rmk 3 62 0 0) X) (hnw : HNW C Z A G 4 RX11 cX11_isSound 0 0 (rmk 3 62 0 0) X) (hnx : HNX C Z A G 4 RX11 cX11_isSound 0 0 (rmk 3 62 0 0) X) (hi : True) : ∀ (fu : Nat) (x0 : Option Nat) (x1 : Int32) (x2 : Int32) (ph : PH), w_X11_isSound_173 Q X fu x0 x1 x2 ph → RR C Z A G 4 173 [(0, va_rf x0), (1, .int x1), (2, .int x2)] [] ph 0 0 := by
  intro fu
  induction fu with
  | zero => intro x0 x1 x2 ph h; exact h.elim
  | succ fu ih =>
    intro x0 x1 x2 ph h
    refine r_iload_n hC dX11_isSound_173 rfl 2 rfl ?_
    refine r_aload_n hC dX11_isSound_174 rfl 0 rfl ?_
    obtain ⟨v175, g175, h⟩ := h
    refine r_get hC (ci := 12) (kf := 5) (N := 12) (Cn := RX11) (T := TX11) rfl (by decide) tin_X11 fl_X11_30 rfl dX11_isSound_175 g175 ?_
    obtain ⟨v178, g178, h⟩ := h
    refine r_alen hC dX11_isSound_178 g178 ?_
    refine r_icmp_ge (tgt := 235) hC dX11_isSound_179 (by decide) (fun c9 => ?_) (fun c9 => ?_)
    · have h := h.1 c9
      refine r_iload_n hC dX11_isSound_235 rfl 1 rfl ?_
      exact hr _ _ _ _ _ _ dX11_isSound_236 (by decide) (by decide) h
    · have h := h.2 c9
      refine r_aload_n hC dX11_isSound_182 rfl 0 rfl ?_
      obtain ⟨v183, g183, h⟩ := h
      refine r_get hC (ci := 12) (kf := 5) (N := 12) (Cn := RX11) (T := TX11) rfl (by decide) tin_X11 fl_X11_30 rfl dX11_isSound_183 g183 ?_
      refine r_iload_n hC dX11_isSound_186 rfl 2 rfl ?_
      obtain ⟨v187, g187, h⟩ := h
      refine r_aald hC dX11_isSound_187 g187 ?_
      refine r_astore_n (i := 3) (lv' := [(3, va_rf v187), (0, va_rf x0), (1, .int x1), (2, .int x2)]) hC dX11_isSound_188 rfl (by decide) (by first | rfl | simp [lvs1, lvs2, List.filter, cat_rf, cat_i, cat_j]) ?_
      refine r_iload_n hC dX11_isSound_189 rfl 2 rfl ?_
      refine r_if_eq (tgt := 227) hC dX11_isSound_190 (by decide) (fun c9 => ?_) (fun c9 => ?_)
      · have h := h.1 c9
        refine r_iconst (v := 0) hC dX11_isSound_227 (by decide) ?_
        refine r_istore_n (i := 1) (lv' := [(1, .int (0 : Int32)), (3, va_rf v187), (0, va_rf x0), (2, .int x2)]) hC dX11_isSound_228 rfl (by decide) (by first | rfl | simp [lvs1, lvs2, List.filter, cat_rf, cat_i, cat_j]) ?_
        refine r_iinc (w := 3) (v := x2 + 1) (lv' := [(2, .int (x2 + 1)), (1, .int (0 : Int32)), (3, va_rf v187), (0, va_rf x0)]) hC dX11_isSound_229 rfl rfl (by decide) (by first | rfl | simp [lvs1, List.filter, cat_rf, cat_i, cat_j]) ?_
        refine r_goto (tgt := 173) hC dX11_isSound_232 (by decide) ?_
        exact RR.wid (by decide) (by decide) (RR.sub [3, 1, 0] rfl (ih _ _ _ _ h))
      · have h := h.2 c9
        refine r_aload_n hC dX11_isSound_193 rfl 0 rfl ?_
        refine r_ifnonnull (tgt := 208) hC dX11_isSound_194 (by decide) (fun c9 => ?_) (fun c9 => ?_)
        · have h := h.1 c9
          refine r_iload_n hC dX11_isSound_208 rfl 3 rfl ?_
          refine r_aload_n hC dX11_isSound_209 rfl 1 rfl ?_
          obtain ⟨v210, g210, h⟩ := h
          refine r_get hC (ci := 12) (kf := 6) (N := 12) (Cn := RX11) (T := TX11) rfl (by decide) tin_X11 fl_X11_279 rfl dX11_isSound_210 g210 ?_
          refine r_icmp_ge (tgt := 227) hC dX11_isSound_213 (by decide) (fun c9 => ?_) (fun c9 => ?_)
          · have h := h.1 c9
            refine r_iconst (v := 0) hC dX11_isSound_227 (by decide) ?_
            refine r_istore_n (i := 1) (lv' := [(1, .int (0 : Int32)), (3, va_rf v187), (0, va_rf x0), (2, .int x2)]) hC dX11_isSound_228 rfl (by decide) (by first | rfl | simp [lvs1, lvs2, List.filter, cat_rf, cat_i, cat_j]) ?_
            refine r_iinc (w := 3) (v := x2 + 1) (lv' := [(2, .int (x2 + 1)), (1, .int (0 : Int32)), (3, va_rf v187), (0, va_rf x0)]) hC dX11_isSound_229 rfl rfl (by decide) (by first | rfl | simp [lvs1, List.filter, cat_rf, cat_i, cat_j]) ?_
            refine r_goto (tgt := 173) hC dX11_isSound_232 (by decide) ?_
            exact RR.wid (by decide) (by decide) (RR.sub [3, 1, 0] rfl (ih _ _ _ _ h))
          · have h := h.2 c9
            refine r_aload_n hC dX11_isSound_216 rfl 0 rfl ?_
            obtain ⟨a217, o217, h⟩ := h
            refine r_VI hC hAo [] cal_X8_isInBounds ml_X11_423 (ci := 9) rfl rfl rfl (c_X8_isInBounds G _ _ _ _ h) o217 ⟨by decide, by decide⟩ ⟨by decide, by decide⟩ (by simp only [List.map_nil, List.map_cons, List.sum_nil, List.sum_cons, cat_rf, cat_i, cat_j]; decide) rfl dX11_isSound_217 (fun E u hx9 => hx _ _ _ _ _ _ _ (by decide) (by decide) hx9) (fun v217 ph217 h => ?_)
            refine RR.wid (k' := 0) (n' := 0) (by decide) (by decide) ?_
            refine r_if_eq (tgt := 227) hC dX11_isSound_220 (by decide) (fun c9 => ?_) (fun c9 => ?_)
            · have h := h.1 c9
              refine r_iconst (v := 0) hC dX11_isSound_227 (by decide) ?_
              refine r_istore_n (i := 1) (lv' := [(1, .int (0 : Int32)), (3, va_rf v187), (0, va_rf x0), (2, .int x2)]) hC dX11_isSound_228 rfl (by decide) (by first | rfl | simp [lvs1, lvs2, List.filter, cat_rf, cat_i, cat_j]) ?_
              refine r_iinc (w := 3) (v := x2 + 1) (lv' := [(2, .int (x2 + 1)), (1, .int (0 : Int32)), (3, va_rf v187), (0, va_rf x0)]) hC dX11_isSound_229 rfl rfl (by decide) (by first | rfl | simp [lvs1, List.filter, cat_rf, cat_i, cat_j]) ?_
              refine r_goto (tgt := 173) hC dX11_isSound_232 (by decide) ?_
              exact RR.wid (by decide) (by decide) (RR.sub [3, 1, 0] rfl (ih _ _ _ _ h))
            · have h := h.2 c9
              refine r_iconst (v := 1) hC dX11_isSound_223 (by decide) ?_
              refine r_goto (tgt := 228) hC dX11_isSound_224 (by decide) ?_
              refine r_istore_n (i := 1) (lv' := [(1, .int (1 : Int32)), (3, va_rf v187), (0, va_rf x0), (2, .int x2)]) hC dX11_isSound_228 rfl (by decide) (by first | rfl | simp [lvs1, lvs2, List.filter, cat_rf, cat_i, cat_j]) ?_
              refine r_iinc (w := 3) (v := x2 + 1) (lv' := [(2, .int (x2 + 1)), (1, .int (1 : Int32)), (3, va_rf v187), (0, va_rf x0)]) hC dX11_isSound_229 rfl rfl (by decide) (by first | rfl | simp [lvs1, List.filter, cat_rf, cat_i, cat_j]) ?_
              refine r_goto (tgt := 173) hC dX11_isSound_232 (by decide) ?_
              exact RR.wid (by decide) (by decide) (RR.sub [3, 1, 0] rfl (ih _ _ _ _ h))
        · have h := h.2 c9
          refine r_iload_n hC dX11_isSound_197 rfl 3 rfl ?_
          refine r_aload_n hC dX11_isSound_198 rfl 1 rfl ?_
          obtain ⟨v199, g199, h⟩ := h
          refine r_get hC (ci := 12) (kf := 6) (N := 12) (Cn := RX11) (T := TX11) rfl (by decide) tin_X11 fl_X11_279 rfl dX11_isSound_199 g199 ?_
          refine r_icmp_lt (tgt := 227) hC dX11_isSound_202 (by decide) (fun c9 => ?_) (fun c9 => ?_)
          · have h := h.1 c9
            refine r_iconst (v := 0) hC dX11_isSound_227 (by decide) ?_
            refine r_istore_n (i := 1) (lv' := [(1, .int (0 : Int32)), (3, va_rf v187), (0, va_rf x0), (2, .int x2)]) hC dX11_isSound_228 rfl (by decide) (by first | rfl | simp [lvs1, lvs2, List.filter, cat_rf, cat_i, cat_j]) ?_
            refine r_iinc (w := 3) (v := x2 + 1) (lv' := [(2, .int (x2 + 1)), (1, .int (0 : Int32)), (3, va_rf v187), (0, va_rf x0)]) hC dX11_isSound_229 rfl rfl (by decide) (by first | rfl | simp [lvs1, List.filter, cat_rf, cat_i, cat_j]) ?_
            refine r_goto (tgt := 173) hC dX11_isSound_232 (by decide) ?_
            exact RR.wid (by decide) (by decide) (RR.sub [3, 1, 0] rfl (ih _ _ _ _ h))
          · have h := h.2 c9
            refine r_goto (tgt := 223) hC dX11_isSound_205 (by decide) ?_
            refine r_iconst (v := 1) hC dX11_isSound_223 (by decide) ?_
            refine r_goto (tgt := 228) hC dX11_isSound_224 (by decide) ?_
            refine r_istore_n (i := 1) (lv' := [(1, .int (1 : Int32)), (3, va_rf v187), (0, va_rf x0), (2, .int x2)]) hC dX11_isSound_228 rfl (by decide) (by first | rfl | simp [lvs1, lvs2, List.filter, cat_rf, cat_i, cat_j]) ?_
            refine r_iinc (w := 3) (v := x2 + 1) (lv' := [(2, .int (x2 + 1)), (1, .int (1 : Int32)), (3, va_rf v187), (0, va_rf x0)]) hC dX11_isSound_229 rfl rfl (by decide) (by first | rfl | simp [lvs1, List.filter, cat_rf, cat_i, cat_j]) ?_
            refine r_goto (tgt := 173) hC dX11_isSound_232 (by decide) ?_
            exact RR.wid (by decide) (by decide) (RR.sub [3, 1, 0] rfl (ih _ _ _ _ h))
set_option maxRecDepth 20000 in
theorem b_X11_isSound_109 {C : Cx} {Z : State → Prop} {A : Nat → Prop} {G : GG} {Q : Int32 → PH → Prop} {X : String → PH → Prop} (hC : CxOk RX11 cX11_isSound 4 G A (rmk 3 62 0 0) C) (hAo : Ao (xs C)) (hr : HZ C Z A G 4 cX11_isSound 0 0 Q) (hx : HX C Z A G 4 0 0 X) (hn : HN C Z A G 4 RX11 cX11_isSound 0 0 (rmk 3 62 0 0) X) (hnw : HNW C Z A G 4 RX11 cX11_isSound 0 0 (rmk 3 62 0 0) X) (hnx : HNX C Z A G 4 RX11 cX11_isSound 0 0 (rmk 3 62 0 0) X) (hi : True) : ∀ (fu : Nat) (x0 : Option Nat) (x1 : Int32) (x2 : Int32) (ph : PH), w_X11_isSound_109 Q X fu x0 x1 x2 ph → RR C Z A G 4 109 [(0, va_rf x0), (1, .int x1), (2, .int x2)] [] ph 0 0 := by
  intro fu
  induction fu with
  | zero => intro x0 x1 x2 ph h; exact h.elim
  | succ fu ih =>
    intro x0 x1 x2 ph h
    refine r_iload_n hC dX11_isSound_109 rfl 2 rfl ?_
    refine r_aload_n hC dX11_isSound_110 rfl 0 rfl ?_
    obtain ⟨v111, g111, h⟩ := h
    refine r_get hC (ci := 12) (kf := 3) (N := 12) (Cn := RX11) (T := TX11) rfl (by decide) tin_X11 fl_X11_24 rfl dX11_isSound_111 g111 ?_
    obtain ⟨v114, g114, h⟩ := h
    refine r_alen hC dX11_isSound_114 g114 ?_
    refine r_icmp_ge (tgt := 171) hC dX11_isSound_115 (by decide) (fun c9 => ?_) (fun c9 => ?_)
    · have h := h.1 c9
      refine r_iconst (v := 0) hC dX11_isSound_171 (by decide) ?_
      refine r_istore_n (i := 2) (lv' := [(2, .int (0 : Int32)), (0, va_rf x0), (1, .int x1)]) hC dX11_isSound_172 rfl (by decide) (by first | rfl | simp [lvs1, lvs2, List.filter, cat_rf, cat_i, cat_j]) ?_
      obtain ⟨fu173, h⟩ := h
      exact RR.wid (by decide) (by decide) (RR.sub [1, 2, 0] rfl (b_X11_isSound_173 hC hAo hr hx hn hnw hnx hi  fu173 _ _ _ _ h))
    · have h := h.2 c9
      refine r_aload_n hC dX11_isSound_118 rfl 0 rfl ?_
      obtain ⟨v119, g119, h⟩ := h
      refine r_get hC (ci := 12) (kf := 3) (N := 12) (Cn := RX11) (T := TX11) rfl (by decide) tin_X11 fl_X11_24 rfl dX11_isSound_119 g119 ?_
      refine r_iload_n hC dX11_isSound_122 rfl 2 rfl ?_
      obtain ⟨v123, g123, h⟩ := h
      refine r_aald hC dX11_isSound_123 g123 ?_
      refine r_astore_n (i := 3) (lv' := [(3, va_rf v123), (0, va_rf x0), (1, .int x1), (2, .int x2)]) hC dX11_isSound_124 rfl (by decide) (by first | rfl | simp [lvs1, lvs2, List.filter, cat_rf, cat_i, cat_j]) ?_
      refine r_iload_n hC dX11_isSound_125 rfl 2 rfl ?_
      refine r_if_eq (tgt := 163) hC dX11_isSound_126 (by decide) (fun c9 => ?_) (fun c9 => ?_)
      · have h := h.1 c9
        refine r_iconst (v := 0) hC dX11_isSound_163 (by decide) ?_
        refine r_istore_n (i := 1) (lv' := [(1, .int (0 : Int32)), (3, va_rf v123), (0, va_rf x0), (2, .int x2)]) hC dX11_isSound_164 rfl (by decide) (by first | rfl | simp [lvs1, lvs2, List.filter, cat_rf, cat_i, cat_j]) ?_
        refine r_iinc (w := 3) (v := x2 + 1) (lv' := [(2, .int (x2 + 1)), (1, .int (0 : Int32)), (3, va_rf v123), (0, va_rf x0)]) hC dX11_isSound_165 rfl rfl (by decide) (by first | rfl | simp [lvs1, List.filter, cat_rf, cat_i, cat_j]) ?_
        refine r_goto (tgt := 109) hC dX11_isSound_168 (by decide) ?_
        exact RR.wid (by decide) (by decide) (RR.sub [3, 1, 0] rfl (ih _ _ _ _ h))
      · have h := h.2 c9
        refine r_aload_n hC dX11_isSound_129 rfl 0 rfl ?_
        refine r_ifnonnull (tgt := 144) hC dX11_isSound_130 (by decide) (fun c9 => ?_) (fun c9 => ?_)
        · have h := h.1 c9
          refine r_iload_n hC dX11_isSound_144 rfl 3 rfl ?_
          refine r_aload_n hC dX11_isSound_145 rfl 1 rfl ?_
          obtain ⟨v146, g146, h⟩ := h
          refine r_get hC (ci := 12) (kf := 4) (N := 12) (Cn := RX11) (T := TX11) rfl (by decide) tin_X11 fl_X11_231 rfl dX11_isSound_146 g146 ?_
          refine r_icmp_ge (tgt := 163) hC dX11_isSound_149 (by decide) (fun c9 => ?_) (fun c9 => ?_)
          · have h := h.1 c9
            refine r_iconst (v := 0) hC dX11_isSound_163 (by decide) ?_
            refine r_istore_n (i := 1) (lv' := [(1, .int (0 : Int32)), (3, va_rf v123), (0, va_rf x0), (2, .int x2)]) hC dX11_isSound_164 rfl (by decide) (by first | rfl | simp [lvs1, lvs2, List.filter, cat_rf, cat_i, cat_j]) ?_
            refine r_iinc (w := 3) (v := x2 + 1) (lv' := [(2, .int (x2 + 1)), (1, .int (0 : Int32)), (3, va_rf v123), (0, va_rf x0)]) hC dX11_isSound_165 rfl rfl (by decide) (by first | rfl | simp [lvs1, List.filter, cat_rf, cat_i, cat_j]) ?_
            refine r_goto (tgt := 109) hC dX11_isSound_168 (by decide) ?_
            exact RR.wid (by decide) (by decide) (RR.sub [3, 1, 0] rfl (ih _ _ _ _ h))
          · have h := h.2 c9
            refine r_aload_n hC dX11_isSound_152 rfl 0 rfl ?_
            obtain ⟨a153, o153, h⟩ := h
            refine r_VI hC hAo [] cal_X1_isInBounds ml_X11_422 (ci := 4) rfl rfl rfl (c_X1_isInBounds G _ _ _ _ h) o153 ⟨by decide, by decide⟩ ⟨by decide, by decide⟩ (by simp only [List.map_nil, List.map_cons, List.sum_nil, List.sum_cons, cat_rf, cat_i, cat_j]; decide) rfl dX11_isSound_153 (fun E u hx9 => hx _ _ _ _ _ _ _ (by decide) (by decide) hx9) (fun v153 ph153 h => ?_)
            refine RR.wid (k' := 0) (n' := 0) (by decide) (by decide) ?_
            refine r_if_eq (tgt := 163) hC dX11_isSound_156 (by decide) (fun c9 => ?_) (fun c9 => ?_)
            · have h := h.1 c9
              refine r_iconst (v := 0) hC dX11_isSound_163 (by decide) ?_
              refine r_istore_n (i := 1) (lv' := [(1, .int (0 : Int32)), (3, va_rf v123), (0, va_rf x0), (2, .int x2)]) hC dX11_isSound_164 rfl (by decide) (by first | rfl | simp [lvs1, lvs2, List.filter, cat_rf, cat_i, cat_j]) ?_
              refine r_iinc (w := 3) (v := x2 + 1) (lv' := [(2, .int (x2 + 1)), (1, .int (0 : Int32)), (3, va_rf v123), (0, va_rf x0)]) hC dX11_isSound_165 rfl rfl (by decide) (by first | rfl | simp [lvs1, List.filter, cat_rf, cat_i, cat_j]) ?_
              refine r_goto (tgt := 109) hC dX11_isSound_168 (by decide) ?_
              exact RR.wid (by decide) (by decide) (RR.sub [3, 1, 0] rfl (ih _ _ _ _ h))
            · have h := h.2 c9
              refine r_iconst (v := 1) hC dX11_isSound_159 (by decide) ?_
              refine r_goto (tgt := 164) hC dX11_isSound_160 (by decide) ?_
              refine r_istore_n (i := 1) (lv' := [(1, .int (1 : Int32)), (3, va_rf v123), (0, va_rf x0), (2, .int x2)]) hC dX11_isSound_164 rfl (by decide) (by first | rfl | simp [lvs1, lvs2, List.filter, cat_rf, cat_i, cat_j]) ?_
              refine r_iinc (w := 3) (v := x2 + 1) (lv' := [(2, .int (x2 + 1)), (1, .int (1 : Int32)), (3, va_rf v123), (0, va_rf x0)]) hC dX11_isSound_165 rfl rfl (by decide) (by first | rfl | simp [lvs1, List.filter, cat_rf, cat_i, cat_j]) ?_
              refine r_goto (tgt := 109) hC dX11_isSound_168 (by decide) ?_
              exact RR.wid (by decide) (by decide) (RR.sub [3, 1, 0] rfl (ih _ _ _ _ h))
        · have h := h.2 c9
          refine r_iload_n hC dX11_isSound_133 rfl 3 rfl ?_
          refine r_aload_n hC dX11_isSound_134 rfl 1 rfl ?_
          obtain ⟨v135, g135, h⟩ := h
          refine r_get hC (ci := 12) (kf := 4) (N := 12) (Cn := RX11) (T := TX11) rfl (by decide) tin_X11 fl_X11_231 rfl dX11_isSound_135 g135 ?_
          refine r_icmp_lt (tgt := 163) hC dX11_isSound_138 (by decide) (fun c9 => ?_) (fun c9 => ?_)
          · have h := h.1 c9
            refine r_iconst (v := 0) hC dX11_isSound_163 (by decide) ?_
            refine r_istore_n (i := 1) (lv' := [(1, .int (0 : Int32)), (3, va_rf v123), (0, va_rf x0), (2, .int x2)]) hC dX11_isSound_164 rfl (by decide) (by first | rfl | simp [lvs1, lvs2, List.filter, cat_rf, cat_i, cat_j]) ?_
            refine r_iinc (w := 3) (v := x2 + 1) (lv' := [(2, .int (x2 + 1)), (1, .int (0 : Int32)), (3, va_rf v123), (0, va_rf x0)]) hC dX11_isSound_165 rfl rfl (by decide) (by first | rfl | simp [lvs1, List.filter, cat_rf, cat_i, cat_j]) ?_
            refine r_goto (tgt := 109) hC dX11_isSound_168 (by decide) ?_
            exact RR.wid (by decide) (by decide) (RR.sub [3, 1, 0] rfl (ih _ _ _ _ h))
          · have h := h.2 c9
            refine r_goto (tgt := 159) hC dX11_isSound_141 (by decide) ?_
            refine r_iconst (v := 1) hC dX11_isSound_159 (by decide) ?_
            refine r_goto (tgt := 164) hC dX11_isSound_160 (by decide) ?_
            refine r_istore_n (i := 1) (lv' := [(1, .int (1 : Int32)), (3, va_rf v123), (0, va_rf x0), (2, .int x2)]) hC dX11_isSound_164 rfl (by decide) (by first | rfl | simp [lvs1, lvs2, List.filter, cat_rf, cat_i, cat_j]) ?_
            refine r_iinc (w := 3) (v := x2 + 1) (lv' := [(2, .int (x2 + 1)), (1, .int (1 : Int32)), (3, va_rf v123), (0, va_rf x0)]) hC dX11_isSound_165 rfl rfl (by decide) (by first | rfl | simp [lvs1, List.filter, cat_rf, cat_i, cat_j]) ?_
            refine r_goto (tgt := 109) hC dX11_isSound_168 (by decide) ?_
            exact RR.wid (by decide) (by decide) (RR.sub [3, 1, 0] rfl (ih _ _ _ _ h))
set_option maxRecDepth 20000 in
theorem b_X11_isSound_45 {C : Cx} {Z : State → Prop} {A : Nat → Prop} {G : GG} {Q : Int32 → PH → Prop} {X : String → PH → Prop} (hC : CxOk RX11 cX11_isSound 4 G A (rmk 3 62 0 0) C) (hAo : Ao (xs C)) (hr : HZ C Z A G 4 cX11_isSound 0 0 Q) (hx : HX C Z A G 4 0 0 X) (hn : HN C Z A G 4 RX11 cX11_isSound 0 0 (rmk 3 62 0 0) X) (hnw : HNW C Z A G 4 RX11 cX11_isSound 0 0 (rmk 3 62 0 0) X) (hnx : HNX C Z A G 4 RX11 cX11_isSound 0 0 (rmk 3 62 0 0) X) (hi : True) : ∀ (fu : Nat) (x0 : Option Nat) (x1 : Int32) (x2 : Int32) (ph : PH), w_X11_isSound_45 Q X fu x0 x1 x2 ph → RR C Z A G 4 45 [(0, va_rf x0), (1, .int x1), (2, .int x2)] [] ph 0 0 := by
  intro fu
  induction fu with
  | zero => intro x0 x1 x2 ph h; exact h.elim
  | succ fu ih =>
    intro x0 x1 x2 ph h
    refine r_iload_n hC dX11_isSound_45 rfl 2 rfl ?_
    refine r_aload_n hC dX11_isSound_46 rfl 0 rfl ?_
    obtain ⟨v47, g47, h⟩ := h
    refine r_get hC (ci := 12) (kf := 1) (N := 12) (Cn := RX11) (T := TX11) rfl (by decide) tin_X11 fl_X11_18 rfl dX11_isSound_47 g47 ?_
    obtain ⟨v50, g50, h⟩ := h
    refine r_alen hC dX11_isSound_50 g50 ?_
    refine r_icmp_ge (tgt := 107) hC dX11_isSound_51 (by decide) (fun c9 => ?_) (fun c9 => ?_)
    · have h := h.1 c9
      refine r_iconst (v := 0) hC dX11_isSound_107 (by decide) ?_
      refine r_istore_n (i := 2) (lv' := [(2, .int (0 : Int32)), (0, va_rf x0), (1, .int x1)]) hC dX11_isSound_108 rfl (by decide) (by first | rfl | simp [lvs1, lvs2, List.filter, cat_rf, cat_i, cat_j]) ?_
      obtain ⟨fu109, h⟩ := h
      exact RR.wid (by decide) (by decide) (RR.sub [1, 2, 0] rfl (b_X11_isSound_109 hC hAo hr hx hn hnw hnx hi  fu109 _ _ _ _ h))
    · have h := h.2 c9
      refine r_aload_n hC dX11_isSound_54 rfl 0 rfl ?_
      obtain ⟨v55, g55, h⟩ := h
      refine r_get hC (ci := 12) (kf := 1) (N := 12) (Cn := RX11) (T := TX11) rfl (by decide) tin_X11 fl_X11_18 rfl dX11_isSound_55 g55 ?_
      refine r_iload_n hC dX11_isSound_58 rfl 2 rfl ?_
      obtain ⟨v59, g59, h⟩ := h
      refine r_aald hC dX11_isSound_59 g59 ?_
      refine r_astore_n (i := 3) (lv' := [(3, va_rf v59), (0, va_rf x0), (1, .int x1), (2, .int x2)]) hC dX11_isSound_60 rfl (by decide) (by first | rfl | simp [lvs1, lvs2, List.filter, cat_rf, cat_i, cat_j]) ?_
      refine r_iload_n hC dX11_isSound_61 rfl 2 rfl ?_
      refine r_if_eq (tgt := 99) hC dX11_isSound_62 (by decide) (fun c9 => ?_) (fun c9 => ?_)
      · have h := h.1 c9
        refine r_iconst (v := 0) hC dX11_isSound_99 (by decide) ?_
        refine r_istore_n (i := 1) (lv' := [(1, .int (0 : Int32)), (3, va_rf v59), (0, va_rf x0), (2, .int x2)]) hC dX11_isSound_100 rfl (by decide) (by first | rfl | simp [lvs1, lvs2, List.filter, cat_rf, cat_i, cat_j]) ?_
        refine r_iinc (w := 3) (v := x2 + 1) (lv' := [(2, .int (x2 + 1)), (1, .int (0 : Int32)), (3, va_rf v59), (0, va_rf x0)]) hC dX11_isSound_101 rfl rfl (by decide) (by first | rfl | simp [lvs1, List.filter, cat_rf, cat_i, cat_j]) ?_
        refine r_goto (tgt := 45) hC dX11_isSound_104 (by decide) ?_
        exact RR.wid (by decide) (by decide) (RR.sub [3, 1, 0] rfl (ih _ _ _ _ h))
      · have h := h.2 c9
        refine r_aload_n hC dX11_isSound_65 rfl 0 rfl ?_
        refine r_ifnonnull (tgt := 80) hC dX11_isSound_66 (by decide) (fun c9 => ?_) (fun c9 => ?_)
        · have h := h.1 c9
          refine r_iload_n hC dX11_isSound_80 rfl 3 rfl ?_
          refine r_aload_n hC dX11_isSound_81 rfl 1 rfl ?_
          obtain ⟨v82, g82, h⟩ := h
          refine r_get hC (ci := 12) (kf := 2) (N := 12) (Cn := RX11) (T := TX11) rfl (by decide) tin_X11 fl_X11_397 rfl dX11_isSound_82 g82 ?_
          refine r_icmp_ge (tgt := 99) hC dX11_isSound_85 (by decide) (fun c9 => ?_) (fun c9 => ?_)
          · have h := h.1 c9
            refine r_iconst (v := 0) hC dX11_isSound_99 (by decide) ?_
            refine r_istore_n (i := 1) (lv' := [(1, .int (0 : Int32)), (3, va_rf v59), (0, va_rf x0), (2, .int x2)]) hC dX11_isSound_100 rfl (by decide) (by first | rfl | simp [lvs1, lvs2, List.filter, cat_rf, cat_i, cat_j]) ?_
            refine r_iinc (w := 3) (v := x2 + 1) (lv' := [(2, .int (x2 + 1)), (1, .int (0 : Int32)), (3, va_rf v59), (0, va_rf x0)]) hC dX11_isSound_101 rfl rfl (by decide) (by first | rfl | simp [lvs1, List.filter, cat_rf, cat_i, cat_j]) ?_
            refine r_goto (tgt := 45) hC dX11_isSound_104 (by decide) ?_
            exact RR.wid (by decide) (by decide) (RR.sub [3, 1, 0] rfl (ih _ _ _ _ h))
          · have h := h.2 c9
            refine r_aload_n hC dX11_isSound_88 rfl 0 rfl ?_
            obtain ⟨a89, o89, h⟩ := h
            refine r_VI hC hAo [] cal_X3_isInBounds ml_X11_421 (ci := 6) rfl rfl rfl (c_X3_isInBounds G _ _ _ _ h) o89 ⟨by decide, by decide⟩ ⟨by decide, by decide⟩ (by simp only [List.map_nil, List.map_cons, List.sum_nil, List.sum_cons, cat_rf, cat_i, cat_j]; decide) rfl dX11_isSound_89 (fun E u hx9 => hx _ _ _ _ _ _ _ (by decide) (by decide) hx9) (fun v89 ph89 h => ?_)
            refine RR.wid (k' := 0) (n' := 0) (by decide) (by decide) ?_
            refine r_if_eq (tgt := 99) hC dX11_isSound_92 (by decide) (fun c9 => ?_) (fun c9 => ?_)
            · have h := h.1 c9
              refine r_iconst (v := 0) hC dX11_isSound_99 (by decide) ?_
              refine r_istore_n (i := 1) (lv' := [(1, .int (0 : Int32)), (3, va_rf v59), (0, va_rf x0), (2, .int x2)]) hC dX11_isSound_100 rfl (by decide) (by first | rfl | simp [lvs1, lvs2, List.filter, cat_rf, cat_i, cat_j]) ?_
              refine r_iinc (w := 3) (v := x2 + 1) (lv' := [(2, .int (x2 + 1)), (1, .int (0 : Int32)), (3, va_rf v59), (0, va_rf x0)]) hC dX11_isSound_101 rfl rfl (by decide) (by first | rfl | simp [lvs1, List.filter, cat_rf, cat_i, cat_j]) ?_
              refine r_goto (tgt := 45) hC dX11_isSound_104 (by decide) ?_
              exact RR.wid (by decide) (by decide) (RR.sub [3, 1, 0] rfl (ih _ _ _ _ h))
            · have h := h.2 c9
              refine r_iconst (v := 1) hC dX11_isSound_95 (by decide) ?_
              refine r_goto (tgt := 100) hC dX11_isSound_96 (by decide) ?_
              refine r_istore_n (i := 1) (lv' := [(1, .int (1 : Int32)), (3, va_rf v59), (0, va_rf x0), (2, .int x2)]) hC dX11_isSound_100 rfl (by decide) (by first | rfl | simp [lvs1, lvs2, List.filter, cat_rf, cat_i, cat_j]) ?_
              refine r_iinc (w := 3) (v := x2 + 1) (lv' := [(2, .int (x2 + 1)), (1, .int (1 : Int32)), (3, va_rf v59), (0, va_rf x0)]) hC dX11_isSound_101 rfl rfl (by decide) (by first | rfl | simp [lvs1, List.filter, cat_rf, cat_i, cat_j]) ?_
              refine r_goto (tgt := 45) hC dX11_isSound_104 (by decide) ?_
              exact RR.wid (by decide) (by decide) (RR.sub [3, 1, 0] rfl (ih _ _ _ _ h))
        · have h := h.2 c9
          refine r_iload_n hC dX11_isSound_69 rfl 3 rfl ?_
          refine r_aload_n hC dX11_isSound_70 rfl 1 rfl ?_
          obtain ⟨v71, g71, h⟩ := h
          refine r_get hC (ci := 12) (kf := 2) (N := 12) (Cn := RX11) (T := TX11) rfl (by decide) tin_X11 fl_X11_397 rfl dX11_isSound_71 g71 ?_
          refine r_icmp_lt (tgt := 99) hC dX11_isSound_74 (by decide) (fun c9 => ?_) (fun c9 => ?_)
          · have h := h.1 c9
            refine r_iconst (v := 0) hC dX11_isSound_99 (by decide) ?_
            refine r_istore_n (i := 1) (lv' := [(1, .int (0 : Int32)), (3, va_rf v59), (0, va_rf x0), (2, .int x2)]) hC dX11_isSound_100 rfl (by decide) (by first | rfl | simp [lvs1, lvs2, List.filter, cat_rf, cat_i, cat_j]) ?_
            refine r_iinc (w := 3) (v := x2 + 1) (lv' := [(2, .int (x2 + 1)), (1, .int (0 : Int32)), (3, va_rf v59), (0, va_rf x0)]) hC dX11_isSound_101 rfl rfl (by decide) (by first | rfl | simp [lvs1, List.filter, cat_rf, cat_i, cat_j]) ?_
            refine r_goto (tgt := 45) hC dX11_isSound_104 (by decide) ?_
            exact RR.wid (by decide) (by decide) (RR.sub [3, 1, 0] rfl (ih _ _ _ _ h))
          · have h := h.2 c9
            refine r_goto (tgt := 95) hC dX11_isSound_77 (by decide) ?_
            refine r_iconst (v := 1) hC dX11_isSound_95 (by decide) ?_
            refine r_goto (tgt := 100) hC dX11_isSound_96 (by decide) ?_
            refine r_istore_n (i := 1) (lv' := [(1, .int (1 : Int32)), (3, va_rf v59), (0, va_rf x0), (2, .int x2)]) hC dX11_isSound_100 rfl (by decide) (by first | rfl | simp [lvs1, lvs2, List.filter, cat_rf, cat_i, cat_j]) ?_
            refine r_iinc (w := 3) (v := x2 + 1) (lv' := [(2, .int (x2 + 1)), (1, .int (1 : Int32)), (3, va_rf v59), (0, va_rf x0)]) hC dX11_isSound_101 rfl rfl (by decide) (by first | rfl | simp [lvs1, List.filter, cat_rf, cat_i, cat_j]) ?_
            refine r_goto (tgt := 45) hC dX11_isSound_104 (by decide) ?_
            exact RR.wid (by decide) (by decide) (RR.sub [3, 1, 0] rfl (ih _ _ _ _ h))
set_option maxRecDepth 20000 in
theorem c_X11_isSound (G : GG) (x0 : Nat) (ph : PH) (Q : Int32 → PH → Prop) (X : String → PH → Prop) (h : w_X11_isSound x0 ph Q X) : Ct G yX11_isSound (.code yX11_isSound cX11_isSound 4 (some (.boolean))) 3 62 0 0 [va_rf (some x0)] ph (oI Q) X := by
  refine ct_of (lv0 := [(0, va_rf (some x0))]) (by decide +kernel) (by simp [lg_sl, cat_rf, cat_i, cat_j]) (by simp [lv_args, cat_rf, cat_i, cat_j]) ?_
  intro C A hC hAo hex hrt hnm
  have hr : HZ C (ZM C G A (oI Q) X 0 0) A G 4 cX11_isSound 0 0 Q := fun pc lv v ph k n d hk hn hq => e_s hC (ty := .boolean) hrt pc lv v ph k n d hk hn ⟨hq.1, v, rfl, hq.2⟩
  have hx := e_x (Q := oI Q) (X := X) (mc := 0) (ms := 0) hC hex
  have hn := e_n (Q := oI Q) (X := X) (mc := 0) (ms := 0) hC hex
  have hnw := e_nw (Q := oI Q) (X := X) (mc := 0) (ms := 0) hC hex
  have hnx := e_nx (Q := oI Q) (X := X) (mc := 0) (ms := 0) hC hex
  have hi : True := trivial
  generalize ZM C G A (oI Q) X 0 0 = Z at *
  refine r_aload_n hC dX11_isSound_0 rfl 0 rfl ?_
  obtain ⟨v1, g1, h⟩ := h
  refine r_get hC (ci := 12) (kf := 0) (N := 12) (Cn := RX11) (T := TX11) rfl (by decide) tin_X11 fl_X11_10 rfl dX11_isSound_1 g1 ?_
  obtain ⟨a4, o4, h⟩ := h
  refine r_VI hC hAo [] cal_X9_isInBounds ml_X11_418 (ci := 10) rfl rfl rfl (c_X9_isInBounds G _ _ _ _ h) o4 ⟨by decide, by decide⟩ ⟨by decide, by decide⟩ (by simp only [List.map_nil, List.map_cons, List.sum_nil, List.sum_cons, cat_rf, cat_i, cat_j]; decide) rfl dX11_isSound_4 (fun E u hx9 => hx _ _ _ _ _ _ _ (by decide) (by decide) hx9) (fun v4 ph4 h => ?_)
  refine RR.wid (k' := 0) (n' := 0) (by decide) (by decide) ?_
  refine r_if_eq (tgt := 41) hC dX11_isSound_7 (by decide) (fun c9 => ?_) (fun c9 => ?_)
  · have h := h.1 c9
    refine r_iconst (v := 0) hC dX11_isSound_41 (by decide) ?_
    refine r_istore_n (i := 1) (lv' := [(1, .int (0 : Int32)), (0, va_rf (some x0))]) hC dX11_isSound_42 rfl (by decide) (by first | rfl | simp [lvs1, lvs2, List.filter, cat_rf, cat_i, cat_j]) ?_
    refine r_iconst (v := 0) hC dX11_isSound_43 (by decide) ?_
    refine r_istore_n (i := 2) (lv' := [(2, .int (0 : Int32)), (1, .int (0 : Int32)), (0, va_rf (some x0))]) hC dX11_isSound_44 rfl (by decide) (by first | rfl | simp [lvs1, lvs2, List.filter, cat_rf, cat_i, cat_j]) ?_
    obtain ⟨fu45, h⟩ := h
    exact RR.wid (by decide) (by decide) (RR.sub [2, 1, 0] rfl (b_X11_isSound_45 hC hAo hr hx hn hnw hnx hi  fu45 _ _ _ _ h))
  · have h := h.2 c9
    refine r_aload_n hC dX11_isSound_10 rfl 0 rfl ?_
    obtain ⟨v11, g11, h⟩ := h
    refine r_get hC (ci := 12) (kf := 2) (N := 12) (Cn := RX11) (T := TX11) rfl (by decide) tin_X11 fl_X11_397 rfl dX11_isSound_11 g11 ?_
    refine r_bipush (v := 8) hC dX11_isSound_14 (by decide) ?_
    refine r_icmp_gt (tgt := 41) hC dX11_isSound_16 (by decide) (fun c9 => ?_) (fun c9 => ?_)
    · have h := h.1 c9
      refine r_iconst (v := 0) hC dX11_isSound_41 (by decide) ?_
      refine r_istore_n (i := 1) (lv' := [(1, .int (0 : Int32)), (0, va_rf (some x0))]) hC dX11_isSound_42 rfl (by decide) (by first | rfl | simp [lvs1, lvs2, List.filter, cat_rf, cat_i, cat_j]) ?_
      refine r_iconst (v := 0) hC dX11_isSound_43 (by decide) ?_
      refine r_istore_n (i := 2) (lv' := [(2, .int (0 : Int32)), (1, .int (0 : Int32)), (0, va_rf (some x0))]) hC dX11_isSound_44 rfl (by decide) (by first | rfl | simp [lvs1, lvs2, List.filter, cat_rf, cat_i, cat_j]) ?_
      obtain ⟨fu45, h⟩ := h
      exact RR.wid (by decide) (by decide) (RR.sub [2, 1, 0] rfl (b_X11_isSound_45 hC hAo hr hx hn hnw hnx hi  fu45 _ _ _ _ h))
    · have h := h.2 c9
      refine r_aload_n hC dX11_isSound_19 rfl 0 rfl ?_
      obtain ⟨v20, g20, h⟩ := h
      refine r_get hC (ci := 12) (kf := 4) (N := 12) (Cn := RX11) (T := TX11) rfl (by decide) tin_X11 fl_X11_231 rfl dX11_isSound_20 g20 ?_
      refine r_bipush (v := 6) hC dX11_isSound_23 (by decide) ?_
      refine r_icmp_gt (tgt := 41) hC dX11_isSound_25 (by decide) (fun c9 => ?_) (fun c9 => ?_)
      · have h := h.1 c9
        refine r_iconst (v := 0) hC dX11_isSound_41 (by decide) ?_
        refine r_istore_n (i := 1) (lv' := [(1, .int (0 : Int32)), (0, va_rf (some x0))]) hC dX11_isSound_42 rfl (by decide) (by first | rfl | simp [lvs1, lvs2, List.filter, cat_rf, cat_i, cat_j]) ?_
        refine r_iconst (v := 0) hC dX11_isSound_43 (by decide) ?_
        refine r_istore_n (i := 2) (lv' := [(2, .int (0 : Int32)), (1, .int (0 : Int32)), (0, va_rf (some x0))]) hC dX11_isSound_44 rfl (by decide) (by first | rfl | simp [lvs1, lvs2, List.filter, cat_rf, cat_i, cat_j]) ?_
        obtain ⟨fu45, h⟩ := h
        exact RR.wid (by decide) (by decide) (RR.sub [2, 1, 0] rfl (b_X11_isSound_45 hC hAo hr hx hn hnw hnx hi  fu45 _ _ _ _ h))
      · have h := h.2 c9
        refine r_aload_n hC dX11_isSound_28 rfl 0 rfl ?_
        obtain ⟨v29, g29, h⟩ := h
        refine r_get hC (ci := 12) (kf := 6) (N := 12) (Cn := RX11) (T := TX11) rfl (by decide) tin_X11 fl_X11_279 rfl dX11_isSound_29 g29 ?_
        refine r_bipush (v := 8) hC dX11_isSound_32 (by decide) ?_
        refine r_icmp_gt (tgt := 41) hC dX11_isSound_34 (by decide) (fun c9 => ?_) (fun c9 => ?_)
        · have h := h.1 c9
          refine r_iconst (v := 0) hC dX11_isSound_41 (by decide) ?_
          refine r_istore_n (i := 1) (lv' := [(1, .int (0 : Int32)), (0, va_rf (some x0))]) hC dX11_isSound_42 rfl (by decide) (by first | rfl | simp [lvs1, lvs2, List.filter, cat_rf, cat_i, cat_j]) ?_
          refine r_iconst (v := 0) hC dX11_isSound_43 (by decide) ?_
          refine r_istore_n (i := 2) (lv' := [(2, .int (0 : Int32)), (1, .int (0 : Int32)), (0, va_rf (some x0))]) hC dX11_isSound_44 rfl (by decide) (by first | rfl | simp [lvs1, lvs2, List.filter, cat_rf, cat_i, cat_j]) ?_
          obtain ⟨fu45, h⟩ := h
          exact RR.wid (by decide) (by decide) (RR.sub [2, 1, 0] rfl (b_X11_isSound_45 hC hAo hr hx hn hnw hnx hi  fu45 _ _ _ _ h))
        · have h := h.2 c9
          refine r_iconst (v := 1) hC dX11_isSound_37 (by decide) ?_
          refine r_goto (tgt := 42) hC dX11_isSound_38 (by decide) ?_
          refine r_istore_n (i := 1) (lv' := [(1, .int (1 : Int32)), (0, va_rf (some x0))]) hC dX11_isSound_42 rfl (by decide) (by first | rfl | simp [lvs1, lvs2, List.filter, cat_rf, cat_i, cat_j]) ?_
          refine r_iconst (v := 0) hC dX11_isSound_43 (by decide) ?_
          refine r_istore_n (i := 2) (lv' := [(2, .int (0 : Int32)), (1, .int (1 : Int32)), (0, va_rf (some x0))]) hC dX11_isSound_44 rfl (by decide) (by first | rfl | simp [lvs1, lvs2, List.filter, cat_rf, cat_i, cat_j]) ?_
          obtain ⟨fu45, h⟩ := h
          exact RR.wid (by decide) (by decide) (RR.sub [2, 1, 0] rfl (b_X11_isSound_45 hC hAo hr hx hn hnw hnx hi  fu45 _ _ _ _ h))
set_option maxRecDepth 20000 in
theorem b_L_call_207 {C : Cx} {Z : State → Prop} {A : Nat → Prop} {G : GG} {Q : Int64 → PH → Prop} {X : String → PH → Prop} (hC : CxOk RL cL_call 8 G A (rmk 17 458 6 165) C) (hAo : Ao (xs C)) (hr : HJ C Z A G 8 cL_call 6 165 Q) (hT : (xc C).exceptionTable.toList = tableOf HHL) : ∀ (s0 : Int32) (s1 : Int32) (s2 : Int32) (s3 : Int32) (s4 : Int32) (s5 : Option Nat) (ph : PH), w_L_call_207 Q X s0 s1 s2 s3 s4 s5 ph → RR C Z A G 8 207 [] [.int s0, .int s1, .int s2, .int s3, .int s4, va_rf s5] ph 0 0 := by
  intro s0 s1 s2 s3 s4 s5 ph h
  obtain ⟨a207, o207, h⟩ := h
  refine r_VI hC hAo [.int s4, .int s3, .int s2, .int s1, .int s0] cal_X11_edge ml_L_19 (ci := 12) rfl rfl rfl (c_X11_edge G _ _ _ _ _ _ _ _ _ h) o207 ⟨by decide, by decide⟩ ⟨by decide, by decide⟩ (by simp only [List.map_nil, List.map_cons, List.sum_nil, List.sum_cons, cat_rf, cat_i, cat_j]; decide) rfl dL_call_207 (fun E u hx9 => r_xcall hC hT hAo hr (by decide +kernel) E u hx9 (by decide) (by decide)) (fun v207 ph207 h => ?_)
  refine RR.wid (k' := 2) (n' := 12) (by decide) (by decide) ?_
  refine r_if_eq (tgt := 217) hC dL_call_210 (by decide) (fun c9 => ?_) (fun c9 => ?_)
  · have h := h.1 c9
    refine r_lconst (v := 0) hC dL_call_217 (by decide) ?_
    exact hr _ _ _ _ _ _ dL_call_218 (by decide) (by decide) h
  · have h := h.2 c9
    refine r_lconst (v := 1) hC dL_call_213 (by decide) ?_
    refine r_goto (tgt := 218) hC dL_call_214 (by decide) ?_
    exact hr _ _ _ _ _ _ dL_call_218 (by decide) (by decide) h
set_option maxRecDepth 20000 in
theorem b_L_call_356 {C : Cx} {Z : State → Prop} {A : Nat → Prop} {G : GG} {Q : Int64 → PH → Prop} {X : String → PH → Prop} (hC : CxOk RL cL_call 8 G A (rmk 17 458 6 165) C) (hAo : Ao (xs C)) (hr : HJ C Z A G 8 cL_call 6 165 Q) (hT : (xc C).exceptionTable.toList = tableOf HHL) : ∀ (s0 : Int32) (s1 : Int32) (s2 : Int32) (s3 : Option Nat) (ph : PH), w_L_call_356 Q X s0 s1 s2 s3 ph → RR C Z A G 8 356 [] [.int s0, .int s1, .int s2, va_rf s3] ph 0 0 := by
  intro s0 s1 s2 s3 ph h
  obtain ⟨a356, o356, h⟩ := h
  refine r_VJ hC hAo [.int s2, .int s1, .int s0] cal_X11_growth ml_L_66 (ci := 12) rfl rfl rfl (c_X11_growth G _ _ _ _ _ _ _ h) o356 ⟨by decide, by decide⟩ ⟨by decide, by decide⟩ (by simp only [List.map_nil, List.map_cons, List.sum_nil, List.sum_cons, cat_rf, cat_i, cat_j]; decide) rfl dL_call_356 (fun E u hx9 => r_xcall hC hT hAo hr (by decide +kernel) E u hx9 (by decide) (by decide)) (fun v356 ph356 h => ?_)
  refine RR.wid (k' := 3) (n' := 18) (by decide) (by decide) ?_
  exact hr _ _ _ _ _ _ dL_call_359 (by decide) (by decide) h
set_option maxRecDepth 20000 in
theorem c_L_call (G : GG) (x0 : Option Nat) (x1 : Int32) (x2 : Int32) (x3 : Int32) (x4 : Int32) (x5 : Int32) (x6 : Int32) (ph : PH) (Q : Int64 → PH → Prop) (X : String → PH → Prop) (h : w_L_call x0 x1 x2 x3 x4 x5 x6 ph Q X) : Ct G yL_call (.codeWith yL_call cL_call 8 (some (.long)) HHL) 17 458 6 165 [va_rf x0, .int x1, .int x2, .int x3, .int x4, .int x5, .int x6] ph (oJ Q) X := by
  refine ct_ofH (lv0 := [(0, va_rf x0), (1, .int x1), (2, .int x2), (3, .int x3), (4, .int x4), (5, .int x5), (6, .int x6)]) (by decide +kernel) (by simp [lg_sl, cat_rf, cat_i, cat_j]) (by simp [lv_args, cat_rf, cat_i, cat_j]) ?_
  intro C A hC hAo hT hrt hnm
  have hr : HJ C (ZM C G A (oJ Q) X 6 165) A G 8 cL_call 6 165 Q := fun pc lv v ph k n d hk hn hq => e_j hC hrt pc lv v ph k n d hk hn ⟨v, rfl, hq⟩
  generalize ZM C G A (oJ Q) X 6 165 = Z at *
  refine r_iload_n hC dL_call_0 rfl 1 rfl ?_
  obtain ⟨h1_0, h1_1, h1_2, h1_3, h1_4, h1_5, h1_6, h1_7, h1_8, h1_9, h1_10, h1_11, h1_12, h1_13, h1_14, h1_15, h1_16, h1_17, h1_18, h1_19, h1_20, h1_21, h1_22, h1_23, h1_24, h1_25, h1_26, h1_27, h1_28, h1_29, h1_30, h1_31, h1_32, h1_33, h1_34, h1_35, h1_36, h1_37, h1_38, h1_d⟩ := h
  refine r_table hC dL_call_1 (by decide) (fun j off hj hx9 => ?_) (fun hx9 => ⟨593, by decide, ?_⟩)
  · match j, hj, hx9 with
    | 0, hj, hx9 =>
      obtain rfl : (171 : Int) = off := Option.some.inj hj
      refine ⟨172, by decide, ?_⟩
      have h := h1_0 (i32_of hx9 (by decide))
      refine r_aload_n hC dL_call_172 rfl 0 rfl ?_
      refine r_iload_n hC dL_call_173 rfl 2 rfl ?_
      refine r_i2c hC dL_call_174 ?_
      obtain ⟨a175, o175, h⟩ := h
      refine r_VI hC hAo [.int ((x2.toUInt32 % 65536).toInt32)] cal_X11_type ml_L_9 (ci := 12) rfl rfl rfl (c_X11_type G _ _ _ _ _ h) o175 ⟨by decide, by decide⟩ ⟨by decide, by decide⟩ (by simp only [List.map_nil, List.map_cons, List.sum_nil, List.sum_cons, cat_rf, cat_i, cat_j]; decide) rfl dL_call_175 (fun E u hx9 => r_xcall hC hT hAo hr (by decide +kernel) E u hx9 (by decide) (by decide)) (fun v175 ph175 h => ?_)
      refine RR.wid (k' := 1) (n' := 6) (by decide) (by decide) ?_
      refine r_i2l hC dL_call_178 ?_
      exact hr _ _ _ _ _ _ dL_call_179 (by decide) (by decide) h
    | 1, hj, hx9 =>
      obtain rfl : (179 : Int) = off := Option.some.inj hj
      refine ⟨180, by decide, ?_⟩
      have h := h1_1 (i32_of hx9 (by decide))
      refine r_aload_n hC dL_call_180 rfl 0 rfl ?_
      refine r_iload_n hC dL_call_181 rfl 2 rfl ?_
      refine r_iload_n hC dL_call_182 rfl 3 rfl ?_
      obtain ⟨a183, o183, h⟩ := h
      refine r_VI hC hAo [.int x2, .int x3] cal_X11_shift ml_L_15 (ci := 12) rfl rfl rfl (c_X11_shift G _ _ _ _ _ _ h) o183 ⟨by decide, by decide⟩ ⟨by decide, by decide⟩ (by simp only [List.map_nil, List.map_cons, List.sum_nil, List.sum_cons, cat_rf, cat_i, cat_j]; decide) rfl dL_call_183 (fun E u hx9 => r_xcall hC hT hAo hr (by decide +kernel) E u hx9 (by decide) (by decide)) (fun v183 ph183 h => ?_)
      refine RR.wid (k' := 5) (n' := 93) (by decide) (by decide) ?_
      refine r_i2l hC dL_call_186 ?_
      exact hr _ _ _ _ _ _ dL_call_187 (by decide) (by decide) h
    | 2, hj, hx9 =>
      obtain rfl : (187 : Int) = off := Option.some.inj hj
      refine ⟨188, by decide, ?_⟩
      have h := h1_2 (i32_of hx9 (by decide))
      refine r_aload_n hC dL_call_188 rfl 0 rfl ?_
      refine r_iload_n hC dL_call_189 rfl 2 rfl ?_
      refine r_iload_n hC dL_call_190 rfl 3 rfl ?_
      refine r_iload hC dL_call_191 4 rfl ?_
      refine r_i2c hC dL_call_193 ?_
      refine r_iload hC dL_call_194 5 rfl ?_
      refine r_iload hC dL_call_196 6 rfl ?_
      refine r_iconst (v := 1) hC dL_call_198 (by decide) ?_
      refine r_icmp_ne (tgt := 206) hC dL_call_199 (by decide) (fun c9 => ?_) (fun c9 => ?_)
      · have h := h.1 c9
        refine r_iconst (v := 0) hC dL_call_206 (by decide) ?_
        exact RR.wid (by decide) (by decide) (RR.sub [] rfl (b_L_call_207 hC hAo hr hT  _ _ _ _ _ _ _ h))
      · have h := h.2 c9
        refine r_iconst (v := 1) hC dL_call_202 (by decide) ?_
        refine r_goto (tgt := 207) hC dL_call_203 (by decide) ?_
        exact RR.wid (by decide) (by decide) (RR.sub [] rfl (b_L_call_207 hC hAo hr hT  _ _ _ _ _ _ _ h))
    | 3, hj, hx9 =>
      obtain rfl : (218 : Int) = off := Option.some.inj hj
      refine ⟨219, by decide, ?_⟩
      have h := h1_3 (i32_of hx9 (by decide))
      refine r_aload_n hC dL_call_219 rfl 0 rfl ?_
      refine r_iload_n hC dL_call_220 rfl 2 rfl ?_
      obtain ⟨a221, o221, h⟩ := h
      refine r_VI hC hAo [.int x2] cal_X11_forbid ml_L_23 (ci := 12) rfl rfl rfl (c_X11_forbid G _ _ _ _ _ h) o221 ⟨by decide, by decide⟩ ⟨by decide, by decide⟩ (by simp only [List.map_nil, List.map_cons, List.sum_nil, List.sum_cons, cat_rf, cat_i, cat_j]; decide) rfl dL_call_221 (fun E u hx9 => r_xcall hC hT hAo hr (by decide +kernel) E u hx9 (by decide) (by decide)) (fun v221 ph221 h => ?_)
      refine RR.wid (k' := 4) (n' := 87) (by decide) (by decide) ?_
      refine r_i2l hC dL_call_224 ?_
      exact hr _ _ _ _ _ _ dL_call_225 (by decide) (by decide) h
    | 4, hj, hx9 =>
      obtain rfl : (225 : Int) = off := Option.some.inj hj
      refine ⟨226, by decide, ?_⟩
      have h := h1_4 (i32_of hx9 (by decide))
      refine r_aload_n hC dL_call_226 rfl 0 rfl ?_
      refine r_iload_n hC dL_call_227 rfl 2 rfl ?_
      obtain ⟨a228, o228, h⟩ := h
      refine r_VI hC hAo [.int x2] cal_X11_gaps ml_L_27 (ci := 12) rfl rfl rfl (c_X11_gaps G _ _ _ _ _ h) o228 ⟨by decide, by decide⟩ ⟨by decide, by decide⟩ (by simp only [List.map_nil, List.map_cons, List.sum_nil, List.sum_cons, cat_rf, cat_i, cat_j]; decide) rfl dL_call_228 (fun E u hx9 => r_xcall hC hT hAo hr (by decide +kernel) E u hx9 (by decide) (by decide)) (fun v228 ph228 h => ?_)
      refine RR.wid (k' := 4) (n' := 87) (by decide) (by decide) ?_
      refine r_i2l hC dL_call_231 ?_
      exact hr _ _ _ _ _ _ dL_call_232 (by decide) (by decide) h
    | 5, hj, hx9 =>
      obtain rfl : (232 : Int) = off := Option.some.inj hj
      refine ⟨233, by decide, ?_⟩
      have h := h1_5 (i32_of hx9 (by decide))
      refine r_aload_n hC dL_call_233 rfl 0 rfl ?_
      refine r_iload_n hC dL_call_234 rfl 2 rfl ?_
      obtain ⟨a235, o235, h⟩ := h
      refine r_VI hC hAo [.int x2] cal_X11_states ml_L_30 (ci := 12) rfl rfl rfl (c_X11_states G _ _ _ _ _ h) o235 ⟨by decide, by decide⟩ ⟨by decide, by decide⟩ (by simp only [List.map_nil, List.map_cons, List.sum_nil, List.sum_cons, cat_rf, cat_i, cat_j]; decide) rfl dL_call_235 (fun E u hx9 => r_xcall hC hT hAo hr (by decide +kernel) E u hx9 (by decide) (by decide)) (fun v235 ph235 h => ?_)
      refine RR.wid (k' := 1) (n' := 6) (by decide) (by decide) ?_
      refine r_i2l hC dL_call_238 ?_
      exact hr _ _ _ _ _ _ dL_call_239 (by decide) (by decide) h
    | 6, hj, hx9 =>
      obtain rfl : (239 : Int) = off := Option.some.inj hj
      refine ⟨240, by decide, ?_⟩
      have h := h1_6 (i32_of hx9 (by decide))
      refine r_aload_n hC dL_call_240 rfl 0 rfl ?_
      refine r_iload_n hC dL_call_241 rfl 2 rfl ?_
      refine r_iload_n hC dL_call_242 rfl 3 rfl ?_
      obtain ⟨a243, o243, h⟩ := h
      refine r_VI hC hAo [.int x2, .int x3] cal_X11_words ml_L_33 (ci := 12) rfl rfl rfl (c_X11_words G _ _ _ _ _ _ h) o243 ⟨by decide, by decide⟩ ⟨by decide, by decide⟩ (by simp only [List.map_nil, List.map_cons, List.sum_nil, List.sum_cons, cat_rf, cat_i, cat_j]; decide) rfl dL_call_243 (fun E u hx9 => r_xcall hC hT hAo hr (by decide +kernel) E u hx9 (by decide) (by decide)) (fun v243 ph243 h => ?_)
      refine RR.wid (k' := 2) (n' := 12) (by decide) (by decide) ?_
      refine r_i2l hC dL_call_246 ?_
      exact hr _ _ _ _ _ _ dL_call_247 (by decide) (by decide) h
    | 7, hj, hx9 => exact (h1_7 (i32_of hx9 (by decide))).elim
    | 8, hj, hx9 =>
      obtain rfl : (261 : Int) = off := Option.some.inj hj
      refine ⟨262, by decide, ?_⟩
      have h := h1_8 (i32_of hx9 (by decide))
      refine r_aload_n hC dL_call_262 rfl 0 rfl ?_
      refine r_iload_n hC dL_call_263 rfl 2 rfl ?_
      refine r_iload_n hC dL_call_264 rfl 3 rfl ?_
      obtain ⟨a265, o265, h⟩ := h
      refine r_VI hC hAo [.int x2, .int x3] cal_X11_points ml_L_40 (ci := 12) rfl rfl rfl (c_X11_points G _ _ _ _ _ _ h) o265 ⟨by decide, by decide⟩ ⟨by decide, by decide⟩ (by simp only [List.map_nil, List.map_cons, List.sum_nil, List.sum_cons, cat_rf, cat_i, cat_j]; decide) rfl dL_call_265 (fun E u hx9 => r_xcall hC hT hAo hr (by decide +kernel) E u hx9 (by decide) (by decide)) (fun v265 ph265 h => ?_)
      refine RR.wid (k' := 2) (n' := 12) (by decide) (by decide) ?_
      refine r_i2l hC dL_call_268 ?_
      exact hr _ _ _ _ _ _ dL_call_269 (by decide) (by decide) h
    | 9, hj, hx9 =>
      obtain rfl : (269 : Int) = off := Option.some.inj hj
      refine ⟨270, by decide, ?_⟩
      have h := h1_9 (i32_of hx9 (by decide))
      refine r_aload_n hC dL_call_270 rfl 0 rfl ?_
      refine r_iload_n hC dL_call_271 rfl 2 rfl ?_
      obtain ⟨a272, o272, h⟩ := h
      refine r_VI hC hAo [.int x2] cal_X11_parts ml_L_43 (ci := 12) rfl rfl rfl (c_X11_parts G _ _ _ _ _ h) o272 ⟨by decide, by decide⟩ ⟨by decide, by decide⟩ (by simp only [List.map_nil, List.map_cons, List.sum_nil, List.sum_cons, cat_rf, cat_i, cat_j]; decide) rfl dL_call_272 (fun E u hx9 => r_xcall hC hT hAo hr (by decide +kernel) E u hx9 (by decide) (by decide)) (fun v272 ph272 h => ?_)
      refine RR.wid (k' := 1) (n' := 6) (by decide) (by decide) ?_
      refine r_i2l hC dL_call_275 ?_
      exact hr _ _ _ _ _ _ dL_call_276 (by decide) (by decide) h
    | 10, hj, hx9 => exact (h1_10 (i32_of hx9 (by decide))).elim
    | 11, hj, hx9 =>
      obtain rfl : (284 : Int) = off := Option.some.inj hj
      refine ⟨285, by decide, ?_⟩
      have h := h1_11 (i32_of hx9 (by decide))
      refine r_aload_n hC dL_call_285 rfl 0 rfl ?_
      refine r_iload_n hC dL_call_286 rfl 2 rfl ?_
      obtain ⟨a287, o287, h⟩ := h
      refine r_VI hC hAo [.int x2] cal_X11_isIrreducible ml_L_49 (ci := 12) rfl rfl rfl (c_X11_isIrreducible G _ _ _ _ _ h) o287 ⟨by decide, by decide⟩ ⟨by decide, by decide⟩ (by simp only [List.map_nil, List.map_cons, List.sum_nil, List.sum_cons, cat_rf, cat_i, cat_j]; decide) rfl dL_call_287 (fun E u hx9 => r_xcall hC hT hAo hr (by decide +kernel) E u hx9 (by decide) (by decide)) (fun v287 ph287 h => ?_)
      refine RR.wid (k' := 1) (n' := 6) (by decide) (by decide) ?_
      refine r_if_eq (tgt := 297) hC dL_call_290 (by decide) (fun c9 => ?_) (fun c9 => ?_)
      · have h := h.1 c9
        refine r_lconst (v := 0) hC dL_call_297 (by decide) ?_
        exact hr _ _ _ _ _ _ dL_call_298 (by decide) (by decide) h
      · have h := h.2 c9
        refine r_lconst (v := 1) hC dL_call_293 (by decide) ?_
        refine r_goto (tgt := 298) hC dL_call_294 (by decide) ?_
        exact hr _ _ _ _ _ _ dL_call_298 (by decide) (by decide) h
    | 12, hj, hx9 => exact (h1_12 (i32_of hx9 (by decide))).elim
    | 13, hj, hx9 =>
      obtain rfl : (312 : Int) = off := Option.some.inj hj
      refine ⟨313, by decide, ?_⟩
      have h := h1_13 (i32_of hx9 (by decide))
      refine r_aload_n hC dL_call_313 rfl 0 rfl ?_
      refine r_iload_n hC dL_call_314 rfl 2 rfl ?_
      obtain ⟨a315, o315, h⟩ := h
      refine r_VI hC hAo [.int x2] cal_X11_futures ml_L_55 (ci := 12) rfl rfl rfl (c_X11_futures G _ _ _ _ _ h) o315 ⟨by decide, by decide⟩ ⟨by decide, by decide⟩ (by simp only [List.map_nil, List.map_cons, List.sum_nil, List.sum_cons, cat_rf, cat_i, cat_j]; decide) rfl dL_call_315 (fun E u hx9 => r_xcall hC hT hAo hr (by decide +kernel) E u hx9 (by decide) (by decide)) (fun v315 ph315 h => ?_)
      refine RR.wid (k' := 2) (n' := 12) (by decide) (by decide) ?_
      refine r_i2l hC dL_call_318 ?_
      exact hr _ _ _ _ _ _ dL_call_319 (by decide) (by decide) h
    | 14, hj, hx9 =>
      obtain rfl : (319 : Int) = off := Option.some.inj hj
      refine ⟨320, by decide, ?_⟩
      have h := h1_14 (i32_of hx9 (by decide))
      refine r_aload_n hC dL_call_320 rfl 0 rfl ?_
      refine r_iload_n hC dL_call_321 rfl 2 rfl ?_
      refine r_iload_n hC dL_call_322 rfl 3 rfl ?_
      obtain ⟨a323, o323, h⟩ := h
      refine r_VI hC hAo [.int x2, .int x3] cal_X11_areSame ml_L_58 (ci := 12) rfl rfl rfl (c_X11_areSame G _ _ _ _ _ _ h) o323 ⟨by decide, by decide⟩ ⟨by decide, by decide⟩ (by simp only [List.map_nil, List.map_cons, List.sum_nil, List.sum_cons, cat_rf, cat_i, cat_j]; decide) rfl dL_call_323 (fun E u hx9 => r_xcall hC hT hAo hr (by decide +kernel) E u hx9 (by decide) (by decide)) (fun v323 ph323 h => ?_)
      refine RR.wid (k' := 3) (n' := 18) (by decide) (by decide) ?_
      refine r_if_eq (tgt := 333) hC dL_call_326 (by decide) (fun c9 => ?_) (fun c9 => ?_)
      · have h := h.1 c9
        refine r_lconst (v := 0) hC dL_call_333 (by decide) ?_
        exact hr _ _ _ _ _ _ dL_call_334 (by decide) (by decide) h
      · have h := h.2 c9
        refine r_lconst (v := 1) hC dL_call_329 (by decide) ?_
        refine r_goto (tgt := 334) hC dL_call_330 (by decide) ?_
        exact hr _ _ _ _ _ _ dL_call_334 (by decide) (by decide) h
    | 15, hj, hx9 =>
      obtain rfl : (334 : Int) = off := Option.some.inj hj
      refine ⟨335, by decide, ?_⟩
      have h := h1_15 (i32_of hx9 (by decide))
      refine r_aload_n hC dL_call_335 rfl 0 rfl ?_
      refine r_iload_n hC dL_call_336 rfl 2 rfl ?_
      refine r_iload_n hC dL_call_337 rfl 3 rfl ?_
      obtain ⟨a338, o338, h⟩ := h
      refine r_VJ hC hAo [.int x2, .int x3] cal_X11_series ml_L_62 (ci := 12) rfl rfl rfl (c_X11_series G _ _ _ _ _ _ h) o338 ⟨by decide, by decide⟩ ⟨by decide, by decide⟩ (by simp only [List.map_nil, List.map_cons, List.sum_nil, List.sum_cons, cat_rf, cat_i, cat_j]; decide) rfl dL_call_338 (fun E u hx9 => r_xcall hC hT hAo hr (by decide +kernel) E u hx9 (by decide) (by decide)) (fun v338 ph338 h => ?_)
      refine RR.wid (k' := 3) (n' := 18) (by decide) (by decide) ?_
      exact hr _ _ _ _ _ _ dL_call_341 (by decide) (by decide) h
    | 16, hj, hx9 =>
      obtain rfl : (341 : Int) = off := Option.some.inj hj
      refine ⟨342, by decide, ?_⟩
      have h := h1_16 (i32_of hx9 (by decide))
      refine r_aload_n hC dL_call_342 rfl 0 rfl ?_
      refine r_iload_n hC dL_call_343 rfl 2 rfl ?_
      refine r_iload_n hC dL_call_344 rfl 3 rfl ?_
      refine r_iload hC dL_call_345 4 rfl ?_
      refine r_iconst (v := 1) hC dL_call_347 (by decide) ?_
      refine r_icmp_ne (tgt := 355) hC dL_call_348 (by decide) (fun c9 => ?_) (fun c9 => ?_)
      · have h := h.1 c9
        refine r_iconst (v := 0) hC dL_call_355 (by decide) ?_
        exact RR.wid (by decide) (by decide) (RR.sub [] rfl (b_L_call_356 hC hAo hr hT  _ _ _ _ _ h))
      · have h := h.2 c9
        refine r_iconst (v := 1) hC dL_call_351 (by decide) ?_
        refine r_goto (tgt := 356) hC dL_call_352 (by decide) ?_
        exact RR.wid (by decide) (by decide) (RR.sub [] rfl (b_L_call_356 hC hAo hr hT  _ _ _ _ _ h))
    | 17, hj, hx9 =>
      obtain rfl : (359 : Int) = off := Option.some.inj hj
      refine ⟨360, by decide, ?_⟩
      have h := h1_17 (i32_of hx9 (by decide))
      refine r_aload_n hC dL_call_360 rfl 0 rfl ?_
      refine r_iload_n hC dL_call_361 rfl 2 rfl ?_
      obtain ⟨a362, o362, h⟩ := h
      refine r_VI hC hAo [.int x2] cal_X11_code ml_L_70 (ci := 12) rfl rfl rfl (c_X11_code G _ _ _ _ _ h) o362 ⟨by decide, by decide⟩ ⟨by decide, by decide⟩ (by simp only [List.map_nil, List.map_cons, List.sum_nil, List.sum_cons, cat_rf, cat_i, cat_j]; decide) rfl dL_call_362 (fun E u hx9 => r_xcall hC hT hAo hr (by decide +kernel) E u hx9 (by decide) (by decide)) (fun v362 ph362 h => ?_)
      refine RR.wid (k' := 3) (n' := 17) (by decide) (by decide) ?_
      refine r_i2l hC dL_call_365 ?_
      exact hr _ _ _ _ _ _ dL_call_366 (by decide) (by decide) h
    | 18, hj, hx9 =>
      obtain rfl : (366 : Int) = off := Option.some.inj hj
      refine ⟨367, by decide, ?_⟩
      have h := h1_18 (i32_of hx9 (by decide))
      refine r_aload_n hC dL_call_367 rfl 0 rfl ?_
      refine r_iload_n hC dL_call_368 rfl 2 rfl ?_
      refine r_iload_n hC dL_call_369 rfl 3 rfl ?_
      refine r_i2c hC dL_call_370 ?_
      refine r_iload hC dL_call_371 4 rfl ?_
      refine r_i2c hC dL_call_373 ?_
      refine r_iload hC dL_call_374 5 rfl ?_
      refine r_i2c hC dL_call_376 ?_
      obtain ⟨a377, o377, h⟩ := h
      refine r_VI hC hAo [.int x2, .int ((x3.toUInt32 % 65536).toInt32), .int ((x4.toUInt32 % 65536).toInt32), .int ((x5.toUInt32 % 65536).toInt32)] cal_X11_set ml_L_73 (ci := 12) rfl rfl rfl (c_X11_set G _ _ _ _ _ _ _ _ h) o377 ⟨by decide, by decide⟩ ⟨by decide, by decide⟩ (by simp only [List.map_nil, List.map_cons, List.sum_nil, List.sum_cons, cat_rf, cat_i, cat_j]; decide) rfl dL_call_377 (fun E u hx9 => r_xcall hC hT hAo hr (by decide +kernel) E u hx9 (by decide) (by decide)) (fun v377 ph377 h => ?_)
      refine RR.wid (k' := 2) (n' := 12) (by decide) (by decide) ?_
      refine r_i2l hC dL_call_380 ?_
      exact hr _ _ _ _ _ _ dL_call_381 (by decide) (by decide) h
    | 19, hj, hx9 =>
      obtain rfl : (381 : Int) = off := Option.some.inj hj
      refine ⟨382, by decide, ?_⟩
      have h := h1_19 (i32_of hx9 (by decide))
      refine r_aload_n hC dL_call_382 rfl 0 rfl ?_
      refine r_iload_n hC dL_call_383 rfl 2 rfl ?_
      obtain ⟨a384, o384, h⟩ := h
      refine r_VI hC hAo [.int x2] cal_X11_slide ml_L_77 (ci := 12) rfl rfl rfl (c_X11_slide G _ _ _ _ _ h) o384 ⟨by decide, by decide⟩ ⟨by decide, by decide⟩ (by simp only [List.map_nil, List.map_cons, List.sum_nil, List.sum_cons, cat_rf, cat_i, cat_j]; decide) rfl dL_call_384 (fun E u hx9 => r_xcall hC hT hAo hr (by decide +kernel) E u hx9 (by decide) (by decide)) (fun v384 ph384 h => ?_)
      refine RR.wid (k' := 2) (n' := 12) (by decide) (by decide) ?_
      refine r_i2l hC dL_call_387 ?_
      exact hr _ _ _ _ _ _ dL_call_388 (by decide) (by decide) h
    | 20, hj, hx9 =>
      obtain rfl : (388 : Int) = off := Option.some.inj hj
      refine ⟨389, by decide, ?_⟩
      have h := h1_20 (i32_of hx9 (by decide))
      refine r_aload_n hC dL_call_389 rfl 0 rfl ?_
      refine r_iload_n hC dL_call_390 rfl 2 rfl ?_
      obtain ⟨a391, o391, h⟩ := h
      refine r_VI hC hAo [.int x2] cal_X11_signAt ml_L_80 (ci := 12) rfl rfl rfl (c_X11_signAt G _ _ _ _ _ h) o391 ⟨by decide, by decide⟩ ⟨by decide, by decide⟩ (by simp only [List.map_nil, List.map_cons, List.sum_nil, List.sum_cons, cat_rf, cat_i, cat_j]; decide) rfl dL_call_391 (fun E u hx9 => r_xcall hC hT hAo hr (by decide +kernel) E u hx9 (by decide) (by decide)) (fun v391 ph391 h => ?_)
      refine RR.wid (k' := 1) (n' := 6) (by decide) (by decide) ?_
      refine r_i2l hC dL_call_394 ?_
      exact hr _ _ _ _ _ _ dL_call_395 (by decide) (by decide) h
    | 21, hj, hx9 =>
      obtain rfl : (395 : Int) = off := Option.some.inj hj
      refine ⟨396, by decide, ?_⟩
      have h := h1_21 (i32_of hx9 (by decide))
      refine r_aload_n hC dL_call_396 rfl 0 rfl ?_
      refine r_iload_n hC dL_call_397 rfl 2 rfl ?_
      refine r_iload_n hC dL_call_398 rfl 3 rfl ?_
      obtain ⟨a399, o399, h⟩ := h
      refine r_VI hC hAo [.int x2, .int x3] cal_X11_image ml_L_84 (ci := 12) rfl rfl rfl (c_X11_image G _ _ _ _ _ _ h) o399 ⟨by decide, by decide⟩ ⟨by decide, by decide⟩ (by simp only [List.map_nil, List.map_cons, List.sum_nil, List.sum_cons, cat_rf, cat_i, cat_j]; decide) rfl dL_call_399 (fun E u hx9 => r_xcall hC hT hAo hr (by decide +kernel) E u hx9 (by decide) (by decide)) (fun v399 ph399 h => ?_)
      refine RR.wid (k' := 6) (n' := 165) (by decide) (by decide) ?_
      refine r_i2l hC dL_call_402 ?_
      exact hr _ _ _ _ _ _ dL_call_403 (by decide) (by decide) h
    | 22, hj, hx9 => exact (h1_22 (i32_of hx9 (by decide))).elim
    | 23, hj, hx9 =>
      obtain rfl : (420 : Int) = off := Option.some.inj hj
      refine ⟨421, by decide, ?_⟩
      have h := h1_23 (i32_of hx9 (by decide))
      refine r_aload_n hC dL_call_421 rfl 0 rfl ?_
      refine r_iload_n hC dL_call_422 rfl 2 rfl ?_
      refine r_iload_n hC dL_call_423 rfl 3 rfl ?_
      obtain ⟨a424, o424, h⟩ := h
      refine r_VI hC hAo [.int x2, .int x3] cal_X11_matrix ml_L_91 (ci := 12) rfl rfl rfl (c_X11_matrix G _ _ _ _ _ _ h) o424 ⟨by decide, by decide⟩ ⟨by decide, by decide⟩ (by simp only [List.map_nil, List.map_cons, List.sum_nil, List.sum_cons, cat_rf, cat_i, cat_j]; decide) rfl dL_call_424 (fun E u hx9 => r_xcall hC hT hAo hr (by decide +kernel) E u hx9 (by decide) (by decide)) (fun v424 ph424 h => ?_)
      refine RR.wid (k' := 4) (n' := 159) (by decide) (by decide) ?_
      refine r_i2l hC dL_call_427 ?_
      exact hr _ _ _ _ _ _ dL_call_428 (by decide) (by decide) h
    | 24, hj, hx9 =>
      obtain rfl : (428 : Int) = off := Option.some.inj hj
      refine ⟨429, by decide, ?_⟩
      have h := h1_24 (i32_of hx9 (by decide))
      refine r_aload_n hC dL_call_429 rfl 0 rfl ?_
      refine r_iload_n hC dL_call_430 rfl 2 rfl ?_
      refine r_iload_n hC dL_call_431 rfl 3 rfl ?_
      refine r_iload hC dL_call_432 4 rfl ?_
      refine r_iload hC dL_call_434 5 rfl ?_
      obtain ⟨a436, o436, h⟩ := h
      refine r_VI hC hAo [.int x2, .int x3, .int x4, .int x5] cal_X11_put ml_L_94 (ci := 12) rfl rfl rfl (c_X11_put G _ _ _ _ _ _ _ _ h) o436 ⟨by decide, by decide⟩ ⟨by decide, by decide⟩ (by simp only [List.map_nil, List.map_cons, List.sum_nil, List.sum_cons, cat_rf, cat_i, cat_j]; decide) rfl dL_call_436 (fun E u hx9 => r_xcall hC hT hAo hr (by decide +kernel) E u hx9 (by decide) (by decide)) (fun v436 ph436 h => ?_)
      refine RR.wid (k' := 3) (n' := 18) (by decide) (by decide) ?_
      refine r_i2l hC dL_call_439 ?_
      exact hr _ _ _ _ _ _ dL_call_440 (by decide) (by decide) h
    | 25, hj, hx9 =>
      obtain rfl : (440 : Int) = off := Option.some.inj hj
      refine ⟨441, by decide, ?_⟩
      have h := h1_25 (i32_of hx9 (by decide))
      refine r_aload_n hC dL_call_441 rfl 0 rfl ?_
      refine r_iload_n hC dL_call_442 rfl 2 rfl ?_
      refine r_iload_n hC dL_call_443 rfl 3 rfl ?_
      refine r_iload hC dL_call_444 4 rfl ?_
      obtain ⟨a446, o446, h⟩ := h
      refine r_VI hC hAo [.int x2, .int x3, .int x4] cal_X11_get ml_L_98 (ci := 12) rfl rfl rfl (c_X11_get G _ _ _ _ _ _ _ h) o446 ⟨by decide, by decide⟩ ⟨by decide, by decide⟩ (by simp only [List.map_nil, List.map_cons, List.sum_nil, List.sum_cons, cat_rf, cat_i, cat_j]; decide) rfl dL_call_446 (fun E u hx9 => r_xcall hC hT hAo hr (by decide +kernel) E u hx9 (by decide) (by decide)) (fun v446 ph446 h => ?_)
      refine RR.wid (k' := 2) (n' := 12) (by decide) (by decide) ?_
      refine r_i2l hC dL_call_449 ?_
      exact hr _ _ _ _ _ _ dL_call_450 (by decide) (by decide) h
    | 26, hj, hx9 =>
      obtain rfl : (450 : Int) = off := Option.some.inj hj
      refine ⟨451, by decide, ?_⟩
      have h := h1_26 (i32_of hx9 (by decide))
      refine r_aload_n hC dL_call_451 rfl 0 rfl ?_
      refine r_iload_n hC dL_call_452 rfl 2 rfl ?_
      refine r_iload_n hC dL_call_453 rfl 3 rfl ?_
      refine r_iload hC dL_call_454 4 rfl ?_
      refine r_iload hC dL_call_456 5 rfl ?_
      obtain ⟨a458, o458, h⟩ := h
      refine r_VI hC hAo [.int x2, .int x3, .int x4, .int x5] cal_X11_split ml_L_102 (ci := 12) rfl rfl rfl (c_X11_split G _ _ _ _ _ _ _ _ h) o458 ⟨by decide, by decide⟩ ⟨by decide, by decide⟩ (by simp only [List.map_nil, List.map_cons, List.sum_nil, List.sum_cons, cat_rf, cat_i, cat_j]; decide) rfl dL_call_458 (fun E u hx9 => r_xcall hC hT hAo hr (by decide +kernel) E u hx9 (by decide) (by decide)) (fun v458 ph458 h => ?_)
      refine RR.wid (k' := 4) (n' := 24) (by decide) (by decide) ?_
      refine r_i2l hC dL_call_461 ?_
      exact hr _ _ _ _ _ _ dL_call_462 (by decide) (by decide) h
    | 27, hj, hx9 => exact (h1_27 (i32_of hx9 (by decide))).elim
    | 28, hj, hx9 => exact (h1_28 (i32_of hx9 (by decide))).elim
    | 29, hj, hx9 => exact (h1_29 (i32_of hx9 (by decide))).elim
    | 30, hj, hx9 =>
      obtain rfl : (497 : Int) = off := Option.some.inj hj
      refine ⟨498, by decide, ?_⟩
      have h := h1_30 (i32_of hx9 (by decide))
      refine r_aload_n hC dL_call_498 rfl 0 rfl ?_
      refine r_iload_n hC dL_call_499 rfl 2 rfl ?_
      refine r_iload_n hC dL_call_500 rfl 3 rfl ?_
      obtain ⟨a501, o501, h⟩ := h
      refine r_VJ hC hAo [.int x2, .int x3] cal_X11_trace ml_L_115 (ci := 12) rfl rfl rfl (c_X11_trace G _ _ _ _ _ _ h) o501 ⟨by decide, by decide⟩ ⟨by decide, by decide⟩ (by simp only [List.map_nil, List.map_cons, List.sum_nil, List.sum_cons, cat_rf, cat_i, cat_j]; decide) rfl dL_call_501 (fun E u hx9 => r_xcall hC hT hAo hr (by decide +kernel) E u hx9 (by decide) (by decide)) (fun v501 ph501 h => ?_)
      refine RR.wid (k' := 3) (n' := 18) (by decide) (by decide) ?_
      exact hr _ _ _ _ _ _ dL_call_504 (by decide) (by decide) h
    | 31, hj, hx9 => exact (h1_31 (i32_of hx9 (by decide))).elim
    | 32, hj, hx9 => exact (h1_32 (i32_of hx9 (by decide))).elim
    | 33, hj, hx9 => exact (h1_33 (i32_of hx9 (by decide))).elim
    | 34, hj, hx9 => exact (h1_34 (i32_of hx9 (by decide))).elim
    | 35, hj, hx9 => exact (h1_35 (i32_of hx9 (by decide))).elim
    | 36, hj, hx9 => exact (h1_36 (i32_of hx9 (by decide))).elim
    | 37, hj, hx9 => exact (h1_37 (i32_of hx9 (by decide))).elim
    | 38, hj, hx9 =>
      obtain rfl : (584 : Int) = off := Option.some.inj hj
      refine ⟨585, by decide, ?_⟩
      have h := h1_38 (i32_of hx9 (by decide))
      refine r_aload_n hC dL_call_585 rfl 0 rfl ?_
      refine r_iload_n hC dL_call_586 rfl 2 rfl ?_
      refine r_i2c hC dL_call_587 ?_
      obtain ⟨a588, o588, h⟩ := h
      refine r_VI hC hAo [.int ((x2.toUInt32 % 65536).toInt32)] cal_X11_becomes ml_L_141 (ci := 12) rfl rfl rfl (c_X11_becomes G _ _ _ _ _ h) o588 ⟨by decide, by decide⟩ ⟨by decide, by decide⟩ (by simp only [List.map_nil, List.map_cons, List.sum_nil, List.sum_cons, cat_rf, cat_i, cat_j]; decide) rfl dL_call_588 (fun E u hx9 => r_xcall hC hT hAo hr (by decide +kernel) E u hx9 (by decide) (by decide)) (fun v588 ph588 h => ?_)
      refine RR.wid (k' := 1) (n' := 6) (by decide) (by decide) ?_
      refine r_i2l hC dL_call_591 ?_
      exact hr _ _ _ _ _ _ dL_call_592 (by decide) (by decide) h
    | (_ + 39), hj, hx9 => exact absurd hj (by simp)
  · have h := h1_d hx9
    refine r_aload_n hC dL_call_593 rfl 0 rfl ?_
    refine r_iload_n hC dL_call_594 rfl 2 rfl ?_
    obtain ⟨a595, o595, h⟩ := h
    refine r_VI hC hAo [.int x2] cal_X11_complexity ml_L_144 (ci := 12) rfl rfl rfl (c_X11_complexity G _ _ _ _ _ h) o595 ⟨by decide, by decide⟩ ⟨by decide, by decide⟩ (by simp only [List.map_nil, List.map_cons, List.sum_nil, List.sum_cons, cat_rf, cat_i, cat_j]; decide) rfl dL_call_595 (fun E u hx9 => r_xcall hC hT hAo hr (by decide +kernel) E u hx9 (by decide) (by decide)) (fun v595 ph595 h => ?_)
    refine RR.wid (k' := 1) (n' := 6) (by decide) (by decide) ?_
    refine r_i2l hC dL_call_598 ?_
    exact hr _ _ _ _ _ _ dL_call_599 (by decide) (by decide) h
set_option maxRecDepth 20000 in
theorem c_L_call_ (G : GG) (x0 : Option Nat) (x1 : Int32) (x2 : Int32) (x3 : Int32) (x4 : Int32) (ph : PH) (Q : Int64 → PH → Prop) (X : String → PH → Prop) (h : w_L_call_ x0 x1 x2 x3 x4 ph Q X) : Ct G yL_call_ (.code yL_call_ cL_call_ 5 (some (.long))) 18 485 6 165 [va_rf x0, .int x1, .int x2, .int x3, .int x4] ph (oJ Q) X := by
  refine ct_of (lv0 := [(0, va_rf x0), (1, .int x1), (2, .int x2), (3, .int x3), (4, .int x4)]) (by decide +kernel) (by simp [lg_sl, cat_rf, cat_i, cat_j]) (by simp [lv_args, cat_rf, cat_i, cat_j]) ?_
  intro C A hC hAo hex hrt hnm
  have hr : HJ C (ZM C G A (oJ Q) X 6 165) A G 5 cL_call_ 6 165 Q := fun pc lv v ph k n d hk hn hq => e_j hC hrt pc lv v ph k n d hk hn ⟨v, rfl, hq⟩
  have hx := e_x (Q := oJ Q) (X := X) (mc := 6) (ms := 165) hC hex
  have hn := e_n (Q := oJ Q) (X := X) (mc := 6) (ms := 165) hC hex
  have hnw := e_nw (Q := oJ Q) (X := X) (mc := 6) (ms := 165) hC hex
  have hnx := e_nx (Q := oJ Q) (X := X) (mc := 6) (ms := 165) hC hex
  have hi : True := trivial
  generalize ZM C G A (oJ Q) X 6 165 = Z at *
  refine r_aload_n hC dL_call__0 rfl 0 rfl ?_
  refine r_iload_n hC dL_call__1 rfl 1 rfl ?_
  refine r_iload_n hC dL_call__2 rfl 2 rfl ?_
  refine r_iload_n hC dL_call__3 rfl 3 rfl ?_
  refine r_iload hC dL_call__4 4 rfl ?_
  refine r_iconst (v := 0) hC dL_call__6 (by decide) ?_
  refine r_iconst (v := 0) hC dL_call__7 (by decide) ?_
  refine r_SXJ hC hAo [va_rf x0, .int x1, .int x2, .int x3, .int x4, .int (0 : Int32), .int (0 : Int32)] cal_L_call tb_383 rfl (c_L_call G _ _ _ _ _ _ _ _ _ _ h) ⟨by decide, by decide⟩ ⟨by decide, by decide⟩ (by simp only [List.map_nil, List.map_cons, List.sum_nil, List.sum_cons, cat_rf, cat_i, cat_j]; decide) rfl dL_call__8 (fun E u hx9 => hx _ _ _ _ _ _ _ (by decide) (by decide) hx9) (fun v8 ph8 h => ?_)
  refine RR.wid (k' := 6) (n' := 165) (by decide) (by decide) ?_
  exact hr _ _ _ _ _ _ dL_call__11 (by decide) (by decide) h
set_option maxRecDepth 20000 in
theorem b_L_types_18 {C : Cx} {Z : State → Prop} {A : Nat → Prop} {G : GG} {Q : Int32 → PH → Prop} {X : String → PH → Prop}  {LK LN : Nat} (hLk : LK ≤ 48) (hLn : LN ≤ 1320) (hC : CxOk RL cL_types 5 G A (rmk 19 509 48 1320) C) (hAo : Ao (xs C)) (hr : HZ C Z A G 5 cL_types 48 1320 Q) (hx : HX C Z A G 5 48 1320 X) (hn : HN C Z A G 5 RL cL_types 48 1320 (rmk 19 509 48 1320) X) (hnw : HNW C Z A G 5 RL cL_types 48 1320 (rmk 19 509 48 1320) X) (hnx : HNX C Z A G 5 RL cL_types 48 1320 (rmk 19 509 48 1320) X) (hi : True) : ∀ (fu kb nb : Nat), kb + fu * 6 + 6 ≤ LK → nb + fu * 165 + 165 ≤ LN → ∀ (x0 : Option Nat) (x1 : Option Nat) (x3 : Int32) (x4 : Int32) (ph : PH), w_L_types_18 Q X fu x0 x1 x3 x4 ph → RR C Z A G 5 18 [(0, va_rf x0), (1, va_rf x1), (3, .int x3), (4, .int x4)] [] ph kb nb := by
  intro fu
  induction fu with
  | zero => intro kb nb e1 e2 x0 x1 x3 x4 ph h; exact h.elim
  | succ fu ih =>
    intro kb nb e1 e2 x0 x1 x3 x4 ph h
    refine r_iload hC dL_types_18 3 rfl ?_
    refine r_aload_n hC dL_types_20 rfl 1 rfl ?_
    obtain ⟨a21, o21, h⟩ := h
    refine r_VI hC hAo [] cal_J0_length_8abf5 ml_L_180 (ci := 0) rfl rfl rfl (c_J0_length_8abf5 G _ _ _ _ h) o21 ⟨by decide, by decide⟩ ⟨(by simp only [rmk]; omega), (by simp only [rmk]; omega)⟩ (by simp only [List.map_nil, List.map_cons, List.sum_nil, List.sum_cons, cat_rf, cat_i, cat_j]; decide) rfl dL_types_21 (fun E u hx9 => hx _ _ _ _ _ _ _ (by omega) (by omega) hx9) (fun v21 ph21 h => ?_)
    refine RR.wid (k' := (kb + 0)) (n' := (nb + 0)) (by omega) (by omega) ?_
    refine r_icmp_ge (tgt := 65) hC dL_types_24 (by decide) (fun c9 => ?_) (fun c9 => ?_)
    · have h := h.1 c9
      refine r_iload_n hC dL_types_65 rfl 2 rfl ?_
      exact hr _ _ _ _ _ _ dL_types_66 (by omega) (by omega) h
    · have h := h.2 c9
      refine r_iload_n hC dL_types_27 rfl 2 rfl ?_
      refine r_if_eq (tgt := 57) hC dL_types_28 (by decide) (fun c9 => ?_) (fun c9 => ?_)
      · have h := h.1 c9
        refine r_iconst (v := 0) hC dL_types_57 (by decide) ?_
        refine r_istore_n (i := 3) (lv' := [(3, .int (0 : Int32)), (0, va_rf x0), (1, va_rf x1), (4, .int x4)]) hC dL_types_58 rfl (by decide) (by first | rfl | simp [lvs1, lvs2, List.filter, cat_rf, cat_i, cat_j]) ?_
        refine r_iinc (w := 3) (v := x4 + 1) (lv' := [(4, .int (x4 + 1)), (3, .int (0 : Int32)), (0, va_rf x0), (1, va_rf x1)]) hC dL_types_59 rfl rfl (by decide) (by first | rfl | simp [lvs1, List.filter, cat_rf, cat_i, cat_j]) ?_
        refine r_goto (tgt := 18) hC dL_types_62 (by decide) ?_
        exact RR.wid (by omega) (by omega) (RR.sub [2, 3, 1, 0] rfl (ih (kb + 6) (nb + 165) (by omega) (by omega) _ _ _ _ _ h))
      · have h := h.2 c9
        refine r_aload_n hC dL_types_31 rfl 0 rfl ?_
        refine r_iconst (v := 0) hC dL_types_32 (by decide) ?_
        refine r_aload_n hC dL_types_33 rfl 1 rfl ?_
        refine r_iload hC dL_types_34 3 rfl ?_
        obtain ⟨a36, o36, h⟩ := h
        refine r_VI hC hAo [.int x4] cal_J0_charAt_5068e ml_L_185 (ci := 0) rfl rfl rfl (c_J0_charAt_5068e G _ _ _ _ _ h) o36 ⟨by decide, by decide⟩ ⟨(by simp only [rmk]; omega), (by simp only [rmk]; omega)⟩ (by simp only [List.map_nil, List.map_cons, List.sum_nil, List.sum_cons, cat_rf, cat_i, cat_j]; decide) rfl dL_types_36 (fun E u hx9 => hx _ _ _ _ _ _ _ (by omega) (by omega) hx9) (fun v36 ph36 h => ?_)
        refine RR.wid (k' := (kb + 0)) (n' := (nb + 0)) (by omega) (by omega) ?_
        refine r_iconst (v := 0) hC dL_types_39 (by decide) ?_
        refine r_iconst (v := 0) hC dL_types_40 (by decide) ?_
        refine r_SJ hC hAo [va_rf x0, .int (0 : Int32), .int v36, .int (0 : Int32), .int (0 : Int32)] cal_L_call_ ml_L_188 rfl (c_L_call_ G _ _ _ _ _ _ _ _ h) ⟨by decide, by decide⟩ ⟨(by simp only [rmk]; omega), (by simp only [rmk]; omega)⟩ (by simp only [List.map_nil, List.map_cons, List.sum_nil, List.sum_cons, cat_rf, cat_i, cat_j]; decide) rfl dL_types_41 (fun E u hx9 => hx _ _ _ _ _ _ _ (by omega) (by omega) hx9) (fun v41 ph41 h => ?_)
        refine RR.wid (k' := (kb + 6)) (n' := (nb + 165)) (by omega) (by omega) ?_
        refine r_iload hC dL_types_44 3 rfl ?_
        refine r_iconst (v := 1) hC dL_types_46 (by decide) ?_
        refine r_iadd hC dL_types_47 ?_
        refine r_i2l hC dL_types_48 ?_
        refine r_lcmp hC dL_types_49 ?_
        refine r_if_ne (tgt := 57) hC dL_types_50 (by decide) (fun c9 => ?_) (fun c9 => ?_)
        · have h := h.1 c9
          refine r_iconst (v := 0) hC dL_types_57 (by decide) ?_
          refine r_istore_n (i := 3) (lv' := [(3, .int (0 : Int32)), (0, va_rf x0), (1, va_rf x1), (4, .int x4)]) hC dL_types_58 rfl (by decide) (by first | rfl | simp [lvs1, lvs2, List.filter, cat_rf, cat_i, cat_j]) ?_
          refine r_iinc (w := 3) (v := x4 + 1) (lv' := [(4, .int (x4 + 1)), (3, .int (0 : Int32)), (0, va_rf x0), (1, va_rf x1)]) hC dL_types_59 rfl rfl (by decide) (by first | rfl | simp [lvs1, List.filter, cat_rf, cat_i, cat_j]) ?_
          refine r_goto (tgt := 18) hC dL_types_62 (by decide) ?_
          exact RR.wid (by omega) (by omega) (RR.sub [2, 3, 1, 0] rfl (ih (kb + 6) (nb + 165) (by omega) (by omega) _ _ _ _ _ h))
        · have h := h.2 c9
          refine r_iconst (v := 1) hC dL_types_53 (by decide) ?_
          refine r_goto (tgt := 58) hC dL_types_54 (by decide) ?_
          refine r_istore_n (i := 3) (lv' := [(3, .int (1 : Int32)), (0, va_rf x0), (1, va_rf x1), (4, .int x4)]) hC dL_types_58 rfl (by decide) (by first | rfl | simp [lvs1, lvs2, List.filter, cat_rf, cat_i, cat_j]) ?_
          refine r_iinc (w := 3) (v := x4 + 1) (lv' := [(4, .int (x4 + 1)), (3, .int (1 : Int32)), (0, va_rf x0), (1, va_rf x1)]) hC dL_types_59 rfl rfl (by decide) (by first | rfl | simp [lvs1, List.filter, cat_rf, cat_i, cat_j]) ?_
          refine r_goto (tgt := 18) hC dL_types_62 (by decide) ?_
          exact RR.wid (by omega) (by omega) (RR.sub [2, 3, 1, 0] rfl (ih (kb + 6) (nb + 165) (by omega) (by omega) _ _ _ _ _ h))
set_option maxRecDepth 20000 in
theorem c_L_types (G : GG) (x0 : Option Nat) (x1 : Option Nat) (ph : PH) (Q : Int32 → PH → Prop) (X : String → PH → Prop) (h : w_L_types x0 x1 ph Q X) : Ct G yL_types (.code yL_types cL_types 5 (some (.boolean))) 19 509 48 1320 [va_rf x0, va_rf x1] ph (oI Q) X := by
  refine ct_of (lv0 := [(0, va_rf x0), (1, va_rf x1)]) (by decide +kernel) (by simp [lg_sl, cat_rf, cat_i, cat_j]) (by simp [lv_args, cat_rf, cat_i, cat_j]) ?_
  intro C A hC hAo hex hrt hnm
  have hr : HZ C (ZM C G A (oI Q) X 48 1320) A G 5 cL_types 48 1320 Q := fun pc lv v ph k n d hk hn hq => e_s hC (ty := .boolean) hrt pc lv v ph k n d hk hn ⟨hq.1, v, rfl, hq.2⟩
  have hx := e_x (Q := oI Q) (X := X) (mc := 48) (ms := 1320) hC hex
  have hn := e_n (Q := oI Q) (X := X) (mc := 48) (ms := 1320) hC hex
  have hnw := e_nw (Q := oI Q) (X := X) (mc := 48) (ms := 1320) hC hex
  have hnx := e_nx (Q := oI Q) (X := X) (mc := 48) (ms := 1320) hC hex
  have hi : True := trivial
  generalize ZM C G A (oI Q) X 48 1320 = Z at *
  refine r_aload_n hC dL_types_0 rfl 0 rfl ?_
  obtain ⟨a1, o1, h⟩ := h
  refine r_VI hC hAo [] cal_X11_clear ml_L_177 (ci := 12) rfl rfl rfl (c_X11_clear G _ _ _ _ h) o1 ⟨by decide, by decide⟩ ⟨(by simp only [rmk]; omega), (by simp only [rmk]; omega)⟩ (by simp only [List.map_nil, List.map_cons, List.sum_nil, List.sum_cons, cat_rf, cat_i, cat_j]; decide) rfl dL_types_1 (fun E u hx9 => hx _ _ _ _ _ _ _ (by omega) (by omega) hx9) (fun v1 ph1 h => ?_)
  refine RR.wid (k' := 0) (n' := 0) (by omega) (by omega) ?_
  refine r_istore_n (i := 2) (lv' := [(2, .int v1), (0, va_rf x0), (1, va_rf x1)]) hC dL_types_4 rfl (by decide) (by first | rfl | simp [lvs1, lvs2, List.filter, cat_rf, cat_i, cat_j]) ?_
  refine r_iload_n hC dL_types_5 rfl 0 rfl ?_
  refine r_if_lt (tgt := 13) hC dL_types_6 (by decide) (fun c9 => ?_) (fun c9 => ?_)
  · have h := h.1 c9
    refine r_iconst (v := 0) hC dL_types_13 (by decide) ?_
    refine r_istore_n (i := 3) (lv' := [(3, .int (0 : Int32)), (2, .int v1), (0, va_rf x0), (1, va_rf x1)]) hC dL_types_14 rfl (by decide) (by first | rfl | simp [lvs1, lvs2, List.filter, cat_rf, cat_i, cat_j]) ?_
    refine r_iconst (v := 0) hC dL_types_15 (by decide) ?_
    refine r_istore (i := 4) (lv' := [(4, .int (0 : Int32)), (3, .int (0 : Int32)), (2, .int v1), (0, va_rf x0), (1, va_rf x1)]) hC dL_types_16 (by decide) (by first | rfl | simp [lvs1, lvs2, List.filter, cat_rf, cat_i, cat_j]) ?_
    obtain ⟨fu18, hfu18, h⟩ := h
    exact RR.wid (by omega) (by omega) (RR.sub [3, 4, 1, 0] rfl (b_L_types_18 (LK := 48) (LN := 1320) (by omega) (by omega) hC hAo hr hx hn hnw hnx hi  fu18 0 0 (by omega) (by omega) _ _ _ _ _ h))
  · have h := h.2 c9
    refine r_iconst (v := 1) hC dL_types_9 (by decide) ?_
    refine r_goto (tgt := 14) hC dL_types_10 (by decide) ?_
    refine r_istore_n (i := 3) (lv' := [(3, .int (1 : Int32)), (2, .int v1), (0, va_rf x0), (1, va_rf x1)]) hC dL_types_14 rfl (by decide) (by first | rfl | simp [lvs1, lvs2, List.filter, cat_rf, cat_i, cat_j]) ?_
    refine r_iconst (v := 0) hC dL_types_15 (by decide) ?_
    refine r_istore (i := 4) (lv' := [(4, .int (0 : Int32)), (3, .int (1 : Int32)), (2, .int v1), (0, va_rf x0), (1, va_rf x1)]) hC dL_types_16 (by decide) (by first | rfl | simp [lvs1, lvs2, List.filter, cat_rf, cat_i, cat_j]) ?_
    obtain ⟨fu18, hfu18, h⟩ := h
    exact RR.wid (by omega) (by omega) (RR.sub [3, 4, 1, 0] rfl (b_L_types_18 (LK := 48) (LN := 1320) (by omega) (by omega) hC hAo hr hx hn hnw hnx hi  fu18 0 0 (by omega) (by omega) _ _ _ _ _ h))
set_option maxRecDepth 20000 in
theorem b_L_state_106 {C : Cx} {Z : State → Prop} {A : Nat → Prop} {G : GG} {Q : Int64 → PH → Prop} {X : String → PH → Prop}  {LK LN : Nat} (hLk : LK ≤ 498) (hLn : LN ≤ 13695) (hC : CxOk RL cL_state 6 G A (rmk 19 509 498 13695) C) (hAo : Ao (xs C)) (hr : HJ C Z A G 6 cL_state 498 13695 Q) (hx : HX C Z A G 6 498 13695 X) (hn : HN C Z A G 6 RL cL_state 498 13695 (rmk 19 509 498 13695) X) (hnw : HNW C Z A G 6 RL cL_state 498 13695 (rmk 19 509 498 13695) X) (hnx : HNX C Z A G 6 RL cL_state 498 13695 (rmk 19 509 498 13695) X) (hi : True) : ∀ (fu kb nb : Nat), kb + fu * 6 + 6 ≤ LK → nb + fu * 165 + 165 ≤ LN → ∀ (x0 : Option Nat) (x3 : Int64) (x5 : Int32) (ph : PH), w_L_state_106 Q X fu x0 x3 x5 ph → RR C Z A G 6 106 [(0, va_rf x0), (3, .long x3), (5, .int x5)] [] ph kb nb := by
  intro fu
  induction fu with
  | zero => intro kb nb e1 e2 x0 x3 x5 ph h; exact h.elim
  | succ fu ih =>
    intro kb nb e1 e2 x0 x3 x5 ph h
    refine r_iload hC dL_state_106 2 rfl ?_
    refine r_bipush (v := 40) hC dL_state_108 (by decide) ?_
    refine r_icmp_ge (tgt := 136) hC dL_state_110 (by decide) (fun c9 => ?_) (fun c9 => ?_)
    · have h := h.1 c9
      refine r_ldc2 (v := 31) hC tb_1375 dL_state_136 ?_
      refine r_lload_n hC dL_state_139 rfl 1 rfl ?_
      refine r_lmul hC dL_state_140 ?_
      refine r_aload_n hC dL_state_141 rfl 0 rfl ?_
      refine r_bipush (v := 39) hC dL_state_142 (by decide) ?_
      refine r_iconst (v := 3) hC dL_state_144 (by decide) ?_
      refine r_iconst (v := 0) hC dL_state_145 (by decide) ?_
      refine r_iconst (v := 0) hC dL_state_146 (by decide) ?_
      refine r_SJ hC hAo [va_rf x0, .int (39 : Int32), .int (3 : Int32), .int (0 : Int32), .int (0 : Int32)] cal_L_call_ ml_L_188 rfl (c_L_call_ G _ _ _ _ _ _ _ _ h) ⟨by decide, by decide⟩ ⟨(by simp only [rmk]; omega), (by simp only [rmk]; omega)⟩ (by simp only [List.map_nil, List.map_cons, List.sum_nil, List.sum_cons, cat_rf, cat_i, cat_j]; decide) rfl dL_state_147 (fun E u hx9 => hx _ _ _ _ _ _ _ (by omega) (by omega) hx9) (fun v147 ph147 h => ?_)
      refine RR.wid (k' := (kb + 6)) (n' := (nb + 165)) (by omega) (by omega) ?_
      refine r_ladd hC dL_state_150 ?_
      exact hr _ _ _ _ _ _ dL_state_151 (by omega) (by omega) h
    · have h := h.2 c9
      refine r_ldc2 (v := 31) hC tb_1375 dL_state_113 ?_
      refine r_lload_n hC dL_state_116 rfl 1 rfl ?_
      refine r_lmul hC dL_state_117 ?_
      refine r_aload_n hC dL_state_118 rfl 0 rfl ?_
      refine r_bipush (v := 20) hC dL_state_119 (by decide) ?_
      refine r_iload hC dL_state_121 2 rfl ?_
      refine r_iconst (v := 0) hC dL_state_123 (by decide) ?_
      refine r_iconst (v := 0) hC dL_state_124 (by decide) ?_
      refine r_SJ hC hAo [va_rf x0, .int (20 : Int32), .int x5, .int (0 : Int32), .int (0 : Int32)] cal_L_call_ ml_L_188 rfl (c_L_call_ G _ _ _ _ _ _ _ _ h) ⟨by decide, by decide⟩ ⟨(by simp only [rmk]; omega), (by simp only [rmk]; omega)⟩ (by simp only [List.map_nil, List.map_cons, List.sum_nil, List.sum_cons, cat_rf, cat_i, cat_j]; decide) rfl dL_state_125 (fun E u hx9 => hx _ _ _ _ _ _ _ (by omega) (by omega) hx9) (fun v125 ph125 h => ?_)
      refine RR.wid (k' := (kb + 6)) (n' := (nb + 165)) (by omega) (by omega) ?_
      refine r_ladd hC dL_state_128 ?_
      obtain ⟨v129, ev129⟩ : ∃ z : Int64, z = ((31 : Int64) * x3) + v125 := ⟨_, rfl⟩
      have h := h v129 ev129
      refine RR.to (st' := [.long v129]) (by rw [ev129]) ?_
      refine r_lstore_n (i := 3) (lv' := [(3, .long v129), (0, va_rf x0), (5, .int x5)]) hC dL_state_129 rfl (by decide) (by first | rfl | simp [lvs1, lvs2, List.filter, cat_rf, cat_i, cat_j]) ?_
      refine r_iinc (w := 2) (v := x5 + 1) (lv' := [(5, .int (x5 + 1)), (3, .long v129), (0, va_rf x0)]) hC dL_state_130 rfl rfl (by decide) (by first | rfl | simp [lvs1, List.filter, cat_rf, cat_i, cat_j]) ?_
      refine r_goto (tgt := 106) hC dL_state_133 (by decide) ?_
      exact RR.wid (by omega) (by omega) (RR.sub [2, 1, 0] rfl (ih (kb + 6) (nb + 165) (by omega) (by omega) _ _ _ _ h))
set_option maxRecDepth 20000 in
theorem b_L_state_59 {C : Cx} {Z : State → Prop} {A : Nat → Prop} {G : GG} {Q : Int64 → PH → Prop} {X : String → PH → Prop}  {LK LN : Nat} (hLk : LK ≤ 498) (hLn : LN ≤ 13695) (hC : CxOk RL cL_state 6 G A (rmk 19 509 498 13695) C) (hAo : Ao (xs C)) (hr : HJ C Z A G 6 cL_state 498 13695 Q) (hx : HX C Z A G 6 498 13695 X) (hn : HN C Z A G 6 RL cL_state 498 13695 (rmk 19 509 498 13695) X) (hnw : HNW C Z A G 6 RL cL_state 498 13695 (rmk 19 509 498 13695) X) (hnx : HNX C Z A G 6 RL cL_state 498 13695 (rmk 19 509 498 13695) X) (hi : True) : ∀ (fu kb nb : Nat), kb + fu * 12 + 258 ≤ LK → nb + fu * 330 + 7095 ≤ LN → ∀ (x0 : Option Nat) (x2 : Int32) (x3 : Int64) (x5 : Int32) (ph : PH), w_L_state_59 Q X fu x0 x2 x3 x5 ph → RR C Z A G 6 59 [(0, va_rf x0), (2, .int x2), (3, .long x3), (5, .int x5)] [] ph kb nb := by
  intro fu
  induction fu with
  | zero => intro kb nb e1 e2 x0 x2 x3 x5 ph h; exact h.elim
  | succ fu ih =>
    intro kb nb e1 e2 x0 x2 x3 x5 ph h
    refine r_iload hC dL_state_59 3 rfl ?_
    refine r_iload_n hC dL_state_61 rfl 1 rfl ?_
    refine r_icmp_ge (tgt := 103) hC dL_state_62 (by decide) (fun c9 => ?_) (fun c9 => ?_)
    · have h := h.1 c9
      refine r_iconst (v := 0) hC dL_state_103 (by decide) ?_
      refine r_istore (i := 5) (lv' := [(5, .int (0 : Int32)), (0, va_rf x0), (2, .int x2), (3, .long x3)]) hC dL_state_104 (by decide) (by first | rfl | simp [lvs1, lvs2, List.filter, cat_rf, cat_i, cat_j]) ?_
      obtain ⟨fu106, hfu106, h⟩ := h
      exact RR.wid (by omega) (by omega) (RR.sub [1, 3, 0] rfl (b_L_state_106 (LK := (kb + 258)) (LN := (nb + 7095)) (by omega) (by omega) hC hAo hr hx hn hnw hnx hi  fu106 (kb + 0) (nb + 0) (by omega) (by omega) _ _ _ _ h))
    · have h := h.2 c9
      refine r_ldc2 (v := 31) hC tb_1375 dL_state_65 ?_
      refine r_ldc2 (v := 31) hC tb_1375 dL_state_68 ?_
      refine r_lload_n hC dL_state_71 rfl 2 rfl ?_
      refine r_lmul hC dL_state_72 ?_
      refine r_aload_n hC dL_state_73 rfl 0 rfl ?_
      refine r_bipush (v := 25) hC dL_state_74 (by decide) ?_
      refine r_iload hC dL_state_76 3 rfl ?_
      refine r_iconst (v := 0) hC dL_state_78 (by decide) ?_
      refine r_iconst (v := 0) hC dL_state_79 (by decide) ?_
      refine r_SJ hC hAo [va_rf x0, .int (25 : Int32), .int x5, .int (0 : Int32), .int (0 : Int32)] cal_L_call_ ml_L_188 rfl (c_L_call_ G _ _ _ _ _ _ _ _ h) ⟨by decide, by decide⟩ ⟨(by simp only [rmk]; omega), (by simp only [rmk]; omega)⟩ (by simp only [List.map_nil, List.map_cons, List.sum_nil, List.sum_cons, cat_rf, cat_i, cat_j]; decide) rfl dL_state_80 (fun E u hx9 => hx _ _ _ _ _ _ _ (by omega) (by omega) hx9) (fun v80 ph80 h => ?_)
      refine RR.wid (k' := (kb + 6)) (n' := (nb + 165)) (by omega) (by omega) ?_
      refine r_ladd hC dL_state_83 ?_
      refine r_lmul hC dL_state_84 ?_
      refine r_aload_n hC dL_state_85 rfl 0 rfl ?_
      refine r_bipush (v := 30) hC dL_state_86 (by decide) ?_
      refine r_iload hC dL_state_88 3 rfl ?_
      refine r_iconst (v := 2) hC dL_state_90 (by decide) ?_
      refine r_iconst (v := 0) hC dL_state_91 (by decide) ?_
      refine r_SJ hC hAo [va_rf x0, .int (30 : Int32), .int x5, .int (2 : Int32), .int (0 : Int32)] cal_L_call_ ml_L_188 rfl (c_L_call_ G _ _ _ _ _ _ _ _ h) ⟨by decide, by decide⟩ ⟨(by simp only [rmk]; omega), (by simp only [rmk]; omega)⟩ (by simp only [List.map_nil, List.map_cons, List.sum_nil, List.sum_cons, cat_rf, cat_i, cat_j]; decide) rfl dL_state_92 (fun E u hx9 => hx _ _ _ _ _ _ _ (by omega) (by omega) hx9) (fun v92 ph92 h => ?_)
      refine RR.wid (k' := (kb + 12)) (n' := (nb + 330)) (by omega) (by omega) ?_
      refine r_ladd hC dL_state_95 ?_
      obtain ⟨v96, ev96⟩ : ∃ z : Int64, z = ((31 : Int64) * (((31 : Int64) * x3) + v80)) + v92 := ⟨_, rfl⟩
      have h := h v96 ev96
      refine RR.to (st' := [.long v96]) (by rw [ev96]) ?_
      refine r_lstore_n (i := 3) (lv' := [(3, .long v96), (0, va_rf x0), (2, .int x2), (5, .int x5)]) hC dL_state_96 rfl (by decide) (by first | rfl | simp [lvs1, lvs2, List.filter, cat_rf, cat_i, cat_j]) ?_
      refine r_iinc (w := 3) (v := x5 + 1) (lv' := [(5, .int (x5 + 1)), (3, .long v96), (0, va_rf x0), (2, .int x2)]) hC dL_state_97 rfl rfl (by decide) (by first | rfl | simp [lvs1, List.filter, cat_rf, cat_i, cat_j]) ?_
      refine r_goto (tgt := 59) hC dL_state_100 (by decide) ?_
      exact RR.wid (by omega) (by omega) (RR.sub [2, 3, 1, 0] rfl (ih (kb + 12) (nb + 330) (by omega) (by omega) _ _ _ _ _ h))
set_option maxRecDepth 20000 in
theorem b_L_state_12 {C : Cx} {Z : State → Prop} {A : Nat → Prop} {G : GG} {Q : Int64 → PH → Prop} {X : String → PH → Prop}  {LK LN : Nat} (hLk : LK ≤ 498) (hLn : LN ≤ 13695) (hC : CxOk RL cL_state 6 G A (rmk 19 509 498 13695) C) (hAo : Ao (xs C)) (hr : HJ C Z A G 6 cL_state 498 13695 Q) (hx : HX C Z A G 6 498 13695 X) (hn : HN C Z A G 6 RL cL_state 498 13695 (rmk 19 509 498 13695) X) (hnw : HNW C Z A G 6 RL cL_state 498 13695 (rmk 19 509 498 13695) X) (hnx : HNX C Z A G 6 RL cL_state 498 13695 (rmk 19 509 498 13695) X) (hi : True) : ∀ (fu kb nb : Nat), kb + fu * 12 + 378 ≤ LK → nb + fu * 330 + 10395 ≤ LN → ∀ (x0 : Option Nat) (x1 : Int32) (x2 : Int32) (x3 : Int64) (x5 : Int32) (ph : PH), w_L_state_12 Q X fu x0 x1 x2 x3 x5 ph → RR C Z A G 6 12 [(0, va_rf x0), (1, .int x1), (2, .int x2), (3, .long x3), (5, .int x5)] [] ph kb nb := by
  intro fu
  induction fu with
  | zero => intro kb nb e1 e2 x0 x1 x2 x3 x5 ph h; exact h.elim
  | succ fu ih =>
    intro kb nb e1 e2 x0 x1 x2 x3 x5 ph h
    refine r_iload hC dL_state_12 4 rfl ?_
    refine r_iload_n hC dL_state_14 rfl 1 rfl ?_
    refine r_icmp_ge (tgt := 56) hC dL_state_15 (by decide) (fun c9 => ?_) (fun c9 => ?_)
    · have h := h.1 c9
      refine r_iconst (v := 0) hC dL_state_56 (by decide) ?_
      refine r_istore (i := 5) (lv' := [(5, .int (0 : Int32)), (0, va_rf x0), (1, .int x1), (2, .int x2), (3, .long x3)]) hC dL_state_57 (by decide) (by first | rfl | simp [lvs1, lvs2, List.filter, cat_rf, cat_i, cat_j]) ?_
      obtain ⟨fu59, hfu59, h⟩ := h
      exact RR.wid (by omega) (by omega) (RR.sub [1, 3, 4, 0] rfl (b_L_state_59 (LK := (kb + 378)) (LN := (nb + 10395)) (by omega) (by omega) hC hAo hr hx hn hnw hnx hi  fu59 (kb + 0) (nb + 0) (by omega) (by omega) _ _ _ _ _ h))
    · have h := h.2 c9
      refine r_ldc2 (v := 31) hC tb_1375 dL_state_18 ?_
      refine r_ldc2 (v := 31) hC tb_1375 dL_state_21 ?_
      refine r_lload_n hC dL_state_24 rfl 3 rfl ?_
      refine r_lmul hC dL_state_25 ?_
      refine r_aload_n hC dL_state_26 rfl 0 rfl ?_
      refine r_bipush (v := 6) hC dL_state_27 (by decide) ?_
      refine r_iload hC dL_state_29 4 rfl ?_
      refine r_iconst (v := 4) hC dL_state_31 (by decide) ?_
      refine r_iconst (v := 0) hC dL_state_32 (by decide) ?_
      refine r_SJ hC hAo [va_rf x0, .int (6 : Int32), .int x5, .int (4 : Int32), .int (0 : Int32)] cal_L_call_ ml_L_188 rfl (c_L_call_ G _ _ _ _ _ _ _ _ h) ⟨by decide, by decide⟩ ⟨(by simp only [rmk]; omega), (by simp only [rmk]; omega)⟩ (by simp only [List.map_nil, List.map_cons, List.sum_nil, List.sum_cons, cat_rf, cat_i, cat_j]; decide) rfl dL_state_33 (fun E u hx9 => hx _ _ _ _ _ _ _ (by omega) (by omega) hx9) (fun v33 ph33 h => ?_)
      refine RR.wid (k' := (kb + 6)) (n' := (nb + 165)) (by omega) (by omega) ?_
      refine r_ladd hC dL_state_36 ?_
      refine r_lmul hC dL_state_37 ?_
      refine r_aload_n hC dL_state_38 rfl 0 rfl ?_
      refine r_bipush (v := 9) hC dL_state_39 (by decide) ?_
      refine r_iload hC dL_state_41 4 rfl ?_
      refine r_iconst (v := 0) hC dL_state_43 (by decide) ?_
      refine r_iconst (v := 0) hC dL_state_44 (by decide) ?_
      refine r_SJ hC hAo [va_rf x0, .int (9 : Int32), .int x5, .int (0 : Int32), .int (0 : Int32)] cal_L_call_ ml_L_188 rfl (c_L_call_ G _ _ _ _ _ _ _ _ h) ⟨by decide, by decide⟩ ⟨(by simp only [rmk]; omega), (by simp only [rmk]; omega)⟩ (by simp only [List.map_nil, List.map_cons, List.sum_nil, List.sum_cons, cat_rf, cat_i, cat_j]; decide) rfl dL_state_45 (fun E u hx9 => hx _ _ _ _ _ _ _ (by omega) (by omega) hx9) (fun v45 ph45 h => ?_)
      refine RR.wid (k' := (kb + 12)) (n' := (nb + 330)) (by omega) (by omega) ?_
      refine r_ladd hC dL_state_48 ?_
      obtain ⟨v49, ev49⟩ : ∃ z : Int64, z = ((31 : Int64) * (((31 : Int64) * x3) + v33)) + v45 := ⟨_, rfl⟩
      have h := h v49 ev49
      refine RR.to (st' := [.long v49]) (by rw [ev49]) ?_
      refine r_lstore_n (i := 3) (lv' := [(3, .long v49), (0, va_rf x0), (1, .int x1), (2, .int x2), (5, .int x5)]) hC dL_state_49 rfl (by decide) (by first | rfl | simp [lvs1, lvs2, List.filter, cat_rf, cat_i, cat_j]) ?_
      refine r_iinc (w := 4) (v := x5 + 1) (lv' := [(5, .int (x5 + 1)), (3, .long v49), (0, va_rf x0), (1, .int x1), (2, .int x2)]) hC dL_state_50 rfl rfl (by decide) (by first | rfl | simp [lvs1, List.filter, cat_rf, cat_i, cat_j]) ?_
      refine r_goto (tgt := 12) hC dL_state_53 (by decide) ?_
      exact RR.wid (by omega) (by omega) (RR.sub [2, 3, 4, 1, 0] rfl (ih (kb + 12) (nb + 330) (by omega) (by omega) _ _ _ _ _ _ h))
set_option maxRecDepth 20000 in
theorem c_L_state (G : GG) (x0 : Option Nat) (x1 : Int32) (x2 : Int32) (ph : PH) (Q : Int64 → PH → Prop) (X : String → PH → Prop) (h : w_L_state x0 x1 x2 ph Q X) : Ct G yL_state (.code yL_state cL_state 6 (some (.long))) 19 509 498 13695 [va_rf x0, .int x1, .int x2] ph (oJ Q) X := by
  refine ct_of (lv0 := [(0, va_rf x0), (1, .int x1), (2, .int x2)]) (by decide +kernel) (by simp [lg_sl, cat_rf, cat_i, cat_j]) (by simp [lv_args, cat_rf, cat_i, cat_j]) ?_
  intro C A hC hAo hex hrt hnm
  have hr : HJ C (ZM C G A (oJ Q) X 498 13695) A G 6 cL_state 498 13695 Q := fun pc lv v ph k n d hk hn hq => e_j hC hrt pc lv v ph k n d hk hn ⟨v, rfl, hq⟩
  have hx := e_x (Q := oJ Q) (X := X) (mc := 498) (ms := 13695) hC hex
  have hn := e_n (Q := oJ Q) (X := X) (mc := 498) (ms := 13695) hC hex
  have hnw := e_nw (Q := oJ Q) (X := X) (mc := 498) (ms := 13695) hC hex
  have hnx := e_nx (Q := oJ Q) (X := X) (mc := 498) (ms := 13695) hC hex
  have hi : True := trivial
  generalize ZM C G A (oJ Q) X 498 13695 = Z at *
  refine r_ldc2 (v := 11563) hC tb_1365 dL_state_0 ?_
  refine r_aload_n hC dL_state_3 rfl 0 rfl ?_
  obtain ⟨a4, o4, h⟩ := h
  refine r_VJ hC hAo [] cal_X11_checksum ml_L_193 (ci := 12) rfl rfl rfl (c_X11_checksum G _ _ _ _ h) o4 ⟨by decide, by decide⟩ ⟨(by simp only [rmk]; omega), (by simp only [rmk]; omega)⟩ (by simp only [List.map_nil, List.map_cons, List.sum_nil, List.sum_cons, cat_rf, cat_i, cat_j]; decide) rfl dL_state_4 (fun E u hx9 => hx _ _ _ _ _ _ _ (by omega) (by omega) hx9) (fun v4 ph4 h => ?_)
  refine RR.wid (k' := 0) (n' := 0) (by omega) (by omega) ?_
  refine r_ladd hC dL_state_7 ?_
  obtain ⟨v8, ev8⟩ : ∃ z : Int64, z = (11563 : Int64) + v4 := ⟨_, rfl⟩
  have h := h v8 ev8
  refine RR.to (st' := [.long v8]) (by rw [ev8]) ?_
  refine r_lstore_n (i := 3) (lv' := [(3, .long v8), (0, va_rf x0), (1, .int x1), (2, .int x2)]) hC dL_state_8 rfl (by decide) (by first | rfl | simp [lvs1, lvs2, List.filter, cat_rf, cat_i, cat_j]) ?_
  refine r_iconst (v := 0) hC dL_state_9 (by decide) ?_
  refine r_istore (i := 5) (lv' := [(5, .int (0 : Int32)), (3, .long v8), (0, va_rf x0), (1, .int x1), (2, .int x2)]) hC dL_state_10 (by decide) (by first | rfl | simp [lvs1, lvs2, List.filter, cat_rf, cat_i, cat_j]) ?_
  obtain ⟨fu12, hfu12, h⟩ := h
  exact RR.wid (by omega) (by omega) (RR.sub [2, 3, 4, 1, 0] rfl (b_L_state_12 (LK := 498) (LN := 13695) (by omega) (by omega) hC hAo hr hx hn hnw hnx hi  fu12 0 0 (by omega) (by omega) _ _ _ _ _ _ h))
