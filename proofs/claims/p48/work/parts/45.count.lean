section COUNT
variable {g st lt r aS aL aC : Nat} {E : Nat → Int32} {L : Int32} {rs : List Value} {X : String → PH → Prop}
theorem g_countOn : ∀ (n dd : Nat), n < dd → n ≤ 10 → ∀ (S : Int32) (ph : PH) (Q : Int32 → PH → Prop), Rd ph r aS aL aC rs → Gr ph g st lt E → Ca st lt E L ph aS aL aC → (∀ ph' : PH, Keep TC ph ph' → Ca st lt E L ph' aS aL aC → Q (Int32.ofNat (cw st lt E L n S)) ph') → w_X6_countOn dd (some r) (some g) L S (Int32.ofNat n) ph Q X := by
  intro n
  induction n with
  | zero =>
    intro dd hd hn S ph Q hr hG hc h
    obtain ⟨k, rfl⟩ : ∃ k, dd = k + 1 := ⟨dd - 1, by omega⟩
    show w_X6_countOn_b (w_X6_countOn k) (some r) (some g) L S (Int32.ofNat 0) ph Q X
    have h1 := h ph (Keep.rf ph) hc
    unfold w_X6_countOn_b
    refine ⟨fun h0 => ?_, fun h0 => ⟨fun _ => ⟨fun h9 => absurd h9 (by decide), fun _ => ?_⟩, fun h9 => absurd (by decide) h9⟩⟩
    · rw [show cw st lt E L 0 S = 0 from if_pos h0] at h1
      exact h1
    · rw [show cw st lt E L 0 S = 1 from if_neg h0] at h1
      exact h1
  | succ m ih =>
    intro dd hd hn S ph Q hr hG hc h
    obtain ⟨k, rfl⟩ : ∃ k, dd = k + 1 := ⟨dd - 1, by omega⟩
    show w_X6_countOn_b (w_X6_countOn k) (some r) (some g) L S (Int32.ofNat (m + 1)) ph Q X
    have hlt : lt ≤ 3 := hG.1.2.2.2
    have hcw : cw st lt E L (m + 1) S ≤ 59049 := Nat.le_trans (cw_le hlt _ _) (pow3_le hn)
    unfold w_X6_countOn_b
    refine ⟨fun h0 => ?_, fun h0 => ⟨fun _ => ⟨fun _ => ?_, fun h9 => ?_⟩, fun h9 => ?_⟩⟩
    · have h1 := h ph (Keep.rf ph) hc
      rw [show cw st lt E L (m + 1) S = 0 from if_pos h0] at h1
      exact h1
    · unfold w_X6_slotOf
      intro v6 _ v18 _
      obtain ⟨s, hs, es⟩ := and_small v18
      rw [es, ex_isO hr]
      refine g_recall hr hc hs hn ⟨fun _ => ⟨lt + 1, ?_⟩, fun h9 => absurd (by decide) h9⟩ ⟨fun h9 => absurd h9 (on_neg (by omega)), fun _ => h ph (Keep.rf ph) hc⟩
      have key : ∀ (d a fu : Nat) (ph1 : PH), a + d = lt → d < fu → Keep TC ph ph1 → Ca st lt E L ph1 aS aL aC → w_X6_countOn_53 (w_X6_countOn k) Q X fu (some r) (some g) L S (Int32.ofNat (m + 1)) (Int32.ofNat s) (Int32.ofNat (sumN a (fun a => cw st lt E L m (rdL st E L S a)))) (Int32.ofNat a) ph1 := by
        intro d
        induction d with
        | zero =>
          intro a fu ph1 h1 h2 hK hc1
          obtain ⟨fu, rfl⟩ : ∃ k, fu = k + 1 := ⟨fu - 1, by omega⟩
          obtain ⟨-, ge, e1, e2⟩ := hK.gr hG rfl
          have hr1 : Rd ph1 r aS aL aC rs := hK.obj hr
          unfold w_X6_countOn_53
          rw [ex_gI e1 rfl, on_le (by omega) (by omega)]
          refine ⟨fun _ => ?_, fun h9 => absurd (by omega) h9⟩
          rw [ex_isO hr1, show a = lt by omega, show sumN lt (fun a => cw st lt E L m (rdL st E L S a)) = cw st lt E L (m + 1) S from (if_neg h0).symm]
          exact g_keep hr1 hc1 hs hn (fun ph2 k2 c2 => h ph2 (hK.tr k2) c2)
        | succ d ihd =>
          intro a fu ph1 h1 h2 hK hc1
          obtain ⟨fu, rfl⟩ : ∃ k, fu = k + 1 := ⟨fu - 1, by omega⟩
          have hG1 := hK.gr hG rfl
          obtain ⟨-, ge, e1, e2⟩ := hK.gr hG rfl
          have hr1 : Rd ph1 r aS aL aC rs := hK.obj hr
          unfold w_X6_countOn_53
          rw [ex_gI e1 rfl, on_le (by omega) (by omega)]
          refine ⟨fun h9 => absurd h9 (by omega), fun _ => ?_⟩
          rw [ex_isO e1]
          refine g_read (by omega) hG1 ?_
          rw [on_pred]
          refine ih k (by omega) (by omega) _ ph1 _ hr1 hG1 hc1 (fun ph2 k2 c2 => ?_)
          intro v hv
          subst hv
          rw [on_succ, on_add]
          exact ihd (a + 1) fu ph2 (by omega) (by omega) (hK.tr k2) c2
      exact key lt 0 (lt + 1) ph (by omega) (by omega) (Keep.rf ph) hc
    · exact absurd (show Int32.ofNat 0 < Int32.ofNat (m + 1) from (on_lt (by omega) (by omega)).mpr (by omega)) h9
    · exact absurd (show Int32.ofNat (m + 1) ≤ Int32.ofNat 10 from (on_le (by omega) (by omega)).mpr hn) h9
/-- words -/
theorem g_countWords {ph : PH} {n : Nat} {fS fL fC : Nat → Int32} {Q : Int32 → PH → Prop} (hn : n ≤ 10) (hr : Rd ph r aS aL aC rs) (hG : Gr ph g st lt E) (e1 : ph aS = some (206, .inr (.int, 1024, .inl fS))) (e2 : ph aL = some (207, .inr (.int, 1024, .inl fL))) (e3 : ph aC = some (208, .inr (.int, 1024, .inl fC))) (h : ∀ ph' : PH, Keep TC ph ph' → Q (Int32.ofNat (cw st lt E (live st lt E) n (live st lt E))) ph') : w_X6_countWords r (some g) (Int32.ofNat n) ph Q X := by
  unfold w_X6_countWords
  rw [ex_gR hr (v0 := some aL) rfl]
  refine g_fill e2 (by decide) (by decide) (fun f' hf => ?_)
  have k1 : Keep TC ph (hset ph aL (207, .inr (.int, 1024, .inl f'))) := Keep.setI e2 rfl
  have e1' := hset_at (e := (207, .inr (.int, 1024, .inl f'))) (tag_ne e1 e2 (by decide)) e1
  have e3' := hset_at (e := (207, .inr (.int, 1024, .inl f'))) (tag_ne e3 e2 (by decide)) e3
  have e2' := hset_same (ph := ph) (a := aL) (e := (207, .inr (.int, 1024, .inl f')))
  generalize hset ph aL (207, .inr (.int, 1024, .inl f')) = p1 at k1 e1' e2' e3' ⊢
  have hG1 := k1.gr hG rfl
  obtain ⟨-, ge, g1, g2⟩ := k1.gr hG rfl
  rw [ex_isO g1]
  refine g_liveSet hG1 ?_
  exact g_countOn n 12 (by omega) hn _ p1 _ (k1.obj hr) hG1 ⟨fS, f', fC, e1', e2', e3', fun s hs => Or.inl (hf s hs)⟩ (fun ph2 k2 _ => h ph2 (k1.tr k2))
end COUNT
