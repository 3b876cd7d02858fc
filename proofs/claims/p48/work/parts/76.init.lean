/-! the world begins -/
theorem Ext.drop {P R : Nat → Prop} {p q : PH} (h : Ext P p q) (hP : ∀ a : Nat, P a → R a ∨ p a = none) : Ext R p q := fun a e hR ha => h a e (fun h9 => (hP a h9).elim hR (fun h8 => by rw [h8] at ha; cases ha)) ha
theorem ne_none {p : PH} {a x : Nat} {e : Ent} (hx : p x = some e) (ha : p a = none) : a ≠ x := fun h9 => by
  rw [h9, hx] at ha
  cases ha
section INIT
variable {ph : PH} {x : Nat} {X : String → PH → Prop}
theorem i_step {tag c k : Nat} {fs : List Value} {e : Ent} {R : Nat → PH → Prop} (hx : ph x = some (tag, .inl (c, fs))) (ht : tag < 1000) (hk : k < fs.length) (h : ∀ (a : Nat) (p : PH), Ext (fun q => q = x) ph p → a ≠ x → ph a = none → p a = some e → p x = some (tag, .inl (c, fs.set k (va_rf (some a)))) → R a p) : ∀ (a : Nat) (p : PH), ph a = none → p = hset ph a e → ∃ p2 : PH, pV p (some x) c k (va_rf (some a)) p2 ∧ R a p2 := by
  intro a p ha hp
  subst hp
  have hne := ne_none hx ha
  rw [ex_pV (hset_at hne.symm hx) ht hk]
  exact h a _ ((Ext.new ha).tr (Ext.set rfl)) hne ha (hset_at hne hset_same) hset_same
theorem Tb.ext {P : Nat → Prop} {p q : PH} {t ta r c : Nat} {f : Nat → Int64} (h : Ext P p q) (hT : Tb p t ta r c f) (h1 : ¬ P t) (h2 : ¬ P ta) : Tb q t ta r c f := ⟨hT.1, h _ _ h1 hT.2.1, h _ _ h2 hT.2.2⟩
theorem i_tab {tag c k : Nat} {fs : List Value} {R : Nat → PH → Prop} (hx : ph x = some (tag, .inl (c, fs))) (ht : tag < 1000) (hk : k < fs.length) (h : ∀ (a ta : Nat) (p : PH), Ext (fun q => q = x) ph p → a ≠ x → ta ≠ x → ph a = none → ph ta = none → Tb p a ta 0 0 (fun _ => 0) → p x = some (tag, .inl (c, fs.set k (va_rf (some a)))) → R a p) : ∀ (a : Nat) (p : PH), ph a = none → p = hset ph a (109, .inl (9, [.int 0, .int 0, .null])) → ∃ a9 : Nat, (some a) = some a9 ∧ (w_X8_init a9 p (fun p9 => ∃ p2 : PH, pV p9 (some x) c k (va_rf (some a)) p2 ∧ R a p2) X) := by
  intro a p ha hp
  subst hp
  have hne := ne_none hx ha
  refine ⟨a, rfl, ?_⟩
  unfold w_X8_init
  refine ⟨a, rfl, ?_⟩
  intro ta p1 hta hp1
  subst hp1
  have hta2 : ta ≠ a := ne_none hset_same hta
  have hta0 : ph ta = none := (hset_ne hta2).symm.trans hta
  have htx := ne_none hx hta0
  rw [ex_pW (fs' := [.int 0, .int 0, va_rf (some ta)]) (hset_at hta2.symm hset_same) (by decide) (show 2 < 3 by decide) rfl]
  rw [ex_pV (hset_at hne.symm (hset_at htx.symm (hset_at hne.symm hx))) ht hk]
  refine h a ta _ ?_ hne htx ha hta0 ⟨⟨by omega, by omega⟩, hset_at hne hset_same, hset_at htx (hset_at hta2 hset_same)⟩ hset_same
  refine Ext.drop (P := fun q => q = a ∨ q = ta ∨ q = x) ((Ext.new ha).tr ((Ext.new hta).tr ((Ext.set (Or.inl rfl)).tr (Ext.set (Or.inr (Or.inr rfl)))))) (fun q hq => ?_)
  rcases hq with rfl | rfl | rfl
  · exact Or.inr ha
  · exact Or.inr hta0
  · exact Or.inl rfl
theorem i_tape {Q : PH → Prop} (hx : ph x = some (110, .inl (10, [.null, .int 0]))) (h : ∀ (p : PH) (ts : Nat) (f : Nat → Int32), Ext (fun q => q = x) ph p → Tp p x ts 0 f → Q p) : w_X9_init x ph Q X := by
  unfold w_X9_init
  refine ⟨x, rfl, i_step hx (by decide) (show 0 < 2 by decide) (fun a p E ne na va xa => ?_)⟩
  exact h p a _ E ⟨xa, va, by omega, fun i hi => absurd hi (Nat.not_lt_zero i)⟩
theorem i_ways {Q : PH → Prop} (hx : ph x = some (111, .inl (11, [.null, .null]))) (h : ∀ (p : PH) (aR aV : Nat), Ext (fun q => q = x) ph p → Wy p x aR aV → Arr p aR 217 24 → Q p) : w_X10_init x ph Q X := by
  unfold w_X10_init
  refine ⟨x, rfl, i_step hx (by decide) (show 0 < 2 by decide) (fun a p E ne na va xa => i_step xa (by decide) (show 1 < 2 by decide) (fun a1 p1 E1 ne1 na1 va1 xa1 => ?_))⟩
  exact h p1 a a1 (E.tr E1) xa1 ⟨_, E1 _ _ ne va⟩
theorem i_cells {Q : PH → Prop} (hx : ph x = some (105, .inl (5, [.null]))) (h : ∀ p : PH, Ext (fun q => q = x) ph p → Q p) : w_X2_init x ph Q X := by
  unfold w_X2_init
  exact ⟨x, rfl, i_step hx (by decide) (show 0 < 1 by decide) (fun a p E ne na va xa => h p E)⟩
theorem i_reader {Q : PH → Prop} (hx : ph x = some (107, .inl (7, [.null, .null, .null, .null, .null, .null, .null, .null, .null, .null, .null]))) (h : ∀ (p : PH) (A : Nat → Nat), Ext (fun q => q = x) ph p → RdA p x A → Q p) : w_X6_init x ph Q X := by
  unfold w_X6_init
  refine ⟨x, rfl, i_step hx (by decide) (show 0 < 11 by decide) (fun a0 p0 E0 ne0 na0 va0 xa0 => i_step xa0 (by decide) (show 1 < 11 by decide) (fun a1 p1 E1 ne1 na1 va1 xa1 => i_step xa1 (by decide) (show 2 < 11 by decide) (fun a2 p2 E2 ne2 na2 va2 xa2 => i_step xa2 (by decide) (show 3 < 11 by decide) (fun a3 p3 E3 ne3 na3 va3 xa3 => i_step xa3 (by decide) (show 4 < 11 by decide) (fun a4 p4 E4 ne4 na4 va4 xa4 => i_step xa4 (by decide) (show 5 < 11 by decide) (fun a5 p5 E5 ne5 na5 va5 xa5 => i_step xa5 (by decide) (show 6 < 11 by decide) (fun a6 p6 E6 ne6 na6 va6 xa6 => i_step xa6 (by decide) (show 7 < 11 by decide) (fun a7 p7 E7 ne7 na7 va7 xa7 => i_step xa7 (by decide) (show 8 < 11 by decide) (fun a8 p8 E8 ne8 na8 va8 xa8 => i_step xa8 (by decide) (show 9 < 11 by decide) (fun a9 p9 E9 ne9 na9 va9 xa9 => i_step xa9 (by decide) (show 10 < 11 by decide) (fun a10 p10 E10 ne10 na10 va10 xa10 => ?_)))))))))))⟩
  have w0 := (E10 _ _ ne0 (E9 _ _ ne0 (E8 _ _ ne0 (E7 _ _ ne0 (E6 _ _ ne0 (E5 _ _ ne0 (E4 _ _ ne0 (E3 _ _ ne0 (E2 _ _ ne0 (E1 _ _ ne0 va0))))))))))
  have w1 := (E10 _ _ ne1 (E9 _ _ ne1 (E8 _ _ ne1 (E7 _ _ ne1 (E6 _ _ ne1 (E5 _ _ ne1 (E4 _ _ ne1 (E3 _ _ ne1 (E2 _ _ ne1 va1)))))))))
  have w2 := (E10 _ _ ne2 (E9 _ _ ne2 (E8 _ _ ne2 (E7 _ _ ne2 (E6 _ _ ne2 (E5 _ _ ne2 (E4 _ _ ne2 (E3 _ _ ne2 va2))))))))
  have w3 := (E10 _ _ ne3 (E9 _ _ ne3 (E8 _ _ ne3 (E7 _ _ ne3 (E6 _ _ ne3 (E5 _ _ ne3 (E4 _ _ ne3 va3)))))))
  have w4 := (E10 _ _ ne4 (E9 _ _ ne4 (E8 _ _ ne4 (E7 _ _ ne4 (E6 _ _ ne4 (E5 _ _ ne4 va4))))))
  have w5 := (E10 _ _ ne5 (E9 _ _ ne5 (E8 _ _ ne5 (E7 _ _ ne5 (E6 _ _ ne5 va5)))))
  have w6 := (E10 _ _ ne6 (E9 _ _ ne6 (E8 _ _ ne6 (E7 _ _ ne6 va6))))
  have w7 := (E10 _ _ ne7 (E9 _ _ ne7 (E8 _ _ ne7 va7)))
  have w8 := (E10 _ _ ne8 (E9 _ _ ne8 va8))
  have w9 := (E10 _ _ ne9 va9)
  exact h p10 (fun i => [a0, a1, a2, a3, a4, a5, a6, a7, a8, a9, a10].getD i 0) (E0.tr (E1.tr (E2.tr (E3.tr (E4.tr (E5.tr (E6.tr (E7.tr (E8.tr (E9.tr E10)))))))))) ⟨xa10, ⟨_, w0⟩, ⟨_, w1⟩, ⟨_, w2⟩, ⟨_, w3⟩, ⟨_, w4⟩, ⟨_, w5⟩, ⟨_, w6⟩, ⟨_, w7⟩, ⟨_, w8⟩, ⟨_, w9⟩⟩
theorem i_alg {Q : PH → Prop} (hx : ph x = some (103, .inl (3, [.null, .null, .null, .null, .null, .null, .null, .null]))) (h : ∀ (p : PH) (B : Nat → Nat) (b0 b1 b2 : Nat), Ext (fun q => q = x) ph p → AlA p x B b0 b1 b2 → Q p) : w_X0_init x ph Q X := by
  unfold w_X0_init
  refine ⟨x, rfl, i_tab hx (by decide) (show 0 < 8 by decide) (fun a0 t0 p0 E0 ne0 me0 na0 ma0 T0 xa0 => i_tab xa0 (by decide) (show 1 < 8 by decide) (fun a1 t1 p1 E1 ne1 me1 na1 ma1 T1 xa1 => i_tab xa1 (by decide) (show 2 < 8 by decide) (fun a2 t2 p2 E2 ne2 me2 na2 ma2 T2 xa2 => i_step xa2 (by decide) (show 3 < 8 by decide) (fun a3 p3 E3 ne3 na3 va3 xa3 => i_step xa3 (by decide) (show 4 < 8 by decide) (fun a4 p4 E4 ne4 na4 va4 xa4 => i_step xa4 (by decide) (show 5 < 8 by decide) (fun a5 p5 E5 ne5 na5 va5 xa5 => i_step xa5 (by decide) (show 6 < 8 by decide) (fun a6 p6 E6 ne6 na6 va6 xa6 => i_step xa6 (by decide) (show 7 < 8 by decide) (fun a7 p7 E7 ne7 na7 va7 xa7 => ?_))))))))⟩
  have U0 := (((((((T0.ext E1 ne0 me0).ext E2 ne0 me0).ext E3 ne0 me0).ext E4 ne0 me0).ext E5 ne0 me0).ext E6 ne0 me0).ext E7 ne0 me0)
  have U1 := ((((((T1.ext E2 ne1 me1).ext E3 ne1 me1).ext E4 ne1 me1).ext E5 ne1 me1).ext E6 ne1 me1).ext E7 ne1 me1)
  have U2 := (((((T2.ext E3 ne2 me2).ext E4 ne2 me2).ext E5 ne2 me2).ext E6 ne2 me2).ext E7 ne2 me2)
  have w3 := (E7 _ _ ne3 (E6 _ _ ne3 (E5 _ _ ne3 (E4 _ _ ne3 va3))))
  have w4 := (E7 _ _ ne4 (E6 _ _ ne4 (E5 _ _ ne4 va4)))
  have w5 := (E7 _ _ ne5 (E6 _ _ ne5 va5))
  have w6 := (E7 _ _ ne6 va6)
  have d01 : a0 ≠ a1 := (ne_none T0.2.1 na1).symm
  have d02 : a0 ≠ a2 := (ne_none (T0.ext E1 ne0 me0).2.1 na2).symm
  have d12 : a1 ≠ a2 := (ne_none T1.2.1 na2).symm
  have e01 : t0 ≠ t1 := (ne_none T0.2.2 ma1).symm
  have e02 : t0 ≠ t2 := (ne_none (T0.ext E1 ne0 me0).2.2 ma2).symm
  have e12 : t1 ≠ t2 := (ne_none T1.2.2 ma2).symm
  exact h p7 (fun i => [a0, a1, a2, a3, a4, a5, a6, a7].getD i 0) t0 t1 t2 (E0.tr (E1.tr (E2.tr (E3.tr (E4.tr (E5.tr (E6.tr E7))))))) ⟨xa7, ⟨_, _, _, U0⟩, ⟨_, _, _, U1⟩, ⟨_, _, _, U2⟩, ⟨_, w3⟩, ⟨_, w6⟩, ⟨_, va7⟩, d01, d02, d12, e01, e02, e12⟩
def ls0 (i : Nat) : Nat := if i % 4 = 0 then i / 4 else 0
theorem i_repl {Q : PH → Prop} (hx : ph x = some (108, .inl (8, [.null, .null, .null, .null]))) (h : ∀ (p : PH) (rl rv rr rs : Nat), Ext (fun q => q = x) ph p → Rp p x rl rv rr rs (fun _ => 1) ls0 → Q p) : w_X7_init x ph Q X := by
  unfold w_X7_init
  refine ⟨x, rfl, i_step hx (by decide) (show 0 < 4 by decide) (fun a0 p0 E0 ne0 na0 va0 xa0 => i_step xa0 (by decide) (show 1 < 4 by decide) (fun a1 p1 E1 ne1 na1 va1 xa1 => i_step xa1 (by decide) (show 2 < 4 by decide) (fun a2 p2 E2 ne2 na2 va2 xa2 => i_step xa2 (by decide) (show 3 < 4 by decide) (fun a3 p3 E3 ne3 na3 va3 xa3 => ?_))))⟩
  have w0 := E3 _ _ ne0 (E2 _ _ ne0 (E1 _ _ ne0 va0))
  have w1 := E3 _ _ ne1 (E2 _ _ ne1 va1)
  have w2 := E3 _ _ ne2 va2
  have d01 : a1 ≠ a0 := tag_ne w1 w0 (by decide)
  have d20 : a2 ≠ a0 := tag_ne w2 w0 (by decide)
  have d21 : a2 ≠ a1 := tag_ne w2 w1 (by decide)
  have d30 : a3 ≠ a0 := tag_ne va3 w0 (by decide)
  have d31 : a3 ≠ a1 := tag_ne va3 w1 (by decide)
  have xa3' : p3 x = some (108, .inl (8, [.ref a0, .ref a1, .ref a2, .ref a3])) := xa3
  have m0 : ph a0 = none := na0
  have K3 : Ext (fun q => q = x) ph p3 := E0.tr (E1.tr (E2.tr E3))
  have n1 : ph a1 = none := by
    cases hp : ph a1 with
    | none => rfl
    | some e =>
      have h9 := E0 a1 e ne1 hp
      rw [na1] at h9
      cases h9
  refine ⟨4, (upto0 (n := 3) (P := fun fu i => ∀ (p : PH) (f g : Nat → Int32), Ext (fun q => q = x ∨ q = a0 ∨ q = a1) ph p → p x = some (108, .inl (8, [.ref a0, .ref a1, .ref a2, .ref a3])) → p a0 = some (226, .inr (.int, 3, .inl f)) → p a1 = some (227, .inr (.int, 12, .inl g)) → Arr p a2 228 200 → Arr p a3 229 200 → (∀ j : Nat, j < i → f j = 1) → (∀ j : Nat, j < 12 → g j = if j % 4 = 0 ∧ j / 4 < i then Int32.ofNat (j / 4) else 0) → w_X7_init_39 Q X fu (some x) (Int32.ofNat i) p) fun fu i hi ih => ?_) p3 _ _ (K3.mono (fun q h9 => Or.inl h9)) xa3' w0 w1 ⟨_, w2⟩ ⟨_, va3⟩ (fun j hj => by omega) (fun j hj => by rw [if_neg (by omega)])⟩
  intro p f g hK ex e0 e1 ar2 ar3 hf hg
  have xn0 : x ≠ a0 := tag_ne ex e0 (by decide)
  have xn1 : x ≠ a1 := tag_ne ex e1 (by decide)
  unfold w_X7_init_39
  rw [ex_gR ex (v0 := some a0) rfl, ex_aL e0, on_le (by omega) (by omega)]
  refine ⟨fun h9 => ?_, fun h9 => ?_⟩
  · refine h p a0 a1 a2 a3 (hK.drop (fun q hq => ?_)) ⟨ex, ⟨f, e0, fun a ha => ⟨show (1 : Nat) ≤ 4 by decide, hf a (by omega)⟩⟩, ⟨g, e1, fun j hj => ?_⟩, ar2, ar3⟩
    · rcases hq with rfl | rfl | rfl
      · exact Or.inl rfl
      · exact Or.inr m0
      · exact Or.inr n1
    · unfold ls0
      rw [hg j hj]
      by_cases h8 : j % 4 = 0
      · rw [if_pos h8, if_pos ⟨h8, by omega⟩]
        exact ⟨by omega, rfl⟩
      · rw [if_neg h8, if_neg (fun h7 => h8 h7.1)]
        exact ⟨by omega, rfl⟩
  rw [ex_gR ex (v0 := some a0) rfl, ex_sI e0 (by decide) (on_in (by omega) (by omega)), on_nat (by omega)]
  intro v58 h58
  rw [show (4 : Int32) = Int32.ofNat 4 from rfl, ← Int32.ofNat_mul] at h58
  subst h58
  have ex2 := hset_at (e := (226, .inr (.int, 3, .inl (upd f i 1)))) xn0 ex
  have e12 := hset_at (e := (226, .inr (.int, 3, .inl (upd f i 1)))) d01 e1
  have e02 := hset_same (ph := p) (a := a0) (e := (226, .inr (.int, 3, .inl (upd f i 1))))
  have ar22 : Arr (hset p a0 (226, .inr (.int, 3, .inl (upd f i 1)))) a2 228 200 := by
    obtain ⟨q, hq⟩ := ar2
    exact ⟨q, hset_at d20 hq⟩
  have ar32 : Arr (hset p a0 (226, .inr (.int, 3, .inl (upd f i 1)))) a3 229 200 := by
    obtain ⟨q, hq⟩ := ar3
    exact ⟨q, hset_at d30 hq⟩
  have K2 : Ext (fun q => q = x ∨ q = a0 ∨ q = a1) ph (hset p a0 (226, .inr (.int, 3, .inl (upd f i 1)))) := hK.tr (Ext.set (Or.inr (Or.inl rfl)))
  generalize hset p a0 (226, .inr (.int, 3, .inl (upd f i 1))) = u at ex2 e12 e02 ar22 ar32 K2 ⊢
  rw [ex_gR ex2 (v0 := some a1) rfl, ex_aL e12, on_le (by omega) (by omega), on_succ]
  refine ⟨fun h8 => absurd h8 (by omega), fun _ => ?_⟩
  rw [ex_gR ex2 (v0 := some a1) rfl, ex_sI e12 (by decide) (on_in (by omega) (by omega)), on_nat (by omega)]
  refine ih (by omega) _ _ _ (K2.tr (Ext.set (Or.inr (Or.inr rfl)))) (hset_at xn1 ex2) (hset_at d01.symm e02) hset_same ?_ ?_ (fun j hj => ?_) (fun j hj => ?_)
  · obtain ⟨q, hq⟩ := ar22
    exact ⟨q, hset_at d21 hq⟩
  · obtain ⟨q, hq⟩ := ar32
    exact ⟨q, hset_at d31 hq⟩
  · by_cases hji : j = i
    · rw [hji, pk_us]
    · rw [pk_un hji]
      exact hf j (by omega)
  · by_cases hji : j = 4 * i
    · rw [hji, pk_us, if_pos ⟨by omega, by omega⟩, show 4 * i / 4 = i by omega]
    · rw [pk_un hji, hg j hj]
      by_cases h8 : j % 4 = 0 ∧ j / 4 < i
      · rw [if_pos h8, if_pos ⟨h8.1, by omega⟩]
      · rw [if_neg h8, if_neg (fun h7 => h8 ⟨h7.1, by omega⟩)]
theorem no112 : ∀ t : Nat, 206 ≤ t → t ≤ 215 → (t == 112) = false := by
  intro t t1 t2
  have h9 : ¬ t = 112 := by omega
  simp [h9]
theorem i_all {pz : PH} {sD : Nat → Nat × Nat × (Nat → Int32)} {mD : Nat → Nat × Nat × (Nat → Int64)} {Q : PH → Prop} (hx : ph x = some (112, .inl (12, [.null, .null, .int 0, .null, .int 0, .null, .int 0, .null, .null, .null, .null, .null]))) (hz : Hi pz ph) (h : ∀ (p : PH) (tf : Nat → Int32), Wd pz x 0 sD 0 mD 0 tf (fun _ => 1) ls0 p → Q p) : w_X11_init x ph Q X := by
  unfold w_X11_init
  refine ⟨x, rfl, ?_⟩
  intro t q1 h1 hq1
  subst hq1
  have n1 := ne_none hx h1
  refine ⟨t, rfl, ?_⟩
  refine i_tape hset_same (fun p1 ts tf K1 T => ?_)
  have c1 := K1 _ _ n1.symm (hset_at (ph := ph) (a := t) (e := (110, .inl (10, [.null, .int 0]))) n1.symm hx)
  rw [ex_pW (fs' := [va_rf (some t), .null, .int 0, .null, .int 0, .null, .int 0, .null, .null, .null, .null, .null]) c1 (by decide) (show 0 < 12 by decide) rfl]
  have E1 : Ext (fun q => q = x) ph (hset p1 x (112, .inl (12, [va_rf (some t), .null, .int 0, .null, .int 0, .null, .int 0, .null, .null, .null, .null, .null]))) := Ext.drop (P := fun q => q = x ∨ q = t) ((Ext.new h1).tr ((K1.mono (fun q k9 => Or.inr k9)).tr (Ext.set (Or.inl rfl)))) (fun q k9 => k9.elim Or.inl (fun k8 => Or.inr (by rw [k8]; exact h1)))
  have sv1 : Sv (fun t => t == 112) p1 (hset p1 x (112, .inl (12, [va_rf (some t), .null, .int 0, .null, .int 0, .null, .int 0, .null, .null, .null, .null, .null]))) := (Ext.set (P := fun q => q = x) rfl).sv (fun a e ha he => by
    have h9 : a = x := ha
    subst h9
    cases he.symm.trans c1
    exact ⟨rfl, rfl⟩)
  have T' : Tp (hset p1 x (112, .inl (12, [va_rf (some t), .null, .int 0, .null, .int 0, .null, .int 0, .null, .null, .null, .null, .null]))) t ts 0 tf := T.sv sv1 rfl rfl
  have x1 : (hset p1 x (112, .inl (12, [va_rf (some t), .null, .int 0, .null, .int 0, .null, .int 0, .null, .null, .null, .null, .null]))) x = some (112, .inl (12, [va_rf (some t), .null, .int 0, .null, .int 0, .null, .int 0, .null, .null, .null, .null, .null])) := hset_same
  generalize (hset p1 x (112, .inl (12, [va_rf (some t), .null, .int 0, .null, .int 0, .null, .int 0, .null, .null, .null, .null, .null]))) = u1 at E1 x1 T' ⊢
  refine i_step x1 (by decide) (show 1 < 12 by decide) (fun sa u2 E2 n2 h2 v2 x2 => ?_)
  refine i_step x2 (by decide) (show 3 < 12 by decide) (fun ca u3 E3 n3 h3 v3 x3 => ?_)
  refine i_step x3 (by decide) (show 5 < 12 by decide) (fun ma u4 E4 n4 h4 v4 x4 => ?_)
  intro r q5 h5 hq5
  subst hq5
  have n5 := ne_none x4 h5
  refine ⟨r, rfl, ?_⟩
  refine i_reader hset_same (fun p5 A K5 R => ?_)
  have c5 := K5 _ _ n5.symm (hset_at (ph := u4) (a := r) (e := (107, .inl (7, [.null, .null, .null, .null, .null, .null, .null, .null, .null, .null, .null]))) n5.symm x4)
  rw [ex_pW (fs' := [va_rf (some t), va_rf (some sa), .int 0, va_rf (some ca), .int 0, va_rf (some ma), .int 0, va_rf (some r), .null, .null, .null, .null]) c5 (by decide) (show 7 < 12 by decide) rfl]
  have E5 : Ext (fun q => q = x) u4 (hset p5 x (112, .inl (12, [va_rf (some t), va_rf (some sa), .int 0, va_rf (some ca), .int 0, va_rf (some ma), .int 0, va_rf (some r), .null, .null, .null, .null]))) := Ext.drop (P := fun q => q = x ∨ q = r) ((Ext.new h5).tr ((K5.mono (fun q k9 => Or.inr k9)).tr (Ext.set (Or.inl rfl)))) (fun q k9 => k9.elim Or.inl (fun k8 => Or.inr (by rw [k8]; exact h5)))
  have sv5 : Sv (fun t => t == 112) p5 (hset p5 x (112, .inl (12, [va_rf (some t), va_rf (some sa), .int 0, va_rf (some ca), .int 0, va_rf (some ma), .int 0, va_rf (some r), .null, .null, .null, .null]))) := (Ext.set (P := fun q => q = x) rfl).sv (fun a e ha he => by
    have h9 : a = x := ha
    subst h9
    cases he.symm.trans c5
    exact ⟨rfl, rfl⟩)
  have R' : RdA (hset p5 x (112, .inl (12, [va_rf (some t), va_rf (some sa), .int 0, va_rf (some ca), .int 0, va_rf (some ma), .int 0, va_rf (some r), .null, .null, .null, .null]))) r A := R.sv sv5 rfl no112
  have x5 : (hset p5 x (112, .inl (12, [va_rf (some t), va_rf (some sa), .int 0, va_rf (some ca), .int 0, va_rf (some ma), .int 0, va_rf (some r), .null, .null, .null, .null]))) x = some (112, .inl (12, [va_rf (some t), va_rf (some sa), .int 0, va_rf (some ca), .int 0, va_rf (some ma), .int 0, va_rf (some r), .null, .null, .null, .null])) := hset_same
  generalize (hset p5 x (112, .inl (12, [va_rf (some t), va_rf (some sa), .int 0, va_rf (some ca), .int 0, va_rf (some ma), .int 0, va_rf (some r), .null, .null, .null, .null]))) = u5 at E5 x5 R' ⊢
  intro wy q6 h6 hq6
  subst hq6
  have n6 := ne_none x5 h6
  refine ⟨wy, rfl, ?_⟩
  refine i_ways hset_same (fun p6 aR aV K6 Wy1 Wy2 => ?_)
  have c6 := K6 _ _ n6.symm (hset_at (ph := u5) (a := wy) (e := (111, .inl (11, [.null, .null]))) n6.symm x5)
  rw [ex_pW (fs' := [va_rf (some t), va_rf (some sa), .int 0, va_rf (some ca), .int 0, va_rf (some ma), .int 0, va_rf (some r), va_rf (some wy), .null, .null, .null]) c6 (by decide) (show 8 < 12 by decide) rfl]
  have E6 : Ext (fun q => q = x) u5 (hset p6 x (112, .inl (12, [va_rf (some t), va_rf (some sa), .int 0, va_rf (some ca), .int 0, va_rf (some ma), .int 0, va_rf (some r), va_rf (some wy), .null, .null, .null]))) := Ext.drop (P := fun q => q = x ∨ q = wy) ((Ext.new h6).tr ((K6.mono (fun q k9 => Or.inr k9)).tr (Ext.set (Or.inl rfl)))) (fun q k9 => k9.elim Or.inl (fun k8 => Or.inr (by rw [k8]; exact h6)))
  have sv6 : Sv (fun t => t == 112) p6 (hset p6 x (112, .inl (12, [va_rf (some t), va_rf (some sa), .int 0, va_rf (some ca), .int 0, va_rf (some ma), .int 0, va_rf (some r), va_rf (some wy), .null, .null, .null]))) := (Ext.set (P := fun q => q = x) rfl).sv (fun a e ha he => by
    have h9 : a = x := ha
    subst h9
    cases he.symm.trans c6
    exact ⟨rfl, rfl⟩)
  have Wy1' : Wy (hset p6 x (112, .inl (12, [va_rf (some t), va_rf (some sa), .int 0, va_rf (some ca), .int 0, va_rf (some ma), .int 0, va_rf (some r), va_rf (some wy), .null, .null, .null]))) wy aR aV := sv6.1 _ _ Wy1 rfl
  have Wy2' : Arr (hset p6 x (112, .inl (12, [va_rf (some t), va_rf (some sa), .int 0, va_rf (some ca), .int 0, va_rf (some ma), .int 0, va_rf (some r), va_rf (some wy), .null, .null, .null]))) aR 217 24 := Wy2.sv sv6 rfl
  have x6 : (hset p6 x (112, .inl (12, [va_rf (some t), va_rf (some sa), .int 0, va_rf (some ca), .int 0, va_rf (some ma), .int 0, va_rf (some r), va_rf (some wy), .null, .null, .null]))) x = some (112, .inl (12, [va_rf (some t), va_rf (some sa), .int 0, va_rf (some ca), .int 0, va_rf (some ma), .int 0, va_rf (some r), va_rf (some wy), .null, .null, .null])) := hset_same
  generalize (hset p6 x (112, .inl (12, [va_rf (some t), va_rf (some sa), .int 0, va_rf (some ca), .int 0, va_rf (some ma), .int 0, va_rf (some r), va_rf (some wy), .null, .null, .null]))) = u6 at E6 x6 Wy1' Wy2' ⊢
  intro al q7 h7 hq7
  subst hq7
  have n7 := ne_none x6 h7
  refine ⟨al, rfl, ?_⟩
  refine i_alg hset_same (fun p7 B b0 b1 b2 K7 AL => ?_)
  have c7 := K7 _ _ n7.symm (hset_at (ph := u6) (a := al) (e := (103, .inl (3, [.null, .null, .null, .null, .null, .null, .null, .null]))) n7.symm x6)
  rw [ex_pW (fs' := [va_rf (some t), va_rf (some sa), .int 0, va_rf (some ca), .int 0, va_rf (some ma), .int 0, va_rf (some r), va_rf (some wy), va_rf (some al), .null, .null]) c7 (by decide) (show 9 < 12 by decide) rfl]
  have E7 : Ext (fun q => q = x) u6 (hset p7 x (112, .inl (12, [va_rf (some t), va_rf (some sa), .int 0, va_rf (some ca), .int 0, va_rf (some ma), .int 0, va_rf (some r), va_rf (some wy), va_rf (some al), .null, .null]))) := Ext.drop (P := fun q => q = x ∨ q = al) ((Ext.new h7).tr ((K7.mono (fun q k9 => Or.inr k9)).tr (Ext.set (Or.inl rfl)))) (fun q k9 => k9.elim Or.inl (fun k8 => Or.inr (by rw [k8]; exact h7)))
  have sv7 : Sv (fun t => t == 112) p7 (hset p7 x (112, .inl (12, [va_rf (some t), va_rf (some sa), .int 0, va_rf (some ca), .int 0, va_rf (some ma), .int 0, va_rf (some r), va_rf (some wy), va_rf (some al), .null, .null]))) := (Ext.set (P := fun q => q = x) rfl).sv (fun a e ha he => by
    have h9 : a = x := ha
    subst h9
    cases he.symm.trans c7
    exact ⟨rfl, rfl⟩)
  have AL' : AlA (hset p7 x (112, .inl (12, [va_rf (some t), va_rf (some sa), .int 0, va_rf (some ca), .int 0, va_rf (some ma), .int 0, va_rf (some r), va_rf (some wy), va_rf (some al), .null, .null]))) al B b0 b1 b2 := AL.sv sv7 rfl rfl rfl rfl rfl rfl
  have x7 : (hset p7 x (112, .inl (12, [va_rf (some t), va_rf (some sa), .int 0, va_rf (some ca), .int 0, va_rf (some ma), .int 0, va_rf (some r), va_rf (some wy), va_rf (some al), .null, .null]))) x = some (112, .inl (12, [va_rf (some t), va_rf (some sa), .int 0, va_rf (some ca), .int 0, va_rf (some ma), .int 0, va_rf (some r), va_rf (some wy), va_rf (some al), .null, .null])) := hset_same
  generalize (hset p7 x (112, .inl (12, [va_rf (some t), va_rf (some sa), .int 0, va_rf (some ca), .int 0, va_rf (some ma), .int 0, va_rf (some r), va_rf (some wy), va_rf (some al), .null, .null]))) = u7 at E7 x7 AL' ⊢
  intro ce q8 h8 hq8
  subst hq8
  have n8 := ne_none x7 h8
  refine ⟨ce, rfl, ?_⟩
  refine i_cells hset_same (fun p8 K8 => ?_)
  have c8 := K8 _ _ n8.symm (hset_at (ph := u7) (a := ce) (e := (105, .inl (5, [.null]))) n8.symm x7)
  rw [ex_pW (fs' := [va_rf (some t), va_rf (some sa), .int 0, va_rf (some ca), .int 0, va_rf (some ma), .int 0, va_rf (some r), va_rf (some wy), va_rf (some al), va_rf (some ce), .null]) c8 (by decide) (show 10 < 12 by decide) rfl]
  have E8 : Ext (fun q => q = x) u7 (hset p8 x (112, .inl (12, [va_rf (some t), va_rf (some sa), .int 0, va_rf (some ca), .int 0, va_rf (some ma), .int 0, va_rf (some r), va_rf (some wy), va_rf (some al), va_rf (some ce), .null]))) := Ext.drop (P := fun q => q = x ∨ q = ce) ((Ext.new h8).tr ((K8.mono (fun q k9 => Or.inr k9)).tr (Ext.set (Or.inl rfl)))) (fun q k9 => k9.elim Or.inl (fun k8 => Or.inr (by rw [k8]; exact h8)))
  have x8 : (hset p8 x (112, .inl (12, [va_rf (some t), va_rf (some sa), .int 0, va_rf (some ca), .int 0, va_rf (some ma), .int 0, va_rf (some r), va_rf (some wy), va_rf (some al), va_rf (some ce), .null]))) x = some (112, .inl (12, [va_rf (some t), va_rf (some sa), .int 0, va_rf (some ca), .int 0, va_rf (some ma), .int 0, va_rf (some r), va_rf (some wy), va_rf (some al), va_rf (some ce), .null])) := hset_same
  generalize (hset p8 x (112, .inl (12, [va_rf (some t), va_rf (some sa), .int 0, va_rf (some ca), .int 0, va_rf (some ma), .int 0, va_rf (some r), va_rf (some wy), va_rf (some al), va_rf (some ce), .null]))) = u8 at E8 x8  ⊢
  intro rp q9 h9 hq9
  subst hq9
  have n9 := ne_none x8 h9
  refine ⟨rp, rfl, ?_⟩
  refine i_repl hset_same (fun p9 rl rv rr rs K9 RP => ?_)
  have c9 := K9 _ _ n9.symm (hset_at (ph := u8) (a := rp) (e := (108, .inl (8, [.null, .null, .null, .null]))) n9.symm x8)
  rw [ex_pW (fs' := [va_rf (some t), va_rf (some sa), .int 0, va_rf (some ca), .int 0, va_rf (some ma), .int 0, va_rf (some r), va_rf (some wy), va_rf (some al), va_rf (some ce), va_rf (some rp)]) c9 (by decide) (show 11 < 12 by decide) rfl]
  have E9 : Ext (fun q => q = x) u8 (hset p9 x (112, .inl (12, [va_rf (some t), va_rf (some sa), .int 0, va_rf (some ca), .int 0, va_rf (some ma), .int 0, va_rf (some r), va_rf (some wy), va_rf (some al), va_rf (some ce), va_rf (some rp)]))) := Ext.drop (P := fun q => q = x ∨ q = rp) ((Ext.new h9).tr ((K9.mono (fun q k9 => Or.inr k9)).tr (Ext.set (Or.inl rfl)))) (fun q k9 => k9.elim Or.inl (fun k8 => Or.inr (by rw [k8]; exact h9)))
  have sv9 : Sv (fun t => t == 112) p9 (hset p9 x (112, .inl (12, [va_rf (some t), va_rf (some sa), .int 0, va_rf (some ca), .int 0, va_rf (some ma), .int 0, va_rf (some r), va_rf (some wy), va_rf (some al), va_rf (some ce), va_rf (some rp)]))) := (Ext.set (P := fun q => q = x) rfl).sv (fun a e ha he => by
    have h9 : a = x := ha
    subst h9
    cases he.symm.trans c9
    exact ⟨rfl, rfl⟩)
  have RP' : Rp (hset p9 x (112, .inl (12, [va_rf (some t), va_rf (some sa), .int 0, va_rf (some ca), .int 0, va_rf (some ma), .int 0, va_rf (some r), va_rf (some wy), va_rf (some al), va_rf (some ce), va_rf (some rp)]))) rp rl rv rr rs (fun _ => 1) ls0 := RP.sv sv9 rfl rfl rfl rfl rfl
  have x9 : (hset p9 x (112, .inl (12, [va_rf (some t), va_rf (some sa), .int 0, va_rf (some ca), .int 0, va_rf (some ma), .int 0, va_rf (some r), va_rf (some wy), va_rf (some al), va_rf (some ce), va_rf (some rp)]))) x = some (112, .inl (12, [va_rf (some t), va_rf (some sa), .int 0, va_rf (some ca), .int 0, va_rf (some ma), .int 0, va_rf (some r), va_rf (some wy), va_rf (some al), va_rf (some ce), va_rf (some rp)])) := hset_same
  generalize (hset p9 x (112, .inl (12, [va_rf (some t), va_rf (some sa), .int 0, va_rf (some ca), .int 0, va_rf (some ma), .int 0, va_rf (some r), va_rf (some wy), va_rf (some al), va_rf (some ce), va_rf (some rp)]))) = u9 at E9 x9 RP' ⊢
  have S1 := (Ext.sv (T := fun t => t == 112) (E2.tr (E3.tr (E4.tr (E5.tr (E6.tr (E7.tr (E8.tr E9))))))) (fun a e ha he => by
    have h9 : a = x := ha
    subst h9
    cases he.symm.trans x1
    exact ⟨rfl, rfl⟩))
  have S2 := (Ext.sv (T := fun t => t == 112) (E3.tr (E4.tr (E5.tr (E6.tr (E7.tr (E8.tr E9)))))) (fun a e ha he => by
    have h9 : a = x := ha
    subst h9
    cases he.symm.trans x2
    exact ⟨rfl, rfl⟩))
  have S3 := (Ext.sv (T := fun t => t == 112) (E4.tr (E5.tr (E6.tr (E7.tr (E8.tr E9))))) (fun a e ha he => by
    have h9 : a = x := ha
    subst h9
    cases he.symm.trans x3
    exact ⟨rfl, rfl⟩))
  have S4 := (Ext.sv (T := fun t => t == 112) (E5.tr (E6.tr (E7.tr (E8.tr E9)))) (fun a e ha he => by
    have h9 : a = x := ha
    subst h9
    cases he.symm.trans x4
    exact ⟨rfl, rfl⟩))
  have S5 := (Ext.sv (T := fun t => t == 112) (E6.tr (E7.tr (E8.tr E9))) (fun a e ha he => by
    have h9 : a = x := ha
    subst h9
    cases he.symm.trans x5
    exact ⟨rfl, rfl⟩))
  have S6 := (Ext.sv (T := fun t => t == 112) (E7.tr (E8.tr E9)) (fun a e ha he => by
    have h9 : a = x := ha
    subst h9
    cases he.symm.trans x6
    exact ⟨rfl, rfl⟩))
  have S7 := (Ext.sv (T := fun t => t == 112) (E8.tr E9) (fun a e ha he => by
    have h9 : a = x := ha
    subst h9
    cases he.symm.trans x7
    exact ⟨rfl, rfl⟩))
  have S0 := (Ext.sv (T := fun t => t == 112) (E1.tr (E2.tr (E3.tr (E4.tr (E5.tr (E6.tr (E7.tr (E8.tr E9)))))))) (fun a e ha he => by
    have h9 : a = x := ha
    subst h9
    cases he.symm.trans hx
    exact ⟨rfl, rfl⟩))
  refine h u9 tf ⟨fun i => [t, sa, ca, ma, r, wy, al, ce, rp, ts, b0, b1, b2, aR, aV, rl, rv, rr, rs].getD i 0, A, B, 0, x9, T'.sv S1 rfl rfl, ⟨by omega, fun _ => none, fun _ => 0, fun _ => 0, S2.1 _ _ v2 rfl, fun j _ => rfl, fun j hj => absurd hj (Nat.not_lt_zero j), fun i j hi => absurd hi (Nat.not_lt_zero i)⟩, ⟨by omega, fun _ => none, fun _ => 0, fun _ => 0, fun _ => 0, fun _ _ => 0, S3.1 _ _ v3 rfl, fun j _ => rfl, fun j hj => absurd hj (Nat.not_lt_zero j), fun i j hi => absurd hi (Nat.not_lt_zero i)⟩, ⟨by omega, fun _ => none, fun _ => 0, fun _ => 0, S4.1 _ _ v4 rfl, fun j _ => rfl, fun j hj => absurd hj (Nat.not_lt_zero j), fun i j hi => absurd hi (Nat.not_lt_zero i)⟩, R'.sv S5 rfl no112, ⟨S6.1 _ _ Wy1' rfl, Wy2'.sv S6 rfl, hz.tr S0.2⟩, AL'.sv S7 rfl rfl rfl rfl rfl rfl, RP'⟩
end INIT
