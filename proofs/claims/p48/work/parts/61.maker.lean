/-! graphs by forbidden words and by gaps -/
theorem Ext.fresh {P : Nat → Prop} {a b : PH} (h : Ext P a b) (hP : ∀ q : Nat, P q → a q = none) : Ext (fun _ => False) a b := fun q e _ hq => h q e (fun h9 => by
  rw [hP q h9] at hq
  cases hq) hq
theorem Tp.ext {P : Nat → Prop} {p q : PH} {t ts n : Nat} {f : Nat → Int32} (h : Ext P p q) (hT : Tp p t ts n f) (h1 : ¬ P t) (h2 : ¬ P ts) : Tp q t ts n f := ⟨h t _ h1 hT.1, h ts _ h2 hT.2.1, hT.2.2⟩
theorem GrA.ext {P : Nat → Prop} {p q : PH} {g ge st lt : Nat} {E : Nat → Int32} (h : Ext P p q) (hT : GrA p g ge st lt E) (h1 : ¬ P g) (h2 : ¬ P ge) : GrA q g ge st lt E := ⟨hT.1, h g _ h1 hT.2.1, h ge _ h2 hT.2.2⟩
theorem none_not {P : Nat → Prop} {ph : PH} {q : Nat} {e : Ent} (hP : ∀ q : Nat, P q → ph q = none) (h : ph q = some e) : ¬ P q := fun h9 => by
  rw [hP q h9] at h
  cases h
section MAKER
variable {ph : PH} {t ts n lt : Nat} {f : Nat → Int32} {X : String → PH → Prop}
theorem g_byForbidden {Q : Option Nat → PH → Prop} (hlt : 2 ≤ lt ∧ lt ≤ 3) (hT : Tp ph t ts n f) (h : ∀ (ph' : PH) (g ge : Nat) (E : Nat → Int32), ph g = none → ph ge = none → Ext (fun _ => False) ph ph' → GrA ph' g ge (lt * lt) lt E → Q (some g) ph') : w_X5_byForbidden (some t) (Int32.ofNat lt) ph Q X := by
  have hsq : 4 ≤ lt * lt ∧ lt * lt ≤ 9 := by
    have h4 : lt = 2 ∨ lt = 3 := by omega
    rcases h4 with rfl | rfl <;> decide
  unfold w_X5_byForbidden
  intro g p0 hg hp0
  subst hp0
  refine ⟨g, rfl, ?_⟩
  rw [← Int32.ofNat_mul]
  refine g_X3_init rfl ⟨by omega, by omega, hlt.1, hlt.2⟩ hset_same (fun p1 ge hge k1 G1 => ?_)
  have hgg : ge ≠ g := fun h9 => by
    rw [h9, hset_same] at hge
    cases hge
  have hge2 : ph ge = none := (hset_ne hgg).symm.trans hge
  have hP : ∀ q : Nat, q = g ∨ q = ge → ph q = none := fun q h9 => h9.elim (fun h8 => by rw [h8]; exact hg) (fun h8 => by rw [h8]; exact hge2)
  have k2 : Ext (fun q => q = g ∨ q = ge) ph p1 := (Ext.new hg).tr (k1.mono (fun q h9 => Or.inl h9))
  have hT' : ∀ p : PH, Ext (fun q => q = g ∨ q = ge) ph p → Tp p t ts n f := fun p hK => hT.ext hK (none_not hP hT.1) (none_not hP hT.2.1)
  refine ⟨lt + 1, (upto0 (P := fun fu x => ∀ (p : PH) (E : Nat → Int32), Ext (fun q => q = g ∨ q = ge) ph p → GrA p g ge (lt * lt) lt E → w_X5_byForbidden_14 Q X fu (some t) (Int32.ofNat lt) (some g) (Int32.ofNat x) p) fun fu x hx ih => ?_) p1 _ k2 G1⟩
  intro p E hK G
  unfold w_X5_byForbidden_14
  rw [on_le (by omega) (by omega)]
  refine ⟨fun _ => h p g ge E hg hge2 (hK.fresh hP) G, fun h9 => ?_⟩
  refine ⟨lt + 1, (upto0 (P := fun fu2 y => ∀ (p : PH) (E : Nat → Int32), Ext (fun q => q = g ∨ q = ge) ph p → GrA p g ge (lt * lt) lt E → w_X5_byForbidden_22 Q X (fun x0 x1 x2 x3 ph => w_X5_byForbidden_14 Q X fu x0 x1 x2 x3 ph) fu2 (some t) (Int32.ofNat lt) (some g) (Int32.ofNat x) (Int32.ofNat y) p) fun fu2 y hy ihy => ?_) p E hK G⟩
  intro p E hK G
  unfold w_X5_byForbidden_22
  rw [on_le (by omega) (by omega)]
  refine ⟨fun _ => ?_, fun h8 => ?_⟩
  · rw [on_succ]
    exact ih (by omega) p E hK G
  refine ⟨lt + 1, (upto0 (P := fun fu3 z => ∀ (p : PH) (E : Nat → Int32), Ext (fun q => q = g ∨ q = ge) ph p → GrA p g ge (lt * lt) lt E → w_X5_byForbidden_31 Q X (fun x0 x1 x2 x3 x4 ph => w_X5_byForbidden_22 Q X (fun x0 x1 x2 x3 ph => w_X5_byForbidden_14 Q X fu x0 x1 x2 x3 ph) fu2 x0 x1 x2 x3 x4 ph) fu3 (some t) (Int32.ofNat lt) (some g) (Int32.ofNat x) (Int32.ofNat y) (Int32.ofNat z) p) fun fu3 z hz ihz => ?_) p E hK G⟩
  intro p E hK G
  unfold w_X5_byForbidden_31
  rw [on_le (by omega) (by omega)]
  refine ⟨fun _ => ?_, fun h7 => ?_⟩
  · rw [on_succ]
    exact ihy (by omega) p E hK G
  have mid : ∀ s0 s1 s3 : Int32, w_X5_byForbidden_70 Q X (fun x0 x1 x2 x3 x4 x5 ph => w_X5_byForbidden_31 Q X (fun x0 x1 x2 x3 x4 ph => w_X5_byForbidden_22 Q X (fun x0 x1 x2 x3 ph => w_X5_byForbidden_14 Q X fu x0 x1 x2 x3 ph) fu2 x0 x1 x2 x3 x4 ph) fu3 x0 x1 x2 x3 x4 x5 ph) (some t) (Int32.ofNat lt) (some g) (Int32.ofNat x) (Int32.ofNat y) (Int32.ofNat z) s0 s1 (Int32.ofNat z) s3 (some g) p := by
    intro s0 s1 s3
    unfold w_X5_byForbidden_70
    rw [ex_isO G.2.1]
    refine g_tell G (fun p2 E2 k3 G2 _ => ?_)
    rw [on_succ]
    exact ihz (by omega) p2 E2 (hK.tr (k3.ext.mono (fun q h9 => Or.inr h9))) G2
  have hT1 := hT' p hK
  rw [ex_isO hT1.1]
  exact g_bars hT1 ⟨fun h6 => absurd rfl h6, fun _ => mid _ _ _⟩ ⟨fun _ => mid _ _ _, fun h6 => absurd h6 (by decide)⟩
theorem gap_key : ∀ k : Fin 256, k.val = 0 ∨ ∃ j : Fin 8, (Int32.ofNat k.val).toBitVec.getLsbD j.val = true := by decide +kernel
theorem g_byGaps {k : Nat} {Q : Option Nat → PH → Prop} (hk : 1 ≤ k ∧ k ≤ 255) (h : ∀ (ph' : PH) (g ge st : Nat) (E : Nat → Int32), ph g = none → ph ge = none → Ext (fun _ => False) ph ph' → GrA ph' g ge st 2 E → Q (some g) ph') : w_X5_byGaps (Int32.ofNat k) ph Q X := by
  unfold w_X5_byGaps
  refine ⟨8 + 1, (upto0 (n := 8) (P := fun fu i => ∀ s : Nat, s ≤ i → ((∃ j : Nat, j < i ∧ bt (Int32.ofNat k) j) → 1 ≤ s) → w_X5_byGaps_4 Q X fu (Int32.ofNat k) (Int32.ofNat s) (Int32.ofNat i) ph) fun fu i hi ih => ?_) 0 (Nat.le_refl _) (fun ⟨j, hj, _⟩ => by omega)⟩
  intro s hs hb
  unfold w_X5_byGaps_4
  rw [show (8 : Int32) = Int32.ofNat 8 from rfl, on_le (by omega) (by omega)]
  refine ⟨fun h9 => ?_, fun h9 => ?_⟩
  · have hs1 : 1 ≤ s := by
      rcases gap_key ⟨k, by omega⟩ with h8 | ⟨j, hj⟩
      · simp only at h8
        omega
      · exact hb ⟨j.val, by omega, hj⟩
    intro g p0 hg hp0
    subst hp0
    refine ⟨g, rfl, ?_⟩
    rw [show (2 : Int32) = Int32.ofNat 2 from rfl]
    refine g_X3_init rfl ⟨by omega, by omega, by omega, by omega⟩ hset_same (fun p1 ge hge k1 G1 => ?_)
    have hgg : ge ≠ g := fun h9 => by
      rw [h9, hset_same] at hge
      cases hge
    have hge2 : ph ge = none := (hset_ne hgg).symm.trans hge
    have hP : ∀ q : Nat, q = g ∨ q = ge → ph q = none := fun q h9 => h9.elim (fun h8 => by rw [h8]; exact hg) (fun h8 => by rw [h8]; exact hge2)
    have k2 : Ext (fun q => q = g ∨ q = ge) ph p1 := (Ext.new hg).tr (k1.mono (fun q h9 => Or.inl h9))
    refine ⟨s + 1, (upto0 (P := fun fu2 x => ∀ (p : PH) (E : Nat → Int32), Ext (fun q => q = g ∨ q = ge) ph p → GrA p g ge s 2 E → w_X5_byGaps_40 Q X fu2 (Int32.ofNat k) (Int32.ofNat s) (some g) (Int32.ofNat x) p) fun fu2 x hx ihx => ?_) p1 _ k2 G1⟩
    intro p E hK G
    unfold w_X5_byGaps_40
    rw [on_le (by omega) (by omega)]
    refine ⟨fun _ => h p g ge s E hg hge2 (hK.fresh hP) G, fun h8 => ?_⟩
    have mid : ∀ s0 s1 s2 : Int32, w_X5_byGaps_63 Q X (fun x0 x1 x2 x3 ph => w_X5_byGaps_40 Q X fu2 x0 x1 x2 x3 ph) (Int32.ofNat k) (Int32.ofNat s) (some g) (Int32.ofNat x) s0 s1 s2 (Int32.ofNat x) (some g) p := by
      intro s0 s1 s2
      unfold w_X5_byGaps_63
      rw [ex_isO G.2.1]
      refine g_tell G (fun p2 E2 k3 G2 _ => ?_)
      have K2 : Ext (fun q => q = g ∨ q = ge) ph p2 := hK.tr (k3.ext.mono (fun q h9 => Or.inr h9))
      have last : ∀ v : Int32, (∃ a75 : Nat, isO p2 (some g) 6 a75 ∧ (w_X3_tell a75 (Int32.ofNat x) (1 : Int32) (0 : Int32) v p2 (fun ph75 => w_X5_byGaps_40 Q X fu2 (Int32.ofNat k) (Int32.ofNat s) (some g) (Int32.ofNat x + 1) ph75) X)) := by
        intro v
        rw [ex_isO G2.2.1]
        refine g_tell G2 (fun p3 E3 k4 G3 _ => ?_)
        rw [on_succ]
        exact ihx (by omega) p3 E3 (K2.tr (k4.ext.mono (fun q h9 => Or.inr h9))) G3
      exact w_hasBit (fun _ => last _) (fun _ => last _)
    exact ⟨fun _ => mid _ _ _, fun _ => mid _ _ _⟩
  · rw [on_succ]
    refine w_hasBit (fun h8 => ⟨fun h7 => absurd h7 (by decide), fun _ v hv => ?_⟩) (fun h8 => ⟨fun _ => ih (by omega) s (by omega) (fun ⟨j, hj, hbj⟩ => hb ⟨j, ?_, hbj⟩), fun h7 => absurd rfl h7⟩)
    · rw [hv]
      exact ih (by omega) (i + 1) (Nat.le_refl _) (fun _ => by omega)
    · by_cases hji : j = i
      · rw [hji] at hbj
        exact absurd ((hb_bt (by omega)).mpr hbj) h8
      · omega
end MAKER
