/-! the law, from its first round to its end -/
section LAW
variable {pz : PH} {b sn mn tn cc : Nat} {sD : Nat → Nat × Nat × (Nat → Int32)} {mD : Nat → Nat × Nat × (Nat → Int64)} {tf : Nat → Int32} {ln ls : Nat → Nat} {ph : PH} {X : String → PH → Prop} {G : GG} {Q : Int32 → PH → Prop} {x0 : Option Nat} {x2 x3 x4 x5 x7 x8 x9 : Int32}
theorem look_str {bs L : Nat} {zs : Nat → Int32} {σ : Nat → Nat} (h : Look ph bs L zs σ) : (∃ f : Nat → Int32, Str ph (σ 34) 0 f) ∧ (∃ f : Nat → Int32, Str ph (σ 35) 9 f) ∧ (∃ f : Nat → Int32, Str ph (σ 36) 2 f) ∧ ∃ f : Nat → Int32, Str ph (σ 37) 3 f := by
  obtain ⟨-, ⟨V0, a0, b0⟩, ⟨V1, a1, b1⟩, ⟨V2, a2, b2⟩, ⟨V3, a3, b3⟩⟩ := h
  have k1 : ∀ i : Nat, i < 9 → Sg (([97, 98, 97, 98, 97, 98, 99, 44, 98] : List Int32).getD i 0) := fun i hi => (by decide : ∀ j : Fin 9, (fun x : Int32 => x = 97 ∨ x = 98 ∨ x = 99 ∨ x = 44) (([97, 98, 97, 98, 97, 98, 99, 44, 98] : List Int32).getD j.val 0)) ⟨i, hi⟩
  have k2 : ∀ i : Nat, i < 2 → Sg (([97, 98] : List Int32).getD i 0) := fun i hi => (by decide : ∀ j : Fin 2, (fun x : Int32 => x = 97 ∨ x = 98 ∨ x = 99 ∨ x = 44) (([97, 98] : List Int32).getD j.val 0)) ⟨i, hi⟩
  have k3 : ∀ i : Nat, i < 3 → Sg (([97, 98, 99] : List Int32).getD i 0) := fun i hi => (by decide : ∀ j : Fin 3, (fun x : Int32 => x = 97 ∨ x = 98 ∨ x = 99 ∨ x = 44) (([97, 98, 99] : List Int32).getD j.val 0)) ⟨i, hi⟩
  exact ⟨⟨_, by omega, fun i hi => absurd hi (Nat.not_lt_zero i), _, _, V0, _, a0, rfl, rfl, b0, rfl, rfl⟩, ⟨fun j => ([97, 98, 97, 98, 97, 98, 99, 44, 98] : List Int32).getD j 0, by omega, k1, _, _, V1, _, a1, rfl, rfl, b1, rfl, rfl⟩, ⟨fun j => ([97, 98] : List Int32).getD j 0, by omega, k2, _, _, V2, _, a2, rfl, rfl, b2, rfl, rfl⟩, ⟨fun j => ([97, 98, 99] : List Int32).getD j 0, by omega, k3, _, _, V3, _, a3, rfl, rfl, b3, rfl, rfl⟩⟩
theorem dec_0 : Int32.ofNat 0 + (-1 : Int32) = -1 := by decide
theorem dec_s (k : Nat) : Int32.ofNat (k + 1) + (-1 : Int32) = Int32.ofNat k := by
  exact (Int32.sub_eq_add_neg _ _).symm.trans (on_pred k)
theorem s110 {bs L : Nat} {zs : Nat → Int32} {K : Option Nat → Option Nat → Int32 → Int32 → Int32 → Int32 → Int32 → Int32 → Int32 → PH → Prop} (hL : Look pz bs L zs G.2) (hW : Wd pz b sn sD mn mD tn tf ln ls ph) (h : ∀ (tn' : Nat) (tf' : Nat → Int32) (p : PH), Wd pz b sn sD mn mD tn' tf' ln ls p → K x0 (some b) x2 x3 x4 x5 x7 x8 x9 p) : w_L_law_110 G Q X K x0 (some b) x2 x3 x4 x5 x7 x8 x9 ph := by
  obtain ⟨⟨f34, s34⟩, ⟨f35, s35⟩, ⟨f36, s36⟩, ⟨f37, s37⟩⟩ := look_str hL
  unfold w_L_law_110
  intro v112 h112
  subst h112
  refine g_low (n := 5) (by omega) (by omega) (fun hm => ?_)
  generalize lwR x7 5 = m at hm ⊢
  refine ⟨m + 1 + 1, by omega, (upto0 (n := m + 1) (P := fun fu i => ∀ (p : PH) (s : Nat) (f : Nat → Int32), Wd pz b sn sD mn mD tn tf ln ls p → Str p s i f → w_L_law_122 G Q X K fu x0 (some b) x2 x3 x4 x5 x7 x8 x9 (some s) (if i ≤ m then Int32.ofNat (m - i) else -1) p) fun fu i hi ih => ?_) ph (G.2 34) f34 hW (s34.hi hW.hi)⟩
  intro p s f hp hS
  unfold w_L_law_122
  by_cases him : i ≤ m
  · rw [if_pos him]
    refine ⟨fun h9 => absurd h9 (on_neg (by omega)), fun _ => ?_⟩
    intro a p1 ha hp1
    subst hp1
    refine ⟨a, rfl, g_sbInit hset_same (fun p2 v f2 hv E2 B2 => ?_)⟩
    have hva : v ≠ a := ne_none hset_same hv
    have hv0 : p v = none := (hset_ne hva).symm.trans hv
    have fr : ∀ q : Nat, q = a ∨ q = v → p q = none := fun q h9 => h9.elim (fun h8 => by rw [h8]; exact ha) (fun h8 => by rw [h8]; exact hv0)
    have K2 : Ext (fun q => q = a ∨ q = v) p p2 := (Ext.new ha).tr (E2.mono (fun q h9 => Or.inl h9))
    rw [ex_isO B2.2.2.1]
    refine g_sbStr B2 (hS.ext K2 fr) (fun p3 f3 E3 B3 _ => ?_)
    have K3 : Ext (fun q => q = a ∨ q = v) p p3 := K2.tr E3
    have hi3 : Hi p p3 := (K3.fresh fr).hi
    have go : ∀ c : Int32, Sg c → w_L_law_214 G Q X (fun x0 x1 x2 x3 x4 x5 x7 x8 x9 x10 x11 ph => w_L_law_122 G Q X K fu x0 x1 x2 x3 x4 x5 x7 x8 x9 x10 x11 ph) x0 (some b) x2 x3 x4 x5 x7 x8 x9 (Int32.ofNat (m - i)) c (some a) p3 := by
      intro c hc
      unfold w_L_law_214
      rw [ex_isO B3.2.2.1]
      refine g_sbChar hc (by omega) B3 (fun p4 E4 B4 => ?_)
      rw [ex_isO B4.2.2.1]
      refine g_sbText (by omega) B4 (fun p5 s5 f5 E5 S5 _ => ?_)
      have K5 : Ext (fun _ => False) p p5 := ((K3.tr E4).fresh fr).tr E5
      have h7 := ih (by omega) p5 s5 f5 (hp.ext K5) S5
      by_cases h6 : i + 1 ≤ m
      · rw [if_pos h6] at h7
        rw [show m - i = (m - (i + 1)) + 1 by omega, dec_s]
        exact h7
      · rw [if_neg h6] at h7
        rw [show m - i = 0 by omega, dec_0]
        exact h7
    refine ⟨fun _ => ⟨fun _ => ?_, fun _ => ?_⟩, fun _ => ?_⟩
    · refine g_low (n := 3) (by omega) (by omega) (fun hr => ?_)
      have S := (s37.hi hp.hi).hi hi3
      obtain ⟨-, hs, g, g', V, fs, e1, -⟩ := id S
      rw [ex_isO e1]
      exact g_charAt hr S (go _ (hs _ hr))
    · refine g_low (n := 2) (by omega) (by omega) (fun hr => ?_)
      have S := (s36.hi hp.hi).hi hi3
      obtain ⟨-, hs, g, g', V, fs, e1, -⟩ := id S
      rw [ex_isO e1]
      exact g_charAt hr S (go _ (hs _ hr))
    · refine g_low (n := 9) (by omega) (by omega) (fun hr => ?_)
      have S := (s35.hi hp.hi).hi hi3
      obtain ⟨-, hs, g, g', V, fs, e1, -⟩ := id S
      rw [ex_isO e1]
      exact g_charAt hr S (go _ (hs _ hr))
  · rw [if_neg him]
    refine ⟨fun _ => ?_, fun h9 => absurd (by decide) h9⟩
    exact l_types (by omega) hS hp (fun tf' p2 hp2 => ⟨fun _ => h _ tf' p2 hp2, fun h9 => absurd h9 (by decide)⟩)
theorem s87 {bs L : Nat} {zs : Nat → Int32} {KR : Option Nat → Option Nat → Int32 → Int32 → Int32 → Int32 → PH → Prop} (hL : Look pz bs L zs G.2) (hcc : cc < 1000) (hK : HK pz b cc x0 x5 KR) (hW : Wd pz b sn sD mn mD tn tf ln ls ph) : w_L_law_87 G Q X KR x0 (some b) (Int32.ofNat sn) (Int32.ofNat cc) (Int32.ofNat mn) x5 x7 x8 x9 ph := by
  have a := s110 (G := G) (Q := Q) (X := X) (x0 := x0) (x2 := Int32.ofNat sn) (x3 := Int32.ofNat cc) (x4 := Int32.ofNat mn) (x5 := x5) (x7 := x7) (x8 := x8) (x9 := x9) (K := fun x0 x1 x2 x3 x4 x5 x7 x8 x9 ph => w_L_law_239 G Q X KR x0 x1 x2 x3 x4 x5 x7 x8 x9 ph) hL hW (fun tn' tf' p hp => s239 hcc hK hp)
  unfold w_L_law_87
  exact ⟨fun _ => a, fun _ => ⟨fun _ => a, fun _ => ⟨fun _ => s239 hcc hK hW, fun _ => a⟩⟩⟩
theorem s_cell {bs L i : Nat} {zs : Nat → Int32} {g : Nat} {Q : Int32 → PH → Prop} (hL : L ≤ 260) (hi : i < 1000) (e : ph bs = some (g, .inr (.int, L, .inl zs))) (h : ∀ v : Int32, Q v ph) : w_L_cell (some bs) (Int32.ofNat i) ph Q X := by
  unfold w_L_cell
  rw [ex_aL e, on_le (by omega) (by omega)]
  refine ⟨fun _ => h _, fun h9 => ?_⟩
  rw [ex_aI e (on_in (by omega) (by omega))]
  exact h _
theorem s18 {bs L : Nat} {zs : Nat → Int32} (hL : L ≤ 260) (hLk : Look pz bs L zs G.2) (hW : Wd pz b 0 sD 0 mD tn tf ln ls ph) (h : ∀ p : PH, Q 1 p) : ∃ fu : Nat, fu ≤ 32 ∧ w_L_law_18 G Q X fu (some bs) (some b) (0 : Int32) (0 : Int32) (0 : Int32) (0 : Int32) ph := by
  refine ⟨31, by decide, (upto0 (n := 30) (P := fun fu e => ∀ (sn : Nat) (sD : Nat → Nat × Nat × (Nat → Int32)) (mn : Nat) (mD : Nat → Nat × Nat × (Nat → Int64)) (tn : Nat) (tf : Nat → Int32) (ln ls : Nat → Nat) (cc : Nat) (p : PH), cc ≤ e → Wd pz b sn sD mn mD tn tf ln ls p → w_L_law_18 G Q X fu (some bs) (some b) (Int32.ofNat sn) (Int32.ofNat cc) (Int32.ofNat mn) (Int32.ofNat e) p) fun fu e he ih => ?_) 0 sD 0 mD tn tf ln ls 0 ph (Nat.le_refl 0) hW⟩
  intro sn sD mn mD tn tf ln ls cc p hcc hp
  have h8 := hp.sn8
  have m8 := hp.mn8
  unfold w_L_law_18
  rw [show (30 : Int32) = Int32.ofNat 30 from rfl, on_le (by omega) (by omega)]
  refine ⟨fun _ => ?_, fun h9 => ?_⟩
  · refine c_states hp (fun j hj ej => ?_) (fun _ => ⟨fun h7 => absurd (lgc_eq.mpr rfl) h7, fun _ => ?_⟩)
    · rw [on_inj (by omega) (by omega)] at ej
      omega
    · refine c_get hp (fun j hj ej => ?_) (fun _ => ⟨fun h7 => absurd (lgc_eq.mpr rfl) h7, fun _ => ⟨rfl, h p⟩⟩)
      rw [on_inj (by omega) (by omega)] at ej
      omega
  have hK : HK pz b cc (some bs) (Int32.ofNat e) (fun x0 x1 x2 x3 x4 x5 ph => w_L_law_18 G Q X fu x0 x1 x2 x3 x4 x5 ph) := by
    intro sn' sD' mn' mD' tn' tf' ln' ls' cc' p' hc' hp'
    rw [on_succ]
    exact ih (by omega) sn' sD' mn' mD' tn' tf' ln' ls' cc' p' (by omega) hp'
  have es := hp.hi _ _ hLk.1 rfl
  have e2 : (2 : Int32) * Int32.ofNat e = Int32.ofNat (2 * e) := (Int32.ofNat_mul 2 e).symm
  rw [e2, on_succ, on_succ]
  refine s_cell hL (by omega) es (fun v30 => s_cell hL (by omega) es (fun v42 => g_low (by omega) (by omega) (fun _ => ?_)))
  refine ⟨fun _ => ⟨fun _ => g_low (n := 20) (by omega) (by omega) (fun _ => ?_), fun _ => ?_⟩, fun _ => ?_⟩
  · exact s87 hLk (by omega) hK hp
  · exact s87 hLk (by omega) hK hp
  · exact s87 hLk (by omega) hK hp
end LAW
theorem law_true : LawTrue := by
  intro G b L zs ph hL hLk
  unfold w_L_law
  intro a p0 ha hp0
  subst hp0
  refine ⟨a, rfl, ?_⟩
  refine i_all (pz := ph) (sD := fun _ => (0, 0, fun _ => 0)) (mD := fun _ => (0, 0, fun _ => 0)) hset_same (Ext.new (P := fun _ => False) ha).hi (fun p tf hp => ?_)
  exact s18 hL hLk hp (fun _ => rfl)
