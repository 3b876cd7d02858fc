/-! the edges of the image -/
def DrP (st lt : Nat) (E : Nat → Int32) (T : Int32) (b t j : Nat) : Prop := bt T t ∧ va st lt E (3 * t + b) = 1 ∧ j = rk st lt E (3 * t + b)
def EdP (st lt : Nat) (E : Nat → Int32) (gv : Nat → Nat → Nat) (s a x j : Nat) : Prop := va st lt E (3 * s + a) = 1 ∧ ∃ b : Nat, b < lt ∧ x = 24 * gv a b + rk st lt E (3 * s + a) ∧ ∃ t : Nat, t < 24 ∧ DrP st lt E (E (24 * b + s)) b t j
theorem bt_upd {E : Nat → Int32} {k i x j : Nat} (hi : i < 32) : bt (upd E k (E k ||| ((1 : Int32) <<< (Int32.ofNat i &&& 31))) x) j ↔ bt (E x) j ∨ (x = k ∧ j = i) := by
  by_cases h : x = k
  · subst h
    rw [pk_us, bt_or, bt_one hi]
    exact ⟨fun h9 => h9.elim Or.inl (fun h8 => Or.inr ⟨rfl, h8⟩), fun h9 => h9.elim Or.inl (fun h8 => Or.inr h8.2)⟩
  · rw [pk_un h]
    exact ⟨Or.inl, fun h9 => h9.elim id (fun h8 => absurd h8.1 h)⟩
section DRAW
variable {ph : PH} {b bg g h he m st lt n : Nat} {f E EH : Nat → Int32} {gv : Nat → Nat → Nat} {X : String → PH → Prop}
theorem Nm.fr {P : Nat → Prop} {p q : PH} (hF : Fr P p q) (hN : Nm p m st lt E) (h1 : ¬ P m) : Nm q m st lt E := by
  obtain ⟨f, ef, hf⟩ := hN
  exact ⟨f, (hF m h1).trans ef, hf⟩
theorem g_drawTo {fr c y : Nat} {T : Int32} {Q : PH → Prop} (hfr : fr < n) (hc : c < lt) (hy : y < lt) (hn : rk st lt E 72 ≤ n) (hH : GrA ph h he n lt EH) (hN : Nm ph m st lt E) (k : ∀ (ph' : PH) (EH' : Nat → Int32), Fr (fun q => q = he) ph ph' → GrA ph' h he n lt EH' → (∀ x j : Nat, bt (EH' x) j ↔ bt (EH x) j ∨ (x = 24 * c + fr ∧ ∃ t : Nat, t < 24 ∧ DrP st lt E T y t j)) → Q ph') : w_X5_drawTo (some h) (some m) (Int32.ofNat fr) (Int32.ofNat c) (Int32.ofNat y) T ph Q X := by
  have hb := hH.1
  have hm : ¬ m = he := by
    obtain ⟨f, ef, -⟩ := hN
    exact tag_ne ef hH.2.2 (by decide)
  unfold w_X5_drawTo
  refine ⟨25, (upto0 (n := 24) (P := fun fu t => ∀ (p : PH) (EH' : Nat → Int32), Fr (fun q => q = he) ph p → GrA p h he n lt EH' → (∀ x j : Nat, bt (EH' x) j ↔ bt (EH x) j ∨ (x = 24 * c + fr ∧ ∃ u : Nat, u < t ∧ DrP st lt E T y u j)) → w_X5_drawTo_3 Q X fu (some h) (some m) (Int32.ofNat fr) (Int32.ofNat c) (Int32.ofNat y) T (Int32.ofNat t) p) fun fu t ht ih => ?_) ph EH (Fr.rf ph) hH (fun x j => ⟨Or.inl, fun h9 => h9.elim id (fun ⟨_, u, hu, _⟩ => by omega)⟩)⟩
  intro p EH' hK G hiff
  have N1 := hN.fr hK hm
  unfold w_X5_drawTo_3
  rw [show (24 : Int32) = Int32.ofNat 24 from rfl, on_le (by omega) (by omega)]
  refine ⟨fun h9 => k p EH' hK G (fun x j => ?_), fun h9 => ?_⟩
  · rw [hiff x j, show t = 24 by omega]
  refine g_numberOf (by omega) (by omega) N1 ?_
  rw [on_succ]
  have skip : (∀ j : Nat, ¬ DrP st lt E T y t j) → w_X5_drawTo_3 Q X fu (some h) (some m) (Int32.ofNat fr) (Int32.ofNat c) (Int32.ofNat y) T (Int32.ofNat (t + 1)) p := by
    intro hno
    refine ih (by omega) p EH' hK G (fun x j => ?_)
    rw [hiff x j]
    refine ⟨fun h8 => h8.elim Or.inl (fun ⟨e1, u, hu, hd⟩ => Or.inr ⟨e1, u, by omega, hd⟩), fun h8 => h8.elim Or.inl (fun ⟨e1, u, hu, hd⟩ => Or.inr ⟨e1, u, ?_, hd⟩)⟩
    by_cases hut : u = t
    · rw [hut] at hd
      exact absurd hd (hno j)
    · omega
  refine w_hasBit (fun h7 => ⟨fun h6 => absurd h6 (by decide), fun _ => ?_⟩) (fun h7 => ⟨fun _ => skip (fun j hd => h7 ((hb_bt (by omega)).mpr hd.1)), fun h6 => absurd rfl h6⟩)
  have hbt := (hb_bt (by omega)).mp h7
  by_cases hv : va st lt E (3 * t + y) = 1
  · rw [if_pos hv]
    have hr : rk st lt E (3 * t + y) < n := Nat.lt_of_lt_of_le (rk_lt hv (show 3 * t + y < 72 by omega)) hn
    refine ⟨fun h6 => absurd h6 (on_neg (by omega)), fun _ => ?_⟩
    rw [ex_isO G.2.1]
    refine g_tell G (fun p2 E2 k2 G2 hE => ?_)
    have e2 := hE fr c (rk st lt E (3 * t + y)) hfr hc hr rfl rfl rfl (by decide)
    refine ih (by omega) p2 E2 (hK.tr k2) G2 (fun x j => ?_)
    rw [e2, bt_upd (by omega), hiff x j]
    constructor
    · rintro ((h8 | ⟨e1, u, hu, hd⟩) | ⟨e1, e3⟩)
      · exact Or.inl h8
      · exact Or.inr ⟨e1, u, by omega, hd⟩
      · exact Or.inr ⟨e1, t, by omega, hbt, hv, e3⟩
    · rintro (h8 | ⟨e1, u, hu, hd⟩)
      · exact Or.inl (Or.inl h8)
      · by_cases hut : u = t
        · rw [hut] at hd
          exact Or.inr ⟨e1, hd.2.2⟩
        · exact Or.inl (Or.inr ⟨e1, u, by omega, hd⟩)
  · rw [if_neg hv]
    exact ⟨fun _ => skip (fun j hd => hv hd.2.1), fun h6 => absurd (by decide) h6⟩
theorem g_byImage {Q : Option Nat → PH → Prop} (hB : Bl ph b bg lt f) (hgv : ∀ a c : Nat, a < lt → c < lt → gv a c < lt ∧ f (3 * a + c) = Int32.ofNat (gv a c)) (hG : Gr ph g st lt E) (hn : cpN st lt E = n) (hn1 : 1 ≤ n) (hn2 : n ≤ 24) (k : ∀ (ph' : PH) (h he : Nat) (EH : Nat → Int32), ph h = none → ph he = none → Ext (fun _ => False) ph ph' → GrA ph' h he n lt EH → (∀ x j : Nat, bt (EH x) j ↔ ∃ s : Nat, s < st ∧ ∃ a : Nat, a < lt ∧ EdP st lt E gv s a x j) → Q (some h) ph') : w_X5_byImage (some b) (some g) ph Q X := by
  obtain ⟨⟨hst1, hst, h2, h3⟩, ge, e1, e2⟩ := id hG
  have hrk : rk st lt E 72 = n := by rw [← hn, cp_rk hst (by omega)]
  unfold w_X5_byImage
  rw [ex_isO e1]
  refine g_liveSet hG ?_
  intro h p0 hh hp0
  subst hp0
  have gne : ∀ q : Nat, q = h → ph q = none := fun q h9 => by rw [h9]; exact hh
  have k0 : Ext (fun q => q = h) ph (hset ph h (106, .inl (6, [.int 0, .int 0, .null]))) := Ext.new hh
  have G0 : Gr (hset ph h (106, .inl (6, [.int 0, .int 0, .null]))) g st lt E := ⟨hG.1, ge, k0 g _ (none_not (P := fun q => q = h) gne e1) e1, k0 ge _ (none_not (P := fun q => q = h) gne e2) e2⟩
  obtain ⟨-, ge0, e01, e02⟩ := id G0
  refine g_countPairs G0 ?_
  rw [ex_gI e01 rfl, hn]
  refine ⟨h, rfl, ?_⟩
  refine g_X3_init rfl ⟨hn1, hn2, h2, h3⟩ hset_same (fun p1 he hhe k1 G1 => ?_)
  have hhh : he ≠ h := fun h9 => by
    rw [h9, hset_same] at hhe
    cases hhe
  have hhe2 : ph he = none := (hset_ne hhh).symm.trans hhe
  have K1 : Ext (fun q => q = h ∨ q = he) ph p1 := (Ext.new hh).tr (k1.mono (fun q h9 => Or.inl h9))
  have P1 : ∀ q : Nat, q = h ∨ q = he → ph q = none := fun q h9 => h9.elim (fun h8 => by rw [h8]; exact hh) (fun h8 => by rw [h8]; exact hhe2)
  have Gr1 : Gr p1 g st lt E := ⟨hG.1, ge, K1 g _ (none_not P1 e1) e1, K1 ge _ (none_not P1 e2) e2⟩
  refine g_numberPairs Gr1 (fun p2 m hm k2 N2 => ?_)
  have hm0 : ph m = none := by
    cases hpm : ph m with
    | none => rfl
    | some e =>
      have h9 : ¬ (m = h ∨ m = he) := none_not P1 hpm
      rw [K1 m e h9 hpm] at hm
      cases hm
  have P2 : ∀ q : Nat, q = h ∨ q = he ∨ q = m → ph q = none := fun q h9 => by
    rcases h9 with h9 | h9 | h9
    · exact P1 q (Or.inl h9)
    · exact P1 q (Or.inr h9)
    · rw [h9]; exact hm0
  have K2 : Ext (fun q => q = h ∨ q = he ∨ q = m) ph p2 := (K1.mono (fun q h9 => h9.elim Or.inl (fun h8 => Or.inr (Or.inl h8)))).tr (k2.mono (fun q h9 => Or.inr (Or.inr h9)))
  have mh : ¬ m = h := fun h9 => by
    have h8 := G1.2.1
    rw [← h9, hm] at h8
    cases h8
  have mhe : ¬ m = he := fun h9 => by
    have h8 := G1.2.2
    rw [← h9, hm] at h8
    cases h8
  have G2 : GrA p2 h he n lt (fun _ => 0) := ⟨G1.1, k2 h _ (fun h9 => mh h9.symm) G1.2.1, k2 he _ (fun h9 => mhe h9.symm) G1.2.2⟩
  have sv : ∀ p : PH, Ext (fun q => q = h ∨ q = he ∨ q = m) ph p → Gr p g st lt E ∧ Bl p b bg lt f := fun p hK => ⟨⟨hG.1, ge, hK g _ (none_not P2 e1) e1, hK ge _ (none_not P2 e2) e2⟩, hB.ext hK (none_not P2 hB.2.1) (none_not P2 hB.2.2.1)⟩
  have hev : ∀ {p q : PH}, Fr (fun q => q = he) p q → Ext (fun q => q = h ∨ q = he ∨ q = m) p q := fun hF => hF.ext.mono (fun q h9 => Or.inr (Or.inl h9))
  refine ⟨st + 1, (upto0 (P := fun fu s => ∀ (p : PH) (EH : Nat → Int32), Ext (fun q => q = h ∨ q = he ∨ q = m) ph p → GrA p h he n lt EH → Nm p m st lt E → (∀ x j : Nat, bt (EH x) j ↔ ∃ s' : Nat, s' < s ∧ ∃ a : Nat, a < lt ∧ EdP st lt E gv s' a x j) → w_X5_byImage_32 Q X fu (some b) (some g) (some h) (some m) (Int32.ofNat s) p) fun fu s hs ih => ?_) p2 _ K2 G2 N2 (fun x j => ⟨fun h9 => absurd h9 bt_zero, fun ⟨s', hs', _⟩ => by omega⟩)⟩
  intro p EH hK G N hiff
  obtain ⟨g1, b1⟩ := sv p hK
  obtain ⟨-, ge1, e11, e12⟩ := id g1
  unfold w_X5_byImage_32
  rw [ex_gI e11 rfl, on_le (by omega) (by omega)]
  refine ⟨fun h9 => k p h he EH hh hhe2 (hK.fresh P2) G (fun x j => ?_), fun h9 => ?_⟩
  · rw [hiff x j, show s = st by omega]
  refine ⟨lt + 1, (upto0 (P := fun fu2 a => ∀ (p : PH) (EH : Nat → Int32), Ext (fun q => q = h ∨ q = he ∨ q = m) ph p → GrA p h he n lt EH → Nm p m st lt E → (∀ x j : Nat, bt (EH x) j ↔ (∃ s' : Nat, s' < s ∧ ∃ a : Nat, a < lt ∧ EdP st lt E gv s' a x j) ∨ ∃ a' : Nat, a' < a ∧ EdP st lt E gv s a' x j) → w_X5_byImage_44 Q X (fun x0 x1 x3 x4 x5 ph => w_X5_byImage_32 Q X fu x0 x1 x3 x4 x5 ph) fu2 (some b) (some g) (some h) (some m) (Int32.ofNat s) (Int32.ofNat a) p) fun fu2 a ha iha => ?_) p EH hK G N (fun x j => by
    rw [hiff x j]
    exact ⟨Or.inl, fun h8 => h8.elim id (fun ⟨a', ha', _⟩ => by omega)⟩)⟩
  intro p EH hK G N hiff
  obtain ⟨g1, b1⟩ := sv p hK
  obtain ⟨-, ge1, e11, e12⟩ := id g1
  unfold w_X5_byImage_44
  rw [ex_gI e11 rfl, on_le (by omega) (by omega)]
  refine ⟨fun h8 => ?_, fun h8 => ?_⟩
  · rw [on_succ]
    refine ih (by omega) p EH hK G N (fun x j => ?_)
    rw [hiff x j]
    constructor
    · rintro (⟨s', hs', h7⟩ | ⟨a', ha', h7⟩)
      · exact ⟨s', by omega, h7⟩
      · exact ⟨s, by omega, a', by omega, h7⟩
    · rintro ⟨s', hs', a', ha', h7⟩
      by_cases hss : s' = s
      · rw [hss] at h7
        exact Or.inr ⟨a', by omega, h7⟩
      · exact Or.inl ⟨s', by omega, a', ha', h7⟩
  refine g_numberOf (by omega) (by omega) N ?_
  have skip : ∀ (p : PH) (EH' : Nat → Int32), Ext (fun q => q = h ∨ q = he ∨ q = m) ph p → GrA p h he n lt EH' → Nm p m st lt E → (∀ x j : Nat, bt (EH' x) j ↔ bt (EH x) j ∨ EdP st lt E gv s a x j) → w_X5_byImage_44 Q X (fun x0 x1 x3 x4 x5 ph => w_X5_byImage_32 Q X fu x0 x1 x3 x4 x5 ph) fu2 (some b) (some g) (some h) (some m) (Int32.ofNat s) (Int32.ofNat a + 1) p := by
    intro p EH' hK G N hiff2
    rw [on_succ]
    refine iha (by omega) p EH' hK G N (fun x j => ?_)
    rw [hiff2 x j, hiff x j]
    constructor
    · rintro ((h7 | ⟨a', ha', h7⟩) | h7)
      · exact Or.inl h7
      · exact Or.inr ⟨a', by omega, h7⟩
      · exact Or.inr ⟨a, by omega, h7⟩
    · rintro (h7 | ⟨a', ha', h7⟩)
      · exact Or.inl (Or.inl h7)
      · by_cases haa : a' = a
        · rw [haa] at h7
          exact Or.inr h7
        · exact Or.inl (Or.inr ⟨a', by omega, h7⟩)
  by_cases hv : va st lt E (3 * s + a) = 1
  · rw [if_pos hv]
    have hr : rk st lt E (3 * s + a) < n := by
      rw [← hrk]
      exact rk_lt hv (by omega)
    refine ⟨lt + 1, (upto0 (P := fun fu3 y => ∀ (p : PH) (EH' : Nat → Int32), Ext (fun q => q = h ∨ q = he ∨ q = m) ph p → GrA p h he n lt EH' → Nm p m st lt E → (∀ x j : Nat, bt (EH' x) j ↔ bt (EH x) j ∨ ∃ b : Nat, b < y ∧ x = 24 * gv a b + rk st lt E (3 * s + a) ∧ ∃ t : Nat, t < 24 ∧ DrP st lt E (E (24 * b + s)) b t j) → w_X5_byImage_67 Q X (fun x0 x1 x3 x4 x5 x6 ph => w_X5_byImage_44 Q X (fun x0 x1 x3 x4 x5 ph => w_X5_byImage_32 Q X fu x0 x1 x3 x4 x5 ph) fu2 x0 x1 x3 x4 x5 x6 ph) fu3 (some b) (some g) (some h) (some m) (Int32.ofNat s) (Int32.ofNat a) (Int32.ofNat (rk st lt E (3 * s + a))) (Int32.ofNat y) p) fun fu3 y hy ihy => ?_) p EH hK G N (fun x j => ⟨Or.inl, fun h7 => h7.elim id (fun ⟨b', hb', _⟩ => by omega)⟩)⟩
    intro p EH' hK G N hiff2
    obtain ⟨g1, b1⟩ := sv p hK
    obtain ⟨-, ge1, e11, e12⟩ := id g1
    unfold w_X5_byImage_67
    refine ⟨fun h7 => absurd h7 (on_neg (by omega)), fun _ => ?_⟩
    rw [ex_gI e11 rfl, on_le (by omega) (by omega)]
    refine ⟨fun h7 => skip p EH' hK G N (fun x j => ?_), fun h7 => ?_⟩
    · rw [hiff2 x j, show y = lt by omega]
      exact ⟨fun h6 => h6.elim Or.inl (fun h5 => Or.inr ⟨hv, h5⟩), fun h6 => h6.elim Or.inl (fun h5 => Or.inr h5.2)⟩
    rw [ex_isO b1.2.1]
    refine g_given b1 (fun hno => absurd ⟨a, y, by omega, by omega, rfl, rfl⟩ hno) (fun i j hi hj ei ej => ?_)
    rw [on_inj (by omega) (by omega)] at ei ej
    subst ei
    subst ej
    obtain ⟨c1, c2⟩ := hgv a y hi hj
    rw [c2, ex_isO e11]
    refine g_targets (by omega) hj g1 ?_
    refine g_drawTo hr c1 hj (Nat.le_of_eq hrk) G N (fun p3 E3 k3 G3 hiff3 => ?_)
    have hmhe : ¬ m = he := mhe
    rw [on_succ]
    refine ihy (by omega) p3 E3 (hK.tr (hev k3)) G3 (N.fr k3 hmhe) (fun x j => ?_)
    rw [hiff3 x j, hiff2 x j]
    constructor
    · rintro ((h6 | ⟨b', hb', h6⟩) | ⟨h6, h5⟩)
      · exact Or.inl h6
      · exact Or.inr ⟨b', by omega, h6⟩
      · exact Or.inr ⟨y, by omega, h6, h5⟩
    · rintro (h6 | ⟨b', hb', h6, h5⟩)
      · exact Or.inl (Or.inl h6)
      · by_cases hby : b' = y
        · rw [hby] at h6 h5
          exact Or.inr ⟨h6, h5⟩
        · exact Or.inl (Or.inr ⟨b', by omega, h6, h5⟩)
  · rw [if_neg hv]
    refine ⟨1, ?_⟩
    unfold w_X5_byImage_67
    refine ⟨fun _ => skip p EH hK G N (fun x j => ⟨Or.inl, fun h7 => h7.elim id (fun h6 => absurd h6.1 hv)⟩), fun h7 => absurd (by decide) h7⟩
end DRAW
