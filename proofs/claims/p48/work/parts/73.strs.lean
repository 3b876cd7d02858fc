/-! the law's texts -/
/-- a text of n signs -/
def Str (ph : PH) (s n : Nat) (f : Nat → Int32) : Prop := n ≤ 9 ∧ (∀ i : Nat, i < n → Sg (f i)) ∧ ∃ (g g' V : Nat) (fs : List Value), ph s = some (g, .inl (0, fs)) ∧ fs[0]? = some (va_rf (some V)) ∧ fs[1]? = some (.int 0) ∧ ph V = some (g', .inr (.byte, n, .inl f)) ∧ hiT g = true ∧ hiT g' = true
def Bd (ph : PH) (a v n : Nat) (f : Nat → Int32) : Prop := n ≤ 16 ∧ (∀ i : Nat, i < n → Sg (f i)) ∧ ph a = some (101, .inl (1, [.ref v, .int 0, .int 0, .int (Int32.ofNat n)])) ∧ ph v = some (200, .inr (.byte, 16, .inl f))
theorem Sg.byte {x : Int32} (h : Sg x) : nB x ∧ fits .byte (.int x) = true ∧ x.toInt8.toInt32 = x ∧ ((x &&& (255 : Int32)).toUInt32 % 65536).toInt32 = x ∧ x ≤ 255 := by
  rcases h with rfl | rfl | rfl | rfl
  · exact ⟨rfl, rfl, by decide, by decide, by decide⟩
  · exact ⟨rfl, rfl, by decide, by decide, by decide⟩
  · exact ⟨rfl, rfl, by decide, by decide, by decide⟩
  · exact ⟨rfl, rfl, by decide, by decide, by decide⟩
theorem shr_0 {x : Int32} : x >>> ((0 : Int32) &&& 31) = x := by
  apply Int32.toBitVec_inj.mp
  have h := shr_bv (S := x) (j := 0) (by decide)
  exact h.trans (by rw [BitVec.sshiftRight_zero])
theorem shl_0 {x : Int32} : x <<< ((0 : Int32) &&& 31) = x := by
  rw [show ((0 : Int32) &&& 31) = 0 by decide]
  exact Int32.shiftLeft_zero
section STRS
variable {ph : PH} {X : String → PH → Prop}
theorem Str.ext {P : Nat → Prop} {p q : PH} {s n : Nat} {f : Nat → Int32} (h : Ext P p q) (hP : ∀ a : Nat, P a → p a = none) (hS : Str p s n f) : Str q s n f := by
  obtain ⟨hn, hs, g, g', V, fs, e1, e2, e3, e4, hg, hg'⟩ := hS
  exact ⟨hn, hs, g, g', V, fs, h s _ (none_not hP e1) e1, e2, e3, h V _ (none_not hP e4) e4, hg, hg'⟩
theorem Str.hi {p q : PH} {s n : Nat} {f : Nat → Int32} (h : Hi p q) (hS : Str p s n f) : Str q s n f := by
  obtain ⟨hn, hs, g, g', V, fs, e1, e2, e3, e4, hg, hg'⟩ := hS
  exact ⟨hn, hs, g, g', V, fs, h s _ e1 hg, e2, e3, h V _ e4 hg', hg, hg'⟩
theorem Hi.rf (p : PH) : Hi p p := fun _ _ h _ => h
theorem Hi.tr {p q r : PH} (h1 : Hi p q) (h2 : Hi q r) : Hi p r := fun a e h h9 => h2 a e (h1 a e h h9) h9
theorem Ext.hi {p q : PH} (h : Ext (fun _ => False) p q) : Hi p q := fun a e h1 _ => h a e id h1
theorem g_coder {s n : Nat} {f : Nat → Int32} {Q : Int32 → PH → Prop} (hS : Str ph s n f) (h : Q 0 ph) : w_J0_coder_7d493 s ph Q X := by
  obtain ⟨hn, hs, g, g', V, fs, e1, e2, e3, e4, hg, hg'⟩ := hS
  unfold w_J0_coder_7d493
  refine ⟨fun h9 => absurd h9 (by decide), fun _ => ?_⟩
  rw [ex_gI e1 e3]
  exact ⟨rfl, h⟩
theorem g_strlen {s n : Nat} {f : Nat → Int32} {Q : Int32 → PH → Prop} (hS : Str ph s n f) (h : Q (Int32.ofNat n) ph) : w_J0_length_8abf5 s ph Q X := by
  obtain ⟨hn, hs, g, g', V, fs, e1, e2, e3, e4, hg, hg'⟩ := id hS
  unfold w_J0_length_8abf5
  rw [ex_gR e1 (v0 := some V) e2, ex_aL e4, ex_isO e1]
  refine g_coder hS ?_
  rw [shr_0]
  exact h
theorem g_charAt {s n i : Nat} {f : Nat → Int32} {Q : Int32 → PH → Prop} (hi : i < n) (hS : Str ph s n f) (h : Q (f i) ph) : w_J0_charAt_5068e s (Int32.ofNat i) ph Q X := by
  obtain ⟨hn, hs, g, g', V, fs, e1, e2, e3, e4, hg, hg'⟩ := id hS
  obtain ⟨b1, b2, b3, b4, b5⟩ := (hs i hi).byte
  have last : w_J1_charAt_3b067 (some V) (Int32.ofNat i) ph (fun v12 ph12 => nC v12 ∧ Q v12 ph12) X := by
    unfold w_J1_charAt_3b067
    rw [ex_aL e4]
    unfold w_J0_checkIndex_df160
    intro v2
    unfold w_J3_checkIndex_8e157
    rw [on_lt (by omega) (by omega)]
    refine ⟨fun h9 => absurd h9 (on_neg (by omega)), fun _ => ⟨fun _ => ?_, fun h9 => absurd hi h9⟩⟩
    dsimp only
    rw [ex_aI e4 (on_in hi (by omega)), on_nat (by omega), b4]
    exact ⟨(hs i hi).nc, (hs i hi).nc, h⟩
  unfold w_J0_charAt_5068e
  rw [ex_isO e1]
  unfold w_J0_isLatin1_aae02
  refine ⟨fun h9 => absurd h9 (by decide), fun _ => ?_⟩
  rw [ex_gI e1 e3]
  refine ⟨fun h9 => absurd rfl h9, fun _ => ⟨rfl, fun h9 => absurd h9 (by decide), fun _ => ?_⟩⟩
  rw [ex_gR e1 (v0 := some V) e2]
  exact last
/-- a new builder -/
theorem g_sbInit {a : Nat} {Q : PH → Prop} (e : ph a = some (101, .inl (1, [.null, .int 0, .int 0, .int 0]))) (h : ∀ (ph' : PH) (v : Nat) (f : Nat → Int32), ph v = none → Ext (fun q => q = a) ph ph' → Bd ph' a v 0 f → Q ph') : w_J4_init_da8c8 a ph Q X := by
  unfold w_J4_init_da8c8 w_J5_init_d00df
  refine ⟨a, rfl, a, rfl, fun h9 => absurd h9 (by decide), fun _ => ⟨by decide, by decide, ?_⟩⟩
  intro v p hv hp
  subst hp
  have hva : v ≠ a := fun h9 => by
    rw [h9, e] at hv
    cases hv
  rw [ex_pW (fs' := [va_rf (some v), .int 0, .int 0, .int 0]) (hset_at hva.symm e) (by decide) (show 0 < 4 by decide) rfl]
  refine ⟨⟨rfl, rfl⟩, ?_⟩
  rw [ex_pW (fs' := [va_rf (some v), .int 0, .int 0, .int 0]) hset_same (by decide) (show 1 < 4 by decide) rfl, hset_hset]
  exact h _ v (fun _ => 0) hv ((Ext.new hv).tr (Ext.set rfl)) ⟨by omega, fun i hi => absurd hi (Nat.not_lt_zero i), hset_same, hset_at hva hset_same⟩
theorem sub16 {m : Nat} (h : m ≤ 16) : Int32.ofNat m - Int32.ofNat 16 ≤ 0 := by
  have key : ∀ m : Fin 17, Int32.ofNat m.val - Int32.ofNat 16 ≤ 0 := by decide
  exact key ⟨m, by omega⟩
theorem g_ensure {a v n m : Nat} {f : Nat → Int32} {Q : PH → Prop} (hm : m ≤ 16) (hB : Bd ph a v n f) (h : Q ph) : w_J5_ensureCapacityInternal_d00df a (Int32.ofNat m) ph Q X := by
  unfold w_J5_ensureCapacityInternal_d00df
  rw [ex_gR hB.2.2.1 (v0 := some v) rfl, ex_aL hB.2.2.2, ex_gI hB.2.2.1 rfl, shr_0]
  intro v10 h10
  subst h10
  exact ⟨fun _ => h, fun h9 => absurd (sub16 hm) h9⟩
/-- a text goes into a builder that is empty -/
theorem g_sbStr {a v s n : Nat} {f fs : Nat → Int32} {Q : Option Nat → PH → Prop} (hB : Bd ph a v 0 f) (hS : Str ph s n fs) (h : ∀ (ph' : PH) (f' : Nat → Int32), Ext (fun q => q = a ∨ q = v) ph ph' → Bd ph' a v n f' → (∀ i : Nat, i < n → f' i = fs i) → Q (some a) ph') : w_J4_append_15ec4 a (some s) ph Q X := by
  obtain ⟨hn, hs, g, g', V, ws, e1, e2, e3, e4, hg, hg'⟩ := id hS
  obtain ⟨-, -, b1, b2⟩ := id hB
  have hav : a ≠ v := tag_ne b1 b2 (by decide)
  unfold w_J4_append_15ec4
  rw [ex_isO b1]
  unfold w_J5_append_cf1ce
  refine ⟨fun _ => ?_, fun h9 => absurd h9 (by simp)⟩
  rw [ex_isO e1]
  refine g_strlen hS ?_
  rw [ex_gI b1 rfl, ex_isO b1, on_add]
  refine g_ensure (by omega) hB ?_
  rw [ex_gI b1 rfl, ex_isO b1]
  unfold w_J5_putStringAt_47b60
  rw [ex_isO b1]
  unfold w_J5_inflateIfNeededFor_a7421
  refine ⟨fun h9 => absurd h9 (by decide), fun _ => ?_⟩
  rw [ex_gI b1 rfl, ex_isO e1]
  refine g_coder hS ⟨fun _ => ?_, fun h9 => absurd rfl h9⟩
  dsimp only
  rw [ex_gR b1 (v0 := some v) rfl, ex_gI b1 rfl, ex_isO e1]
  unfold w_J0_getBytes_840e7
  rw [ex_isO e1]
  refine g_coder hS ⟨fun h9 => absurd rfl h9, fun _ => ?_⟩
  rw [ex_gR e1 (v0 := some V) e2, ex_gR e1 (v0 := some V) e2, ex_aL e4, shl_0]
  have z0 : (0 : Int32).toNatClampNeg = 0 := by decide
  have zn : (Int32.ofNat 0).toNatClampNeg = 0 := by decide
  have nn : (Int32.ofNat n).toNatClampNeg = n := on_nat (by omega)
  refine ⟨_, ⟨V, g', n, fs, v, 200, 16, f, rfl, rfl, e4, b2, by decide, by decide, by decide, on_neg (by omega), ?_, ?_, by omega, fun i hi => ?_, rfl⟩, ?_⟩
  · rw [z0, nn]
    omega
  · rw [zn, nn]
    omega
  · rw [z0, Nat.zero_add]
    rw [nn] at hi
    exact (hs i hi).byte.2.1
  · dsimp only
    rw [ex_gI (hset_at hav b1) rfl, ex_pW (fs' := [.ref v, .int 0, .int 0, .int (Int32.ofNat 0 + Int32.ofNat n)]) (hset_at hav b1) (by decide) (show 3 < 4 by decide) rfl, on_add, z0, zn, nn]
    refine h _ _ ((Ext.set (P := fun q => q = a ∨ q = v) (Or.inr rfl)).tr (Ext.set (Or.inl rfl))) ⟨by omega, fun i hi => ?_, ?_, hset_at hav.symm hset_same⟩ (fun i hi => ?_)
    · show Sg (if 0 ≤ i ∧ i < 0 + n then fs (0 + (i - 0)) else f i)
      rw [if_pos ⟨Nat.zero_le _, by omega⟩, Nat.zero_add, Nat.sub_zero]
      exact hs i (by omega)
    · rw [hset_same, Nat.zero_add]
    · show (if 0 ≤ i ∧ i < 0 + n then fs (0 + (i - 0)) else f i) = fs i
      rw [if_pos ⟨Nat.zero_le _, by omega⟩, Nat.zero_add, Nat.sub_zero]
/-- a sign goes behind -/
theorem g_sbChar {a v n : Nat} {f : Nat → Int32} {x : Int32} {Q : Option Nat → PH → Prop} (hx : Sg x) (hn : n < 16) (hB : Bd ph a v n f) (h : ∀ ph' : PH, Ext (fun q => q = a ∨ q = v) ph ph' → Bd ph' a v (n + 1) (upd f n x) → Q (some a) ph') : w_J4_append_cf468 a x ph Q X := by
  obtain ⟨-, hs, b1, b2⟩ := id hB
  obtain ⟨x1, x2, x3, x4, x5⟩ := hx.byte
  have hav : a ≠ v := tag_ne b1 b2 (by decide)
  unfold w_J4_append_cf468
  rw [ex_isO b1]
  unfold w_J5_append_3fe6f
  rw [ex_gI b1 rfl, ex_isO b1, on_succ]
  refine g_ensure (by omega) hB ?_
  rw [ex_isO b1]
  unfold w_J5_isLatin1_aae02
  refine ⟨fun h9 => absurd h9 (by decide), fun _ => ?_⟩
  rw [ex_gI b1 rfl]
  refine ⟨fun h9 => absurd rfl h9, fun _ => ⟨rfl, fun h9 => absurd h9 (by decide), fun _ => ?_⟩⟩
  unfold w_J1_canEncode_fc78d
  refine ⟨fun h9 => ?_, fun _ => ⟨rfl, fun h9 => absurd h9 (by decide), fun _ => ?_⟩⟩
  · rw [Int32.lt_iff_toInt_lt] at h9
    have := Int32.le_iff_toInt_le.mp x5
    omega
  rw [ex_gR b1 (v0 := some v) rfl, ex_gI b1 rfl, on_succ, ex_pW (fs' := [.ref v, .int 0, .int 0, .int (Int32.ofNat (n + 1))]) b1 (by decide) (show 3 < 4 by decide) rfl, x3]
  refine ⟨x1, ?_⟩
  rw [ex_sI (hset_at hav.symm b2) (by decide) (on_in hn (by omega)), on_nat (by omega)]
  refine h _ ((Ext.set (P := fun q => q = a ∨ q = v) (Or.inl rfl)).tr (Ext.set (Or.inr rfl))) ⟨by omega, fun i hi => ?_, hset_at hav hset_same, hset_same⟩
  by_cases h9 : i = n
  · rw [h9, pk_us]
    exact hx
  · rw [pk_un h9]
    exact hs i (by omega)
/-- a builder becomes a text -/
theorem g_sbText {a v n : Nat} {f : Nat → Int32} {Q : Option Nat → PH → Prop} (hn : n ≤ 9) (hB : Bd ph a v n f) (h : ∀ (ph' : PH) (s : Nat) (f' : Nat → Int32), Ext (fun _ => False) ph ph' → Str ph' s n f' → (∀ i : Nat, i < n → f' i = f i) → Q (some s) ph') : w_J4_toString_0e30d a ph Q X := by
  obtain ⟨-, hs, b1, b2⟩ := id hB
  unfold w_J4_toString_0e30d
  intro s p0 hs0 hp0
  subst hp0
  have k0 : Ext (fun q => q = s) ph (hset ph s (100, .inl (0, [.null, .int 0, .int 0, .int 0]))) := Ext.new hs0
  have n1 : ¬ a = s := fun h9 => by rw [h9, hs0] at b1; cases b1
  have n2 : ¬ v = s := fun h9 => by rw [h9, hs0] at b2; cases b2
  have c1 := hset_at (e := (100, .inl (0, [.null, .int 0, .int 0, .int 0]))) n1 b1
  have c2 := hset_at (e := (100, .inl (0, [.null, .int 0, .int 0, .int 0]))) n2 b2
  refine ⟨s, rfl, ?_⟩
  unfold w_J0_init_81219 w_J0_init_db425
  refine ⟨s, rfl, s, rfl, ?_⟩
  rw [ex_isO c1]
  unfold w_J5_getValue_6d5f1
  rw [ex_gR c1 (v0 := some v) rfl]
  dsimp only
  rw [ex_isO c1]
  unfold w_J4_length_8abf5 w_J5_length_8abf5
  rw [ex_isO c1, ex_gI c1 rfl]
  dsimp only
  rw [ex_isO c1]
  unfold w_J5_isLatin1_aae02
  refine ⟨fun h9 => absurd h9 (by decide), fun _ => ?_⟩
  rw [ex_gI c1 rfl]
  refine ⟨fun h9 => absurd rfl h9, fun _ => ⟨rfl, fun h9 => absurd h9 (by decide), fun _ => ⟨⟨rfl, rfl⟩, ?_⟩⟩⟩
  rw [ex_pW (fs' := [.null, .int 0, .int 0, .int 0]) hset_same (by decide) (show 1 < 4 by decide) rfl, hset_hset]
  have ten : w_J7_copyOfRange_39247_10 (fun v32 ph32 => ∃ ph35 : PH, pV ph32 (some s) 0 0 (va_rf v32) ph35 ∧ (Q (some s) ph35)) X (some v) (0 : Int32) (Int32.ofNat n) (hset ph s (100, .inl (0, [.null, .int 0, .int 0, .int 0]))) := by
    unfold w_J7_copyOfRange_39247_10 w_J7_copyOfRangeByte_39247 w_J7_checkLength_df160
    refine ⟨fun _ => ?_, fun h9 => absurd ((on_le (i := 0) (by omega) (by omega)).mpr (Nat.zero_le n)) h9⟩
    intro v8 h8
    have h8' : v8 = Int32.ofNat n := h8.trans (Int32.sub_zero _)
    subst h8'
    have nn : (Int32.ofNat n).toNatClampNeg = n := on_nat (by omega)
    refine ⟨on_neg (by omega), by rw [nn]; omega, ?_⟩
    intro w p1 hw hp1
    rw [nn] at hp1
    subst hp1
    have n3 : ¬ v = w := fun h9 => by rw [h9, hw] at c2; cases c2
    have n4 : ¬ s = w := fun h9 => by
      rw [← h9, hset_same] at hw
      cases hw
    have hw0 : ph w = none := (hset_ne (fun h9 => n4 h9.symm)).symm.trans hw
    have c3 := hset_at (e := (201, .inr (.byte, n, .inl (fun _ => 0)))) n3 c2
    rw [ex_aL c3]
    have hif : (if Int32.ofNat n < (Int32.ofNat 16 - (0 : Int32)) then Int32.ofNat n else (Int32.ofNat 16 - (0 : Int32))) = Int32.ofNat n := by
      rw [Int32.sub_zero, if_pos ((on_lt (by omega) (by omega)).mpr (by omega))]
    rw [hif]
    have z0 : (0 : Int32).toNatClampNeg = 0 := by decide
    refine ⟨_, ⟨v, 200, 16, f, w, 201, n, fun _ => 0, rfl, rfl, c3, hset_same, by decide, by decide, by decide, on_neg (by omega), ?_, ?_, by omega, fun i hi => ?_, rfl⟩, ?_⟩
    · rw [z0, nn]
      omega
    · rw [z0, nn]
      omega
    · rw [z0, Nat.zero_add]
      rw [nn] at hi
      exact (hs i hi).byte.2.1
    rw [hset_hset, z0, nn]
    dsimp only
    rw [ex_pW (fs' := [va_rf (some w), .int 0, .int 0, .int 0]) (hset_at n4 hset_same) (by decide) (show 0 < 4 by decide) rfl]
    refine h _ s _ (((k0.mono (fun q h9 => Or.inl h9)).tr ((Ext.new (P := fun q => q = s ∨ q = w) hw).tr (Ext.set (Or.inl rfl)))).fresh (fun q h9 => h9.elim (fun h8 => by rw [h8]; exact hs0) (fun h8 => by rw [h8]; exact hw0))) ⟨hn, fun i hi => ?_, 100, 201, w, _, hset_same, rfl, rfl, hset_at (fun h9 => n4 h9.symm) hset_same, rfl, rfl⟩ (fun i hi => ?_)
    · show Sg (if 0 ≤ i ∧ i < 0 + n then f (0 + (i - 0)) else 0)
      rw [if_pos ⟨Nat.zero_le _, by omega⟩, Nat.zero_add, Nat.sub_zero]
      exact hs i hi
    · show (if 0 ≤ i ∧ i < 0 + n then f (0 + (i - 0)) else 0) = f i
      rw [if_pos ⟨Nat.zero_le _, by omega⟩, Nat.zero_add, Nat.sub_zero]
  unfold w_J7_copyOfRange_39247
  refine ⟨fun h9 => absurd rfl h9, fun _ => ?_⟩
  rw [ex_aL (hset_at n2 b2)]
  refine ⟨fun h9 => ?_, fun _ => ten⟩
  rw [on_inj (by omega) (by omega)] at h9
  omega
end STRS
