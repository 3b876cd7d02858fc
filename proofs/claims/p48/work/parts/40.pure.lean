/-! THE LAW OVER THE MAP ALONE: how a weakest precondition is taken apart -/
section PURE
variable {ph : PH} {a g ci k n : Nat} {fs : List Value}
theorem ex_gI {P : Int32 → Prop} {v0 : Int32} (h : ph a = some (g, .inl (ci, fs))) (hk : fs[k]? = some (.int v0)) : (∃ v : Int32, gI ph (some a) ci k v ∧ P v) ↔ P v0 := by
  constructor
  · rintro ⟨v, ⟨b, g', fs', e1, e2, e3⟩, hp⟩
    cases e1
    cases e2.symm.trans h
    cases e3.symm.trans hk
    exact hp
  · intro hp
    exact ⟨v0, ⟨a, g, fs, rfl, h, hk⟩, hp⟩
theorem va_rf_inj {x y : Option Nat} (h : va_rf x = va_rf y) : x = y := by
  cases x <;> cases y <;> first | rfl | (cases h; rfl) | cases h
theorem ex_gR {P : Option Nat → Prop} {v0 : Option Nat} (h : ph a = some (g, .inl (ci, fs))) (hk : fs[k]? = some (va_rf v0)) : (∃ v : Option Nat, gR ph (some a) ci k v ∧ P v) ↔ P v0 := by
  constructor
  · rintro ⟨v, ⟨b, g', fs', e1, e2, e3⟩, hp⟩
    cases e1
    cases e2.symm.trans h
    have e4 := va_rf_inj (Option.some.inj (e3.symm.trans hk))
    rw [← e4]
    exact hp
  · intro hp
    exact ⟨v0, ⟨a, g, fs, rfl, h, hk⟩, hp⟩
theorem ex_isO {P : Nat → Prop} (h : ph a = some (g, .inl (ci, fs))) : (∃ b : Nat, isO ph (some a) ci b ∧ P b) ↔ P a := by
  constructor
  · rintro ⟨b, ⟨e1, -⟩, hp⟩
    cases e1
    exact hp
  · intro hp
    exact ⟨a, ⟨rfl, g, fs, h⟩, hp⟩
theorem ex_aL {P : Int32 → Prop} {ty : FieldType} {x} (h : ph a = some (g, .inr (ty, n, x))) : (∃ v : Int32, aL ph (some a) v ∧ P v) ↔ P (Int32.ofNat n) := by
  constructor
  · rintro ⟨v, ⟨b, g', n', ty', x', e1, e2, e3⟩, hp⟩
    cases e1
    cases e2.symm.trans h
    rw [← e3]
    exact hp
  · intro hp
    exact ⟨_, ⟨a, g, n, ty, x, rfl, h, rfl⟩, hp⟩
theorem ex_aI {P : Int32 → Prop} {ty : FieldType} {f : Nat → Int32} {i : Int32} (h : ph a = some (g, .inr (ty, n, .inl f))) (hi : vp_in i n) : (∃ v : Int32, aI ph ty (some a) i v ∧ P v) ↔ P (f i.toNatClampNeg) := by
  constructor
  · rintro ⟨v, ⟨b, g', n', f', e1, e2, e3, e4⟩, hp⟩
    cases e1
    cases e2.symm.trans h
    rw [← e4]
    exact hp
  · intro hp
    exact ⟨_, ⟨a, g, n, f, rfl, h, hi, rfl⟩, hp⟩
theorem ex_aJ {P : Int64 → Prop} {f : Nat → Int64} {i : Int32} (h : ph a = some (g, .inr (.long, n, .inr (.inl f)))) (hi : vp_in i n) : (∃ v : Int64, aJ ph (some a) i v ∧ P v) ↔ P (f i.toNatClampNeg) := by
  constructor
  · rintro ⟨v, ⟨b, g', n', f', e1, e2, e3, e4⟩, hp⟩
    cases e1
    cases e2.symm.trans h
    rw [← e4]
    exact hp
  · intro hp
    exact ⟨_, ⟨a, g, n, f, rfl, h, hi, rfl⟩, hp⟩
theorem ex_aQ {P : Option Nat → Prop} {c : String} {f : Nat → Option Nat} {i : Int32} (h : ph a = some (g, .inr (.object c, n, .inr (.inr (.inr (.inr f)))))) (hi : vp_in i n) : (∃ v : Option Nat, aQ ph (some a) i v ∧ P v) ↔ P (f i.toNatClampNeg) := by
  constructor
  · rintro ⟨v, ⟨b, g', n', c', f', e1, e2, e3, e4⟩, hp⟩
    cases e1
    cases e2.symm.trans h
    rw [← e4]
    exact hp
  · intro hp
    exact ⟨_, ⟨a, g, n, c, f, rfl, h, hi, rfl⟩, hp⟩
theorem ex_pV {P : PH → Prop} {v : Value} (h : ph a = some (g, .inl (ci, fs))) (hg : g < 1000) (hk : k < fs.length) : (∃ ph' : PH, pV ph (some a) ci k v ph' ∧ P ph') ↔ P (hset ph a (g, .inl (ci, fs.set k v))) := by
  constructor
  · rintro ⟨ph', ⟨b, g', fs', e1, e2, e3, e4, e5⟩, hp⟩
    cases e1
    cases e2.symm.trans h
    rw [← e5]
    exact hp
  · intro hp
    exact ⟨_, ⟨a, g, fs, rfl, h, hg, hk, rfl⟩, hp⟩
theorem ex_sI {P : PH → Prop} {ty : FieldType} {f : Nat → Int32} {i x : Int32} (h : ph a = some (g, .inr (ty, n, .inl f))) (hg : g < 1000) (hi : vp_in i n) : (∃ ph' : PH, sI ph ty (some a) i x ph' ∧ P ph') ↔ P (hset ph a (g, .inr (ty, n, .inl (upd f i.toNatClampNeg x)))) := by
  constructor
  · rintro ⟨ph', ⟨b, g', n', f', e1, e2, e3, e4, e5⟩, hp⟩
    cases e1
    cases e2.symm.trans h
    rw [← e5]
    exact hp
  · intro hp
    exact ⟨_, ⟨a, g, n, f, rfl, h, hg, hi, rfl⟩, hp⟩
theorem ex_sJ {P : PH → Prop} {f : Nat → Int64} {i : Int32} {x : Int64} (h : ph a = some (g, .inr (.long, n, .inr (.inl f)))) (hg : g < 1000) (hi : vp_in i n) : (∃ ph' : PH, sJ ph (some a) i x ph' ∧ P ph') ↔ P (hset ph a (g, .inr (.long, n, .inr (.inl (vp_updL f i.toNatClampNeg x))))) := by
  constructor
  · rintro ⟨ph', ⟨b, g', n', f', e1, e2, e3, e4, e5⟩, hp⟩
    cases e1
    cases e2.symm.trans h
    rw [← e5]
    exact hp
  · intro hp
    exact ⟨_, ⟨a, g, n, f, rfl, h, hg, hi, rfl⟩, hp⟩
theorem ex_eq {T : Type} {P : T → Prop} {x : T} : (∀ v : T, v = x → P v) ↔ P x := ⟨fun h => h x rfl, fun h v e => by rw [e]; exact h⟩
end PURE
/-! small numbers as ints -/
theorem on_int {i : Nat} (h : i < 2 ^ 31) : (Int32.ofNat i).toInt = (i : Int) := Int32.toInt_ofNat_of_lt h
theorem on_nat {i : Nat} (h : i < 2 ^ 31) : (Int32.ofNat i).toNatClampNeg = i := by
  show ((Int32.ofNat i).toInt).toNat = i
  rw [on_int h]
  rfl
theorem on_le {i j : Nat} (hi : i < 2 ^ 31) (hj : j < 2 ^ 31) : Int32.ofNat i ≤ Int32.ofNat j ↔ i ≤ j := by
  rw [Int32.le_iff_toInt_le, on_int hi, on_int hj]
  omega
theorem on_lt {i j : Nat} (hi : i < 2 ^ 31) (hj : j < 2 ^ 31) : Int32.ofNat i < Int32.ofNat j ↔ i < j := by
  rw [Int32.lt_iff_toInt_lt, on_int hi, on_int hj]
  omega
theorem on_neg {i : Nat} (hi : i < 2 ^ 31) : ¬ Int32.ofNat i < 0 := by
  rw [Int32.lt_iff_toInt_lt, on_int hi]
  show ¬ ((i : Int) < 0)
  omega
theorem on_in {i n : Nat} (h : i < n) (hn : n < 2 ^ 31) : vp_in (Int32.ofNat i) n := by
  unfold vp_in
  rw [on_nat (Nat.lt_trans h hn)]
  intro h9
  rcases h9 with h9 | h9
  · exact on_neg (Nat.lt_trans h hn) h9
  · omega
theorem on_succ (i : Nat) : Int32.ofNat i + 1 = Int32.ofNat (i + 1) := by
  rw [Int32.ofNat_add]
  rfl
theorem on_inj {i j : Nat} (hi : i < 2 ^ 31) (hj : j < 2 ^ 31) : Int32.ofNat i = Int32.ofNat j ↔ i = j := by
  constructor
  · intro h
    have h2 := congrArg Int32.toInt h
    rw [on_int hi, on_int hj] at h2
    omega
  · intro h
    rw [h]
/-- a number that is not below 0 is a small number -/
theorem of_pos {x : Int32} (h : ¬ x < 0) : ∃ i : Nat, i < 2 ^ 31 ∧ x = Int32.ofNat i := by
  refine ⟨x.toNatClampNeg, ?_, ?_⟩
  · have h1 := Int32.toInt_lt x
    show x.toInt.toNat < 2 ^ 31
    omega
  · apply Int32.toInt_inj.mp
    have h1 := Int32.toInt_lt x
    have h2 : ¬ x.toInt < 0 := fun h9 => h (Int32.lt_iff_toInt_lt.mpr h9)
    show x.toInt = (Int32.ofNat x.toInt.toNat).toInt
    rw [on_int (show x.toInt.toNat < 2 ^ 31 by omega)]
    omega
/-! a graph in the map -/
def Gr (ph : PH) (g st lt : Nat) (E : Nat → Int32) : Prop := (1 ≤ st ∧ st ≤ 24 ∧ 2 ≤ lt ∧ lt ≤ 3) ∧ ∃ ge : Nat, ph g = some (106, .inl (6, [.int (Int32.ofNat st), .int (Int32.ofNat lt), .ref ge])) ∧ ph ge = some (230, .inr (.int, 72, .inl E))
section GRAPH
variable {ph : PH} {g st lt : Nat} {E : Nat → Int32} {X : String → PH → Prop}
theorem g_hasState {x : Int32} {Q : Int32 → PH → Prop} (hG : Gr ph g st lt E) (h1 : ∀ i : Nat, i < st → x = Int32.ofNat i → Q 1 ph) (h0 : (∀ i : Nat, i < st → ¬ x = Int32.ofNat i) → Q 0 ph) : w_X3_hasState g x ph Q X := by
  obtain ⟨⟨b1, b2, b3, b4⟩, ge, e1, e2⟩ := hG
  unfold w_X3_hasState
  refine ⟨fun h => ⟨rfl, h0 fun i hi e => ?_⟩, fun h => ?_⟩
  · rw [e] at h
    exact on_neg (by omega) h
  · rw [ex_gI e1 rfl]
    obtain ⟨i, hi, rfl⟩ := of_pos h
    rw [on_le (by omega) hi]
    refine ⟨fun h9 => ⟨rfl, h0 fun j hj e => ?_⟩, fun h9 => ⟨rfl, h1 i (by omega) rfl⟩⟩
    rw [on_inj hi (by omega)] at e
    omega
theorem g_targets {i a : Nat} (hi : i < st) (ha : a < lt) {Q : Int32 → PH → Prop} (hG : Gr ph g st lt E) (h : Q (E (24 * a + i)) ph) : w_X3_targets g (Int32.ofNat i) (Int32.ofNat a) ph Q X := by
  obtain ⟨⟨b1, b2, b3, b4⟩, ge, e1, e2⟩ := hG
  unfold w_X3_targets
  intro v6 hv
  have hv2 : v6 = Int32.ofNat (24 * a + i) := by
    rw [hv, Int32.ofNat_add, Int32.ofNat_mul, Int32.mul_comm]
    rfl
  subst hv2
  refine ⟨fun h9 => absurd h9 (on_neg (by omega)), fun _ => ?_⟩
  rw [ex_gI e1 rfl, on_le (by omega) (by omega)]
  refine ⟨fun h9 => absurd h9 (by omega), fun _ => ⟨fun h9 => absurd h9 (on_neg (by omega)), fun _ => ?_⟩⟩
  rw [ex_gI e1 rfl, on_le (by omega) (by omega)]
  refine ⟨fun h9 => absurd h9 (by omega), fun _ => ?_⟩
  unfold w_X3_targets_36
  refine ⟨fun h9 => absurd h9 (by decide), fun _ => ⟨fun h9 => absurd h9 (on_neg (by omega)), fun _ => ?_⟩⟩
  rw [ex_gR e1 (v0 := some ge) rfl, ex_aL e2, on_le (by omega) (by omega)]
  refine ⟨fun h9 => absurd h9 (by omega), fun _ => ?_⟩
  rw [ex_gR e1 (v0 := some ge) rfl, ex_aI e2 (on_in (by omega) (by omega)), on_nat (by omega)]
  exact h
end GRAPH
