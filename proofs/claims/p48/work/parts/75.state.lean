/-! the law types a text and asks for the state -/
def fo (g : Nat → Int64 → Int64) : Nat → Int64 → Int64
  | 0, h => h
  | n + 1, h => g n (fo g n h)
def ckF (sn : Nat) (sD : Nat → Nat × Nat × (Nat → Int32)) : Int64 := (List.range sn).foldl (fun s j => (((31 : Int64) * s) + (Int32.ofNat (bc (liF (sD j)))).toInt64) + (((7 : Int32) * Int32.ofNat (ceF (sD j).2.2)).toInt64)) 0
def g12 (sD : Nat → Nat × Nat × (Nat → Int32)) (k : Nat) (h : Int64) : Int64 := ((31 : Int64) * (((31 : Int64) * h) + Int64.ofNat (wdN (sD k) 4))) + Int64.ofNat (paN (sD k))
def tcF (D : Nat × Nat × (Nat → Int64)) (k : Nat) : Int64 := if D.1 = D.2.1 then trF D k else -1004000
def g59 (mD : Nat → Nat × Nat × (Nat → Int64)) (k : Nat) (h : Int64) : Int64 := ((31 : Int64) * (((31 : Int64) * h) + (gtF (mD k)).toInt64)) + tcF (mD k) 1
def g106 (tn : Nat) (tf : Nat → Int32) (k : Nat) (h : Int64) : Int64 := ((31 : Int64) * h) + (if k < tn then (tf k).toInt64 else -1005000)
def stF (sn : Nat) (sD : Nat → Nat × Nat × (Nat → Int32)) (mn : Nat) (mD : Nat → Nat × Nat × (Nat → Int64)) (tn : Nat) (tf : Nat → Int32) (ln ls : Nat → Nat) : Int64 := ((31 : Int64) * fo (g106 tn tf) 40 (fo (g59 mD) mn (fo (g12 sD) sn ((11563 : Int64) + ckF sn sD)))) + (Int32.ofNat (cxF ln ls)).toInt64
section STATE
variable {pz : PH} {b sn mn tn : Nat} {sD : Nat → Nat × Nat × (Nat → Int32)} {mD : Nat → Nat × Nat × (Nat → Int64)} {tf : Nat → Int32} {ln ls : Nat → Nat} {ph : PH} {X : String → PH → Prop}
theorem l_types {s n : Nat} {f : Nat → Int32} {Q : Int32 → PH → Prop} (hn : n ≤ 6) (hS : Str ph s n f) (hW : Wd pz b sn sD mn mD tn tf ln ls ph) (h : ∀ (tf' : Nat → Int32) (ph' : PH), Wd pz b sn sD mn mD n tf' ln ls ph' → Q 1 ph') : w_L_types (some b) (some s) ph Q X := by
  have hpz := hW.hi
  have hW1 := hW.re (Hi.rf ph)
  unfold w_L_types
  refine hW1.obj (a_clear hW1 (fun p1 _ hp1 => ⟨fun h9 => absurd h9 (on_neg (by omega)), fun _ => ?_⟩))
  refine ⟨n + 1, by omega, (upto0 (P := fun fu i => ∀ (tf' : Nat → Int32) (p : PH), Wd ph b sn sD mn mD i tf' ln ls p → w_L_types_18 Q X fu (some b) (some s) (1 : Int32) (Int32.ofNat i) p) fun fu i hi ih => ?_) tf p1 hp1⟩
  intro tf' p hp
  have S1 := hS.hi hp.hi
  obtain ⟨-, hs, g, g', V, fs, e1, -⟩ := id S1
  unfold w_L_types_18
  rw [ex_isO e1]
  refine g_strlen S1 ?_
  rw [on_le (by omega) (by omega)]
  refine ⟨fun h9 => ⟨rfl, ?_⟩, fun h9 => ⟨fun h8 => absurd h8 (by decide), fun _ => ?_⟩⟩
  · have e : i = n := by omega
    subst e
    exact h tf' p (hp.re (hpz.tr hp.hi))
  rw [ex_isO e1, on_succ]
  refine g_charAt (by omega) S1 ?_
  refine c_type (hs i (by omega)) (by omega) hp (fun tf2 p2 hp2 => ?_)
  rw [to64 (by omega)]
  exact ⟨fun h8 => absurd (lgc_eq.mpr rfl) h8, fun _ => ih (by omega) tf2 p2 hp2⟩
theorem l_state {Q : Int64 → PH → Prop} (hW : Wd pz b sn sD mn mD tn tf ln ls ph) (h : ∀ ph' : PH, Wd pz b sn sD mn mD tn tf ln ls ph' → Q (stF sn sD mn mD tn tf ln ls) ph') : w_L_state (some b) (Int32.ofNat sn) (Int32.ofNat mn) ph Q X := by
  have hs8 := hW.sn8
  have hm8 := hW.mn8
  unfold w_L_state
  refine hW.obj (a_checksum hW (fun v hv => ?_))
  have hv2 : v = ckF sn sD := hv
  subst hv2
  intro v8 h8
  subst h8
  refine ⟨sn + 1, by omega, (upto0 (P := fun fu i => ∀ p : PH, Wd pz b sn sD mn mD tn tf ln ls p → w_L_state_12 Q X fu (some b) (Int32.ofNat sn) (Int32.ofNat mn) (fo (g12 sD) i ((11563 : Int64) + ckF sn sD)) (Int32.ofNat i) p) fun fu i hi ih => ?_) ph hW⟩
  intro p hp
  unfold w_L_state_12
  rw [on_le (by omega) (by omega)]
  refine ⟨fun h9 => ?_, fun h9 => ?_⟩
  · have e : i = sn := by omega
    subst e
    refine ⟨mn + 1, by omega, (upto0 (P := fun fu j => ∀ p : PH, Wd pz b i sD mn mD tn tf ln ls p → w_L_state_59 Q X fu (some b) (Int32.ofNat mn) (fo (g59 mD) j (fo (g12 sD) i ((11563 : Int64) + ckF i sD))) (Int32.ofNat j) p) fun fu j hj ihj => ?_) p hp⟩
    intro p hp
    unfold w_L_state_59
    rw [on_le (by omega) (by omega)]
    refine ⟨fun h8 => ?_, fun h8 => ?_⟩
    · have e : j = mn := by omega
      subst e
      refine ⟨41, by omega, (upto0 (n := 40) (P := fun fu k => ∀ p : PH, Wd pz b i sD j mD tn tf ln ls p → w_L_state_106 Q X fu (some b) (fo (g106 tn tf) k (fo (g59 mD) j (fo (g12 sD) i ((11563 : Int64) + ckF i sD)))) (Int32.ofNat k) p) fun fu k hk ihk => ?_) p hp⟩
      intro p hp
      unfold w_L_state_106
      rw [show (40 : Int32) = Int32.ofNat 40 from rfl, on_le (by omega) (by omega)]
      refine ⟨fun h7 => ?_, fun h7 => ?_⟩
      · have e : k = 40 := by omega
        subst e
        exact c_complexity hp (fun p2 hp2 => h p2 hp2)
      · have key : ∀ (y : Int64), y = (if k < tn then (tf k).toInt64 else -1005000) → ∀ v129 : Int64, v129 = ((31 : Int64) * (fo (g106 tn tf) k (fo (g59 mD) j (fo (g12 sD) i ((11563 : Int64) + ckF i sD))))) + y → (w_L_state_106 Q X fu (some b) v129 (Int32.ofNat k + 1) p) := by
          intro y hy v hv
          subst hy
          subst hv
          rw [on_succ]
          exact ihk (by omega) p hp
        exact c_signAt (by omega) hp (fun h6 => key _ (if_pos h6).symm) (fun h6 => key _ (if_neg h6).symm)
    · refine c_get hp (fun m hm em => ?_) (fun hno => absurd rfl (hno j (by omega)))
      rw [on_inj (by omega) (by omega)] at em
      subst em
      have key : ∀ (p2 : PH) (y : Int64), Wd pz b i sD mn mD tn tf ln ls p2 → y = tcF (mD j) 1 → ∀ v96 : Int64, v96 = ((31 : Int64) * (((31 : Int64) * (fo (g59 mD) j (fo (g12 sD) i ((11563 : Int64) + ckF i sD)))) + (gtF (mD j)).toInt64)) + y → (w_L_state_59 Q X fu (some b) (Int32.ofNat mn) v96 (Int32.ofNat j + 1) p2) := by
        intro p2 y hp2 hy v hv
        subst hy
        subst hv
        rw [on_succ]
        exact ihj (by omega) p2 hp2
      refine c_trace (k := 1) (by omega) hp (fun m p2 hm em hsq hp2 => ?_) (fun m hm em hsq => ?_) (fun hno => absurd rfl (hno j (by omega)))
      · rw [on_inj (by omega) (by omega)] at em
        subst em
        exact key p2 _ hp2 (if_pos hsq).symm
      · rw [on_inj (by omega) (by omega)] at em
        subst em
        exact key p _ hp (if_neg hsq).symm
  · refine c_words (n := 4) (by omega) hp (fun m p2 hm em hp2 => ?_) (fun hno => absurd rfl (hno i (by omega)))
    rw [on_inj (by omega) (by omega)] at em
    subst em
    refine c_parts hp2 (fun m p3 hm em hp3 => ?_) (fun hno => absurd rfl (hno i (by omega)))
    rw [on_inj (by omega) (by omega)] at em
    subst em
    intro v hv
    subst hv
    rw [on_succ]
    exact ih (by omega) p3 hp3
end STATE
