/-! the live states -/
section LIVE
variable {st lt : Nat} {E : Nat → Int32}
theorem lvIt_itr : ∀ (k : Nat) (S : Int32), lvIt st lt E k S = itr (lvStep st lt E) k S := by
  intro k
  induction k with
  | zero => intro S; rfl
  | succ k ih => intro S; exact ih _
theorem bt_allT {i j : Nat} : bt (allT lt E i) j ↔ ∃ a : Nat, a < lt ∧ bt (E (24 * a + i)) j := bt_orF
theorem bt_enF {S : Int32} {j : Nat} (hst : st ≤ 24) : bt (orF st (enF lt E S)) j ↔ ∃ i : Nat, i < st ∧ bt S i ∧ bt (allT lt E i) j := by
  rw [bt_orF]
  have key : ∀ i : Nat, i < st → (bt (enF lt E S i) j ↔ bt S i ∧ bt (allT lt E i) j) := by
    intro i hi
    unfold enF
    by_cases h : ((S >>> (Int32.ofNat i &&& 31)) &&& 1) = 0
    · rw [if_pos h]
      exact ⟨fun h9 => absurd h9 bt_zero, fun h9 => absurd h ((hb_bt (by omega)).mpr h9.1)⟩
    · rw [if_neg h]
      exact ⟨fun h9 => ⟨(hb_bt (by omega)).mp h, h9⟩, fun h9 => h9.2⟩
  exact ⟨fun ⟨i, hi, h⟩ => ⟨i, hi, (key i hi).mp h⟩, fun ⟨i, hi, h⟩ => ⟨i, hi, (key i hi).mpr h⟩⟩
theorem bt_leF {S : Int32} {j : Nat} (hst : st ≤ 24) : bt (orF st (leF lt E S)) j ↔ j < st ∧ ¬ (allT lt E j &&& S) = 0 := by
  rw [bt_orF]
  constructor
  · rintro ⟨i, hi, h⟩
    unfold leF at h
    by_cases h9 : (allT lt E i &&& S) = 0
    · rw [if_pos h9] at h
      exact absurd h bt_zero
    · rw [if_neg h9] at h
      have h1 := (bt_one (by omega)).mp h
      subst h1
      exact ⟨hi, h9⟩
  · rintro ⟨hj, h9⟩
    refine ⟨j, hj, ?_⟩
    unfold leF
    rw [if_neg h9]
    exact (bt_one (by omega)).mpr rfl
theorem lvStep_sub {S : Int32} : sub (lvStep st lt E S) S := fun j hj => (bt_and.mp (bt_and.mp hj).1).1
theorem lvStep_zero : lvStep st lt E 0 = 0 := sub_eq lvStep_sub (fun j hj => absurd hj bt_zero)
theorem itr_sub {f : Int32 → Int32} (h : ∀ S : Int32, sub (f S) S) : ∀ (k : Nat) (S : Int32), sub (itr f k S) S := by
  intro k
  induction k with
  | zero => intro S j hj; exact hj
  | succ k ih => intro S j hj; exact h S j (ih (f S) j hj)
theorem live_lt {j : Nat} (hst : st ≤ 24) (h : bt (live st lt E) j) : j < st := by
  unfold live at h
  rw [lvIt_itr] at h
  exact (bt_mask hst).mp (itr_sub (fun S => lvStep_sub) _ _ j h)
theorem live_fix (hst : st ≤ 24) : lvStep st lt E (live st lt E) = live st lt E := by
  unfold live
  rw [lvIt_itr]
  refine itr_fix lvStep_zero (fun j hj => ?_) (fun k => ?_)
  · have h1 := (bt_mask hst).mp hj
    omega
  · rw [itr_succ]
    exact lvStep_sub
theorem live_out {i : Nat} (hst : st ≤ 24) (h : bt (live st lt E) i) : ∃ a : Nat, a < lt ∧ ∃ j : Nat, bt (E (24 * a + i)) j ∧ bt (live st lt E) j := by
  rw [← live_fix hst] at h
  obtain ⟨-, h2⟩ := bt_and.mp h
  obtain ⟨-, h3⟩ := (bt_leF hst).mp h2
  obtain ⟨j, hj⟩ := bt_ne.mp h3
  obtain ⟨j1, j2⟩ := bt_and.mp hj
  obtain ⟨a, ha, h4⟩ := bt_allT.mp j1
  exact ⟨a, ha, j, h4, j2⟩
theorem live_in {j : Nat} (hst : st ≤ 24) (h : bt (live st lt E) j) : ∃ i : Nat, bt (live st lt E) i ∧ ∃ a : Nat, a < lt ∧ bt (E (24 * a + i)) j := by
  rw [← live_fix hst] at h
  obtain ⟨h1, -⟩ := bt_and.mp h
  obtain ⟨-, h2⟩ := bt_and.mp h1
  obtain ⟨i, hi, h3, h4⟩ := (bt_enF hst).mp h2
  obtain ⟨a, ha, h5⟩ := bt_allT.mp h4
  exact ⟨i, h3, a, ha, h5⟩
/-- a greatest set of its kind: what goes on both ways for ever is live -/
theorem live_most {S : Int32} (hst : st ≤ 24) (hS : ∀ j : Nat, bt S j → j < st) (hf : sub S (lvStep st lt E S)) : sub S (live st lt E) := by
  have mono : ∀ {A B : Int32}, sub A B → sub (lvStep st lt E A) (lvStep st lt E B) := by
    intro A B h j hj
    obtain ⟨h1, h2⟩ := bt_and.mp hj
    obtain ⟨h3, h4⟩ := bt_and.mp h1
    obtain ⟨i, hi, h5, h6⟩ := (bt_enF hst).mp h4
    obtain ⟨h7, h8⟩ := (bt_leF hst).mp h2
    obtain ⟨k, hk⟩ := bt_ne.mp h8
    obtain ⟨k1, k2⟩ := bt_and.mp hk
    exact bt_and.mpr ⟨bt_and.mpr ⟨h j h3, (bt_enF hst).mpr ⟨i, hi, h i h5, h6⟩⟩, (bt_leF hst).mpr ⟨h7, bt_ne.mpr ⟨k, bt_and.mpr ⟨k1, h k k2⟩⟩⟩⟩
  unfold live
  rw [lvIt_itr]
  have key : ∀ (k : Nat) (B : Int32), sub S B → sub S (itr (lvStep st lt E) k B) := by
    intro k
    induction k with
    | zero => intro B h; exact h
    | succ k ih => intro B h; exact ih _ fun j hj => mono h j (hf j hj)
  exact key 24 _ fun j hj => (bt_mask hst).mpr (hS j hj)
/-! the count of words -/
theorem cw_zero {L : Int32} : ∀ n : Nat, cw st lt E L n 0 = 0 := by
  intro n
  cases n with
  | zero => exact if_pos rfl
  | succ n => exact if_pos rfl
theorem cw_succ {L S : Int32} {n : Nat} (hst : st ≤ 24) : cw st lt E L (n + 1) S = sumN lt (fun a => cw st lt E L n (rdL st E L S a)) := by
  by_cases h : S = 0
  · subst h
    rw [cw_zero]
    have key : ∀ k : Nat, sumN k (fun a => cw st lt E L n (rdL st E L 0 a)) = 0 := by
      intro k
      induction k with
      | zero => rfl
      | succ k ih =>
        show sumN k _ + cw st lt E L n (rdL st E L 0 k) = 0
        rw [ih, rdL_zero hst, cw_zero]
    exact (key lt).symm
  · exact if_neg h
theorem sumN_ge {n j : Nat} {f : Nat → Nat} (hj : j < n) : f j ≤ sumN n f := by
  induction n with
  | zero => omega
  | succ n ih =>
    show f j ≤ sumN n f + f n
    by_cases h9 : j = n
    · rw [h9]; omega
    · have := ih (by omega); omega
theorem cw_up {L S : Int32} (hst : st ≤ 24) (hL : L = live st lt E) : ∀ n : Nat, ∀ S : Int32, sub S L → cw st lt E L n S ≤ cw st lt E L (n + 1) S := by
  intro n
  induction n with
  | zero =>
    intro S hS
    rw [cw_succ hst]
    by_cases h : S = 0
    · rw [h, cw_zero]
      exact Nat.zero_le _
    · obtain ⟨i, hi⟩ := bt_ne.mp h
      have h1 := hS i hi
      rw [hL] at h1
      obtain ⟨a, ha, j, j1, j2⟩ := live_out hst h1
      have h2 : ¬ rdL st E L S a = 0 := bt_ne.mpr ⟨j, (bt_rdL hst).mpr ⟨⟨i, live_lt hst h1, hi, j1⟩, by rw [hL]; exact j2⟩⟩
      have h3 := sumN_ge (f := fun a => cw st lt E L 0 (rdL st E L S a)) ha
      rw [show cw st lt E L 0 (rdL st E L S a) = 1 from if_neg h2] at h3
      rw [show cw st lt E L 0 S = 1 from if_neg h]
      exact h3
  | succ n ih =>
    intro S hS
    rw [cw_succ hst, cw_succ (n := n + 1) hst]
    exact sumN_mon fun a _ => ih _ rdL_sub
theorem sumN_mul {n c : Nat} {f : Nat → Nat} : sumN n (fun i => c * f i) = c * sumN n f := by
  induction n with
  | zero => rfl
  | succ n ih =>
    show sumN n (fun i => c * f i) + c * f n = c * (sumN n f + f n)
    rw [ih, Nat.mul_add]
theorem cw_3 {L : Int32} (hst : st ≤ 24) (hl : lt ≤ 3) : ∀ n : Nat, ∀ S : Int32, cw st lt E L (n + 1) S ≤ 3 * cw st lt E L n S := by
  intro n
  induction n with
  | zero =>
    intro S
    by_cases h : S = 0
    · rw [h, cw_zero]
      exact Nat.zero_le _
    · rw [show cw st lt E L 0 S = 1 from if_neg h, cw_succ hst]
      have h1 := sumN_le (n := lt) (B := 1) (f := fun a => cw st lt E L 0 (rdL st E L S a)) fun a _ => by
        show (if rdL st E L S a = 0 then 0 else 1) ≤ 1
        split <;> decide
      omega
  | succ n ih =>
    intro S
    rw [cw_succ hst, cw_succ (n := n) hst, ← sumN_mul]
    exact sumN_mon fun a _ => ih _
end LIVE
theorem sumN_eq {n : Nat} {f g : Nat → Nat} (h : ∀ i : Nat, i < n → f i = g i) : sumN n f = sumN n g := by
  induction n with
  | zero => rfl
  | succ n ih =>
    show sumN n f + f n = sumN n g + g n
    rw [ih fun i hi => h i (by omega), h n (by omega)]
/-! two graphs that read alike -/
def Bis (lt : Nat) (f g : Int32 → Nat → Int32) (B : Int32 → Int32 → Prop) : Prop := ∀ S T : Int32, B S T → (S = 0 ↔ T = 0) ∧ ∀ a : Nat, a < lt → B (f S a) (g T a)
theorem cw_bis {st st' lt : Nat} {E E' : Nat → Int32} {L L' : Int32} {B : Int32 → Int32 → Prop} (h1 : st ≤ 24) (h2 : st' ≤ 24) (hB : Bis lt (rdL st E L) (rdL st' E' L') B) : ∀ (n : Nat) (S T : Int32), B S T → cw st lt E L n S = cw st' lt E' L' n T := by
  intro n
  induction n with
  | zero =>
    intro S T h
    have h3 := (hB S T h).1
    by_cases h4 : S = 0
    · rw [show cw st lt E L 0 S = 0 from if_pos h4, show cw st' lt E' L' 0 T = 0 from if_pos (h3.mp h4)]
    · rw [show cw st lt E L 0 S = 1 from if_neg h4, show cw st' lt E' L' 0 T = 1 from if_neg (fun h5 => h4 (h3.mpr h5))]
  | succ n ih =>
    intro S T h
    rw [cw_succ h1, cw_succ h2]
    exact sumN_eq fun a ha => ih _ _ ((hB S T h).2 a ha)
