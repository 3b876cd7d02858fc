section
/-! no state whose tables lack the class of arrays of StackTraceElement meets the premises -/
theorem nc_and {a b : Cond} {ar : Array Value} {s : State} (h : (Cond.and a b).before ar s = true) : a.before ar s = true ∧ b.before ar s = true := by
  unfold Cond.before Cond.holds at h ⊢
  simp only [Cond.value] at h
  cases ha : a.value ar s none s [] with
  | none => rw [ha] at h; simp at h
  | some v =>
    rw [ha] at h
    cases v with
    | false => simp at h
    | true => exact ⟨by simp, h⟩
def nc_pair : Cond → Option (Cond × Cond)
  | .and a b => some (a, b)
  | _ => none
theorem nc_pair_some {c a b : Cond} (h : nc_pair c = some (a, b)) : c = .and a b := by
  unfold nc_pair at h
  split at h
  · simp only [Option.some.injEq, Prod.mk.injEq] at h
    rw [h.1, h.2]
  · simp at h
def nc_at : List Bool → Cond → Option Cond
  | [], c => some c
  | d :: p, c => (nc_pair c).bind fun q => nc_at p (if d then q.1 else q.2)
theorem nc_at_true {ar : Array Value} {s : State} : ∀ (p : List Bool) (c d : Cond), nc_at p c = some d → c.before ar s = true → d.before ar s = true
  | [], c, d, h, hb => by
    simp only [nc_at, Option.some.injEq] at h
    rw [← h]; exact hb
  | x :: p, c, d, h, hb => by
    unfold nc_at at h
    cases hq : nc_pair c with
    | none => rw [hq] at h; simp at h
    | some q =>
      obtain ⟨a, b⟩ := q
      have hc := nc_pair_some hq
      subst hc
      rw [hq] at h
      have h2 := nc_and hb
      cases x with
      | true => exact nc_at_true p a d (by simpa using h) h2.1
      | false => exact nc_at_true p b d (by simpa using h) h2.2
theorem nc_row {ar : Array Value} {s : State} {k t : String} (h : (Cond.not (Cond.castable k t)).before ar s = true) : ∃ c, s.vm.findClass k = some c := by
  cases hk : s.vm.findClass k with
  | none => simp [Cond.before, Cond.holds, Cond.value, hk] at h
  | some c => exact ⟨c, rfl⟩
/-- what the premise narrow_1_2 asks of every start: that this class stands in its tables -/
theorem nc_needs {ar : Array Value} {s : State} (h : narrow_1_2.before ar s = true) : ∃ c, s.vm.findClass "[Ljava/lang/StackTraceElement;" = some c :=
  nc_row (nc_at_true [true, true, false, true, false, true, false, false, true] narrow_1_2 (Cond.not (Cond.castable "[Ljava/lang/StackTraceElement;" "java/lang/String")) rfl h)
/-- so a start without it does not meet them -/
theorem nc_false {ar : Array Value} {s : State} (h : s.vm.findClass "[Ljava/lang/StackTraceElement;" = none) : narrow_1_2.before ar s = false := by
  cases hb : narrow_1_2.before ar s with
  | false => rfl
  | true =>
    obtain ⟨c, hc⟩ := nc_needs hb
    rw [h] at hc
    cases hc
end
