/-! a table that is split keeps its third trace -/
section TRACE
theorem sumJ_add {n : Nat} {f g : Nat → Int64} : sumJ n (fun i => f i + g i) = sumJ n f + sumJ n g := by
  induction n with
  | zero => exact (Int64.add_zero 0).symm
  | succ n ih =>
    show sumJ n (fun i => f i + g i) + (f n + g n) = (sumJ n f + f n) + (sumJ n g + g n)
    rw [ih]
    simp only [Int64.add_assoc]
    rw [← Int64.add_assoc (sumJ n g) (f n) (g n), Int64.add_comm (sumJ n g) (f n), Int64.add_assoc]
theorem sumJ_zero {n : Nat} : sumJ n (fun _ => 0) = 0 := by
  induction n with
  | zero => rfl
  | succ n ih =>
    show sumJ n (fun _ => 0) + 0 = 0
    rw [ih]
    rfl
theorem sumJ_swap {n m : Nat} {f : Nat → Nat → Int64} : sumJ n (fun i => sumJ m (fun j => f i j)) = sumJ m (fun j => sumJ n (fun i => f i j)) := by
  induction n with
  | zero => exact sumJ_zero.symm
  | succ n ih =>
    show sumJ n (fun i => sumJ m (fun j => f i j)) + sumJ m (fun j => f n j) = sumJ m (fun j => sumJ n (fun i => f i j) + f n j)
    rw [ih, sumJ_add]
theorem sumJ_mulr {n : Nat} {f : Nat → Int64} {x : Int64} : sumJ n f * x = sumJ n (fun i => f i * x) := by
  induction n with
  | zero => exact Int64.zero_mul
  | succ n ih =>
    show (sumJ n f + f n) * x = sumJ n (fun i => f i * x) + f n * x
    rw [Int64.add_mul, ih]
theorem sumJ_mull {n : Nat} {f : Nat → Int64} {x : Int64} : x * sumJ n f = sumJ n (fun i => x * f i) := by
  induction n with
  | zero => exact Int64.mul_zero
  | succ n ih =>
    show x * (sumJ n f + f n) = sumJ n (fun i => x * f i) + x * f n
    rw [Int64.mul_add, ih]
theorem pwr_eq {n : Nat} {M N : Nat → Nat → Int64} (h : ∀ i j : Nat, i < n → j < n → M i j = N i j) : ∀ (k i j : Nat), i < n → j < n → pwr n M k i j = pwr n N k i j := by
  intro k
  induction k with
  | zero => exact h
  | succ k ih =>
    intro i j hi hj
    exact sumJ_eq fun m hm => by rw [ih i m hi hm, h m j hm hj]
/-- the product of an n by m and an m by n table, either way round, to the power 3 -/
theorem tr3 {n m : Nat} {R S : Nat → Nat → Int64} : tr n (pwr n (fun i j => sumJ m (fun k => R i k * S k j)) 2) = tr m (pwr m (fun i j => sumJ n (fun k => S i k * R k j)) 2) := by
  -- both are the sum of R i a * S a j * R j b * S b k * R k c * S c i
  have left : ∀ (n m : Nat) (R S : Nat → Nat → Int64), tr n (pwr n (fun i j => sumJ m (fun k => R i k * S k j)) 2) = sumJ n (fun i => sumJ n (fun k => sumJ n (fun j => sumJ m (fun a => sumJ m (fun b => sumJ m (fun c => R i a * S a j * (R j b * S b k) * (R k c * S c i))))))) := by
    intro n m R S
    refine sumJ_eq fun i hi => ?_
    show sumJ n (fun k => sumJ n (fun j => sumJ m (fun a => R i a * S a j) * sumJ m (fun b => R j b * S b k)) * sumJ m (fun c => R k c * S c i)) = _
    refine sumJ_eq fun k hk => ?_
    rw [sumJ_mulr]
    refine sumJ_eq fun j hj => ?_
    rw [sumJ_mulr, sumJ_mulr]
    refine sumJ_eq fun a ha => ?_
    rw [sumJ_mull (x := R i a * S a j), sumJ_mulr]
    refine sumJ_eq fun b hb => ?_
    rw [sumJ_mull]
  rw [left n m R S, left m n S R]
  -- to bring the sums of one kind outside
  have out : ∀ F : Nat → Nat → Nat → Nat → Nat → Nat → Int64, sumJ n (fun i => sumJ n (fun k => sumJ n (fun j => sumJ m (fun a => sumJ m (fun b => sumJ m (fun c => F i k j a b c)))))) = sumJ m (fun a => sumJ m (fun b => sumJ m (fun c => sumJ n (fun i => sumJ n (fun k => sumJ n (fun j => F i k j a b c)))))) := by
    intro F
    have s1 : ∀ (p : Nat) (G : Nat → Nat → Nat → Nat → Int64), sumJ p (fun x => sumJ m (fun a => sumJ m (fun b => sumJ m (fun c => G x a b c)))) = sumJ m (fun a => sumJ m (fun b => sumJ m (fun c => sumJ p (fun x => G x a b c)))) := by
      intro p G
      rw [sumJ_swap]
      refine sumJ_eq fun a _ => ?_
      rw [sumJ_swap]
      refine sumJ_eq fun b _ => ?_
      rw [sumJ_swap]
    have e1 : ∀ i k : Nat, sumJ n (fun j => sumJ m (fun a => sumJ m (fun b => sumJ m (fun c => F i k j a b c)))) = sumJ m (fun a => sumJ m (fun b => sumJ m (fun c => sumJ n (fun j => F i k j a b c)))) := fun i k => s1 n (fun j a b c => F i k j a b c)
    have e2 : ∀ i : Nat, sumJ n (fun k => sumJ n (fun j => sumJ m (fun a => sumJ m (fun b => sumJ m (fun c => F i k j a b c))))) = sumJ m (fun a => sumJ m (fun b => sumJ m (fun c => sumJ n (fun k => sumJ n (fun j => F i k j a b c))))) := by
      intro i
      rw [sumJ_eq (fun k _ => e1 i k)]
      exact s1 n (fun k a b c => sumJ n (fun j => F i k j a b c))
    rw [sumJ_eq (fun i _ => e2 i)]
    exact s1 n (fun i a b c => sumJ n (fun k => sumJ n (fun j => F i k j a b c)))
  rw [out (fun i k j a b c => R i a * S a j * (R j b * S b k) * (R k c * S c i))]
  -- a, b, c are the second's i, j, k; its a, b, c are the first's j, k, i
  refine sumJ_eq fun a _ => ?_
  rw [sumJ_swap]
  refine sumJ_eq fun c _ => ?_
  refine sumJ_eq fun b _ => ?_
  -- left: i, k, j; right: a', b', c' with a' = j, b' = k, c' = i
  have perm : ∀ G : Nat → Nat → Nat → Int64, sumJ n (fun i => sumJ n (fun k => sumJ n (fun j => G i k j))) = sumJ n (fun j => sumJ n (fun k => sumJ n (fun i => G i k j))) := by
    intro G
    have e1 : ∀ i : Nat, sumJ n (fun k => sumJ n (fun j => G i k j)) = sumJ n (fun j => sumJ n (fun k => G i k j)) := fun i => sumJ_swap
    rw [sumJ_eq (fun i _ => e1 i), sumJ_swap]
    refine sumJ_eq fun j _ => ?_
    rw [sumJ_swap]
  rw [perm]
  refine sumJ_eq fun j _ => ?_
  refine sumJ_eq fun k _ => ?_
  refine sumJ_eq fun i _ => ?_
  simp only [Int64.mul_assoc]
  rw [Int64.mul_comm (R i a)]
  simp only [Int64.mul_assoc]
end TRACE
