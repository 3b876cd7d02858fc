/-! substitutions -/
def upN (f : Nat → Nat) (i v : Nat) : Nat → Nat := fun j => if j = i then v else f j
theorem un_s {f : Nat → Nat} {i v : Nat} : upN f i v i = v := if_pos rfl
theorem un_n {f : Nat → Nat} {i j v : Nat} (h : j ≠ i) : upN f i v j = f j := if_neg h
def rpPut (p : Nat × (Nat → Nat)) (v : Nat) : Nat × (Nat → Nat) := if p.1 < 200 then (p.1 + 1, upN p.2 p.1 v) else p
def rep (ls : Nat → Nat) (a : Nat) : Nat → Nat × (Nat → Nat) → Nat × (Nat → Nat)
  | 0, p => p
  | i + 1, p => rpPut (rep ls a i p) (ls (4 * a + i))
def gin (ln ls : Nat → Nat) (row : Nat → Nat) : Nat → Nat × (Nat → Nat)
  | 0 => (0, fun _ => 0)
  | i + 1 => rep ls (row i) (ln (row i)) (gin ln ls row i)
def gro (ln ls : Nat → Nat) : Nat → Nat × (Nat → Nat) → Nat × (Nat → Nat)
  | 0, p => p
  | k + 1, p => if p.1 < 200 then gro ln ls k (gin ln ls p.2 p.1) else p
def wdF (row : Nat → Nat) (s : Nat) : Nat → Int32
  | 0 => 0
  | i + 1 => ((3 : Int32) * wdF row s i) + Int32.ofNat (row (s + i))
def fndW (ws : Nat → Int32) (w : Int32) : Nat → Bool
  | 0 => false
  | n + 1 => fndW ws w n || decide (ws n = w)
def cuF (row : Nat → Nat) (len : Nat) : Nat → Nat × (Nat → Int32)
  | 0 => (0, fun _ => 0)
  | s + 1 => if fndW (cuF row len s).2 (wdF row s len) (cuF row len s).1 = true then cuF row len s else ((cuF row len s).1 + 1, upd (cuF row len s).2 (cuF row len s).1 (wdF row s len))
def Pm (p : Nat × (Nat → Nat)) : Prop := p.1 ≤ 200 ∧ ∀ j : Nat, j < p.1 → p.2 j < 3
/-- how many unlike words of length 3 -/
def cxF (ln ls : Nat → Nat) : Nat := (cuF (gro ln ls 12 (1, fun _ => 0)).2 3 ((gro ln ls 12 (1, fun _ => 0)).1 + 1 - 3)).1
def Rp (ph : PH) (rp rl rv rr rs : Nat) (ln ls : Nat → Nat) : Prop := ph rp = some (108, .inl (8, [.ref rl, .ref rv, .ref rr, .ref rs])) ∧ (∃ f : Nat → Int32, ph rl = some (226, .inr (.int, 3, .inl f)) ∧ ∀ a : Nat, a < 3 → ln a ≤ 4 ∧ f a = Int32.ofNat (ln a)) ∧ (∃ f : Nat → Int32, ph rv = some (227, .inr (.int, 12, .inl f)) ∧ ∀ i : Nat, i < 12 → ls i < 3 ∧ f i = Int32.ofNat (ls i)) ∧ Arr ph rr 228 200 ∧ Arr ph rs 229 200
def TX : Nat → Bool := fun t => t == 228 || t == 229
theorem Rp.keep {T : Nat → Bool} {p q : PH} {rp rl rv rr rs : Nat} {ln ls : Nat → Nat} (h : Keep T p q) (hR : Rp p rp rl rv rr rs ln ls) (h1 : T 226 = false) (h2 : T 227 = false) : Rp q rp rl rv rr rs ln ls := by
  obtain ⟨e, ⟨f1, e1, p1⟩, ⟨f2, e2, p2⟩, a1, a2⟩ := hR
  exact ⟨h.obj e, ⟨f1, h.at e1 h1, p1⟩, ⟨f2, h.at e2 h2, p2⟩, a1.keep h, a2.keep h⟩
theorem rpPut_ok {p : Nat × (Nat → Nat)} {v : Nat} (h : Pm p) (hv : v < 3) : Pm (rpPut p v) := by
  unfold rpPut
  split
  · refine ⟨by show p.1 + 1 ≤ 200; omega, fun j hj => ?_⟩
    have hj2 : j < p.1 + 1 := hj
    show upN p.2 p.1 v j < 3
    by_cases h9 : j = p.1
    · rw [h9, un_s]
      exact hv
    · rw [un_n h9]
      exact h.2 j (by omega)
  · exact h
theorem rep_ok {ls : Nat → Nat} {a : Nat} (ha : a < 3) (hl : ∀ i : Nat, i < 12 → ls i < 3) : ∀ (i : Nat) (p : Nat × (Nat → Nat)), i ≤ 4 → Pm p → Pm (rep ls a i p) := by
  intro i
  induction i with
  | zero => intro p _ h; exact h
  | succ i ih => intro p hi h; exact rpPut_ok (ih p (by omega) h) (hl _ (by omega))
theorem gin_ok {ln ls row : Nat → Nat} (hl : ∀ i : Nat, i < 12 → ls i < 3) (hn : ∀ a : Nat, a < 3 → ln a ≤ 4) : ∀ i : Nat, (∀ j : Nat, j < i → row j < 3) → Pm (gin ln ls row i) := by
  intro i
  induction i with
  | zero => intro _; exact ⟨Nat.zero_le _, fun j hj => absurd hj (Nat.not_lt_zero j)⟩
  | succ i ih => intro h; exact rep_ok (h i (by omega)) hl _ _ (hn _ (h i (by omega))) (ih fun j hj => h j (by omega))
theorem gro_ok {ln ls : Nat → Nat} (hl : ∀ i : Nat, i < 12 → ls i < 3) (hn : ∀ a : Nat, a < 3 → ln a ≤ 4) : ∀ (k : Nat) (p : Nat × (Nat → Nat)), Pm p → Pm (gro ln ls k p) := by
  intro k
  induction k with
  | zero => intro p h; exact h
  | succ k ih =>
    intro p h
    show Pm (if p.1 < 200 then gro ln ls k (gin ln ls p.2 p.1) else p)
    split
    · exact ih _ (gin_ok hl hn _ h.2)
    · exact h
theorem cuF_le {row : Nat → Nat} {len : Nat} : ∀ s : Nat, (cuF row len s).1 ≤ s := by
  intro s
  induction s with
  | zero => exact Nat.le_refl _
  | succ s ih =>
    show (if fndW (cuF row len s).2 (wdF row s len) (cuF row len s).1 = true then cuF row len s else ((cuF row len s).1 + 1, upd (cuF row len s).2 (cuF row len s).1 (wdF row s len))).1 ≤ s + 1
    split
    · omega
    · show (cuF row len s).1 + 1 ≤ s + 1
      omega
section REPL
variable {ph : PH} {rp rl rv rr rs : Nat} {ln ls : Nat → Nat} {X : String → PH → Prop}
theorem g_lengthOf {a : Nat} {Q : Int32 → PH → Prop} (ha : a < 3) (hR : Rp ph rp rl rv rr rs ln ls) (h : Q (Int32.ofNat (ln a)) ph) : w_X7_lengthOf rp (Int32.ofNat a) ph Q X := by
  obtain ⟨e, ⟨f1, e1, p1⟩, -⟩ := hR
  unfold w_X7_lengthOf
  refine ⟨fun h9 => absurd h9 (on_neg (by omega)), fun _ => ?_⟩
  rw [ex_gR e (v0 := some rl) rfl, ex_aL e1, on_le (by omega) (by omega)]
  refine ⟨fun h9 => absurd h9 (by omega), fun _ => ?_⟩
  rw [ex_gR e (v0 := some rl) rfl, ex_aI e1 (on_in (by omega) (by omega)), on_nat (by omega), (p1 a ha).2]
  exact h
theorem on_4 {i a : Nat} : ((4 : Int32) * Int32.ofNat a) + Int32.ofNat i = Int32.ofNat (4 * a + i) := by
  rw [Int32.ofNat_add, Int32.ofNat_mul]
  rfl
theorem g_replace {a : Nat} {p : Nat × (Nat → Nat)} {f : Nat → Int32} {Q : Int32 → PH → Prop} (ha : a < 3) (hR : Rp ph rp rl rv rr rs ln ls) (hp : Pm p) (es : ph rs = some (229, .inr (.int, 200, .inl f))) (hf : ∀ j : Nat, j < p.1 → f j = Int32.ofNat (p.2 j)) (h : ∀ (ph' : PH) (f' : Nat → Int32), Keep TX ph ph' → ph' rr = ph rr → ph' rs = some (229, .inr (.int, 200, .inl f')) → (∀ j : Nat, j < (rep ls a (ln a) p).1 → f' j = Int32.ofNat ((rep ls a (ln a) p).2 j)) → Q (Int32.ofNat (rep ls a (ln a) p).1) ph') : w_X7_replace rp (Int32.ofNat a) (Int32.ofNat p.1) ph Q X := by
  have hl : ∀ i : Nat, i < 12 → ls i < 3 := by
    obtain ⟨-, -, ⟨f2, e2, p2⟩, -, -⟩ := hR
    exact fun i hi => (p2 i hi).1
  have hn4 : ln a ≤ 4 := by
    obtain ⟨-, ⟨f1, e1, p1⟩, -, -, -⟩ := hR
    exact (p1 a ha).1
  have hrs : rr ≠ rs := by
    obtain ⟨-, -, -, ⟨f3, e3⟩, -⟩ := hR
    exact tag_ne e3 es (by decide)
  unfold w_X7_replace
  refine ⟨ln a + 1, (upto0 (P := fun fu i => ∀ (u : PH) (f : Nat → Int32), Keep TX ph u → u rr = ph rr → u rs = some (229, .inr (.int, 200, .inl f)) → (∀ j : Nat, j < (rep ls a i p).1 → f j = Int32.ofNat ((rep ls a i p).2 j)) → w_X7_replace_5 Q X fu (some rp) (Int32.ofNat a) (Int32.ofNat (rep ls a i p).1) (Int32.ofNat i) u) fun fu i hi ih => ?_) ph f (Keep.rf ph) rfl es hf⟩
  intro u f hK hrr es hf
  have R1 := hR.keep hK rfl rfl
  have hpm := rep_ok ha hl i p (by omega) hp
  have hpm1 := hpm.1
  unfold w_X7_replace_5
  rw [ex_isO R1.1]
  refine g_lengthOf ha R1 ?_
  rw [on_le (by omega) (by omega)]
  refine ⟨fun h9 => ?_, fun h9 v21 h21 => ?_⟩
  · have h8 : i = ln a := by omega
    rw [h8] at hf ⊢
    exact h u f hK hrr es hf
  rw [on_4] at h21
  subst h21
  refine ⟨fun h8 => absurd h8 (on_neg (by omega)), fun _ => ?_⟩
  obtain ⟨e, -, ⟨f2, e2, p2⟩, -, -⟩ := id R1
  rw [ex_gR e (v0 := some rs) rfl, ex_aL es, on_le (by omega) (by omega), on_succ]
  have e9 : rep ls a (i + 1) p = rpPut (rep ls a i p) (ls (4 * a + i)) := rfl
  refine ⟨fun h8 => ?_, fun h8 => ⟨fun h7 => absurd h7 (on_neg (by omega)), fun _ => ?_⟩⟩
  · have e8 : rep ls a (i + 1) p = rep ls a i p := by
      rw [e9]
      exact if_neg (by omega)
    have h7 := ih (by omega)
    rw [e8] at h7
    exact h7 u f hK hrr es hf
  · have e8 : rep ls a (i + 1) p = ((rep ls a i p).1 + 1, upN (rep ls a i p).2 (rep ls a i p).1 (ls (4 * a + i))) := by
      rw [e9]
      exact if_pos (by omega)
    rw [ex_gR e (v0 := some rv) rfl, ex_aL e2, on_le (by omega) (by omega)]
    refine ⟨fun h7 => absurd h7 (by omega), fun _ => ?_⟩
    rw [ex_gR e (v0 := some rs) rfl, ex_gR e (v0 := some rv) rfl, ex_aI e2 (on_in (by omega) (by omega)), on_nat (by omega), (p2 _ (by omega)).2, ex_sI es (by decide) (on_in (by omega) (by omega)), on_nat (by omega), on_succ]
    have h7 := ih (by omega)
    rw [e8] at h7
    refine h7 _ _ (hK.tr (Keep.setI es rfl)) ((hset_ne hrs).trans hrr) hset_same (fun j hj => ?_)
    have hj2 : j < (rep ls a i p).1 + 1 := hj
    show upd f (rep ls a i p).1 (Int32.ofNat (ls (4 * a + i))) j = Int32.ofNat (upN (rep ls a i p).2 (rep ls a i p).1 (ls (4 * a + i)) j)
    by_cases h6 : j = (rep ls a i p).1
    · rw [h6, pk_us, un_s]
    · rw [pk_un h6, un_n h6]
      exact hf j (by omega)
theorem g_grow {Q : Int32 → PH → Prop} (hR : Rp ph rp rl rv rr rs ln ls) (h : ∀ (ph' : PH) (f : Nat → Int32), Keep TX ph ph' → ph' rr = some (228, .inr (.int, 200, .inl f)) → (∀ j : Nat, j < (gro ln ls 12 (1, fun _ => 0)).1 → f j = Int32.ofNat ((gro ln ls 12 (1, fun _ => 0)).2 j)) → Q (Int32.ofNat (gro ln ls 12 (1, fun _ => 0)).1) ph') : w_X7_grow rp ph Q X := by
  have hl : ∀ i : Nat, i < 12 → ls i < 3 := by
    obtain ⟨-, -, ⟨f2, e2, p2⟩, -, -⟩ := hR
    exact fun i hi => (p2 i hi).1
  have hn : ∀ a : Nat, a < 3 → ln a ≤ 4 := by
    obtain ⟨-, ⟨f1, e1, p1⟩, -, -, -⟩ := hR
    exact fun a ha => (p1 a ha).1
  obtain ⟨e, -, -, ⟨f3, e3⟩, ⟨f4, e4⟩⟩ := id hR
  have hrs : rr ≠ rs := tag_ne e3 e4 (by decide)
  unfold w_X7_grow
  rw [ex_gR e (v0 := some rr) rfl]
  refine g_fill e3 (by decide) (by decide) (fun f0 hf0 => ?_)
  refine ⟨13, (upto0 (n := 12) (P := fun fu t => ∀ (u : PH) (f : Nat → Int32) (p : Nat × (Nat → Nat)), Keep TX ph u → u rr = some (228, .inr (.int, 200, .inl f)) → Pm p → (∀ j : Nat, j < p.1 → f j = Int32.ofNat (p.2 j)) → gro ln ls (12 - t) p = gro ln ls 12 (1, fun _ => 0) → w_X7_grow_12 Q X fu (some rp) (Int32.ofNat p.1) (Int32.ofNat t) u) fun fu t ht ih => ?_) _ f0 (1, fun _ => 0) (Keep.setI e3 rfl) hset_same ⟨by decide, fun j _ => (by decide : 0 < 3)⟩ (fun j hj => hf0 j (by have hj2 : j < 1 := hj; omega)) rfl⟩
  intro u f p hK er hpm hf hgo
  have hpm1 := hpm.1
  unfold w_X7_grow_12
  rw [show (12 : Int32) = Int32.ofNat 12 from rfl, on_le (by omega) (by omega), show (200 : Int32) = Int32.ofNat 200 from rfl, on_le (by omega) (by omega)]
  have fin : gro ln ls (12 - t) p = p → Q (Int32.ofNat p.1) u := by
    intro h9
    have h8 : p = gro ln ls 12 (1, fun _ => 0) := h9.symm.trans hgo
    have h7 := h u f hK er
    rw [← h8] at h7
    exact h7 hf
  refine ⟨fun h9 => fin (by rw [show 12 - t = 0 by omega]; rfl), fun h9 => ⟨fun h8 => fin ?_, fun h8 => ?_⟩⟩
  · rw [show 12 - t = (12 - (t + 1)) + 1 by omega]
    exact if_neg (by omega)
  have hgo2 : gro ln ls (12 - (t + 1)) (gin ln ls p.2 p.1) = gro ln ls 12 (1, fun _ => 0) := by
    rw [← hgo, show 12 - t = (12 - (t + 1)) + 1 by omega]
    exact (if_pos (by omega)).symm
  obtain ⟨e, -, -, -, ⟨f5, e5⟩⟩ := id (hR.keep hK rfl rfl)
  refine ⟨p.1 + 1, (upto0 (n := p.1) (P := fun fu2 i => ∀ (u : PH) (fs : Nat → Int32), Keep TX ph u → u rr = some (228, .inr (.int, 200, .inl f)) → u rs = some (229, .inr (.int, 200, .inl fs)) → (∀ j : Nat, j < (gin ln ls p.2 i).1 → fs j = Int32.ofNat ((gin ln ls p.2 i).2 j)) → w_X7_grow_30 Q X (fun x0 x1 x2 ph => w_X7_grow_12 Q X fu x0 x1 x2 ph) fu2 (some rp) (Int32.ofNat p.1) (Int32.ofNat t) (Int32.ofNat (gin ln ls p.2 i).1) (Int32.ofNat i) u) fun fu2 i hi ihi => ?_) u f5 hK er e5 (fun j hj => absurd hj (Nat.not_lt_zero j))⟩
  intro u fs hK er es hfs
  have R1 := hR.keep hK rfl rfl
  have e := R1.1
  have hgi := gin_ok (row := p.2) hl hn i (fun j hj => hpm.2 j (by omega))
  unfold w_X7_grow_30
  rw [on_le (by omega) (by omega)]
  have copy : i = p.1 → ∃ fu68 : Nat, w_X7_grow_68 Q X (fun x0 x1 x2 ph => w_X7_grow_12 Q X fu x0 x1 x2 ph) fu68 (some rp) (Int32.ofNat t) (Int32.ofNat (gin ln ls p.2 i).1) (0 : Int32) u := by
    intro hip
    subst hip
    refine ⟨201, (upto0 (n := 200) (P := fun fu3 j => ∀ (u : PH) (f : Nat → Int32), Keep TX ph u → u rr = some (228, .inr (.int, 200, .inl f)) → u rs = some (229, .inr (.int, 200, .inl fs)) → (∀ k : Nat, k < j → f k = fs k) → w_X7_grow_68 Q X (fun x0 x1 x2 ph => w_X7_grow_12 Q X fu x0 x1 x2 ph) fu3 (some rp) (Int32.ofNat t) (Int32.ofNat (gin ln ls p.2 p.1).1) (Int32.ofNat j) u) fun fu3 j hj ihj => ?_) u f hK er es (fun k hk => by omega)⟩
    intro u f hK er es hcp
    have e : u rp = some (108, .inl (8, [.ref rl, .ref rv, .ref rr, .ref rs])) := hK.obj hR.1
    unfold w_X7_grow_68
    rw [ex_gR e (v0 := some rr) rfl, ex_aL er, on_le (by omega) (by omega)]
    have go : 200 ≤ j → w_X7_grow_12 Q X fu (some rp) (Int32.ofNat (gin ln ls p.2 p.1).1) (Int32.ofNat t + 1) u := by
      intro h7
      rw [on_succ]
      exact ih (by omega) u f _ hK er hgi (fun k hk => by
        rw [hcp k (by have := hgi.1; omega)]
        exact hfs k hk) hgo2
    refine ⟨go, fun h7 => ?_⟩
    rw [ex_gR e (v0 := some rs) rfl, ex_aL es, on_le (by omega) (by omega)]
    refine ⟨go, fun _ => ?_⟩
    rw [ex_gR e (v0 := some rr) rfl, ex_gR e (v0 := some rs) rfl, ex_aI es (on_in (by omega) (by omega)), on_nat (by omega), ex_sI er (by decide) (on_in (by omega) (by omega)), on_nat (by omega), on_succ]
    refine ihj (by omega) _ _ (hK.tr (Keep.setI er rfl)) hset_same (hset_at hrs.symm es) (fun k hk => ?_)
    by_cases h6 : k = j
    · rw [h6, pk_us]
    · rw [pk_un h6]
      exact hcp k (by omega)
  refine ⟨fun h7 => copy (by omega), fun h7 => ?_⟩
  rw [ex_gR e (v0 := some rr) rfl, ex_aL er, on_le (by omega) (by omega)]
  refine ⟨fun h6 => absurd h6 (by omega), fun _ => ?_⟩
  rw [ex_gR e (v0 := some rr) rfl, ex_aI er (on_in (by omega) (by omega)), on_nat (by omega), hf i (by omega), ex_isO e]
  refine g_replace (hpm.2 i (by omega)) R1 hgi es hfs (fun u2 fs2 k2 er2 es2 hfs2 => ?_)
  rw [on_succ]
  exact ihi (by omega) u2 fs2 (hK.tr k2) (er2.trans er) es2 hfs2
theorem g_wordAt {len s : Nat} {row : Nat → Nat} {f : Nat → Int32} {Q : Int32 → PH → Prop} (hs : s + len ≤ 200) (hR : Rp ph rp rl rv rr rs ln ls) (er : ph rr = some (228, .inr (.int, 200, .inl f))) (hf : ∀ j : Nat, j < s + len → f j = Int32.ofNat (row j)) (h : Q (wdF row s len) ph) : w_X7_wordAt rp (Int32.ofNat s) (Int32.ofNat len) ph Q X := by
  have e := hR.1
  unfold w_X7_wordAt
  have key := upto0 (n := len) (P := fun fu i => w_X7_wordAt_5 Q X fu (some rp) (Int32.ofNat s) (Int32.ofNat len) (wdF row s i) (Int32.ofNat (s + i)) ph) (fun fu i hi ih => by
    unfold w_X7_wordAt_5
    rw [on_add, on_le (by omega) (by omega)]
    refine ⟨fun h9 => ?_, fun h9 => ⟨fun h8 => absurd h8 (on_neg (by omega)), fun _ => ?_⟩⟩
    · rw [show i = len by omega]
      exact h
    rw [ex_gR e (v0 := some rr) rfl, ex_aL er, on_le (by omega) (by omega)]
    refine ⟨fun h8 => absurd h8 (by omega), fun _ => ?_⟩
    rw [ex_gR e (v0 := some rr) rfl, ex_aI er (on_in (by omega) (by omega)), on_nat (by omega), hf _ (by omega)]
    intro v hv
    subst hv
    rw [on_succ]
    exact ih (by omega))
  exact ⟨len + 1, key⟩
theorem g_isFound {c : Nat} {w : Int32} {f : Nat → Int32} {Q : Int32 → PH → Prop} (hc : c ≤ 200) (hR : Rp ph rp rl rv rr rs ln ls) (es : ph rs = some (229, .inr (.int, 200, .inl f))) (h1 : (∃ i : Nat, i < c ∧ f i = w) → Q 1 ph) (h0 : (∀ i : Nat, i < c → ¬ f i = w) → Q 0 ph) : w_X7_isFound rp w (Int32.ofNat c) ph Q X := by
  have e := hR.1
  unfold w_X7_isFound
  refine ⟨c + 1, (upto0 (P := fun fu i => (∀ j : Nat, j < i → ¬ f j = w) → w_X7_isFound_2 Q X fu (some rp) w (Int32.ofNat c) (Int32.ofNat i) ph) fun fu i hi ih => ?_) (fun j hj => by omega)⟩
  intro hno
  unfold w_X7_isFound_2
  rw [on_le (by omega) (by omega)]
  refine ⟨fun h9 => ⟨rfl, h0 fun j hj => hno j (by omega)⟩, fun h9 => ?_⟩
  rw [ex_gR e (v0 := some rs) rfl, ex_aL es, on_le (by omega) (by omega)]
  refine ⟨fun h8 => absurd h8 (by omega), fun _ => ?_⟩
  rw [ex_gR e (v0 := some rs) rfl, ex_aI es (on_in (by omega) (by omega)), on_nat (by omega), on_succ]
  refine ⟨fun h8 => ih (by omega) (fun j hj => ?_), fun h8 => ⟨rfl, h1 ⟨i, by omega, h8⟩⟩⟩
  by_cases h7 : j = i
  · rw [h7]
    exact h8
  · exact hno j (by omega)
theorem fndW_iff {ws : Nat → Int32} {w : Int32} : ∀ n : Nat, fndW ws w n = true ↔ ∃ i : Nat, i < n ∧ ws i = w := by
  intro n
  induction n with
  | zero => exact ⟨fun h => absurd (show false = true from h) (by decide), fun ⟨i, hi, _⟩ => absurd hi (Nat.not_lt_zero i)⟩
  | succ n ih =>
    show (fndW ws w n || decide (ws n = w)) = true ↔ _
    rw [Bool.or_eq_true, ih, decide_eq_true_iff]
    constructor
    · rintro (⟨i, hi, h⟩ | h)
      · exact ⟨i, by omega, h⟩
      · exact ⟨n, by omega, h⟩
    · rintro ⟨i, hi, h⟩
      by_cases h9 : i = n
      · rw [h9] at h
        exact Or.inr h
      · exact Or.inl ⟨i, by omega, h⟩
theorem g_countUnlike {Q : Int32 → PH → Prop} (hR : Rp ph rp rl rv rr rs ln ls) (h : ∀ ph' : PH, Keep TX ph ph' → Q (Int32.ofNat (cxF ln ls)) ph') : w_X7_countUnlike rp (3 : Int32) ph Q X := by
  have hl : ∀ i : Nat, i < 12 → ls i < 3 := by
    obtain ⟨-, -, ⟨f2, e2, p2⟩, -, -⟩ := hR
    exact fun i hi => (p2 i hi).1
  have hn : ∀ a : Nat, a < 3 → ln a ≤ 4 := by
    obtain ⟨-, ⟨f1, e1, p1⟩, -, -, -⟩ := hR
    exact fun a ha => (p1 a ha).1
  have hgro := gro_ok hl hn 12 (1, fun _ => 0) ⟨by decide, fun j _ => (by decide : 0 < 3)⟩
  unfold w_X7_countUnlike
  rw [ex_isO hR.1]
  refine g_grow hR (fun u f hK er hf => ?_)
  unfold cxF at h
  generalize gro ln ls 12 (1, fun _ => 0) = p at hgro hf h ⊢
  have hp1 := hgro.1
  obtain ⟨-, -, -, -, ⟨f5, e5⟩⟩ := id (hR.keep hK rfl rfl)
  have hrs : rr ≠ rs := tag_ne er e5 (by decide)
  rw [show (3 : Int32) = Int32.ofNat 3 from rfl]
  refine ⟨p.1 + 1 - 3 + 1, (upto0 (n := p.1 + 1 - 3) (P := fun fu s => ∀ (u : PH) (fs : Nat → Int32), Keep TX ph u → u rr = some (228, .inr (.int, 200, .inl f)) → u rs = some (229, .inr (.int, 200, .inl fs)) → (∀ j : Nat, j < (cuF p.2 3 s).1 → fs j = (cuF p.2 3 s).2 j) → w_X7_countUnlike_10 Q X fu (some rp) (Int32.ofNat 3) (Int32.ofNat p.1) (Int32.ofNat (cuF p.2 3 s).1) (Int32.ofNat s) u) fun fu s hs ih => ?_) u f5 hK er e5 (fun j hj => absurd hj (Nat.not_lt_zero j))⟩
  intro u fs hK er es hfs
  have R1 := hR.keep hK rfl rfl
  have e := R1.1
  have hcs := cuF_le (row := p.2) (len := 3) s
  unfold w_X7_countUnlike_10
  rw [on_add, on_lt (by omega) (by omega)]
  refine ⟨fun h9 => ?_, fun h9 => ?_⟩
  · rw [show s = p.1 + 1 - 3 by omega]
    exact h u hK
  rw [ex_isO e]
  refine g_wordAt (by omega) R1 er (fun j hj => hf j (by omega)) ?_
  rw [ex_isO e, on_succ]
  have e9 : cuF p.2 3 (s + 1) = if fndW (cuF p.2 3 s).2 (wdF p.2 s 3) (cuF p.2 3 s).1 = true then cuF p.2 3 s else ((cuF p.2 3 s).1 + 1, upd (cuF p.2 3 s).2 (cuF p.2 3 s).1 (wdF p.2 s 3)) := rfl
  refine g_isFound (by omega) R1 es (fun hex => ⟨fun _ => ?_, fun h8 => absurd h8 (by decide)⟩) (fun hno => ⟨fun h8 => absurd rfl h8, fun _ => ?_⟩)
  · have e8 : cuF p.2 3 (s + 1) = cuF p.2 3 s := by
      rw [e9, if_pos]
      obtain ⟨i, hi, h7⟩ := hex
      exact (fndW_iff _).mpr ⟨i, hi, (hfs i hi).symm.trans h7⟩
    have h7 := ih (by omega)
    rw [e8] at h7
    exact h7 u fs hK er es hfs
  · have e8 : cuF p.2 3 (s + 1) = ((cuF p.2 3 s).1 + 1, upd (cuF p.2 3 s).2 (cuF p.2 3 s).1 (wdF p.2 s 3)) := by
      rw [e9, if_neg]
      intro h7
      obtain ⟨i, hi, h6⟩ := (fndW_iff _).mp h7
      exact hno i hi ((hfs i hi).trans h6)
    rw [ex_gR e (v0 := some rs) rfl, ex_aL es, on_le (by omega) (by omega)]
    refine ⟨fun h7 => absurd h7 (by omega), fun _ => ?_⟩
    rw [ex_gR e (v0 := some rs) rfl, ex_sI es (by decide) (on_in (by omega) (by omega)), on_nat (by omega), on_succ]
    have h7 := ih (by omega)
    rw [e8] at h7
    refine h7 _ _ (hK.tr (Keep.setI es rfl)) (hset_at hrs er) hset_same (fun j hj => ?_)
    have hj2 : j < (cuF p.2 3 s).1 + 1 := hj
    show upd fs (cuF p.2 3 s).1 (wdF p.2 s 3) j = upd (cuF p.2 3 s).2 (cuF p.2 3 s).1 (wdF p.2 s 3) j
    by_cases h6 : j = (cuF p.2 3 s).1
    · rw [h6, pk_us, pk_us]
    · rw [pk_un h6, pk_un h6]
      exact hfs j (by omega)
end REPL
