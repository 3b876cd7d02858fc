theorem tc_386 : Cond.classLink RL 147 "java/lang/IndexOutOfBoundsException" ∈ TBg := tbg (i := 386) (by decide +kernel) rfl
theorem tc_577 : Cond.castable "java/lang/IndexOutOfBoundsException" "java/lang/IndexOutOfBoundsException" ∈ TBg := tbg (i := 577) (by decide +kernel) rfl
theorem tc_1298 : Cond.constantLong RL 149 (-1001000) ∈ TBg := tbg (i := 1298) (by decide +kernel) rfl
theorem tc_466 : Cond.classLink RL 151 "java/lang/IllegalArgumentException" ∈ TBg := tbg (i := 466) (by decide +kernel) rfl
theorem tc_491 : Cond.castable "java/lang/IllegalArgumentException" "java/lang/IllegalArgumentException" ∈ TBg := tbg (i := 491) (by decide +kernel) rfl
theorem tc_1299 : Cond.constantLong RL 153 (-1002000) ∈ TBg := tbg (i := 1299) (by decide +kernel) rfl
theorem tc_467 : Cond.classLink RL 155 "java/lang/IllegalStateException" ∈ TBg := tbg (i := 467) (by decide +kernel) rfl
theorem tc_507 : Cond.castable "java/lang/IllegalStateException" "java/lang/IllegalStateException" ∈ TBg := tbg (i := 507) (by decide +kernel) rfl
theorem tc_1300 : Cond.constantLong RL 157 (-1003000) ∈ TBg := tbg (i := 1300) (by decide +kernel) rfl
theorem tc_468 : Cond.classLink RL 159 "java/lang/UnsupportedOperationException" ∈ TBg := tbg (i := 468) (by decide +kernel) rfl
theorem tc_629 : Cond.castable "java/lang/UnsupportedOperationException" "java/lang/UnsupportedOperationException" ∈ TBg := tbg (i := 629) (by decide +kernel) rfl
theorem tc_1301 : Cond.constantLong RL 161 (-1004000) ∈ TBg := tbg (i := 1301) (by decide +kernel) rfl
theorem tc_469 : Cond.classLink RL 163 "java/util/NoSuchElementException" ∈ TBg := tbg (i := 469) (by decide +kernel) rfl
theorem tc_805 : Cond.castable "java/util/NoSuchElementException" "java/util/NoSuchElementException" ∈ TBg := tbg (i := 805) (by decide +kernel) rfl
theorem tc_1302 : Cond.constantLong RL 165 (-1005000) ∈ TBg := tbg (i := 1302) (by decide +kernel) rfl
def chk (pc : Nat) : Bool := decide (fnd pc 147 [] (tableOf HHL) = some 600) && decide (fnd pc 151 [147] (tableOf HHL) = some 606) && decide (fnd pc 155 [147, 151] (tableOf HHL) = some 612) && decide (fnd pc 159 [147, 151, 155] (tableOf HHL) = some 618) && decide (fnd pc 163 [147, 151, 155, 159] (tableOf HHL) = some 624)
theorem r_xcall {C : Cx} {Z : State → Prop} {A : Nat → Prop} {G : GG} {pc : Nat} {lv : List (Nat × Value)} {st : List Value} {k n mc ms : Nat} {R : Room} {Q : Int64 → PH → Prop} (hC : CxOk RL cL_call 8 G A R C) (hT : (xc C).exceptionTable.toList = tableOf HHL) (hAo : Ao (xs C)) (hr : HJ C Z A G 8 cL_call mc ms Q) (hpc : chk pc = true) : ∀ (E : String) (u : PH), xcall Q E u → k ≤ mc → n ≤ ms → RX C Z A G 8 pc lv st u E k n := by
  intro E u hx hk hn
  simp only [chk, Bool.and_eq_true, decide_eq_true_eq] at hpc
  obtain ⟨⟨⟨⟨p0, p1⟩, p2⟩, p3⟩, p4⟩ := hpc
  rcases hx with ⟨rfl, hq⟩ | ⟨rfl, hq⟩ | ⟨rfl, hq⟩ | ⟨rfl, hq⟩ | ⟨rfl, hq⟩
  · exact r_catch hC hT hAo p0 (by decide) tc_386 tc_577 (fun i hi => by cases hi) (fun q => r_astore hC dL_call_600 (by decide) rfl (r_ldc2 hC tc_1298 dL_call_602 (hr _ _ _ _ _ _ dL_call_605 hk hn hq)))
  · exact r_catch hC hT hAo p1 (by decide) tc_466 tc_491 (fun i hi => by
      rcases (show i = 147 by simpa using hi) with rfl
      · exact ⟨by decide, _, tc_386, by decide⟩) (fun q => r_astore hC dL_call_606 (by decide) rfl (r_ldc2 hC tc_1299 dL_call_608 (hr _ _ _ _ _ _ dL_call_611 hk hn hq)))
  · exact r_catch hC hT hAo p2 (by decide) tc_467 tc_507 (fun i hi => by
      rcases (show i = 147 ∨ i = 151 by simpa using hi) with rfl | rfl
      · exact ⟨by decide, _, tc_386, by decide⟩
      · exact ⟨by decide, _, tc_466, by decide⟩) (fun q => r_astore hC dL_call_612 (by decide) rfl (r_ldc2 hC tc_1300 dL_call_614 (hr _ _ _ _ _ _ dL_call_617 hk hn hq)))
  · exact r_catch hC hT hAo p3 (by decide) tc_468 tc_629 (fun i hi => by
      rcases (show i = 147 ∨ i = 151 ∨ i = 155 by simpa using hi) with rfl | rfl | rfl
      · exact ⟨by decide, _, tc_386, by decide⟩
      · exact ⟨by decide, _, tc_466, by decide⟩
      · exact ⟨by decide, _, tc_467, by decide⟩) (fun q => r_astore hC dL_call_618 (by decide) rfl (r_ldc2 hC tc_1301 dL_call_620 (hr _ _ _ _ _ _ dL_call_623 hk hn hq)))
  · exact r_catch hC hT hAo p4 (by decide) tc_469 tc_805 (fun i hi => by
      rcases (show i = 147 ∨ i = 151 ∨ i = 155 ∨ i = 159 by simpa using hi) with rfl | rfl | rfl | rfl
      · exact ⟨by decide, _, tc_386, by decide⟩
      · exact ⟨by decide, _, tc_466, by decide⟩
      · exact ⟨by decide, _, tc_467, by decide⟩
      · exact ⟨by decide, _, tc_468, by decide⟩) (fun q => r_astore hC dL_call_624 (by decide) rfl (r_ldc2 hC tc_1302 dL_call_626 (hr _ _ _ _ _ _ dL_call_629 hk hn hq)))
