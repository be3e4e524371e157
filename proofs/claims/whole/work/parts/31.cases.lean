/-! 31.cases: one step of the law -/
theorem lb_ir (x : Int32) : tl_ir x.toInt := ⟨by have := Int32.le_toInt x; omega, by have := Int32.toInt_lt x; omega⟩
theorem lb_irl (l : List Int32) : ∀ x ∈ l.map Int32.toInt, tl_ir x := by
  intro x hx
  obtain ⟨y, -, rfl⟩ := List.mem_map.mp hx
  exact lb_ir y
theorem lb_mk (R : tl_R) : Int32.ofInt (tm_mv R).2 = tw_k R := by
  rcases R with (_ | x) | k
  · rfl
  · rfl
  · exact tl_nI k
def lb_ad (pc j : Nat) : Prop := decode code pc = .ok (.aload_n 0, 1) ∧ decode code (pc + 1) = .ok (.iload 4, 2) ∧ decode code (pc + 3) = .ok (.iconst (j : Int), 1) ∧ decode code (pc + 4) = .ok (.iadd, 1) ∧ decode code (pc + 5) = .ok (.iaload, 1)
def lb_td (pc : Nat) : Prop := (decode code pc = .ok (.aload_n 2, 1) ∧ decode code (pc + 1) = .ok (.invokevirtual 46, 3) ∧ decode code (pc + 4) = .ok (.iload 5, 2) ∧ decode code (pc + 6) = .ok (.if_icmp .eq 5, 3) ∧ decode code (pc + 11) = .ok (.iload 5, 2) ∧ decode code (pc + 13) = .ok (.ifCond .ne 15, 3)) ∧
  (decode code (pc + 16) = .ok (.aload_n 3, 1) ∧ decode code (pc + 17) = .ok (.iconst 0, 1) ∧ decode code (pc + 18) = .ok (.laload, 1) ∧ decode code (pc + 19) = .ok (.iload 6, 2) ∧ decode code (pc + 21) = .ok (.i2l, 1) ∧ decode code (pc + 22) = .ok (.lcmp, 1) ∧ decode code (pc + 23) = .ok (.ifCond .eq 5, 3))
theorem lb_lk46 : Cond.methodLink "TieredLocksLaw" 46 (tb_nm 1) ∈ lw_gt := List.mem_filter.mpr ⟨List.mem_of_getElem? (i := 390) rfl, rfl⟩
theorem lb_ini : Cond.initialized "TieredLocksLaw" ∈ lw_gt := List.mem_filter.mpr ⟨List.mem_of_getElem? (i := 34) rfl, rfl⟩
theorem lb_oLock (σ : tm_S) (t r m : Int) : (∃ x, (tm_oLock σ t r m).1 = .inl (some x)) ∨ (tm_oLock σ t r m).1 = .inr 1 ∨ (tm_oLock σ t r m).1 = .inr 2 ∨ (tm_oLock σ t r m).1 = .inr 3 := by
  unfold tm_oLock
  split
  · exact Or.inr (Or.inl rfl)
  · split
    · exact Or.inr (Or.inr (Or.inl rfl))
    · split
      · exact Or.inr (Or.inr (Or.inr rfl))
      · exact Or.inl ⟨_, rfl⟩
theorem lb_oUnlock (σ : tm_S) (t r : Int) : (tm_oUnlock σ t r).1 = .inl none ∨ ∃ k, (tm_oUnlock σ t r).1 = .inr k := by
  unfold tm_oUnlock
  split
  · exact Or.inr ⟨_, rfl⟩
  · split
    · exact Or.inr ⟨_, rfl⟩
    · split
      · exact Or.inr ⟨_, rfl⟩
      · exact Or.inl rfl
theorem lb_oEsc (σ : tm_S) (t r : Int) : (∃ x, (tm_oEsc σ t r).1 = .inl (some x)) ∨ (tm_oEsc σ t r).1 = .inr 1 ∨ (tm_oEsc σ t r).1 = .inr 2 := by
  unfold tm_oEsc
  split
  · exact Or.inr (Or.inl rfl)
  · split
    · exact Or.inr (Or.inr rfl)
    · split
      · exact Or.inl ⟨_, rfl⟩
      · split
        · exact Or.inl ⟨_, rfl⟩
        · exact Or.inl ⟨_, rfl⟩
theorem lb_oEnd (σ : tm_S) (t : Int) : (∃ x, (tm_oEnd σ t).1 = .inl (some x)) ∨ (tm_oEnd σ t).1 = .inr 1 ∨ (tm_oEnd σ t).1 = .inr 2 := by
  unfold tm_oEnd
  split
  · exact Or.inr (Or.inl rfl)
  · split
    · exact Or.inr (Or.inr rfl)
    · exact Or.inl ⟨_, rfl⟩
theorem lb_n0 {R : tl_R} (h : (∃ x, R = .inl (some x)) ∨ R = .inr 1 ∨ R = .inr 2 ∨ R = .inr 3) : R ≠ .inl none := by
  rcases h with ⟨x, rfl⟩ | rfl | rfl | rfl <;> exact fun h => nomatch h
theorem lb_n3 {R : tl_R} (h : (∃ x, R = .inl (some x)) ∨ R = .inr 1 ∨ R = .inr 2) : R ≠ .inr 3 := by
  rcases h with ⟨x, rfl⟩ | rfl | rfl
  · exact fun h => nomatch h
  · exact fun h => by cases h
  · exact fun h => by cases h
theorem lb_34 {R : tl_R} (h : (∃ x, R = .inl (some x)) ∨ R = .inr 1 ∨ R = .inr 2) : (∃ x, R = .inl (some x)) ∨ R = .inr 1 ∨ R = .inr 2 ∨ R = .inr 3 := h.elim Or.inl (fun h => Or.inr (h.elim Or.inl (fun h => Or.inr (Or.inl h))))
set_option maxRecDepth 100000 in
theorem lb_ta1_0 : Cond.methodLink "TieredLocksLaw" 35 (ta_nm 1) ∈ lw_gt := List.mem_filter.mpr ⟨List.mem_of_getElem? (i := 66) rfl, rfl⟩
set_option maxRecDepth 100000 in
theorem lb_ta1_1 : Cond.instanceMethod (ta_nm 1) ∈ lw_gt := List.mem_filter.mpr ⟨List.mem_of_getElem? (i := 67) rfl, rfl⟩
set_option maxRecDepth 100000 in
theorem lb_ta1_2 : Cond.selects "TieredLocks" (ta_nm 1) (ta_nm 1) ∈ lw_gt := List.mem_filter.mpr ⟨List.mem_of_getElem? (i := 68) rfl, rfl⟩
set_option maxRecDepth 100000 in
theorem lb_ta6_0 : Cond.methodLink "TieredLocksLaw" 61 (ta_nm 6) ∈ lw_gt := List.mem_filter.mpr ⟨List.mem_of_getElem? (i := 70) rfl, rfl⟩
set_option maxRecDepth 100000 in
theorem lb_ta6_1 : Cond.instanceMethod (ta_nm 6) ∈ lw_gt := List.mem_filter.mpr ⟨List.mem_of_getElem? (i := 71) rfl, rfl⟩
set_option maxRecDepth 100000 in
theorem lb_ta6_2 : Cond.selects "TieredLocks" (ta_nm 6) (ta_nm 6) ∈ lw_gt := List.mem_filter.mpr ⟨List.mem_of_getElem? (i := 72) rfl, rfl⟩
set_option maxRecDepth 100000 in
theorem lb_ta7_0 : Cond.methodLink "TieredLocksLaw" 65 (ta_nm 7) ∈ lw_gt := List.mem_filter.mpr ⟨List.mem_of_getElem? (i := 84) rfl, rfl⟩
set_option maxRecDepth 100000 in
theorem lb_ta7_1 : Cond.instanceMethod (ta_nm 7) ∈ lw_gt := List.mem_filter.mpr ⟨List.mem_of_getElem? (i := 85) rfl, rfl⟩
set_option maxRecDepth 100000 in
theorem lb_ta7_2 : Cond.selects "TieredLocks" (ta_nm 7) (ta_nm 7) ∈ lw_gt := List.mem_filter.mpr ⟨List.mem_of_getElem? (i := 86) rfl, rfl⟩
set_option maxRecDepth 100000 in
theorem lb_ta8_0 : Cond.methodLink "TieredLocksLaw" 69 (ta_nm 8) ∈ lw_gt := List.mem_filter.mpr ⟨List.mem_of_getElem? (i := 88) rfl, rfl⟩
set_option maxRecDepth 100000 in
theorem lb_ta8_1 : Cond.instanceMethod (ta_nm 8) ∈ lw_gt := List.mem_filter.mpr ⟨List.mem_of_getElem? (i := 89) rfl, rfl⟩
set_option maxRecDepth 100000 in
theorem lb_ta8_2 : Cond.selects "TieredLocks" (ta_nm 8) (ta_nm 8) ∈ lw_gt := List.mem_filter.mpr ⟨List.mem_of_getElem? (i := 90) rfl, rfl⟩
set_option maxRecDepth 100000 in
theorem lb_ta9_0 : Cond.methodLink "TieredLocksLaw" 73 (ta_nm 9) ∈ lw_gt := List.mem_filter.mpr ⟨List.mem_of_getElem? (i := 92) rfl, rfl⟩
set_option maxRecDepth 100000 in
theorem lb_ta9_1 : Cond.instanceMethod (ta_nm 9) ∈ lw_gt := List.mem_filter.mpr ⟨List.mem_of_getElem? (i := 93) rfl, rfl⟩
set_option maxRecDepth 100000 in
theorem lb_ta9_2 : Cond.selects "TieredLocks" (ta_nm 9) (ta_nm 9) ∈ lw_gt := List.mem_filter.mpr ⟨List.mem_of_getElem? (i := 94) rfl, rfl⟩
set_option maxRecDepth 100000 in
theorem lb_ta10_0 : Cond.methodLink "TieredLocksLaw" 77 (ta_nm 10) ∈ lw_gt := List.mem_filter.mpr ⟨List.mem_of_getElem? (i := 104) rfl, rfl⟩
set_option maxRecDepth 100000 in
theorem lb_ta10_1 : Cond.instanceMethod (ta_nm 10) ∈ lw_gt := List.mem_filter.mpr ⟨List.mem_of_getElem? (i := 105) rfl, rfl⟩
set_option maxRecDepth 100000 in
theorem lb_ta10_2 : Cond.selects "TieredLocks" (ta_nm 10) (ta_nm 10) ∈ lw_gt := List.mem_filter.mpr ⟨List.mem_of_getElem? (i := 106) rfl, rfl⟩
set_option maxRecDepth 100000 in
theorem lb_ta11_0 : Cond.methodLink "TieredLocksLaw" 81 (ta_nm 11) ∈ lw_gt := List.mem_filter.mpr ⟨List.mem_of_getElem? (i := 121) rfl, rfl⟩
set_option maxRecDepth 100000 in
theorem lb_ta11_1 : Cond.instanceMethod (ta_nm 11) ∈ lw_gt := List.mem_filter.mpr ⟨List.mem_of_getElem? (i := 122) rfl, rfl⟩
set_option maxRecDepth 100000 in
theorem lb_ta11_2 : Cond.selects "TieredLocks" (ta_nm 11) (ta_nm 11) ∈ lw_gt := List.mem_filter.mpr ⟨List.mem_of_getElem? (i := 123) rfl, rfl⟩
set_option maxRecDepth 100000 in
theorem lb_ta12_0 : Cond.methodLink "TieredLocksLaw" 85 (ta_nm 12) ∈ lw_gt := List.mem_filter.mpr ⟨List.mem_of_getElem? (i := 141) rfl, rfl⟩
set_option maxRecDepth 100000 in
theorem lb_ta12_1 : Cond.instanceMethod (ta_nm 12) ∈ lw_gt := List.mem_filter.mpr ⟨List.mem_of_getElem? (i := 142) rfl, rfl⟩
set_option maxRecDepth 100000 in
theorem lb_ta12_2 : Cond.selects "TieredLocks" (ta_nm 12) (ta_nm 12) ∈ lw_gt := List.mem_filter.mpr ⟨List.mem_of_getElem? (i := 143) rfl, rfl⟩
set_option maxRecDepth 100000 in
theorem lb_tb16_0 : Cond.methodLink "TieredLocksLaw" 39 (tb_nm 16) ∈ lw_gt := List.mem_filter.mpr ⟨List.mem_of_getElem? (i := 394) rfl, rfl⟩
set_option maxRecDepth 100000 in
theorem lb_tb16_1 : Cond.instanceMethod (tb_nm 16) ∈ lw_gt := List.mem_filter.mpr ⟨List.mem_of_getElem? (i := 395) rfl, rfl⟩
set_option maxRecDepth 100000 in
theorem lb_tb16_2 : Cond.selects "TieredLocksModel" (tb_nm 16) (tb_nm 16) ∈ lw_gt := List.mem_filter.mpr ⟨List.mem_of_getElem? (i := 396) rfl, rfl⟩
set_option maxRecDepth 100000 in
theorem lb_tb19_0 : Cond.methodLink "TieredLocksLaw" 45 (tb_nm 19) ∈ lw_gt := List.mem_filter.mpr ⟨List.mem_of_getElem? (i := 398) rfl, rfl⟩
set_option maxRecDepth 100000 in
theorem lb_tb19_1 : Cond.instanceMethod (tb_nm 19) ∈ lw_gt := List.mem_filter.mpr ⟨List.mem_of_getElem? (i := 399) rfl, rfl⟩
set_option maxRecDepth 100000 in
theorem lb_tb19_2 : Cond.selects "TieredLocksModel" (tb_nm 19) (tb_nm 19) ∈ lw_gt := List.mem_filter.mpr ⟨List.mem_of_getElem? (i := 400) rfl, rfl⟩
set_option maxRecDepth 100000 in
theorem lb_tb20_0 : Cond.methodLink "TieredLocksLaw" 52 (tb_nm 20) ∈ lw_gt := List.mem_filter.mpr ⟨List.mem_of_getElem? (i := 452) rfl, rfl⟩
set_option maxRecDepth 100000 in
theorem lb_tb20_1 : Cond.instanceMethod (tb_nm 20) ∈ lw_gt := List.mem_filter.mpr ⟨List.mem_of_getElem? (i := 453) rfl, rfl⟩
set_option maxRecDepth 100000 in
theorem lb_tb20_2 : Cond.selects "TieredLocksModel" (tb_nm 20) (tb_nm 20) ∈ lw_gt := List.mem_filter.mpr ⟨List.mem_of_getElem? (i := 454) rfl, rfl⟩
set_option maxRecDepth 100000 in
theorem lb_tb21_0 : Cond.methodLink "TieredLocksLaw" 56 (tb_nm 21) ∈ lw_gt := List.mem_filter.mpr ⟨List.mem_of_getElem? (i := 460) rfl, rfl⟩
set_option maxRecDepth 100000 in
theorem lb_tb21_1 : Cond.instanceMethod (tb_nm 21) ∈ lw_gt := List.mem_filter.mpr ⟨List.mem_of_getElem? (i := 461) rfl, rfl⟩
set_option maxRecDepth 100000 in
theorem lb_tb21_2 : Cond.selects "TieredLocksModel" (tb_nm 21) (tb_nm 21) ∈ lw_gt := List.mem_filter.mpr ⟨List.mem_of_getElem? (i := 462) rfl, rfl⟩
set_option maxRecDepth 100000 in
theorem lb_tb22_0 : Cond.methodLink "TieredLocksLaw" 60 (tb_nm 22) ∈ lw_gt := List.mem_filter.mpr ⟨List.mem_of_getElem? (i := 467) rfl, rfl⟩
set_option maxRecDepth 100000 in
theorem lb_tb22_1 : Cond.instanceMethod (tb_nm 22) ∈ lw_gt := List.mem_filter.mpr ⟨List.mem_of_getElem? (i := 468) rfl, rfl⟩
set_option maxRecDepth 100000 in
theorem lb_tb22_2 : Cond.selects "TieredLocksModel" (tb_nm 22) (tb_nm 22) ∈ lw_gt := List.mem_filter.mpr ⟨List.mem_of_getElem? (i := 469) rfl, rfl⟩
set_option maxRecDepth 100000 in
theorem lb_tb23_0 : Cond.methodLink "TieredLocksLaw" 64 (tb_nm 23) ∈ lw_gt := List.mem_filter.mpr ⟨List.mem_of_getElem? (i := 471) rfl, rfl⟩
set_option maxRecDepth 100000 in
theorem lb_tb23_1 : Cond.instanceMethod (tb_nm 23) ∈ lw_gt := List.mem_filter.mpr ⟨List.mem_of_getElem? (i := 472) rfl, rfl⟩
set_option maxRecDepth 100000 in
theorem lb_tb23_2 : Cond.selects "TieredLocksModel" (tb_nm 23) (tb_nm 23) ∈ lw_gt := List.mem_filter.mpr ⟨List.mem_of_getElem? (i := 473) rfl, rfl⟩
set_option maxRecDepth 100000 in
theorem lb_tb24_0 : Cond.methodLink "TieredLocksLaw" 68 (tb_nm 24) ∈ lw_gt := List.mem_filter.mpr ⟨List.mem_of_getElem? (i := 475) rfl, rfl⟩
set_option maxRecDepth 100000 in
theorem lb_tb24_1 : Cond.instanceMethod (tb_nm 24) ∈ lw_gt := List.mem_filter.mpr ⟨List.mem_of_getElem? (i := 476) rfl, rfl⟩
set_option maxRecDepth 100000 in
theorem lb_tb24_2 : Cond.selects "TieredLocksModel" (tb_nm 24) (tb_nm 24) ∈ lw_gt := List.mem_filter.mpr ⟨List.mem_of_getElem? (i := 477) rfl, rfl⟩
set_option maxRecDepth 100000 in
theorem lb_tb25_0 : Cond.methodLink "TieredLocksLaw" 72 (tb_nm 25) ∈ lw_gt := List.mem_filter.mpr ⟨List.mem_of_getElem? (i := 479) rfl, rfl⟩
set_option maxRecDepth 100000 in
theorem lb_tb25_1 : Cond.instanceMethod (tb_nm 25) ∈ lw_gt := List.mem_filter.mpr ⟨List.mem_of_getElem? (i := 480) rfl, rfl⟩
set_option maxRecDepth 100000 in
theorem lb_tb25_2 : Cond.selects "TieredLocksModel" (tb_nm 25) (tb_nm 25) ∈ lw_gt := List.mem_filter.mpr ⟨List.mem_of_getElem? (i := 481) rfl, rfl⟩
set_option maxRecDepth 100000 in
theorem lb_tb26_0 : Cond.methodLink "TieredLocksLaw" 76 (tb_nm 26) ∈ lw_gt := List.mem_filter.mpr ⟨List.mem_of_getElem? (i := 483) rfl, rfl⟩
set_option maxRecDepth 100000 in
theorem lb_tb26_1 : Cond.instanceMethod (tb_nm 26) ∈ lw_gt := List.mem_filter.mpr ⟨List.mem_of_getElem? (i := 484) rfl, rfl⟩
set_option maxRecDepth 100000 in
theorem lb_tb26_2 : Cond.selects "TieredLocksModel" (tb_nm 26) (tb_nm 26) ∈ lw_gt := List.mem_filter.mpr ⟨List.mem_of_getElem? (i := 485) rfl, rfl⟩
set_option maxRecDepth 100000 in
theorem lb_tb27_0 : Cond.methodLink "TieredLocksLaw" 80 (tb_nm 27) ∈ lw_gt := List.mem_filter.mpr ⟨List.mem_of_getElem? (i := 487) rfl, rfl⟩
set_option maxRecDepth 100000 in
theorem lb_tb27_1 : Cond.instanceMethod (tb_nm 27) ∈ lw_gt := List.mem_filter.mpr ⟨List.mem_of_getElem? (i := 488) rfl, rfl⟩
set_option maxRecDepth 100000 in
theorem lb_tb27_2 : Cond.selects "TieredLocksModel" (tb_nm 27) (tb_nm 27) ∈ lw_gt := List.mem_filter.mpr ⟨List.mem_of_getElem? (i := 489) rfl, rfl⟩
set_option maxRecDepth 100000 in
theorem lb_tb28_0 : Cond.methodLink "TieredLocksLaw" 84 (tb_nm 28) ∈ lw_gt := List.mem_filter.mpr ⟨List.mem_of_getElem? (i := 491) rfl, rfl⟩
set_option maxRecDepth 100000 in
theorem lb_tb28_1 : Cond.instanceMethod (tb_nm 28) ∈ lw_gt := List.mem_filter.mpr ⟨List.mem_of_getElem? (i := 492) rfl, rfl⟩
set_option maxRecDepth 100000 in
theorem lb_tb28_2 : Cond.selects "TieredLocksModel" (tb_nm 28) (tb_nm 28) ∈ lw_gt := List.mem_filter.mpr ⟨List.mem_of_getElem? (i := 493) rfl, rfl⟩
set_option maxRecDepth 100000 in
theorem lb_tb29_0 : Cond.methodLink "TieredLocksLaw" 88 (tb_nm 29) ∈ lw_gt := List.mem_filter.mpr ⟨List.mem_of_getElem? (i := 495) rfl, rfl⟩
set_option maxRecDepth 100000 in
theorem lb_tb29_1 : Cond.instanceMethod (tb_nm 29) ∈ lw_gt := List.mem_filter.mpr ⟨List.mem_of_getElem? (i := 496) rfl, rfl⟩
set_option maxRecDepth 100000 in
theorem lb_tb29_2 : Cond.selects "TieredLocksModel" (tb_nm 29) (tb_nm 29) ∈ lw_gt := List.mem_filter.mpr ⟨List.mem_of_getElem? (i := 497) rfl, rfl⟩
set_option maxRecDepth 100000 in
theorem lb_tb1_1 : Cond.instanceMethod (tb_nm 1) ∈ lw_gt := List.mem_filter.mpr ⟨List.mem_of_getElem? (i := 391) rfl, rfl⟩
set_option maxRecDepth 100000 in
theorem lb_tb1_2 : Cond.selects "TieredLocksModel" (tb_nm 1) (tb_nm 1) ∈ lw_gt := List.mem_filter.mpr ⟨List.mem_of_getElem? (i := 392) rfl, rfl⟩
set_option maxRecDepth 100000 in
theorem lb_lock_0 : Cond.methodLink "TieredLocksLaw" 40 tw_lock_y ∈ lw_gt := List.mem_filter.mpr ⟨List.mem_of_getElem? (i := 149) rfl, rfl⟩
set_option maxRecDepth 100000 in
theorem lb_lock_1 : Cond.static tw_lock_y ∈ lw_gt := List.mem_filter.mpr ⟨List.mem_of_getElem? (i := 150) rfl, rfl⟩
set_option maxRecDepth 100000 in
theorem lb_lock_2 : Cond.codeWith tw_lock_y method_3_code 6 (some .int) [(0, 12, 15, 13), (0, 12, 19, 15), (0, 12, 23, 17)] ∈ lw_gt := List.mem_filter.mpr ⟨List.mem_of_getElem? (i := 151) rfl, rfl⟩
set_option maxRecDepth 100000 in
theorem lb_unlock_0 : Cond.methodLink "TieredLocksLaw" 49 tw_unlock_y ∈ lw_gt := List.mem_filter.mpr ⟨List.mem_of_getElem? (i := 314) rfl, rfl⟩
set_option maxRecDepth 100000 in
theorem lb_unlock_1 : Cond.static tw_unlock_y ∈ lw_gt := List.mem_filter.mpr ⟨List.mem_of_getElem? (i := 315) rfl, rfl⟩
set_option maxRecDepth 100000 in
theorem lb_unlock_2 : Cond.codeWith tw_unlock_y method_4_code 4 (some .int) [(0, 6, 9, 13), (0, 6, 12, 15), (0, 6, 15, 17)] ∈ lw_gt := List.mem_filter.mpr ⟨List.mem_of_getElem? (i := 316) rfl, rfl⟩
set_option maxRecDepth 100000 in
theorem lb_escalate_0 : Cond.methodLink "TieredLocksLaw" 53 tw_escalate_y ∈ lw_gt := List.mem_filter.mpr ⟨List.mem_of_getElem? (i := 333) rfl, rfl⟩
set_option maxRecDepth 100000 in
theorem lb_escalate_1 : Cond.static tw_escalate_y ∈ lw_gt := List.mem_filter.mpr ⟨List.mem_of_getElem? (i := 334) rfl, rfl⟩
set_option maxRecDepth 100000 in
theorem lb_escalate_2 : Cond.codeWith tw_escalate_y method_5_code 5 (some .int) [(0, 10, 13, 13), (0, 10, 17, 15)] ∈ lw_gt := List.mem_filter.mpr ⟨List.mem_of_getElem? (i := 335) rfl, rfl⟩
set_option maxRecDepth 100000 in
theorem lb_end_0 : Cond.methodLink "TieredLocksLaw" 57 tw_end_y ∈ lw_gt := List.mem_filter.mpr ⟨List.mem_of_getElem? (i := 358) rfl, rfl⟩
set_option maxRecDepth 100000 in
theorem lb_end_1 : Cond.static tw_end_y ∈ lw_gt := List.mem_filter.mpr ⟨List.mem_of_getElem? (i := 359) rfl, rfl⟩
set_option maxRecDepth 100000 in
theorem lb_end_2 : Cond.codeWith tw_end_y method_6_code 4 (some .int) [(0, 9, 12, 13), (0, 9, 15, 15)] ∈ lw_gt := List.mem_filter.mpr ⟨List.mem_of_getElem? (i := 360) rfl, rfl⟩
theorem lb_lc (x : Int64) : lg_cmp x x = 0 := by simp [lg_cmp]
theorem lb_d100 : decode code 100 = .ok (.aload_n 1, 1) := by decide +kernel
theorem lb_d101 : decode code 101 = .ok (.invokevirtual 35, 3) := by decide +kernel
theorem lb_d104 : decode code 104 = .ok (.aload_n 2, 1) := by decide +kernel
theorem lb_d105 : decode code 105 = .ok (.invokevirtual 39, 3) := by decide +kernel
theorem lb_d108 : decode code 108 = .ok (.if_icmp .eq 468, 3) := by decide +kernel
theorem lb_d113 : decode code 113 = .ok (.aload_n 1, 1) := by decide +kernel
theorem lb_a114 : lb_ad 114 1 := ⟨by decide +kernel, by decide +kernel, by decide +kernel, by decide +kernel, by decide +kernel⟩
theorem lb_a120 : lb_ad 120 2 := ⟨by decide +kernel, by decide +kernel, by decide +kernel, by decide +kernel, by decide +kernel⟩
theorem lb_a126 : lb_ad 126 3 := ⟨by decide +kernel, by decide +kernel, by decide +kernel, by decide +kernel, by decide +kernel⟩
theorem lb_d132 : decode code 132 = .ok (.aload_n 3, 1) := by decide +kernel
theorem lb_d133 : decode code 133 = .ok (.invokestatic 40, 3) := by decide +kernel
theorem lb_d136 : decode code 136 = .ok (.istore 5, 2) := by decide +kernel
theorem lb_d138 : decode code 138 = .ok (.aload_n 2, 1) := by decide +kernel
theorem lb_a139 : lb_ad 139 1 := ⟨by decide +kernel, by decide +kernel, by decide +kernel, by decide +kernel, by decide +kernel⟩
theorem lb_a145 : lb_ad 145 2 := ⟨by decide +kernel, by decide +kernel, by decide +kernel, by decide +kernel, by decide +kernel⟩
theorem lb_a151 : lb_ad 151 3 := ⟨by decide +kernel, by decide +kernel, by decide +kernel, by decide +kernel, by decide +kernel⟩
theorem lb_d157 : decode code 157 = .ok (.invokevirtual 45, 3) := by decide +kernel
theorem lb_d160 : decode code 160 = .ok (.istore 6, 2) := by decide +kernel
theorem lb_t162 : lb_td 162 := by refine ⟨⟨?_, ?_, ?_, ?_, ?_, ?_⟩, ?_, ?_, ?_, ?_, ?_, ?_, ?_⟩ <;> decide +kernel
theorem lb_d190 : decode code 190 = .ok (.goto 386, 3) := by decide +kernel
theorem lb_d193 : decode code 193 = .ok (.aload_n 1, 1) := by decide +kernel
theorem lb_a194 : lb_ad 194 1 := ⟨by decide +kernel, by decide +kernel, by decide +kernel, by decide +kernel, by decide +kernel⟩
theorem lb_a200 : lb_ad 200 2 := ⟨by decide +kernel, by decide +kernel, by decide +kernel, by decide +kernel, by decide +kernel⟩
theorem lb_d206 : decode code 206 = .ok (.invokestatic 49, 3) := by decide +kernel
theorem lb_d209 : decode code 209 = .ok (.istore 5, 2) := by decide +kernel
theorem lb_d211 : decode code 211 = .ok (.aload_n 2, 1) := by decide +kernel
theorem lb_a212 : lb_ad 212 1 := ⟨by decide +kernel, by decide +kernel, by decide +kernel, by decide +kernel, by decide +kernel⟩
theorem lb_a218 : lb_ad 218 2 := ⟨by decide +kernel, by decide +kernel, by decide +kernel, by decide +kernel, by decide +kernel⟩
theorem lb_d224 : decode code 224 = .ok (.invokevirtual 52, 3) := by decide +kernel
theorem lb_d227 : decode code 227 = .ok (.aload_n 2, 1) := by decide +kernel
theorem lb_d228 : decode code 228 = .ok (.invokevirtual 46, 3) := by decide +kernel
theorem lb_d231 : decode code 231 = .ok (.iload 5, 2) := by decide +kernel
theorem lb_d233 : decode code 233 = .ok (.if_icmp .eq 5, 3) := by decide +kernel
theorem lb_d238 : decode code 238 = .ok (.goto 338, 3) := by decide +kernel
theorem lb_d241 : decode code 241 = .ok (.aload_n 1, 1) := by decide +kernel
theorem lb_a242 : lb_ad 242 1 := ⟨by decide +kernel, by decide +kernel, by decide +kernel, by decide +kernel, by decide +kernel⟩
theorem lb_a248 : lb_ad 248 2 := ⟨by decide +kernel, by decide +kernel, by decide +kernel, by decide +kernel, by decide +kernel⟩
theorem lb_d254 : decode code 254 = .ok (.aload_n 3, 1) := by decide +kernel
theorem lb_d255 : decode code 255 = .ok (.invokestatic 53, 3) := by decide +kernel
theorem lb_d258 : decode code 258 = .ok (.istore 5, 2) := by decide +kernel
theorem lb_d260 : decode code 260 = .ok (.aload_n 2, 1) := by decide +kernel
theorem lb_a261 : lb_ad 261 1 := ⟨by decide +kernel, by decide +kernel, by decide +kernel, by decide +kernel, by decide +kernel⟩
theorem lb_a267 : lb_ad 267 2 := ⟨by decide +kernel, by decide +kernel, by decide +kernel, by decide +kernel, by decide +kernel⟩
theorem lb_d273 : decode code 273 = .ok (.invokevirtual 56, 3) := by decide +kernel
theorem lb_d276 : decode code 276 = .ok (.istore 6, 2) := by decide +kernel
theorem lb_t278 : lb_td 278 := by refine ⟨⟨?_, ?_, ?_, ?_, ?_, ?_⟩, ?_, ?_, ?_, ?_, ?_, ?_, ?_⟩ <;> decide +kernel
theorem lb_d306 : decode code 306 = .ok (.goto 270, 3) := by decide +kernel
theorem lb_d309 : decode code 309 = .ok (.aload_n 1, 1) := by decide +kernel
theorem lb_a310 : lb_ad 310 1 := ⟨by decide +kernel, by decide +kernel, by decide +kernel, by decide +kernel, by decide +kernel⟩
theorem lb_d316 : decode code 316 = .ok (.aload_n 3, 1) := by decide +kernel
theorem lb_d317 : decode code 317 = .ok (.invokestatic 57, 3) := by decide +kernel
theorem lb_d320 : decode code 320 = .ok (.istore 5, 2) := by decide +kernel
theorem lb_d322 : decode code 322 = .ok (.aload_n 2, 1) := by decide +kernel
theorem lb_a323 : lb_ad 323 1 := ⟨by decide +kernel, by decide +kernel, by decide +kernel, by decide +kernel, by decide +kernel⟩
theorem lb_d329 : decode code 329 = .ok (.invokevirtual 60, 3) := by decide +kernel
theorem lb_d332 : decode code 332 = .ok (.istore 6, 2) := by decide +kernel
theorem lb_t334 : lb_td 334 := by refine ⟨⟨?_, ?_, ?_, ?_, ?_, ?_⟩, ?_, ?_, ?_, ?_, ?_, ?_, ?_⟩ <;> decide +kernel
theorem lb_d362 : decode code 362 = .ok (.goto 214, 3) := by decide +kernel
theorem lb_d365 : decode code 365 = .ok (.aload_n 1, 1) := by decide +kernel
theorem lb_a366 : lb_ad 366 1 := ⟨by decide +kernel, by decide +kernel, by decide +kernel, by decide +kernel, by decide +kernel⟩
theorem lb_a372 : lb_ad 372 2 := ⟨by decide +kernel, by decide +kernel, by decide +kernel, by decide +kernel, by decide +kernel⟩
theorem lb_d378 : decode code 378 = .ok (.invokevirtual 61, 3) := by decide +kernel
theorem lb_d381 : decode code 381 = .ok (.aload_n 2, 1) := by decide +kernel
theorem lb_a382 : lb_ad 382 1 := ⟨by decide +kernel, by decide +kernel, by decide +kernel, by decide +kernel, by decide +kernel⟩
theorem lb_a388 : lb_ad 388 2 := ⟨by decide +kernel, by decide +kernel, by decide +kernel, by decide +kernel, by decide +kernel⟩
theorem lb_d394 : decode code 394 = .ok (.invokevirtual 64, 3) := by decide +kernel
theorem lb_d397 : decode code 397 = .ok (.if_icmp .eq 179, 3) := by decide +kernel
theorem lb_d402 : decode code 402 = .ok (.aload_n 1, 1) := by decide +kernel
theorem lb_a403 : lb_ad 403 1 := ⟨by decide +kernel, by decide +kernel, by decide +kernel, by decide +kernel, by decide +kernel⟩
theorem lb_d409 : decode code 409 = .ok (.invokevirtual 65, 3) := by decide +kernel
theorem lb_d412 : decode code 412 = .ok (.aload_n 2, 1) := by decide +kernel
theorem lb_a413 : lb_ad 413 1 := ⟨by decide +kernel, by decide +kernel, by decide +kernel, by decide +kernel, by decide +kernel⟩
theorem lb_d419 : decode code 419 = .ok (.invokevirtual 68, 3) := by decide +kernel
theorem lb_d422 : decode code 422 = .ok (.if_icmp .eq 154, 3) := by decide +kernel
theorem lb_d427 : decode code 427 = .ok (.aload_n 1, 1) := by decide +kernel
theorem lb_a428 : lb_ad 428 1 := ⟨by decide +kernel, by decide +kernel, by decide +kernel, by decide +kernel, by decide +kernel⟩
theorem lb_d434 : decode code 434 = .ok (.invokevirtual 69, 3) := by decide +kernel
theorem lb_d437 : decode code 437 = .ok (.aload_n 2, 1) := by decide +kernel
theorem lb_a438 : lb_ad 438 1 := ⟨by decide +kernel, by decide +kernel, by decide +kernel, by decide +kernel, by decide +kernel⟩
theorem lb_d444 : decode code 444 = .ok (.invokevirtual 72, 3) := by decide +kernel
theorem lb_d447 : decode code 447 = .ok (.if_icmp .eq 129, 3) := by decide +kernel
theorem lb_d452 : decode code 452 = .ok (.aload_n 1, 1) := by decide +kernel
theorem lb_a453 : lb_ad 453 1 := ⟨by decide +kernel, by decide +kernel, by decide +kernel, by decide +kernel, by decide +kernel⟩
theorem lb_a459 : lb_ad 459 2 := ⟨by decide +kernel, by decide +kernel, by decide +kernel, by decide +kernel, by decide +kernel⟩
theorem lb_d465 : decode code 465 = .ok (.invokevirtual 73, 3) := by decide +kernel
theorem lb_d468 : decode code 468 = .ok (.aload_n 2, 1) := by decide +kernel
theorem lb_a469 : lb_ad 469 1 := ⟨by decide +kernel, by decide +kernel, by decide +kernel, by decide +kernel, by decide +kernel⟩
theorem lb_a475 : lb_ad 475 2 := ⟨by decide +kernel, by decide +kernel, by decide +kernel, by decide +kernel, by decide +kernel⟩
theorem lb_d481 : decode code 481 = .ok (.invokevirtual 76, 3) := by decide +kernel
theorem lb_d484 : decode code 484 = .ok (.if_icmp .eq 92, 3) := by decide +kernel
theorem lb_d489 : decode code 489 = .ok (.aload_n 1, 1) := by decide +kernel
theorem lb_a490 : lb_ad 490 1 := ⟨by decide +kernel, by decide +kernel, by decide +kernel, by decide +kernel, by decide +kernel⟩
theorem lb_d496 : decode code 496 = .ok (.invokevirtual 77, 3) := by decide +kernel
theorem lb_d499 : decode code 499 = .ok (.aload_n 2, 1) := by decide +kernel
theorem lb_a500 : lb_ad 500 1 := ⟨by decide +kernel, by decide +kernel, by decide +kernel, by decide +kernel, by decide +kernel⟩
theorem lb_d506 : decode code 506 = .ok (.invokevirtual 80, 3) := by decide +kernel
theorem lb_d509 : decode code 509 = .ok (.if_icmp .eq 67, 3) := by decide +kernel
theorem lb_d514 : decode code 514 = .ok (.aload_n 1, 1) := by decide +kernel
theorem lb_a515 : lb_ad 515 1 := ⟨by decide +kernel, by decide +kernel, by decide +kernel, by decide +kernel, by decide +kernel⟩
theorem lb_a521 : lb_ad 521 2 := ⟨by decide +kernel, by decide +kernel, by decide +kernel, by decide +kernel, by decide +kernel⟩
theorem lb_d527 : decode code 527 = .ok (.invokevirtual 81, 3) := by decide +kernel
theorem lb_d530 : decode code 530 = .ok (.aload_n 2, 1) := by decide +kernel
theorem lb_a531 : lb_ad 531 1 := ⟨by decide +kernel, by decide +kernel, by decide +kernel, by decide +kernel, by decide +kernel⟩
theorem lb_a537 : lb_ad 537 2 := ⟨by decide +kernel, by decide +kernel, by decide +kernel, by decide +kernel, by decide +kernel⟩
theorem lb_d543 : decode code 543 = .ok (.invokevirtual 84, 3) := by decide +kernel
theorem lb_d546 : decode code 546 = .ok (.if_icmp .eq 30, 3) := by decide +kernel
theorem lb_d551 : decode code 551 = .ok (.aload_n 1, 1) := by decide +kernel
theorem lb_a552 : lb_ad 552 1 := ⟨by decide +kernel, by decide +kernel, by decide +kernel, by decide +kernel, by decide +kernel⟩
theorem lb_d558 : decode code 558 = .ok (.invokevirtual 85, 3) := by decide +kernel
theorem lb_d561 : decode code 561 = .ok (.aload_n 2, 1) := by decide +kernel
theorem lb_a562 : lb_ad 562 1 := ⟨by decide +kernel, by decide +kernel, by decide +kernel, by decide +kernel, by decide +kernel⟩
theorem lb_d568 : decode code 568 = .ok (.invokevirtual 88, 3) := by decide +kernel
theorem lb_d571 : decode code 571 = .ok (.if_icmp .eq 5, 3) := by decide +kernel
section LBC
variable {p : Program} {l : Launch} {e : Env} {s : State} {m : MethodId} {below : List Frame} {meth : Method} {c : Code} {H : Heap} {locs : List Loc} {cells slots : Nat} {QQ : State → Prop} {b L : Nat} {xs : Nat → Int32}
variable {D : va_G} {ox : Nat} {adx : Nat → Nat} {cAx : Nat → ClassId} {om : Nat} {adm : Nat → Nat} {cAm : Nat → ClassId} {ao : Nat} {cO : ClassId}
/-- script[i + j] -/
theorem lb_arg (K : lb_K p s m meth c b L xs D ox adx cAx om adm cAm ao cO) {σ σ' : tm_S} {th : Int} {z : Int64} (h : lb_H D ox adx cAx om adm cAm ao cO s σ σ' th z H locs) {i j pc : Nat} {ls : Array Slot} {rest : List Value} (hi : i + j < L) (l0 : ls[0]? = some (.val (.ref b))) (l4 : ls[4]? = some (.val (.int (nI i)))) (d : lb_ad pc j)
    (kk : W p l e room_1 s m #[Value.ref b] below meth c H locs cells slots QQ (F0 m (pc + 6) ls (.int (Int32.ofInt (xs (i + j)).toInt) :: rest))) : W p l e room_1 s m #[Value.ref b] below meth c H locs cells slots QQ (F0 m pc ls rest) := by
  obtain ⟨⟨hx, hb, hr0, hml7, hown, hts, hX, hbl, hlk, hgv⟩, hL, -⟩ := K
  obtain ⟨w, v, f, -, -, -, hS, -⟩ := h
  obtain ⟨d0, d1, d3, d4, d5⟩ := d
  refine lv_aload_n hx hb d0 rfl l0 ?_
  refine lv_iload hx hb d1 l4 ?_
  refine lv_iconst (v := nI j) hx hb d3 (tl_nI j) ?_
  refine lv_iadd hx hb d4 ?_
  rw [nI_add]
  refine va_sld hx hb hX hbl (fun h9 => absurd hbl (Nat.not_lt.mpr h9)) hS (vp_in_nI hi (by omega)) d5 ?_
  rw [nI_clamp (by omega)]
  rw [Int32.ofInt_toInt] at kk
  exact kk
/-- behind both calls: what was thrown, and the answers -/
theorem lb_tail (K : lb_K p s m meth c b L xs D ox adx cAx om adm cAm ao cO) {σ : tm_S} {z : Int64} {R : tl_R} (hR : (∃ x, R = .inl (some x)) ∨ R = .inr 1 ∨ R = .inr 2 ∨ R = .inr 3) (hz : ∀ x, R = .inl (some x) → z = (Int32.ofInt x).toInt64) (h : lb_H D ox adx cAx om adm cAm ao cO s σ σ (tm_mv R).2 z H locs) {i pc : Nat} {ls : Array Slot} (d : lb_td pc)
    (hl : lv_has ls 7 [(6, .int (Int32.ofInt (tm_mv R).1)), (5, .int (tw_k R)), (0, .ref b), (1, .ref ox), (2, .ref om), (3, .ref ao), (4, .int (nI i))]) (hfit : cells ≤ 1046 ∧ slots ≤ 9153)
    (kk : ∀ (H1 : Heap) (locs1 : List Loc), lb_H D ox adx cAx om adm cAm ao cO s σ σ (tm_mv R).2 z H1 locs1 → W p l e room_1 s m #[Value.ref b] below meth c H1 locs1 cells slots QQ (F0 m (pc + 28) ls [])) : W p l e room_1 s m #[Value.ref b] below meth c H locs cells slots QQ (F0 m pc ls []) := by
  obtain ⟨⟨d0, d1, d4, d6, d11, d13⟩, d16, d17, d18, d19, d21, d22, d23⟩ := d
  have K0 := K
  obtain ⟨⟨hx, hb, -⟩, -, ⟨-, -, ko⟩, -⟩ := K0
  refine lv_aload_n hx hb d0 rfl (lv_at hl 4 rfl) ?_
  refine lb_mq (as := []) (rest := []) (r := some (tm_mv R).2) (n := 0) (σ1 := σ) (th1 := (tm_mv R).2) K h (by decide) rfl (Nat.le_of_ble_eq_true rfl) lb_lk46 lb_tb1_1 lb_tb1_2 (by decide +kernel) (fun x hx => nomatch hx) (fun v hv e => ⟨v, e ▸ tb_thrown 7 v, hv, e⟩) hl.1 (Nat.le_of_ble_eq_true rfl) d1 hfit (fun H1 locs1 h1 => ?_)
  refine lv_iload hx hb d4 (lv_at hl 1 rfl) ?_
  refine lv_icmp_eq hx hb d6 (tgt := pc + 11) (by omega) (fun _ => ?_) (fun q => absurd (lb_mk R) q)
  refine lv_iload hx hb d11 (lv_at hl 1 rfl) ?_
  refine lv_if_ne hx hb d13 (tgt := pc + 28) (by omega) (fun _ => kk H1 locs1 h1) (fun q => ?_)
  obtain ⟨x, rfl⟩ : ∃ x, R = .inl (some x) := by
    rcases hR with h | rfl | rfl | rfl
    · exact h
    · exact absurd q (by decide)
    · exact absurd q (by decide)
    · exact absurd q (by decide)
  refine lv_aload_n hx hb d16 rfl (lv_at hl 5 rfl) ?_
  refine lv_iconst (v := 0) hx hb d17 (by decide) ?_
  have h2 := h1
  obtain ⟨w, v, f, -, -, hO, -, -, -, -, e2⟩ := h2
  refine va_lald (i := 0) hx hb ko hO 0 0 (n := 1) (f := f) rfl rfl (by unfold vp_in; decide) d18 ?_
  refine lv_iload hx hb d19 (lv_at hl 0 rfl) ?_
  refine lv_i2l (v := (Int32.ofInt x).toInt64) hx hb d21 rfl ?_
  refine W.lcmp hx hb d22 ?_
  have e3 : f (0 : Int32).toNatClampNeg = (Int32.ofInt x).toInt64 := (show f 0 = _ from e2.trans (hz x rfl))
  rw [e3]
  refine lv_if_eq hx hb d23 (tgt := pc + 28) (by omega) (fun _ => kk H1 locs1 h1) (fun q => absurd (lb_lc _) q)
set_option maxHeartbeats 4000000 in
theorem lb_c0 (hl9 : l.stackTraces = false) (K : lb_K p s m meth c b L xs D ox adx cAx om adm cAm ao cO) {σ : tm_S} {th : Int} {z : Int64} (hI : tm_I σ) (h : lb_H D ox adx cAx om adm cAm ao cO s σ σ th z H locs) {i : Nat} {ls : Array Slot} (hi : i + 4 ≤ L) (hl : lv_has ls 7 [(0, .ref b), (1, .ref ox), (2, .ref om), (3, .ref ao), (4, .int (nI i))]) (hfit : cells + 1 ≤ 1046 ∧ slots + 6 ≤ 9153)
    (kk : ∀ (σ1 : tm_S) (th1 : Int) (z1 : Int64) (H1 : Heap) (locs1 : List Loc) (ls1 : Array Slot), tm_I σ1 → lb_H D ox adx cAx om adm cAm ao cO s σ1 σ1 th1 z1 H1 locs1 → lv_has ls1 7 [(0, .ref b), (1, .ref ox), (2, .ref om), (3, .ref ao), (4, .int (nI i))] → W p l e room_1 s m #[Value.ref b] below meth c H1 locs1 (cells + 1) (slots + 6) QQ (F0 m 576 ls1 [])) : W p l e room_1 s m #[Value.ref b] below meth c H locs cells slots QQ (F0 m 100 ls []) := by
  have K0 := K
  obtain ⟨⟨hx, hb, -⟩, -, ⟨-, -, ko⟩, -, dX, -⟩ := K0
  refine lv_aload_n hx hb lb_d100 rfl (lv_at hl 1 rfl) ?_
  refine lb_xq (as := []) (rest := []) (r := some ((tm_oBegin σ).1)) (n := 0) (σ1 := (tm_oBegin σ).2) K h (by decide) rfl (Nat.le_of_ble_eq_true rfl) lb_ta1_0 lb_ta1_1 lb_ta1_2 (by decide +kernel) (lb_irl []) (fun w hw => ta_begin 7 w hI.1 hw) hl.1 (Nat.le_of_ble_eq_true rfl) lb_d101 ⟨by omega, by omega⟩ (fun H1 locs1 h1 => ?_)
  refine lv_aload_n hx hb lb_d104 rfl (lv_at hl 2 rfl) ?_
  refine lb_mq (as := []) (rest := [.int (Int32.ofInt ((tm_oBegin σ).1))]) (r := some ((tm_oBegin σ).1)) (n := 0) (σ1 := (tm_oBegin σ).2) (th1 := 0) K h1 (by decide) rfl (Nat.le_of_ble_eq_true rfl) lb_tb16_0 lb_tb16_1 lb_tb16_2 (by decide +kernel) (lb_irl []) (fun v hv _ => tb_begin 7 v hI.1 hv) hl.1 (Nat.le_of_ble_eq_true rfl) lb_d105 ⟨by omega, by omega⟩ (fun H2 locs2 h2 => ?_)
  refine lv_icmp_eq hx hb lb_d108 (tgt := 576) (by decide) (fun _ => ?_) (fun q => absurd rfl q)
  exact W.widen (k := cells + 1) (n := slots + 6) (by omega) (by omega) (kk (tm_oBegin σ).2 0 z H2 locs2 ls (tm_bg_I hI) h2 hl)
set_option maxHeartbeats 4000000 in
theorem lb_c1 (hl9 : l.stackTraces = false) (K : lb_K p s m meth c b L xs D ox adx cAx om adm cAm ao cO) {σ : tm_S} {th : Int} {z : Int64} (hI : tm_I σ) (h : lb_H D ox adx cAx om adm cAm ao cO s σ σ th z H locs) {i : Nat} {ls : Array Slot} (hi : i + 4 ≤ L) (hl : lv_has ls 7 [(0, .ref b), (1, .ref ox), (2, .ref om), (3, .ref ao), (4, .int (nI i))]) (hfit : cells + 1 ≤ 1046 ∧ slots + 6 ≤ 9153)
    (kk : ∀ (σ1 : tm_S) (th1 : Int) (z1 : Int64) (H1 : Heap) (locs1 : List Loc) (ls1 : Array Slot), tm_I σ1 → lb_H D ox adx cAx om adm cAm ao cO s σ1 σ1 th1 z1 H1 locs1 → lv_has ls1 7 [(0, .ref b), (1, .ref ox), (2, .ref om), (3, .ref ao), (4, .int (nI i))] → W p l e room_1 s m #[Value.ref b] below meth c H1 locs1 (cells + 1) (slots + 6) QQ (F0 m 576 ls1 [])) : W p l e room_1 s m #[Value.ref b] below meth c H locs cells slots QQ (F0 m 113 ls []) := by
  have K0 := K
  obtain ⟨⟨hx, hb, -⟩, -, ⟨-, -, ko⟩, -, dX, -⟩ := K0
  refine lv_aload_n hx hb lb_d113 rfl (lv_at hl 1 rfl) ?_
  refine lb_arg K h (j := 1) (i := i) (by omega) (lv_at hl 0 rfl) (lv_at hl 4 rfl) lb_a114 ?_
  refine lb_arg K h (j := 2) (i := i) (by omega) (lv_at hl 0 rfl) (lv_at hl 4 rfl) lb_a120 ?_
  refine lb_arg K h (j := 3) (i := i) (by omega) (lv_at hl 0 rfl) (lv_at hl 4 rfl) lb_a126 ?_
  refine lv_aload_n hx hb lb_d132 rfl (lv_at hl 3 rfl) ?_
  have hR := lb_oLock σ (xs (i + 1)).toInt (xs (i + 2)).toInt (xs (i + 3)).toInt
  refine lb_w (as := [.ref ox, .int (Int32.ofInt (xs (i + 1)).toInt), .int (Int32.ofInt (xs (i + 2)).toInt), .int (Int32.ofInt (xs (i + 3)).toInt), .ref ao]) (ts := [.inr 0, .inl (xs (i + 1)).toInt, .inl (xs (i + 2)).toInt, .inl (xs (i + 3)).toInt]) (rest := []) (j := 2) (n := 5) (Rr := (tm_oLock σ (xs (i + 1)).toInt (xs (i + 2)).toInt (xs (i + 3)).toInt).1) (σ1 := (tm_oLock σ (xs (i + 1)).toInt (xs (i + 2)).toInt (xs (i + 3)).toInt).2) K h rfl (by decide) rfl lb_lock_2 lb_lock_0 lb_lock_1 lb_ini (by decide +kernel) (fun w hw => ta_lock 1 _ _ _ w hI.1 hw) (fun w w9 f sz hwr hEv => tw_lock hl9 rfl f sz (fun q => (dX ao q).2.2 rfl) (lb_ir _) (lb_ir _) (lb_ir _) hwr (lb_n0 hR) hEv) hl.1 (Nat.le_of_ble_eq_true rfl) lb_d133 hfit (fun H1 locs1 z1 hz1 h1 => ?_)
  refine lv_istore hx hb lb_d136 hl (by decide) rfl (fun ls hl => ?_)
  have hl : lv_has ls 7 [(5, .int (tw_k (tm_oLock σ (xs (i + 1)).toInt (xs (i + 2)).toInt (xs (i + 3)).toInt).1)), (0, .ref b), (1, .ref ox), (2, .ref om), (3, .ref ao), (4, .int (nI i))] := hl
  refine lv_aload_n hx hb lb_d138 rfl (lv_at hl 3 rfl) ?_
  refine lb_arg K h1 (j := 1) (i := i) (by omega) (lv_at hl 1 rfl) (lv_at hl 5 rfl) lb_a139 ?_
  refine lb_arg K h1 (j := 2) (i := i) (by omega) (lv_at hl 1 rfl) (lv_at hl 5 rfl) lb_a145 ?_
  refine lb_arg K h1 (j := 3) (i := i) (by omega) (lv_at hl 1 rfl) (lv_at hl 5 rfl) lb_a151 ?_
  refine lb_mq (as := [(xs (i + 1)).toInt, (xs (i + 2)).toInt, (xs (i + 3)).toInt]) (rest := []) (r := some (tm_mv (tm_oLock σ (xs (i + 1)).toInt (xs (i + 2)).toInt (xs (i + 3)).toInt).1).1) (n := 3) (σ1 := (tm_oLock σ (xs (i + 1)).toInt (xs (i + 2)).toInt (xs (i + 3)).toInt).2) (th1 := (tm_mv (tm_oLock σ (xs (i + 1)).toInt (xs (i + 2)).toInt (xs (i + 3)).toInt).1).2) K h1 (by decide) rfl (Nat.le_of_ble_eq_true rfl) lb_tb19_0 lb_tb19_1 lb_tb19_2 (by decide +kernel) (lb_irl [xs (i + 1), xs (i + 2), xs (i + 3)]) (fun v hv _ => tb_lock 3 _ _ _ v hI.1 hv) hl.1 (Nat.le_of_ble_eq_true rfl) lb_d157 hfit (fun H2 locs2 h2 => ?_)
  refine lv_istore hx hb lb_d160 hl (by decide) rfl (fun ls hl => ?_)
  refine lb_tail (i := i) K hR hz1 h2 lb_t162 hl hfit (fun H3 locs3 h3 => ?_)
  refine lv_goto hx hb lb_d190 (tgt := 576) (by decide) ?_
  exact kk _ _ _ H3 locs3 ls (tm_oLock_I hI _ _ _) h3 (lv_sub hl [2, 3, 4, 5, 6] rfl)
set_option maxHeartbeats 4000000 in
theorem lb_c2 (hl9 : l.stackTraces = false) (K : lb_K p s m meth c b L xs D ox adx cAx om adm cAm ao cO) {σ : tm_S} {th : Int} {z : Int64} (hI : tm_I σ) (h : lb_H D ox adx cAx om adm cAm ao cO s σ σ th z H locs) {i : Nat} {ls : Array Slot} (hi : i + 4 ≤ L) (hl : lv_has ls 7 [(0, .ref b), (1, .ref ox), (2, .ref om), (3, .ref ao), (4, .int (nI i))]) (hfit : cells + 1 ≤ 1046 ∧ slots + 6 ≤ 9153)
    (kk : ∀ (σ1 : tm_S) (th1 : Int) (z1 : Int64) (H1 : Heap) (locs1 : List Loc) (ls1 : Array Slot), tm_I σ1 → lb_H D ox adx cAx om adm cAm ao cO s σ1 σ1 th1 z1 H1 locs1 → lv_has ls1 7 [(0, .ref b), (1, .ref ox), (2, .ref om), (3, .ref ao), (4, .int (nI i))] → W p l e room_1 s m #[Value.ref b] below meth c H1 locs1 (cells + 1) (slots + 6) QQ (F0 m 576 ls1 [])) : W p l e room_1 s m #[Value.ref b] below meth c H locs cells slots QQ (F0 m 193 ls []) := by
  have K0 := K
  obtain ⟨⟨hx, hb, -⟩, -, ⟨-, -, ko⟩, -, dX, -⟩ := K0
  refine lv_aload_n hx hb lb_d193 rfl (lv_at hl 1 rfl) ?_
  refine lb_arg K h (j := 1) (i := i) (by omega) (lv_at hl 0 rfl) (lv_at hl 4 rfl) lb_a194 ?_
  refine lb_arg K h (j := 2) (i := i) (by omega) (lv_at hl 0 rfl) (lv_at hl 4 rfl) lb_a200 ?_
  have hR := lb_oUnlock σ (xs (i + 1)).toInt (xs (i + 2)).toInt
  refine lb_w (as := [.ref ox, .int (Int32.ofInt (xs (i + 1)).toInt), .int (Int32.ofInt (xs (i + 2)).toInt)]) (ts := [.inr 0, .inl (xs (i + 1)).toInt, .inl (xs (i + 2)).toInt]) (rest := []) (j := 3) (n := 3) (Rr := (tm_oUnlock σ (xs (i + 1)).toInt (xs (i + 2)).toInt).1) (σ1 := (tm_oUnlock σ (xs (i + 1)).toInt (xs (i + 2)).toInt).2) K h rfl (by decide) rfl lb_unlock_2 lb_unlock_0 lb_unlock_1 lb_ini (by decide +kernel) (fun w hw => ta_unlock 2 _ _ w hI.1 hw) (fun w w9 f sz hwr hEv => tw_unlock hl9 rfl f sz (fun q => (dX ao q).2.2 rfl) (lb_ir _) (lb_ir _) hwr (fun x hx9 => by rcases hR with h9 | ⟨k, h9⟩ <;> rw [h9] at hx9 <;> cases hx9) hEv) hl.1 (Nat.le_of_ble_eq_true rfl) lb_d206 hfit (fun H1 locs1 z1 hz1 h1 => ?_)
  refine lv_istore hx hb lb_d209 hl (by decide) rfl (fun ls hl => ?_)
  have hl : lv_has ls 7 [(5, .int (tw_k (tm_oUnlock σ (xs (i + 1)).toInt (xs (i + 2)).toInt).1)), (0, .ref b), (1, .ref ox), (2, .ref om), (3, .ref ao), (4, .int (nI i))] := hl
  refine lv_aload_n hx hb lb_d211 rfl (lv_at hl 3 rfl) ?_
  refine lb_arg K h1 (j := 1) (i := i) (by omega) (lv_at hl 1 rfl) (lv_at hl 5 rfl) lb_a212 ?_
  refine lb_arg K h1 (j := 2) (i := i) (by omega) (lv_at hl 1 rfl) (lv_at hl 5 rfl) lb_a218 ?_
  refine lb_mq (as := [(xs (i + 1)).toInt, (xs (i + 2)).toInt]) (rest := []) (r := none) (n := 2) (σ1 := (tm_oUnlock σ (xs (i + 1)).toInt (xs (i + 2)).toInt).2) (th1 := (tm_mv (tm_oUnlock σ (xs (i + 1)).toInt (xs (i + 2)).toInt).1).2) K h1 (by decide) rfl (Nat.le_of_ble_eq_true rfl) lb_tb20_0 lb_tb20_1 lb_tb20_2 (by decide +kernel) (lb_irl [xs (i + 1), xs (i + 2)]) (fun v hv _ => tb_unlock 4 _ _ v hI.1 hv) hl.1 (Nat.le_of_ble_eq_true rfl) lb_d224 hfit (fun H2 locs2 h2 => ?_)
  refine lv_aload_n hx hb lb_d227 rfl (lv_at hl 3 rfl) ?_
  refine lb_mq (as := []) (rest := []) (r := some (tm_mv (tm_oUnlock σ (xs (i + 1)).toInt (xs (i + 2)).toInt).1).2) (n := 0) (σ1 := (tm_oUnlock σ (xs (i + 1)).toInt (xs (i + 2)).toInt).2) (th1 := (tm_mv (tm_oUnlock σ (xs (i + 1)).toInt (xs (i + 2)).toInt).1).2) K h2 (by decide) rfl (Nat.le_of_ble_eq_true rfl) lb_lk46 lb_tb1_1 lb_tb1_2 (by decide +kernel) (fun x hx => nomatch hx) (fun v hv e => ⟨v, e ▸ tb_thrown 7 v, hv, e⟩) hl.1 (Nat.le_of_ble_eq_true rfl) lb_d228 hfit (fun H3 locs3 h3 => ?_)
  refine lv_iload hx hb lb_d231 (lv_at hl 0 rfl) ?_
  refine lv_icmp_eq hx hb lb_d233 (tgt := 238) (by decide) (fun _ => ?_) (fun q => absurd (lb_mk (tm_oUnlock σ (xs (i + 1)).toInt (xs (i + 2)).toInt).1) q)
  refine lv_goto hx hb lb_d238 (tgt := 576) (by decide) ?_
  exact kk _ _ _ H3 locs3 ls (tm_oUnlock_I hI _ _) h3 (lv_sub hl [1, 2, 3, 4, 5] rfl)
set_option maxHeartbeats 4000000 in
theorem lb_c3 (hl9 : l.stackTraces = false) (K : lb_K p s m meth c b L xs D ox adx cAx om adm cAm ao cO) {σ : tm_S} {th : Int} {z : Int64} (hI : tm_I σ) (h : lb_H D ox adx cAx om adm cAm ao cO s σ σ th z H locs) {i : Nat} {ls : Array Slot} (hi : i + 4 ≤ L) (hl : lv_has ls 7 [(0, .ref b), (1, .ref ox), (2, .ref om), (3, .ref ao), (4, .int (nI i))]) (hfit : cells + 1 ≤ 1046 ∧ slots + 6 ≤ 9153)
    (kk : ∀ (σ1 : tm_S) (th1 : Int) (z1 : Int64) (H1 : Heap) (locs1 : List Loc) (ls1 : Array Slot), tm_I σ1 → lb_H D ox adx cAx om adm cAm ao cO s σ1 σ1 th1 z1 H1 locs1 → lv_has ls1 7 [(0, .ref b), (1, .ref ox), (2, .ref om), (3, .ref ao), (4, .int (nI i))] → W p l e room_1 s m #[Value.ref b] below meth c H1 locs1 (cells + 1) (slots + 6) QQ (F0 m 576 ls1 [])) : W p l e room_1 s m #[Value.ref b] below meth c H locs cells slots QQ (F0 m 241 ls []) := by
  have K0 := K
  obtain ⟨⟨hx, hb, -⟩, -, ⟨-, -, ko⟩, -, dX, -⟩ := K0
  refine lv_aload_n hx hb lb_d241 rfl (lv_at hl 1 rfl) ?_
  refine lb_arg K h (j := 1) (i := i) (by omega) (lv_at hl 0 rfl) (lv_at hl 4 rfl) lb_a242 ?_
  refine lb_arg K h (j := 2) (i := i) (by omega) (lv_at hl 0 rfl) (lv_at hl 4 rfl) lb_a248 ?_
  refine lv_aload_n hx hb lb_d254 rfl (lv_at hl 3 rfl) ?_
  have hR := lb_oEsc σ (xs (i + 1)).toInt (xs (i + 2)).toInt
  refine lb_w (as := [.ref ox, .int (Int32.ofInt (xs (i + 1)).toInt), .int (Int32.ofInt (xs (i + 2)).toInt), .ref ao]) (ts := [.inr 0, .inl (xs (i + 1)).toInt, .inl (xs (i + 2)).toInt]) (rest := []) (j := 4) (n := 4) (Rr := (tm_oEsc σ (xs (i + 1)).toInt (xs (i + 2)).toInt).1) (σ1 := (tm_oEsc σ (xs (i + 1)).toInt (xs (i + 2)).toInt).2) K h rfl (by decide) rfl lb_escalate_2 lb_escalate_0 lb_escalate_1 lb_ini (by decide +kernel) (fun w hw => ta_esc 1 _ _ w hI.1 hw) (fun w w9 f sz hwr hEv => tw_escalate hl9 rfl f sz (fun q => (dX ao q).2.2 rfl) (lb_ir _) (lb_ir _) hwr (lb_n3 hR) (lb_n0 (lb_34 hR)) hEv) hl.1 (Nat.le_of_ble_eq_true rfl) lb_d255 hfit (fun H1 locs1 z1 hz1 h1 => ?_)
  refine lv_istore hx hb lb_d258 hl (by decide) rfl (fun ls hl => ?_)
  have hl : lv_has ls 7 [(5, .int (tw_k (tm_oEsc σ (xs (i + 1)).toInt (xs (i + 2)).toInt).1)), (0, .ref b), (1, .ref ox), (2, .ref om), (3, .ref ao), (4, .int (nI i))] := hl
  refine lv_aload_n hx hb lb_d260 rfl (lv_at hl 3 rfl) ?_
  refine lb_arg K h1 (j := 1) (i := i) (by omega) (lv_at hl 1 rfl) (lv_at hl 5 rfl) lb_a261 ?_
  refine lb_arg K h1 (j := 2) (i := i) (by omega) (lv_at hl 1 rfl) (lv_at hl 5 rfl) lb_a267 ?_
  refine lb_mq (as := [(xs (i + 1)).toInt, (xs (i + 2)).toInt]) (rest := []) (r := some (tm_mv (tm_oEsc σ (xs (i + 1)).toInt (xs (i + 2)).toInt).1).1) (n := 2) (σ1 := (tm_oEsc σ (xs (i + 1)).toInt (xs (i + 2)).toInt).2) (th1 := (tm_mv (tm_oEsc σ (xs (i + 1)).toInt (xs (i + 2)).toInt).1).2) K h1 (by decide) rfl (Nat.le_of_ble_eq_true rfl) lb_tb21_0 lb_tb21_1 lb_tb21_2 (by decide +kernel) (lb_irl [xs (i + 1), xs (i + 2)]) (fun v hv _ => tb_esc 4 _ _ v hI.1 hI.2 hv) hl.1 (Nat.le_of_ble_eq_true rfl) lb_d273 hfit (fun H2 locs2 h2 => ?_)
  refine lv_istore hx hb lb_d276 hl (by decide) rfl (fun ls hl => ?_)
  refine lb_tail (i := i) K (lb_34 hR) hz1 h2 lb_t278 hl hfit (fun H3 locs3 h3 => ?_)
  refine lv_goto hx hb lb_d306 (tgt := 576) (by decide) ?_
  exact kk _ _ _ H3 locs3 ls (tm_oEsc_I hI _ _) h3 (lv_sub hl [2, 3, 4, 5, 6] rfl)
set_option maxHeartbeats 4000000 in
theorem lb_c4 (hl9 : l.stackTraces = false) (K : lb_K p s m meth c b L xs D ox adx cAx om adm cAm ao cO) {σ : tm_S} {th : Int} {z : Int64} (hI : tm_I σ) (h : lb_H D ox adx cAx om adm cAm ao cO s σ σ th z H locs) {i : Nat} {ls : Array Slot} (hi : i + 4 ≤ L) (hl : lv_has ls 7 [(0, .ref b), (1, .ref ox), (2, .ref om), (3, .ref ao), (4, .int (nI i))]) (hfit : cells + 1 ≤ 1046 ∧ slots + 6 ≤ 9153)
    (kk : ∀ (σ1 : tm_S) (th1 : Int) (z1 : Int64) (H1 : Heap) (locs1 : List Loc) (ls1 : Array Slot), tm_I σ1 → lb_H D ox adx cAx om adm cAm ao cO s σ1 σ1 th1 z1 H1 locs1 → lv_has ls1 7 [(0, .ref b), (1, .ref ox), (2, .ref om), (3, .ref ao), (4, .int (nI i))] → W p l e room_1 s m #[Value.ref b] below meth c H1 locs1 (cells + 1) (slots + 6) QQ (F0 m 576 ls1 [])) : W p l e room_1 s m #[Value.ref b] below meth c H locs cells slots QQ (F0 m 309 ls []) := by
  have K0 := K
  obtain ⟨⟨hx, hb, -⟩, -, ⟨-, -, ko⟩, -, dX, -⟩ := K0
  refine lv_aload_n hx hb lb_d309 rfl (lv_at hl 1 rfl) ?_
  refine lb_arg K h (j := 1) (i := i) (by omega) (lv_at hl 0 rfl) (lv_at hl 4 rfl) lb_a310 ?_
  refine lv_aload_n hx hb lb_d316 rfl (lv_at hl 3 rfl) ?_
  have hR := lb_oEnd σ (xs (i + 1)).toInt
  refine lb_w (as := [.ref ox, .int (Int32.ofInt (xs (i + 1)).toInt), .ref ao]) (ts := [.inr 0, .inl (xs (i + 1)).toInt]) (rest := []) (j := 5) (n := 3) (Rr := (tm_oEnd σ (xs (i + 1)).toInt).1) (σ1 := (tm_oEnd σ (xs (i + 1)).toInt).2) K h rfl (by decide) rfl lb_end_2 lb_end_0 lb_end_1 lb_ini (by decide +kernel) (fun w hw => ta_end 2 _ w hI.1 hw) (fun w w9 f sz hwr hEv => tw_end hl9 rfl f sz (fun q => (dX ao q).2.2 rfl) (lb_ir _) hwr (lb_n3 hR) (lb_n0 (lb_34 hR)) hEv) hl.1 (Nat.le_of_ble_eq_true rfl) lb_d317 hfit (fun H1 locs1 z1 hz1 h1 => ?_)
  refine lv_istore hx hb lb_d320 hl (by decide) rfl (fun ls hl => ?_)
  have hl : lv_has ls 7 [(5, .int (tw_k (tm_oEnd σ (xs (i + 1)).toInt).1)), (0, .ref b), (1, .ref ox), (2, .ref om), (3, .ref ao), (4, .int (nI i))] := hl
  refine lv_aload_n hx hb lb_d322 rfl (lv_at hl 3 rfl) ?_
  refine lb_arg K h1 (j := 1) (i := i) (by omega) (lv_at hl 1 rfl) (lv_at hl 5 rfl) lb_a323 ?_
  refine lb_mq (as := [(xs (i + 1)).toInt]) (rest := []) (r := some (tm_mv (tm_oEnd σ (xs (i + 1)).toInt).1).1) (n := 1) (σ1 := (tm_oEnd σ (xs (i + 1)).toInt).2) (th1 := (tm_mv (tm_oEnd σ (xs (i + 1)).toInt).1).2) K h1 (by decide) rfl (Nat.le_of_ble_eq_true rfl) lb_tb22_0 lb_tb22_1 lb_tb22_2 (by decide +kernel) (lb_irl [xs (i + 1)]) (fun v hv _ => tb_end 4 _ v hI.1 hv) hl.1 (Nat.le_of_ble_eq_true rfl) lb_d329 hfit (fun H2 locs2 h2 => ?_)
  refine lv_istore hx hb lb_d332 hl (by decide) rfl (fun ls hl => ?_)
  refine lb_tail (i := i) K (lb_34 hR) hz1 h2 lb_t334 hl hfit (fun H3 locs3 h3 => ?_)
  refine lv_goto hx hb lb_d362 (tgt := 576) (by decide) ?_
  exact kk _ _ _ H3 locs3 ls (tm_oEnd_I hI _) h3 (lv_sub hl [2, 3, 4, 5, 6] rfl)
set_option maxHeartbeats 4000000 in
theorem lb_c5 (hl9 : l.stackTraces = false) (K : lb_K p s m meth c b L xs D ox adx cAx om adm cAm ao cO) {σ : tm_S} {th : Int} {z : Int64} (hI : tm_I σ) (h : lb_H D ox adx cAx om adm cAm ao cO s σ σ th z H locs) {i : Nat} {ls : Array Slot} (hi : i + 4 ≤ L) (hl : lv_has ls 7 [(0, .ref b), (1, .ref ox), (2, .ref om), (3, .ref ao), (4, .int (nI i))]) (hfit : cells + 1 ≤ 1046 ∧ slots + 6 ≤ 9153)
    (kk : ∀ (σ1 : tm_S) (th1 : Int) (z1 : Int64) (H1 : Heap) (locs1 : List Loc) (ls1 : Array Slot), tm_I σ1 → lb_H D ox adx cAx om adm cAm ao cO s σ1 σ1 th1 z1 H1 locs1 → lv_has ls1 7 [(0, .ref b), (1, .ref ox), (2, .ref om), (3, .ref ao), (4, .int (nI i))] → W p l e room_1 s m #[Value.ref b] below meth c H1 locs1 (cells + 1) (slots + 6) QQ (F0 m 576 ls1 [])) : W p l e room_1 s m #[Value.ref b] below meth c H locs cells slots QQ (F0 m 365 ls []) := by
  have K0 := K
  obtain ⟨⟨hx, hb, -⟩, -, ⟨-, -, ko⟩, -, dX, -⟩ := K0
  refine lv_aload_n hx hb lb_d365 rfl (lv_at hl 1 rfl) ?_
  refine lb_arg K h (j := 1) (i := i) (by omega) (lv_at hl 0 rfl) (lv_at hl 4 rfl) lb_a366 ?_
  refine lb_arg K h (j := 2) (i := i) (by omega) (lv_at hl 0 rfl) (lv_at hl 4 rfl) lb_a372 ?_
  refine lb_xq (as := [(xs (i + 1)).toInt, (xs (i + 2)).toInt]) (rest := []) (r := some (tm_qHeld σ (xs (i + 1)).toInt (xs (i + 2)).toInt)) (n := 2) (σ1 := σ) K h (by decide) rfl (Nat.le_of_ble_eq_true rfl) lb_ta6_0 lb_ta6_1 lb_ta6_2 (by decide +kernel) (lb_irl [xs (i + 1), xs (i + 2)]) (fun w hw => ⟨w, ta_held 6 _ _ w hI.1 hw, hw⟩) hl.1 (Nat.le_of_ble_eq_true rfl) lb_d378 ⟨by omega, by omega⟩ (fun H1 locs1 h1 => ?_)
  refine lv_aload_n hx hb lb_d381 rfl (lv_at hl 2 rfl) ?_
  refine lb_arg K h1 (j := 1) (i := i) (by omega) (lv_at hl 0 rfl) (lv_at hl 4 rfl) lb_a382 ?_
  refine lb_arg K h1 (j := 2) (i := i) (by omega) (lv_at hl 0 rfl) (lv_at hl 4 rfl) lb_a388 ?_
  refine lb_mq (as := [(xs (i + 1)).toInt, (xs (i + 2)).toInt]) (rest := [.int (Int32.ofInt (tm_qHeld σ (xs (i + 1)).toInt (xs (i + 2)).toInt))]) (r := some (tm_qHeld σ (xs (i + 1)).toInt (xs (i + 2)).toInt)) (n := 2) (σ1 := σ) (th1 := 0) K h1 (by decide) rfl (Nat.le_of_ble_eq_true rfl) lb_tb23_0 lb_tb23_1 lb_tb23_2 (by decide +kernel) (lb_irl [xs (i + 1), xs (i + 2)]) (fun v hv _ => tb_held 6 _ _ v hI.1 hv) hl.1 (Nat.le_of_ble_eq_true rfl) lb_d394 ⟨by omega, by omega⟩ (fun H2 locs2 h2 => ?_)
  refine lv_icmp_eq hx hb lb_d397 (tgt := 576) (by decide) (fun _ => ?_) (fun q => absurd rfl q)
  exact W.widen (k := cells + 1) (n := slots + 6) (by omega) (by omega) (kk σ 0 z H2 locs2 ls hI h2 hl)
set_option maxHeartbeats 4000000 in
theorem lb_c6 (hl9 : l.stackTraces = false) (K : lb_K p s m meth c b L xs D ox adx cAx om adm cAm ao cO) {σ : tm_S} {th : Int} {z : Int64} (hI : tm_I σ) (h : lb_H D ox adx cAx om adm cAm ao cO s σ σ th z H locs) {i : Nat} {ls : Array Slot} (hi : i + 4 ≤ L) (hl : lv_has ls 7 [(0, .ref b), (1, .ref ox), (2, .ref om), (3, .ref ao), (4, .int (nI i))]) (hfit : cells + 1 ≤ 1046 ∧ slots + 6 ≤ 9153)
    (kk : ∀ (σ1 : tm_S) (th1 : Int) (z1 : Int64) (H1 : Heap) (locs1 : List Loc) (ls1 : Array Slot), tm_I σ1 → lb_H D ox adx cAx om adm cAm ao cO s σ1 σ1 th1 z1 H1 locs1 → lv_has ls1 7 [(0, .ref b), (1, .ref ox), (2, .ref om), (3, .ref ao), (4, .int (nI i))] → W p l e room_1 s m #[Value.ref b] below meth c H1 locs1 (cells + 1) (slots + 6) QQ (F0 m 576 ls1 [])) : W p l e room_1 s m #[Value.ref b] below meth c H locs cells slots QQ (F0 m 402 ls []) := by
  have K0 := K
  obtain ⟨⟨hx, hb, -⟩, -, ⟨-, -, ko⟩, -, dX, -⟩ := K0
  refine lv_aload_n hx hb lb_d402 rfl (lv_at hl 1 rfl) ?_
  refine lb_arg K h (j := 1) (i := i) (by omega) (lv_at hl 0 rfl) (lv_at hl 4 rfl) lb_a403 ?_
  refine lb_xq (as := [(xs (i + 1)).toInt]) (rest := []) (r := some (tm_qState σ (xs (i + 1)).toInt)) (n := 1) (σ1 := σ) K h (by decide) rfl (Nat.le_of_ble_eq_true rfl) lb_ta7_0 lb_ta7_1 lb_ta7_2 (by decide +kernel) (lb_irl [xs (i + 1)]) (fun w hw => ⟨w, ta_state 6 _ w hI.1 hw, hw⟩) hl.1 (Nat.le_of_ble_eq_true rfl) lb_d409 ⟨by omega, by omega⟩ (fun H1 locs1 h1 => ?_)
  refine lv_aload_n hx hb lb_d412 rfl (lv_at hl 2 rfl) ?_
  refine lb_arg K h1 (j := 1) (i := i) (by omega) (lv_at hl 0 rfl) (lv_at hl 4 rfl) lb_a413 ?_
  refine lb_mq (as := [(xs (i + 1)).toInt]) (rest := [.int (Int32.ofInt (tm_qState σ (xs (i + 1)).toInt))]) (r := some (tm_qState σ (xs (i + 1)).toInt)) (n := 1) (σ1 := σ) (th1 := 0) K h1 (by decide) rfl (Nat.le_of_ble_eq_true rfl) lb_tb24_0 lb_tb24_1 lb_tb24_2 (by decide +kernel) (lb_irl [xs (i + 1)]) (fun v hv _ => tb_state 6 _ v hI.1 hv) hl.1 (Nat.le_of_ble_eq_true rfl) lb_d419 ⟨by omega, by omega⟩ (fun H2 locs2 h2 => ?_)
  refine lv_icmp_eq hx hb lb_d422 (tgt := 576) (by decide) (fun _ => ?_) (fun q => absurd rfl q)
  exact W.widen (k := cells + 1) (n := slots + 6) (by omega) (by omega) (kk σ 0 z H2 locs2 ls hI h2 hl)
set_option maxHeartbeats 4000000 in
theorem lb_c7 (hl9 : l.stackTraces = false) (K : lb_K p s m meth c b L xs D ox adx cAx om adm cAm ao cO) {σ : tm_S} {th : Int} {z : Int64} (hI : tm_I σ) (h : lb_H D ox adx cAx om adm cAm ao cO s σ σ th z H locs) {i : Nat} {ls : Array Slot} (hi : i + 4 ≤ L) (hl : lv_has ls 7 [(0, .ref b), (1, .ref ox), (2, .ref om), (3, .ref ao), (4, .int (nI i))]) (hfit : cells + 1 ≤ 1046 ∧ slots + 6 ≤ 9153)
    (kk : ∀ (σ1 : tm_S) (th1 : Int) (z1 : Int64) (H1 : Heap) (locs1 : List Loc) (ls1 : Array Slot), tm_I σ1 → lb_H D ox adx cAx om adm cAm ao cO s σ1 σ1 th1 z1 H1 locs1 → lv_has ls1 7 [(0, .ref b), (1, .ref ox), (2, .ref om), (3, .ref ao), (4, .int (nI i))] → W p l e room_1 s m #[Value.ref b] below meth c H1 locs1 (cells + 1) (slots + 6) QQ (F0 m 576 ls1 [])) : W p l e room_1 s m #[Value.ref b] below meth c H locs cells slots QQ (F0 m 427 ls []) := by
  have K0 := K
  obtain ⟨⟨hx, hb, -⟩, -, ⟨-, -, ko⟩, -, dX, -⟩ := K0
  refine lv_aload_n hx hb lb_d427 rfl (lv_at hl 1 rfl) ?_
  refine lb_arg K h (j := 1) (i := i) (by omega) (lv_at hl 0 rfl) (lv_at hl 4 rfl) lb_a428 ?_
  refine lb_xq (as := [(xs (i + 1)).toInt]) (rest := []) (r := some (tm_qWanted σ (xs (i + 1)).toInt)) (n := 1) (σ1 := σ) K h (by decide) rfl (Nat.le_of_ble_eq_true rfl) lb_ta8_0 lb_ta8_1 lb_ta8_2 (by decide +kernel) (lb_irl [xs (i + 1)]) (fun w hw => ⟨w, ta_wanted 6 _ w hI.1 hw, hw⟩) hl.1 (Nat.le_of_ble_eq_true rfl) lb_d434 ⟨by omega, by omega⟩ (fun H1 locs1 h1 => ?_)
  refine lv_aload_n hx hb lb_d437 rfl (lv_at hl 2 rfl) ?_
  refine lb_arg K h1 (j := 1) (i := i) (by omega) (lv_at hl 0 rfl) (lv_at hl 4 rfl) lb_a438 ?_
  refine lb_mq (as := [(xs (i + 1)).toInt]) (rest := [.int (Int32.ofInt (tm_qWanted σ (xs (i + 1)).toInt))]) (r := some (tm_qWanted σ (xs (i + 1)).toInt)) (n := 1) (σ1 := σ) (th1 := 0) K h1 (by decide) rfl (Nat.le_of_ble_eq_true rfl) lb_tb25_0 lb_tb25_1 lb_tb25_2 (by decide +kernel) (lb_irl [xs (i + 1)]) (fun v hv _ => tb_wanted 6 _ v hI.1 hv) hl.1 (Nat.le_of_ble_eq_true rfl) lb_d444 ⟨by omega, by omega⟩ (fun H2 locs2 h2 => ?_)
  refine lv_icmp_eq hx hb lb_d447 (tgt := 576) (by decide) (fun _ => ?_) (fun q => absurd rfl q)
  exact W.widen (k := cells + 1) (n := slots + 6) (by omega) (by omega) (kk σ 0 z H2 locs2 ls hI h2 hl)
set_option maxHeartbeats 4000000 in
theorem lb_c8 (hl9 : l.stackTraces = false) (K : lb_K p s m meth c b L xs D ox adx cAx om adm cAm ao cO) {σ : tm_S} {th : Int} {z : Int64} (hI : tm_I σ) (h : lb_H D ox adx cAx om adm cAm ao cO s σ σ th z H locs) {i : Nat} {ls : Array Slot} (hi : i + 4 ≤ L) (hl : lv_has ls 7 [(0, .ref b), (1, .ref ox), (2, .ref om), (3, .ref ao), (4, .int (nI i))]) (hfit : cells + 1 ≤ 1046 ∧ slots + 6 ≤ 9153)
    (kk : ∀ (σ1 : tm_S) (th1 : Int) (z1 : Int64) (H1 : Heap) (locs1 : List Loc) (ls1 : Array Slot), tm_I σ1 → lb_H D ox adx cAx om adm cAm ao cO s σ1 σ1 th1 z1 H1 locs1 → lv_has ls1 7 [(0, .ref b), (1, .ref ox), (2, .ref om), (3, .ref ao), (4, .int (nI i))] → W p l e room_1 s m #[Value.ref b] below meth c H1 locs1 (cells + 1) (slots + 6) QQ (F0 m 576 ls1 [])) : W p l e room_1 s m #[Value.ref b] below meth c H locs cells slots QQ (F0 m 452 ls []) := by
  have K0 := K
  obtain ⟨⟨hx, hb, -⟩, -, ⟨-, -, ko⟩, -, dX, -⟩ := K0
  refine lv_aload_n hx hb lb_d452 rfl (lv_at hl 1 rfl) ?_
  refine lb_arg K h (j := 1) (i := i) (by omega) (lv_at hl 0 rfl) (lv_at hl 4 rfl) lb_a453 ?_
  refine lb_arg K h (j := 2) (i := i) (by omega) (lv_at hl 0 rfl) (lv_at hl 4 rfl) lb_a459 ?_
  refine lb_xq (as := [(xs (i + 1)).toInt, (xs (i + 2)).toInt]) (rest := []) (r := some (tm_qQueue σ (xs (i + 1)).toInt (xs (i + 2)).toInt)) (n := 2) (σ1 := σ) K h (by decide) rfl (Nat.le_of_ble_eq_true rfl) lb_ta9_0 lb_ta9_1 lb_ta9_2 (by decide +kernel) (lb_irl [xs (i + 1), xs (i + 2)]) (fun w hw => ⟨w, ta_queue 5 _ _ w hI.1 hw, hw⟩) hl.1 (Nat.le_of_ble_eq_true rfl) lb_d465 ⟨by omega, by omega⟩ (fun H1 locs1 h1 => ?_)
  refine lv_aload_n hx hb lb_d468 rfl (lv_at hl 2 rfl) ?_
  refine lb_arg K h1 (j := 1) (i := i) (by omega) (lv_at hl 0 rfl) (lv_at hl 4 rfl) lb_a469 ?_
  refine lb_arg K h1 (j := 2) (i := i) (by omega) (lv_at hl 0 rfl) (lv_at hl 4 rfl) lb_a475 ?_
  refine lb_mq (as := [(xs (i + 1)).toInt, (xs (i + 2)).toInt]) (rest := [.int (Int32.ofInt (tm_qQueue σ (xs (i + 1)).toInt (xs (i + 2)).toInt))]) (r := some (tm_qQueue σ (xs (i + 1)).toInt (xs (i + 2)).toInt)) (n := 2) (σ1 := σ) (th1 := 0) K h1 (by decide) rfl (Nat.le_of_ble_eq_true rfl) lb_tb26_0 lb_tb26_1 lb_tb26_2 (by decide +kernel) (lb_irl [xs (i + 1), xs (i + 2)]) (fun v hv _ => tb_queue 6 _ _ v hI.1 hv) hl.1 (Nat.le_of_ble_eq_true rfl) lb_d481 ⟨by omega, by omega⟩ (fun H2 locs2 h2 => ?_)
  refine lv_icmp_eq hx hb lb_d484 (tgt := 576) (by decide) (fun _ => ?_) (fun q => absurd rfl q)
  exact W.widen (k := cells + 1) (n := slots + 6) (by omega) (by omega) (kk σ 0 z H2 locs2 ls hI h2 hl)
set_option maxHeartbeats 4000000 in
theorem lb_c9 (hl9 : l.stackTraces = false) (K : lb_K p s m meth c b L xs D ox adx cAx om adm cAm ao cO) {σ : tm_S} {th : Int} {z : Int64} (hI : tm_I σ) (h : lb_H D ox adx cAx om adm cAm ao cO s σ σ th z H locs) {i : Nat} {ls : Array Slot} (hi : i + 4 ≤ L) (hl : lv_has ls 7 [(0, .ref b), (1, .ref ox), (2, .ref om), (3, .ref ao), (4, .int (nI i))]) (hfit : cells + 1 ≤ 1046 ∧ slots + 6 ≤ 9153)
    (kk : ∀ (σ1 : tm_S) (th1 : Int) (z1 : Int64) (H1 : Heap) (locs1 : List Loc) (ls1 : Array Slot), tm_I σ1 → lb_H D ox adx cAx om adm cAm ao cO s σ1 σ1 th1 z1 H1 locs1 → lv_has ls1 7 [(0, .ref b), (1, .ref ox), (2, .ref om), (3, .ref ao), (4, .int (nI i))] → W p l e room_1 s m #[Value.ref b] below meth c H1 locs1 (cells + 1) (slots + 6) QQ (F0 m 576 ls1 [])) : W p l e room_1 s m #[Value.ref b] below meth c H locs cells slots QQ (F0 m 489 ls []) := by
  have K0 := K
  obtain ⟨⟨hx, hb, -⟩, -, ⟨-, -, ko⟩, -, dX, -⟩ := K0
  refine lv_aload_n hx hb lb_d489 rfl (lv_at hl 1 rfl) ?_
  refine lb_arg K h (j := 1) (i := i) (by omega) (lv_at hl 0 rfl) (lv_at hl 4 rfl) lb_a490 ?_
  refine lb_xq (as := [(xs (i + 1)).toInt]) (rest := []) (r := some (tm_qWaits σ (xs (i + 1)).toInt)) (n := 1) (σ1 := σ) K h (by decide) rfl (Nat.le_of_ble_eq_true rfl) lb_ta10_0 lb_ta10_1 lb_ta10_2 (by decide +kernel) (lb_irl [xs (i + 1)]) (fun w hw => ⟨w, ta_waits 4 _ w hI.1 hw, hw⟩) hl.1 (Nat.le_of_ble_eq_true rfl) lb_d496 ⟨by omega, by omega⟩ (fun H1 locs1 h1 => ?_)
  refine lv_aload_n hx hb lb_d499 rfl (lv_at hl 2 rfl) ?_
  refine lb_arg K h1 (j := 1) (i := i) (by omega) (lv_at hl 0 rfl) (lv_at hl 4 rfl) lb_a500 ?_
  refine lb_mq (as := [(xs (i + 1)).toInt]) (rest := [.int (Int32.ofInt (tm_qWaits σ (xs (i + 1)).toInt))]) (r := some (tm_qWaits σ (xs (i + 1)).toInt)) (n := 1) (σ1 := σ) (th1 := 0) K h1 (by decide) rfl (Nat.le_of_ble_eq_true rfl) lb_tb27_0 lb_tb27_1 lb_tb27_2 (by decide +kernel) (lb_irl [xs (i + 1)]) (fun v hv _ => tb_waits 5 _ v hI.1 hv) hl.1 (Nat.le_of_ble_eq_true rfl) lb_d506 ⟨by omega, by omega⟩ (fun H2 locs2 h2 => ?_)
  refine lv_icmp_eq hx hb lb_d509 (tgt := 576) (by decide) (fun _ => ?_) (fun q => absurd rfl q)
  exact W.widen (k := cells + 1) (n := slots + 6) (by omega) (by omega) (kk σ 0 z H2 locs2 ls hI h2 hl)
set_option maxHeartbeats 4000000 in
theorem lb_c10 (hl9 : l.stackTraces = false) (K : lb_K p s m meth c b L xs D ox adx cAx om adm cAm ao cO) {σ : tm_S} {th : Int} {z : Int64} (hI : tm_I σ) (h : lb_H D ox adx cAx om adm cAm ao cO s σ σ th z H locs) {i : Nat} {ls : Array Slot} (hi : i + 4 ≤ L) (hl : lv_has ls 7 [(0, .ref b), (1, .ref ox), (2, .ref om), (3, .ref ao), (4, .int (nI i))]) (hfit : cells + 1 ≤ 1046 ∧ slots + 6 ≤ 9153)
    (kk : ∀ (σ1 : tm_S) (th1 : Int) (z1 : Int64) (H1 : Heap) (locs1 : List Loc) (ls1 : Array Slot), tm_I σ1 → lb_H D ox adx cAx om adm cAm ao cO s σ1 σ1 th1 z1 H1 locs1 → lv_has ls1 7 [(0, .ref b), (1, .ref ox), (2, .ref om), (3, .ref ao), (4, .int (nI i))] → W p l e room_1 s m #[Value.ref b] below meth c H1 locs1 (cells + 1) (slots + 6) QQ (F0 m 576 ls1 [])) : W p l e room_1 s m #[Value.ref b] below meth c H locs cells slots QQ (F0 m 514 ls []) := by
  have K0 := K
  obtain ⟨⟨hx, hb, -⟩, -, ⟨-, -, ko⟩, -, dX, -⟩ := K0
  refine lv_aload_n hx hb lb_d514 rfl (lv_at hl 1 rfl) ?_
  refine lb_arg K h (j := 1) (i := i) (by omega) (lv_at hl 0 rfl) (lv_at hl 4 rfl) lb_a515 ?_
  refine lb_arg K h (j := 2) (i := i) (by omega) (lv_at hl 0 rfl) (lv_at hl 4 rfl) lb_a521 ?_
  refine lb_xq (as := [(xs (i + 1)).toInt, (xs (i + 2)).toInt]) (rest := []) (r := some (tm_qAcc σ (xs (i + 1)).toInt (xs (i + 2)).toInt)) (n := 2) (σ1 := σ) K h (by decide) rfl (Nat.le_of_ble_eq_true rfl) lb_ta11_0 lb_ta11_1 lb_ta11_2 (by decide +kernel) (lb_irl [xs (i + 1), xs (i + 2)]) (fun w hw => ⟨w, ta_access 5 _ _ w hI.1 hw, hw⟩) hl.1 (Nat.le_of_ble_eq_true rfl) lb_d527 ⟨by omega, by omega⟩ (fun H1 locs1 h1 => ?_)
  refine lv_aload_n hx hb lb_d530 rfl (lv_at hl 2 rfl) ?_
  refine lb_arg K h1 (j := 1) (i := i) (by omega) (lv_at hl 0 rfl) (lv_at hl 4 rfl) lb_a531 ?_
  refine lb_arg K h1 (j := 2) (i := i) (by omega) (lv_at hl 0 rfl) (lv_at hl 4 rfl) lb_a537 ?_
  refine lb_mq (as := [(xs (i + 1)).toInt, (xs (i + 2)).toInt]) (rest := [.int (Int32.ofInt (tm_qAcc σ (xs (i + 1)).toInt (xs (i + 2)).toInt))]) (r := some (tm_qAcc σ (xs (i + 1)).toInt (xs (i + 2)).toInt)) (n := 2) (σ1 := σ) (th1 := 0) K h1 (by decide) rfl (Nat.le_of_ble_eq_true rfl) lb_tb28_0 lb_tb28_1 lb_tb28_2 (by decide +kernel) (lb_irl [xs (i + 1), xs (i + 2)]) (fun v hv _ => tb_access 6 _ _ v hI.1 hv) hl.1 (Nat.le_of_ble_eq_true rfl) lb_d543 ⟨by omega, by omega⟩ (fun H2 locs2 h2 => ?_)
  refine lv_icmp_eq hx hb lb_d546 (tgt := 576) (by decide) (fun _ => ?_) (fun q => absurd rfl q)
  exact W.widen (k := cells + 1) (n := slots + 6) (by omega) (by omega) (kk σ 0 z H2 locs2 ls hI h2 hl)
set_option maxHeartbeats 4000000 in
theorem lb_c11 (hl9 : l.stackTraces = false) (K : lb_K p s m meth c b L xs D ox adx cAx om adm cAm ao cO) {σ : tm_S} {th : Int} {z : Int64} (hI : tm_I σ) (h : lb_H D ox adx cAx om adm cAm ao cO s σ σ th z H locs) {i : Nat} {ls : Array Slot} (hi : i + 4 ≤ L) (hl : lv_has ls 7 [(0, .ref b), (1, .ref ox), (2, .ref om), (3, .ref ao), (4, .int (nI i))]) (hfit : cells + 1 ≤ 1046 ∧ slots + 6 ≤ 9153)
    (kk : ∀ (σ1 : tm_S) (th1 : Int) (z1 : Int64) (H1 : Heap) (locs1 : List Loc) (ls1 : Array Slot), tm_I σ1 → lb_H D ox adx cAx om adm cAm ao cO s σ1 σ1 th1 z1 H1 locs1 → lv_has ls1 7 [(0, .ref b), (1, .ref ox), (2, .ref om), (3, .ref ao), (4, .int (nI i))] → W p l e room_1 s m #[Value.ref b] below meth c H1 locs1 (cells + 1) (slots + 6) QQ (F0 m 576 ls1 [])) : W p l e room_1 s m #[Value.ref b] below meth c H locs cells slots QQ (F0 m 551 ls []) := by
  have K0 := K
  obtain ⟨⟨hx, hb, -⟩, -, ⟨-, -, ko⟩, -, dX, -⟩ := K0
  refine lv_aload_n hx hb lb_d551 rfl (lv_at hl 1 rfl) ?_
  refine lb_arg K h (j := 1) (i := i) (by omega) (lv_at hl 0 rfl) (lv_at hl 4 rfl) lb_a552 ?_
  refine lb_xq (as := [(xs (i + 1)).toInt]) (rest := []) (r := some (tm_qLocks σ (xs (i + 1)).toInt)) (n := 1) (σ1 := σ) K h (by decide) rfl (Nat.le_of_ble_eq_true rfl) lb_ta12_0 lb_ta12_1 lb_ta12_2 (by decide +kernel) (lb_irl [xs (i + 1)]) (fun w hw => ⟨w, ta_locks 5 _ w hI.1 hw, hw⟩) hl.1 (Nat.le_of_ble_eq_true rfl) lb_d558 ⟨by omega, by omega⟩ (fun H1 locs1 h1 => ?_)
  refine lv_aload_n hx hb lb_d561 rfl (lv_at hl 2 rfl) ?_
  refine lb_arg K h1 (j := 1) (i := i) (by omega) (lv_at hl 0 rfl) (lv_at hl 4 rfl) lb_a562 ?_
  refine lb_mq (as := [(xs (i + 1)).toInt]) (rest := [.int (Int32.ofInt (tm_qLocks σ (xs (i + 1)).toInt))]) (r := some (tm_qLocks σ (xs (i + 1)).toInt)) (n := 1) (σ1 := σ) (th1 := 0) K h1 (by decide) rfl (Nat.le_of_ble_eq_true rfl) lb_tb29_0 lb_tb29_1 lb_tb29_2 (by decide +kernel) (lb_irl [xs (i + 1)]) (fun v hv _ => tb_locks 6 _ v hI.1 hv) hl.1 (Nat.le_of_ble_eq_true rfl) lb_d568 ⟨by omega, by omega⟩ (fun H2 locs2 h2 => ?_)
  refine lv_icmp_eq hx hb lb_d571 (tgt := 576) (by decide) (fun _ => ?_) (fun q => absurd rfl q)
  exact W.widen (k := cells + 1) (n := slots + 6) (by omega) (by omega) (kk σ 0 z H2 locs2 ls hI h2 hl)
end LBC
