/-! 10.small: the class's small methods, printed by a1.py -/
theorem ta_isT (d : Nat) (t : Int) (w : tl_W) : tl_Ev ta_P (d + 1) 13 [.inl t] w (.inl (some (tm_b (decide (0 ≤ t ∧ t < 8))))) w := by
  refine tl_start fun Q hQ => ?_
  refine tl_go 1 1 [(0, .inl t)] [.inl t] w (fun _ h => h) ?_
  refine tl_if (t < 0) 14 4 [(0, .inl t)] [] (fun _ h => h) (fun hc0 => ?_) (fun hc0 => ?_)
  · refine tl_go 1 15 [(0, .inl t)] [.inl 0] w (fun _ h => h) ?_
    exact tl_retz rfl rfl (tm_b0 (decide_eq_false (by omega))) (hQ)
  · refine tl_go 2 7 [(0, .inl t)] [.inl 8, .inl t] w (fun _ h => h) ?_
    refine tl_if (8 ≤ t) 14 10 [(0, .inl t)] [] (fun _ h => h) (fun hc1 => ?_) (fun hc1 => ?_)
    · refine tl_go 1 15 [(0, .inl t)] [.inl 0] w (fun _ h => h) ?_
      exact tl_retz rfl rfl (tm_b0 (decide_eq_false (by omega))) (hQ)
    · refine tl_go 2 15 [(0, .inl t)] [.inl 1] w (fun _ h => h) ?_
      exact tl_retz rfl rfl (tm_b1 (decide_eq_true (by omega))) (hQ)
theorem ta_isR (d : Nat) (r : Int) (w : tl_W) : tl_Ev ta_P (d + 1) 14 [.inl r] w (.inl (some (tm_b (decide (0 ≤ r ∧ r < 34))))) w := by
  refine tl_start fun Q hQ => ?_
  refine tl_go 1 1 [(0, .inl r)] [.inl r] w (fun _ h => h) ?_
  refine tl_if (r < 0) 14 4 [(0, .inl r)] [] (fun _ h => h) (fun hc0 => ?_) (fun hc0 => ?_)
  · refine tl_go 1 15 [(0, .inl r)] [.inl 0] w (fun _ h => h) ?_
    exact tl_retz rfl rfl (tm_b0 (decide_eq_false (by omega))) (hQ)
  · refine tl_go 2 7 [(0, .inl r)] [.inl 34, .inl r] w (fun _ h => h) ?_
    refine tl_if (34 ≤ r) 14 10 [(0, .inl r)] [] (fun _ h => h) (fun hc1 => ?_) (fun hc1 => ?_)
    · refine tl_go 1 15 [(0, .inl r)] [.inl 0] w (fun _ h => h) ?_
      exact tl_retz rfl rfl (tm_b0 (decide_eq_false (by omega))) (hQ)
    · refine tl_go 2 15 [(0, .inl r)] [.inl 1] w (fun _ h => h) ?_
      exact tl_retz rfl rfl (tm_b1 (decide_eq_true (by omega))) (hQ)
theorem ta_isRow (d : Nat) (r : Int) (w : tl_W) : tl_Ev ta_P (d + 1) 15 [.inl r] w (.inl (some (tm_b (decide (10 ≤ r))))) w := by
  refine tl_start fun Q hQ => ?_
  refine tl_go 2 3 [(0, .inl r)] [.inl 10, .inl r] w (fun _ h => h) ?_
  refine tl_if (r < 10) 10 6 [(0, .inl r)] [] (fun _ h => h) (fun hc0 => ?_) (fun hc0 => ?_)
  · refine tl_go 1 11 [(0, .inl r)] [.inl 0] w (fun _ h => h) ?_
    exact tl_retz rfl rfl (tm_b0 (decide_eq_false (by omega))) (hQ)
  · refine tl_go 2 11 [(0, .inl r)] [.inl 1] w (fun _ h => h) ?_
    exact tl_retz rfl rfl (tm_b1 (decide_eq_true (by omega))) (hQ)
theorem ta_isTP (d : Nat) (r : Int) (w : tl_W) : tl_Ev ta_P (d + 1) 16 [.inl r] w (.inl (some (tm_b (decide (1 ≤ r ∧ r < 10))))) w := by
  refine tl_start fun Q hQ => ?_
  refine tl_go 2 2 [(0, .inl r)] [.inl 1, .inl r] w (fun _ h => h) ?_
  refine tl_if (r < 1) 15 5 [(0, .inl r)] [] (fun _ h => h) (fun hc0 => ?_) (fun hc0 => ?_)
  · refine tl_go 1 16 [(0, .inl r)] [.inl 0] w (fun _ h => h) ?_
    exact tl_retz rfl rfl (tm_b0 (decide_eq_false (by omega))) (hQ)
  · refine tl_go 2 8 [(0, .inl r)] [.inl 10, .inl r] w (fun _ h => h) ?_
    refine tl_if (10 ≤ r) 15 11 [(0, .inl r)] [] (fun _ h => h) (fun hc1 => ?_) (fun hc1 => ?_)
    · refine tl_go 1 16 [(0, .inl r)] [.inl 0] w (fun _ h => h) ?_
      exact tl_retz rfl rfl (tm_b0 (decide_eq_false (by omega))) (hQ)
    · refine tl_go 2 16 [(0, .inl r)] [.inl 1] w (fun _ h => h) ?_
      exact tl_retz rfl rfl (tm_b1 (decide_eq_true (by omega))) (hQ)
theorem ta_rd (d : Nat) (m : Int) (w : tl_W) : tl_Ev ta_P (d + 1) 22 [.inl m] w (.inl (some (tm_b (decide (m = 1 ∨ m = 3))))) w := by
  refine tl_start fun Q hQ => ?_
  refine tl_go 2 2 [(0, .inl m)] [.inl 1, .inl m] w (fun _ h => h) ?_
  refine tl_if (m = 1) 10 5 [(0, .inl m)] [] (fun _ h => h) (fun hc0 => ?_) (fun hc0 => ?_)
  · refine tl_go 2 15 [(0, .inl m)] [.inl 1] w (fun _ h => h) ?_
    exact tl_retz rfl rfl (tm_b1 (decide_eq_true (by omega))) (hQ)
  · refine tl_go 2 7 [(0, .inl m)] [.inl 3, .inl m] w (fun _ h => h) ?_
    refine tl_if (¬ m = 3) 14 10 [(0, .inl m)] [] (fun _ h => h) (fun hc1 => ?_) (fun hc1 => ?_)
    · refine tl_go 1 15 [(0, .inl m)] [.inl 0] w (fun _ h => h) ?_
      exact tl_retz rfl rfl (tm_b0 (decide_eq_false (by omega))) (hQ)
    · refine tl_go 2 15 [(0, .inl m)] [.inl 1] w (fun _ h => h) ?_
      exact tl_retz rfl rfl (tm_b1 (decide_eq_true (by omega))) (hQ)
theorem ta_cba (d : Nat) (r m : Int) (w : tl_W) : tl_Ev ta_P (d + 2) 23 [.inl r, .inl m] w (.inl (some (tm_b (decide ((10 ≤ r ∧ (m = 3 ∨ m = 5)) ∨ (r < 10 ∧ 1 ≤ m ∧ m ≤ 5)))))) w := by
  refine tl_start fun Q hQ => ?_
  refine tl_go 1 1 [(0, .inl r), (1, .inl m)] [.inl r] w (fun _ h => h) ?_
  refine tl_callS (as := [.inl r]) (rest := []) (v := some (tm_b (decide (10 ≤ r)))) (w' := w) rfl rfl rfl rfl (ta_isRow d r w) (Nat.le_of_ble_eq_true rfl) rfl rfl (Nat.le_of_ble_eq_true rfl) ?_
  refine tl_if ((tm_b (decide (10 ≤ r))) = 0) 25 7 [(0, .inl r), (1, .inl m)] [] (fun _ h => h) (fun hc0 => ?_) (fun hc0 => ?_)
  · have hc0 := of_decide_eq_false (tm_beq hc0)
    refine tl_go 2 27 [(0, .inl r), (1, .inl m)] [.inl 1, .inl m] w (fun _ h => h) ?_
    refine tl_if (m < 1) 39 30 [(0, .inl r), (1, .inl m)] [] (fun _ h => h) (fun hc1 => ?_) (fun hc1 => ?_)
    · refine tl_go 1 40 [(0, .inl r), (1, .inl m)] [.inl 0] w (fun _ h => h) ?_
      exact tl_retz rfl rfl (tm_b0 (decide_eq_false (by omega))) (hQ)
    · refine tl_go 2 32 [(0, .inl r), (1, .inl m)] [.inl 5, .inl m] w (fun _ h => h) ?_
      refine tl_if (5 < m) 39 35 [(0, .inl r), (1, .inl m)] [] (fun _ h => h) (fun hc2 => ?_) (fun hc2 => ?_)
      · refine tl_go 1 40 [(0, .inl r), (1, .inl m)] [.inl 0] w (fun _ h => h) ?_
        exact tl_retz rfl rfl (tm_b0 (decide_eq_false (by omega))) (hQ)
      · refine tl_go 2 40 [(0, .inl r), (1, .inl m)] [.inl 1] w (fun _ h => h) ?_
        exact tl_retz rfl rfl (tm_b1 (decide_eq_true (by omega))) (hQ)
  · have hc0 := of_decide_eq_true (tm_bne hc0)
    refine tl_go 2 9 [(0, .inl r), (1, .inl m)] [.inl 3, .inl m] w (fun _ h => h) ?_
    refine tl_if (m = 3) 17 12 [(0, .inl r), (1, .inl m)] [] (fun _ h => h) (fun hc1 => ?_) (fun hc1 => ?_)
    · refine tl_go 2 40 [(0, .inl r), (1, .inl m)] [.inl 1] w (fun _ h => h) ?_
      exact tl_retz rfl rfl (tm_b1 (decide_eq_true (by omega))) (hQ)
    · refine tl_go 2 14 [(0, .inl r), (1, .inl m)] [.inl 5, .inl m] w (fun _ h => h) ?_
      refine tl_if (¬ m = 5) 21 17 [(0, .inl r), (1, .inl m)] [] (fun _ h => h) (fun hc2 => ?_) (fun hc2 => ?_)
      · refine tl_go 2 40 [(0, .inl r), (1, .inl m)] [.inl 0] w (fun _ h => h) ?_
        exact tl_retz rfl rfl (tm_b0 (decide_eq_false (by omega))) (hQ)
      · refine tl_go 2 40 [(0, .inl r), (1, .inl m)] [.inl 1] w (fun _ h => h) ?_
        exact tl_retz rfl rfl (tm_b1 (decide_eq_true (by omega))) (hQ)
theorem ta_par (d : Nat) (r : Nat) (hr : r < 34) (w : tl_W) : tl_Ev ta_P (d + 1) 17 [.inl ((r : Nat) : Int)] w (.inl (some (tm_pI r))) w := by
  refine tl_start fun Q hQ => ?_
  refine tl_go 1 1 [(0, .inl ((r : Nat) : Int))] [.inl ((r : Nat) : Int)] w (fun _ h => h) ?_
  refine tl_if (¬ ((r : Nat) : Int) = 0) 6 4 [(0, .inl ((r : Nat) : Int))] [] (fun _ h => h) (fun hc0 => ?_) (fun hc0 => ?_)
  · refine tl_go 2 8 [(0, .inl ((r : Nat) : Int))] [.inl 4, .inl ((r : Nat) : Int)] w (fun _ h => h) ?_
    refine tl_if (4 ≤ ((r : Nat) : Int)) 13 11 [(0, .inl ((r : Nat) : Int))] [] (fun _ h => h) (fun hc1 => ?_) (fun hc1 => ?_)
    · refine tl_go 2 16 [(0, .inl ((r : Nat) : Int))] [.inl 10, .inl ((r : Nat) : Int)] w (fun _ h => h) ?_
      refine tl_if (10 ≤ ((r : Nat) : Int)) 27 19 [(0, .inl ((r : Nat) : Int))] [] (fun _ h => h) (fun hc2 => ?_) (fun hc2 => ?_)
      · refine tl_go 5 33 [(0, .inl ((r : Nat) : Int))] [.inl 4, .inl (((r : Nat) : Int) - 10), .inl 4] w (fun _ h => And.intro (by omega) h) ?_
        refine tl_div2 (r - 10) 4 rfl (by omega) (by omega) (by decide) ?_
        refine tl_go 1 35 [(0, .inl ((r : Nat) : Int))] [.inl (4 + (((r - 10) / 4 : Nat) : Int))] w (fun _ h => And.intro (by omega) h) ?_
        exact tl_reti rfl rfl (by unfold tm_pI tm_pn; (repeat' split) <;> omega) (hQ)
      · refine tl_go 5 24 [(0, .inl ((r : Nat) : Int))] [.inl 2, .inl (((r : Nat) : Int) - 4), .inl 1] w (fun _ h => And.intro (by omega) h) ?_
        refine tl_div2 (r - 4) 2 rfl (by omega) (by omega) (by decide) ?_
        refine tl_go 1 26 [(0, .inl ((r : Nat) : Int))] [.inl (1 + (((r - 4) / 2 : Nat) : Int))] w (fun _ h => And.intro (by omega) h) ?_
        exact tl_reti rfl rfl (by unfold tm_pI tm_pn; (repeat' split) <;> omega) (hQ)
    · refine tl_go 1 12 [(0, .inl ((r : Nat) : Int))] [.inl 0] w (fun _ h => h) ?_
      exact tl_reti rfl rfl (by unfold tm_pI tm_pn; (repeat' split) <;> omega) (hQ)
  · refine tl_go 1 5 [(0, .inl ((r : Nat) : Int))] [.inl (-1)] w (fun _ h => h) ?_
    exact tl_reti rfl rfl (by unfold tm_pI tm_pn; (repeat' split) <;> omega) (hQ)
theorem ta_rt (d : Nat) (m : Nat) (w : tl_W) : tl_Ev ta_P (d + 1) 24 [.inl ((m : Nat) : Int)] w (.inl (some ((tm_rt m : Nat) : Int))) w := by
  refine tl_start fun Q hQ => ?_
  refine tl_go 2 2 [(0, .inl ((m : Nat) : Int))] [.inl 5, .inl ((m : Nat) : Int)] w (fun _ h => h) ?_
  refine tl_if (¬ ((m : Nat) : Int) = 5) 7 5 [(0, .inl ((m : Nat) : Int))] [] (fun _ h => h) (fun hc0 => ?_) (fun hc0 => ?_)
  · refine tl_go 2 9 [(0, .inl ((m : Nat) : Int))] [.inl 3, .inl ((m : Nat) : Int)] w (fun _ h => h) ?_
    refine tl_if (((m : Nat) : Int) = 3) 17 12 [(0, .inl ((m : Nat) : Int))] [] (fun _ h => h) (fun hc1 => ?_) (fun hc1 => ?_)
    · refine tl_go 2 22 [(0, .inl ((m : Nat) : Int))] [.inl 1] w (fun _ h => h) ?_
      exact tl_reti rfl rfl (by unfold tm_rt; (repeat' split) <;> omega) (hQ)
    · refine tl_go 2 14 [(0, .inl ((m : Nat) : Int))] [.inl 4, .inl ((m : Nat) : Int)] w (fun _ h => h) ?_
      refine tl_if (¬ ((m : Nat) : Int) = 4) 21 17 [(0, .inl ((m : Nat) : Int))] [] (fun _ h => h) (fun hc2 => ?_) (fun hc2 => ?_)
      · refine tl_go 1 22 [(0, .inl ((m : Nat) : Int))] [.inl 0] w (fun _ h => h) ?_
        exact tl_reti rfl rfl (by unfold tm_rt; (repeat' split) <;> omega) (hQ)
      · refine tl_go 2 22 [(0, .inl ((m : Nat) : Int))] [.inl 1] w (fun _ h => h) ?_
        exact tl_reti rfl rfl (by unfold tm_rt; (repeat' split) <;> omega) (hQ)
  · refine tl_go 1 6 [(0, .inl ((m : Nat) : Int))] [.inl 2] w (fun _ h => h) ?_
    exact tl_reti rfl rfl (by unfold tm_rt; (repeat' split) <;> omega) (hQ)
theorem ta_join (d : Nat) (a b : Nat) (w : tl_W) : tl_Ev ta_P (d + 1) 20 [.inl ((a : Nat) : Int), .inl ((b : Nat) : Int)] w (.inl (some ((tm_jn a b : Nat) : Int))) w := by
  refine tl_start fun Q hQ => ?_
  refine tl_go 2 2 [(0, .inl ((a : Nat) : Int)), (1, .inl ((b : Nat) : Int))] [.inl ((b : Nat) : Int), .inl ((a : Nat) : Int)] w (fun _ h => h) ?_
  refine tl_go 1 5 [(0, .inl ((a : Nat) : Int)), (1, .inl ((b : Nat) : Int))] [.inl (min ((a : Nat) : Int) ((b : Nat) : Int))] w (fun _ h => And.intro (Nat.le_of_ble_eq_true rfl) h) ?_
  refine tl_top (y := ((min a b : Nat) : Int)) (by omega) ?_
  refine tl_go 3 8 [(0, .inl ((a : Nat) : Int)), (1, .inl ((b : Nat) : Int)), (2, .inl ((min a b : Nat) : Int))] [.inl ((b : Nat) : Int), .inl ((a : Nat) : Int)] w (fun _ h => h) ?_
  refine tl_go 1 11 [(0, .inl ((a : Nat) : Int)), (1, .inl ((b : Nat) : Int)), (2, .inl ((min a b : Nat) : Int))] [.inl (max ((a : Nat) : Int) ((b : Nat) : Int))] w (fun _ h => And.intro (Nat.le_of_ble_eq_true rfl) h) ?_
  refine tl_top (y := ((max a b : Nat) : Int)) (by omega) ?_
  refine tl_go 3 14 [(0, .inl ((a : Nat) : Int)), (1, .inl ((b : Nat) : Int)), (2, .inl ((min a b : Nat) : Int)), (3, .inl ((max a b : Nat) : Int))] [.inl 2, .inl ((min a b : Nat) : Int)] w (fun _ h => h) ?_
  refine tl_if (¬ ((min a b : Nat) : Int) = 2) 26 17 [(0, .inl ((a : Nat) : Int)), (1, .inl ((b : Nat) : Int)), (2, .inl ((min a b : Nat) : Int)), (3, .inl ((max a b : Nat) : Int))] [] (fun _ h => h) (fun hc0 => ?_) (fun hc0 => ?_)
  · refine tl_go 1 27 [(0, .inl ((a : Nat) : Int)), (1, .inl ((b : Nat) : Int)), (2, .inl ((min a b : Nat) : Int)), (3, .inl ((max a b : Nat) : Int))] [.inl ((max a b : Nat) : Int)] w (fun _ h => h) ?_
    exact tl_reti rfl rfl (by unfold tm_jn; (repeat' split) <;> omega) (hQ)
  · refine tl_go 2 19 [(0, .inl ((a : Nat) : Int)), (1, .inl ((b : Nat) : Int)), (2, .inl ((min a b : Nat) : Int)), (3, .inl ((max a b : Nat) : Int))] [.inl 3, .inl ((max a b : Nat) : Int)] w (fun _ h => h) ?_
    refine tl_if (¬ ((max a b : Nat) : Int) = 3) 26 22 [(0, .inl ((a : Nat) : Int)), (1, .inl ((b : Nat) : Int)), (2, .inl ((min a b : Nat) : Int)), (3, .inl ((max a b : Nat) : Int))] [] (fun _ h => h) (fun hc1 => ?_) (fun hc1 => ?_)
    · refine tl_go 1 27 [(0, .inl ((a : Nat) : Int)), (1, .inl ((b : Nat) : Int)), (2, .inl ((min a b : Nat) : Int)), (3, .inl ((max a b : Nat) : Int))] [.inl ((max a b : Nat) : Int)] w (fun _ h => h) ?_
      exact tl_reti rfl rfl (by unfold tm_jn; (repeat' split) <;> omega) (hQ)
    · refine tl_go 2 27 [(0, .inl ((a : Nat) : Int)), (1, .inl ((b : Nat) : Int)), (2, .inl ((min a b : Nat) : Int)), (3, .inl ((max a b : Nat) : Int))] [.inl 4] w (fun _ h => h) ?_
      exact tl_reti rfl rfl (by unfold tm_jn; (repeat' split) <;> omega) (hQ)
theorem ta_cov (d : Nat) (a b : Nat) (w : tl_W) : tl_Ev ta_P (d + 2) 21 [.inl ((a : Nat) : Int), .inl ((b : Nat) : Int)] w (.inl (some (tm_b (decide (tm_jn a b = a))))) w := by
  refine tl_start fun Q hQ => ?_
  refine tl_go 2 2 [(0, .inl ((a : Nat) : Int)), (1, .inl ((b : Nat) : Int))] [.inl ((b : Nat) : Int), .inl ((a : Nat) : Int)] w (fun _ h => h) ?_
  refine tl_callS (as := [.inl ((a : Nat) : Int), .inl ((b : Nat) : Int)]) (rest := []) (v := some ((tm_jn a b : Nat) : Int)) (w' := w) rfl rfl rfl rfl (ta_join d a b w) (Nat.le_of_ble_eq_true rfl) rfl rfl (Nat.le_of_ble_eq_true rfl) ?_
  refine tl_go 1 6 [(0, .inl ((a : Nat) : Int)), (1, .inl ((b : Nat) : Int))] [.inl ((a : Nat) : Int), .inl ((tm_jn a b : Nat) : Int)] w (fun _ h => h) ?_
  refine tl_if (¬ ((tm_jn a b : Nat) : Int) = ((a : Nat) : Int)) 13 9 [(0, .inl ((a : Nat) : Int)), (1, .inl ((b : Nat) : Int))] [] (fun _ h => h) (fun hc0 => ?_) (fun hc0 => ?_)
  · refine tl_go 1 14 [(0, .inl ((a : Nat) : Int)), (1, .inl ((b : Nat) : Int))] [.inl 0] w (fun _ h => h) ?_
    exact tl_retz rfl rfl (tm_b0 (decide_eq_false (by omega))) (hQ)
  · refine tl_go 2 14 [(0, .inl ((a : Nat) : Int)), (1, .inl ((b : Nat) : Int))] [.inl 1] w (fun _ h => h) ?_
    exact tl_retz rfl rfl (tm_b1 (decide_eq_true (by omega))) (hQ)
theorem ta_mo (d : Nat) (t r : Nat) (ht : t < 8) (hr : r < 34) (w : tl_W) {x : Int} (hx : w 0 (34 * t + r) = x) : tl_Ev ta_P (d + 1) 25 [.inr 0, .inl ((t : Nat) : Int), .inl ((r : Nat) : Int)] w (.inl (some x)) w := by
  refine tl_start fun Q hQ => ?_
  refine tl_go 7 10 [(0, .inr 0), (1, .inl ((t : Nat) : Int)), (2, .inl ((r : Nat) : Int))] [.inl ((((t : Nat) : Int) * 34) + ((r : Nat) : Int)), .inr 1] w (fun _ h => And.intro rfl (And.intro (by decide) (And.intro (by omega) (And.intro (by omega) h)))) ?_
  refine tl_ald (34 * t + r) 272 (k := 0) rfl (by omega) rfl (by omega) ?_
  exact tl_reti rfl rfl (hx) (hQ)
theorem ta_sm (d : Nat) (t r : Nat) (ht : t < 8) (hr : r < 34) (x : Int) (w : tl_W) : tl_Ev ta_P (d + 1) 26 [.inr 0, .inl ((t : Nat) : Int), .inl ((r : Nat) : Int), .inl x] w (.inl (none)) (tl_set w 0 (34 * t + r) x) := by
  refine tl_start fun Q hQ => ?_
  refine tl_go 8 11 [(0, .inr 0), (1, .inl ((t : Nat) : Int)), (2, .inl ((r : Nat) : Int)), (3, .inl x)] [.inl x, .inl ((((t : Nat) : Int) * 34) + ((r : Nat) : Int)), .inr 1] w (fun _ h => And.intro rfl (And.intro (by decide) (And.intro (by omega) (And.intro (by omega) h)))) ?_
  refine tl_ast (34 * t + r) 272 (k := 0) rfl (by decide) (by omega) rfl (by omega) ?_
  exact tl_retv rfl rfl (hQ)
theorem ta_ih (d : Nat) (t r : Nat) (ht : t < 8) (hr : r < 34) (w : tl_W) {x : Nat} (hx : w 0 (34 * t + r) = x) : tl_Ev ta_P (d + 2) 27 [.inr 0, .inl ((t : Nat) : Int), .inl ((r : Nat) : Int)] w (.inl (some (tm_b (decide (x ≠ 0))))) w := by
  refine tl_start fun Q hQ => ?_
  refine tl_go 3 3 [(0, .inr 0), (1, .inl ((t : Nat) : Int)), (2, .inl ((r : Nat) : Int))] [.inl ((r : Nat) : Int), .inl ((t : Nat) : Int), .inr 0] w (fun _ h => h) ?_
  refine tl_callV (as := [.inr 0, .inl ((t : Nat) : Int), .inl ((r : Nat) : Int)]) (rest := []) (v := some ((x : Nat) : Int)) (w' := w) rfl rfl (ta_mo d t r ht hr w hx) (Nat.le_of_ble_eq_true rfl) rfl rfl rfl (Nat.le_of_ble_eq_true rfl) ?_
  refine tl_if (((x : Nat) : Int) = 0) 13 9 [(0, .inr 0), (1, .inl ((t : Nat) : Int)), (2, .inl ((r : Nat) : Int))] [] (fun _ h => h) (fun hc0 => ?_) (fun hc0 => ?_)
  · refine tl_go 1 14 [(0, .inr 0), (1, .inl ((t : Nat) : Int)), (2, .inl ((r : Nat) : Int))] [.inl 0] w (fun _ h => h) ?_
    exact tl_retz rfl rfl (tm_b0 (decide_eq_false (by omega))) (hQ)
  · refine tl_go 2 14 [(0, .inr 0), (1, .inl ((t : Nat) : Int)), (2, .inl ((r : Nat) : Int))] [.inl 1] w (fun _ h => h) ?_
    exact tl_retz rfl rfl (tm_b1 (decide_eq_true (by omega))) (hQ)
theorem ta_con (d : Nat) (s t : Nat) (ht : t < 32) (w : tl_W) : tl_Ev ta_P (d + 1) 46 [.inl ((s : Nat) : Int), .inl ((t : Nat) : Int)] w (.inl (some (tm_b (decide (s.testBit t = true))))) w := by
  refine tl_start fun Q hQ => ?_
  refine tl_go 2 2 [(0, .inl ((s : Nat) : Int)), (1, .inl ((t : Nat) : Int))] [.inl ((t : Nat) : Int), .inl ((s : Nat) : Int)] w (fun _ h => h) ?_
  refine tl_shr2 s t rfl rfl rfl ht ?_
  refine tl_go 1 4 [(0, .inl ((s : Nat) : Int)), (1, .inl ((t : Nat) : Int))] [.inl 1, .inl ((s / 2 ^ t : Nat) : Int)] w (fun _ h => h) ?_
  refine tl_and2 (s / 2 ^ t) 1 rfl rfl rfl ?_
  refine tl_top (y := ((s / 2 ^ t % 2 : Nat) : Int)) (by rw [Nat.and_one_is_mod]) ?_
  have hb : s.testBit t = decide (s / 2 ^ t % 2 = 1) := Nat.testBit_eq_decide_div_mod_eq
  refine tl_go 1 6 [(0, .inl ((s : Nat) : Int)), (1, .inl ((t : Nat) : Int))] [.inl 1, .inl ((s / 2 ^ t % 2 : Nat) : Int)] w (fun _ h => h) ?_
  refine tl_if (¬ ((s / 2 ^ t % 2 : Nat) : Int) = 1) 13 9 [(0, .inl ((s : Nat) : Int)), (1, .inl ((t : Nat) : Int))] [] (fun _ h => h) (fun hc0 => ?_) (fun hc0 => ?_)
  · refine tl_go 1 14 [(0, .inl ((s : Nat) : Int)), (1, .inl ((t : Nat) : Int))] [.inl 0] w (fun _ h => h) ?_
    exact tl_retz rfl rfl (tm_b0 (decide_eq_false (by rw [hb]; intro q; have := of_decide_eq_true q; omega))) (hQ)
  · refine tl_go 2 14 [(0, .inl ((s : Nat) : Int)), (1, .inl ((t : Nat) : Int))] [.inl 1] w (fun _ h => h) ?_
    exact tl_retz rfl rfl (tm_b1 (decide_eq_true (by rw [hb]; exact decide_eq_true (by omega)))) (hQ)
def tm_aw (x : Nat) : Int := if x < 2 then -1 else (x : Int) - 2
theorem ta_aw (d : Nat) (t : Nat) (ht : t < 8) (w : tl_W) {x : Nat} (hx : w 1 t = x) (hx5 : x ≤ 35) : tl_Ev ta_P (d + 1) 35 [.inr 0, .inl ((t : Nat) : Int)] w (.inl (some (tm_aw x))) w := by
  refine tl_start fun Q hQ => ?_
  refine tl_go 3 5 [(0, .inr 0), (1, .inl ((t : Nat) : Int))] [.inl ((t : Nat) : Int), .inr 2] w (fun _ h => And.intro rfl (And.intro (by decide) (h))) ?_
  refine tl_ald (t) 8 (k := 1) rfl (by omega) rfl (by omega) ?_
  refine tl_top (y := ((x : Nat) : Int)) (hx) ?_
  refine tl_go 1 7 [(0, .inr 0), (1, .inl ((t : Nat) : Int))] [.inl 2, .inl ((x : Nat) : Int)] w (fun _ h => h) ?_
  refine tl_if (((x : Nat) : Int) < 2) 21 10 [(0, .inr 0), (1, .inl ((t : Nat) : Int))] [] (fun _ h => h) (fun hc => ?_) (fun hc => ?_)
  · refine tl_go 1 22 [(0, .inr 0), (1, .inl ((t : Nat) : Int))] [.inl (-1)] w (fun _ h => h) ?_
    exact tl_reti rfl rfl (by unfold tm_aw; split <;> omega) (hQ)
  · refine tl_go 3 15 [(0, .inr 0), (1, .inl ((t : Nat) : Int))] [.inl ((t : Nat) : Int), .inr 2] w (fun _ h => And.intro rfl (And.intro (by decide) (h))) ?_
    refine tl_ald (t) 8 (k := 1) rfl (by omega) rfl (by omega) ?_
    refine tl_top (y := ((x : Nat) : Int)) (hx) ?_
    refine tl_go 3 22 [(0, .inr 0), (1, .inl ((t : Nat) : Int))] [.inl (((x : Nat) : Int) - 2)] w (fun _ h => And.intro (by omega) h) ?_
    exact tl_reti rfl rfl (by unfold tm_aw; split <;> omega) (hQ)
def tm_tb : Nat → Nat
  | 0 => 63
  | 1 => 31
  | 2 => 7
  | 3 => 11
  | 4 => 3
  | _ => 1
theorem tm_tb_t : ∀ a, a < 6 → ∀ b, b < 6 → (tm_tb a / 2 ^ b &&& 1 = 1 ↔ tm_tog a b = true) := by decide +kernel
theorem ta_tog (d : Nat) (a b : Nat) (ha : a ≤ 5) (hb : b ≤ 5) (w : tl_W) (hT : ∀ j, j < 6 → w 99 j = (tm_tb j : Int)) : tl_Ev ta_P (d + 1) 19 [.inl ((a : Nat) : Int), .inl ((b : Nat) : Int)] w (.inl (some (tm_b (decide (tm_tog a b = true))))) w := by
  refine tl_start fun Q hQ => ?_
  refine tl_go 2 4 [(0, .inl ((a : Nat) : Int)), (1, .inl ((b : Nat) : Int))] [.inl ((a : Nat) : Int), .inr 100] w (fun _ h => And.intro rfl (h)) ?_
  refine tl_ald (a) 6 (k := 99) rfl (by omega) rfl (by omega) ?_
  refine tl_top (y := ((tm_tb a : Nat) : Int)) (hT a (by omega)) ?_
  refine tl_go 1 6 [(0, .inl ((a : Nat) : Int)), (1, .inl ((b : Nat) : Int))] [.inl ((b : Nat) : Int), .inl ((tm_tb a : Nat) : Int)] w (fun _ h => h) ?_
  refine tl_shr2 (tm_tb a) b rfl rfl rfl (by omega) ?_
  refine tl_go 1 8 [(0, .inl ((a : Nat) : Int)), (1, .inl ((b : Nat) : Int))] [.inl 1, .inl ((tm_tb a / 2 ^ b : Nat) : Int)] w (fun _ h => h) ?_
  refine tl_and2 (tm_tb a / 2 ^ b) 1 rfl rfl rfl ?_
  have hb := tm_tb_t a (by omega) b (by omega)
  refine tl_go 1 10 [(0, .inl ((a : Nat) : Int)), (1, .inl ((b : Nat) : Int))] [.inl 1, .inl ((tm_tb a / 2 ^ b &&& 1 : Nat) : Int)] w (fun _ h => h) ?_
  refine tl_if (¬ ((tm_tb a / 2 ^ b &&& 1 : Nat) : Int) = 1) 17 13 [(0, .inl ((a : Nat) : Int)), (1, .inl ((b : Nat) : Int))] [] (fun _ h => h) (fun hc0 => ?_) (fun hc0 => ?_)
  · refine tl_go 1 18 [(0, .inl ((a : Nat) : Int)), (1, .inl ((b : Nat) : Int))] [.inl 0] w (fun _ h => h) ?_
    exact tl_retz rfl rfl (tm_b0 (decide_eq_false (fun q => hc0 (by rw [hb.mpr q]; rfl)))) (hQ)
  · refine tl_go 2 18 [(0, .inl ((a : Nat) : Int)), (1, .inl ((b : Nat) : Int))] [.inl 1] w (fun _ h => h) ?_
    exact tl_retz rfl rfl (tm_b1 (decide_eq_true (hb.mp (by omega)))) (hQ)
