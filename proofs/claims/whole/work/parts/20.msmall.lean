/-! 20.msmall: the reference's small methods, printed by b1.py -/
theorem tb_isT (d : Nat) (t : Int) (w : tl_W) : tl_Ev tb_P (d + 1) 8 [.inl t] w (.inl (some (tm_b (decide (0 ≤ t ∧ t < 8))))) w := by
  refine tl_start fun Q hQ => ?_
  refine tl_go 1 1 [(0, .inl t)] [.inl t] w (fun _ h => h) ?_
  refine tl_if (t < 0) 14 4 [(0, .inl t)] [] (fun _ h => h) (fun hc0 => ?_) (fun hc0 => ?_)
  · refine tl_go 1 15 [(0, .inl t)] [.inl 0] w (fun _ h => h) ?_
    exact tl_retz rfl rfl (tm_b0 (decide_eq_false (by omega))) (hQ)
  · refine tl_go 2 7 [(0, .inl t)] [.inl 8, .inl t] w (fun _ h => h) ?_
    refine tl_if (8 ≤ t) 14 10 [(0, .inl t)] [] (fun _ h => h) (fun hc1 => ?_) (fun hc1 => ?_)
    · refine tl_go 1 15 [(0, .inl t)] [.inl 0] w (fun _ h => h) ?_
      exact tl_retz rfl rfl (tm_b0 (decide_eq_false (by omega))) (hQ)
    · refine tl_go 2 15 [(0, .inl t)] [.inl 1] w (fun _ h => h) ?_
      exact tl_retz rfl rfl (tm_b1 (decide_eq_true (by omega))) (hQ)
theorem tb_isR (d : Nat) (r : Int) (w : tl_W) : tl_Ev tb_P (d + 1) 9 [.inl r] w (.inl (some (tm_b (decide (0 ≤ r ∧ r < 34))))) w := by
  refine tl_start fun Q hQ => ?_
  refine tl_go 1 1 [(0, .inl r)] [.inl r] w (fun _ h => h) ?_
  refine tl_if (r < 0) 14 4 [(0, .inl r)] [] (fun _ h => h) (fun hc0 => ?_) (fun hc0 => ?_)
  · refine tl_go 1 15 [(0, .inl r)] [.inl 0] w (fun _ h => h) ?_
    exact tl_retz rfl rfl (tm_b0 (decide_eq_false (by omega))) (hQ)
  · refine tl_go 2 7 [(0, .inl r)] [.inl 34, .inl r] w (fun _ h => h) ?_
    refine tl_if (34 ≤ r) 14 10 [(0, .inl r)] [] (fun _ h => h) (fun hc1 => ?_) (fun hc1 => ?_)
    · refine tl_go 1 15 [(0, .inl r)] [.inl 0] w (fun _ h => h) ?_
      exact tl_retz rfl rfl (tm_b0 (decide_eq_false (by omega))) (hQ)
    · refine tl_go 2 15 [(0, .inl r)] [.inl 1] w (fun _ h => h) ?_
      exact tl_retz rfl rfl (tm_b1 (decide_eq_true (by omega))) (hQ)
theorem tb_par (d : Nat) (r : Nat) (hr : r < 34) (w : tl_W) : tl_Ev tb_P (d + 1) 3 [.inl ((r : Nat) : Int)] w (.inl (some (tm_pI r))) w := by
  refine tl_start fun Q hQ => ?_
  refine tl_go 2 3 [(0, .inl ((r : Nat) : Int))] [.inl 9, .inl ((r : Nat) : Int)] w (fun _ h => h) ?_
  refine tl_if (((r : Nat) : Int) ≤ 9) 17 6 [(0, .inl ((r : Nat) : Int))] [] (fun _ h => h) (fun hc0 => ?_) (fun hc0 => ?_)
  · refine tl_go 2 19 [(0, .inl ((r : Nat) : Int))] [.inl 3, .inl ((r : Nat) : Int)] w (fun _ h => h) ?_
    refine tl_if (((r : Nat) : Int) ≤ 3) 32 22 [(0, .inl ((r : Nat) : Int))] [] (fun _ h => h) (fun hc1 => ?_) (fun hc1 => ?_)
    · refine tl_go 1 33 [(0, .inl ((r : Nat) : Int))] [.inl ((r : Nat) : Int)] w (fun _ h => h) ?_
      refine tl_if (((r : Nat) : Int) ≤ 0) 40 36 [(0, .inl ((r : Nat) : Int))] [] (fun _ h => h) (fun hc2 => ?_) (fun hc2 => ?_)
      · refine tl_go 1 41 [(0, .inl ((r : Nat) : Int))] [.inl (-1)] w (fun _ h => h) ?_
        exact tl_reti rfl rfl (by unfold tm_pI tm_pn; (repeat' split) <;> omega) (hQ)
      · refine tl_go 2 41 [(0, .inl ((r : Nat) : Int))] [.inl 0] w (fun _ h => h) ?_
        exact tl_reti rfl rfl (by unfold tm_pI tm_pn; (repeat' split) <;> omega) (hQ)
    · refine tl_go 5 27 [(0, .inl ((r : Nat) : Int))] [.inl 2, .inl (((r : Nat) : Int) - 4), .inl 1] w (fun _ h => And.intro (by omega) h) ?_
      refine tl_div2 (r - 4) 2 rfl (by omega) (by omega) (by decide) ?_
      refine tl_go 2 41 [(0, .inl ((r : Nat) : Int))] [.inl (1 + (((r - 4) / 2 : Nat) : Int))] w (fun _ h => And.intro (by omega) h) ?_
      exact tl_reti rfl rfl (by unfold tm_pI tm_pn; (repeat' split) <;> omega) (hQ)
  · refine tl_go 5 12 [(0, .inl ((r : Nat) : Int))] [.inl 4, .inl (((r : Nat) : Int) - 10), .inl 4] w (fun _ h => And.intro (by omega) h) ?_
    refine tl_div2 (r - 10) 4 rfl (by omega) (by omega) (by decide) ?_
    refine tl_go 2 41 [(0, .inl ((r : Nat) : Int))] [.inl (4 + (((r - 10) / 4 : Nat) : Int))] w (fun _ h => And.intro (by omega) h) ?_
    exact tl_reti rfl rfl (by unfold tm_pI tm_pn; (repeat' split) <;> omega) (hQ)
theorem tm_tog_iff {a b : Nat} : tm_tog a b = true ↔ (min a b = 0 ∨ (min a b = 1 ∧ max a b < 5) ∨ (min a b = max a b ∧ (min a b = 2 ∨ min a b = 3))) := by
  unfold tm_tog
  simp only [Bool.or_eq_true, Bool.and_eq_true, beq_iff_eq, decide_eq_true_eq]

theorem tb_tog (d : Nat) (a b : Nat) (w : tl_W) : tl_Ev tb_P (d + 1) 5 [.inl ((a : Nat) : Int), .inl ((b : Nat) : Int)] w (.inl (some (tm_b (decide (tm_tog a b = true))))) w := by
  refine tl_start fun Q hQ => ?_
  refine tl_go 2 2 [(0, .inl ((a : Nat) : Int)), (1, .inl ((b : Nat) : Int))] [.inl ((b : Nat) : Int), .inl ((a : Nat) : Int)] w (fun _ h => h) ?_
  refine tl_if (((b : Nat) : Int) ≤ ((a : Nat) : Int)) 9 5 [(0, .inl ((a : Nat) : Int)), (1, .inl ((b : Nat) : Int))] [] (fun _ h => h) (fun hc0 => ?_) (fun hc0 => ?_)
  · refine tl_go 4 13 [(0, .inl ((a : Nat) : Int)), (1, .inl ((b : Nat) : Int)), (2, .inl ((b : Nat) : Int))] [.inl ((b : Nat) : Int), .inl ((a : Nat) : Int)] w (fun _ h => h) ?_
    refine tl_if (((b : Nat) : Int) ≤ ((a : Nat) : Int)) 20 16 [(0, .inl ((a : Nat) : Int)), (1, .inl ((b : Nat) : Int)), (2, .inl ((b : Nat) : Int))] [] (fun _ h => h) (fun hc1 => ?_) (fun hc1 => ?_)
    · refine tl_go 3 23 [(0, .inl ((a : Nat) : Int)), (1, .inl ((b : Nat) : Int)), (2, .inl ((b : Nat) : Int)), (3, .inl ((a : Nat) : Int))] [.inl ((b : Nat) : Int)] w (fun _ h => h) ?_
      refine tl_if (((b : Nat) : Int) = 0) 51 26 [(0, .inl ((a : Nat) : Int)), (1, .inl ((b : Nat) : Int)), (2, .inl ((b : Nat) : Int)), (3, .inl ((a : Nat) : Int))] [] (fun _ h => h) (fun hc2 => ?_) (fun hc2 => ?_)
      · refine tl_go 2 56 [(0, .inl ((a : Nat) : Int)), (1, .inl ((b : Nat) : Int)), (2, .inl ((b : Nat) : Int)), (3, .inl ((a : Nat) : Int))] [.inl 1] w (fun _ h => h) ?_
        exact tl_retz rfl rfl (tm_b1 (decide_eq_true (tm_tog_iff.mpr (by omega)))) (hQ)
      · refine tl_go 2 28 [(0, .inl ((a : Nat) : Int)), (1, .inl ((b : Nat) : Int)), (2, .inl ((b : Nat) : Int)), (3, .inl ((a : Nat) : Int))] [.inl 1, .inl ((b : Nat) : Int)] w (fun _ h => h) ?_
        refine tl_if (¬ ((b : Nat) : Int) = 1) 36 31 [(0, .inl ((a : Nat) : Int)), (1, .inl ((b : Nat) : Int)), (2, .inl ((b : Nat) : Int)), (3, .inl ((a : Nat) : Int))] [] (fun _ h => h) (fun hc3 => ?_) (fun hc3 => ?_)
        · refine tl_go 2 38 [(0, .inl ((a : Nat) : Int)), (1, .inl ((b : Nat) : Int)), (2, .inl ((b : Nat) : Int)), (3, .inl ((a : Nat) : Int))] [.inl ((a : Nat) : Int), .inl ((b : Nat) : Int)] w (fun _ h => h) ?_
          refine tl_if (¬ ((b : Nat) : Int) = ((a : Nat) : Int)) 55 41 [(0, .inl ((a : Nat) : Int)), (1, .inl ((b : Nat) : Int)), (2, .inl ((b : Nat) : Int)), (3, .inl ((a : Nat) : Int))] [] (fun _ h => h) (fun hc4 => ?_) (fun hc4 => ?_)
          · refine tl_go 1 56 [(0, .inl ((a : Nat) : Int)), (1, .inl ((b : Nat) : Int)), (2, .inl ((b : Nat) : Int)), (3, .inl ((a : Nat) : Int))] [.inl 0] w (fun _ h => h) ?_
            exact tl_retz rfl rfl (tm_b0 (decide_eq_false (fun q => by have q := tm_tog_iff.mp q; omega))) (hQ)
          · refine tl_go 2 43 [(0, .inl ((a : Nat) : Int)), (1, .inl ((b : Nat) : Int)), (2, .inl ((b : Nat) : Int)), (3, .inl ((a : Nat) : Int))] [.inl 2, .inl ((b : Nat) : Int)] w (fun _ h => h) ?_
            refine tl_if (((b : Nat) : Int) = 2) 51 46 [(0, .inl ((a : Nat) : Int)), (1, .inl ((b : Nat) : Int)), (2, .inl ((b : Nat) : Int)), (3, .inl ((a : Nat) : Int))] [] (fun _ h => h) (fun hc5 => ?_) (fun hc5 => ?_)
            · refine tl_go 2 56 [(0, .inl ((a : Nat) : Int)), (1, .inl ((b : Nat) : Int)), (2, .inl ((b : Nat) : Int)), (3, .inl ((a : Nat) : Int))] [.inl 1] w (fun _ h => h) ?_
              exact tl_retz rfl rfl (tm_b1 (decide_eq_true (tm_tog_iff.mpr (by omega)))) (hQ)
            · refine tl_go 2 48 [(0, .inl ((a : Nat) : Int)), (1, .inl ((b : Nat) : Int)), (2, .inl ((b : Nat) : Int)), (3, .inl ((a : Nat) : Int))] [.inl 3, .inl ((b : Nat) : Int)] w (fun _ h => h) ?_
              refine tl_if (¬ ((b : Nat) : Int) = 3) 55 51 [(0, .inl ((a : Nat) : Int)), (1, .inl ((b : Nat) : Int)), (2, .inl ((b : Nat) : Int)), (3, .inl ((a : Nat) : Int))] [] (fun _ h => h) (fun hc6 => ?_) (fun hc6 => ?_)
              · refine tl_go 1 56 [(0, .inl ((a : Nat) : Int)), (1, .inl ((b : Nat) : Int)), (2, .inl ((b : Nat) : Int)), (3, .inl ((a : Nat) : Int))] [.inl 0] w (fun _ h => h) ?_
                exact tl_retz rfl rfl (tm_b0 (decide_eq_false (fun q => by have q := tm_tog_iff.mp q; omega))) (hQ)
              · refine tl_go 2 56 [(0, .inl ((a : Nat) : Int)), (1, .inl ((b : Nat) : Int)), (2, .inl ((b : Nat) : Int)), (3, .inl ((a : Nat) : Int))] [.inl 1] w (fun _ h => h) ?_
                exact tl_retz rfl rfl (tm_b1 (decide_eq_true (tm_tog_iff.mpr (by omega)))) (hQ)
        · refine tl_go 2 33 [(0, .inl ((a : Nat) : Int)), (1, .inl ((b : Nat) : Int)), (2, .inl ((b : Nat) : Int)), (3, .inl ((a : Nat) : Int))] [.inl 5, .inl ((a : Nat) : Int)] w (fun _ h => h) ?_
          refine tl_if (((a : Nat) : Int) < 5) 51 36 [(0, .inl ((a : Nat) : Int)), (1, .inl ((b : Nat) : Int)), (2, .inl ((b : Nat) : Int)), (3, .inl ((a : Nat) : Int))] [] (fun _ h => h) (fun hc4 => ?_) (fun hc4 => ?_)
          · refine tl_go 2 56 [(0, .inl ((a : Nat) : Int)), (1, .inl ((b : Nat) : Int)), (2, .inl ((b : Nat) : Int)), (3, .inl ((a : Nat) : Int))] [.inl 1] w (fun _ h => h) ?_
            exact tl_retz rfl rfl (tm_b1 (decide_eq_true (tm_tog_iff.mpr (by omega)))) (hQ)
          · refine tl_go 2 38 [(0, .inl ((a : Nat) : Int)), (1, .inl ((b : Nat) : Int)), (2, .inl ((b : Nat) : Int)), (3, .inl ((a : Nat) : Int))] [.inl ((a : Nat) : Int), .inl ((b : Nat) : Int)] w (fun _ h => h) ?_
            refine tl_if (¬ ((b : Nat) : Int) = ((a : Nat) : Int)) 55 41 [(0, .inl ((a : Nat) : Int)), (1, .inl ((b : Nat) : Int)), (2, .inl ((b : Nat) : Int)), (3, .inl ((a : Nat) : Int))] [] (fun _ h => h) (fun hc5 => ?_) (fun hc5 => ?_)
            · refine tl_go 1 56 [(0, .inl ((a : Nat) : Int)), (1, .inl ((b : Nat) : Int)), (2, .inl ((b : Nat) : Int)), (3, .inl ((a : Nat) : Int))] [.inl 0] w (fun _ h => h) ?_
              exact tl_retz rfl rfl (tm_b0 (decide_eq_false (fun q => by have q := tm_tog_iff.mp q; omega))) (hQ)
            · refine tl_go 2 43 [(0, .inl ((a : Nat) : Int)), (1, .inl ((b : Nat) : Int)), (2, .inl ((b : Nat) : Int)), (3, .inl ((a : Nat) : Int))] [.inl 2, .inl ((b : Nat) : Int)] w (fun _ h => h) ?_
              refine tl_if (((b : Nat) : Int) = 2) 51 46 [(0, .inl ((a : Nat) : Int)), (1, .inl ((b : Nat) : Int)), (2, .inl ((b : Nat) : Int)), (3, .inl ((a : Nat) : Int))] [] (fun _ h => h) (fun hc6 => ?_) (fun hc6 => ?_)
              · refine tl_go 2 56 [(0, .inl ((a : Nat) : Int)), (1, .inl ((b : Nat) : Int)), (2, .inl ((b : Nat) : Int)), (3, .inl ((a : Nat) : Int))] [.inl 1] w (fun _ h => h) ?_
                exact tl_retz rfl rfl (tm_b1 (decide_eq_true (tm_tog_iff.mpr (by omega)))) (hQ)
              · refine tl_go 2 48 [(0, .inl ((a : Nat) : Int)), (1, .inl ((b : Nat) : Int)), (2, .inl ((b : Nat) : Int)), (3, .inl ((a : Nat) : Int))] [.inl 3, .inl ((b : Nat) : Int)] w (fun _ h => h) ?_
                refine tl_if (¬ ((b : Nat) : Int) = 3) 55 51 [(0, .inl ((a : Nat) : Int)), (1, .inl ((b : Nat) : Int)), (2, .inl ((b : Nat) : Int)), (3, .inl ((a : Nat) : Int))] [] (fun _ h => h) (fun hc7 => ?_) (fun hc7 => ?_)
                · refine tl_go 1 56 [(0, .inl ((a : Nat) : Int)), (1, .inl ((b : Nat) : Int)), (2, .inl ((b : Nat) : Int)), (3, .inl ((a : Nat) : Int))] [.inl 0] w (fun _ h => h) ?_
                  exact tl_retz rfl rfl (tm_b0 (decide_eq_false (fun q => by have q := tm_tog_iff.mp q; omega))) (hQ)
                · refine tl_go 2 56 [(0, .inl ((a : Nat) : Int)), (1, .inl ((b : Nat) : Int)), (2, .inl ((b : Nat) : Int)), (3, .inl ((a : Nat) : Int))] [.inl 1] w (fun _ h => h) ?_
                  exact tl_retz rfl rfl (tm_b1 (decide_eq_true (tm_tog_iff.mpr (by omega)))) (hQ)
    · refine tl_go 4 23 [(0, .inl ((a : Nat) : Int)), (1, .inl ((b : Nat) : Int)), (2, .inl ((b : Nat) : Int)), (3, .inl ((b : Nat) : Int))] [.inl ((b : Nat) : Int)] w (fun _ h => h) ?_
      refine tl_if (((b : Nat) : Int) = 0) 51 26 [(0, .inl ((a : Nat) : Int)), (1, .inl ((b : Nat) : Int)), (2, .inl ((b : Nat) : Int)), (3, .inl ((b : Nat) : Int))] [] (fun _ h => h) (fun hc2 => ?_) (fun hc2 => ?_)
      · refine tl_go 2 56 [(0, .inl ((a : Nat) : Int)), (1, .inl ((b : Nat) : Int)), (2, .inl ((b : Nat) : Int)), (3, .inl ((b : Nat) : Int))] [.inl 1] w (fun _ h => h) ?_
        exact tl_retz rfl rfl (tm_b1 (decide_eq_true (tm_tog_iff.mpr (by omega)))) (hQ)
      · refine tl_go 2 28 [(0, .inl ((a : Nat) : Int)), (1, .inl ((b : Nat) : Int)), (2, .inl ((b : Nat) : Int)), (3, .inl ((b : Nat) : Int))] [.inl 1, .inl ((b : Nat) : Int)] w (fun _ h => h) ?_
        refine tl_if (¬ ((b : Nat) : Int) = 1) 36 31 [(0, .inl ((a : Nat) : Int)), (1, .inl ((b : Nat) : Int)), (2, .inl ((b : Nat) : Int)), (3, .inl ((b : Nat) : Int))] [] (fun _ h => h) (fun hc3 => ?_) (fun hc3 => ?_)
        · refine tl_go 2 38 [(0, .inl ((a : Nat) : Int)), (1, .inl ((b : Nat) : Int)), (2, .inl ((b : Nat) : Int)), (3, .inl ((b : Nat) : Int))] [.inl ((b : Nat) : Int), .inl ((b : Nat) : Int)] w (fun _ h => h) ?_
          refine tl_if (¬ ((b : Nat) : Int) = ((b : Nat) : Int)) 55 41 [(0, .inl ((a : Nat) : Int)), (1, .inl ((b : Nat) : Int)), (2, .inl ((b : Nat) : Int)), (3, .inl ((b : Nat) : Int))] [] (fun _ h => h) (fun hc4 => ?_) (fun hc4 => ?_)
          · refine tl_go 1 56 [(0, .inl ((a : Nat) : Int)), (1, .inl ((b : Nat) : Int)), (2, .inl ((b : Nat) : Int)), (3, .inl ((b : Nat) : Int))] [.inl 0] w (fun _ h => h) ?_
            exact tl_retz rfl rfl (tm_b0 (decide_eq_false (fun q => by have q := tm_tog_iff.mp q; omega))) (hQ)
          · refine tl_go 2 43 [(0, .inl ((a : Nat) : Int)), (1, .inl ((b : Nat) : Int)), (2, .inl ((b : Nat) : Int)), (3, .inl ((b : Nat) : Int))] [.inl 2, .inl ((b : Nat) : Int)] w (fun _ h => h) ?_
            refine tl_if (((b : Nat) : Int) = 2) 51 46 [(0, .inl ((a : Nat) : Int)), (1, .inl ((b : Nat) : Int)), (2, .inl ((b : Nat) : Int)), (3, .inl ((b : Nat) : Int))] [] (fun _ h => h) (fun hc5 => ?_) (fun hc5 => ?_)
            · refine tl_go 2 56 [(0, .inl ((a : Nat) : Int)), (1, .inl ((b : Nat) : Int)), (2, .inl ((b : Nat) : Int)), (3, .inl ((b : Nat) : Int))] [.inl 1] w (fun _ h => h) ?_
              exact tl_retz rfl rfl (tm_b1 (decide_eq_true (tm_tog_iff.mpr (by omega)))) (hQ)
            · refine tl_go 2 48 [(0, .inl ((a : Nat) : Int)), (1, .inl ((b : Nat) : Int)), (2, .inl ((b : Nat) : Int)), (3, .inl ((b : Nat) : Int))] [.inl 3, .inl ((b : Nat) : Int)] w (fun _ h => h) ?_
              refine tl_if (¬ ((b : Nat) : Int) = 3) 55 51 [(0, .inl ((a : Nat) : Int)), (1, .inl ((b : Nat) : Int)), (2, .inl ((b : Nat) : Int)), (3, .inl ((b : Nat) : Int))] [] (fun _ h => h) (fun hc6 => ?_) (fun hc6 => ?_)
              · refine tl_go 1 56 [(0, .inl ((a : Nat) : Int)), (1, .inl ((b : Nat) : Int)), (2, .inl ((b : Nat) : Int)), (3, .inl ((b : Nat) : Int))] [.inl 0] w (fun _ h => h) ?_
                exact tl_retz rfl rfl (tm_b0 (decide_eq_false (fun q => by have q := tm_tog_iff.mp q; omega))) (hQ)
              · refine tl_go 2 56 [(0, .inl ((a : Nat) : Int)), (1, .inl ((b : Nat) : Int)), (2, .inl ((b : Nat) : Int)), (3, .inl ((b : Nat) : Int))] [.inl 1] w (fun _ h => h) ?_
                exact tl_retz rfl rfl (tm_b1 (decide_eq_true (tm_tog_iff.mpr (by omega)))) (hQ)
        · refine tl_go 2 33 [(0, .inl ((a : Nat) : Int)), (1, .inl ((b : Nat) : Int)), (2, .inl ((b : Nat) : Int)), (3, .inl ((b : Nat) : Int))] [.inl 5, .inl ((b : Nat) : Int)] w (fun _ h => h) ?_
          refine tl_if (((b : Nat) : Int) < 5) 51 36 [(0, .inl ((a : Nat) : Int)), (1, .inl ((b : Nat) : Int)), (2, .inl ((b : Nat) : Int)), (3, .inl ((b : Nat) : Int))] [] (fun _ h => h) (fun hc4 => ?_) (fun hc4 => ?_)
          · refine tl_go 2 56 [(0, .inl ((a : Nat) : Int)), (1, .inl ((b : Nat) : Int)), (2, .inl ((b : Nat) : Int)), (3, .inl ((b : Nat) : Int))] [.inl 1] w (fun _ h => h) ?_
            exact tl_retz rfl rfl (tm_b1 (decide_eq_true (tm_tog_iff.mpr (by omega)))) (hQ)
          · refine tl_go 2 38 [(0, .inl ((a : Nat) : Int)), (1, .inl ((b : Nat) : Int)), (2, .inl ((b : Nat) : Int)), (3, .inl ((b : Nat) : Int))] [.inl ((b : Nat) : Int), .inl ((b : Nat) : Int)] w (fun _ h => h) ?_
            refine tl_if (¬ ((b : Nat) : Int) = ((b : Nat) : Int)) 55 41 [(0, .inl ((a : Nat) : Int)), (1, .inl ((b : Nat) : Int)), (2, .inl ((b : Nat) : Int)), (3, .inl ((b : Nat) : Int))] [] (fun _ h => h) (fun hc5 => ?_) (fun hc5 => ?_)
            · refine tl_go 1 56 [(0, .inl ((a : Nat) : Int)), (1, .inl ((b : Nat) : Int)), (2, .inl ((b : Nat) : Int)), (3, .inl ((b : Nat) : Int))] [.inl 0] w (fun _ h => h) ?_
              exact tl_retz rfl rfl (tm_b0 (decide_eq_false (fun q => by have q := tm_tog_iff.mp q; omega))) (hQ)
            · refine tl_go 2 43 [(0, .inl ((a : Nat) : Int)), (1, .inl ((b : Nat) : Int)), (2, .inl ((b : Nat) : Int)), (3, .inl ((b : Nat) : Int))] [.inl 2, .inl ((b : Nat) : Int)] w (fun _ h => h) ?_
              refine tl_if (((b : Nat) : Int) = 2) 51 46 [(0, .inl ((a : Nat) : Int)), (1, .inl ((b : Nat) : Int)), (2, .inl ((b : Nat) : Int)), (3, .inl ((b : Nat) : Int))] [] (fun _ h => h) (fun hc6 => ?_) (fun hc6 => ?_)
              · refine tl_go 2 56 [(0, .inl ((a : Nat) : Int)), (1, .inl ((b : Nat) : Int)), (2, .inl ((b : Nat) : Int)), (3, .inl ((b : Nat) : Int))] [.inl 1] w (fun _ h => h) ?_
                exact tl_retz rfl rfl (tm_b1 (decide_eq_true (tm_tog_iff.mpr (by omega)))) (hQ)
              · refine tl_go 2 48 [(0, .inl ((a : Nat) : Int)), (1, .inl ((b : Nat) : Int)), (2, .inl ((b : Nat) : Int)), (3, .inl ((b : Nat) : Int))] [.inl 3, .inl ((b : Nat) : Int)] w (fun _ h => h) ?_
                refine tl_if (¬ ((b : Nat) : Int) = 3) 55 51 [(0, .inl ((a : Nat) : Int)), (1, .inl ((b : Nat) : Int)), (2, .inl ((b : Nat) : Int)), (3, .inl ((b : Nat) : Int))] [] (fun _ h => h) (fun hc7 => ?_) (fun hc7 => ?_)
                · refine tl_go 1 56 [(0, .inl ((a : Nat) : Int)), (1, .inl ((b : Nat) : Int)), (2, .inl ((b : Nat) : Int)), (3, .inl ((b : Nat) : Int))] [.inl 0] w (fun _ h => h) ?_
                  exact tl_retz rfl rfl (tm_b0 (decide_eq_false (fun q => by have q := tm_tog_iff.mp q; omega))) (hQ)
                · refine tl_go 2 56 [(0, .inl ((a : Nat) : Int)), (1, .inl ((b : Nat) : Int)), (2, .inl ((b : Nat) : Int)), (3, .inl ((b : Nat) : Int))] [.inl 1] w (fun _ h => h) ?_
                  exact tl_retz rfl rfl (tm_b1 (decide_eq_true (tm_tog_iff.mpr (by omega)))) (hQ)
  · refine tl_go 5 13 [(0, .inl ((a : Nat) : Int)), (1, .inl ((b : Nat) : Int)), (2, .inl ((a : Nat) : Int))] [.inl ((b : Nat) : Int), .inl ((a : Nat) : Int)] w (fun _ h => h) ?_
    refine tl_if (((b : Nat) : Int) ≤ ((a : Nat) : Int)) 20 16 [(0, .inl ((a : Nat) : Int)), (1, .inl ((b : Nat) : Int)), (2, .inl ((a : Nat) : Int))] [] (fun _ h => h) (fun hc1 => ?_) (fun hc1 => ?_)
    · refine tl_go 3 23 [(0, .inl ((a : Nat) : Int)), (1, .inl ((b : Nat) : Int)), (2, .inl ((a : Nat) : Int)), (3, .inl ((a : Nat) : Int))] [.inl ((a : Nat) : Int)] w (fun _ h => h) ?_
      refine tl_if (((a : Nat) : Int) = 0) 51 26 [(0, .inl ((a : Nat) : Int)), (1, .inl ((b : Nat) : Int)), (2, .inl ((a : Nat) : Int)), (3, .inl ((a : Nat) : Int))] [] (fun _ h => h) (fun hc2 => ?_) (fun hc2 => ?_)
      · refine tl_go 2 56 [(0, .inl ((a : Nat) : Int)), (1, .inl ((b : Nat) : Int)), (2, .inl ((a : Nat) : Int)), (3, .inl ((a : Nat) : Int))] [.inl 1] w (fun _ h => h) ?_
        exact tl_retz rfl rfl (tm_b1 (decide_eq_true (tm_tog_iff.mpr (by omega)))) (hQ)
      · refine tl_go 2 28 [(0, .inl ((a : Nat) : Int)), (1, .inl ((b : Nat) : Int)), (2, .inl ((a : Nat) : Int)), (3, .inl ((a : Nat) : Int))] [.inl 1, .inl ((a : Nat) : Int)] w (fun _ h => h) ?_
        refine tl_if (¬ ((a : Nat) : Int) = 1) 36 31 [(0, .inl ((a : Nat) : Int)), (1, .inl ((b : Nat) : Int)), (2, .inl ((a : Nat) : Int)), (3, .inl ((a : Nat) : Int))] [] (fun _ h => h) (fun hc3 => ?_) (fun hc3 => ?_)
        · refine tl_go 2 38 [(0, .inl ((a : Nat) : Int)), (1, .inl ((b : Nat) : Int)), (2, .inl ((a : Nat) : Int)), (3, .inl ((a : Nat) : Int))] [.inl ((a : Nat) : Int), .inl ((a : Nat) : Int)] w (fun _ h => h) ?_
          refine tl_if (¬ ((a : Nat) : Int) = ((a : Nat) : Int)) 55 41 [(0, .inl ((a : Nat) : Int)), (1, .inl ((b : Nat) : Int)), (2, .inl ((a : Nat) : Int)), (3, .inl ((a : Nat) : Int))] [] (fun _ h => h) (fun hc4 => ?_) (fun hc4 => ?_)
          · refine tl_go 1 56 [(0, .inl ((a : Nat) : Int)), (1, .inl ((b : Nat) : Int)), (2, .inl ((a : Nat) : Int)), (3, .inl ((a : Nat) : Int))] [.inl 0] w (fun _ h => h) ?_
            exact tl_retz rfl rfl (tm_b0 (decide_eq_false (fun q => by have q := tm_tog_iff.mp q; omega))) (hQ)
          · refine tl_go 2 43 [(0, .inl ((a : Nat) : Int)), (1, .inl ((b : Nat) : Int)), (2, .inl ((a : Nat) : Int)), (3, .inl ((a : Nat) : Int))] [.inl 2, .inl ((a : Nat) : Int)] w (fun _ h => h) ?_
            refine tl_if (((a : Nat) : Int) = 2) 51 46 [(0, .inl ((a : Nat) : Int)), (1, .inl ((b : Nat) : Int)), (2, .inl ((a : Nat) : Int)), (3, .inl ((a : Nat) : Int))] [] (fun _ h => h) (fun hc5 => ?_) (fun hc5 => ?_)
            · refine tl_go 2 56 [(0, .inl ((a : Nat) : Int)), (1, .inl ((b : Nat) : Int)), (2, .inl ((a : Nat) : Int)), (3, .inl ((a : Nat) : Int))] [.inl 1] w (fun _ h => h) ?_
              exact tl_retz rfl rfl (tm_b1 (decide_eq_true (tm_tog_iff.mpr (by omega)))) (hQ)
            · refine tl_go 2 48 [(0, .inl ((a : Nat) : Int)), (1, .inl ((b : Nat) : Int)), (2, .inl ((a : Nat) : Int)), (3, .inl ((a : Nat) : Int))] [.inl 3, .inl ((a : Nat) : Int)] w (fun _ h => h) ?_
              refine tl_if (¬ ((a : Nat) : Int) = 3) 55 51 [(0, .inl ((a : Nat) : Int)), (1, .inl ((b : Nat) : Int)), (2, .inl ((a : Nat) : Int)), (3, .inl ((a : Nat) : Int))] [] (fun _ h => h) (fun hc6 => ?_) (fun hc6 => ?_)
              · refine tl_go 1 56 [(0, .inl ((a : Nat) : Int)), (1, .inl ((b : Nat) : Int)), (2, .inl ((a : Nat) : Int)), (3, .inl ((a : Nat) : Int))] [.inl 0] w (fun _ h => h) ?_
                exact tl_retz rfl rfl (tm_b0 (decide_eq_false (fun q => by have q := tm_tog_iff.mp q; omega))) (hQ)
              · refine tl_go 2 56 [(0, .inl ((a : Nat) : Int)), (1, .inl ((b : Nat) : Int)), (2, .inl ((a : Nat) : Int)), (3, .inl ((a : Nat) : Int))] [.inl 1] w (fun _ h => h) ?_
                exact tl_retz rfl rfl (tm_b1 (decide_eq_true (tm_tog_iff.mpr (by omega)))) (hQ)
        · refine tl_go 2 33 [(0, .inl ((a : Nat) : Int)), (1, .inl ((b : Nat) : Int)), (2, .inl ((a : Nat) : Int)), (3, .inl ((a : Nat) : Int))] [.inl 5, .inl ((a : Nat) : Int)] w (fun _ h => h) ?_
          refine tl_if (((a : Nat) : Int) < 5) 51 36 [(0, .inl ((a : Nat) : Int)), (1, .inl ((b : Nat) : Int)), (2, .inl ((a : Nat) : Int)), (3, .inl ((a : Nat) : Int))] [] (fun _ h => h) (fun hc4 => ?_) (fun hc4 => ?_)
          · refine tl_go 2 56 [(0, .inl ((a : Nat) : Int)), (1, .inl ((b : Nat) : Int)), (2, .inl ((a : Nat) : Int)), (3, .inl ((a : Nat) : Int))] [.inl 1] w (fun _ h => h) ?_
            exact tl_retz rfl rfl (tm_b1 (decide_eq_true (tm_tog_iff.mpr (by omega)))) (hQ)
          · refine tl_go 2 38 [(0, .inl ((a : Nat) : Int)), (1, .inl ((b : Nat) : Int)), (2, .inl ((a : Nat) : Int)), (3, .inl ((a : Nat) : Int))] [.inl ((a : Nat) : Int), .inl ((a : Nat) : Int)] w (fun _ h => h) ?_
            refine tl_if (¬ ((a : Nat) : Int) = ((a : Nat) : Int)) 55 41 [(0, .inl ((a : Nat) : Int)), (1, .inl ((b : Nat) : Int)), (2, .inl ((a : Nat) : Int)), (3, .inl ((a : Nat) : Int))] [] (fun _ h => h) (fun hc5 => ?_) (fun hc5 => ?_)
            · refine tl_go 1 56 [(0, .inl ((a : Nat) : Int)), (1, .inl ((b : Nat) : Int)), (2, .inl ((a : Nat) : Int)), (3, .inl ((a : Nat) : Int))] [.inl 0] w (fun _ h => h) ?_
              exact tl_retz rfl rfl (tm_b0 (decide_eq_false (fun q => by have q := tm_tog_iff.mp q; omega))) (hQ)
            · refine tl_go 2 43 [(0, .inl ((a : Nat) : Int)), (1, .inl ((b : Nat) : Int)), (2, .inl ((a : Nat) : Int)), (3, .inl ((a : Nat) : Int))] [.inl 2, .inl ((a : Nat) : Int)] w (fun _ h => h) ?_
              refine tl_if (((a : Nat) : Int) = 2) 51 46 [(0, .inl ((a : Nat) : Int)), (1, .inl ((b : Nat) : Int)), (2, .inl ((a : Nat) : Int)), (3, .inl ((a : Nat) : Int))] [] (fun _ h => h) (fun hc6 => ?_) (fun hc6 => ?_)
              · refine tl_go 2 56 [(0, .inl ((a : Nat) : Int)), (1, .inl ((b : Nat) : Int)), (2, .inl ((a : Nat) : Int)), (3, .inl ((a : Nat) : Int))] [.inl 1] w (fun _ h => h) ?_
                exact tl_retz rfl rfl (tm_b1 (decide_eq_true (tm_tog_iff.mpr (by omega)))) (hQ)
              · refine tl_go 2 48 [(0, .inl ((a : Nat) : Int)), (1, .inl ((b : Nat) : Int)), (2, .inl ((a : Nat) : Int)), (3, .inl ((a : Nat) : Int))] [.inl 3, .inl ((a : Nat) : Int)] w (fun _ h => h) ?_
                refine tl_if (¬ ((a : Nat) : Int) = 3) 55 51 [(0, .inl ((a : Nat) : Int)), (1, .inl ((b : Nat) : Int)), (2, .inl ((a : Nat) : Int)), (3, .inl ((a : Nat) : Int))] [] (fun _ h => h) (fun hc7 => ?_) (fun hc7 => ?_)
                · refine tl_go 1 56 [(0, .inl ((a : Nat) : Int)), (1, .inl ((b : Nat) : Int)), (2, .inl ((a : Nat) : Int)), (3, .inl ((a : Nat) : Int))] [.inl 0] w (fun _ h => h) ?_
                  exact tl_retz rfl rfl (tm_b0 (decide_eq_false (fun q => by have q := tm_tog_iff.mp q; omega))) (hQ)
                · refine tl_go 2 56 [(0, .inl ((a : Nat) : Int)), (1, .inl ((b : Nat) : Int)), (2, .inl ((a : Nat) : Int)), (3, .inl ((a : Nat) : Int))] [.inl 1] w (fun _ h => h) ?_
                  exact tl_retz rfl rfl (tm_b1 (decide_eq_true (tm_tog_iff.mpr (by omega)))) (hQ)
    · refine tl_go 4 23 [(0, .inl ((a : Nat) : Int)), (1, .inl ((b : Nat) : Int)), (2, .inl ((a : Nat) : Int)), (3, .inl ((b : Nat) : Int))] [.inl ((a : Nat) : Int)] w (fun _ h => h) ?_
      refine tl_if (((a : Nat) : Int) = 0) 51 26 [(0, .inl ((a : Nat) : Int)), (1, .inl ((b : Nat) : Int)), (2, .inl ((a : Nat) : Int)), (3, .inl ((b : Nat) : Int))] [] (fun _ h => h) (fun hc2 => ?_) (fun hc2 => ?_)
      · refine tl_go 2 56 [(0, .inl ((a : Nat) : Int)), (1, .inl ((b : Nat) : Int)), (2, .inl ((a : Nat) : Int)), (3, .inl ((b : Nat) : Int))] [.inl 1] w (fun _ h => h) ?_
        exact tl_retz rfl rfl (tm_b1 (decide_eq_true (tm_tog_iff.mpr (by omega)))) (hQ)
      · refine tl_go 2 28 [(0, .inl ((a : Nat) : Int)), (1, .inl ((b : Nat) : Int)), (2, .inl ((a : Nat) : Int)), (3, .inl ((b : Nat) : Int))] [.inl 1, .inl ((a : Nat) : Int)] w (fun _ h => h) ?_
        refine tl_if (¬ ((a : Nat) : Int) = 1) 36 31 [(0, .inl ((a : Nat) : Int)), (1, .inl ((b : Nat) : Int)), (2, .inl ((a : Nat) : Int)), (3, .inl ((b : Nat) : Int))] [] (fun _ h => h) (fun hc3 => ?_) (fun hc3 => ?_)
        · refine tl_go 2 38 [(0, .inl ((a : Nat) : Int)), (1, .inl ((b : Nat) : Int)), (2, .inl ((a : Nat) : Int)), (3, .inl ((b : Nat) : Int))] [.inl ((b : Nat) : Int), .inl ((a : Nat) : Int)] w (fun _ h => h) ?_
          refine tl_if (¬ ((a : Nat) : Int) = ((b : Nat) : Int)) 55 41 [(0, .inl ((a : Nat) : Int)), (1, .inl ((b : Nat) : Int)), (2, .inl ((a : Nat) : Int)), (3, .inl ((b : Nat) : Int))] [] (fun _ h => h) (fun hc4 => ?_) (fun hc4 => ?_)
          · refine tl_go 1 56 [(0, .inl ((a : Nat) : Int)), (1, .inl ((b : Nat) : Int)), (2, .inl ((a : Nat) : Int)), (3, .inl ((b : Nat) : Int))] [.inl 0] w (fun _ h => h) ?_
            exact tl_retz rfl rfl (tm_b0 (decide_eq_false (fun q => by have q := tm_tog_iff.mp q; omega))) (hQ)
          · refine tl_go 2 43 [(0, .inl ((a : Nat) : Int)), (1, .inl ((b : Nat) : Int)), (2, .inl ((a : Nat) : Int)), (3, .inl ((b : Nat) : Int))] [.inl 2, .inl ((a : Nat) : Int)] w (fun _ h => h) ?_
            refine tl_if (((a : Nat) : Int) = 2) 51 46 [(0, .inl ((a : Nat) : Int)), (1, .inl ((b : Nat) : Int)), (2, .inl ((a : Nat) : Int)), (3, .inl ((b : Nat) : Int))] [] (fun _ h => h) (fun hc5 => ?_) (fun hc5 => ?_)
            · refine tl_go 2 56 [(0, .inl ((a : Nat) : Int)), (1, .inl ((b : Nat) : Int)), (2, .inl ((a : Nat) : Int)), (3, .inl ((b : Nat) : Int))] [.inl 1] w (fun _ h => h) ?_
              exact tl_retz rfl rfl (tm_b1 (decide_eq_true (tm_tog_iff.mpr (by omega)))) (hQ)
            · refine tl_go 2 48 [(0, .inl ((a : Nat) : Int)), (1, .inl ((b : Nat) : Int)), (2, .inl ((a : Nat) : Int)), (3, .inl ((b : Nat) : Int))] [.inl 3, .inl ((a : Nat) : Int)] w (fun _ h => h) ?_
              refine tl_if (¬ ((a : Nat) : Int) = 3) 55 51 [(0, .inl ((a : Nat) : Int)), (1, .inl ((b : Nat) : Int)), (2, .inl ((a : Nat) : Int)), (3, .inl ((b : Nat) : Int))] [] (fun _ h => h) (fun hc6 => ?_) (fun hc6 => ?_)
              · refine tl_go 1 56 [(0, .inl ((a : Nat) : Int)), (1, .inl ((b : Nat) : Int)), (2, .inl ((a : Nat) : Int)), (3, .inl ((b : Nat) : Int))] [.inl 0] w (fun _ h => h) ?_
                exact tl_retz rfl rfl (tm_b0 (decide_eq_false (fun q => by have q := tm_tog_iff.mp q; omega))) (hQ)
              · refine tl_go 2 56 [(0, .inl ((a : Nat) : Int)), (1, .inl ((b : Nat) : Int)), (2, .inl ((a : Nat) : Int)), (3, .inl ((b : Nat) : Int))] [.inl 1] w (fun _ h => h) ?_
                exact tl_retz rfl rfl (tm_b1 (decide_eq_true (tm_tog_iff.mpr (by omega)))) (hQ)
        · refine tl_go 2 33 [(0, .inl ((a : Nat) : Int)), (1, .inl ((b : Nat) : Int)), (2, .inl ((a : Nat) : Int)), (3, .inl ((b : Nat) : Int))] [.inl 5, .inl ((b : Nat) : Int)] w (fun _ h => h) ?_
          refine tl_if (((b : Nat) : Int) < 5) 51 36 [(0, .inl ((a : Nat) : Int)), (1, .inl ((b : Nat) : Int)), (2, .inl ((a : Nat) : Int)), (3, .inl ((b : Nat) : Int))] [] (fun _ h => h) (fun hc4 => ?_) (fun hc4 => ?_)
          · refine tl_go 2 56 [(0, .inl ((a : Nat) : Int)), (1, .inl ((b : Nat) : Int)), (2, .inl ((a : Nat) : Int)), (3, .inl ((b : Nat) : Int))] [.inl 1] w (fun _ h => h) ?_
            exact tl_retz rfl rfl (tm_b1 (decide_eq_true (tm_tog_iff.mpr (by omega)))) (hQ)
          · refine tl_go 2 38 [(0, .inl ((a : Nat) : Int)), (1, .inl ((b : Nat) : Int)), (2, .inl ((a : Nat) : Int)), (3, .inl ((b : Nat) : Int))] [.inl ((b : Nat) : Int), .inl ((a : Nat) : Int)] w (fun _ h => h) ?_
            refine tl_if (¬ ((a : Nat) : Int) = ((b : Nat) : Int)) 55 41 [(0, .inl ((a : Nat) : Int)), (1, .inl ((b : Nat) : Int)), (2, .inl ((a : Nat) : Int)), (3, .inl ((b : Nat) : Int))] [] (fun _ h => h) (fun hc5 => ?_) (fun hc5 => ?_)
            · refine tl_go 1 56 [(0, .inl ((a : Nat) : Int)), (1, .inl ((b : Nat) : Int)), (2, .inl ((a : Nat) : Int)), (3, .inl ((b : Nat) : Int))] [.inl 0] w (fun _ h => h) ?_
              exact tl_retz rfl rfl (tm_b0 (decide_eq_false (fun q => by have q := tm_tog_iff.mp q; omega))) (hQ)
            · refine tl_go 2 43 [(0, .inl ((a : Nat) : Int)), (1, .inl ((b : Nat) : Int)), (2, .inl ((a : Nat) : Int)), (3, .inl ((b : Nat) : Int))] [.inl 2, .inl ((a : Nat) : Int)] w (fun _ h => h) ?_
              refine tl_if (((a : Nat) : Int) = 2) 51 46 [(0, .inl ((a : Nat) : Int)), (1, .inl ((b : Nat) : Int)), (2, .inl ((a : Nat) : Int)), (3, .inl ((b : Nat) : Int))] [] (fun _ h => h) (fun hc6 => ?_) (fun hc6 => ?_)
              · refine tl_go 2 56 [(0, .inl ((a : Nat) : Int)), (1, .inl ((b : Nat) : Int)), (2, .inl ((a : Nat) : Int)), (3, .inl ((b : Nat) : Int))] [.inl 1] w (fun _ h => h) ?_
                exact tl_retz rfl rfl (tm_b1 (decide_eq_true (tm_tog_iff.mpr (by omega)))) (hQ)
              · refine tl_go 2 48 [(0, .inl ((a : Nat) : Int)), (1, .inl ((b : Nat) : Int)), (2, .inl ((a : Nat) : Int)), (3, .inl ((b : Nat) : Int))] [.inl 3, .inl ((a : Nat) : Int)] w (fun _ h => h) ?_
                refine tl_if (¬ ((a : Nat) : Int) = 3) 55 51 [(0, .inl ((a : Nat) : Int)), (1, .inl ((b : Nat) : Int)), (2, .inl ((a : Nat) : Int)), (3, .inl ((b : Nat) : Int))] [] (fun _ h => h) (fun hc7 => ?_) (fun hc7 => ?_)
                · refine tl_go 1 56 [(0, .inl ((a : Nat) : Int)), (1, .inl ((b : Nat) : Int)), (2, .inl ((a : Nat) : Int)), (3, .inl ((b : Nat) : Int))] [.inl 0] w (fun _ h => h) ?_
                  exact tl_retz rfl rfl (tm_b0 (decide_eq_false (fun q => by have q := tm_tog_iff.mp q; omega))) (hQ)
                · refine tl_go 2 56 [(0, .inl ((a : Nat) : Int)), (1, .inl ((b : Nat) : Int)), (2, .inl ((a : Nat) : Int)), (3, .inl ((b : Nat) : Int))] [.inl 1] w (fun _ h => h) ?_
                  exact tl_retz rfl rfl (tm_b1 (decide_eq_true (tm_tog_iff.mpr (by omega)))) (hQ)
theorem tb_join (d : Nat) (a b : Nat) (w : tl_W) : tl_Ev tb_P (d + 1) 6 [.inl ((a : Nat) : Int), .inl ((b : Nat) : Int)] w (.inl (some ((tm_jn a b : Nat) : Int))) w := by
  refine tl_start fun Q hQ => ?_
  refine tl_go 2 2 [(0, .inl ((a : Nat) : Int)), (1, .inl ((b : Nat) : Int))] [.inl ((b : Nat) : Int), .inl ((a : Nat) : Int)] w (fun _ h => h) ?_
  refine tl_if (((b : Nat) : Int) ≤ ((a : Nat) : Int)) 9 5 [(0, .inl ((a : Nat) : Int)), (1, .inl ((b : Nat) : Int))] [] (fun _ h => h) (fun hc0 => ?_) (fun hc0 => ?_)
  · refine tl_go 4 13 [(0, .inl ((a : Nat) : Int)), (1, .inl ((b : Nat) : Int)), (2, .inl ((b : Nat) : Int))] [.inl ((b : Nat) : Int), .inl ((a : Nat) : Int)] w (fun _ h => h) ?_
    refine tl_if (((b : Nat) : Int) ≤ ((a : Nat) : Int)) 20 16 [(0, .inl ((a : Nat) : Int)), (1, .inl ((b : Nat) : Int)), (2, .inl ((b : Nat) : Int))] [] (fun _ h => h) (fun hc1 => ?_) (fun hc1 => ?_)
    · refine tl_go 4 24 [(0, .inl ((a : Nat) : Int)), (1, .inl ((b : Nat) : Int)), (2, .inl ((b : Nat) : Int)), (3, .inl ((a : Nat) : Int))] [.inl 2, .inl ((b : Nat) : Int)] w (fun _ h => h) ?_
      refine tl_if (¬ ((b : Nat) : Int) = 2) 36 27 [(0, .inl ((a : Nat) : Int)), (1, .inl ((b : Nat) : Int)), (2, .inl ((b : Nat) : Int)), (3, .inl ((a : Nat) : Int))] [] (fun _ h => h) (fun hc2 => ?_) (fun hc2 => ?_)
      · refine tl_go 1 37 [(0, .inl ((a : Nat) : Int)), (1, .inl ((b : Nat) : Int)), (2, .inl ((b : Nat) : Int)), (3, .inl ((a : Nat) : Int))] [.inl ((a : Nat) : Int)] w (fun _ h => h) ?_
        exact tl_reti rfl rfl (by unfold tm_jn; (repeat' split) <;> omega) (hQ)
      · refine tl_go 2 29 [(0, .inl ((a : Nat) : Int)), (1, .inl ((b : Nat) : Int)), (2, .inl ((b : Nat) : Int)), (3, .inl ((a : Nat) : Int))] [.inl 3, .inl ((a : Nat) : Int)] w (fun _ h => h) ?_
        refine tl_if (¬ ((a : Nat) : Int) = 3) 36 32 [(0, .inl ((a : Nat) : Int)), (1, .inl ((b : Nat) : Int)), (2, .inl ((b : Nat) : Int)), (3, .inl ((a : Nat) : Int))] [] (fun _ h => h) (fun hc3 => ?_) (fun hc3 => ?_)
        · refine tl_go 1 37 [(0, .inl ((a : Nat) : Int)), (1, .inl ((b : Nat) : Int)), (2, .inl ((b : Nat) : Int)), (3, .inl ((a : Nat) : Int))] [.inl ((a : Nat) : Int)] w (fun _ h => h) ?_
          exact tl_reti rfl rfl (by unfold tm_jn; (repeat' split) <;> omega) (hQ)
        · refine tl_go 2 37 [(0, .inl ((a : Nat) : Int)), (1, .inl ((b : Nat) : Int)), (2, .inl ((b : Nat) : Int)), (3, .inl ((a : Nat) : Int))] [.inl 4] w (fun _ h => h) ?_
          exact tl_reti rfl rfl (by unfold tm_jn; (repeat' split) <;> omega) (hQ)
    · refine tl_go 5 24 [(0, .inl ((a : Nat) : Int)), (1, .inl ((b : Nat) : Int)), (2, .inl ((b : Nat) : Int)), (3, .inl ((b : Nat) : Int))] [.inl 2, .inl ((b : Nat) : Int)] w (fun _ h => h) ?_
      refine tl_if (¬ ((b : Nat) : Int) = 2) 36 27 [(0, .inl ((a : Nat) : Int)), (1, .inl ((b : Nat) : Int)), (2, .inl ((b : Nat) : Int)), (3, .inl ((b : Nat) : Int))] [] (fun _ h => h) (fun hc2 => ?_) (fun hc2 => ?_)
      · refine tl_go 1 37 [(0, .inl ((a : Nat) : Int)), (1, .inl ((b : Nat) : Int)), (2, .inl ((b : Nat) : Int)), (3, .inl ((b : Nat) : Int))] [.inl ((b : Nat) : Int)] w (fun _ h => h) ?_
        exact tl_reti rfl rfl (by unfold tm_jn; (repeat' split) <;> omega) (hQ)
      · refine tl_go 2 29 [(0, .inl ((a : Nat) : Int)), (1, .inl ((b : Nat) : Int)), (2, .inl ((b : Nat) : Int)), (3, .inl ((b : Nat) : Int))] [.inl 3, .inl ((b : Nat) : Int)] w (fun _ h => h) ?_
        refine tl_if (¬ ((b : Nat) : Int) = 3) 36 32 [(0, .inl ((a : Nat) : Int)), (1, .inl ((b : Nat) : Int)), (2, .inl ((b : Nat) : Int)), (3, .inl ((b : Nat) : Int))] [] (fun _ h => h) (fun hc3 => ?_) (fun hc3 => ?_)
        · refine tl_go 1 37 [(0, .inl ((a : Nat) : Int)), (1, .inl ((b : Nat) : Int)), (2, .inl ((b : Nat) : Int)), (3, .inl ((b : Nat) : Int))] [.inl ((b : Nat) : Int)] w (fun _ h => h) ?_
          exact tl_reti rfl rfl (by unfold tm_jn; (repeat' split) <;> omega) (hQ)
        · refine tl_go 2 37 [(0, .inl ((a : Nat) : Int)), (1, .inl ((b : Nat) : Int)), (2, .inl ((b : Nat) : Int)), (3, .inl ((b : Nat) : Int))] [.inl 4] w (fun _ h => h) ?_
          exact tl_reti rfl rfl (by unfold tm_jn; (repeat' split) <;> omega) (hQ)
  · refine tl_go 5 13 [(0, .inl ((a : Nat) : Int)), (1, .inl ((b : Nat) : Int)), (2, .inl ((a : Nat) : Int))] [.inl ((b : Nat) : Int), .inl ((a : Nat) : Int)] w (fun _ h => h) ?_
    refine tl_if (((b : Nat) : Int) ≤ ((a : Nat) : Int)) 20 16 [(0, .inl ((a : Nat) : Int)), (1, .inl ((b : Nat) : Int)), (2, .inl ((a : Nat) : Int))] [] (fun _ h => h) (fun hc1 => ?_) (fun hc1 => ?_)
    · refine tl_go 4 24 [(0, .inl ((a : Nat) : Int)), (1, .inl ((b : Nat) : Int)), (2, .inl ((a : Nat) : Int)), (3, .inl ((a : Nat) : Int))] [.inl 2, .inl ((a : Nat) : Int)] w (fun _ h => h) ?_
      refine tl_if (¬ ((a : Nat) : Int) = 2) 36 27 [(0, .inl ((a : Nat) : Int)), (1, .inl ((b : Nat) : Int)), (2, .inl ((a : Nat) : Int)), (3, .inl ((a : Nat) : Int))] [] (fun _ h => h) (fun hc2 => ?_) (fun hc2 => ?_)
      · refine tl_go 1 37 [(0, .inl ((a : Nat) : Int)), (1, .inl ((b : Nat) : Int)), (2, .inl ((a : Nat) : Int)), (3, .inl ((a : Nat) : Int))] [.inl ((a : Nat) : Int)] w (fun _ h => h) ?_
        exact tl_reti rfl rfl (by unfold tm_jn; (repeat' split) <;> omega) (hQ)
      · refine tl_go 2 29 [(0, .inl ((a : Nat) : Int)), (1, .inl ((b : Nat) : Int)), (2, .inl ((a : Nat) : Int)), (3, .inl ((a : Nat) : Int))] [.inl 3, .inl ((a : Nat) : Int)] w (fun _ h => h) ?_
        refine tl_if (¬ ((a : Nat) : Int) = 3) 36 32 [(0, .inl ((a : Nat) : Int)), (1, .inl ((b : Nat) : Int)), (2, .inl ((a : Nat) : Int)), (3, .inl ((a : Nat) : Int))] [] (fun _ h => h) (fun hc3 => ?_) (fun hc3 => ?_)
        · refine tl_go 1 37 [(0, .inl ((a : Nat) : Int)), (1, .inl ((b : Nat) : Int)), (2, .inl ((a : Nat) : Int)), (3, .inl ((a : Nat) : Int))] [.inl ((a : Nat) : Int)] w (fun _ h => h) ?_
          exact tl_reti rfl rfl (by unfold tm_jn; (repeat' split) <;> omega) (hQ)
        · refine tl_go 2 37 [(0, .inl ((a : Nat) : Int)), (1, .inl ((b : Nat) : Int)), (2, .inl ((a : Nat) : Int)), (3, .inl ((a : Nat) : Int))] [.inl 4] w (fun _ h => h) ?_
          exact tl_reti rfl rfl (by unfold tm_jn; (repeat' split) <;> omega) (hQ)
    · refine tl_go 5 24 [(0, .inl ((a : Nat) : Int)), (1, .inl ((b : Nat) : Int)), (2, .inl ((a : Nat) : Int)), (3, .inl ((b : Nat) : Int))] [.inl 2, .inl ((a : Nat) : Int)] w (fun _ h => h) ?_
      refine tl_if (¬ ((a : Nat) : Int) = 2) 36 27 [(0, .inl ((a : Nat) : Int)), (1, .inl ((b : Nat) : Int)), (2, .inl ((a : Nat) : Int)), (3, .inl ((b : Nat) : Int))] [] (fun _ h => h) (fun hc2 => ?_) (fun hc2 => ?_)
      · refine tl_go 1 37 [(0, .inl ((a : Nat) : Int)), (1, .inl ((b : Nat) : Int)), (2, .inl ((a : Nat) : Int)), (3, .inl ((b : Nat) : Int))] [.inl ((b : Nat) : Int)] w (fun _ h => h) ?_
        exact tl_reti rfl rfl (by unfold tm_jn; (repeat' split) <;> omega) (hQ)
      · refine tl_go 2 29 [(0, .inl ((a : Nat) : Int)), (1, .inl ((b : Nat) : Int)), (2, .inl ((a : Nat) : Int)), (3, .inl ((b : Nat) : Int))] [.inl 3, .inl ((b : Nat) : Int)] w (fun _ h => h) ?_
        refine tl_if (¬ ((b : Nat) : Int) = 3) 36 32 [(0, .inl ((a : Nat) : Int)), (1, .inl ((b : Nat) : Int)), (2, .inl ((a : Nat) : Int)), (3, .inl ((b : Nat) : Int))] [] (fun _ h => h) (fun hc3 => ?_) (fun hc3 => ?_)
        · refine tl_go 1 37 [(0, .inl ((a : Nat) : Int)), (1, .inl ((b : Nat) : Int)), (2, .inl ((a : Nat) : Int)), (3, .inl ((b : Nat) : Int))] [.inl ((b : Nat) : Int)] w (fun _ h => h) ?_
          exact tl_reti rfl rfl (by unfold tm_jn; (repeat' split) <;> omega) (hQ)
        · refine tl_go 2 37 [(0, .inl ((a : Nat) : Int)), (1, .inl ((b : Nat) : Int)), (2, .inl ((a : Nat) : Int)), (3, .inl ((b : Nat) : Int))] [.inl 4] w (fun _ h => h) ?_
          exact tl_reti rfl rfl (by unfold tm_jn; (repeat' split) <;> omega) (hQ)
theorem tb_cov (d : Nat) (a b : Nat) (w : tl_W) : tl_Ev tb_P (d + 2) 7 [.inl ((a : Nat) : Int), .inl ((b : Nat) : Int)] w (.inl (some (tm_b (decide (tm_jn a b = a))))) w := by
  refine tl_start fun Q hQ => ?_
  refine tl_go 2 2 [(0, .inl ((a : Nat) : Int)), (1, .inl ((b : Nat) : Int))] [.inl ((b : Nat) : Int), .inl ((a : Nat) : Int)] w (fun _ h => h) ?_
  refine tl_callS (as := [.inl ((a : Nat) : Int), .inl ((b : Nat) : Int)]) (rest := []) (v := some ((tm_jn a b : Nat) : Int)) (w' := w) rfl rfl rfl rfl (tb_join d a b w) (Nat.le_of_ble_eq_true rfl) rfl rfl (Nat.le_of_ble_eq_true rfl) ?_
  refine tl_go 1 6 [(0, .inl ((a : Nat) : Int)), (1, .inl ((b : Nat) : Int))] [.inl ((a : Nat) : Int), .inl ((tm_jn a b : Nat) : Int)] w (fun _ h => h) ?_
  refine tl_if (¬ ((tm_jn a b : Nat) : Int) = ((a : Nat) : Int)) 13 9 [(0, .inl ((a : Nat) : Int)), (1, .inl ((b : Nat) : Int))] [] (fun _ h => h) (fun hc0 => ?_) (fun hc0 => ?_)
  · refine tl_go 1 14 [(0, .inl ((a : Nat) : Int)), (1, .inl ((b : Nat) : Int))] [.inl 0] w (fun _ h => h) ?_
    exact tl_retz rfl rfl (tm_b0 (decide_eq_false (by omega))) (hQ)
  · refine tl_go 2 14 [(0, .inl ((a : Nat) : Int)), (1, .inl ((b : Nat) : Int))] [.inl 1] w (fun _ h => h) ?_
    exact tl_retz rfl rfl (tm_b1 (decide_eq_true (by omega))) (hQ)
theorem tb_thrown (d : Nat) (w : tl_W) : tl_Ev tb_P (d + 1) 1 [.inr 0] w (.inl (some (w 5 0))) w := by
  refine tl_start fun Q hQ => ?_
  refine tl_go 2 4 [(0, .inr 0)] [.inl (w 5 0)] w (fun _ h => And.intro rfl (And.intro (by decide) (h))) ?_
  exact tl_reti rfl rfl (rfl) (hQ)
theorem tb_refuse (d : Nat) (k : Int) (w : tl_W) : tl_Ev tb_P (d + 1) 2 [.inr 0, .inl k] w (.inl (some 0)) (tl_set w 5 0 k) := by
  refine tl_start fun Q hQ => ?_
  refine tl_go 4 6 [(0, .inr 0), (1, .inl k)] [.inl 0] (tl_set w 5 0 k) (fun _ h => And.intro rfl (And.intro (by decide) (And.intro rfl (h)))) ?_
  exact tl_reti rfl rfl (rfl) (hQ)
def tm_dp (r : Nat) : Nat := if r = 0 then 0 else if r < 4 then 1 else if r < 10 then 2 else 3
theorem tm_dp_pn {r : Nat} (h : r ≠ 0) (hr : r < 34) : tm_dp (tm_pn r) + 1 = tm_dp r := by
  unfold tm_dp tm_pn
  (repeat' split) <;> omega
theorem tm_dp3 (r : Nat) : tm_dp r ≤ 3 := by
  unfold tm_dp
  (repeat' split) <;> omega
theorem tm_dp0 {r : Nat} (h : tm_dp r = 0) : r = 0 := by
  unfold tm_dp at h
  (repeat' split at h) <;> omega

theorem tb_bl (d : Nat) (low r : Nat) (hl : low < 34) (hr : r < 34) (w : tl_W) : tl_Ev tb_P (d + 2) 4 [.inl ((low : Nat) : Int), .inl ((r : Nat) : Int)] w (.inl (some (tm_b (decide (tm_bl low r = true))))) w := by
  refine tl_start fun Q hQ => ?_
  refine tl_go 1 1 [(0, .inl ((low : Nat) : Int)), (1, .inl ((r : Nat) : Int))] [.inl ((low : Nat) : Int)] w (fun _ h => h) ?_
  refine tl_callS (as := [.inl ((low : Nat) : Int)]) (rest := []) (v := some (tm_pI low)) (w' := w) rfl rfl rfl rfl (tb_par d low hl w) (Nat.le_of_ble_eq_true rfl) rfl rfl (Nat.le_of_ble_eq_true rfl) ?_
  refine tl_go 1 5 [(0, .inl ((low : Nat) : Int)), (1, .inl ((r : Nat) : Int)), (2, .inl (tm_pI low))] [] w (fun _ h => h) ?_
  have loop : ∀ n cur : Nat, cur < 34 → tm_dp cur ≤ n → tm_bl low r = (tm_an n cur).contains r → tl_E tb_P (d + 1) 4 5 [(0, .inl (low : Int)), (1, .inl (r : Int)), (2, .inl (tm_pI cur))] [] w Q := by
    intro n
    induction n with
    | zero =>
      intro cur hcur hd hq
      have h0 := tm_dp0 (Nat.le_zero.mp hd)
      refine tl_loc (L' := [(0, .inl ((low : Nat) : Int)), (1, .inl ((r : Nat) : Int)), (2, .inl (-1))]) (by rw [h0]; rfl) ?_
      refine tl_go 1 6 [(0, .inl ((low : Nat) : Int)), (1, .inl ((r : Nat) : Int)), (2, .inl (-1))] [.inl (-1)] w (fun _ h => h) ?_
      refine tl_ift ((-1) < 0) 22 9 [(0, .inl ((low : Nat) : Int)), (1, .inl ((r : Nat) : Int)), (2, .inl (-1))] [] (fun _ h => h) (by decide) ?_
      refine tl_go 2 24 [(0, .inl ((low : Nat) : Int)), (1, .inl ((r : Nat) : Int)), (2, .inl (-1))] [.inl ((r : Nat) : Int), .inl (-1)] w (fun _ h => h) ?_
      refine tl_ift (¬ (-1) = ((r : Nat) : Int)) 31 27 [(0, .inl ((low : Nat) : Int)), (1, .inl ((r : Nat) : Int)), (2, .inl (-1))] [] (fun _ h => h) (by omega) ?_
      refine tl_go 1 32 [(0, .inl ((low : Nat) : Int)), (1, .inl ((r : Nat) : Int)), (2, .inl (-1))] [.inl 0] w (fun _ h => h) ?_
      exact tl_retz rfl rfl (tm_b0 (decide_eq_false (by rw [hq, h0]; simp [tm_an]))) (hQ)
    | succ n ih =>
      intro cur hcur hd hq
      by_cases h0 : cur = 0
      · refine tl_loc (L' := [(0, .inl ((low : Nat) : Int)), (1, .inl ((r : Nat) : Int)), (2, .inl (-1))]) (by rw [h0]; rfl) ?_
        refine tl_go 1 6 [(0, .inl ((low : Nat) : Int)), (1, .inl ((r : Nat) : Int)), (2, .inl (-1))] [.inl (-1)] w (fun _ h => h) ?_
        refine tl_ift ((-1) < 0) 22 9 [(0, .inl ((low : Nat) : Int)), (1, .inl ((r : Nat) : Int)), (2, .inl (-1))] [] (fun _ h => h) (by decide) ?_
        refine tl_go 2 24 [(0, .inl ((low : Nat) : Int)), (1, .inl ((r : Nat) : Int)), (2, .inl (-1))] [.inl ((r : Nat) : Int), .inl (-1)] w (fun _ h => h) ?_
        refine tl_ift (¬ (-1) = ((r : Nat) : Int)) 31 27 [(0, .inl ((low : Nat) : Int)), (1, .inl ((r : Nat) : Int)), (2, .inl (-1))] [] (fun _ h => h) (by omega) ?_
        refine tl_go 1 32 [(0, .inl ((low : Nat) : Int)), (1, .inl ((r : Nat) : Int)), (2, .inl (-1))] [.inl 0] w (fun _ h => h) ?_
        exact tl_retz rfl rfl (tm_b0 (decide_eq_false (by rw [hq, h0]; simp [tm_an]))) (hQ)
      · have hlt := tm_pn_lt h0
        have hdp := tm_dp_pn h0 hcur
        refine tl_loc (L' := [(0, .inl ((low : Nat) : Int)), (1, .inl ((r : Nat) : Int)), (2, .inl ((tm_pn cur : Nat) : Int))]) (by rw [tm_pI_p h0]) ?_
        refine tl_go 1 6 [(0, .inl ((low : Nat) : Int)), (1, .inl ((r : Nat) : Int)), (2, .inl ((tm_pn cur : Nat) : Int))] [.inl ((tm_pn cur : Nat) : Int)] w (fun _ h => h) ?_
        refine tl_iff (((tm_pn cur : Nat) : Int) < 0) 22 9 [(0, .inl ((low : Nat) : Int)), (1, .inl ((r : Nat) : Int)), (2, .inl ((tm_pn cur : Nat) : Int))] [] (fun _ h => h) (by omega) ?_
        refine tl_go 2 11 [(0, .inl ((low : Nat) : Int)), (1, .inl ((r : Nat) : Int)), (2, .inl ((tm_pn cur : Nat) : Int))] [.inl ((r : Nat) : Int), .inl ((tm_pn cur : Nat) : Int)] w (fun _ h => h) ?_
        refine tl_if (((tm_pn cur : Nat) : Int) = ((r : Nat) : Int)) 22 14 [(0, .inl ((low : Nat) : Int)), (1, .inl ((r : Nat) : Int)), (2, .inl ((tm_pn cur : Nat) : Int))] [] (fun _ h => h) (fun hg => ?_) (fun hg => ?_)
        · have hne : (r == tm_pn cur) = true := by simp; omega
          refine tl_go 2 24 [(0, .inl ((low : Nat) : Int)), (1, .inl ((r : Nat) : Int)), (2, .inl ((tm_pn cur : Nat) : Int))] [.inl ((r : Nat) : Int), .inl ((tm_pn cur : Nat) : Int)] w (fun _ h => h) ?_
          refine tl_iff (¬ ((tm_pn cur : Nat) : Int) = ((r : Nat) : Int)) 31 27 [(0, .inl ((low : Nat) : Int)), (1, .inl ((r : Nat) : Int)), (2, .inl ((tm_pn cur : Nat) : Int))] [] (fun _ h => h) (fun q => q hg) ?_
          refine tl_go 2 32 [(0, .inl ((low : Nat) : Int)), (1, .inl ((r : Nat) : Int)), (2, .inl ((tm_pn cur : Nat) : Int))] [.inl 1] w (fun _ h => h) ?_
          exact tl_retz rfl rfl (tm_b1 (decide_eq_true (by rw [hq, tm_an_s, if_neg h0, List.contains_cons, hne]; rfl))) (hQ)
        · have hne : (r == tm_pn cur) = false := by simp; omega
          refine tl_go 1 15 [(0, .inl ((low : Nat) : Int)), (1, .inl ((r : Nat) : Int)), (2, .inl ((tm_pn cur : Nat) : Int))] [.inl ((tm_pn cur : Nat) : Int)] w (fun _ h => h) ?_
          refine tl_callS (as := [.inl ((tm_pn cur : Nat) : Int)]) (rest := []) (v := some (tm_pI (tm_pn cur))) (w' := w) rfl rfl rfl rfl (tb_par d (tm_pn cur) (by omega) w) (Nat.le_of_ble_eq_true rfl) rfl rfl (Nat.le_of_ble_eq_true rfl) ?_
          refine tl_go 2 5 [(0, .inl ((low : Nat) : Int)), (1, .inl ((r : Nat) : Int)), (2, .inl (tm_pI (tm_pn cur)))] [] w (fun _ h => h) ?_
          exact ih (tm_pn cur) (by omega) (by omega) (by rw [hq, tm_an_s, if_neg h0, List.contains_cons, hne, Bool.false_or])
  exact loop 3 low hl (tm_dp3 low) rfl
theorem tb_fit (d : Nat) (t r m : Nat) (ht : t < 8) (hr : r < 34) {M : Nat → Nat} (w : tl_W) (hM : ∀ i, i < 272 → w 0 i = (M i : Int)) : tl_Ev tb_P (d + 2) 10 [.inr 0, .inl ((t : Nat) : Int), .inl ((r : Nat) : Int), .inl ((m : Nat) : Int)] w (.inl (some (tm_b (decide (tm_fits M t r m = true))))) w := by
  refine tl_start fun Q hQ => ?_
  refine tl_go 4 6 [(0, .inr 0), (1, .inl ((t : Nat) : Int)), (2, .inl ((r : Nat) : Int)), (3, .inl ((m : Nat) : Int)), (4, .inl 1), (5, .inl 0)] [] w (fun _ h => h) ?_
  have loop : ∀ k i : Nat, i + k = 8 → tl_E tb_P (d + 1) 10 6 [(0, .inr 0), (1, .inl (t : Int)), (2, .inl (r : Int)), (3, .inl (m : Int)), (4, .inl (tm_b (decide ((List.range i).all (fun u => u == t || tm_tog m (M (34 * u + r))) = true)))), (5, .inl (i : Int))] [] w Q := by
    intro k
    induction k with
    | zero =>
      intro i hi
      refine tl_go 2 10 [(0, .inr 0), (1, .inl ((t : Nat) : Int)), (2, .inl ((r : Nat) : Int)), (3, .inl ((m : Nat) : Int)), (4, .inl (tm_b (decide ((List.range i).all (fun u => u == t || tm_tog m (M (34 * u + r))) = true)))), (5, .inl ((i : Nat) : Int))] [.inl 8, .inl ((i : Nat) : Int)] w (fun _ h => h) ?_
      refine tl_ift (8 ≤ ((i : Nat) : Int)) 56 13 [(0, .inr 0), (1, .inl ((t : Nat) : Int)), (2, .inl ((r : Nat) : Int)), (3, .inl ((m : Nat) : Int)), (4, .inl (tm_b (decide ((List.range i).all (fun u => u == t || tm_tog m (M (34 * u + r))) = true)))), (5, .inl ((i : Nat) : Int))] [] (fun _ h => h) (by omega) ?_
      refine tl_go 1 58 [(0, .inr 0), (1, .inl ((t : Nat) : Int)), (2, .inl ((r : Nat) : Int)), (3, .inl ((m : Nat) : Int)), (4, .inl (tm_b (decide ((List.range i).all (fun u => u == t || tm_tog m (M (34 * u + r))) = true)))), (5, .inl ((i : Nat) : Int))] [.inl (tm_b (decide ((List.range i).all (fun u => u == t || tm_tog m (M (34 * u + r))) = true)))] w (fun _ h => h) ?_
      exact tl_retz rfl rfl (⟨by rw [show i = 8 by omega]; rfl, tm_b01 _⟩) (hQ)
    | succ k ih =>
      intro i hi
      refine tl_go 2 10 [(0, .inr 0), (1, .inl ((t : Nat) : Int)), (2, .inl ((r : Nat) : Int)), (3, .inl ((m : Nat) : Int)), (4, .inl (tm_b (decide ((List.range i).all (fun u => u == t || tm_tog m (M (34 * u + r))) = true)))), (5, .inl ((i : Nat) : Int))] [.inl 8, .inl ((i : Nat) : Int)] w (fun _ h => h) ?_
      refine tl_iff (8 ≤ ((i : Nat) : Int)) 56 13 [(0, .inr 0), (1, .inl ((t : Nat) : Int)), (2, .inl ((r : Nat) : Int)), (3, .inl ((m : Nat) : Int)), (4, .inl (tm_b (decide ((List.range i).all (fun u => u == t || tm_tog m (M (34 * u + r))) = true)))), (5, .inl ((i : Nat) : Int))] [] (fun _ h => h) (by omega) ?_
      refine tl_go 1 15 [(0, .inr 0), (1, .inl ((t : Nat) : Int)), (2, .inl ((r : Nat) : Int)), (3, .inl ((m : Nat) : Int)), (4, .inl (tm_b (decide ((List.range i).all (fun u => u == t || tm_tog m (M (34 * u + r))) = true)))), (5, .inl ((i : Nat) : Int))] [.inl (tm_b (decide ((List.range i).all (fun u => u == t || tm_tog m (M (34 * u + r))) = true)))] w (fun _ h => h) ?_
      refine tl_if ((tm_b (decide ((List.range i).all (fun u => u == t || tm_tog m (M (34 * u + r))) = true))) = 0) 47 18 [(0, .inr 0), (1, .inl ((t : Nat) : Int)), (2, .inl ((r : Nat) : Int)), (3, .inl ((m : Nat) : Int)), (4, .inl (tm_b (decide ((List.range i).all (fun u => u == t || tm_tog m (M (34 * u + r))) = true)))), (5, .inl ((i : Nat) : Int))] [] (fun _ h => h) (fun hc => ?_) (fun hc => ?_)
      · have hc := of_decide_eq_false (tm_beq hc)
        have e1 : (0 : Int) = tm_b (decide ((List.range (i + 1)).all (fun u => u == t || tm_tog m (M (34 * u + r))) = true)) := (tm_b0 (decide_eq_false (fun q => hc (by rw [tm_range_all, Bool.and_eq_true] at q; exact q.1)))).1
        refine tl_go 2 50 [(0, .inr 0), (1, .inl ((t : Nat) : Int)), (2, .inl ((r : Nat) : Int)), (3, .inl ((m : Nat) : Int)), (4, .inl 0), (5, .inl ((i : Nat) : Int))] [] w (fun _ h => h) ?_
        refine tl_loc (L' := [(0, .inr 0), (1, .inl ((t : Nat) : Int)), (2, .inl ((r : Nat) : Int)), (3, .inl ((m : Nat) : Int)), (4, .inl (tm_b (decide ((List.range (i + 1)).all (fun u => u == t || tm_tog m (M (34 * u + r))) = true)))), (5, .inl ((i : Nat) : Int))]) (by rw [e1]) ?_
        refine tl_go 2 6 [(0, .inr 0), (1, .inl ((t : Nat) : Int)), (2, .inl ((r : Nat) : Int)), (3, .inl ((m : Nat) : Int)), (4, .inl (tm_b (decide ((List.range (i + 1)).all (fun u => u == t || tm_tog m (M (34 * u + r))) = true)))), (5, .inl (((i : Nat) : Int) + 1))] [] w (fun _ h => And.intro (by omega) h) ?_
        exact ih (i + 1) (by omega)
      · have hc := of_decide_eq_true (tm_bne hc)
        refine tl_go 2 21 [(0, .inr 0), (1, .inl ((t : Nat) : Int)), (2, .inl ((r : Nat) : Int)), (3, .inl ((m : Nat) : Int)), (4, .inl (tm_b (decide ((List.range i).all (fun u => u == t || tm_tog m (M (34 * u + r))) = true)))), (5, .inl ((i : Nat) : Int))] [.inl ((t : Nat) : Int), .inl ((i : Nat) : Int)] w (fun _ h => h) ?_
        refine tl_if (((i : Nat) : Int) = ((t : Nat) : Int)) 43 24 [(0, .inr 0), (1, .inl ((t : Nat) : Int)), (2, .inl ((r : Nat) : Int)), (3, .inl ((m : Nat) : Int)), (4, .inl (tm_b (decide ((List.range i).all (fun u => u == t || tm_tog m (M (34 * u + r))) = true)))), (5, .inl ((i : Nat) : Int))] [] (fun _ h => h) (fun he => ?_) (fun he => ?_)
        · have e1 : (1 : Int) = tm_b (decide ((List.range (i + 1)).all (fun u => u == t || tm_tog m (M (34 * u + r))) = true)) := (tm_b1 (decide_eq_true (by rw [tm_range_all, hc, show i = t by omega]; simp))).1
          refine tl_go 3 50 [(0, .inr 0), (1, .inl ((t : Nat) : Int)), (2, .inl ((r : Nat) : Int)), (3, .inl ((m : Nat) : Int)), (4, .inl 1), (5, .inl ((i : Nat) : Int))] [] w (fun _ h => h) ?_
          refine tl_loc (L' := [(0, .inr 0), (1, .inl ((t : Nat) : Int)), (2, .inl ((r : Nat) : Int)), (3, .inl ((m : Nat) : Int)), (4, .inl (tm_b (decide ((List.range (i + 1)).all (fun u => u == t || tm_tog m (M (34 * u + r))) = true)))), (5, .inl ((i : Nat) : Int))]) (by rw [e1]) ?_
          refine tl_go 2 6 [(0, .inr 0), (1, .inl ((t : Nat) : Int)), (2, .inl ((r : Nat) : Int)), (3, .inl ((m : Nat) : Int)), (4, .inl (tm_b (decide ((List.range (i + 1)).all (fun u => u == t || tm_tog m (M (34 * u + r))) = true)))), (5, .inl (((i : Nat) : Int) + 1))] [] w (fun _ h => And.intro (by omega) h) ?_
          exact ih (i + 1) (by omega)
        · refine tl_go 8 36 [(0, .inr 0), (1, .inl ((t : Nat) : Int)), (2, .inl ((r : Nat) : Int)), (3, .inl ((m : Nat) : Int)), (4, .inl (tm_b (decide ((List.range i).all (fun u => u == t || tm_tog m (M (34 * u + r))) = true)))), (5, .inl ((i : Nat) : Int))] [.inl ((34 * ((i : Nat) : Int)) + ((r : Nat) : Int)), .inr 1, .inl ((m : Nat) : Int)] w (fun _ h => And.intro rfl (And.intro (by decide) (And.intro (by omega) (And.intro (by omega) h)))) ?_
          refine tl_ald (34 * i + r) 272 (k := 0) rfl (by omega) rfl (by omega) ?_
          refine tl_top (y := ((M (34 * i + r) : Nat) : Int)) (hM _ (by omega)) ?_
          refine tl_callS (as := [.inl ((m : Nat) : Int), .inl ((M (34 * i + r) : Nat) : Int)]) (rest := []) (v := some (tm_b (decide (tm_tog m (M (34 * i + r)) = true)))) (w' := w) rfl rfl rfl rfl (tb_tog d m (M (34 * i + r)) w) (Nat.le_of_ble_eq_true rfl) rfl rfl (Nat.le_of_ble_eq_true rfl) ?_
          refine tl_if ((tm_b (decide (tm_tog m (M (34 * i + r)) = true))) = 0) 47 43 [(0, .inr 0), (1, .inl ((t : Nat) : Int)), (2, .inl ((r : Nat) : Int)), (3, .inl ((m : Nat) : Int)), (4, .inl (tm_b (decide ((List.range i).all (fun u => u == t || tm_tog m (M (34 * u + r))) = true)))), (5, .inl ((i : Nat) : Int))] [] (fun _ h => h) (fun hg => ?_) (fun hg => ?_)
          · have hg := of_decide_eq_false (tm_beq hg)
            have e1 : (0 : Int) = tm_b (decide ((List.range (i + 1)).all (fun u => u == t || tm_tog m (M (34 * u + r))) = true)) := (tm_b0 (decide_eq_false (fun q => by rw [tm_range_all, Bool.and_eq_true, Bool.or_eq_true, beq_iff_eq] at q; exact q.2.elim (fun z => he (by rw [z])) hg))).1
            refine tl_go 2 50 [(0, .inr 0), (1, .inl ((t : Nat) : Int)), (2, .inl ((r : Nat) : Int)), (3, .inl ((m : Nat) : Int)), (4, .inl 0), (5, .inl ((i : Nat) : Int))] [] w (fun _ h => h) ?_
            refine tl_loc (L' := [(0, .inr 0), (1, .inl ((t : Nat) : Int)), (2, .inl ((r : Nat) : Int)), (3, .inl ((m : Nat) : Int)), (4, .inl (tm_b (decide ((List.range (i + 1)).all (fun u => u == t || tm_tog m (M (34 * u + r))) = true)))), (5, .inl ((i : Nat) : Int))]) (by rw [e1]) ?_
            refine tl_go 2 6 [(0, .inr 0), (1, .inl ((t : Nat) : Int)), (2, .inl ((r : Nat) : Int)), (3, .inl ((m : Nat) : Int)), (4, .inl (tm_b (decide ((List.range (i + 1)).all (fun u => u == t || tm_tog m (M (34 * u + r))) = true)))), (5, .inl (((i : Nat) : Int) + 1))] [] w (fun _ h => And.intro (by omega) h) ?_
            exact ih (i + 1) (by omega)
          · have hg := of_decide_eq_true (tm_bne hg)
            have e1 : (1 : Int) = tm_b (decide ((List.range (i + 1)).all (fun u => u == t || tm_tog m (M (34 * u + r))) = true)) := (tm_b1 (decide_eq_true (by rw [tm_range_all, hc, hg]; simp))).1
            refine tl_go 3 50 [(0, .inr 0), (1, .inl ((t : Nat) : Int)), (2, .inl ((r : Nat) : Int)), (3, .inl ((m : Nat) : Int)), (4, .inl 1), (5, .inl ((i : Nat) : Int))] [] w (fun _ h => h) ?_
            refine tl_loc (L' := [(0, .inr 0), (1, .inl ((t : Nat) : Int)), (2, .inl ((r : Nat) : Int)), (3, .inl ((m : Nat) : Int)), (4, .inl (tm_b (decide ((List.range (i + 1)).all (fun u => u == t || tm_tog m (M (34 * u + r))) = true)))), (5, .inl ((i : Nat) : Int))]) (by rw [e1]) ?_
            refine tl_go 2 6 [(0, .inr 0), (1, .inl ((t : Nat) : Int)), (2, .inl ((r : Nat) : Int)), (3, .inl ((m : Nat) : Int)), (4, .inl (tm_b (decide ((List.range (i + 1)).all (fun u => u == t || tm_tog m (M (34 * u + r))) = true)))), (5, .inl (((i : Nat) : Int) + 1))] [] w (fun _ h => And.intro (by omega) h) ?_
            exact ih (i + 1) (by omega)
  exact loop 8 0 rfl
def tm_RM (w : tl_W) (σ : tm_S) : Prop := (∀ i, i < 272 → w 0 i = (σ.1 i : Int)) ∧ (∀ t, t < 8 → w 1 t = (σ.2.1 t : Int) ∧ w 2 t = (σ.2.2.1 t : Int)) ∧ (∀ r, r < 34 → w 4 r = ((σ.2.2.2 r).length : Int) ∧ ∀ k t : Nat, (σ.2.2.2 r)[k]? = some t → w 3 (8 * r + k) = (t : Int))
/-- a world of leaving: positions k to i of r's queue have moved -/
def tm_lw (w : tl_W) (r k i : Nat) : tl_W := fun a => if a = 4 then va_up (w 4) r (w 4 r - 1) else if a = 3 then (fun x => if 8 * r + k ≤ x ∧ x < 8 * r + i then w 3 (x + 1) else w 3 x) else w a
theorem tm_lw_4 (w : tl_W) (r k i : Nat) : tm_lw w r k i 4 = va_up (w 4) r (w 4 r - 1) := rfl
theorem tm_lw_3 (w : tl_W) (r k i x : Nat) : tm_lw w r k i 3 x = if 8 * r + k ≤ x ∧ x < 8 * r + i then w 3 (x + 1) else w 3 x := rfl
theorem tm_lw_n {w : tl_W} {r k i a : Nat} (h4 : a ≠ 4) (h3 : a ≠ 3) : tm_lw w r k i a = w a := by unfold tm_lw; rw [if_neg h4, if_neg h3]
theorem tm_lw_0 (w : tl_W) (r k : Nat) : tl_set w 4 r (w 4 r - 1) = tm_lw w r k k := by
  funext a x
  unfold tl_set tm_lw
  by_cases h4 : a = 4
  · rw [if_pos h4, if_pos h4]
  · rw [if_neg h4, if_neg h4]
    by_cases h3 : a = 3
    · rw [if_pos h3, h3]
      show w 3 x = if 8 * r + k ≤ x ∧ x < 8 * r + k then w 3 (x + 1) else w 3 x
      rw [if_neg (by omega)]
    · rw [if_neg h3]
theorem tm_lw_s {w : tl_W} {r k i : Nat} (h : k ≤ i) : tl_set (tm_lw w r k i) 3 (8 * r + i) (w 3 (8 * r + i + 1)) = tm_lw w r k (i + 1) := by
  funext a x
  unfold tl_set
  by_cases h3 : a = 3
  · rw [if_pos h3, h3, tm_lw_3]
    unfold va_up
    by_cases hx : x = 8 * r + i
    · rw [if_pos hx, hx, if_pos (by omega)]
    · rw [if_neg hx, tm_lw_3]
      by_cases hc : 8 * r + k ≤ x ∧ x < 8 * r + i
      · rw [if_pos hc, if_pos (by omega)]
      · rw [if_neg hc, if_neg (by omega)]
  · rw [if_neg h3]
    by_cases h4 : a = 4
    · rw [h4, tm_lw_4, tm_lw_4]
    · rw [tm_lw_n h4 h3, tm_lw_n h4 h3]
theorem tm_lw_RM {w : tl_W} {σ : tm_S} (hR : tm_RM w σ) {r k : Nat} (hr : r < 34) (hk : k < (σ.2.2.2 r).length) (h8 : ∀ c, c < 34 → (σ.2.2.2 c).length ≤ 8) : tm_RM (tm_lw w r k ((σ.2.2.2 r).length - 1)) (σ.1, σ.2.1, σ.2.2.1, va_up σ.2.2.2 r ((σ.2.2.2 r).eraseIdx k)) := by
  refine ⟨fun i hi => ?_, fun u hu => ⟨?_, ?_⟩, fun c hc => ⟨?_, fun j u hj => ?_⟩⟩
  · rw [tm_lw_n (by decide) (by decide)]; exact hR.1 i hi
  · rw [tm_lw_n (by decide) (by decide)]; exact (hR.2.1 u hu).1
  · rw [tm_lw_n (by decide) (by decide)]; exact (hR.2.1 u hu).2
  · rw [tm_lw_4]
    show va_up (w 4) r _ c = ((va_up σ.2.2.2 r _ c).length : Int)
    by_cases e : c = r
    · rw [e, va_up_s, va_up_s, List.length_eraseIdx, if_pos hk, (hR.2.2 r hr).1]
      omega
    · rw [va_up_n _ _ e, va_up_n _ _ e]; exact (hR.2.2 c hc).1
  · rw [tm_lw_3]
    have hj : (va_up σ.2.2.2 r ((σ.2.2.2 r).eraseIdx k) c)[j]? = some u := hj
    by_cases e : c = r
    · subst e
      rw [va_up_s] at hj
      by_cases hlt : j < k
      · rw [List.getElem?_eraseIdx_of_lt hlt] at hj
        rw [if_neg (by omega)]
        exact (hR.2.2 c hc).2 j u hj
      · rw [List.getElem?_eraseIdx_of_ge (by omega)] at hj
        have h1 := (List.getElem?_eq_some_iff.mp hj).1
        rw [if_pos (by omega)]
        exact (hR.2.2 c hc).2 (j + 1) u hj
    · rw [va_up_n _ _ e] at hj
      have h1 := (List.getElem?_eq_some_iff.mp hj).1
      have h2 := h8 c hc
      have h3 := h8 r hr
      rw [if_neg (by omega)]
      exact (hR.2.2 c hc).2 j u hj

theorem tb_lv (d : Nat) {r k : Nat} {σ : tm_S} (w : tl_W) (hR : tm_RM w σ) (hr : r < 34) (hk : k < (σ.2.2.2 r).length) (h8 : (σ.2.2.2 r).length ≤ 8) : tl_Ev tb_P (d + 1) 11 [.inr 0, .inl ((r : Nat) : Int), .inl ((k : Nat) : Int)] w (.inl (none)) (tm_lw w r k ((σ.2.2.2 r).length - 1)) := by
  refine tl_start fun Q hQ => ?_
  have hl := (hR.2.2 r hr).1
  refine tl_go 4 6 [(0, .inr 0), (1, .inl ((r : Nat) : Int)), (2, .inl ((k : Nat) : Int))] [.inl ((r : Nat) : Int), .inr 5, .inl ((r : Nat) : Int), .inr 5] w (fun _ h => And.intro rfl (And.intro (by decide) (h))) ?_
  refine tl_ald (r) 34 (k := 4) rfl (by omega) rfl (by omega) ?_
  refine tl_go 2 9 [(0, .inr 0), (1, .inl ((r : Nat) : Int)), (2, .inl ((k : Nat) : Int))] [.inl ((w 4 (r)) - 1), .inl ((r : Nat) : Int), .inr 5] w (fun _ h => And.intro (by omega) h) ?_
  refine tl_ast (r) 34 (k := 4) rfl (by decide) (by omega) rfl (by omega) ?_
  refine tl_wld (w' := (tm_lw w r k k)) (tm_lw_0 w r k) ?_
  refine tl_go 2 12 [(0, .inr 0), (1, .inl ((r : Nat) : Int)), (2, .inl ((k : Nat) : Int)), (3, .inl ((k : Nat) : Int))] [] (tm_lw w r k k) (fun _ h => h) ?_
  have loop : ∀ m i : Nat, i + m = (σ.2.2.2 r).length - 1 → k ≤ i → tl_E tb_P d 11 12 [(0, .inr 0), (1, .inl (r : Int)), (2, .inl (k : Int)), (3, .inl (i : Int))] [] (tm_lw w r k i) Q := by
    intro m
    induction m with
    | zero =>
      intro i hi hki
      rw [show (σ.2.2.2 r).length - 1 = i by omega] at hQ
      refine tl_go 4 18 [(0, .inr 0), (1, .inl ((r : Nat) : Int)), (2, .inl ((k : Nat) : Int)), (3, .inl ((i : Nat) : Int))] [.inl ((r : Nat) : Int), .inr 5, .inl ((i : Nat) : Int)] (tm_lw w r k i) (fun _ h => And.intro rfl (And.intro (by decide) (h))) ?_
      refine tl_ald (r) 34 (k := 4) rfl (by omega) rfl (by omega) ?_
      refine tl_top (y := (((σ.2.2.2 r).length - 1 : Nat) : Int)) (by rw [tm_lw_4, va_up_s, hl]; omega) ?_
      refine tl_ift ((((σ.2.2.2 r).length - 1 : Nat) : Int) ≤ ((i : Nat) : Int)) 52 22 [(0, .inr 0), (1, .inl ((r : Nat) : Int)), (2, .inl ((k : Nat) : Int)), (3, .inl ((i : Nat) : Int))] [] (fun _ h => h) (by omega) ?_
      exact tl_retv rfl rfl (hQ)
    | succ m ih =>
      intro i hi hki
      refine tl_go 4 18 [(0, .inr 0), (1, .inl ((r : Nat) : Int)), (2, .inl ((k : Nat) : Int)), (3, .inl ((i : Nat) : Int))] [.inl ((r : Nat) : Int), .inr 5, .inl ((i : Nat) : Int)] (tm_lw w r k i) (fun _ h => And.intro rfl (And.intro (by decide) (h))) ?_
      refine tl_ald (r) 34 (k := 4) rfl (by omega) rfl (by omega) ?_
      refine tl_top (y := (((σ.2.2.2 r).length - 1 : Nat) : Int)) (by rw [tm_lw_4, va_up_s, hl]; omega) ?_
      refine tl_iff ((((σ.2.2.2 r).length - 1 : Nat) : Int) ≤ ((i : Nat) : Int)) 52 22 [(0, .inr 0), (1, .inl ((r : Nat) : Int)), (2, .inl ((k : Nat) : Int)), (3, .inl ((i : Nat) : Int))] [] (fun _ h => h) (by omega) ?_
      refine tl_go 16 44 [(0, .inr 0), (1, .inl ((r : Nat) : Int)), (2, .inl ((k : Nat) : Int)), (3, .inl ((i : Nat) : Int))] [.inl (((8 * ((r : Nat) : Int)) + ((i : Nat) : Int)) + 1), .inr 4, .inl ((8 * ((r : Nat) : Int)) + ((i : Nat) : Int)), .inr 4] (tm_lw w r k i) (fun _ h => And.intro rfl (And.intro (by decide) (And.intro (by omega) (And.intro (by omega) (And.intro rfl (And.intro (by decide) (And.intro (by omega) (And.intro (by omega) (And.intro (by omega) h))))))))) ?_
      refine tl_ald (8 * r + i + 1) 272 (k := 3) rfl (by omega) rfl (by omega) ?_
      refine tl_top (y := (w 3 (8 * r + i + 1))) (by rw [tm_lw_3, if_neg (by omega)]) ?_
      refine tl_ast (8 * r + i) 272 (k := 3) rfl (by decide) (by omega) rfl (by omega) ?_
      refine tl_wld (w' := (tm_lw w r k (i + 1))) (tm_lw_s hki) ?_
      refine tl_go 2 12 [(0, .inr 0), (1, .inl ((r : Nat) : Int)), (2, .inl ((k : Nat) : Int)), (3, .inl (((i : Nat) : Int) + 1))] [] (tm_lw w r k (i + 1)) (fun _ h => And.intro (by omega) h) ?_
      exact ih (i + 1) (by omega) (by omega)
  exact loop ((σ.2.2.2 r).length - 1 - k) k (by omega) (Nat.le_refl _)
theorem tb_po (d : Nat) (t r : Nat) {σ : tm_S} (w : tl_W) (hR : tm_RM w σ) (hr : r < 34) (hn : (σ.2.2.2 r).Nodup) (h8 : (σ.2.2.2 r).length ≤ 8) : tl_Ev tb_P (d + 1) 13 [.inr 0, .inl ((t : Nat) : Int), .inl ((r : Nat) : Int)] w (.inl (some (((σ.2.2.2 r).idxOf t : Nat) : Int))) w := by
  refine tl_start fun Q hQ => ?_
  have hl := (hR.2.2 r hr).1
  refine tl_go 2 2 [(0, .inr 0), (1, .inl ((t : Nat) : Int)), (2, .inl ((r : Nat) : Int)), (3, .inl 0)] [] w (fun _ h => h) ?_
  have loop : ∀ m i : Nat, i + m = (σ.2.2.2 r).length → (∀ j, j < i → (σ.2.2.2 r)[j]? ≠ some t) → tl_E tb_P d 13 2 [(0, .inr 0), (1, .inl (t : Int)), (2, .inl (r : Int)), (3, .inl (i : Int))] [] w Q := by
    intro m
    induction m with
    | zero =>
      intro i hi hall
      refine tl_go 4 8 [(0, .inr 0), (1, .inl ((t : Nat) : Int)), (2, .inl ((r : Nat) : Int)), (3, .inl ((i : Nat) : Int))] [.inl ((r : Nat) : Int), .inr 5, .inl ((i : Nat) : Int)] w (fun _ h => And.intro rfl (And.intro (by decide) (h))) ?_
      refine tl_ald (r) 34 (k := 4) rfl (by omega) rfl (by omega) ?_
      refine tl_top (y := (((σ.2.2.2 r).length : Nat) : Int)) (hl) ?_
      refine tl_ift ((((σ.2.2.2 r).length : Nat) : Int) ≤ ((i : Nat) : Int)) 33 12 [(0, .inr 0), (1, .inl ((t : Nat) : Int)), (2, .inl ((r : Nat) : Int)), (3, .inl ((i : Nat) : Int))] [] (fun _ h => h) (by omega) ?_
      refine tl_go 1 34 [(0, .inr 0), (1, .inl ((t : Nat) : Int)), (2, .inl ((r : Nat) : Int)), (3, .inl ((i : Nat) : Int))] [.inl ((i : Nat) : Int)] w (fun _ h => h) ?_
      exact tl_reti rfl rfl (by rw [List.idxOf_eq_length (fun q => by obtain ⟨j, hj⟩ := List.getElem?_of_mem q; exact hall j (by have := (List.getElem?_eq_some_iff.mp hj).1; omega) hj)]; omega) (hQ)
    | succ m ih =>
      intro i hi hall
      obtain ⟨u, hu⟩ : ∃ u, (σ.2.2.2 r)[i]? = some u := ⟨_, List.getElem?_eq_getElem (by omega)⟩
      refine tl_go 4 8 [(0, .inr 0), (1, .inl ((t : Nat) : Int)), (2, .inl ((r : Nat) : Int)), (3, .inl ((i : Nat) : Int))] [.inl ((r : Nat) : Int), .inr 5, .inl ((i : Nat) : Int)] w (fun _ h => And.intro rfl (And.intro (by decide) (h))) ?_
      refine tl_ald (r) 34 (k := 4) rfl (by omega) rfl (by omega) ?_
      refine tl_top (y := (((σ.2.2.2 r).length : Nat) : Int)) (hl) ?_
      refine tl_iff ((((σ.2.2.2 r).length : Nat) : Int) ≤ ((i : Nat) : Int)) 33 12 [(0, .inr 0), (1, .inl ((t : Nat) : Int)), (2, .inl ((r : Nat) : Int)), (3, .inl ((i : Nat) : Int))] [] (fun _ h => h) (by omega) ?_
      refine tl_go 7 22 [(0, .inr 0), (1, .inl ((t : Nat) : Int)), (2, .inl ((r : Nat) : Int)), (3, .inl ((i : Nat) : Int))] [.inl ((8 * ((r : Nat) : Int)) + ((i : Nat) : Int)), .inr 4] w (fun _ h => And.intro rfl (And.intro (by decide) (And.intro (by omega) (And.intro (by omega) h)))) ?_
      refine tl_ald (8 * r + i) 272 (k := 3) rfl (by omega) rfl (by omega) ?_
      refine tl_top (y := ((u : Nat) : Int)) ((hR.2.2 r hr).2 i u hu) ?_
      refine tl_go 1 24 [(0, .inr 0), (1, .inl ((t : Nat) : Int)), (2, .inl ((r : Nat) : Int)), (3, .inl ((i : Nat) : Int))] [.inl ((t : Nat) : Int), .inl ((u : Nat) : Int)] w (fun _ h => h) ?_
      refine tl_if (((u : Nat) : Int) = ((t : Nat) : Int)) 33 27 [(0, .inr 0), (1, .inl ((t : Nat) : Int)), (2, .inl ((r : Nat) : Int)), (3, .inl ((i : Nat) : Int))] [] (fun _ h => h) (fun hc => ?_) (fun hc => ?_)
      · have hu : (σ.2.2.2 r)[i]? = some t := by rw [hu, show u = t by omega]
        refine tl_go 1 34 [(0, .inr 0), (1, .inl ((t : Nat) : Int)), (2, .inl ((r : Nat) : Int)), (3, .inl ((i : Nat) : Int))] [.inl ((i : Nat) : Int)] w (fun _ h => h) ?_
        exact tl_reti rfl rfl (by rw [tm_ix hn hu]) (hQ)
      · refine tl_go 2 2 [(0, .inr 0), (1, .inl ((t : Nat) : Int)), (2, .inl ((r : Nat) : Int)), (3, .inl (((i : Nat) : Int) + 1))] [] w (fun _ h => And.intro (by omega) h) ?_
        refine ih (i + 1) (by omega) (fun j hj => ?_)
        by_cases e : j = i
        · rw [e, hu]; intro q; exact hc (by rw [Option.some.inj q])
        · exact hall j (by omega)
  exact loop _ 0 (Nat.zero_add _) (fun j hj => absurd hj (Nat.not_lt_zero _))
