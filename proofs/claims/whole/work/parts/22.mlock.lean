/-! 22.mlock: the reference's isCovered, ask, lock, printed by b3.py -/
def tm_c1 (m : Int) (h : Nat) : Bool := decide (h = 5) || (decide (h = 3 ∨ h = 4) && decide (m = 1 ∨ m = 3))
theorem tm_c1_iff {m : Int} {h : Nat} {b : Bool} : (b || tm_c1 m h) = true ↔ (b = true ∨ (h = 5 ∨ ((h = 3 ∨ h = 4) ∧ (m = 1 ∨ m = 3)))) := by
  unfold tm_c1
  simp only [Bool.or_eq_true, Bool.and_eq_true, decide_eq_true_eq]
theorem tm_rfa_le {M : Nat → Nat} {t k : Nat} : ∀ (l : List Nat) (a : Nat), k ≤ tm_rfa M t l a ↔ k ≤ a ∨ ∃ p ∈ l, k ≤ tm_rt (M (34 * t + p)) := by
  intro l
  induction l with
  | nil => intro a; exact ⟨Or.inl, fun q => q.elim id (fun ⟨p, hp, _⟩ => by cases hp)⟩
  | cons b l ih =>
    intro a
    show k ≤ tm_rfa M t l (max a (tm_rt (M (34 * t + b)))) ↔ _
    rw [ih]
    constructor
    · rintro (h | ⟨p, hp, h⟩)
      · by_cases h1 : k ≤ a
        · exact Or.inl h1
        · exact Or.inr ⟨b, List.mem_cons_self, by omega⟩
      · exact Or.inr ⟨p, List.mem_cons_of_mem _ hp, h⟩
    · rintro (h | ⟨p, hp, h⟩)
      · exact Or.inl (by omega)
      · rcases List.mem_cons.mp hp with e | hp
        · rw [e] at h; exact Or.inl (by omega)
        · exact Or.inr ⟨p, hp, h⟩
theorem tm_cvd_any (M : Nat → Nat) (t r : Nat) (m : Int) : tm_cvd M t r m = (tm_an 3 r).any (fun p => tm_c1 m (M (34 * t + p))) := by
  have key : ∀ h : Nat, (if m = 1 ∨ m = 3 then 1 else 2) ≤ tm_rt h ↔ tm_c1 m h = true := by
    intro h
    have := tm_c1_iff (m := m) (h := h) (b := false)
    rw [Bool.false_or] at this
    rw [this]
    unfold tm_rt
    (repeat' split) <;> simp <;> omega
  unfold tm_cvd
  rw [Bool.eq_iff_iff, decide_eq_true_eq, tm_rfa_le, List.any_eq_true]
  constructor
  · rintro (h | ⟨p, hp, h⟩)
    · split at h <;> omega
    · exact ⟨p, hp, (key _).mp h⟩
  · rintro ⟨p, hp, h⟩
    exact Or.inr ⟨p, hp, (key _).mpr h⟩

theorem tb_cvd (d : Nat) (t r : Nat) (m : Int) (ht : t < 8) (hr : r < 34) {M : Nat → Nat} (w : tl_W) (hM : ∀ i, i < 272 → w 0 i = (M i : Int)) : tl_Ev tb_P (d + 2) 17 [.inr 0, .inl ((t : Nat) : Int), .inl ((r : Nat) : Int), .inl m] w (.inl (some (tm_b (decide (tm_cvd M t r m = true))))) w := by
  refine tl_start fun Q hQ => ?_
  have hq0 := tm_cvd_any M t r m
  refine tl_go 3 4 [(0, .inr 0), (1, .inl ((t : Nat) : Int)), (2, .inl ((r : Nat) : Int)), (3, .inl m), (4, .inl 0)] [.inl ((r : Nat) : Int)] w (fun _ h => h) ?_
  refine tl_callS (as := [.inl ((r : Nat) : Int)]) (rest := []) (v := some (tm_pI r)) (w' := w) rfl rfl rfl rfl (tb_par d r hr w) (Nat.le_of_ble_eq_true rfl) rfl rfl (Nat.le_of_ble_eq_true rfl) ?_
  refine tl_go 1 9 [(0, .inr 0), (1, .inl ((t : Nat) : Int)), (2, .inl ((r : Nat) : Int)), (3, .inl m), (4, .inl 0), (5, .inl (tm_pI r))] [] w (fun _ h => h) ?_
  have loop : ∀ (n cur : Nat) (b : Bool), cur < 34 → tm_dp cur ≤ n → tm_cvd M t r m = (b || (tm_an n cur).any (fun p => tm_c1 m (M (34 * t + p)))) → ∀ L : tl_L, (L = [(0, .inr 0), (1, .inl (t : Int)), (2, .inl (r : Int)), (3, .inl m), (4, .inl (tm_b (decide (b = true)))), (5, .inl (tm_pI cur))] ∨ ∃ x : Int, L = [(0, .inr 0), (1, .inl (t : Int)), (2, .inl (r : Int)), (3, .inl m), (4, .inl (tm_b (decide (b = true)))), (5, .inl (tm_pI cur)), (6, .inl x)]) → tl_E tb_P (d + 1) 17 9 L [] w Q := by
    intro n
    induction n with
    | zero =>
      intro cur b hcur hd hq L hL
      have h0 := tm_dp0 (Nat.le_zero.mp hd)
      rcases hL with rfl | ⟨x, rfl⟩
      · refine tl_loc (L' := [(0, .inr 0), (1, .inl ((t : Nat) : Int)), (2, .inl ((r : Nat) : Int)), (3, .inl m), (4, .inl (tm_b (decide (b = true)))), (5, .inl (-1))]) (by rw [h0]; rfl) ?_
        refine tl_go 1 11 [(0, .inr 0), (1, .inl ((t : Nat) : Int)), (2, .inl ((r : Nat) : Int)), (3, .inl m), (4, .inl (tm_b (decide (b = true)))), (5, .inl (-1))] [.inl (-1)] w (fun _ h => h) ?_
        refine tl_ift ((-1) < 0) 78 14 [(0, .inr 0), (1, .inl ((t : Nat) : Int)), (2, .inl ((r : Nat) : Int)), (3, .inl m), (4, .inl (tm_b (decide (b = true)))), (5, .inl (-1))] [] (fun _ h => h) (by decide) ?_
        refine tl_go 1 80 [(0, .inr 0), (1, .inl ((t : Nat) : Int)), (2, .inl ((r : Nat) : Int)), (3, .inl m), (4, .inl (tm_b (decide (b = true)))), (5, .inl (-1))] [.inl (tm_b (decide (b = true)))] w (fun _ h => h) ?_
        exact tl_retz rfl rfl (⟨by rw [hq, h0]; simp [tm_an], tm_b01 _⟩) (hQ)
      · refine tl_loc (L' := [(0, .inr 0), (1, .inl ((t : Nat) : Int)), (2, .inl ((r : Nat) : Int)), (3, .inl m), (4, .inl (tm_b (decide (b = true)))), (5, .inl (-1)), (6, .inl x)]) (by rw [h0]; rfl) ?_
        refine tl_go 1 11 [(0, .inr 0), (1, .inl ((t : Nat) : Int)), (2, .inl ((r : Nat) : Int)), (3, .inl m), (4, .inl (tm_b (decide (b = true)))), (5, .inl (-1)), (6, .inl x)] [.inl (-1)] w (fun _ h => h) ?_
        refine tl_ift ((-1) < 0) 78 14 [(0, .inr 0), (1, .inl ((t : Nat) : Int)), (2, .inl ((r : Nat) : Int)), (3, .inl m), (4, .inl (tm_b (decide (b = true)))), (5, .inl (-1)), (6, .inl x)] [] (fun _ h => h) (by decide) ?_
        refine tl_go 1 80 [(0, .inr 0), (1, .inl ((t : Nat) : Int)), (2, .inl ((r : Nat) : Int)), (3, .inl m), (4, .inl (tm_b (decide (b = true)))), (5, .inl (-1)), (6, .inl x)] [.inl (tm_b (decide (b = true)))] w (fun _ h => h) ?_
        exact tl_retz rfl rfl (⟨by rw [hq, h0]; simp [tm_an], tm_b01 _⟩) (hQ)
    | succ n ih =>
      intro cur b hcur hd hq L hL
      by_cases h0 : cur = 0
      · rcases hL with rfl | ⟨x, rfl⟩
        · refine tl_loc (L' := [(0, .inr 0), (1, .inl ((t : Nat) : Int)), (2, .inl ((r : Nat) : Int)), (3, .inl m), (4, .inl (tm_b (decide (b = true)))), (5, .inl (-1))]) (by rw [h0]; rfl) ?_
          refine tl_go 1 11 [(0, .inr 0), (1, .inl ((t : Nat) : Int)), (2, .inl ((r : Nat) : Int)), (3, .inl m), (4, .inl (tm_b (decide (b = true)))), (5, .inl (-1))] [.inl (-1)] w (fun _ h => h) ?_
          refine tl_ift ((-1) < 0) 78 14 [(0, .inr 0), (1, .inl ((t : Nat) : Int)), (2, .inl ((r : Nat) : Int)), (3, .inl m), (4, .inl (tm_b (decide (b = true)))), (5, .inl (-1))] [] (fun _ h => h) (by decide) ?_
          refine tl_go 1 80 [(0, .inr 0), (1, .inl ((t : Nat) : Int)), (2, .inl ((r : Nat) : Int)), (3, .inl m), (4, .inl (tm_b (decide (b = true)))), (5, .inl (-1))] [.inl (tm_b (decide (b = true)))] w (fun _ h => h) ?_
          exact tl_retz rfl rfl (⟨by rw [hq, h0]; simp [tm_an], tm_b01 _⟩) (hQ)
        · refine tl_loc (L' := [(0, .inr 0), (1, .inl ((t : Nat) : Int)), (2, .inl ((r : Nat) : Int)), (3, .inl m), (4, .inl (tm_b (decide (b = true)))), (5, .inl (-1)), (6, .inl x)]) (by rw [h0]; rfl) ?_
          refine tl_go 1 11 [(0, .inr 0), (1, .inl ((t : Nat) : Int)), (2, .inl ((r : Nat) : Int)), (3, .inl m), (4, .inl (tm_b (decide (b = true)))), (5, .inl (-1)), (6, .inl x)] [.inl (-1)] w (fun _ h => h) ?_
          refine tl_ift ((-1) < 0) 78 14 [(0, .inr 0), (1, .inl ((t : Nat) : Int)), (2, .inl ((r : Nat) : Int)), (3, .inl m), (4, .inl (tm_b (decide (b = true)))), (5, .inl (-1)), (6, .inl x)] [] (fun _ h => h) (by decide) ?_
          refine tl_go 1 80 [(0, .inr 0), (1, .inl ((t : Nat) : Int)), (2, .inl ((r : Nat) : Int)), (3, .inl m), (4, .inl (tm_b (decide (b = true)))), (5, .inl (-1)), (6, .inl x)] [.inl (tm_b (decide (b = true)))] w (fun _ h => h) ?_
          exact tl_retz rfl rfl (⟨by rw [hq, h0]; simp [tm_an], tm_b01 _⟩) (hQ)
      · have hlt := tm_pn_lt h0
        have hdp := tm_dp_pn h0 hcur
        rcases hL with rfl | ⟨x, rfl⟩
        · refine tl_loc (L' := [(0, .inr 0), (1, .inl ((t : Nat) : Int)), (2, .inl ((r : Nat) : Int)), (3, .inl m), (4, .inl (tm_b (decide (b = true)))), (5, .inl ((tm_pn cur : Nat) : Int))]) (by rw [tm_pI_p h0]) ?_
          refine tl_go 1 11 [(0, .inr 0), (1, .inl ((t : Nat) : Int)), (2, .inl ((r : Nat) : Int)), (3, .inl m), (4, .inl (tm_b (decide (b = true)))), (5, .inl ((tm_pn cur : Nat) : Int))] [.inl ((tm_pn cur : Nat) : Int)] w (fun _ h => h) ?_
          refine tl_iff (((tm_pn cur : Nat) : Int) < 0) 78 14 [(0, .inr 0), (1, .inl ((t : Nat) : Int)), (2, .inl ((r : Nat) : Int)), (3, .inl m), (4, .inl (tm_b (decide (b = true)))), (5, .inl ((tm_pn cur : Nat) : Int))] [] (fun _ h => h) (by omega) ?_
          refine tl_go 7 25 [(0, .inr 0), (1, .inl ((t : Nat) : Int)), (2, .inl ((r : Nat) : Int)), (3, .inl m), (4, .inl (tm_b (decide (b = true)))), (5, .inl ((tm_pn cur : Nat) : Int))] [.inl ((34 * ((t : Nat) : Int)) + ((tm_pn cur : Nat) : Int)), .inr 1] w (fun _ h => And.intro rfl (And.intro (by decide) (And.intro (by omega) (And.intro (by omega) h)))) ?_
          refine tl_ald (34 * t + tm_pn cur) 272 (k := 0) rfl (by omega) rfl (by omega) ?_
          refine tl_top (y := ((M (34 * t + tm_pn cur) : Nat) : Int)) (hM _ (by omega)) ?_
          refine tl_go 2 30 [(0, .inr 0), (1, .inl ((t : Nat) : Int)), (2, .inl ((r : Nat) : Int)), (3, .inl m), (4, .inl (tm_b (decide (b = true)))), (5, .inl ((tm_pn cur : Nat) : Int)), (6, .inl ((M (34 * t + tm_pn cur) : Nat) : Int))] [.inl (tm_b (decide (b = true)))] w (fun _ h => h) ?_
          refine tl_if (¬ (tm_b (decide (b = true))) = 0) 61 33 [(0, .inr 0), (1, .inl ((t : Nat) : Int)), (2, .inl ((r : Nat) : Int)), (3, .inl m), (4, .inl (tm_b (decide (b = true)))), (5, .inl ((tm_pn cur : Nat) : Int)), (6, .inl ((M (34 * t + tm_pn cur) : Nat) : Int))] [] (fun _ h => h) (fun hb => ?_) (fun hb => ?_)
          · have hb := of_decide_eq_true (tm_bne hb)
            refine tl_go 2 66 [(0, .inr 0), (1, .inl ((t : Nat) : Int)), (2, .inl ((r : Nat) : Int)), (3, .inl m), (4, .inl (tm_b (decide (b = true)))), (5, .inl ((tm_pn cur : Nat) : Int)), (6, .inl ((M (34 * t + tm_pn cur) : Nat) : Int))] [.inl 1] w (fun _ h => h) ?_
            have e1 : (1 : Int) = tm_b (decide ((b || tm_c1 m (M (34 * t + tm_pn cur))) = true)) := (tm_b1 (decide_eq_true (tm_c1_iff.mpr (Or.inl hb)))).1
            refine tl_go 1 68 [(0, .inr 0), (1, .inl ((t : Nat) : Int)), (2, .inl ((r : Nat) : Int)), (3, .inl m), (4, .inl 1), (5, .inl ((tm_pn cur : Nat) : Int)), (6, .inl ((M (34 * t + tm_pn cur) : Nat) : Int))] [] w (fun _ h => h) ?_
            refine tl_loc (L' := [(0, .inr 0), (1, .inl ((t : Nat) : Int)), (2, .inl ((r : Nat) : Int)), (3, .inl m), (4, .inl (tm_b (decide ((b || tm_c1 m (M (34 * t + tm_pn cur))) = true)))), (5, .inl ((tm_pn cur : Nat) : Int)), (6, .inl ((M (34 * t + tm_pn cur) : Nat) : Int))]) (by rw [e1]) ?_
            refine tl_go 1 70 [(0, .inr 0), (1, .inl ((t : Nat) : Int)), (2, .inl ((r : Nat) : Int)), (3, .inl m), (4, .inl (tm_b (decide ((b || tm_c1 m (M (34 * t + tm_pn cur))) = true)))), (5, .inl ((tm_pn cur : Nat) : Int)), (6, .inl ((M (34 * t + tm_pn cur) : Nat) : Int))] [.inl ((tm_pn cur : Nat) : Int)] w (fun _ h => h) ?_
            refine tl_callS (as := [.inl ((tm_pn cur : Nat) : Int)]) (rest := []) (v := some (tm_pI (tm_pn cur))) (w' := w) rfl rfl rfl rfl (tb_par d (tm_pn cur) (by omega) w) (Nat.le_of_ble_eq_true rfl) rfl rfl (Nat.le_of_ble_eq_true rfl) ?_
            refine tl_go 2 9 [(0, .inr 0), (1, .inl ((t : Nat) : Int)), (2, .inl ((r : Nat) : Int)), (3, .inl m), (4, .inl (tm_b (decide ((b || tm_c1 m (M (34 * t + tm_pn cur))) = true)))), (5, .inl (tm_pI (tm_pn cur))), (6, .inl ((M (34 * t + tm_pn cur) : Nat) : Int))] [] w (fun _ h => h) ?_
            exact ih (tm_pn cur) (b || tm_c1 m (M (34 * t + tm_pn cur))) (by omega) (by omega) (by rw [hq, tm_an_s, if_neg h0, List.any_cons, Bool.or_assoc]) _ (Or.inr ⟨_, rfl⟩)
          · have hb := of_decide_eq_false (tm_beq (Classical.not_not.mp hb))
            refine tl_go 2 36 [(0, .inr 0), (1, .inl ((t : Nat) : Int)), (2, .inl ((r : Nat) : Int)), (3, .inl m), (4, .inl (tm_b (decide (b = true)))), (5, .inl ((tm_pn cur : Nat) : Int)), (6, .inl ((M (34 * t + tm_pn cur) : Nat) : Int))] [.inl 5, .inl ((M (34 * t + tm_pn cur) : Nat) : Int)] w (fun _ h => h) ?_
            refine tl_if (((M (34 * t + tm_pn cur) : Nat) : Int) = 5) 61 39 [(0, .inr 0), (1, .inl ((t : Nat) : Int)), (2, .inl ((r : Nat) : Int)), (3, .inl m), (4, .inl (tm_b (decide (b = true)))), (5, .inl ((tm_pn cur : Nat) : Int)), (6, .inl ((M (34 * t + tm_pn cur) : Nat) : Int))] [] (fun _ h => h) (fun hd0 => ?_) (fun hd0 => ?_)
            · refine tl_go 2 66 [(0, .inr 0), (1, .inl ((t : Nat) : Int)), (2, .inl ((r : Nat) : Int)), (3, .inl m), (4, .inl (tm_b (decide (b = true)))), (5, .inl ((tm_pn cur : Nat) : Int)), (6, .inl ((M (34 * t + tm_pn cur) : Nat) : Int))] [.inl 1] w (fun _ h => h) ?_
              have e1 : (1 : Int) = tm_b (decide ((b || tm_c1 m (M (34 * t + tm_pn cur))) = true)) := (tm_b1 (decide_eq_true (tm_c1_iff.mpr (Or.inr (by omega))))).1
              refine tl_go 1 68 [(0, .inr 0), (1, .inl ((t : Nat) : Int)), (2, .inl ((r : Nat) : Int)), (3, .inl m), (4, .inl 1), (5, .inl ((tm_pn cur : Nat) : Int)), (6, .inl ((M (34 * t + tm_pn cur) : Nat) : Int))] [] w (fun _ h => h) ?_
              refine tl_loc (L' := [(0, .inr 0), (1, .inl ((t : Nat) : Int)), (2, .inl ((r : Nat) : Int)), (3, .inl m), (4, .inl (tm_b (decide ((b || tm_c1 m (M (34 * t + tm_pn cur))) = true)))), (5, .inl ((tm_pn cur : Nat) : Int)), (6, .inl ((M (34 * t + tm_pn cur) : Nat) : Int))]) (by rw [e1]) ?_
              refine tl_go 1 70 [(0, .inr 0), (1, .inl ((t : Nat) : Int)), (2, .inl ((r : Nat) : Int)), (3, .inl m), (4, .inl (tm_b (decide ((b || tm_c1 m (M (34 * t + tm_pn cur))) = true)))), (5, .inl ((tm_pn cur : Nat) : Int)), (6, .inl ((M (34 * t + tm_pn cur) : Nat) : Int))] [.inl ((tm_pn cur : Nat) : Int)] w (fun _ h => h) ?_
              refine tl_callS (as := [.inl ((tm_pn cur : Nat) : Int)]) (rest := []) (v := some (tm_pI (tm_pn cur))) (w' := w) rfl rfl rfl rfl (tb_par d (tm_pn cur) (by omega) w) (Nat.le_of_ble_eq_true rfl) rfl rfl (Nat.le_of_ble_eq_true rfl) ?_
              refine tl_go 2 9 [(0, .inr 0), (1, .inl ((t : Nat) : Int)), (2, .inl ((r : Nat) : Int)), (3, .inl m), (4, .inl (tm_b (decide ((b || tm_c1 m (M (34 * t + tm_pn cur))) = true)))), (5, .inl (tm_pI (tm_pn cur))), (6, .inl ((M (34 * t + tm_pn cur) : Nat) : Int))] [] w (fun _ h => h) ?_
              exact ih (tm_pn cur) (b || tm_c1 m (M (34 * t + tm_pn cur))) (by omega) (by omega) (by rw [hq, tm_an_s, if_neg h0, List.any_cons, Bool.or_assoc]) _ (Or.inr ⟨_, rfl⟩)
            · refine tl_go 2 42 [(0, .inr 0), (1, .inl ((t : Nat) : Int)), (2, .inl ((r : Nat) : Int)), (3, .inl m), (4, .inl (tm_b (decide (b = true)))), (5, .inl ((tm_pn cur : Nat) : Int)), (6, .inl ((M (34 * t + tm_pn cur) : Nat) : Int))] [.inl 3, .inl ((M (34 * t + tm_pn cur) : Nat) : Int)] w (fun _ h => h) ?_
              refine tl_if (((M (34 * t + tm_pn cur) : Nat) : Int) = 3) 51 45 [(0, .inr 0), (1, .inl ((t : Nat) : Int)), (2, .inl ((r : Nat) : Int)), (3, .inl m), (4, .inl (tm_b (decide (b = true)))), (5, .inl ((tm_pn cur : Nat) : Int)), (6, .inl ((M (34 * t + tm_pn cur) : Nat) : Int))] [] (fun _ h => h) (fun hd1 => ?_) (fun hd1 => ?_)
              · refine tl_go 2 53 [(0, .inr 0), (1, .inl ((t : Nat) : Int)), (2, .inl ((r : Nat) : Int)), (3, .inl m), (4, .inl (tm_b (decide (b = true)))), (5, .inl ((tm_pn cur : Nat) : Int)), (6, .inl ((M (34 * t + tm_pn cur) : Nat) : Int))] [.inl 1, .inl m] w (fun _ h => h) ?_
                refine tl_if (m = 1) 61 56 [(0, .inr 0), (1, .inl ((t : Nat) : Int)), (2, .inl ((r : Nat) : Int)), (3, .inl m), (4, .inl (tm_b (decide (b = true)))), (5, .inl ((tm_pn cur : Nat) : Int)), (6, .inl ((M (34 * t + tm_pn cur) : Nat) : Int))] [] (fun _ h => h) (fun hd2 => ?_) (fun hd2 => ?_)
                · refine tl_go 2 66 [(0, .inr 0), (1, .inl ((t : Nat) : Int)), (2, .inl ((r : Nat) : Int)), (3, .inl m), (4, .inl (tm_b (decide (b = true)))), (5, .inl ((tm_pn cur : Nat) : Int)), (6, .inl ((M (34 * t + tm_pn cur) : Nat) : Int))] [.inl 1] w (fun _ h => h) ?_
                  have e1 : (1 : Int) = tm_b (decide ((b || tm_c1 m (M (34 * t + tm_pn cur))) = true)) := (tm_b1 (decide_eq_true (tm_c1_iff.mpr (Or.inr (by omega))))).1
                  refine tl_go 1 68 [(0, .inr 0), (1, .inl ((t : Nat) : Int)), (2, .inl ((r : Nat) : Int)), (3, .inl m), (4, .inl 1), (5, .inl ((tm_pn cur : Nat) : Int)), (6, .inl ((M (34 * t + tm_pn cur) : Nat) : Int))] [] w (fun _ h => h) ?_
                  refine tl_loc (L' := [(0, .inr 0), (1, .inl ((t : Nat) : Int)), (2, .inl ((r : Nat) : Int)), (3, .inl m), (4, .inl (tm_b (decide ((b || tm_c1 m (M (34 * t + tm_pn cur))) = true)))), (5, .inl ((tm_pn cur : Nat) : Int)), (6, .inl ((M (34 * t + tm_pn cur) : Nat) : Int))]) (by rw [e1]) ?_
                  refine tl_go 1 70 [(0, .inr 0), (1, .inl ((t : Nat) : Int)), (2, .inl ((r : Nat) : Int)), (3, .inl m), (4, .inl (tm_b (decide ((b || tm_c1 m (M (34 * t + tm_pn cur))) = true)))), (5, .inl ((tm_pn cur : Nat) : Int)), (6, .inl ((M (34 * t + tm_pn cur) : Nat) : Int))] [.inl ((tm_pn cur : Nat) : Int)] w (fun _ h => h) ?_
                  refine tl_callS (as := [.inl ((tm_pn cur : Nat) : Int)]) (rest := []) (v := some (tm_pI (tm_pn cur))) (w' := w) rfl rfl rfl rfl (tb_par d (tm_pn cur) (by omega) w) (Nat.le_of_ble_eq_true rfl) rfl rfl (Nat.le_of_ble_eq_true rfl) ?_
                  refine tl_go 2 9 [(0, .inr 0), (1, .inl ((t : Nat) : Int)), (2, .inl ((r : Nat) : Int)), (3, .inl m), (4, .inl (tm_b (decide ((b || tm_c1 m (M (34 * t + tm_pn cur))) = true)))), (5, .inl (tm_pI (tm_pn cur))), (6, .inl ((M (34 * t + tm_pn cur) : Nat) : Int))] [] w (fun _ h => h) ?_
                  exact ih (tm_pn cur) (b || tm_c1 m (M (34 * t + tm_pn cur))) (by omega) (by omega) (by rw [hq, tm_an_s, if_neg h0, List.any_cons, Bool.or_assoc]) _ (Or.inr ⟨_, rfl⟩)
                · refine tl_go 2 58 [(0, .inr 0), (1, .inl ((t : Nat) : Int)), (2, .inl ((r : Nat) : Int)), (3, .inl m), (4, .inl (tm_b (decide (b = true)))), (5, .inl ((tm_pn cur : Nat) : Int)), (6, .inl ((M (34 * t + tm_pn cur) : Nat) : Int))] [.inl 3, .inl m] w (fun _ h => h) ?_
                  refine tl_if (¬ m = 3) 65 61 [(0, .inr 0), (1, .inl ((t : Nat) : Int)), (2, .inl ((r : Nat) : Int)), (3, .inl m), (4, .inl (tm_b (decide (b = true)))), (5, .inl ((tm_pn cur : Nat) : Int)), (6, .inl ((M (34 * t + tm_pn cur) : Nat) : Int))] [] (fun _ h => h) (fun hd3 => ?_) (fun hd3 => ?_)
                  · refine tl_go 1 66 [(0, .inr 0), (1, .inl ((t : Nat) : Int)), (2, .inl ((r : Nat) : Int)), (3, .inl m), (4, .inl (tm_b (decide (b = true)))), (5, .inl ((tm_pn cur : Nat) : Int)), (6, .inl ((M (34 * t + tm_pn cur) : Nat) : Int))] [.inl 0] w (fun _ h => h) ?_
                    have e1 : (0 : Int) = tm_b (decide ((b || tm_c1 m (M (34 * t + tm_pn cur))) = true)) := (tm_b0 (decide_eq_false (fun q => (tm_c1_iff.mp q).elim hb (fun z => by omega)))).1
                    refine tl_go 1 68 [(0, .inr 0), (1, .inl ((t : Nat) : Int)), (2, .inl ((r : Nat) : Int)), (3, .inl m), (4, .inl 0), (5, .inl ((tm_pn cur : Nat) : Int)), (6, .inl ((M (34 * t + tm_pn cur) : Nat) : Int))] [] w (fun _ h => h) ?_
                    refine tl_loc (L' := [(0, .inr 0), (1, .inl ((t : Nat) : Int)), (2, .inl ((r : Nat) : Int)), (3, .inl m), (4, .inl (tm_b (decide ((b || tm_c1 m (M (34 * t + tm_pn cur))) = true)))), (5, .inl ((tm_pn cur : Nat) : Int)), (6, .inl ((M (34 * t + tm_pn cur) : Nat) : Int))]) (by rw [e1]) ?_
                    refine tl_go 1 70 [(0, .inr 0), (1, .inl ((t : Nat) : Int)), (2, .inl ((r : Nat) : Int)), (3, .inl m), (4, .inl (tm_b (decide ((b || tm_c1 m (M (34 * t + tm_pn cur))) = true)))), (5, .inl ((tm_pn cur : Nat) : Int)), (6, .inl ((M (34 * t + tm_pn cur) : Nat) : Int))] [.inl ((tm_pn cur : Nat) : Int)] w (fun _ h => h) ?_
                    refine tl_callS (as := [.inl ((tm_pn cur : Nat) : Int)]) (rest := []) (v := some (tm_pI (tm_pn cur))) (w' := w) rfl rfl rfl rfl (tb_par d (tm_pn cur) (by omega) w) (Nat.le_of_ble_eq_true rfl) rfl rfl (Nat.le_of_ble_eq_true rfl) ?_
                    refine tl_go 2 9 [(0, .inr 0), (1, .inl ((t : Nat) : Int)), (2, .inl ((r : Nat) : Int)), (3, .inl m), (4, .inl (tm_b (decide ((b || tm_c1 m (M (34 * t + tm_pn cur))) = true)))), (5, .inl (tm_pI (tm_pn cur))), (6, .inl ((M (34 * t + tm_pn cur) : Nat) : Int))] [] w (fun _ h => h) ?_
                    exact ih (tm_pn cur) (b || tm_c1 m (M (34 * t + tm_pn cur))) (by omega) (by omega) (by rw [hq, tm_an_s, if_neg h0, List.any_cons, Bool.or_assoc]) _ (Or.inr ⟨_, rfl⟩)
                  · refine tl_go 2 66 [(0, .inr 0), (1, .inl ((t : Nat) : Int)), (2, .inl ((r : Nat) : Int)), (3, .inl m), (4, .inl (tm_b (decide (b = true)))), (5, .inl ((tm_pn cur : Nat) : Int)), (6, .inl ((M (34 * t + tm_pn cur) : Nat) : Int))] [.inl 1] w (fun _ h => h) ?_
                    have e1 : (1 : Int) = tm_b (decide ((b || tm_c1 m (M (34 * t + tm_pn cur))) = true)) := (tm_b1 (decide_eq_true (tm_c1_iff.mpr (Or.inr (by omega))))).1
                    refine tl_go 1 68 [(0, .inr 0), (1, .inl ((t : Nat) : Int)), (2, .inl ((r : Nat) : Int)), (3, .inl m), (4, .inl 1), (5, .inl ((tm_pn cur : Nat) : Int)), (6, .inl ((M (34 * t + tm_pn cur) : Nat) : Int))] [] w (fun _ h => h) ?_
                    refine tl_loc (L' := [(0, .inr 0), (1, .inl ((t : Nat) : Int)), (2, .inl ((r : Nat) : Int)), (3, .inl m), (4, .inl (tm_b (decide ((b || tm_c1 m (M (34 * t + tm_pn cur))) = true)))), (5, .inl ((tm_pn cur : Nat) : Int)), (6, .inl ((M (34 * t + tm_pn cur) : Nat) : Int))]) (by rw [e1]) ?_
                    refine tl_go 1 70 [(0, .inr 0), (1, .inl ((t : Nat) : Int)), (2, .inl ((r : Nat) : Int)), (3, .inl m), (4, .inl (tm_b (decide ((b || tm_c1 m (M (34 * t + tm_pn cur))) = true)))), (5, .inl ((tm_pn cur : Nat) : Int)), (6, .inl ((M (34 * t + tm_pn cur) : Nat) : Int))] [.inl ((tm_pn cur : Nat) : Int)] w (fun _ h => h) ?_
                    refine tl_callS (as := [.inl ((tm_pn cur : Nat) : Int)]) (rest := []) (v := some (tm_pI (tm_pn cur))) (w' := w) rfl rfl rfl rfl (tb_par d (tm_pn cur) (by omega) w) (Nat.le_of_ble_eq_true rfl) rfl rfl (Nat.le_of_ble_eq_true rfl) ?_
                    refine tl_go 2 9 [(0, .inr 0), (1, .inl ((t : Nat) : Int)), (2, .inl ((r : Nat) : Int)), (3, .inl m), (4, .inl (tm_b (decide ((b || tm_c1 m (M (34 * t + tm_pn cur))) = true)))), (5, .inl (tm_pI (tm_pn cur))), (6, .inl ((M (34 * t + tm_pn cur) : Nat) : Int))] [] w (fun _ h => h) ?_
                    exact ih (tm_pn cur) (b || tm_c1 m (M (34 * t + tm_pn cur))) (by omega) (by omega) (by rw [hq, tm_an_s, if_neg h0, List.any_cons, Bool.or_assoc]) _ (Or.inr ⟨_, rfl⟩)
              · refine tl_go 2 48 [(0, .inr 0), (1, .inl ((t : Nat) : Int)), (2, .inl ((r : Nat) : Int)), (3, .inl m), (4, .inl (tm_b (decide (b = true)))), (5, .inl ((tm_pn cur : Nat) : Int)), (6, .inl ((M (34 * t + tm_pn cur) : Nat) : Int))] [.inl 4, .inl ((M (34 * t + tm_pn cur) : Nat) : Int)] w (fun _ h => h) ?_
                refine tl_if (¬ ((M (34 * t + tm_pn cur) : Nat) : Int) = 4) 65 51 [(0, .inr 0), (1, .inl ((t : Nat) : Int)), (2, .inl ((r : Nat) : Int)), (3, .inl m), (4, .inl (tm_b (decide (b = true)))), (5, .inl ((tm_pn cur : Nat) : Int)), (6, .inl ((M (34 * t + tm_pn cur) : Nat) : Int))] [] (fun _ h => h) (fun hd2 => ?_) (fun hd2 => ?_)
                · refine tl_go 1 66 [(0, .inr 0), (1, .inl ((t : Nat) : Int)), (2, .inl ((r : Nat) : Int)), (3, .inl m), (4, .inl (tm_b (decide (b = true)))), (5, .inl ((tm_pn cur : Nat) : Int)), (6, .inl ((M (34 * t + tm_pn cur) : Nat) : Int))] [.inl 0] w (fun _ h => h) ?_
                  have e1 : (0 : Int) = tm_b (decide ((b || tm_c1 m (M (34 * t + tm_pn cur))) = true)) := (tm_b0 (decide_eq_false (fun q => (tm_c1_iff.mp q).elim hb (fun z => by omega)))).1
                  refine tl_go 1 68 [(0, .inr 0), (1, .inl ((t : Nat) : Int)), (2, .inl ((r : Nat) : Int)), (3, .inl m), (4, .inl 0), (5, .inl ((tm_pn cur : Nat) : Int)), (6, .inl ((M (34 * t + tm_pn cur) : Nat) : Int))] [] w (fun _ h => h) ?_
                  refine tl_loc (L' := [(0, .inr 0), (1, .inl ((t : Nat) : Int)), (2, .inl ((r : Nat) : Int)), (3, .inl m), (4, .inl (tm_b (decide ((b || tm_c1 m (M (34 * t + tm_pn cur))) = true)))), (5, .inl ((tm_pn cur : Nat) : Int)), (6, .inl ((M (34 * t + tm_pn cur) : Nat) : Int))]) (by rw [e1]) ?_
                  refine tl_go 1 70 [(0, .inr 0), (1, .inl ((t : Nat) : Int)), (2, .inl ((r : Nat) : Int)), (3, .inl m), (4, .inl (tm_b (decide ((b || tm_c1 m (M (34 * t + tm_pn cur))) = true)))), (5, .inl ((tm_pn cur : Nat) : Int)), (6, .inl ((M (34 * t + tm_pn cur) : Nat) : Int))] [.inl ((tm_pn cur : Nat) : Int)] w (fun _ h => h) ?_
                  refine tl_callS (as := [.inl ((tm_pn cur : Nat) : Int)]) (rest := []) (v := some (tm_pI (tm_pn cur))) (w' := w) rfl rfl rfl rfl (tb_par d (tm_pn cur) (by omega) w) (Nat.le_of_ble_eq_true rfl) rfl rfl (Nat.le_of_ble_eq_true rfl) ?_
                  refine tl_go 2 9 [(0, .inr 0), (1, .inl ((t : Nat) : Int)), (2, .inl ((r : Nat) : Int)), (3, .inl m), (4, .inl (tm_b (decide ((b || tm_c1 m (M (34 * t + tm_pn cur))) = true)))), (5, .inl (tm_pI (tm_pn cur))), (6, .inl ((M (34 * t + tm_pn cur) : Nat) : Int))] [] w (fun _ h => h) ?_
                  exact ih (tm_pn cur) (b || tm_c1 m (M (34 * t + tm_pn cur))) (by omega) (by omega) (by rw [hq, tm_an_s, if_neg h0, List.any_cons, Bool.or_assoc]) _ (Or.inr ⟨_, rfl⟩)
                · refine tl_go 2 53 [(0, .inr 0), (1, .inl ((t : Nat) : Int)), (2, .inl ((r : Nat) : Int)), (3, .inl m), (4, .inl (tm_b (decide (b = true)))), (5, .inl ((tm_pn cur : Nat) : Int)), (6, .inl ((M (34 * t + tm_pn cur) : Nat) : Int))] [.inl 1, .inl m] w (fun _ h => h) ?_
                  refine tl_if (m = 1) 61 56 [(0, .inr 0), (1, .inl ((t : Nat) : Int)), (2, .inl ((r : Nat) : Int)), (3, .inl m), (4, .inl (tm_b (decide (b = true)))), (5, .inl ((tm_pn cur : Nat) : Int)), (6, .inl ((M (34 * t + tm_pn cur) : Nat) : Int))] [] (fun _ h => h) (fun hd3 => ?_) (fun hd3 => ?_)
                  · refine tl_go 2 66 [(0, .inr 0), (1, .inl ((t : Nat) : Int)), (2, .inl ((r : Nat) : Int)), (3, .inl m), (4, .inl (tm_b (decide (b = true)))), (5, .inl ((tm_pn cur : Nat) : Int)), (6, .inl ((M (34 * t + tm_pn cur) : Nat) : Int))] [.inl 1] w (fun _ h => h) ?_
                    have e1 : (1 : Int) = tm_b (decide ((b || tm_c1 m (M (34 * t + tm_pn cur))) = true)) := (tm_b1 (decide_eq_true (tm_c1_iff.mpr (Or.inr (by omega))))).1
                    refine tl_go 1 68 [(0, .inr 0), (1, .inl ((t : Nat) : Int)), (2, .inl ((r : Nat) : Int)), (3, .inl m), (4, .inl 1), (5, .inl ((tm_pn cur : Nat) : Int)), (6, .inl ((M (34 * t + tm_pn cur) : Nat) : Int))] [] w (fun _ h => h) ?_
                    refine tl_loc (L' := [(0, .inr 0), (1, .inl ((t : Nat) : Int)), (2, .inl ((r : Nat) : Int)), (3, .inl m), (4, .inl (tm_b (decide ((b || tm_c1 m (M (34 * t + tm_pn cur))) = true)))), (5, .inl ((tm_pn cur : Nat) : Int)), (6, .inl ((M (34 * t + tm_pn cur) : Nat) : Int))]) (by rw [e1]) ?_
                    refine tl_go 1 70 [(0, .inr 0), (1, .inl ((t : Nat) : Int)), (2, .inl ((r : Nat) : Int)), (3, .inl m), (4, .inl (tm_b (decide ((b || tm_c1 m (M (34 * t + tm_pn cur))) = true)))), (5, .inl ((tm_pn cur : Nat) : Int)), (6, .inl ((M (34 * t + tm_pn cur) : Nat) : Int))] [.inl ((tm_pn cur : Nat) : Int)] w (fun _ h => h) ?_
                    refine tl_callS (as := [.inl ((tm_pn cur : Nat) : Int)]) (rest := []) (v := some (tm_pI (tm_pn cur))) (w' := w) rfl rfl rfl rfl (tb_par d (tm_pn cur) (by omega) w) (Nat.le_of_ble_eq_true rfl) rfl rfl (Nat.le_of_ble_eq_true rfl) ?_
                    refine tl_go 2 9 [(0, .inr 0), (1, .inl ((t : Nat) : Int)), (2, .inl ((r : Nat) : Int)), (3, .inl m), (4, .inl (tm_b (decide ((b || tm_c1 m (M (34 * t + tm_pn cur))) = true)))), (5, .inl (tm_pI (tm_pn cur))), (6, .inl ((M (34 * t + tm_pn cur) : Nat) : Int))] [] w (fun _ h => h) ?_
                    exact ih (tm_pn cur) (b || tm_c1 m (M (34 * t + tm_pn cur))) (by omega) (by omega) (by rw [hq, tm_an_s, if_neg h0, List.any_cons, Bool.or_assoc]) _ (Or.inr ⟨_, rfl⟩)
                  · refine tl_go 2 58 [(0, .inr 0), (1, .inl ((t : Nat) : Int)), (2, .inl ((r : Nat) : Int)), (3, .inl m), (4, .inl (tm_b (decide (b = true)))), (5, .inl ((tm_pn cur : Nat) : Int)), (6, .inl ((M (34 * t + tm_pn cur) : Nat) : Int))] [.inl 3, .inl m] w (fun _ h => h) ?_
                    refine tl_if (¬ m = 3) 65 61 [(0, .inr 0), (1, .inl ((t : Nat) : Int)), (2, .inl ((r : Nat) : Int)), (3, .inl m), (4, .inl (tm_b (decide (b = true)))), (5, .inl ((tm_pn cur : Nat) : Int)), (6, .inl ((M (34 * t + tm_pn cur) : Nat) : Int))] [] (fun _ h => h) (fun hd4 => ?_) (fun hd4 => ?_)
                    · refine tl_go 1 66 [(0, .inr 0), (1, .inl ((t : Nat) : Int)), (2, .inl ((r : Nat) : Int)), (3, .inl m), (4, .inl (tm_b (decide (b = true)))), (5, .inl ((tm_pn cur : Nat) : Int)), (6, .inl ((M (34 * t + tm_pn cur) : Nat) : Int))] [.inl 0] w (fun _ h => h) ?_
                      have e1 : (0 : Int) = tm_b (decide ((b || tm_c1 m (M (34 * t + tm_pn cur))) = true)) := (tm_b0 (decide_eq_false (fun q => (tm_c1_iff.mp q).elim hb (fun z => by omega)))).1
                      refine tl_go 1 68 [(0, .inr 0), (1, .inl ((t : Nat) : Int)), (2, .inl ((r : Nat) : Int)), (3, .inl m), (4, .inl 0), (5, .inl ((tm_pn cur : Nat) : Int)), (6, .inl ((M (34 * t + tm_pn cur) : Nat) : Int))] [] w (fun _ h => h) ?_
                      refine tl_loc (L' := [(0, .inr 0), (1, .inl ((t : Nat) : Int)), (2, .inl ((r : Nat) : Int)), (3, .inl m), (4, .inl (tm_b (decide ((b || tm_c1 m (M (34 * t + tm_pn cur))) = true)))), (5, .inl ((tm_pn cur : Nat) : Int)), (6, .inl ((M (34 * t + tm_pn cur) : Nat) : Int))]) (by rw [e1]) ?_
                      refine tl_go 1 70 [(0, .inr 0), (1, .inl ((t : Nat) : Int)), (2, .inl ((r : Nat) : Int)), (3, .inl m), (4, .inl (tm_b (decide ((b || tm_c1 m (M (34 * t + tm_pn cur))) = true)))), (5, .inl ((tm_pn cur : Nat) : Int)), (6, .inl ((M (34 * t + tm_pn cur) : Nat) : Int))] [.inl ((tm_pn cur : Nat) : Int)] w (fun _ h => h) ?_
                      refine tl_callS (as := [.inl ((tm_pn cur : Nat) : Int)]) (rest := []) (v := some (tm_pI (tm_pn cur))) (w' := w) rfl rfl rfl rfl (tb_par d (tm_pn cur) (by omega) w) (Nat.le_of_ble_eq_true rfl) rfl rfl (Nat.le_of_ble_eq_true rfl) ?_
                      refine tl_go 2 9 [(0, .inr 0), (1, .inl ((t : Nat) : Int)), (2, .inl ((r : Nat) : Int)), (3, .inl m), (4, .inl (tm_b (decide ((b || tm_c1 m (M (34 * t + tm_pn cur))) = true)))), (5, .inl (tm_pI (tm_pn cur))), (6, .inl ((M (34 * t + tm_pn cur) : Nat) : Int))] [] w (fun _ h => h) ?_
                      exact ih (tm_pn cur) (b || tm_c1 m (M (34 * t + tm_pn cur))) (by omega) (by omega) (by rw [hq, tm_an_s, if_neg h0, List.any_cons, Bool.or_assoc]) _ (Or.inr ⟨_, rfl⟩)
                    · refine tl_go 2 66 [(0, .inr 0), (1, .inl ((t : Nat) : Int)), (2, .inl ((r : Nat) : Int)), (3, .inl m), (4, .inl (tm_b (decide (b = true)))), (5, .inl ((tm_pn cur : Nat) : Int)), (6, .inl ((M (34 * t + tm_pn cur) : Nat) : Int))] [.inl 1] w (fun _ h => h) ?_
                      have e1 : (1 : Int) = tm_b (decide ((b || tm_c1 m (M (34 * t + tm_pn cur))) = true)) := (tm_b1 (decide_eq_true (tm_c1_iff.mpr (Or.inr (by omega))))).1
                      refine tl_go 1 68 [(0, .inr 0), (1, .inl ((t : Nat) : Int)), (2, .inl ((r : Nat) : Int)), (3, .inl m), (4, .inl 1), (5, .inl ((tm_pn cur : Nat) : Int)), (6, .inl ((M (34 * t + tm_pn cur) : Nat) : Int))] [] w (fun _ h => h) ?_
                      refine tl_loc (L' := [(0, .inr 0), (1, .inl ((t : Nat) : Int)), (2, .inl ((r : Nat) : Int)), (3, .inl m), (4, .inl (tm_b (decide ((b || tm_c1 m (M (34 * t + tm_pn cur))) = true)))), (5, .inl ((tm_pn cur : Nat) : Int)), (6, .inl ((M (34 * t + tm_pn cur) : Nat) : Int))]) (by rw [e1]) ?_
                      refine tl_go 1 70 [(0, .inr 0), (1, .inl ((t : Nat) : Int)), (2, .inl ((r : Nat) : Int)), (3, .inl m), (4, .inl (tm_b (decide ((b || tm_c1 m (M (34 * t + tm_pn cur))) = true)))), (5, .inl ((tm_pn cur : Nat) : Int)), (6, .inl ((M (34 * t + tm_pn cur) : Nat) : Int))] [.inl ((tm_pn cur : Nat) : Int)] w (fun _ h => h) ?_
                      refine tl_callS (as := [.inl ((tm_pn cur : Nat) : Int)]) (rest := []) (v := some (tm_pI (tm_pn cur))) (w' := w) rfl rfl rfl rfl (tb_par d (tm_pn cur) (by omega) w) (Nat.le_of_ble_eq_true rfl) rfl rfl (Nat.le_of_ble_eq_true rfl) ?_
                      refine tl_go 2 9 [(0, .inr 0), (1, .inl ((t : Nat) : Int)), (2, .inl ((r : Nat) : Int)), (3, .inl m), (4, .inl (tm_b (decide ((b || tm_c1 m (M (34 * t + tm_pn cur))) = true)))), (5, .inl (tm_pI (tm_pn cur))), (6, .inl ((M (34 * t + tm_pn cur) : Nat) : Int))] [] w (fun _ h => h) ?_
                      exact ih (tm_pn cur) (b || tm_c1 m (M (34 * t + tm_pn cur))) (by omega) (by omega) (by rw [hq, tm_an_s, if_neg h0, List.any_cons, Bool.or_assoc]) _ (Or.inr ⟨_, rfl⟩)
        · refine tl_loc (L' := [(0, .inr 0), (1, .inl ((t : Nat) : Int)), (2, .inl ((r : Nat) : Int)), (3, .inl m), (4, .inl (tm_b (decide (b = true)))), (5, .inl ((tm_pn cur : Nat) : Int)), (6, .inl x)]) (by rw [tm_pI_p h0]) ?_
          refine tl_go 1 11 [(0, .inr 0), (1, .inl ((t : Nat) : Int)), (2, .inl ((r : Nat) : Int)), (3, .inl m), (4, .inl (tm_b (decide (b = true)))), (5, .inl ((tm_pn cur : Nat) : Int)), (6, .inl x)] [.inl ((tm_pn cur : Nat) : Int)] w (fun _ h => h) ?_
          refine tl_iff (((tm_pn cur : Nat) : Int) < 0) 78 14 [(0, .inr 0), (1, .inl ((t : Nat) : Int)), (2, .inl ((r : Nat) : Int)), (3, .inl m), (4, .inl (tm_b (decide (b = true)))), (5, .inl ((tm_pn cur : Nat) : Int)), (6, .inl x)] [] (fun _ h => h) (by omega) ?_
          refine tl_go 7 25 [(0, .inr 0), (1, .inl ((t : Nat) : Int)), (2, .inl ((r : Nat) : Int)), (3, .inl m), (4, .inl (tm_b (decide (b = true)))), (5, .inl ((tm_pn cur : Nat) : Int)), (6, .inl x)] [.inl ((34 * ((t : Nat) : Int)) + ((tm_pn cur : Nat) : Int)), .inr 1] w (fun _ h => And.intro rfl (And.intro (by decide) (And.intro (by omega) (And.intro (by omega) h)))) ?_
          refine tl_ald (34 * t + tm_pn cur) 272 (k := 0) rfl (by omega) rfl (by omega) ?_
          refine tl_top (y := ((M (34 * t + tm_pn cur) : Nat) : Int)) (hM _ (by omega)) ?_
          refine tl_go 2 30 [(0, .inr 0), (1, .inl ((t : Nat) : Int)), (2, .inl ((r : Nat) : Int)), (3, .inl m), (4, .inl (tm_b (decide (b = true)))), (5, .inl ((tm_pn cur : Nat) : Int)), (6, .inl ((M (34 * t + tm_pn cur) : Nat) : Int))] [.inl (tm_b (decide (b = true)))] w (fun _ h => h) ?_
          refine tl_if (¬ (tm_b (decide (b = true))) = 0) 61 33 [(0, .inr 0), (1, .inl ((t : Nat) : Int)), (2, .inl ((r : Nat) : Int)), (3, .inl m), (4, .inl (tm_b (decide (b = true)))), (5, .inl ((tm_pn cur : Nat) : Int)), (6, .inl ((M (34 * t + tm_pn cur) : Nat) : Int))] [] (fun _ h => h) (fun hb => ?_) (fun hb => ?_)
          · have hb := of_decide_eq_true (tm_bne hb)
            refine tl_go 2 66 [(0, .inr 0), (1, .inl ((t : Nat) : Int)), (2, .inl ((r : Nat) : Int)), (3, .inl m), (4, .inl (tm_b (decide (b = true)))), (5, .inl ((tm_pn cur : Nat) : Int)), (6, .inl ((M (34 * t + tm_pn cur) : Nat) : Int))] [.inl 1] w (fun _ h => h) ?_
            have e1 : (1 : Int) = tm_b (decide ((b || tm_c1 m (M (34 * t + tm_pn cur))) = true)) := (tm_b1 (decide_eq_true (tm_c1_iff.mpr (Or.inl hb)))).1
            refine tl_go 1 68 [(0, .inr 0), (1, .inl ((t : Nat) : Int)), (2, .inl ((r : Nat) : Int)), (3, .inl m), (4, .inl 1), (5, .inl ((tm_pn cur : Nat) : Int)), (6, .inl ((M (34 * t + tm_pn cur) : Nat) : Int))] [] w (fun _ h => h) ?_
            refine tl_loc (L' := [(0, .inr 0), (1, .inl ((t : Nat) : Int)), (2, .inl ((r : Nat) : Int)), (3, .inl m), (4, .inl (tm_b (decide ((b || tm_c1 m (M (34 * t + tm_pn cur))) = true)))), (5, .inl ((tm_pn cur : Nat) : Int)), (6, .inl ((M (34 * t + tm_pn cur) : Nat) : Int))]) (by rw [e1]) ?_
            refine tl_go 1 70 [(0, .inr 0), (1, .inl ((t : Nat) : Int)), (2, .inl ((r : Nat) : Int)), (3, .inl m), (4, .inl (tm_b (decide ((b || tm_c1 m (M (34 * t + tm_pn cur))) = true)))), (5, .inl ((tm_pn cur : Nat) : Int)), (6, .inl ((M (34 * t + tm_pn cur) : Nat) : Int))] [.inl ((tm_pn cur : Nat) : Int)] w (fun _ h => h) ?_
            refine tl_callS (as := [.inl ((tm_pn cur : Nat) : Int)]) (rest := []) (v := some (tm_pI (tm_pn cur))) (w' := w) rfl rfl rfl rfl (tb_par d (tm_pn cur) (by omega) w) (Nat.le_of_ble_eq_true rfl) rfl rfl (Nat.le_of_ble_eq_true rfl) ?_
            refine tl_go 2 9 [(0, .inr 0), (1, .inl ((t : Nat) : Int)), (2, .inl ((r : Nat) : Int)), (3, .inl m), (4, .inl (tm_b (decide ((b || tm_c1 m (M (34 * t + tm_pn cur))) = true)))), (5, .inl (tm_pI (tm_pn cur))), (6, .inl ((M (34 * t + tm_pn cur) : Nat) : Int))] [] w (fun _ h => h) ?_
            exact ih (tm_pn cur) (b || tm_c1 m (M (34 * t + tm_pn cur))) (by omega) (by omega) (by rw [hq, tm_an_s, if_neg h0, List.any_cons, Bool.or_assoc]) _ (Or.inr ⟨_, rfl⟩)
          · have hb := of_decide_eq_false (tm_beq (Classical.not_not.mp hb))
            refine tl_go 2 36 [(0, .inr 0), (1, .inl ((t : Nat) : Int)), (2, .inl ((r : Nat) : Int)), (3, .inl m), (4, .inl (tm_b (decide (b = true)))), (5, .inl ((tm_pn cur : Nat) : Int)), (6, .inl ((M (34 * t + tm_pn cur) : Nat) : Int))] [.inl 5, .inl ((M (34 * t + tm_pn cur) : Nat) : Int)] w (fun _ h => h) ?_
            refine tl_if (((M (34 * t + tm_pn cur) : Nat) : Int) = 5) 61 39 [(0, .inr 0), (1, .inl ((t : Nat) : Int)), (2, .inl ((r : Nat) : Int)), (3, .inl m), (4, .inl (tm_b (decide (b = true)))), (5, .inl ((tm_pn cur : Nat) : Int)), (6, .inl ((M (34 * t + tm_pn cur) : Nat) : Int))] [] (fun _ h => h) (fun hd0 => ?_) (fun hd0 => ?_)
            · refine tl_go 2 66 [(0, .inr 0), (1, .inl ((t : Nat) : Int)), (2, .inl ((r : Nat) : Int)), (3, .inl m), (4, .inl (tm_b (decide (b = true)))), (5, .inl ((tm_pn cur : Nat) : Int)), (6, .inl ((M (34 * t + tm_pn cur) : Nat) : Int))] [.inl 1] w (fun _ h => h) ?_
              have e1 : (1 : Int) = tm_b (decide ((b || tm_c1 m (M (34 * t + tm_pn cur))) = true)) := (tm_b1 (decide_eq_true (tm_c1_iff.mpr (Or.inr (by omega))))).1
              refine tl_go 1 68 [(0, .inr 0), (1, .inl ((t : Nat) : Int)), (2, .inl ((r : Nat) : Int)), (3, .inl m), (4, .inl 1), (5, .inl ((tm_pn cur : Nat) : Int)), (6, .inl ((M (34 * t + tm_pn cur) : Nat) : Int))] [] w (fun _ h => h) ?_
              refine tl_loc (L' := [(0, .inr 0), (1, .inl ((t : Nat) : Int)), (2, .inl ((r : Nat) : Int)), (3, .inl m), (4, .inl (tm_b (decide ((b || tm_c1 m (M (34 * t + tm_pn cur))) = true)))), (5, .inl ((tm_pn cur : Nat) : Int)), (6, .inl ((M (34 * t + tm_pn cur) : Nat) : Int))]) (by rw [e1]) ?_
              refine tl_go 1 70 [(0, .inr 0), (1, .inl ((t : Nat) : Int)), (2, .inl ((r : Nat) : Int)), (3, .inl m), (4, .inl (tm_b (decide ((b || tm_c1 m (M (34 * t + tm_pn cur))) = true)))), (5, .inl ((tm_pn cur : Nat) : Int)), (6, .inl ((M (34 * t + tm_pn cur) : Nat) : Int))] [.inl ((tm_pn cur : Nat) : Int)] w (fun _ h => h) ?_
              refine tl_callS (as := [.inl ((tm_pn cur : Nat) : Int)]) (rest := []) (v := some (tm_pI (tm_pn cur))) (w' := w) rfl rfl rfl rfl (tb_par d (tm_pn cur) (by omega) w) (Nat.le_of_ble_eq_true rfl) rfl rfl (Nat.le_of_ble_eq_true rfl) ?_
              refine tl_go 2 9 [(0, .inr 0), (1, .inl ((t : Nat) : Int)), (2, .inl ((r : Nat) : Int)), (3, .inl m), (4, .inl (tm_b (decide ((b || tm_c1 m (M (34 * t + tm_pn cur))) = true)))), (5, .inl (tm_pI (tm_pn cur))), (6, .inl ((M (34 * t + tm_pn cur) : Nat) : Int))] [] w (fun _ h => h) ?_
              exact ih (tm_pn cur) (b || tm_c1 m (M (34 * t + tm_pn cur))) (by omega) (by omega) (by rw [hq, tm_an_s, if_neg h0, List.any_cons, Bool.or_assoc]) _ (Or.inr ⟨_, rfl⟩)
            · refine tl_go 2 42 [(0, .inr 0), (1, .inl ((t : Nat) : Int)), (2, .inl ((r : Nat) : Int)), (3, .inl m), (4, .inl (tm_b (decide (b = true)))), (5, .inl ((tm_pn cur : Nat) : Int)), (6, .inl ((M (34 * t + tm_pn cur) : Nat) : Int))] [.inl 3, .inl ((M (34 * t + tm_pn cur) : Nat) : Int)] w (fun _ h => h) ?_
              refine tl_if (((M (34 * t + tm_pn cur) : Nat) : Int) = 3) 51 45 [(0, .inr 0), (1, .inl ((t : Nat) : Int)), (2, .inl ((r : Nat) : Int)), (3, .inl m), (4, .inl (tm_b (decide (b = true)))), (5, .inl ((tm_pn cur : Nat) : Int)), (6, .inl ((M (34 * t + tm_pn cur) : Nat) : Int))] [] (fun _ h => h) (fun hd1 => ?_) (fun hd1 => ?_)
              · refine tl_go 2 53 [(0, .inr 0), (1, .inl ((t : Nat) : Int)), (2, .inl ((r : Nat) : Int)), (3, .inl m), (4, .inl (tm_b (decide (b = true)))), (5, .inl ((tm_pn cur : Nat) : Int)), (6, .inl ((M (34 * t + tm_pn cur) : Nat) : Int))] [.inl 1, .inl m] w (fun _ h => h) ?_
                refine tl_if (m = 1) 61 56 [(0, .inr 0), (1, .inl ((t : Nat) : Int)), (2, .inl ((r : Nat) : Int)), (3, .inl m), (4, .inl (tm_b (decide (b = true)))), (5, .inl ((tm_pn cur : Nat) : Int)), (6, .inl ((M (34 * t + tm_pn cur) : Nat) : Int))] [] (fun _ h => h) (fun hd2 => ?_) (fun hd2 => ?_)
                · refine tl_go 2 66 [(0, .inr 0), (1, .inl ((t : Nat) : Int)), (2, .inl ((r : Nat) : Int)), (3, .inl m), (4, .inl (tm_b (decide (b = true)))), (5, .inl ((tm_pn cur : Nat) : Int)), (6, .inl ((M (34 * t + tm_pn cur) : Nat) : Int))] [.inl 1] w (fun _ h => h) ?_
                  have e1 : (1 : Int) = tm_b (decide ((b || tm_c1 m (M (34 * t + tm_pn cur))) = true)) := (tm_b1 (decide_eq_true (tm_c1_iff.mpr (Or.inr (by omega))))).1
                  refine tl_go 1 68 [(0, .inr 0), (1, .inl ((t : Nat) : Int)), (2, .inl ((r : Nat) : Int)), (3, .inl m), (4, .inl 1), (5, .inl ((tm_pn cur : Nat) : Int)), (6, .inl ((M (34 * t + tm_pn cur) : Nat) : Int))] [] w (fun _ h => h) ?_
                  refine tl_loc (L' := [(0, .inr 0), (1, .inl ((t : Nat) : Int)), (2, .inl ((r : Nat) : Int)), (3, .inl m), (4, .inl (tm_b (decide ((b || tm_c1 m (M (34 * t + tm_pn cur))) = true)))), (5, .inl ((tm_pn cur : Nat) : Int)), (6, .inl ((M (34 * t + tm_pn cur) : Nat) : Int))]) (by rw [e1]) ?_
                  refine tl_go 1 70 [(0, .inr 0), (1, .inl ((t : Nat) : Int)), (2, .inl ((r : Nat) : Int)), (3, .inl m), (4, .inl (tm_b (decide ((b || tm_c1 m (M (34 * t + tm_pn cur))) = true)))), (5, .inl ((tm_pn cur : Nat) : Int)), (6, .inl ((M (34 * t + tm_pn cur) : Nat) : Int))] [.inl ((tm_pn cur : Nat) : Int)] w (fun _ h => h) ?_
                  refine tl_callS (as := [.inl ((tm_pn cur : Nat) : Int)]) (rest := []) (v := some (tm_pI (tm_pn cur))) (w' := w) rfl rfl rfl rfl (tb_par d (tm_pn cur) (by omega) w) (Nat.le_of_ble_eq_true rfl) rfl rfl (Nat.le_of_ble_eq_true rfl) ?_
                  refine tl_go 2 9 [(0, .inr 0), (1, .inl ((t : Nat) : Int)), (2, .inl ((r : Nat) : Int)), (3, .inl m), (4, .inl (tm_b (decide ((b || tm_c1 m (M (34 * t + tm_pn cur))) = true)))), (5, .inl (tm_pI (tm_pn cur))), (6, .inl ((M (34 * t + tm_pn cur) : Nat) : Int))] [] w (fun _ h => h) ?_
                  exact ih (tm_pn cur) (b || tm_c1 m (M (34 * t + tm_pn cur))) (by omega) (by omega) (by rw [hq, tm_an_s, if_neg h0, List.any_cons, Bool.or_assoc]) _ (Or.inr ⟨_, rfl⟩)
                · refine tl_go 2 58 [(0, .inr 0), (1, .inl ((t : Nat) : Int)), (2, .inl ((r : Nat) : Int)), (3, .inl m), (4, .inl (tm_b (decide (b = true)))), (5, .inl ((tm_pn cur : Nat) : Int)), (6, .inl ((M (34 * t + tm_pn cur) : Nat) : Int))] [.inl 3, .inl m] w (fun _ h => h) ?_
                  refine tl_if (¬ m = 3) 65 61 [(0, .inr 0), (1, .inl ((t : Nat) : Int)), (2, .inl ((r : Nat) : Int)), (3, .inl m), (4, .inl (tm_b (decide (b = true)))), (5, .inl ((tm_pn cur : Nat) : Int)), (6, .inl ((M (34 * t + tm_pn cur) : Nat) : Int))] [] (fun _ h => h) (fun hd3 => ?_) (fun hd3 => ?_)
                  · refine tl_go 1 66 [(0, .inr 0), (1, .inl ((t : Nat) : Int)), (2, .inl ((r : Nat) : Int)), (3, .inl m), (4, .inl (tm_b (decide (b = true)))), (5, .inl ((tm_pn cur : Nat) : Int)), (6, .inl ((M (34 * t + tm_pn cur) : Nat) : Int))] [.inl 0] w (fun _ h => h) ?_
                    have e1 : (0 : Int) = tm_b (decide ((b || tm_c1 m (M (34 * t + tm_pn cur))) = true)) := (tm_b0 (decide_eq_false (fun q => (tm_c1_iff.mp q).elim hb (fun z => by omega)))).1
                    refine tl_go 1 68 [(0, .inr 0), (1, .inl ((t : Nat) : Int)), (2, .inl ((r : Nat) : Int)), (3, .inl m), (4, .inl 0), (5, .inl ((tm_pn cur : Nat) : Int)), (6, .inl ((M (34 * t + tm_pn cur) : Nat) : Int))] [] w (fun _ h => h) ?_
                    refine tl_loc (L' := [(0, .inr 0), (1, .inl ((t : Nat) : Int)), (2, .inl ((r : Nat) : Int)), (3, .inl m), (4, .inl (tm_b (decide ((b || tm_c1 m (M (34 * t + tm_pn cur))) = true)))), (5, .inl ((tm_pn cur : Nat) : Int)), (6, .inl ((M (34 * t + tm_pn cur) : Nat) : Int))]) (by rw [e1]) ?_
                    refine tl_go 1 70 [(0, .inr 0), (1, .inl ((t : Nat) : Int)), (2, .inl ((r : Nat) : Int)), (3, .inl m), (4, .inl (tm_b (decide ((b || tm_c1 m (M (34 * t + tm_pn cur))) = true)))), (5, .inl ((tm_pn cur : Nat) : Int)), (6, .inl ((M (34 * t + tm_pn cur) : Nat) : Int))] [.inl ((tm_pn cur : Nat) : Int)] w (fun _ h => h) ?_
                    refine tl_callS (as := [.inl ((tm_pn cur : Nat) : Int)]) (rest := []) (v := some (tm_pI (tm_pn cur))) (w' := w) rfl rfl rfl rfl (tb_par d (tm_pn cur) (by omega) w) (Nat.le_of_ble_eq_true rfl) rfl rfl (Nat.le_of_ble_eq_true rfl) ?_
                    refine tl_go 2 9 [(0, .inr 0), (1, .inl ((t : Nat) : Int)), (2, .inl ((r : Nat) : Int)), (3, .inl m), (4, .inl (tm_b (decide ((b || tm_c1 m (M (34 * t + tm_pn cur))) = true)))), (5, .inl (tm_pI (tm_pn cur))), (6, .inl ((M (34 * t + tm_pn cur) : Nat) : Int))] [] w (fun _ h => h) ?_
                    exact ih (tm_pn cur) (b || tm_c1 m (M (34 * t + tm_pn cur))) (by omega) (by omega) (by rw [hq, tm_an_s, if_neg h0, List.any_cons, Bool.or_assoc]) _ (Or.inr ⟨_, rfl⟩)
                  · refine tl_go 2 66 [(0, .inr 0), (1, .inl ((t : Nat) : Int)), (2, .inl ((r : Nat) : Int)), (3, .inl m), (4, .inl (tm_b (decide (b = true)))), (5, .inl ((tm_pn cur : Nat) : Int)), (6, .inl ((M (34 * t + tm_pn cur) : Nat) : Int))] [.inl 1] w (fun _ h => h) ?_
                    have e1 : (1 : Int) = tm_b (decide ((b || tm_c1 m (M (34 * t + tm_pn cur))) = true)) := (tm_b1 (decide_eq_true (tm_c1_iff.mpr (Or.inr (by omega))))).1
                    refine tl_go 1 68 [(0, .inr 0), (1, .inl ((t : Nat) : Int)), (2, .inl ((r : Nat) : Int)), (3, .inl m), (4, .inl 1), (5, .inl ((tm_pn cur : Nat) : Int)), (6, .inl ((M (34 * t + tm_pn cur) : Nat) : Int))] [] w (fun _ h => h) ?_
                    refine tl_loc (L' := [(0, .inr 0), (1, .inl ((t : Nat) : Int)), (2, .inl ((r : Nat) : Int)), (3, .inl m), (4, .inl (tm_b (decide ((b || tm_c1 m (M (34 * t + tm_pn cur))) = true)))), (5, .inl ((tm_pn cur : Nat) : Int)), (6, .inl ((M (34 * t + tm_pn cur) : Nat) : Int))]) (by rw [e1]) ?_
                    refine tl_go 1 70 [(0, .inr 0), (1, .inl ((t : Nat) : Int)), (2, .inl ((r : Nat) : Int)), (3, .inl m), (4, .inl (tm_b (decide ((b || tm_c1 m (M (34 * t + tm_pn cur))) = true)))), (5, .inl ((tm_pn cur : Nat) : Int)), (6, .inl ((M (34 * t + tm_pn cur) : Nat) : Int))] [.inl ((tm_pn cur : Nat) : Int)] w (fun _ h => h) ?_
                    refine tl_callS (as := [.inl ((tm_pn cur : Nat) : Int)]) (rest := []) (v := some (tm_pI (tm_pn cur))) (w' := w) rfl rfl rfl rfl (tb_par d (tm_pn cur) (by omega) w) (Nat.le_of_ble_eq_true rfl) rfl rfl (Nat.le_of_ble_eq_true rfl) ?_
                    refine tl_go 2 9 [(0, .inr 0), (1, .inl ((t : Nat) : Int)), (2, .inl ((r : Nat) : Int)), (3, .inl m), (4, .inl (tm_b (decide ((b || tm_c1 m (M (34 * t + tm_pn cur))) = true)))), (5, .inl (tm_pI (tm_pn cur))), (6, .inl ((M (34 * t + tm_pn cur) : Nat) : Int))] [] w (fun _ h => h) ?_
                    exact ih (tm_pn cur) (b || tm_c1 m (M (34 * t + tm_pn cur))) (by omega) (by omega) (by rw [hq, tm_an_s, if_neg h0, List.any_cons, Bool.or_assoc]) _ (Or.inr ⟨_, rfl⟩)
              · refine tl_go 2 48 [(0, .inr 0), (1, .inl ((t : Nat) : Int)), (2, .inl ((r : Nat) : Int)), (3, .inl m), (4, .inl (tm_b (decide (b = true)))), (5, .inl ((tm_pn cur : Nat) : Int)), (6, .inl ((M (34 * t + tm_pn cur) : Nat) : Int))] [.inl 4, .inl ((M (34 * t + tm_pn cur) : Nat) : Int)] w (fun _ h => h) ?_
                refine tl_if (¬ ((M (34 * t + tm_pn cur) : Nat) : Int) = 4) 65 51 [(0, .inr 0), (1, .inl ((t : Nat) : Int)), (2, .inl ((r : Nat) : Int)), (3, .inl m), (4, .inl (tm_b (decide (b = true)))), (5, .inl ((tm_pn cur : Nat) : Int)), (6, .inl ((M (34 * t + tm_pn cur) : Nat) : Int))] [] (fun _ h => h) (fun hd2 => ?_) (fun hd2 => ?_)
                · refine tl_go 1 66 [(0, .inr 0), (1, .inl ((t : Nat) : Int)), (2, .inl ((r : Nat) : Int)), (3, .inl m), (4, .inl (tm_b (decide (b = true)))), (5, .inl ((tm_pn cur : Nat) : Int)), (6, .inl ((M (34 * t + tm_pn cur) : Nat) : Int))] [.inl 0] w (fun _ h => h) ?_
                  have e1 : (0 : Int) = tm_b (decide ((b || tm_c1 m (M (34 * t + tm_pn cur))) = true)) := (tm_b0 (decide_eq_false (fun q => (tm_c1_iff.mp q).elim hb (fun z => by omega)))).1
                  refine tl_go 1 68 [(0, .inr 0), (1, .inl ((t : Nat) : Int)), (2, .inl ((r : Nat) : Int)), (3, .inl m), (4, .inl 0), (5, .inl ((tm_pn cur : Nat) : Int)), (6, .inl ((M (34 * t + tm_pn cur) : Nat) : Int))] [] w (fun _ h => h) ?_
                  refine tl_loc (L' := [(0, .inr 0), (1, .inl ((t : Nat) : Int)), (2, .inl ((r : Nat) : Int)), (3, .inl m), (4, .inl (tm_b (decide ((b || tm_c1 m (M (34 * t + tm_pn cur))) = true)))), (5, .inl ((tm_pn cur : Nat) : Int)), (6, .inl ((M (34 * t + tm_pn cur) : Nat) : Int))]) (by rw [e1]) ?_
                  refine tl_go 1 70 [(0, .inr 0), (1, .inl ((t : Nat) : Int)), (2, .inl ((r : Nat) : Int)), (3, .inl m), (4, .inl (tm_b (decide ((b || tm_c1 m (M (34 * t + tm_pn cur))) = true)))), (5, .inl ((tm_pn cur : Nat) : Int)), (6, .inl ((M (34 * t + tm_pn cur) : Nat) : Int))] [.inl ((tm_pn cur : Nat) : Int)] w (fun _ h => h) ?_
                  refine tl_callS (as := [.inl ((tm_pn cur : Nat) : Int)]) (rest := []) (v := some (tm_pI (tm_pn cur))) (w' := w) rfl rfl rfl rfl (tb_par d (tm_pn cur) (by omega) w) (Nat.le_of_ble_eq_true rfl) rfl rfl (Nat.le_of_ble_eq_true rfl) ?_
                  refine tl_go 2 9 [(0, .inr 0), (1, .inl ((t : Nat) : Int)), (2, .inl ((r : Nat) : Int)), (3, .inl m), (4, .inl (tm_b (decide ((b || tm_c1 m (M (34 * t + tm_pn cur))) = true)))), (5, .inl (tm_pI (tm_pn cur))), (6, .inl ((M (34 * t + tm_pn cur) : Nat) : Int))] [] w (fun _ h => h) ?_
                  exact ih (tm_pn cur) (b || tm_c1 m (M (34 * t + tm_pn cur))) (by omega) (by omega) (by rw [hq, tm_an_s, if_neg h0, List.any_cons, Bool.or_assoc]) _ (Or.inr ⟨_, rfl⟩)
                · refine tl_go 2 53 [(0, .inr 0), (1, .inl ((t : Nat) : Int)), (2, .inl ((r : Nat) : Int)), (3, .inl m), (4, .inl (tm_b (decide (b = true)))), (5, .inl ((tm_pn cur : Nat) : Int)), (6, .inl ((M (34 * t + tm_pn cur) : Nat) : Int))] [.inl 1, .inl m] w (fun _ h => h) ?_
                  refine tl_if (m = 1) 61 56 [(0, .inr 0), (1, .inl ((t : Nat) : Int)), (2, .inl ((r : Nat) : Int)), (3, .inl m), (4, .inl (tm_b (decide (b = true)))), (5, .inl ((tm_pn cur : Nat) : Int)), (6, .inl ((M (34 * t + tm_pn cur) : Nat) : Int))] [] (fun _ h => h) (fun hd3 => ?_) (fun hd3 => ?_)
                  · refine tl_go 2 66 [(0, .inr 0), (1, .inl ((t : Nat) : Int)), (2, .inl ((r : Nat) : Int)), (3, .inl m), (4, .inl (tm_b (decide (b = true)))), (5, .inl ((tm_pn cur : Nat) : Int)), (6, .inl ((M (34 * t + tm_pn cur) : Nat) : Int))] [.inl 1] w (fun _ h => h) ?_
                    have e1 : (1 : Int) = tm_b (decide ((b || tm_c1 m (M (34 * t + tm_pn cur))) = true)) := (tm_b1 (decide_eq_true (tm_c1_iff.mpr (Or.inr (by omega))))).1
                    refine tl_go 1 68 [(0, .inr 0), (1, .inl ((t : Nat) : Int)), (2, .inl ((r : Nat) : Int)), (3, .inl m), (4, .inl 1), (5, .inl ((tm_pn cur : Nat) : Int)), (6, .inl ((M (34 * t + tm_pn cur) : Nat) : Int))] [] w (fun _ h => h) ?_
                    refine tl_loc (L' := [(0, .inr 0), (1, .inl ((t : Nat) : Int)), (2, .inl ((r : Nat) : Int)), (3, .inl m), (4, .inl (tm_b (decide ((b || tm_c1 m (M (34 * t + tm_pn cur))) = true)))), (5, .inl ((tm_pn cur : Nat) : Int)), (6, .inl ((M (34 * t + tm_pn cur) : Nat) : Int))]) (by rw [e1]) ?_
                    refine tl_go 1 70 [(0, .inr 0), (1, .inl ((t : Nat) : Int)), (2, .inl ((r : Nat) : Int)), (3, .inl m), (4, .inl (tm_b (decide ((b || tm_c1 m (M (34 * t + tm_pn cur))) = true)))), (5, .inl ((tm_pn cur : Nat) : Int)), (6, .inl ((M (34 * t + tm_pn cur) : Nat) : Int))] [.inl ((tm_pn cur : Nat) : Int)] w (fun _ h => h) ?_
                    refine tl_callS (as := [.inl ((tm_pn cur : Nat) : Int)]) (rest := []) (v := some (tm_pI (tm_pn cur))) (w' := w) rfl rfl rfl rfl (tb_par d (tm_pn cur) (by omega) w) (Nat.le_of_ble_eq_true rfl) rfl rfl (Nat.le_of_ble_eq_true rfl) ?_
                    refine tl_go 2 9 [(0, .inr 0), (1, .inl ((t : Nat) : Int)), (2, .inl ((r : Nat) : Int)), (3, .inl m), (4, .inl (tm_b (decide ((b || tm_c1 m (M (34 * t + tm_pn cur))) = true)))), (5, .inl (tm_pI (tm_pn cur))), (6, .inl ((M (34 * t + tm_pn cur) : Nat) : Int))] [] w (fun _ h => h) ?_
                    exact ih (tm_pn cur) (b || tm_c1 m (M (34 * t + tm_pn cur))) (by omega) (by omega) (by rw [hq, tm_an_s, if_neg h0, List.any_cons, Bool.or_assoc]) _ (Or.inr ⟨_, rfl⟩)
                  · refine tl_go 2 58 [(0, .inr 0), (1, .inl ((t : Nat) : Int)), (2, .inl ((r : Nat) : Int)), (3, .inl m), (4, .inl (tm_b (decide (b = true)))), (5, .inl ((tm_pn cur : Nat) : Int)), (6, .inl ((M (34 * t + tm_pn cur) : Nat) : Int))] [.inl 3, .inl m] w (fun _ h => h) ?_
                    refine tl_if (¬ m = 3) 65 61 [(0, .inr 0), (1, .inl ((t : Nat) : Int)), (2, .inl ((r : Nat) : Int)), (3, .inl m), (4, .inl (tm_b (decide (b = true)))), (5, .inl ((tm_pn cur : Nat) : Int)), (6, .inl ((M (34 * t + tm_pn cur) : Nat) : Int))] [] (fun _ h => h) (fun hd4 => ?_) (fun hd4 => ?_)
                    · refine tl_go 1 66 [(0, .inr 0), (1, .inl ((t : Nat) : Int)), (2, .inl ((r : Nat) : Int)), (3, .inl m), (4, .inl (tm_b (decide (b = true)))), (5, .inl ((tm_pn cur : Nat) : Int)), (6, .inl ((M (34 * t + tm_pn cur) : Nat) : Int))] [.inl 0] w (fun _ h => h) ?_
                      have e1 : (0 : Int) = tm_b (decide ((b || tm_c1 m (M (34 * t + tm_pn cur))) = true)) := (tm_b0 (decide_eq_false (fun q => (tm_c1_iff.mp q).elim hb (fun z => by omega)))).1
                      refine tl_go 1 68 [(0, .inr 0), (1, .inl ((t : Nat) : Int)), (2, .inl ((r : Nat) : Int)), (3, .inl m), (4, .inl 0), (5, .inl ((tm_pn cur : Nat) : Int)), (6, .inl ((M (34 * t + tm_pn cur) : Nat) : Int))] [] w (fun _ h => h) ?_
                      refine tl_loc (L' := [(0, .inr 0), (1, .inl ((t : Nat) : Int)), (2, .inl ((r : Nat) : Int)), (3, .inl m), (4, .inl (tm_b (decide ((b || tm_c1 m (M (34 * t + tm_pn cur))) = true)))), (5, .inl ((tm_pn cur : Nat) : Int)), (6, .inl ((M (34 * t + tm_pn cur) : Nat) : Int))]) (by rw [e1]) ?_
                      refine tl_go 1 70 [(0, .inr 0), (1, .inl ((t : Nat) : Int)), (2, .inl ((r : Nat) : Int)), (3, .inl m), (4, .inl (tm_b (decide ((b || tm_c1 m (M (34 * t + tm_pn cur))) = true)))), (5, .inl ((tm_pn cur : Nat) : Int)), (6, .inl ((M (34 * t + tm_pn cur) : Nat) : Int))] [.inl ((tm_pn cur : Nat) : Int)] w (fun _ h => h) ?_
                      refine tl_callS (as := [.inl ((tm_pn cur : Nat) : Int)]) (rest := []) (v := some (tm_pI (tm_pn cur))) (w' := w) rfl rfl rfl rfl (tb_par d (tm_pn cur) (by omega) w) (Nat.le_of_ble_eq_true rfl) rfl rfl (Nat.le_of_ble_eq_true rfl) ?_
                      refine tl_go 2 9 [(0, .inr 0), (1, .inl ((t : Nat) : Int)), (2, .inl ((r : Nat) : Int)), (3, .inl m), (4, .inl (tm_b (decide ((b || tm_c1 m (M (34 * t + tm_pn cur))) = true)))), (5, .inl (tm_pI (tm_pn cur))), (6, .inl ((M (34 * t + tm_pn cur) : Nat) : Int))] [] w (fun _ h => h) ?_
                      exact ih (tm_pn cur) (b || tm_c1 m (M (34 * t + tm_pn cur))) (by omega) (by omega) (by rw [hq, tm_an_s, if_neg h0, List.any_cons, Bool.or_assoc]) _ (Or.inr ⟨_, rfl⟩)
                    · refine tl_go 2 66 [(0, .inr 0), (1, .inl ((t : Nat) : Int)), (2, .inl ((r : Nat) : Int)), (3, .inl m), (4, .inl (tm_b (decide (b = true)))), (5, .inl ((tm_pn cur : Nat) : Int)), (6, .inl ((M (34 * t + tm_pn cur) : Nat) : Int))] [.inl 1] w (fun _ h => h) ?_
                      have e1 : (1 : Int) = tm_b (decide ((b || tm_c1 m (M (34 * t + tm_pn cur))) = true)) := (tm_b1 (decide_eq_true (tm_c1_iff.mpr (Or.inr (by omega))))).1
                      refine tl_go 1 68 [(0, .inr 0), (1, .inl ((t : Nat) : Int)), (2, .inl ((r : Nat) : Int)), (3, .inl m), (4, .inl 1), (5, .inl ((tm_pn cur : Nat) : Int)), (6, .inl ((M (34 * t + tm_pn cur) : Nat) : Int))] [] w (fun _ h => h) ?_
                      refine tl_loc (L' := [(0, .inr 0), (1, .inl ((t : Nat) : Int)), (2, .inl ((r : Nat) : Int)), (3, .inl m), (4, .inl (tm_b (decide ((b || tm_c1 m (M (34 * t + tm_pn cur))) = true)))), (5, .inl ((tm_pn cur : Nat) : Int)), (6, .inl ((M (34 * t + tm_pn cur) : Nat) : Int))]) (by rw [e1]) ?_
                      refine tl_go 1 70 [(0, .inr 0), (1, .inl ((t : Nat) : Int)), (2, .inl ((r : Nat) : Int)), (3, .inl m), (4, .inl (tm_b (decide ((b || tm_c1 m (M (34 * t + tm_pn cur))) = true)))), (5, .inl ((tm_pn cur : Nat) : Int)), (6, .inl ((M (34 * t + tm_pn cur) : Nat) : Int))] [.inl ((tm_pn cur : Nat) : Int)] w (fun _ h => h) ?_
                      refine tl_callS (as := [.inl ((tm_pn cur : Nat) : Int)]) (rest := []) (v := some (tm_pI (tm_pn cur))) (w' := w) rfl rfl rfl rfl (tb_par d (tm_pn cur) (by omega) w) (Nat.le_of_ble_eq_true rfl) rfl rfl (Nat.le_of_ble_eq_true rfl) ?_
                      refine tl_go 2 9 [(0, .inr 0), (1, .inl ((t : Nat) : Int)), (2, .inl ((r : Nat) : Int)), (3, .inl m), (4, .inl (tm_b (decide ((b || tm_c1 m (M (34 * t + tm_pn cur))) = true)))), (5, .inl (tm_pI (tm_pn cur))), (6, .inl ((M (34 * t + tm_pn cur) : Nat) : Int))] [] w (fun _ h => h) ?_
                      exact ih (tm_pn cur) (b || tm_c1 m (M (34 * t + tm_pn cur))) (by omega) (by omega) (by rw [hq, tm_an_s, if_neg h0, List.any_cons, Bool.or_assoc]) _ (Or.inr ⟨_, rfl⟩)
  exact loop 3 r false hr (tm_dp3 r) (by rw [Bool.false_or]; exact hq0) _ (Or.inl rfl)
theorem tm_len7 {σ : tm_S} (hJ : tm_J σ) {r t : Nat} (hr : r < 34) (ht : t < 8) (hs : σ.2.1 t < 2) : (σ.2.2.2 r).length ≤ 7 := by
  obtain ⟨n1, n2, _⟩ := hJ.2.2 r hr
  have h := tm_pig 8 (t :: σ.2.2.2 r) (List.nodup_cons.mpr ⟨fun q => by have := (n2 t).mp q; omega, n1⟩) (fun x hx => by
    rcases List.mem_cons.mp hx with e | hx
    · rw [e]; exact ht
    · exact ((n2 x).mp hx).1)
  rw [List.length_cons] at h
  omega
theorem tm_pl_k {σ : tm_S} (hJ : tm_J σ) {r t k : Nat} (hr : r < 34) (hh : σ.1 (34 * t + r) ≠ 0) (hk : k ≤ (σ.2.2.2 r).length) (h1 : ∀ j u : Nat, k ≤ j → (σ.2.2.2 r)[j]? = some u → σ.1 (34 * u + r) = 0) (h2 : k = 0 ∨ ∃ u, (σ.2.2.2 r)[k - 1]? = some u ∧ σ.1 (34 * u + r) ≠ 0) : tm_pl σ t r = k := by
  rw [tm_pl_1 hh]
  have e : (σ.2.2.2 r).countP (fun u => decide (σ.1 (34 * u + r) ≠ 0)) = ((σ.2.2.2 r).take k ++ (σ.2.2.2 r).drop k).countP (fun u => decide (σ.1 (34 * u + r) ≠ 0)) := by rw [List.take_append_drop]
  rw [e, List.countP_append]
  have e1 : ((σ.2.2.2 r).drop k).countP (fun u => decide (σ.1 (34 * u + r) ≠ 0)) = 0 := by
    apply List.countP_eq_zero.mpr
    intro u hu q
    obtain ⟨i, hi⟩ := List.getElem?_of_mem hu
    rw [List.getElem?_drop] at hi
    exact of_decide_eq_true q (h1 (k + i) u (by omega) hi)
  have e2 : ((σ.2.2.2 r).take k).countP (fun u => decide (σ.1 (34 * u + r) ≠ 0)) = ((σ.2.2.2 r).take k).length := by
    apply List.countP_eq_length.mpr
    intro u hu
    obtain ⟨i, hi⟩ := List.getElem?_of_mem hu
    have hik : i < k := by
      have := (List.getElem?_eq_some_iff.mp hi).1
      rw [List.length_take] at this
      omega
    rw [List.getElem?_take_of_lt hik] at hi
    rcases h2 with h2 | ⟨v, hv, hz⟩
    · omega
    · by_cases hc : i = k - 1
      · rw [hc, hv] at hi
        rw [← Option.some.inj hi]
        exact decide_eq_true hz
      · have hp := List.pairwise_iff_getElem.mp (hJ.2.2 r hr).2.2
        obtain ⟨g1, g2⟩ := List.getElem?_eq_some_iff.mp hi
        obtain ⟨g3, g4⟩ := List.getElem?_eq_some_iff.mp hv
        have h9 := hp i (k - 1) g1 g3 (by omega)
        rw [g2, g4] at h9
        exact decide_eq_true (h9 hz)
  rw [e1, e2, List.length_take]
  omega
/-- positions above i of r's queue have moved up -/
def tm_iw (w : tl_W) (r n i : Nat) : tl_W := fun a => if a = 3 then (fun x => if 8 * r + i < x ∧ x ≤ 8 * r + n then w 3 (x - 1) else w 3 x) else w a
theorem tm_iw_3 (w : tl_W) (r n i x : Nat) : tm_iw w r n i 3 x = if 8 * r + i < x ∧ x ≤ 8 * r + n then w 3 (x - 1) else w 3 x := rfl
theorem tm_iw_n {w : tl_W} {r n i a : Nat} (h : a ≠ 3) : tm_iw w r n i a = w a := by unfold tm_iw; exact if_neg h
theorem tm_iw_0 (w : tl_W) (r n : Nat) : tm_iw w r n n = w := by
  funext a x
  by_cases h : a = 3
  · rw [h, tm_iw_3, if_neg (by omega)]
  · rw [tm_iw_n h]
theorem tm_iw_s {w : tl_W} {r n i : Nat} (h : i < n) : tl_set (tm_iw w r n (i + 1)) 3 (8 * r + i + 1) (w 3 (8 * r + i)) = tm_iw w r n i := by
  funext a x
  unfold tl_set
  by_cases h3 : a = 3
  · rw [if_pos h3, h3, tm_iw_3]
    unfold va_up
    by_cases hx : x = 8 * r + i + 1
    · rw [if_pos hx, hx, if_pos (by omega)]
      rfl
    · rw [if_neg hx, tm_iw_3]
      by_cases hc : 8 * r + (i + 1) < x ∧ x ≤ 8 * r + n
      · rw [if_pos hc, if_pos (by omega)]
      · rw [if_neg hc, if_neg (by omega)]
  · rw [if_neg h3, tm_iw_n h3, tm_iw_n h3]
theorem tm_en_RM {w : tl_W} {σ : tm_S} (hR : tm_RM w σ) {r t m p : Nat} (hr : r < 34) (hp : p ≤ (σ.2.2.2 r).length) (h7 : (σ.2.2.2 r).length ≤ 7) (h8 : ∀ c, c < 34 → (σ.2.2.2 c).length ≤ 8) :
    tm_RM (tl_set (tl_set (tl_set (tl_set (tm_iw w r (σ.2.2.2 r).length p) 3 (8 * r + p) (t : Int)) 4 r (((σ.2.2.2 r).length + 1 : Nat) : Int)) 1 t ((r + 2 : Nat) : Int)) 2 t (m : Int)) (tm_en σ r t m p) := by
  refine ⟨fun i hi => ?_, fun u hu => ⟨?_, ?_⟩, fun c hc => ⟨?_, fun j u hj => ?_⟩⟩
  · rw [tl_set_o (by decide), tl_set_o (by decide), tl_set_o (by decide), tl_set_o (by decide), tm_iw_n (by decide)]; exact hR.1 i hi
  · rw [tl_set_o (by decide), tl_set_s, tl_set_o (by decide), tl_set_o (by decide), tm_iw_n (by decide)]
    show va_up (w 1) t _ u = ((va_up σ.2.1 t (r + 2) u : Nat) : Int)
    by_cases e : u = t
    · rw [e, va_up_s, va_up_s]
    · rw [va_up_n _ _ e, va_up_n _ _ e]; exact (hR.2.1 u hu).1
  · rw [tl_set_s, tl_set_o (by decide), tl_set_o (by decide), tl_set_o (by decide), tm_iw_n (by decide)]
    show va_up (w 2) t _ u = ((va_up σ.2.2.1 t m u : Nat) : Int)
    by_cases e : u = t
    · rw [e, va_up_s, va_up_s]
    · rw [va_up_n _ _ e, va_up_n _ _ e]; exact (hR.2.1 u hu).2
  · rw [tl_set_o (by decide), tl_set_o (by decide), tl_set_s, tl_set_o (by decide), tm_iw_n (by decide)]
    show va_up (w 4) r _ c = ((va_up σ.2.2.2 r _ c).length : Int)
    by_cases e : c = r
    · rw [e, va_up_s, va_up_s, (tm_en_perm (σ.2.2.2 r) p t).length_eq, List.length_cons]
    · rw [va_up_n _ _ e, va_up_n _ _ e]; exact (hR.2.2 c hc).1
  · rw [tl_set_o (by decide), tl_set_o (by decide), tl_set_o (by decide), tl_set_s]
    have hj : (va_up σ.2.2.2 r ((σ.2.2.2 r).take p ++ t :: (σ.2.2.2 r).drop p) c)[j]? = some u := hj
    by_cases e : c = r
    · subst e
      rw [va_up_s, tm_ins hp] at hj
      by_cases h1 : j < p
      · rw [if_pos h1] at hj
        rw [va_up_n _ _ (by omega), tm_iw_3, if_neg (by omega)]
        exact (hR.2.2 c hc).2 j u hj
      · rw [if_neg h1] at hj
        by_cases h2 : j = p
        · rw [if_pos h2] at hj
          cases hj
          rw [h2, va_up_s]
        · rw [if_neg h2] at hj
          have h9 := (List.getElem?_eq_some_iff.mp hj).1
          rw [va_up_n _ _ (by omega), tm_iw_3, if_pos (by omega), show 8 * c + j - 1 = 8 * c + (j - 1) by omega]
          exact (hR.2.2 c hc).2 (j - 1) u hj
    · rw [va_up_n _ _ e] at hj
      have h9 := (List.getElem?_eq_some_iff.mp hj).1
      have h10 := h8 c hc
      rw [va_up_n _ _ (by omega), tm_iw_3, if_neg (by omega)]
      exact (hR.2.2 c hc).2 j u hj
def tm_ask (σ : tm_S) (t r m : Nat) : Nat × tm_S :=
  if tm_fits σ.1 t r m = true ∧ (σ.1 (34 * t + r) ≠ 0 ∨ σ.2.2.2 r = []) then (1, tm_sm σ (34 * t + r) m)
  else if tm_cir (tm_en σ r t m (tm_pl σ t r)) t = true then (4, σ)
  else (0, tm_en σ r t m (tm_pl σ t r))

theorem tb_ask (d t r m : Nat) (ht : t < 8) (hr : r < 34) (hm : m ≤ 5) {σ : tm_S} (w : tl_W) (hJ : tm_J σ) (hR : tm_RM w σ) (hs : σ.2.1 t = 1) : ∃ w', tl_Ev tb_P (d + 4) 18 [.inr 0, .inl (t : Int), .inl (r : Int), .inl (m : Int)] w (.inl (some (((tm_ask σ t r m).1 : Nat) : Int))) w' ∧ (tm_RM w' (tm_ask σ t r m).2 ∧ w' 5 = w 5) := by
  refine tl_exi fun Q hQ => ?_
  have hK := tm_J_K hJ
  have hl := (hR.2.2 r hr).1
  have h7 := tm_len7 hJ hr ht (show σ.2.1 t < 2 by omega)
  have hple := tm_pl_le σ t r
  have hH : w 0 (34 * t + r) = ((σ.1 (34 * t + r) : Nat) : Int) := hR.1 _ (by omega)
  generalize hh : σ.1 (34 * t + r) = h at hH
  refine tl_go 7 10 [(0, .inr 0), (1, .inl ((t : Nat) : Int)), (2, .inl ((r : Nat) : Int)), (3, .inl ((m : Nat) : Int))] [.inl ((34 * ((t : Nat) : Int)) + ((r : Nat) : Int)), .inr 1] w (fun _ h => And.intro rfl (And.intro (by decide) (And.intro (by omega) (And.intro (by omega) h)))) ?_
  refine tl_ald (34 * t + r) 272 (k := 0) rfl (by omega) rfl (by omega) ?_
  refine tl_top (y := ((h : Nat) : Int)) (hH) ?_
  refine tl_go 5 17 [(0, .inr 0), (1, .inl ((t : Nat) : Int)), (2, .inl ((r : Nat) : Int)), (3, .inl ((m : Nat) : Int)), (4, .inl ((h : Nat) : Int))] [.inl ((m : Nat) : Int), .inl ((r : Nat) : Int), .inl ((t : Nat) : Int), .inr 0] w (fun _ h => h) ?_
  have wait : ¬ (tm_fits σ.1 t r m = true ∧ (h ≠ 0 ∨ σ.2.2.2 r = [])) → tl_E tb_P (d + 3) 18 51 [(0, .inr 0), (1, .inl ((t : Nat) : Int)), (2, .inl ((r : Nat) : Int)), (3, .inl ((m : Nat) : Int)), (4, .inl ((h : Nat) : Int))] [] w Q := by
    intro h3
    rw [← hh] at h3
    have hJ1 := tm_en_J (m := m) hJ ht hr hm (show σ.2.1 t < 2 by omega)
    have hR1 := tm_en_RM (t := t) (m := m) hR hr hple h7 (fun c hc => tm_len hJ hc)
    have partC : ∀ x : Int, tl_E tb_P (d + 3) 18 149 [(0, .inr 0), (1, .inl (t : Int)), (2, .inl (r : Int)), (3, .inl (m : Int)), (4, .inl (h : Int)), (5, .inl ((tm_pl σ t r : Nat) : Int)), (6, .inl x)] [] (tm_iw w r (σ.2.2.2 r).length (tm_pl σ t r)) Q := by
      intro x
      refine tl_go 8 161 [(0, .inr 0), (1, .inl ((t : Nat) : Int)), (2, .inl ((r : Nat) : Int)), (3, .inl ((m : Nat) : Int)), (4, .inl ((h : Nat) : Int)), (5, .inl ((tm_pl σ t r : Nat) : Int)), (6, .inl x)] [.inl ((t : Nat) : Int), .inl ((8 * ((r : Nat) : Int)) + ((tm_pl σ t r : Nat) : Int)), .inr 4] (tm_iw w r (σ.2.2.2 r).length (tm_pl σ t r)) (fun _ h => And.intro rfl (And.intro (by decide) (And.intro (by omega) (And.intro (by omega) h)))) ?_
      refine tl_ast (8 * r + tm_pl σ t r) 272 (k := 3) rfl (by decide) (by omega) rfl (by omega) ?_
      refine tl_go 4 168 [(0, .inr 0), (1, .inl ((t : Nat) : Int)), (2, .inl ((r : Nat) : Int)), (3, .inl ((m : Nat) : Int)), (4, .inl ((h : Nat) : Int)), (5, .inl ((tm_pl σ t r : Nat) : Int)), (6, .inl x)] [.inl ((r : Nat) : Int), .inr 5, .inl ((r : Nat) : Int), .inr 5] (tl_set (tm_iw w r (σ.2.2.2 r).length (tm_pl σ t r)) 3 (8 * r + tm_pl σ t r) ((t : Nat) : Int)) (fun _ h => And.intro rfl (And.intro (by decide) (h))) ?_
      refine tl_ald (r) 34 (k := 4) rfl (by omega) rfl (by omega) ?_
      refine tl_top (y := (((σ.2.2.2 r).length : Nat) : Int)) (by rw [tl_set_o (by decide), tm_iw_n (by decide)]; exact hl) ?_
      refine tl_go 2 171 [(0, .inr 0), (1, .inl ((t : Nat) : Int)), (2, .inl ((r : Nat) : Int)), (3, .inl ((m : Nat) : Int)), (4, .inl ((h : Nat) : Int)), (5, .inl ((tm_pl σ t r : Nat) : Int)), (6, .inl x)] [.inl ((((σ.2.2.2 r).length : Nat) : Int) + 1), .inl ((r : Nat) : Int), .inr 5] (tl_set (tm_iw w r (σ.2.2.2 r).length (tm_pl σ t r)) 3 (8 * r + tm_pl σ t r) ((t : Nat) : Int)) (fun _ h => And.intro (by omega) h) ?_
      refine tl_top (y := (((σ.2.2.2 r).length + 1 : Nat) : Int)) (by omega) ?_
      refine tl_ast (r) 34 (k := 4) rfl (by decide) (by omega) rfl (by omega) ?_
      refine tl_go 6 180 [(0, .inr 0), (1, .inl ((t : Nat) : Int)), (2, .inl ((r : Nat) : Int)), (3, .inl ((m : Nat) : Int)), (4, .inl ((h : Nat) : Int)), (5, .inl ((tm_pl σ t r : Nat) : Int)), (6, .inl x)] [.inl (2 + ((r : Nat) : Int)), .inl ((t : Nat) : Int), .inr 2] (tl_set (tl_set (tm_iw w r (σ.2.2.2 r).length (tm_pl σ t r)) 3 (8 * r + tm_pl σ t r) ((t : Nat) : Int)) 4 (r) (((σ.2.2.2 r).length + 1 : Nat) : Int)) (fun _ h => And.intro rfl (And.intro (by decide) (And.intro (by omega) h))) ?_
      refine tl_top (y := ((r + 2 : Nat) : Int)) (by omega) ?_
      refine tl_ast (t) 8 (k := 1) rfl (by decide) (by omega) rfl (by omega) ?_
      refine tl_go 4 187 [(0, .inr 0), (1, .inl ((t : Nat) : Int)), (2, .inl ((r : Nat) : Int)), (3, .inl ((m : Nat) : Int)), (4, .inl ((h : Nat) : Int)), (5, .inl ((tm_pl σ t r : Nat) : Int)), (6, .inl x)] [.inl ((m : Nat) : Int), .inl ((t : Nat) : Int), .inr 3] (tl_set (tl_set (tl_set (tm_iw w r (σ.2.2.2 r).length (tm_pl σ t r)) 3 (8 * r + tm_pl σ t r) ((t : Nat) : Int)) 4 (r) (((σ.2.2.2 r).length + 1 : Nat) : Int)) 1 (t) ((r + 2 : Nat) : Int)) (fun _ h => And.intro rfl (And.intro (by decide) (h))) ?_
      refine tl_ast (t) 8 (k := 2) rfl (by decide) (by omega) rfl (by omega) ?_
      refine tl_go 2 190 [(0, .inr 0), (1, .inl ((t : Nat) : Int)), (2, .inl ((r : Nat) : Int)), (3, .inl ((m : Nat) : Int)), (4, .inl ((h : Nat) : Int)), (5, .inl ((tm_pl σ t r : Nat) : Int)), (6, .inl x)] [.inl ((t : Nat) : Int), .inr 0] (tl_set (tl_set (tl_set (tl_set (tm_iw w r (σ.2.2.2 r).length (tm_pl σ t r)) 3 (8 * r + tm_pl σ t r) ((t : Nat) : Int)) 4 (r) (((σ.2.2.2 r).length + 1 : Nat) : Int)) 1 (t) ((r + 2 : Nat) : Int)) 2 (t) ((m : Nat) : Int)) (fun _ h => h) ?_
      have ew : (tl_set (tl_set (tl_set (tl_set (tm_iw w r (σ.2.2.2 r).length (tm_pl σ t r)) 3 (8 * r + tm_pl σ t r) ((t : Nat) : Int)) 4 (r) (((σ.2.2.2 r).length + 1 : Nat) : Int)) 1 (t) ((r + 2 : Nat) : Int)) 2 (t) ((m : Nat) : Int)) 5 = w 5 := by rw [tl_set_o (by decide), tl_set_o (by decide), tl_set_o (by decide), tl_set_o (by decide), tm_iw_n (by decide)]
      refine tl_callV (as := [.inr 0, .inl ((t : Nat) : Int)]) (rest := []) (v := some (tm_b (decide (tm_cir (tm_en σ r t m (tm_pl σ t r)) t = true)))) (w' := (tl_set (tl_set (tl_set (tl_set (tm_iw w r (σ.2.2.2 r).length (tm_pl σ t r)) 3 (8 * r + tm_pl σ t r) ((t : Nat) : Int)) 4 (r) (((σ.2.2.2 r).length + 1 : Nat) : Int)) 1 (t) ((r + 2 : Nat) : Int)) 2 (t) ((m : Nat) : Int))) rfl rfl (tb_rnd d t ht _ hJ1 hR1) (Nat.le_of_ble_eq_true rfl) rfl rfl rfl (Nat.le_of_ble_eq_true rfl) ?_
      refine tl_if (¬ (tm_b (decide (tm_cir (tm_en σ r t m (tm_pl σ t r)) t = true))) = 0) 198 196 [(0, .inr 0), (1, .inl ((t : Nat) : Int)), (2, .inl ((r : Nat) : Int)), (3, .inl ((m : Nat) : Int)), (4, .inl ((h : Nat) : Int)), (5, .inl ((tm_pl σ t r : Nat) : Int)), (6, .inl x)] [] (fun _ h => h) (fun h4 => ?_) (fun h4 => ?_)
      · have h4 := of_decide_eq_true (tm_bne h4)
        have e : tm_ask σ t r m = (4, σ) := by unfold tm_ask; rw [if_neg h3, if_pos h4]
        rw [e] at hQ
        have hkp : ((tm_en σ r t m (tm_pl σ t r)).2.2.2 r)[tm_pl σ t r]? = some t := by
          show (va_up σ.2.2.2 r _ r)[tm_pl σ t r]? = some t
          rw [va_up_s, tm_ins hple, if_neg (by omega), if_pos rfl]
        have hkl := (List.getElem?_eq_some_iff.mp hkp).1
        have hR2 := tm_lw_RM hR1 hr hkl (fun c hc => tm_len hJ1 hc)
        have hR3 := tm_W_RM (tm_S_RM hR2 t 1) t 0
        have e5 : (tm_lv (tm_en σ r t m (tm_pl σ t r)) r t (tm_pl σ t r)) = σ := tm_lv_en hs ((hJ.2.1 t ht).2.2 (by omega)) hple
        refine tl_go 3 202 [(0, .inr 0), (1, .inl ((t : Nat) : Int)), (2, .inl ((r : Nat) : Int)), (3, .inl ((m : Nat) : Int)), (4, .inl ((h : Nat) : Int)), (5, .inl ((tm_pl σ t r : Nat) : Int)), (6, .inl x)] [.inl ((tm_pl σ t r : Nat) : Int), .inl ((r : Nat) : Int), .inr 0] (tl_set (tl_set (tl_set (tl_set (tm_iw w r (σ.2.2.2 r).length (tm_pl σ t r)) 3 (8 * r + tm_pl σ t r) ((t : Nat) : Int)) 4 (r) (((σ.2.2.2 r).length + 1 : Nat) : Int)) 1 (t) ((r + 2 : Nat) : Int)) 2 (t) ((m : Nat) : Int)) (fun _ h => h) ?_
        refine tl_callV (as := [.inr 0, .inl ((r : Nat) : Int), .inl ((tm_pl σ t r : Nat) : Int)]) (rest := []) (v := none) (w' := (tm_lw (tl_set (tl_set (tl_set (tl_set (tm_iw w r (σ.2.2.2 r).length (tm_pl σ t r)) 3 (8 * r + tm_pl σ t r) ((t : Nat) : Int)) 4 (r) (((σ.2.2.2 r).length + 1 : Nat) : Int)) 1 (t) ((r + 2 : Nat) : Int)) 2 (t) ((m : Nat) : Int)) r (tm_pl σ t r) (((tm_en σ r t m (tm_pl σ t r)).2.2.2 r).length - 1))) rfl rfl (tb_lv (d + 2) (σ := tm_en σ r t m (tm_pl σ t r)) _ hR1 hr hkl (tm_len hJ1 hr)) (Nat.le_of_ble_eq_true rfl) rfl rfl rfl (Nat.le_of_ble_eq_true rfl) ?_
        refine tl_go 4 211 [(0, .inr 0), (1, .inl ((t : Nat) : Int)), (2, .inl ((r : Nat) : Int)), (3, .inl ((m : Nat) : Int)), (4, .inl ((h : Nat) : Int)), (5, .inl ((tm_pl σ t r : Nat) : Int)), (6, .inl x)] [.inl 1, .inl ((t : Nat) : Int), .inr 2] (tm_lw (tl_set (tl_set (tl_set (tl_set (tm_iw w r (σ.2.2.2 r).length (tm_pl σ t r)) 3 (8 * r + tm_pl σ t r) ((t : Nat) : Int)) 4 (r) (((σ.2.2.2 r).length + 1 : Nat) : Int)) 1 (t) ((r + 2 : Nat) : Int)) 2 (t) ((m : Nat) : Int)) r (tm_pl σ t r) (((tm_en σ r t m (tm_pl σ t r)).2.2.2 r).length - 1)) (fun _ h => And.intro rfl (And.intro (by decide) (h))) ?_
        refine tl_ast (t) 8 (k := 1) rfl (by decide) (by omega) rfl (by omega) ?_
        refine tl_go 4 218 [(0, .inr 0), (1, .inl ((t : Nat) : Int)), (2, .inl ((r : Nat) : Int)), (3, .inl ((m : Nat) : Int)), (4, .inl ((h : Nat) : Int)), (5, .inl ((tm_pl σ t r : Nat) : Int)), (6, .inl x)] [.inl 0, .inl ((t : Nat) : Int), .inr 3] (tl_set (tm_lw (tl_set (tl_set (tl_set (tl_set (tm_iw w r (σ.2.2.2 r).length (tm_pl σ t r)) 3 (8 * r + tm_pl σ t r) ((t : Nat) : Int)) 4 (r) (((σ.2.2.2 r).length + 1 : Nat) : Int)) 1 (t) ((r + 2 : Nat) : Int)) 2 (t) ((m : Nat) : Int)) r (tm_pl σ t r) (((tm_en σ r t m (tm_pl σ t r)).2.2.2 r).length - 1)) 1 (t) 1) (fun _ h => And.intro rfl (And.intro (by decide) (h))) ?_
        refine tl_ast (t) 8 (k := 2) rfl (by decide) (by omega) rfl (by omega) ?_
        refine tl_go 1 220 [(0, .inr 0), (1, .inl ((t : Nat) : Int)), (2, .inl ((r : Nat) : Int)), (3, .inl ((m : Nat) : Int)), (4, .inl ((h : Nat) : Int)), (5, .inl ((tm_pl σ t r : Nat) : Int)), (6, .inl x)] [.inl 4] (tl_set (tl_set (tm_lw (tl_set (tl_set (tl_set (tl_set (tm_iw w r (σ.2.2.2 r).length (tm_pl σ t r)) 3 (8 * r + tm_pl σ t r) ((t : Nat) : Int)) 4 (r) (((σ.2.2.2 r).length + 1 : Nat) : Int)) 1 (t) ((r + 2 : Nat) : Int)) 2 (t) ((m : Nat) : Int)) r (tm_pl σ t r) (((tm_en σ r t m (tm_pl σ t r)).2.2.2 r).length - 1)) 1 (t) 1) 2 (t) 0) (fun _ h => h) ?_
        have hR4 : tm_RM (tl_set (tl_set (tm_lw (tl_set (tl_set (tl_set (tl_set (tm_iw w r (σ.2.2.2 r).length (tm_pl σ t r)) 3 (8 * r + tm_pl σ t r) ((t : Nat) : Int)) 4 (r) (((σ.2.2.2 r).length + 1 : Nat) : Int)) 1 (t) ((r + 2 : Nat) : Int)) 2 (t) ((m : Nat) : Int)) r (tm_pl σ t r) (((tm_en σ r t m (tm_pl σ t r)).2.2.2 r).length - 1)) 1 (t) 1) 2 (t) 0) (tm_lv (tm_en σ r t m (tm_pl σ t r)) r t (tm_pl σ t r)) := hR3
        rw [e5] at hR4
        exact tl_reti rfl rfl (rfl) (hQ _ ⟨hR4, by rw [tl_set_o (by decide), tl_set_o (by decide), tm_lw_n (by decide) (by decide)]; exact ew⟩)
      · have h4 := of_decide_eq_false (tm_beq (Classical.not_not.mp h4))
        have e : tm_ask σ t r m = (0, tm_en σ r t m (tm_pl σ t r)) := by unfold tm_ask; rw [if_neg h3, if_neg h4]
        rw [e] at hQ
        refine tl_go 1 197 [(0, .inr 0), (1, .inl ((t : Nat) : Int)), (2, .inl ((r : Nat) : Int)), (3, .inl ((m : Nat) : Int)), (4, .inl ((h : Nat) : Int)), (5, .inl ((tm_pl σ t r : Nat) : Int)), (6, .inl x)] [.inl 0] (tl_set (tl_set (tl_set (tl_set (tm_iw w r (σ.2.2.2 r).length (tm_pl σ t r)) 3 (8 * r + tm_pl σ t r) ((t : Nat) : Int)) 4 (r) (((σ.2.2.2 r).length + 1 : Nat) : Int)) 1 (t) ((r + 2 : Nat) : Int)) 2 (t) ((m : Nat) : Int)) (fun _ h => h) ?_
        exact tl_reti rfl rfl (rfl) (hQ _ ⟨hR1, ew⟩)
    have partB : ∀ q : Nat, tm_pl σ t r + q ≤ (σ.2.2.2 r).length → tl_E tb_P (d + 3) 18 110 [(0, .inr 0), (1, .inl (t : Int)), (2, .inl (r : Int)), (3, .inl (m : Int)), (4, .inl (h : Int)), (5, .inl ((tm_pl σ t r : Nat) : Int)), (6, .inl ((tm_pl σ t r + q : Nat) : Int))] [] (tm_iw w r (σ.2.2.2 r).length (tm_pl σ t r + q)) Q := by
      intro q
      induction q with
      | zero =>
        intro hq
        refine tl_go 2 114 [(0, .inr 0), (1, .inl ((t : Nat) : Int)), (2, .inl ((r : Nat) : Int)), (3, .inl ((m : Nat) : Int)), (4, .inl ((h : Nat) : Int)), (5, .inl ((tm_pl σ t r : Nat) : Int)), (6, .inl ((tm_pl σ t r + 0 : Nat) : Int))] [.inl ((tm_pl σ t r : Nat) : Int), .inl ((tm_pl σ t r + 0 : Nat) : Int)] (tm_iw w r (σ.2.2.2 r).length (tm_pl σ t r + 0)) (fun _ h => h) ?_
        refine tl_ift (((tm_pl σ t r + 0 : Nat) : Int) ≤ ((tm_pl σ t r : Nat) : Int)) 149 117 [(0, .inr 0), (1, .inl ((t : Nat) : Int)), (2, .inl ((r : Nat) : Int)), (3, .inl ((m : Nat) : Int)), (4, .inl ((h : Nat) : Int)), (5, .inl ((tm_pl σ t r : Nat) : Int)), (6, .inl ((tm_pl σ t r + 0 : Nat) : Int))] [] (fun _ h => h) (by omega) ?_
        exact partC _
      | succ q ih =>
        intro hq
        refine tl_go 2 114 [(0, .inr 0), (1, .inl ((t : Nat) : Int)), (2, .inl ((r : Nat) : Int)), (3, .inl ((m : Nat) : Int)), (4, .inl ((h : Nat) : Int)), (5, .inl ((tm_pl σ t r : Nat) : Int)), (6, .inl ((tm_pl σ t r + (q + 1) : Nat) : Int))] [.inl ((tm_pl σ t r : Nat) : Int), .inl ((tm_pl σ t r + (q + 1) : Nat) : Int)] (tm_iw w r (σ.2.2.2 r).length (tm_pl σ t r + (q + 1))) (fun _ h => h) ?_
        refine tl_iff (((tm_pl σ t r + (q + 1) : Nat) : Int) ≤ ((tm_pl σ t r : Nat) : Int)) 149 117 [(0, .inr 0), (1, .inl ((t : Nat) : Int)), (2, .inl ((r : Nat) : Int)), (3, .inl ((m : Nat) : Int)), (4, .inl ((h : Nat) : Int)), (5, .inl ((tm_pl σ t r : Nat) : Int)), (6, .inl ((tm_pl σ t r + (q + 1) : Nat) : Int))] [] (fun _ h => h) (by omega) ?_
        refine tl_go 16 141 [(0, .inr 0), (1, .inl ((t : Nat) : Int)), (2, .inl ((r : Nat) : Int)), (3, .inl ((m : Nat) : Int)), (4, .inl ((h : Nat) : Int)), (5, .inl ((tm_pl σ t r : Nat) : Int)), (6, .inl ((tm_pl σ t r + (q + 1) : Nat) : Int))] [.inl (((8 * ((r : Nat) : Int)) + ((tm_pl σ t r + (q + 1) : Nat) : Int)) - 1), .inr 4, .inl ((8 * ((r : Nat) : Int)) + ((tm_pl σ t r + (q + 1) : Nat) : Int)), .inr 4] (tm_iw w r (σ.2.2.2 r).length (tm_pl σ t r + (q + 1))) (fun _ h => And.intro rfl (And.intro (by decide) (And.intro (by omega) (And.intro (by omega) (And.intro rfl (And.intro (by decide) (And.intro (by omega) (And.intro (by omega) (And.intro (by omega) h))))))))) ?_
        refine tl_ald (8 * r + (tm_pl σ t r + q)) 272 (k := 3) rfl (by omega) rfl (by omega) ?_
        refine tl_top (y := (w 3 (8 * r + (tm_pl σ t r + q)))) (by rw [tm_iw_3, if_neg (by omega)]) ?_
        refine tl_ast (8 * r + (tm_pl σ t r + q) + 1) 272 (k := 3) rfl (by decide) (by omega) rfl (by omega) ?_
        refine tl_wld (w' := (tm_iw w r (σ.2.2.2 r).length (tm_pl σ t r + q))) (tm_iw_s (i := tm_pl σ t r + q) (by omega)) ?_
        refine tl_go 2 110 [(0, .inr 0), (1, .inl ((t : Nat) : Int)), (2, .inl ((r : Nat) : Int)), (3, .inl ((m : Nat) : Int)), (4, .inl ((h : Nat) : Int)), (5, .inl ((tm_pl σ t r : Nat) : Int)), (6, .inl (((tm_pl σ t r + (q + 1) : Nat) : Int) + (-1)))] [] (tm_iw w r (σ.2.2.2 r).length (tm_pl σ t r + q)) (fun _ h => And.intro (by omega) h) ?_
        refine tl_loc (L' := [(0, .inr 0), (1, .inl ((t : Nat) : Int)), (2, .inl ((r : Nat) : Int)), (3, .inl ((m : Nat) : Int)), (4, .inl ((h : Nat) : Int)), (5, .inl ((tm_pl σ t r : Nat) : Int)), (6, .inl ((tm_pl σ t r + q : Nat) : Int))]) (by rw [show ((((tm_pl σ t r + (q + 1) : Nat) : Int)) + (-1)) = ((tm_pl σ t r + q : Nat) : Int) by omega]) ?_
        exact ih (by omega)
    have partA : tl_E tb_P (d + 3) 18 102 [(0, .inr 0), (1, .inl (t : Int)), (2, .inl (r : Int)), (3, .inl (m : Int)), (4, .inl (h : Int)), (5, .inl ((tm_pl σ t r : Nat) : Int))] [] w Q := by
      refine tl_go 3 107 [(0, .inr 0), (1, .inl ((t : Nat) : Int)), (2, .inl ((r : Nat) : Int)), (3, .inl ((m : Nat) : Int)), (4, .inl ((h : Nat) : Int)), (5, .inl ((tm_pl σ t r : Nat) : Int))] [.inl ((r : Nat) : Int), .inr 5] w (fun _ h => And.intro rfl (And.intro (by decide) (h))) ?_
      refine tl_ald (r) 34 (k := 4) rfl (by omega) rfl (by omega) ?_
      refine tl_top (y := (((σ.2.2.2 r).length : Nat) : Int)) (hl) ?_
      refine tl_go 1 110 [(0, .inr 0), (1, .inl ((t : Nat) : Int)), (2, .inl ((r : Nat) : Int)), (3, .inl ((m : Nat) : Int)), (4, .inl ((h : Nat) : Int)), (5, .inl ((tm_pl σ t r : Nat) : Int)), (6, .inl (((σ.2.2.2 r).length : Nat) : Int))] [] w (fun _ h => h) ?_
      have h9 := partB ((σ.2.2.2 r).length - tm_pl σ t r) (by omega)
      rw [show tm_pl σ t r + ((σ.2.2.2 r).length - tm_pl σ t r) = (σ.2.2.2 r).length by omega, tm_iw_0] at h9
      exact h9
    have place : ∀ k : Nat, k ≤ (σ.2.2.2 r).length → (h = 0 → k = (σ.2.2.2 r).length) → (h ≠ 0 → ∀ j u : Nat, k ≤ j → (σ.2.2.2 r)[j]? = some u → σ.1 (34 * u + r) = 0) → tl_E tb_P (d + 3) 18 59 [(0, .inr 0), (1, .inl (t : Int)), (2, .inl (r : Int)), (3, .inl (m : Int)), (4, .inl (h : Int)), (5, .inl (k : Int))] [] w Q := by
      intro k
      induction k with
      | zero =>
        intro hk hz hall
        refine tl_go 1 61 [(0, .inr 0), (1, .inl ((t : Nat) : Int)), (2, .inl ((r : Nat) : Int)), (3, .inl ((m : Nat) : Int)), (4, .inl ((h : Nat) : Int)), (5, .inl ((0 : Nat) : Int))] [.inl ((h : Nat) : Int)] w (fun _ h => h) ?_
        refine tl_if (((h : Nat) : Int) ≤ 0) 102 64 [(0, .inr 0), (1, .inl ((t : Nat) : Int)), (2, .inl ((r : Nat) : Int)), (3, .inl ((m : Nat) : Int)), (4, .inl ((h : Nat) : Int)), (5, .inl ((0 : Nat) : Int))] [] (fun _ h => h) (fun h1 => ?_) (fun h1 => ?_)
        · have h0 : h = 0 := by omega
          refine tl_loc (L' := [(0, .inr 0), (1, .inl ((t : Nat) : Int)), (2, .inl ((r : Nat) : Int)), (3, .inl ((m : Nat) : Int)), (4, .inl ((h : Nat) : Int)), (5, .inl ((tm_pl σ t r : Nat) : Int))]) (by rw [show ((0 : Nat) : Int) = ((tm_pl σ t r : Nat) : Int) by rw [tm_pl_0 (hh.trans h0), ← hz h0]]) ?_
          exact partA
        · have h0 : h ≠ 0 := by omega
          refine tl_go 1 66 [(0, .inr 0), (1, .inl ((t : Nat) : Int)), (2, .inl ((r : Nat) : Int)), (3, .inl ((m : Nat) : Int)), (4, .inl ((h : Nat) : Int)), (5, .inl ((0 : Nat) : Int))] [.inl ((0 : Nat) : Int)] w (fun _ h => h) ?_
          refine tl_ift (((0 : Nat) : Int) ≤ 0) 102 69 [(0, .inr 0), (1, .inl ((t : Nat) : Int)), (2, .inl ((r : Nat) : Int)), (3, .inl ((m : Nat) : Int)), (4, .inl ((h : Nat) : Int)), (5, .inl ((0 : Nat) : Int))] [] (fun _ h => h) (by omega) ?_
          refine tl_loc (L' := [(0, .inr 0), (1, .inl ((t : Nat) : Int)), (2, .inl ((r : Nat) : Int)), (3, .inl ((m : Nat) : Int)), (4, .inl ((h : Nat) : Int)), (5, .inl ((tm_pl σ t r : Nat) : Int))]) (by rw [show ((0 : Nat) : Int) = ((tm_pl σ t r : Nat) : Int) by rw [tm_pl_k hJ hr (by rw [hh]; exact h0) hk (hall h0) (Or.inl rfl)]]) ?_
          exact partA
      | succ k ih =>
        intro hk hz hall
        refine tl_go 1 61 [(0, .inr 0), (1, .inl ((t : Nat) : Int)), (2, .inl ((r : Nat) : Int)), (3, .inl ((m : Nat) : Int)), (4, .inl ((h : Nat) : Int)), (5, .inl ((k + 1 : Nat) : Int))] [.inl ((h : Nat) : Int)] w (fun _ h => h) ?_
        refine tl_if (((h : Nat) : Int) ≤ 0) 102 64 [(0, .inr 0), (1, .inl ((t : Nat) : Int)), (2, .inl ((r : Nat) : Int)), (3, .inl ((m : Nat) : Int)), (4, .inl ((h : Nat) : Int)), (5, .inl ((k + 1 : Nat) : Int))] [] (fun _ h => h) (fun h1 => ?_) (fun h1 => ?_)
        · have h0 : h = 0 := by omega
          refine tl_loc (L' := [(0, .inr 0), (1, .inl ((t : Nat) : Int)), (2, .inl ((r : Nat) : Int)), (3, .inl ((m : Nat) : Int)), (4, .inl ((h : Nat) : Int)), (5, .inl ((tm_pl σ t r : Nat) : Int))]) (by rw [show ((k + 1 : Nat) : Int) = ((tm_pl σ t r : Nat) : Int) by rw [tm_pl_0 (hh.trans h0), ← hz h0]]) ?_
          exact partA
        · have h0 : h ≠ 0 := by omega
          obtain ⟨u, hu⟩ : ∃ u, (σ.2.2.2 r)[k]? = some u := ⟨_, List.getElem?_eq_getElem (by omega)⟩
          have hu8 := (tm_K_lt hK hr hu).2.1
          refine tl_go 1 66 [(0, .inr 0), (1, .inl ((t : Nat) : Int)), (2, .inl ((r : Nat) : Int)), (3, .inl ((m : Nat) : Int)), (4, .inl ((h : Nat) : Int)), (5, .inl ((k + 1 : Nat) : Int))] [.inl ((k + 1 : Nat) : Int)] w (fun _ h => h) ?_
          refine tl_iff (((k + 1 : Nat) : Int) ≤ 0) 102 69 [(0, .inr 0), (1, .inl ((t : Nat) : Int)), (2, .inl ((r : Nat) : Int)), (3, .inl ((m : Nat) : Int)), (4, .inl ((h : Nat) : Int)), (5, .inl ((k + 1 : Nat) : Int))] [] (fun _ h => h) (by omega) ?_
          refine tl_go 12 88 [(0, .inr 0), (1, .inl ((t : Nat) : Int)), (2, .inl ((r : Nat) : Int)), (3, .inl ((m : Nat) : Int)), (4, .inl ((h : Nat) : Int)), (5, .inl ((k + 1 : Nat) : Int))] [.inl (((8 * ((r : Nat) : Int)) + ((k + 1 : Nat) : Int)) - 1), .inr 4, .inl 34, .inr 1] w (fun _ h => And.intro rfl (And.intro (by decide) (And.intro rfl (And.intro (by decide) (And.intro (by omega) (And.intro (by omega) (And.intro (by omega) h))))))) ?_
          refine tl_ald (8 * r + k) 272 (k := 3) rfl (by omega) rfl (by omega) ?_
          refine tl_top (y := ((u : Nat) : Int)) ((hR.2.2 r hr).2 k u hu) ?_
          refine tl_go 3 92 [(0, .inr 0), (1, .inl ((t : Nat) : Int)), (2, .inl ((r : Nat) : Int)), (3, .inl ((m : Nat) : Int)), (4, .inl ((h : Nat) : Int)), (5, .inl ((k + 1 : Nat) : Int))] [.inl ((34 * ((u : Nat) : Int)) + ((r : Nat) : Int)), .inr 1] w (fun _ h => And.intro (by omega) (And.intro (by omega) h)) ?_
          refine tl_ald (34 * u + r) 272 (k := 0) rfl (by omega) rfl (by omega) ?_
          refine tl_top (y := ((σ.1 (34 * u + r) : Nat) : Int)) (hR.1 _ (by omega)) ?_
          refine tl_if (¬ ((σ.1 (34 * u + r) : Nat) : Int) = 0) 102 96 [(0, .inr 0), (1, .inl ((t : Nat) : Int)), (2, .inl ((r : Nat) : Int)), (3, .inl ((m : Nat) : Int)), (4, .inl ((h : Nat) : Int)), (5, .inl ((k + 1 : Nat) : Int))] [] (fun _ h => h) (fun h2 => ?_) (fun h2 => ?_)
          · refine tl_loc (L' := [(0, .inr 0), (1, .inl ((t : Nat) : Int)), (2, .inl ((r : Nat) : Int)), (3, .inl ((m : Nat) : Int)), (4, .inl ((h : Nat) : Int)), (5, .inl ((tm_pl σ t r : Nat) : Int))]) (by rw [show ((k + 1 : Nat) : Int) = ((tm_pl σ t r : Nat) : Int) by rw [tm_pl_k hJ hr (by rw [hh]; exact h0) hk (hall h0) (Or.inr ⟨u, hu, by omega⟩)]]) ?_
            exact partA
          · refine tl_go 2 59 [(0, .inr 0), (1, .inl ((t : Nat) : Int)), (2, .inl ((r : Nat) : Int)), (3, .inl ((m : Nat) : Int)), (4, .inl ((h : Nat) : Int)), (5, .inl (((k + 1 : Nat) : Int) + (-1)))] [] w (fun _ h => And.intro (by omega) h) ?_
            refine tl_loc (L' := [(0, .inr 0), (1, .inl ((t : Nat) : Int)), (2, .inl ((r : Nat) : Int)), (3, .inl ((m : Nat) : Int)), (4, .inl ((h : Nat) : Int)), (5, .inl ((k : Nat) : Int))]) (by rw [show ((((k + 1 : Nat) : Int)) + (-1)) = (k : Int) by omega]) ?_
            refine ih (by omega) (fun q => absurd q h0) (fun _ j v hj hv => ?_)
            by_cases e : j = k
            · rw [e, hu] at hv; rw [← Option.some.inj hv]; omega
            · exact hall h0 j v (by omega) hv
    refine tl_go 3 56 [(0, .inr 0), (1, .inl ((t : Nat) : Int)), (2, .inl ((r : Nat) : Int)), (3, .inl ((m : Nat) : Int)), (4, .inl ((h : Nat) : Int))] [.inl ((r : Nat) : Int), .inr 5] w (fun _ h => And.intro rfl (And.intro (by decide) (h))) ?_
    refine tl_ald (r) 34 (k := 4) rfl (by omega) rfl (by omega) ?_
    refine tl_top (y := (((σ.2.2.2 r).length : Nat) : Int)) (hl) ?_
    refine tl_go 1 59 [(0, .inr 0), (1, .inl ((t : Nat) : Int)), (2, .inl ((r : Nat) : Int)), (3, .inl ((m : Nat) : Int)), (4, .inl ((h : Nat) : Int)), (5, .inl (((σ.2.2.2 r).length : Nat) : Int))] [] w (fun _ h => h) ?_
    refine place _ (Nat.le_refl _) (fun _ => rfl) (fun _ j u hj hu => ?_)
    have := (List.getElem?_eq_some_iff.mp hu).1
    omega
  refine tl_callV (as := [.inr 0, .inl ((t : Nat) : Int), .inl ((r : Nat) : Int), .inl ((m : Nat) : Int)]) (rest := []) (v := some (tm_b (decide (tm_fits σ.1 t r m = true)))) (w' := w) rfl rfl (tb_fit (d + 1) t r m ht hr w hR.1) (Nat.le_of_ble_eq_true rfl) rfl rfl rfl (Nat.le_of_ble_eq_true rfl) ?_
  refine tl_if ((tm_b (decide (tm_fits σ.1 t r m = true))) = 0) 51 23 [(0, .inr 0), (1, .inl ((t : Nat) : Int)), (2, .inl ((r : Nat) : Int)), (3, .inl ((m : Nat) : Int)), (4, .inl ((h : Nat) : Int))] [] (fun _ h => h) (fun h1 => ?_) (fun h1 => ?_)
  · have h1 := of_decide_eq_false (tm_beq h1)
    exact wait (fun q => h1 q.1)
  · have h1 := of_decide_eq_true (tm_bne h1)
    refine tl_go 1 25 [(0, .inr 0), (1, .inl ((t : Nat) : Int)), (2, .inl ((r : Nat) : Int)), (3, .inl ((m : Nat) : Int)), (4, .inl ((h : Nat) : Int))] [.inl ((h : Nat) : Int)] w (fun _ h => h) ?_
    refine tl_if (0 < ((h : Nat) : Int)) 37 28 [(0, .inr 0), (1, .inl ((t : Nat) : Int)), (2, .inl ((r : Nat) : Int)), (3, .inl ((m : Nat) : Int)), (4, .inl ((h : Nat) : Int))] [] (fun _ h => h) (fun h2 => ?_) (fun h2 => ?_)
    · have e : tm_ask σ t r m = (1, tm_sm σ (34 * t + r) m) := by unfold tm_ask; rw [if_pos ⟨h1, Or.inl (by omega)⟩]
      rw [e] at hQ
      refine tl_go 8 48 [(0, .inr 0), (1, .inl ((t : Nat) : Int)), (2, .inl ((r : Nat) : Int)), (3, .inl ((m : Nat) : Int)), (4, .inl ((h : Nat) : Int))] [.inl ((m : Nat) : Int), .inl ((34 * ((t : Nat) : Int)) + ((r : Nat) : Int)), .inr 1] w (fun _ h => And.intro rfl (And.intro (by decide) (And.intro (by omega) (And.intro (by omega) h)))) ?_
      refine tl_ast (34 * t + r) 272 (k := 0) rfl (by decide) (by omega) rfl (by omega) ?_
      refine tl_go 1 50 [(0, .inr 0), (1, .inl ((t : Nat) : Int)), (2, .inl ((r : Nat) : Int)), (3, .inl ((m : Nat) : Int)), (4, .inl ((h : Nat) : Int))] [.inl 1] (tl_set w 0 (34 * t + r) ((m : Nat) : Int)) (fun _ h => h) ?_
      exact tl_reti rfl rfl (rfl) (hQ _ ⟨tm_M_RM hR _ m, by rw [tl_set_o (by decide)]⟩)
    · refine tl_go 3 33 [(0, .inr 0), (1, .inl ((t : Nat) : Int)), (2, .inl ((r : Nat) : Int)), (3, .inl ((m : Nat) : Int)), (4, .inl ((h : Nat) : Int))] [.inl ((r : Nat) : Int), .inr 5] w (fun _ h => And.intro rfl (And.intro (by decide) (h))) ?_
      refine tl_ald (r) 34 (k := 4) rfl (by omega) rfl (by omega) ?_
      refine tl_top (y := (((σ.2.2.2 r).length : Nat) : Int)) (hl) ?_
      refine tl_if (¬ (((σ.2.2.2 r).length : Nat) : Int) = 0) 51 37 [(0, .inr 0), (1, .inl ((t : Nat) : Int)), (2, .inl ((r : Nat) : Int)), (3, .inl ((m : Nat) : Int)), (4, .inl ((h : Nat) : Int))] [] (fun _ h => h) (fun h5 => ?_) (fun h5 => ?_)
      · exact wait (fun q => q.2.elim (fun z => by omega) (fun z => h5 (by rw [z]; rfl)))
      · have e : tm_ask σ t r m = (1, tm_sm σ (34 * t + r) m) := by unfold tm_ask; rw [if_pos ⟨h1, Or.inr (List.length_eq_zero_iff.mp (by omega))⟩]
        rw [e] at hQ
        refine tl_go 8 48 [(0, .inr 0), (1, .inl ((t : Nat) : Int)), (2, .inl ((r : Nat) : Int)), (3, .inl ((m : Nat) : Int)), (4, .inl ((h : Nat) : Int))] [.inl ((m : Nat) : Int), .inl ((34 * ((t : Nat) : Int)) + ((r : Nat) : Int)), .inr 1] w (fun _ h => And.intro rfl (And.intro (by decide) (And.intro (by omega) (And.intro (by omega) h)))) ?_
        refine tl_ast (34 * t + r) 272 (k := 0) rfl (by decide) (by omega) rfl (by omega) ?_
        refine tl_go 1 50 [(0, .inr 0), (1, .inl ((t : Nat) : Int)), (2, .inl ((r : Nat) : Int)), (3, .inl ((m : Nat) : Int)), (4, .inl ((h : Nat) : Int))] [.inl 1] (tl_set w 0 (34 * t + r) ((m : Nat) : Int)) (fun _ h => h) ?_
        exact tl_reti rfl rfl (rfl) (hQ _ ⟨tm_M_RM hR _ m, by rw [tl_set_o (by decide)]⟩)
