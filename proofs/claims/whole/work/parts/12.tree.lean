/-! 12.tree: the class's questions on the tree of resources, printed by a3.py -/
theorem tm_pn_lt {r : Nat} (h : r ≠ 0) : tm_pn r < r := by
  unfold tm_pn
  (repeat' split) <;> omega
theorem tm_pI_p {r : Nat} (h : r ≠ 0) : tm_pI r = (tm_pn r : Int) := by
  unfold tm_pI
  exact if_neg h
theorem tm_pI_0 : tm_pI 0 = -1 := rfl
theorem tm_an_s (n r : Nat) : tm_an (n + 1) r = if r = 0 then [] else tm_pn r :: tm_an n (tm_pn r) := rfl
def tm_rfa (M : Nat → Nat) (t : Nat) (l : List Nat) (a : Nat) : Nat := l.foldl (fun a p => max a (tm_rt (M (34 * t + p)))) a
def tm_hc (M : Nat → Nat) (t r : Nat) : Bool := (List.range 34).any (fun c => decide (tm_pI c = (r : Int)) && decide (M (34 * t + c) ≠ 0))
def tm_cb (M : Nat → Nat) (t r i : Nat) : Nat := (List.range i).countP (fun c => tm_bl c r && decide (M (34 * t + c) ≠ 0))
def tm_wr (m : Nat) : Bool := m == 2 || (m == 4 || m == 5)
def tm_ww (M : Nat → Nat) (t r : Nat) : Bool := (List.range 34).any (fun c => (c == r || tm_bl c r) && tm_wr (M (34 * t + c)))
theorem tm_wr_c : ∀ m, m < 6 → (tm_jn m 2 = m ↔ tm_wr m = true) := by decide +kernel
theorem tm_bl_lt : ∀ c, c < 34 → ∀ r, r < 34 → tm_bl c r = true → r < c := by decide +kernel
theorem tm_any_t {p : Nat → Bool} {i n : Nat} (hi : i < n) (h : p i = true) : (List.range n).any p = true := List.any_eq_true.mpr ⟨i, List.mem_range.mpr hi, h⟩
theorem tm_any_f {p : Nat → Bool} {n : Nat} (h : ∀ i, i < n → p i = false) : (List.range n).any p = false := by
  rw [← Bool.not_eq_true, List.any_eq_true]
  rintro ⟨i, hi, hp⟩
  rw [h i (List.mem_range.mp hi)] at hp
  cases hp

theorem ta_bl (d : Nat) (low r : Nat) (hl : low < 34) (hr : r < 34) (w : tl_W) : tl_Ev ta_P (d + 2) 18 [.inl ((low : Nat) : Int), .inl ((r : Nat) : Int)] w (.inl (some (tm_b (decide (tm_bl low r = true))))) w := by
  refine tl_start fun Q hQ => ?_
  refine tl_go 1 1 [(0, .inl ((low : Nat) : Int)), (1, .inl ((r : Nat) : Int))] [.inl ((low : Nat) : Int)] w (fun _ h => h) ?_
  refine tl_callS (as := [.inl ((low : Nat) : Int)]) (rest := []) (v := some (tm_pI low)) (w' := w) rfl rfl rfl rfl (ta_par d low hl w) (Nat.le_of_ble_eq_true rfl) rfl rfl (Nat.le_of_ble_eq_true rfl) ?_
  refine tl_go 3 7 [(0, .inl ((low : Nat) : Int)), (1, .inl ((r : Nat) : Int)), (2, .inl (tm_pI low)), (3, .inl 0)] [] w (fun _ h => h) ?_
  have loop : ∀ n lev cur : Nat, lev + n = 3 → cur < 34 → tm_bl low r = (tm_an n cur).contains r → tl_E ta_P (d + 1) 18 7 [(0, .inl (low : Int)), (1, .inl (r : Int)), (2, .inl (tm_pI cur)), (3, .inl (lev : Int))] [] w Q := by
    intro n
    induction n with
    | zero =>
      intro lev cur hi hcur hq
      refine tl_go 2 9 [(0, .inl ((low : Nat) : Int)), (1, .inl ((r : Nat) : Int)), (2, .inl (tm_pI cur)), (3, .inl ((lev : Nat) : Int))] [.inl 3, .inl ((lev : Nat) : Int)] w (fun _ h => h) ?_
      refine tl_ift (3 ≤ ((lev : Nat) : Int)) 35 12 [(0, .inl ((low : Nat) : Int)), (1, .inl ((r : Nat) : Int)), (2, .inl (tm_pI cur)), (3, .inl ((lev : Nat) : Int))] [] (fun _ h => h) (by omega) ?_
      refine tl_go 1 36 [(0, .inl ((low : Nat) : Int)), (1, .inl ((r : Nat) : Int)), (2, .inl (tm_pI cur)), (3, .inl ((lev : Nat) : Int))] [.inl 0] w (fun _ h => h) ?_
      exact tl_retz rfl rfl (tm_b0 (decide_eq_false (by rw [hq]; simp [tm_an]))) (hQ)
    | succ n ih =>
      intro lev cur hi hcur hq
      refine tl_go 2 9 [(0, .inl ((low : Nat) : Int)), (1, .inl ((r : Nat) : Int)), (2, .inl (tm_pI cur)), (3, .inl ((lev : Nat) : Int))] [.inl 3, .inl ((lev : Nat) : Int)] w (fun _ h => h) ?_
      refine tl_iff (3 ≤ ((lev : Nat) : Int)) 35 12 [(0, .inl ((low : Nat) : Int)), (1, .inl ((r : Nat) : Int)), (2, .inl (tm_pI cur)), (3, .inl ((lev : Nat) : Int))] [] (fun _ h => h) (by omega) ?_
      refine tl_go 2 14 [(0, .inl ((low : Nat) : Int)), (1, .inl ((r : Nat) : Int)), (2, .inl (tm_pI cur)), (3, .inl ((lev : Nat) : Int))] [.inl (-1), .inl (tm_pI cur)] w (fun _ h => h) ?_
      refine tl_if ((tm_pI cur) = (-1)) 35 17 [(0, .inl ((low : Nat) : Int)), (1, .inl ((r : Nat) : Int)), (2, .inl (tm_pI cur)), (3, .inl ((lev : Nat) : Int))] [] (fun _ h => h) (fun hc => ?_) (fun hc => ?_)
      · have h0 : cur = 0 := by unfold tm_pI at hc; split at hc <;> omega
        refine tl_go 1 36 [(0, .inl ((low : Nat) : Int)), (1, .inl ((r : Nat) : Int)), (2, .inl (tm_pI cur)), (3, .inl ((lev : Nat) : Int))] [.inl 0] w (fun _ h => h) ?_
        exact tl_retz rfl rfl (tm_b0 (decide_eq_false (by rw [hq, h0]; simp [tm_an]))) (hQ)
      · have h0 : cur ≠ 0 := fun e => hc (by rw [e]; rfl)
        have hlt := tm_pn_lt h0
        refine tl_loc (L' := [(0, .inl ((low : Nat) : Int)), (1, .inl ((r : Nat) : Int)), (2, .inl ((tm_pn cur : Nat) : Int)), (3, .inl ((lev : Nat) : Int))]) (by rw [tm_pI_p h0]) ?_
        refine tl_go 2 19 [(0, .inl ((low : Nat) : Int)), (1, .inl ((r : Nat) : Int)), (2, .inl ((tm_pn cur : Nat) : Int)), (3, .inl ((lev : Nat) : Int))] [.inl ((r : Nat) : Int), .inl ((tm_pn cur : Nat) : Int)] w (fun _ h => h) ?_
        refine tl_if (¬ ((tm_pn cur : Nat) : Int) = ((r : Nat) : Int)) 24 22 [(0, .inl ((low : Nat) : Int)), (1, .inl ((r : Nat) : Int)), (2, .inl ((tm_pn cur : Nat) : Int)), (3, .inl ((lev : Nat) : Int))] [] (fun _ h => h) (fun hg => ?_) (fun hg => ?_)
        · refine tl_go 1 25 [(0, .inl ((low : Nat) : Int)), (1, .inl ((r : Nat) : Int)), (2, .inl ((tm_pn cur : Nat) : Int)), (3, .inl ((lev : Nat) : Int))] [.inl ((tm_pn cur : Nat) : Int)] w (fun _ h => h) ?_
          refine tl_callS (as := [.inl ((tm_pn cur : Nat) : Int)]) (rest := []) (v := some (tm_pI (tm_pn cur))) (w' := w) rfl rfl rfl rfl (ta_par d (tm_pn cur) (by omega) w) (Nat.le_of_ble_eq_true rfl) rfl rfl (Nat.le_of_ble_eq_true rfl) ?_
          refine tl_go 3 7 [(0, .inl ((low : Nat) : Int)), (1, .inl ((r : Nat) : Int)), (2, .inl (tm_pI (tm_pn cur))), (3, .inl (((lev : Nat) : Int) + 1))] [] w (fun _ h => And.intro (by omega) h) ?_
          refine ih (lev + 1) (tm_pn cur) (by omega) (by omega) ?_
          have hne : (r == tm_pn cur) = false := by simp; omega
          rw [hq, tm_an_s, if_neg h0, List.contains_cons, hne, Bool.false_or]
        · refine tl_go 1 23 [(0, .inl ((low : Nat) : Int)), (1, .inl ((r : Nat) : Int)), (2, .inl ((tm_pn cur : Nat) : Int)), (3, .inl ((lev : Nat) : Int))] [.inl 1] w (fun _ h => h) ?_
          have hne : (r == tm_pn cur) = true := by simp; omega
          exact tl_retz rfl rfl (tm_b1 (decide_eq_true (by rw [hq]; unfold tm_an; rw [if_neg h0, List.contains_cons, hne]; rfl))) (hQ)
  exact loop 3 0 low rfl hl rfl
theorem ta_rfa (d : Nat) (t r : Nat) (ht : t < 8) (hr : r < 34) {M : Nat → Nat} (w : tl_W) (hM : ∀ i, i < 272 → w 0 i = (M i : Int)) (hM5 : ∀ i, i < 272 → M i ≤ 5) : tl_Ev ta_P (d + 2) 30 [.inr 0, .inl ((t : Nat) : Int), .inl ((r : Nat) : Int)] w (.inl (some ((tm_rfa M t (tm_an 3 r) 0 : Nat) : Int))) w := by
  refine tl_start fun Q hQ => ?_
  refine tl_go 3 3 [(0, .inr 0), (1, .inl ((t : Nat) : Int)), (2, .inl ((r : Nat) : Int)), (3, .inl 0)] [.inl ((r : Nat) : Int)] w (fun _ h => h) ?_
  refine tl_callS (as := [.inl ((r : Nat) : Int)]) (rest := []) (v := some (tm_pI r)) (w' := w) rfl rfl rfl rfl (ta_par d r hr w) (Nat.le_of_ble_eq_true rfl) rfl rfl (Nat.le_of_ble_eq_true rfl) ?_
  refine tl_go 3 11 [(0, .inr 0), (1, .inl ((t : Nat) : Int)), (2, .inl ((r : Nat) : Int)), (3, .inl 0), (4, .inl (tm_pI r)), (5, .inl 0)] [] w (fun _ h => h) ?_
  have loop : ∀ n lev cur acc : Nat, lev + n = 3 → cur < 34 → acc ≤ 2 → tm_rfa M t (tm_an 3 r) 0 = tm_rfa M t (tm_an n cur) acc → tl_E ta_P (d + 1) 30 11 [(0, .inr 0), (1, .inl (t : Int)), (2, .inl (r : Int)), (3, .inl (acc : Int)), (4, .inl (tm_pI cur)), (5, .inl (lev : Int))] [] w Q := by
    intro n
    induction n with
    | zero =>
      intro lev cur acc hi hcur ha hq
      refine tl_go 2 14 [(0, .inr 0), (1, .inl ((t : Nat) : Int)), (2, .inl ((r : Nat) : Int)), (3, .inl ((acc : Nat) : Int)), (4, .inl (tm_pI cur)), (5, .inl ((lev : Nat) : Int))] [.inl 3, .inl ((lev : Nat) : Int)] w (fun _ h => h) ?_
      refine tl_ift (3 ≤ ((lev : Nat) : Int)) 51 17 [(0, .inr 0), (1, .inl ((t : Nat) : Int)), (2, .inl ((r : Nat) : Int)), (3, .inl ((acc : Nat) : Int)), (4, .inl (tm_pI cur)), (5, .inl ((lev : Nat) : Int))] [] (fun _ h => h) (by omega) ?_
      refine tl_go 1 52 [(0, .inr 0), (1, .inl ((t : Nat) : Int)), (2, .inl ((r : Nat) : Int)), (3, .inl ((acc : Nat) : Int)), (4, .inl (tm_pI cur)), (5, .inl ((lev : Nat) : Int))] [.inl ((acc : Nat) : Int)] w (fun _ h => h) ?_
      exact tl_reti rfl rfl (by rw [hq]; rfl) (hQ)
    | succ n ih =>
      intro lev cur acc hi hcur ha hq
      refine tl_go 2 14 [(0, .inr 0), (1, .inl ((t : Nat) : Int)), (2, .inl ((r : Nat) : Int)), (3, .inl ((acc : Nat) : Int)), (4, .inl (tm_pI cur)), (5, .inl ((lev : Nat) : Int))] [.inl 3, .inl ((lev : Nat) : Int)] w (fun _ h => h) ?_
      refine tl_iff (3 ≤ ((lev : Nat) : Int)) 51 17 [(0, .inr 0), (1, .inl ((t : Nat) : Int)), (2, .inl ((r : Nat) : Int)), (3, .inl ((acc : Nat) : Int)), (4, .inl (tm_pI cur)), (5, .inl ((lev : Nat) : Int))] [] (fun _ h => h) (by omega) ?_
      refine tl_go 2 20 [(0, .inr 0), (1, .inl ((t : Nat) : Int)), (2, .inl ((r : Nat) : Int)), (3, .inl ((acc : Nat) : Int)), (4, .inl (tm_pI cur)), (5, .inl ((lev : Nat) : Int))] [.inl (-1), .inl (tm_pI cur)] w (fun _ h => h) ?_
      refine tl_if ((tm_pI cur) = (-1)) 51 23 [(0, .inr 0), (1, .inl ((t : Nat) : Int)), (2, .inl ((r : Nat) : Int)), (3, .inl ((acc : Nat) : Int)), (4, .inl (tm_pI cur)), (5, .inl ((lev : Nat) : Int))] [] (fun _ h => h) (fun hc => ?_) (fun hc => ?_)
      · have h0 : cur = 0 := by unfold tm_pI at hc; split at hc <;> omega
        refine tl_go 1 52 [(0, .inr 0), (1, .inl ((t : Nat) : Int)), (2, .inl ((r : Nat) : Int)), (3, .inl ((acc : Nat) : Int)), (4, .inl (tm_pI cur)), (5, .inl ((lev : Nat) : Int))] [.inl ((acc : Nat) : Int)] w (fun _ h => h) ?_
        exact tl_reti rfl rfl (by rw [hq, h0]; rfl) (hQ)
      · have h0 : cur ≠ 0 := fun e => hc (by rw [e]; rfl)
        have hlt := tm_pn_lt h0
        refine tl_loc (L' := [(0, .inr 0), (1, .inl ((t : Nat) : Int)), (2, .inl ((r : Nat) : Int)), (3, .inl ((acc : Nat) : Int)), (4, .inl ((tm_pn cur : Nat) : Int)), (5, .inl ((lev : Nat) : Int))]) (by rw [tm_pI_p h0]) ?_
        refine tl_go 4 28 [(0, .inr 0), (1, .inl ((t : Nat) : Int)), (2, .inl ((r : Nat) : Int)), (3, .inl ((acc : Nat) : Int)), (4, .inl ((tm_pn cur : Nat) : Int)), (5, .inl ((lev : Nat) : Int))] [.inl ((tm_pn cur : Nat) : Int), .inl ((t : Nat) : Int), .inr 0, .inl ((acc : Nat) : Int)] w (fun _ h => h) ?_
        refine tl_callV (as := [.inr 0, .inl ((t : Nat) : Int), .inl ((tm_pn cur : Nat) : Int)]) (rest := [.inl ((acc : Nat) : Int)]) (v := some ((M (34 * t + tm_pn cur) : Nat) : Int)) (w' := w) rfl rfl (ta_mo d t (tm_pn cur) ht (by omega) w (hM _ (by omega))) (Nat.le_of_ble_eq_true rfl) rfl rfl rfl (Nat.le_of_ble_eq_true rfl) ?_
        refine tl_callS (as := [.inl ((M (34 * t + tm_pn cur) : Nat) : Int)]) (rest := [.inl ((acc : Nat) : Int)]) (v := some ((tm_rt (M (34 * t + tm_pn cur)) : Nat) : Int)) (w' := w) rfl rfl rfl rfl (ta_rt d (M (34 * t + tm_pn cur)) w) (Nat.le_of_ble_eq_true rfl) rfl rfl (Nat.le_of_ble_eq_true rfl) ?_
        refine tl_go 1 37 [(0, .inr 0), (1, .inl ((t : Nat) : Int)), (2, .inl ((r : Nat) : Int)), (3, .inl ((acc : Nat) : Int)), (4, .inl ((tm_pn cur : Nat) : Int)), (5, .inl ((lev : Nat) : Int))] [.inl (max ((acc : Nat) : Int) ((tm_rt (M (34 * t + tm_pn cur)) : Nat) : Int))] w (fun _ h => And.intro (Nat.le_of_ble_eq_true rfl) h) ?_
        refine tl_top (y := ((max acc (tm_rt (M (34 * t + tm_pn cur))) : Nat) : Int)) (by omega) ?_
        refine tl_go 2 40 [(0, .inr 0), (1, .inl ((t : Nat) : Int)), (2, .inl ((r : Nat) : Int)), (3, .inl ((max acc (tm_rt (M (34 * t + tm_pn cur))) : Nat) : Int)), (4, .inl ((tm_pn cur : Nat) : Int)), (5, .inl ((lev : Nat) : Int))] [.inl ((tm_pn cur : Nat) : Int)] w (fun _ h => h) ?_
        refine tl_callS (as := [.inl ((tm_pn cur : Nat) : Int)]) (rest := []) (v := some (tm_pI (tm_pn cur))) (w' := w) rfl rfl rfl rfl (ta_par d (tm_pn cur) (by omega) w) (Nat.le_of_ble_eq_true rfl) rfl rfl (Nat.le_of_ble_eq_true rfl) ?_
        refine tl_go 3 11 [(0, .inr 0), (1, .inl ((t : Nat) : Int)), (2, .inl ((r : Nat) : Int)), (3, .inl ((max acc (tm_rt (M (34 * t + tm_pn cur))) : Nat) : Int)), (4, .inl (tm_pI (tm_pn cur))), (5, .inl (((lev : Nat) : Int) + 1))] [] w (fun _ h => And.intro (by omega) h) ?_
        refine ih (lev + 1) (tm_pn cur) _ (by omega) (by omega) ?_ ?_
        · have : tm_rt (M (34 * t + tm_pn cur)) ≤ 2 := by unfold tm_rt; (repeat' split) <;> omega
          omega
        · rw [hq]
          show tm_rfa M t (if cur = 0 then [] else tm_pn cur :: tm_an n (tm_pn cur)) acc = _
          rw [if_neg h0]
          rfl
  exact loop 3 0 r 0 rfl hr (by omega) rfl
theorem ta_hc (d : Nat) (t r : Nat) (ht : t < 8) (hr : r < 34) {M : Nat → Nat} (w : tl_W) (hM : ∀ i, i < 272 → w 0 i = (M i : Int)) (hM5 : ∀ i, i < 272 → M i ≤ 5) : tl_Ev ta_P (d + 3) 28 [.inr 0, .inl ((t : Nat) : Int), .inl ((r : Nat) : Int)] w (.inl (some (tm_b (decide (tm_hc M t r = true))))) w := by
  refine tl_start fun Q hQ => ?_
  refine tl_go 4 4 [(0, .inr 0), (1, .inl ((t : Nat) : Int)), (2, .inl ((r : Nat) : Int)), (3, .inl (((r : Nat) : Int) + 1))] [] w (fun _ h => And.intro (by omega) h) ?_
  have loop : ∀ k i : Nat, i + k = 34 → (∀ c, c < i → ¬ (tm_pI c = (r : Int) ∧ M (34 * t + c) ≠ 0)) → tl_E ta_P (d + 2) 28 4 [(0, .inr 0), (1, .inl (t : Int)), (2, .inl (r : Int)), (3, .inl (i : Int))] [] w Q := by
    intro k
    induction k with
    | zero =>
      intro i hi hall
      refine tl_go 2 7 [(0, .inr 0), (1, .inl ((t : Nat) : Int)), (2, .inl ((r : Nat) : Int)), (3, .inl ((i : Nat) : Int))] [.inl 34, .inl ((i : Nat) : Int)] w (fun _ h => h) ?_
      refine tl_ift (34 ≤ ((i : Nat) : Int)) 35 10 [(0, .inr 0), (1, .inl ((t : Nat) : Int)), (2, .inl ((r : Nat) : Int)), (3, .inl ((i : Nat) : Int))] [] (fun _ h => h) (by omega) ?_
      refine tl_go 1 36 [(0, .inr 0), (1, .inl ((t : Nat) : Int)), (2, .inl ((r : Nat) : Int)), (3, .inl ((i : Nat) : Int))] [.inl 0] w (fun _ h => h) ?_
      exact tl_retz rfl rfl (tm_b0 (decide_eq_false (by unfold tm_hc; rw [tm_any_f (fun c hc => by rw [← Bool.not_eq_true, Bool.and_eq_true, decide_eq_true_eq, decide_eq_true_eq]; exact hall c (by omega))]; decide))) (hQ)
    | succ k ih =>
      intro i hi hall
      refine tl_go 2 7 [(0, .inr 0), (1, .inl ((t : Nat) : Int)), (2, .inl ((r : Nat) : Int)), (3, .inl ((i : Nat) : Int))] [.inl 34, .inl ((i : Nat) : Int)] w (fun _ h => h) ?_
      refine tl_iff (34 ≤ ((i : Nat) : Int)) 35 10 [(0, .inr 0), (1, .inl ((t : Nat) : Int)), (2, .inl ((r : Nat) : Int)), (3, .inl ((i : Nat) : Int))] [] (fun _ h => h) (by omega) ?_
      refine tl_go 1 11 [(0, .inr 0), (1, .inl ((t : Nat) : Int)), (2, .inl ((r : Nat) : Int)), (3, .inl ((i : Nat) : Int))] [.inl ((i : Nat) : Int)] w (fun _ h => h) ?_
      refine tl_callS (as := [.inl ((i : Nat) : Int)]) (rest := []) (v := some (tm_pI i)) (w' := w) rfl rfl rfl rfl (ta_par (d + 1) i (by omega) w) (Nat.le_of_ble_eq_true rfl) rfl rfl (Nat.le_of_ble_eq_true rfl) ?_
      refine tl_go 1 15 [(0, .inr 0), (1, .inl ((t : Nat) : Int)), (2, .inl ((r : Nat) : Int)), (3, .inl ((i : Nat) : Int))] [.inl ((r : Nat) : Int), .inl (tm_pI i)] w (fun _ h => h) ?_
      refine tl_if (¬ (tm_pI i) = ((r : Nat) : Int)) 29 18 [(0, .inr 0), (1, .inl ((t : Nat) : Int)), (2, .inl ((r : Nat) : Int)), (3, .inl ((i : Nat) : Int))] [] (fun _ h => h) (fun hc => ?_) (fun hc => ?_)
      · refine tl_go 2 4 [(0, .inr 0), (1, .inl ((t : Nat) : Int)), (2, .inl ((r : Nat) : Int)), (3, .inl (((i : Nat) : Int) + 1))] [] w (fun _ h => And.intro (by omega) h) ?_
        refine ih (i + 1) (by omega) (fun c hc9 => ?_)
        by_cases e : c = i
        · rw [e]; exact fun q => hc q.1
        · exact hall c (by omega)
      · refine tl_go 3 21 [(0, .inr 0), (1, .inl ((t : Nat) : Int)), (2, .inl ((r : Nat) : Int)), (3, .inl ((i : Nat) : Int))] [.inl ((i : Nat) : Int), .inl ((t : Nat) : Int), .inr 0] w (fun _ h => h) ?_
        refine tl_callV (as := [.inr 0, .inl ((t : Nat) : Int), .inl ((i : Nat) : Int)]) (rest := []) (v := some (tm_b (decide (M (34 * t + i) ≠ 0)))) (w' := w) rfl rfl (ta_ih d t i ht (by omega) w (hM _ (by omega))) (Nat.le_of_ble_eq_true rfl) rfl rfl rfl (Nat.le_of_ble_eq_true rfl) ?_
        refine tl_if ((tm_b (decide (M (34 * t + i) ≠ 0))) = 0) 29 27 [(0, .inr 0), (1, .inl ((t : Nat) : Int)), (2, .inl ((r : Nat) : Int)), (3, .inl ((i : Nat) : Int))] [] (fun _ h => h) (fun hg => ?_) (fun hg => ?_)
        · have hg := of_decide_eq_false (tm_beq hg)
          refine tl_go 2 4 [(0, .inr 0), (1, .inl ((t : Nat) : Int)), (2, .inl ((r : Nat) : Int)), (3, .inl (((i : Nat) : Int) + 1))] [] w (fun _ h => And.intro (by omega) h) ?_
          refine ih (i + 1) (by omega) (fun c hc9 => ?_)
          by_cases e : c = i
          · rw [e]; exact fun q => hg q.2
          · exact hall c (by omega)
        · have hg := of_decide_eq_true (tm_bne hg)
          refine tl_go 1 28 [(0, .inr 0), (1, .inl ((t : Nat) : Int)), (2, .inl ((r : Nat) : Int)), (3, .inl ((i : Nat) : Int))] [.inl 1] w (fun _ h => h) ?_
          exact tl_retz rfl rfl (tm_b1 (decide_eq_true (tm_any_t (i := i) (by omega) (by rw [Bool.and_eq_true, decide_eq_true_eq, decide_eq_true_eq]; exact ⟨Classical.not_not.mp hc, hg⟩)))) (hQ)
  refine loop (33 - r) (r + 1) (by omega) (fun c hc q => ?_)
  have h1 := q.1
  by_cases h0 : c = 0
  · rw [h0] at h1; unfold tm_pI at h1; simp at h1
  · rw [tm_pI_p h0] at h1; have := tm_pn_lt h0; omega
theorem tm_cb_s (M : Nat → Nat) (t r i : Nat) : tm_cb M t r (i + 1) = tm_cb M t r i + (if tm_bl i r = true ∧ M (34 * t + i) ≠ 0 then 1 else 0) := by
  unfold tm_cb
  rw [List.range_succ, List.countP_append, List.countP_singleton]
  by_cases h : tm_bl i r = true ∧ M (34 * t + i) ≠ 0
  · rw [if_pos h, if_pos (by rw [Bool.and_eq_true, decide_eq_true_eq]; exact h)]
  · rw [if_neg h, if_neg (by rw [Bool.and_eq_true, decide_eq_true_eq]; exact h)]
theorem tm_cb_0 (M : Nat → Nat) (t : Nat) {r : Nat} (hr : r < 34) : ∀ i, i ≤ r + 1 → tm_cb M t r i = 0 := by
  intro i
  induction i with
  | zero => exact fun _ => rfl
  | succ i ih =>
    intro hi
    rw [tm_cb_s, ih (by omega), if_neg]
    rintro ⟨h1, _⟩
    have := tm_bl_lt i (by omega) r hr h1
    omega
theorem tm_cb_le (M : Nat → Nat) (t r : Nat) : ∀ i, tm_cb M t r i ≤ i := by
  intro i
  unfold tm_cb
  exact Nat.le_trans (List.countP_le_length) (by rw [List.length_range]; exact Nat.le_refl _)

theorem ta_cb (d : Nat) (t r : Nat) (ht : t < 8) (hr : r < 34) {M : Nat → Nat} (w : tl_W) (hM : ∀ i, i < 272 → w 0 i = (M i : Int)) (hM5 : ∀ i, i < 272 → M i ≤ 5) : tl_Ev ta_P (d + 3) 47 [.inr 0, .inl ((t : Nat) : Int), .inl ((r : Nat) : Int)] w (.inl (some ((tm_cb M t r 34 : Nat) : Int))) w := by
  refine tl_start fun Q hQ => ?_
  refine tl_go 6 7 [(0, .inr 0), (1, .inl ((t : Nat) : Int)), (2, .inl ((r : Nat) : Int)), (3, .inl 0), (4, .inl (((r : Nat) : Int) + 1))] [] w (fun _ h => And.intro (by omega) h) ?_
  have loop : ∀ k i : Nat, i + k = 34 → tl_E ta_P (d + 2) 47 7 [(0, .inr 0), (1, .inl (t : Int)), (2, .inl (r : Int)), (3, .inl ((tm_cb M t r i : Nat) : Int)), (4, .inl (i : Int))] [] w Q := by
    intro k
    induction k with
    | zero =>
      intro i hi
      refine tl_go 2 11 [(0, .inr 0), (1, .inl ((t : Nat) : Int)), (2, .inl ((r : Nat) : Int)), (3, .inl ((tm_cb M t r i : Nat) : Int)), (4, .inl ((i : Nat) : Int))] [.inl 34, .inl ((i : Nat) : Int)] w (fun _ h => h) ?_
      refine tl_ift (34 ≤ ((i : Nat) : Int)) 42 14 [(0, .inr 0), (1, .inl ((t : Nat) : Int)), (2, .inl ((r : Nat) : Int)), (3, .inl ((tm_cb M t r i : Nat) : Int)), (4, .inl ((i : Nat) : Int))] [] (fun _ h => h) (by omega) ?_
      refine tl_go 1 43 [(0, .inr 0), (1, .inl ((t : Nat) : Int)), (2, .inl ((r : Nat) : Int)), (3, .inl ((tm_cb M t r i : Nat) : Int)), (4, .inl ((i : Nat) : Int))] [.inl ((tm_cb M t r i : Nat) : Int)] w (fun _ h => h) ?_
      exact tl_reti rfl rfl (by rw [show i = 34 by omega]) (hQ)
    | succ k ih =>
      intro i hi
      have hle := tm_cb_le M t r i
      refine tl_go 2 11 [(0, .inr 0), (1, .inl ((t : Nat) : Int)), (2, .inl ((r : Nat) : Int)), (3, .inl ((tm_cb M t r i : Nat) : Int)), (4, .inl ((i : Nat) : Int))] [.inl 34, .inl ((i : Nat) : Int)] w (fun _ h => h) ?_
      refine tl_iff (34 ≤ ((i : Nat) : Int)) 42 14 [(0, .inr 0), (1, .inl ((t : Nat) : Int)), (2, .inl ((r : Nat) : Int)), (3, .inl ((tm_cb M t r i : Nat) : Int)), (4, .inl ((i : Nat) : Int))] [] (fun _ h => h) (by omega) ?_
      refine tl_go 2 17 [(0, .inr 0), (1, .inl ((t : Nat) : Int)), (2, .inl ((r : Nat) : Int)), (3, .inl ((tm_cb M t r i : Nat) : Int)), (4, .inl ((i : Nat) : Int))] [.inl ((r : Nat) : Int), .inl ((i : Nat) : Int)] w (fun _ h => h) ?_
      refine tl_callS (as := [.inl ((i : Nat) : Int), .inl ((r : Nat) : Int)]) (rest := []) (v := some (tm_b (decide (tm_bl i r = true)))) (w' := w) rfl rfl rfl rfl (ta_bl d i r (by omega) hr w) (Nat.le_of_ble_eq_true rfl) rfl rfl (Nat.le_of_ble_eq_true rfl) ?_
      refine tl_if ((tm_b (decide (tm_bl i r = true))) = 0) 36 23 [(0, .inr 0), (1, .inl ((t : Nat) : Int)), (2, .inl ((r : Nat) : Int)), (3, .inl ((tm_cb M t r i : Nat) : Int)), (4, .inl ((i : Nat) : Int))] [] (fun _ h => h) (fun hc => ?_) (fun hc => ?_)
      · have hc := of_decide_eq_false (tm_beq hc)
        have e1 : tm_cb M t r (i + 1) = tm_cb M t r i + 0 := by rw [tm_cb_s, if_neg (fun q => hc q.1)]
        refine tl_go 2 7 [(0, .inr 0), (1, .inl ((t : Nat) : Int)), (2, .inl ((r : Nat) : Int)), (3, .inl ((tm_cb M t r i : Nat) : Int)), (4, .inl (((i : Nat) : Int) + 1))] [] w (fun _ h => And.intro (by omega) h) ?_
        have h9 := ih (i + 1) (by omega)
        rw [e1] at h9
        exact h9
      · have hc := of_decide_eq_true (tm_bne hc)
        refine tl_go 3 27 [(0, .inr 0), (1, .inl ((t : Nat) : Int)), (2, .inl ((r : Nat) : Int)), (3, .inl ((tm_cb M t r i : Nat) : Int)), (4, .inl ((i : Nat) : Int))] [.inl ((i : Nat) : Int), .inl ((t : Nat) : Int), .inr 0] w (fun _ h => h) ?_
        refine tl_callV (as := [.inr 0, .inl ((t : Nat) : Int), .inl ((i : Nat) : Int)]) (rest := []) (v := some (tm_b (decide (M (34 * t + i) ≠ 0)))) (w' := w) rfl rfl (ta_ih d t i ht (by omega) w (hM _ (by omega))) (Nat.le_of_ble_eq_true rfl) rfl rfl rfl (Nat.le_of_ble_eq_true rfl) ?_
        refine tl_if ((tm_b (decide (M (34 * t + i) ≠ 0))) = 0) 36 33 [(0, .inr 0), (1, .inl ((t : Nat) : Int)), (2, .inl ((r : Nat) : Int)), (3, .inl ((tm_cb M t r i : Nat) : Int)), (4, .inl ((i : Nat) : Int))] [] (fun _ h => h) (fun hg => ?_) (fun hg => ?_)
        · have hg := of_decide_eq_false (tm_beq hg)
          have e1 : tm_cb M t r (i + 1) = tm_cb M t r i + 0 := by rw [tm_cb_s, if_neg (fun q => hg q.2)]
          refine tl_go 2 7 [(0, .inr 0), (1, .inl ((t : Nat) : Int)), (2, .inl ((r : Nat) : Int)), (3, .inl ((tm_cb M t r i : Nat) : Int)), (4, .inl (((i : Nat) : Int) + 1))] [] w (fun _ h => And.intro (by omega) h) ?_
          have h9 := ih (i + 1) (by omega)
          rw [e1] at h9
          exact h9
        · have hg := of_decide_eq_true (tm_bne hg)
          have e1 : tm_cb M t r (i + 1) = tm_cb M t r i + 1 := by rw [tm_cb_s, if_pos (⟨hc, hg⟩)]
          refine tl_go 3 7 [(0, .inr 0), (1, .inl ((t : Nat) : Int)), (2, .inl ((r : Nat) : Int)), (3, .inl (((tm_cb M t r i : Nat) : Int) + 1)), (4, .inl (((i : Nat) : Int) + 1))] [] w (fun _ h => And.intro (by omega) (And.intro (by omega) h)) ?_
          have h9 := ih (i + 1) (by omega)
          rw [e1] at h9
          exact h9
  have h9 := loop (33 - r) (r + 1) (by omega)
  rw [tm_cb_0 M t hr (r + 1) (Nat.le_refl _)] at h9
  exact h9
theorem ta_ww (d : Nat) (t r : Nat) (ht : t < 8) (hr : r < 34) {M : Nat → Nat} (w : tl_W) (hM : ∀ i, i < 272 → w 0 i = (M i : Int)) (hM5 : ∀ i, i < 272 → M i ≤ 5) : tl_Ev ta_P (d + 3) 48 [.inr 0, .inl ((t : Nat) : Int), .inl ((r : Nat) : Int)] w (.inl (some (tm_b (decide (tm_ww M t r = true))))) w := by
  refine tl_start fun Q hQ => ?_
  refine tl_go 2 2 [(0, .inr 0), (1, .inl ((t : Nat) : Int)), (2, .inl ((r : Nat) : Int)), (3, .inl ((r : Nat) : Int))] [] w (fun _ h => h) ?_
  have loop : ∀ k i : Nat, i + k = 34 → (∀ c, c < i → ¬ ((c = r ∨ tm_bl c r = true) ∧ tm_wr (M (34 * t + c)) = true)) → tl_E ta_P (d + 2) 48 2 [(0, .inr 0), (1, .inl (t : Int)), (2, .inl (r : Int)), (3, .inl (i : Int))] [] w Q := by
    intro k
    induction k with
    | zero =>
      intro i hi hall
      refine tl_go 2 5 [(0, .inr 0), (1, .inl ((t : Nat) : Int)), (2, .inl ((r : Nat) : Int)), (3, .inl ((i : Nat) : Int))] [.inl 34, .inl ((i : Nat) : Int)] w (fun _ h => h) ?_
      refine tl_ift (34 ≤ ((i : Nat) : Int)) 42 8 [(0, .inr 0), (1, .inl ((t : Nat) : Int)), (2, .inl ((r : Nat) : Int)), (3, .inl ((i : Nat) : Int))] [] (fun _ h => h) (by omega) ?_
      refine tl_go 1 43 [(0, .inr 0), (1, .inl ((t : Nat) : Int)), (2, .inl ((r : Nat) : Int)), (3, .inl ((i : Nat) : Int))] [.inl 0] w (fun _ h => h) ?_
      exact tl_retz rfl rfl (tm_b0 (decide_eq_false (by unfold tm_ww; rw [tm_any_f (fun c hc => by rw [← Bool.not_eq_true, Bool.and_eq_true, Bool.or_eq_true, beq_iff_eq]; exact hall c (by omega))]; decide))) (hQ)
    | succ k ih =>
      intro i hi hall
      have hwr := tm_wr_c (M (34 * t + i)) (by have := hM5 (34 * t + i) (by omega); omega)
      refine tl_go 2 5 [(0, .inr 0), (1, .inl ((t : Nat) : Int)), (2, .inl ((r : Nat) : Int)), (3, .inl ((i : Nat) : Int))] [.inl 34, .inl ((i : Nat) : Int)] w (fun _ h => h) ?_
      refine tl_iff (34 ≤ ((i : Nat) : Int)) 42 8 [(0, .inr 0), (1, .inl ((t : Nat) : Int)), (2, .inl ((r : Nat) : Int)), (3, .inl ((i : Nat) : Int))] [] (fun _ h => h) (by omega) ?_
      refine tl_go 2 10 [(0, .inr 0), (1, .inl ((t : Nat) : Int)), (2, .inl ((r : Nat) : Int)), (3, .inl ((i : Nat) : Int))] [.inl ((r : Nat) : Int), .inl ((i : Nat) : Int)] w (fun _ h => h) ?_
      refine tl_if (((i : Nat) : Int) = ((r : Nat) : Int)) 21 13 [(0, .inr 0), (1, .inl ((t : Nat) : Int)), (2, .inl ((r : Nat) : Int)), (3, .inl ((i : Nat) : Int))] [] (fun _ h => h) (fun hc => ?_) (fun hc => ?_)
      · have hc : i = r := by omega
        refine tl_go 3 24 [(0, .inr 0), (1, .inl ((t : Nat) : Int)), (2, .inl ((r : Nat) : Int)), (3, .inl ((i : Nat) : Int))] [.inl ((i : Nat) : Int), .inl ((t : Nat) : Int), .inr 0] w (fun _ h => h) ?_
        refine tl_callV (as := [.inr 0, .inl ((t : Nat) : Int), .inl ((i : Nat) : Int)]) (rest := []) (v := some ((M (34 * t + i) : Nat) : Int)) (w' := w) rfl rfl (ta_mo (d + 1) t i ht (by omega) w (hM _ (by omega))) (Nat.le_of_ble_eq_true rfl) rfl rfl rfl (Nat.le_of_ble_eq_true rfl) ?_
        refine tl_go 1 28 [(0, .inr 0), (1, .inl ((t : Nat) : Int)), (2, .inl ((r : Nat) : Int)), (3, .inl ((i : Nat) : Int))] [.inl 2, .inl ((M (34 * t + i) : Nat) : Int)] w (fun _ h => h) ?_
        refine tl_callS (as := [.inl ((M (34 * t + i) : Nat) : Int), .inl 2]) (rest := []) (v := some (tm_b (decide (tm_jn (M (34 * t + i)) 2 = M (34 * t + i))))) (w' := w) rfl rfl rfl rfl (ta_cov d (M (34 * t + i)) 2 w) (Nat.le_of_ble_eq_true rfl) rfl rfl (Nat.le_of_ble_eq_true rfl) ?_
        refine tl_if ((tm_b (decide (tm_jn (M (34 * t + i)) 2 = M (34 * t + i)))) = 0) 36 34 [(0, .inr 0), (1, .inl ((t : Nat) : Int)), (2, .inl ((r : Nat) : Int)), (3, .inl ((i : Nat) : Int))] [] (fun _ h => h) (fun hg => ?_) (fun hg => ?_)
        · have hg := of_decide_eq_false (tm_beq hg)
          refine tl_go 2 2 [(0, .inr 0), (1, .inl ((t : Nat) : Int)), (2, .inl ((r : Nat) : Int)), (3, .inl (((i : Nat) : Int) + 1))] [] w (fun _ h => And.intro (by omega) h) ?_
          refine ih (i + 1) (by omega) (fun c hc9 => ?_)
          by_cases e : c = i
          · rw [e]; exact fun q => hg (hwr.mpr q.2)
          · exact hall c (by omega)
        · have hg := of_decide_eq_true (tm_bne hg)
          refine tl_go 1 35 [(0, .inr 0), (1, .inl ((t : Nat) : Int)), (2, .inl ((r : Nat) : Int)), (3, .inl ((i : Nat) : Int))] [.inl 1] w (fun _ h => h) ?_
          exact tl_retz rfl rfl (tm_b1 (decide_eq_true (tm_any_t (i := i) (by omega) (by rw [Bool.and_eq_true, Bool.or_eq_true, beq_iff_eq]; exact ⟨Or.inl hc, hwr.mp hg⟩)))) (hQ)
      · refine tl_go 2 15 [(0, .inr 0), (1, .inl ((t : Nat) : Int)), (2, .inl ((r : Nat) : Int)), (3, .inl ((i : Nat) : Int))] [.inl ((r : Nat) : Int), .inl ((i : Nat) : Int)] w (fun _ h => h) ?_
        refine tl_callS (as := [.inl ((i : Nat) : Int), .inl ((r : Nat) : Int)]) (rest := []) (v := some (tm_b (decide (tm_bl i r = true)))) (w' := w) rfl rfl rfl rfl (ta_bl d i r (by omega) hr w) (Nat.le_of_ble_eq_true rfl) rfl rfl (Nat.le_of_ble_eq_true rfl) ?_
        refine tl_if ((tm_b (decide (tm_bl i r = true))) = 0) 36 21 [(0, .inr 0), (1, .inl ((t : Nat) : Int)), (2, .inl ((r : Nat) : Int)), (3, .inl ((i : Nat) : Int))] [] (fun _ h => h) (fun hb => ?_) (fun hb => ?_)
        · have hb := of_decide_eq_false (tm_beq hb)
          refine tl_go 2 2 [(0, .inr 0), (1, .inl ((t : Nat) : Int)), (2, .inl ((r : Nat) : Int)), (3, .inl (((i : Nat) : Int) + 1))] [] w (fun _ h => And.intro (by omega) h) ?_
          refine ih (i + 1) (by omega) (fun c hc9 => ?_)
          by_cases e : c = i
          · rw [e]; exact fun q => q.1.elim (fun z => hc (by rw [z])) hb
          · exact hall c (by omega)
        · have hb := of_decide_eq_true (tm_bne hb)
          refine tl_go 3 24 [(0, .inr 0), (1, .inl ((t : Nat) : Int)), (2, .inl ((r : Nat) : Int)), (3, .inl ((i : Nat) : Int))] [.inl ((i : Nat) : Int), .inl ((t : Nat) : Int), .inr 0] w (fun _ h => h) ?_
          refine tl_callV (as := [.inr 0, .inl ((t : Nat) : Int), .inl ((i : Nat) : Int)]) (rest := []) (v := some ((M (34 * t + i) : Nat) : Int)) (w' := w) rfl rfl (ta_mo (d + 1) t i ht (by omega) w (hM _ (by omega))) (Nat.le_of_ble_eq_true rfl) rfl rfl rfl (Nat.le_of_ble_eq_true rfl) ?_
          refine tl_go 1 28 [(0, .inr 0), (1, .inl ((t : Nat) : Int)), (2, .inl ((r : Nat) : Int)), (3, .inl ((i : Nat) : Int))] [.inl 2, .inl ((M (34 * t + i) : Nat) : Int)] w (fun _ h => h) ?_
          refine tl_callS (as := [.inl ((M (34 * t + i) : Nat) : Int), .inl 2]) (rest := []) (v := some (tm_b (decide (tm_jn (M (34 * t + i)) 2 = M (34 * t + i))))) (w' := w) rfl rfl rfl rfl (ta_cov d (M (34 * t + i)) 2 w) (Nat.le_of_ble_eq_true rfl) rfl rfl (Nat.le_of_ble_eq_true rfl) ?_
          refine tl_if ((tm_b (decide (tm_jn (M (34 * t + i)) 2 = M (34 * t + i)))) = 0) 36 34 [(0, .inr 0), (1, .inl ((t : Nat) : Int)), (2, .inl ((r : Nat) : Int)), (3, .inl ((i : Nat) : Int))] [] (fun _ h => h) (fun hg => ?_) (fun hg => ?_)
          · have hg := of_decide_eq_false (tm_beq hg)
            refine tl_go 2 2 [(0, .inr 0), (1, .inl ((t : Nat) : Int)), (2, .inl ((r : Nat) : Int)), (3, .inl (((i : Nat) : Int) + 1))] [] w (fun _ h => And.intro (by omega) h) ?_
            refine ih (i + 1) (by omega) (fun c hc9 => ?_)
            by_cases e : c = i
            · rw [e]; exact fun q => hg (hwr.mpr q.2)
            · exact hall c (by omega)
          · have hg := of_decide_eq_true (tm_bne hg)
            refine tl_go 1 35 [(0, .inr 0), (1, .inl ((t : Nat) : Int)), (2, .inl ((r : Nat) : Int)), (3, .inl ((i : Nat) : Int))] [.inl 1] w (fun _ h => h) ?_
            exact tl_retz rfl rfl (tm_b1 (decide_eq_true (tm_any_t (i := i) (by omega) (by rw [Bool.and_eq_true, Bool.or_eq_true, beq_iff_eq]; exact ⟨Or.inr hb, hwr.mp hg⟩)))) (hQ)
  refine loop (34 - r) r (by omega) (fun c hc q => ?_)
  rcases q.1 with h1 | h1
  · omega
  · have := tm_bl_lt c (by omega) r hr h1; omega
def tm_ann (M : Nat → Nat) (t r : Nat) (m : Int) : Bool := decide (r = 0) || tm_cov (M (34 * t + tm_pn r)) (if m = 1 ∨ m = 3 then 1 else 2)
theorem ta_ann (d : Nat) (t r : Nat) (m : Int) (ht : t < 8) (hr : r < 34) {M : Nat → Nat} (w : tl_W) (hM : ∀ i, i < 272 → w 0 i = (M i : Int)) (hM5 : ∀ i, i < 272 → M i ≤ 5) : tl_Ev ta_P (d + 3) 32 [.inr 0, .inl ((t : Nat) : Int), .inl ((r : Nat) : Int), .inl m] w (.inl (some (tm_b (decide (tm_ann M t r m = true))))) w := by
  refine tl_start fun Q hQ => ?_
  refine tl_go 1 1 [(0, .inr 0), (1, .inl ((t : Nat) : Int)), (2, .inl ((r : Nat) : Int)), (3, .inl m)] [.inl ((r : Nat) : Int)] w (fun _ h => h) ?_
  refine tl_callS (as := [.inl ((r : Nat) : Int)]) (rest := []) (v := some (tm_pI r)) (w' := w) rfl rfl rfl rfl (ta_par (d + 1) r hr w) (Nat.le_of_ble_eq_true rfl) rfl rfl (Nat.le_of_ble_eq_true rfl) ?_
  refine tl_go 3 9 [(0, .inr 0), (1, .inl ((t : Nat) : Int)), (2, .inl ((r : Nat) : Int)), (3, .inl m), (4, .inl (tm_pI r))] [.inl (-1), .inl (tm_pI r)] w (fun _ h => h) ?_
  refine tl_if ((tm_pI r) = (-1)) 37 12 [(0, .inr 0), (1, .inl ((t : Nat) : Int)), (2, .inl ((r : Nat) : Int)), (3, .inl m), (4, .inl (tm_pI r))] [] (fun _ h => h) (fun hc => ?_) (fun hc => ?_)
  · have h0 : r = 0 := by unfold tm_pI at hc; split at hc <;> omega
    refine tl_go 2 42 [(0, .inr 0), (1, .inl ((t : Nat) : Int)), (2, .inl ((r : Nat) : Int)), (3, .inl m), (4, .inl (tm_pI r))] [.inl 1] w (fun _ h => h) ?_
    exact tl_retz rfl rfl (tm_b1 (decide_eq_true (by unfold tm_ann; rw [h0]; rfl))) (hQ)
  · have h0 : r ≠ 0 := fun e => hc (by rw [e]; rfl)
    have hlt := tm_pn_lt h0
    refine tl_loc (L' := [(0, .inr 0), (1, .inl ((t : Nat) : Int)), (2, .inl ((r : Nat) : Int)), (3, .inl m), (4, .inl ((tm_pn r : Nat) : Int))]) (by rw [tm_pI_p h0]) ?_
    refine tl_go 3 16 [(0, .inr 0), (1, .inl ((t : Nat) : Int)), (2, .inl ((r : Nat) : Int)), (3, .inl m), (4, .inl ((tm_pn r : Nat) : Int))] [.inl ((tm_pn r : Nat) : Int), .inl ((t : Nat) : Int), .inr 0] w (fun _ h => h) ?_
    refine tl_callV (as := [.inr 0, .inl ((t : Nat) : Int), .inl ((tm_pn r : Nat) : Int)]) (rest := []) (v := some ((M (34 * t + tm_pn r) : Nat) : Int)) (w' := w) rfl rfl (ta_mo (d + 1) t (tm_pn r) ht (by omega) w (hM _ (by omega))) (Nat.le_of_ble_eq_true rfl) rfl rfl rfl (Nat.le_of_ble_eq_true rfl) ?_
    refine tl_go 1 20 [(0, .inr 0), (1, .inl ((t : Nat) : Int)), (2, .inl ((r : Nat) : Int)), (3, .inl m), (4, .inl ((tm_pn r : Nat) : Int))] [.inl m, .inl ((M (34 * t + tm_pn r) : Nat) : Int)] w (fun _ h => h) ?_
    refine tl_callS (as := [.inl m]) (rest := [.inl ((M (34 * t + tm_pn r) : Nat) : Int)]) (v := some (tm_b (decide (m = 1 ∨ m = 3)))) (w' := w) rfl rfl rfl rfl (ta_rd (d + 1) m w) (Nat.le_of_ble_eq_true rfl) rfl rfl (Nat.le_of_ble_eq_true rfl) ?_
    refine tl_if ((tm_b (decide (m = 1 ∨ m = 3))) = 0) 30 26 [(0, .inr 0), (1, .inl ((t : Nat) : Int)), (2, .inl ((r : Nat) : Int)), (3, .inl m), (4, .inl ((tm_pn r : Nat) : Int))] [.inl ((M (34 * t + tm_pn r) : Nat) : Int)] (fun _ h => h) (fun hg => ?_) (fun hg => ?_)
    · have hg := of_decide_eq_false (tm_beq hg)
      refine tl_go 1 31 [(0, .inr 0), (1, .inl ((t : Nat) : Int)), (2, .inl ((r : Nat) : Int)), (3, .inl m), (4, .inl ((tm_pn r : Nat) : Int))] [.inl 2, .inl ((M (34 * t + tm_pn r) : Nat) : Int)] w (fun _ h => h) ?_
      refine tl_top (y := ((2 : Nat) : Int)) (rfl) ?_
      refine tl_callS (as := [.inl ((M (34 * t + tm_pn r) : Nat) : Int), .inl ((2 : Nat) : Int)]) (rest := []) (v := some (tm_b (decide (tm_jn (M (34 * t + tm_pn r)) 2 = M (34 * t + tm_pn r))))) (w' := w) rfl rfl rfl rfl (ta_cov d (M (34 * t + tm_pn r)) 2 w) (Nat.le_of_ble_eq_true rfl) rfl rfl (Nat.le_of_ble_eq_true rfl) ?_
      have ea : tm_ann M t r m = tm_cov (M (34 * t + tm_pn r)) 2 := by unfold tm_ann; rw [if_neg hg, decide_eq_false h0, Bool.false_or]
      refine tl_if ((tm_b (decide (tm_jn (M (34 * t + tm_pn r)) 2 = M (34 * t + tm_pn r)))) = 0) 41 37 [(0, .inr 0), (1, .inl ((t : Nat) : Int)), (2, .inl ((r : Nat) : Int)), (3, .inl m), (4, .inl ((tm_pn r : Nat) : Int))] [] (fun _ h => h) (fun hk => ?_) (fun hk => ?_)
      · have hk := of_decide_eq_false (tm_beq hk)
        refine tl_go 1 42 [(0, .inr 0), (1, .inl ((t : Nat) : Int)), (2, .inl ((r : Nat) : Int)), (3, .inl m), (4, .inl ((tm_pn r : Nat) : Int))] [.inl 0] w (fun _ h => h) ?_
        exact tl_retz rfl rfl (tm_b0 (decide_eq_false (by rw [ea]; unfold tm_cov; rw [beq_iff_eq]; exact hk))) (hQ)
      · have hk := of_decide_eq_true (tm_bne hk)
        refine tl_go 2 42 [(0, .inr 0), (1, .inl ((t : Nat) : Int)), (2, .inl ((r : Nat) : Int)), (3, .inl m), (4, .inl ((tm_pn r : Nat) : Int))] [.inl 1] w (fun _ h => h) ?_
        exact tl_retz rfl rfl (tm_b1 (decide_eq_true (by rw [ea]; unfold tm_cov; rw [beq_iff_eq]; exact hk))) (hQ)
    · have hg := of_decide_eq_true (tm_bne hg)
      refine tl_go 2 31 [(0, .inr 0), (1, .inl ((t : Nat) : Int)), (2, .inl ((r : Nat) : Int)), (3, .inl m), (4, .inl ((tm_pn r : Nat) : Int))] [.inl 1, .inl ((M (34 * t + tm_pn r) : Nat) : Int)] w (fun _ h => h) ?_
      refine tl_top (y := ((1 : Nat) : Int)) (rfl) ?_
      refine tl_callS (as := [.inl ((M (34 * t + tm_pn r) : Nat) : Int), .inl ((1 : Nat) : Int)]) (rest := []) (v := some (tm_b (decide (tm_jn (M (34 * t + tm_pn r)) 1 = M (34 * t + tm_pn r))))) (w' := w) rfl rfl rfl rfl (ta_cov d (M (34 * t + tm_pn r)) 1 w) (Nat.le_of_ble_eq_true rfl) rfl rfl (Nat.le_of_ble_eq_true rfl) ?_
      have ea : tm_ann M t r m = tm_cov (M (34 * t + tm_pn r)) 1 := by unfold tm_ann; rw [if_pos hg, decide_eq_false h0, Bool.false_or]
      refine tl_if ((tm_b (decide (tm_jn (M (34 * t + tm_pn r)) 1 = M (34 * t + tm_pn r)))) = 0) 41 37 [(0, .inr 0), (1, .inl ((t : Nat) : Int)), (2, .inl ((r : Nat) : Int)), (3, .inl m), (4, .inl ((tm_pn r : Nat) : Int))] [] (fun _ h => h) (fun hk => ?_) (fun hk => ?_)
      · have hk := of_decide_eq_false (tm_beq hk)
        refine tl_go 1 42 [(0, .inr 0), (1, .inl ((t : Nat) : Int)), (2, .inl ((r : Nat) : Int)), (3, .inl m), (4, .inl ((tm_pn r : Nat) : Int))] [.inl 0] w (fun _ h => h) ?_
        exact tl_retz rfl rfl (tm_b0 (decide_eq_false (by rw [ea]; unfold tm_cov; rw [beq_iff_eq]; exact hk))) (hQ)
      · have hk := of_decide_eq_true (tm_bne hk)
        refine tl_go 2 42 [(0, .inr 0), (1, .inl ((t : Nat) : Int)), (2, .inl ((r : Nat) : Int)), (3, .inl m), (4, .inl ((tm_pn r : Nat) : Int))] [.inl 1] w (fun _ h => h) ?_
        exact tl_retz rfl rfl (tm_b1 (decide_eq_true (by rw [ea]; unfold tm_cov; rw [beq_iff_eq]; exact hk))) (hQ)
def tm_cvd (M : Nat → Nat) (t r : Nat) (m : Int) : Bool := decide ((if m = 1 ∨ m = 3 then 1 else 2) ≤ tm_rfa M t (tm_an 3 r) 0)
theorem ta_cvd (d : Nat) (t r : Nat) (m : Int) (ht : t < 8) (hr : r < 34) {M : Nat → Nat} (w : tl_W) (hM : ∀ i, i < 272 → w 0 i = (M i : Int)) (hM5 : ∀ i, i < 272 → M i ≤ 5) : tl_Ev ta_P (d + 3) 33 [.inr 0, .inl ((t : Nat) : Int), .inl ((r : Nat) : Int), .inl m] w (.inl (some (tm_b (decide (tm_cvd M t r m = true))))) w := by
  refine tl_start fun Q hQ => ?_
  refine tl_go 3 3 [(0, .inr 0), (1, .inl ((t : Nat) : Int)), (2, .inl ((r : Nat) : Int)), (3, .inl m)] [.inl ((r : Nat) : Int), .inl ((t : Nat) : Int), .inr 0] w (fun _ h => h) ?_
  refine tl_callV (as := [.inr 0, .inl ((t : Nat) : Int), .inl ((r : Nat) : Int)]) (rest := []) (v := some ((tm_rfa M t (tm_an 3 r) 0 : Nat) : Int)) (w' := w) rfl rfl (ta_rfa d t r ht hr w hM hM5) (Nat.le_of_ble_eq_true rfl) rfl rfl rfl (Nat.le_of_ble_eq_true rfl) ?_
  refine tl_go 1 7 [(0, .inr 0), (1, .inl ((t : Nat) : Int)), (2, .inl ((r : Nat) : Int)), (3, .inl m)] [.inl m, .inl ((tm_rfa M t (tm_an 3 r) 0 : Nat) : Int)] w (fun _ h => h) ?_
  refine tl_callS (as := [.inl m]) (rest := [.inl ((tm_rfa M t (tm_an 3 r) 0 : Nat) : Int)]) (v := some (tm_b (decide (m = 1 ∨ m = 3)))) (w' := w) rfl rfl rfl rfl (ta_rd (d + 1) m w) (Nat.le_of_ble_eq_true rfl) rfl rfl (Nat.le_of_ble_eq_true rfl) ?_
  refine tl_if ((tm_b (decide (m = 1 ∨ m = 3))) = 0) 17 13 [(0, .inr 0), (1, .inl ((t : Nat) : Int)), (2, .inl ((r : Nat) : Int)), (3, .inl m)] [.inl ((tm_rfa M t (tm_an 3 r) 0 : Nat) : Int)] (fun _ h => h) (fun hg => ?_) (fun hg => ?_)
  · have hg := of_decide_eq_false (tm_beq hg)
    refine tl_go 1 18 [(0, .inr 0), (1, .inl ((t : Nat) : Int)), (2, .inl ((r : Nat) : Int)), (3, .inl m)] [.inl 2, .inl ((tm_rfa M t (tm_an 3 r) 0 : Nat) : Int)] w (fun _ h => h) ?_
    refine tl_if (((tm_rfa M t (tm_an 3 r) 0 : Nat) : Int) < 2) 25 21 [(0, .inr 0), (1, .inl ((t : Nat) : Int)), (2, .inl ((r : Nat) : Int)), (3, .inl m)] [] (fun _ h => h) (fun hk => ?_) (fun hk => ?_)
    · refine tl_go 1 26 [(0, .inr 0), (1, .inl ((t : Nat) : Int)), (2, .inl ((r : Nat) : Int)), (3, .inl m)] [.inl 0] w (fun _ h => h) ?_
      exact tl_retz rfl rfl (tm_b0 (decide_eq_false (by unfold tm_cvd; rw [if_neg hg, decide_eq_true_eq]; omega))) (hQ)
    · refine tl_go 2 26 [(0, .inr 0), (1, .inl ((t : Nat) : Int)), (2, .inl ((r : Nat) : Int)), (3, .inl m)] [.inl 1] w (fun _ h => h) ?_
      exact tl_retz rfl rfl (tm_b1 (decide_eq_true (by unfold tm_cvd; rw [if_neg hg, decide_eq_true_eq]; omega))) (hQ)
  · have hg := of_decide_eq_true (tm_bne hg)
    refine tl_go 2 18 [(0, .inr 0), (1, .inl ((t : Nat) : Int)), (2, .inl ((r : Nat) : Int)), (3, .inl m)] [.inl 1, .inl ((tm_rfa M t (tm_an 3 r) 0 : Nat) : Int)] w (fun _ h => h) ?_
    refine tl_if (((tm_rfa M t (tm_an 3 r) 0 : Nat) : Int) < 1) 25 21 [(0, .inr 0), (1, .inl ((t : Nat) : Int)), (2, .inl ((r : Nat) : Int)), (3, .inl m)] [] (fun _ h => h) (fun hk => ?_) (fun hk => ?_)
    · refine tl_go 1 26 [(0, .inr 0), (1, .inl ((t : Nat) : Int)), (2, .inl ((r : Nat) : Int)), (3, .inl m)] [.inl 0] w (fun _ h => h) ?_
      exact tl_retz rfl rfl (tm_b0 (decide_eq_false (by unfold tm_cvd; rw [if_pos hg, decide_eq_true_eq]; omega))) (hQ)
    · refine tl_go 2 26 [(0, .inr 0), (1, .inl ((t : Nat) : Int)), (2, .inl ((r : Nat) : Int)), (3, .inl m)] [.inl 1] w (fun _ h => h) ?_
      exact tl_retz rfl rfl (tm_b1 (decide_eq_true (by unfold tm_cvd; rw [if_pos hg, decide_eq_true_eq]; omega))) (hQ)
