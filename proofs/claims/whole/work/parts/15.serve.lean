/-! 15.serve: the class's blockers, circles and serving, printed by a5.py -/
def tm_msk (p : Nat → Bool) : Nat → Nat
  | 0 => 0
  | n + 1 => bif p n then tm_msk p n ||| 1 * 2 ^ n else tm_msk p n
theorem tm_msk_t (p : Nat → Bool) (w : Nat) : ∀ n, (tm_msk p n).testBit w = (decide (w < n) && p w) := by
  intro n
  induction n with
  | zero => show (0 : Nat).testBit w = _; rw [Nat.zero_testBit]; simp
  | succ n ih =>
    show (bif p n then tm_msk p n ||| 1 * 2 ^ n else tm_msk p n).testBit w = _
    cases hp : p n with
    | true =>
      show (tm_msk p n ||| 1 * 2 ^ n).testBit w = _
      rw [Nat.testBit_or, ih, Nat.one_mul, Nat.testBit_two_pow]
      by_cases hw : n = w
      · subst hw; rw [hp]; simp
      · rw [decide_eq_false hw, Bool.or_false]
        by_cases h : w < n
        · rw [decide_eq_true h, decide_eq_true (by omega)]
        · rw [decide_eq_false h, decide_eq_false (by omega)]
    | false =>
      show (tm_msk p n).testBit w = _
      rw [ih]
      by_cases hw : n = w
      · subst hw; rw [hp, Bool.and_false, Bool.and_false]
      · by_cases h : w < n
        · rw [decide_eq_true h, decide_eq_true (by omega)]
        · rw [decide_eq_false h, decide_eq_false (by omega)]
theorem tm_msk_lt (p : Nat → Bool) : ∀ n, tm_msk p n < 2 ^ n := by
  intro n
  induction n with
  | zero => show 0 < 1; decide
  | succ n ih =>
    have h1 : tm_msk p n < 2 ^ (n + 1) := Nat.lt_of_lt_of_le ih (Nat.pow_le_pow_right (by decide) (by omega))
    show (bif p n then tm_msk p n ||| 1 * 2 ^ n else tm_msk p n) < _
    cases p n with
    | true => exact Nat.or_lt_two_pow h1 (by rw [Nat.one_mul]; exact Nat.pow_lt_pow_right (by decide) (by omega))
    | false => exact h1
theorem tm_msk_256 (p : Nat → Bool) {n : Nat} (h : n ≤ 8) : tm_msk p n < 256 := Nat.lt_of_lt_of_le (tm_msk_lt p n) (show 2 ^ n ≤ 2 ^ 8 from Nat.pow_le_pow_right (by decide) h)
def tm_blk (σ : tm_S) (r t u : Nat) : Bool := decide (u ≠ t) && (!tm_tog (σ.2.2.1 t) (σ.1 (34 * u + r)) || (decide (σ.2.1 u = r + 2) && decide ((σ.2.2.2 r).idxOf u < (σ.2.2.2 r).idxOf t)))
def tm_bk (σ : tm_S) (t : Nat) : Nat := if σ.2.1 t < 2 then 0 else tm_msk (tm_blk σ (σ.2.1 t - 2) t) 8
theorem tm_bk_256 (σ : tm_S) (t : Nat) : tm_bk σ t < 256 := by
  unfold tm_bk
  split
  · decide
  · exact tm_msk_256 _ (Nat.le_refl _)

theorem ta_blo (d : Nat) (u t r : Nat) (hu : u < 8) (ht : t < 8) (hr : r < 34) {σ : tm_S} (w : tl_W) (hJ : tm_J σ) (hR : tm_RC w σ) : tl_Ev ta_P (d + 2) 43 [.inr 0, .inl ((u : Nat) : Int), .inl ((t : Nat) : Int), .inl ((r : Nat) : Int)] w (.inl (some (tm_b (decide (¬ tm_tog (σ.1 (34 * u + r)) (σ.2.2.1 t) = true ∨ (σ.2.1 u = r + 2 ∧ w 3 u < w 3 t)))))) w := by
  refine tl_start fun Q hQ => ?_
  refine tl_go 3 3 [(0, .inr 0), (1, .inl ((u : Nat) : Int)), (2, .inl ((t : Nat) : Int)), (3, .inl ((r : Nat) : Int))] [.inl ((r : Nat) : Int), .inl ((u : Nat) : Int), .inr 0] w (fun _ h => h) ?_
  refine tl_callV (as := [.inr 0, .inl ((u : Nat) : Int), .inl ((r : Nat) : Int)]) (rest := []) (v := some ((σ.1 (34 * u + r) : Nat) : Int)) (w' := w) rfl rfl (ta_mo d u r hu hr w (hR.1 _ (by omega))) (Nat.le_of_ble_eq_true rfl) rfl rfl rfl (Nat.le_of_ble_eq_true rfl) ?_
  refine tl_go 3 11 [(0, .inr 0), (1, .inl ((u : Nat) : Int)), (2, .inl ((t : Nat) : Int)), (3, .inl ((r : Nat) : Int))] [.inl ((t : Nat) : Int), .inr 3, .inl ((σ.1 (34 * u + r) : Nat) : Int)] w (fun _ h => And.intro rfl (And.intro (by decide) (h))) ?_
  refine tl_ald (t) 8 (k := 2) rfl (by omega) rfl (by omega) ?_
  refine tl_top (y := ((σ.2.2.1 t : Nat) : Int)) ((hR.2.1 t ht).2) ?_
  refine tl_callS (as := [.inl ((σ.1 (34 * u + r) : Nat) : Int), .inl ((σ.2.2.1 t : Nat) : Int)]) (rest := []) (v := some (tm_b (decide (tm_tog (σ.1 (34 * u + r)) (σ.2.2.1 t) = true)))) (w' := w) rfl rfl rfl rfl (ta_tog d (σ.1 (34 * u + r)) (σ.2.2.1 t) (hJ.1 _ (by omega)) (hJ.2.1 t ht).2.1 w hR.2.2.2) (Nat.le_of_ble_eq_true rfl) rfl rfl (Nat.le_of_ble_eq_true rfl) ?_
  refine tl_if ((tm_b (decide (tm_tog (σ.1 (34 * u + r)) (σ.2.2.1 t) = true))) = 0) 42 18 [(0, .inr 0), (1, .inl ((u : Nat) : Int)), (2, .inl ((t : Nat) : Int)), (3, .inl ((r : Nat) : Int))] [] (fun _ h => h) (fun hc => ?_) (fun hc => ?_)
  · have hc := of_decide_eq_false (tm_beq hc)
    refine tl_go 2 47 [(0, .inr 0), (1, .inl ((u : Nat) : Int)), (2, .inl ((t : Nat) : Int)), (3, .inl ((r : Nat) : Int))] [.inl 1] w (fun _ h => h) ?_
    exact tl_retz rfl rfl (tm_b1 (decide_eq_true (Or.inl hc))) (hQ)
  · have hc := of_decide_eq_true (tm_bne hc)
    refine tl_go 2 20 [(0, .inr 0), (1, .inl ((u : Nat) : Int)), (2, .inl ((t : Nat) : Int)), (3, .inl ((r : Nat) : Int))] [.inl ((u : Nat) : Int), .inr 0] w (fun _ h => h) ?_
    refine tl_callV (as := [.inr 0, .inl ((u : Nat) : Int)]) (rest := []) (v := some (tm_aw (σ.2.1 u))) (w' := w) rfl rfl (ta_aw d u hu w (hR.2.1 u hu).1 (hJ.2.1 u hu).1) (Nat.le_of_ble_eq_true rfl) rfl rfl rfl (Nat.le_of_ble_eq_true rfl) ?_
    refine tl_go 1 24 [(0, .inr 0), (1, .inl ((u : Nat) : Int)), (2, .inl ((t : Nat) : Int)), (3, .inl ((r : Nat) : Int))] [.inl ((r : Nat) : Int), .inl (tm_aw (σ.2.1 u))] w (fun _ h => h) ?_
    refine tl_if (¬ (tm_aw (σ.2.1 u)) = ((r : Nat) : Int)) 46 27 [(0, .inr 0), (1, .inl ((u : Nat) : Int)), (2, .inl ((t : Nat) : Int)), (3, .inl ((r : Nat) : Int))] [] (fun _ h => h) (fun hg => ?_) (fun hg => ?_)
    · refine tl_go 1 47 [(0, .inr 0), (1, .inl ((u : Nat) : Int)), (2, .inl ((t : Nat) : Int)), (3, .inl ((r : Nat) : Int))] [.inl 0] w (fun _ h => h) ?_
      exact tl_retz rfl rfl (tm_b0 (decide_eq_false (fun q => q.elim (fun z => z hc) (fun z => hg (tm_aw_eq.mpr z.1))))) (hQ)
    · refine tl_go 3 32 [(0, .inr 0), (1, .inl ((u : Nat) : Int)), (2, .inl ((t : Nat) : Int)), (3, .inl ((r : Nat) : Int))] [.inl ((u : Nat) : Int), .inr 4] w (fun _ h => And.intro rfl (And.intro (by decide) (h))) ?_
      refine tl_ald (u) 8 (k := 3) rfl (by omega) rfl (by omega) ?_
      refine tl_go 3 38 [(0, .inr 0), (1, .inl ((u : Nat) : Int)), (2, .inl ((t : Nat) : Int)), (3, .inl ((r : Nat) : Int))] [.inl ((t : Nat) : Int), .inr 4, .inl (w 3 (u))] w (fun _ h => And.intro rfl (And.intro (by decide) (h))) ?_
      refine tl_ald (t) 8 (k := 3) rfl (by omega) rfl (by omega) ?_
      refine tl_if ((w 3 (t)) ≤ (w 3 (u))) 46 42 [(0, .inr 0), (1, .inl ((u : Nat) : Int)), (2, .inl ((t : Nat) : Int)), (3, .inl ((r : Nat) : Int))] [] (fun _ h => h) (fun hh => ?_) (fun hh => ?_)
      · refine tl_go 1 47 [(0, .inr 0), (1, .inl ((u : Nat) : Int)), (2, .inl ((t : Nat) : Int)), (3, .inl ((r : Nat) : Int))] [.inl 0] w (fun _ h => h) ?_
        exact tl_retz rfl rfl (tm_b0 (decide_eq_false (fun q => q.elim (fun z => z hc) (fun z => by have := z.2; omega)))) (hQ)
      · refine tl_go 2 47 [(0, .inr 0), (1, .inl ((u : Nat) : Int)), (2, .inl ((t : Nat) : Int)), (3, .inl ((r : Nat) : Int))] [.inl 1] w (fun _ h => h) ?_
        exact tl_retz rfl rfl (tm_b1 (decide_eq_true (Or.inr ⟨tm_aw_eq.mp (Classical.not_not.mp hg), by omega⟩))) (hQ)
theorem tm_blk_i {w : tl_W} {σ : tm_S} (hJ : tm_J σ) (hR : tm_RC w σ) {r t u : Nat} (hr : r < 34) (ht : t < 8) (hu : u < 8) (hs : σ.2.1 t = r + 2) (hut : u ≠ t) : (¬ tm_tog (σ.1 (34 * u + r)) (σ.2.2.1 t) = true ∨ (σ.2.1 u = r + 2 ∧ w 3 u < w 3 t)) ↔ tm_blk σ r t u = true := by
  have hK := tm_J_K hJ
  unfold tm_blk
  rw [decide_eq_true hut, Bool.true_and, Bool.or_eq_true, Bool.and_eq_true, decide_eq_true_eq, decide_eq_true_eq, tm_tog_c]
  have e1 := tm_ix2 (((hK.2 r hr).2 t).mpr ⟨ht, hs⟩)
  have e2 := hR.2.2.1 r hr _ t e1
  constructor
  · rintro (h | ⟨h1, h2⟩)
    · left; simpa using h
    · right
      have e3 := tm_ix2 (((hK.2 r hr).2 u).mpr ⟨hu, h1⟩)
      have e4 := hR.2.2.1 r hr _ u e3
      exact ⟨h1, by omega⟩
  · rintro (h | ⟨h1, h2⟩)
    · left; simpa using h
    · right
      have e3 := tm_ix2 (((hK.2 r hr).2 u).mpr ⟨hu, h1⟩)
      have e4 := hR.2.2.1 r hr _ u e3
      exact ⟨h1, by omega⟩
theorem tm_p8 {i : Nat} (h : i < 8) : 1 * 2 ^ i < 2147483648 := by
  have : 2 ^ i < 2 ^ 8 := Nat.pow_lt_pow_right (by decide) h
  omega

theorem ta_bk (d : Nat) (t : Nat) (ht : t < 8) {σ : tm_S} (w : tl_W) (hJ : tm_J σ) (hR : tm_RC w σ) : tl_Ev ta_P (d + 3) 42 [.inr 0, .inl ((t : Nat) : Int)] w (.inl (some ((tm_bk σ t : Nat) : Int))) w := by
  refine tl_start fun Q hQ => ?_
  have hS5 := (hJ.2.1 t ht).1
  refine tl_go 2 2 [(0, .inr 0), (1, .inl ((t : Nat) : Int))] [.inl ((t : Nat) : Int), .inr 0] w (fun _ h => h) ?_
  refine tl_callV (as := [.inr 0, .inl ((t : Nat) : Int)]) (rest := []) (v := some (tm_aw (σ.2.1 t))) (w' := w) rfl rfl (ta_aw (d + 1) t ht w (hR.2.1 t ht).1 hS5) (Nat.le_of_ble_eq_true rfl) rfl rfl rfl (Nat.le_of_ble_eq_true rfl) ?_
  refine tl_go 3 8 [(0, .inr 0), (1, .inl ((t : Nat) : Int)), (2, .inl (tm_aw (σ.2.1 t)))] [.inl (-1), .inl (tm_aw (σ.2.1 t))] w (fun _ h => h) ?_
  refine tl_if (¬ (tm_aw (σ.2.1 t)) = (-1)) 13 11 [(0, .inr 0), (1, .inl ((t : Nat) : Int)), (2, .inl (tm_aw (σ.2.1 t)))] [] (fun _ h => h) (fun hc => ?_) (fun hc => ?_)
  · obtain ⟨r, hr, hs⟩ : ∃ r, r < 34 ∧ σ.2.1 t = r + 2 := ⟨σ.2.1 t - 2, by omega, by unfold tm_aw at hc; split at hc <;> omega⟩
    have ebk : tm_bk σ t = tm_msk (tm_blk σ r t) 8 := by unfold tm_bk; rw [if_neg (by omega), show σ.2.1 t - 2 = r by omega]
    refine tl_loc (L' := [(0, .inr 0), (1, .inl ((t : Nat) : Int)), (2, .inl ((r : Nat) : Int))]) (by rw [tm_aw_eq.mpr hs]) ?_
    refine tl_go 4 18 [(0, .inr 0), (1, .inl ((t : Nat) : Int)), (2, .inl ((r : Nat) : Int)), (3, .inl 0), (4, .inl 0)] [] w (fun _ h => h) ?_
    have loop : ∀ k i : Nat, i + k = 8 → tl_E ta_P (d + 2) 42 18 [(0, .inr 0), (1, .inl (t : Int)), (2, .inl (r : Int)), (3, .inl ((tm_msk (tm_blk σ r t) i : Nat) : Int)), (4, .inl (i : Int))] [] w Q := by
      intro k
      induction k with
      | zero =>
        intro i hi
        refine tl_go 2 22 [(0, .inr 0), (1, .inl ((t : Nat) : Int)), (2, .inl ((r : Nat) : Int)), (3, .inl ((tm_msk (tm_blk σ r t) i : Nat) : Int)), (4, .inl ((i : Nat) : Int))] [.inl 8, .inl ((i : Nat) : Int)] w (fun _ h => h) ?_
        refine tl_ift (8 ≤ ((i : Nat) : Int)) 55 25 [(0, .inr 0), (1, .inl ((t : Nat) : Int)), (2, .inl ((r : Nat) : Int)), (3, .inl ((tm_msk (tm_blk σ r t) i : Nat) : Int)), (4, .inl ((i : Nat) : Int))] [] (fun _ h => h) (by omega) ?_
        refine tl_go 1 56 [(0, .inr 0), (1, .inl ((t : Nat) : Int)), (2, .inl ((r : Nat) : Int)), (3, .inl ((tm_msk (tm_blk σ r t) i : Nat) : Int)), (4, .inl ((i : Nat) : Int))] [.inl ((tm_msk (tm_blk σ r t) i : Nat) : Int)] w (fun _ h => h) ?_
        exact tl_reti rfl rfl (by rw [show i = 8 by omega, ebk]) (hQ)
      | succ k ih =>
        intro i hi
        refine tl_go 2 22 [(0, .inr 0), (1, .inl ((t : Nat) : Int)), (2, .inl ((r : Nat) : Int)), (3, .inl ((tm_msk (tm_blk σ r t) i : Nat) : Int)), (4, .inl ((i : Nat) : Int))] [.inl 8, .inl ((i : Nat) : Int)] w (fun _ h => h) ?_
        refine tl_iff (8 ≤ ((i : Nat) : Int)) 55 25 [(0, .inr 0), (1, .inl ((t : Nat) : Int)), (2, .inl ((r : Nat) : Int)), (3, .inl ((tm_msk (tm_blk σ r t) i : Nat) : Int)), (4, .inl ((i : Nat) : Int))] [] (fun _ h => h) (by omega) ?_
        refine tl_go 2 28 [(0, .inr 0), (1, .inl ((t : Nat) : Int)), (2, .inl ((r : Nat) : Int)), (3, .inl ((tm_msk (tm_blk σ r t) i : Nat) : Int)), (4, .inl ((i : Nat) : Int))] [.inl ((t : Nat) : Int), .inl ((i : Nat) : Int)] w (fun _ h => h) ?_
        refine tl_if (((i : Nat) : Int) = ((t : Nat) : Int)) 49 31 [(0, .inr 0), (1, .inl ((t : Nat) : Int)), (2, .inl ((r : Nat) : Int)), (3, .inl ((tm_msk (tm_blk σ r t) i : Nat) : Int)), (4, .inl ((i : Nat) : Int))] [] (fun _ h => h) (fun he => ?_) (fun he => ?_)
        · have e1 : tm_msk (tm_blk σ r t) (i + 1) = tm_msk (tm_blk σ r t) i := by
            show (bif tm_blk σ r t i then _ else _) = _
            rw [show tm_blk σ r t i = false from by unfold tm_blk; rw [decide_eq_false (show ¬ i ≠ t by omega)]; rfl]
            rfl
          refine tl_go 2 18 [(0, .inr 0), (1, .inl ((t : Nat) : Int)), (2, .inl ((r : Nat) : Int)), (3, .inl ((tm_msk (tm_blk σ r t) i : Nat) : Int)), (4, .inl (((i : Nat) : Int) + 1))] [] w (fun _ h => And.intro (by omega) h) ?_
          have h9 := ih (i + 1) (by omega)
          rw [e1] at h9
          exact h9
        · have hne : i ≠ t := fun e => he (by rw [e])
          refine tl_go 4 36 [(0, .inr 0), (1, .inl ((t : Nat) : Int)), (2, .inl ((r : Nat) : Int)), (3, .inl ((tm_msk (tm_blk σ r t) i : Nat) : Int)), (4, .inl ((i : Nat) : Int))] [.inl ((r : Nat) : Int), .inl ((t : Nat) : Int), .inl ((i : Nat) : Int), .inr 0] w (fun _ h => h) ?_
          refine tl_callV (as := [.inr 0, .inl ((i : Nat) : Int), .inl ((t : Nat) : Int), .inl ((r : Nat) : Int)]) (rest := []) (v := some (tm_b (decide (¬ tm_tog (σ.1 (34 * i + r)) (σ.2.2.1 t) = true ∨ (σ.2.1 i = r + 2 ∧ w 3 i < w 3 t))))) (w' := w) rfl rfl (ta_blo d i t r (by omega) ht hr w hJ hR) (Nat.le_of_ble_eq_true rfl) rfl rfl rfl (Nat.le_of_ble_eq_true rfl) ?_
          refine tl_if ((tm_b (decide (¬ tm_tog (σ.1 (34 * i + r)) (σ.2.2.1 t) = true ∨ (σ.2.1 i = r + 2 ∧ w 3 i < w 3 t)))) = 0) 49 42 [(0, .inr 0), (1, .inl ((t : Nat) : Int)), (2, .inl ((r : Nat) : Int)), (3, .inl ((tm_msk (tm_blk σ r t) i : Nat) : Int)), (4, .inl ((i : Nat) : Int))] [] (fun _ h => h) (fun hb => ?_) (fun hb => ?_)
          · have hb := of_decide_eq_false (tm_beq hb)
            have e1 : tm_msk (tm_blk σ r t) (i + 1) = tm_msk (tm_blk σ r t) i := by
              show (bif tm_blk σ r t i then _ else _) = _
              rw [show tm_blk σ r t i = false from by rw [← Bool.not_eq_true, ← tm_blk_i hJ hR hr ht (by omega) hs hne]; exact hb]
              rfl
            refine tl_go 2 18 [(0, .inr 0), (1, .inl ((t : Nat) : Int)), (2, .inl ((r : Nat) : Int)), (3, .inl ((tm_msk (tm_blk σ r t) i : Nat) : Int)), (4, .inl (((i : Nat) : Int) + 1))] [] w (fun _ h => And.intro (by omega) h) ?_
            have h9 := ih (i + 1) (by omega)
            rw [e1] at h9
            exact h9
          · have hb := of_decide_eq_true (tm_bne hb)
            refine tl_go 3 46 [(0, .inr 0), (1, .inl ((t : Nat) : Int)), (2, .inl ((r : Nat) : Int)), (3, .inl ((tm_msk (tm_blk σ r t) i : Nat) : Int)), (4, .inl ((i : Nat) : Int))] [.inl ((i : Nat) : Int), .inl 1, .inl ((tm_msk (tm_blk σ r t) i : Nat) : Int)] w (fun _ h => h) ?_
            refine tl_shl2 1 i rfl rfl rfl (by omega) (tm_p8 (by omega)) ?_
            refine tl_or2 (tm_msk (tm_blk σ r t) i) (1 * 2 ^ i) rfl rfl rfl ?_
            have e1 : tm_msk (tm_blk σ r t) (i + 1) = tm_msk (tm_blk σ r t) i ||| 1 * 2 ^ i := by
              show (bif tm_blk σ r t i then _ else _) = _
              rw [show tm_blk σ r t i = true from (tm_blk_i hJ hR hr ht (by omega) hs hne).mp hb]
              rfl
            refine tl_go 3 18 [(0, .inr 0), (1, .inl ((t : Nat) : Int)), (2, .inl ((r : Nat) : Int)), (3, .inl ((tm_msk (tm_blk σ r t) i ||| 1 * 2 ^ i : Nat) : Int)), (4, .inl (((i : Nat) : Int) + 1))] [] w (fun _ h => And.intro (by omega) h) ?_
            have h9 := ih (i + 1) (by omega)
            rw [e1] at h9
            exact h9
    exact loop 8 0 rfl
  · have hs : σ.2.1 t < 2 := by have hc := Classical.not_not.mp hc; unfold tm_aw at hc; split at hc <;> omega
    refine tl_go 1 12 [(0, .inr 0), (1, .inl ((t : Nat) : Int)), (2, .inl (tm_aw (σ.2.1 t)))] [.inl 0] w (fun _ h => h) ?_
    exact tl_reti rfl rfl (by unfold tm_bk; rw [if_pos hs]; rfl) (hQ)
theorem ta_ball (d : Nat) (s : Nat) {σ : tm_S} (w : tl_W) (hJ : tm_J σ) (hR : tm_RC w σ) : tl_Ev ta_P (d + 4) 45 [.inr 0, .inl ((s : Nat) : Int)] w (.inl (some ((tm_all (tm_bk σ) s 8 : Nat) : Int))) w := by
  refine tl_start fun Q hQ => ?_
  refine tl_go 4 4 [(0, .inr 0), (1, .inl ((s : Nat) : Int)), (2, .inl 0), (3, .inl 0)] [] w (fun _ h => h) ?_
  have loop : ∀ k i : Nat, i + k = 8 → tl_E ta_P (d + 3) 45 4 [(0, .inr 0), (1, .inl (s : Int)), (2, .inl ((tm_all (tm_bk σ) s i : Nat) : Int)), (3, .inl (i : Int))] [] w Q := by
    intro k
    induction k with
    | zero =>
      intro i hi
      refine tl_go 2 7 [(0, .inr 0), (1, .inl ((s : Nat) : Int)), (2, .inl ((tm_all (tm_bk σ) s i : Nat) : Int)), (3, .inl ((i : Nat) : Int))] [.inl 8, .inl ((i : Nat) : Int)] w (fun _ h => h) ?_
      refine tl_ift (8 ≤ ((i : Nat) : Int)) 32 10 [(0, .inr 0), (1, .inl ((s : Nat) : Int)), (2, .inl ((tm_all (tm_bk σ) s i : Nat) : Int)), (3, .inl ((i : Nat) : Int))] [] (fun _ h => h) (by omega) ?_
      refine tl_go 1 33 [(0, .inr 0), (1, .inl ((s : Nat) : Int)), (2, .inl ((tm_all (tm_bk σ) s i : Nat) : Int)), (3, .inl ((i : Nat) : Int))] [.inl ((tm_all (tm_bk σ) s i : Nat) : Int)] w (fun _ h => h) ?_
      exact tl_reti rfl rfl (by rw [show i = 8 by omega]) (hQ)
    | succ k ih =>
      intro i hi
      refine tl_go 2 7 [(0, .inr 0), (1, .inl ((s : Nat) : Int)), (2, .inl ((tm_all (tm_bk σ) s i : Nat) : Int)), (3, .inl ((i : Nat) : Int))] [.inl 8, .inl ((i : Nat) : Int)] w (fun _ h => h) ?_
      refine tl_iff (8 ≤ ((i : Nat) : Int)) 32 10 [(0, .inr 0), (1, .inl ((s : Nat) : Int)), (2, .inl ((tm_all (tm_bk σ) s i : Nat) : Int)), (3, .inl ((i : Nat) : Int))] [] (fun _ h => h) (by omega) ?_
      refine tl_go 2 12 [(0, .inr 0), (1, .inl ((s : Nat) : Int)), (2, .inl ((tm_all (tm_bk σ) s i : Nat) : Int)), (3, .inl ((i : Nat) : Int))] [.inl ((i : Nat) : Int), .inl ((s : Nat) : Int)] w (fun _ h => h) ?_
      refine tl_callS (as := [.inl ((s : Nat) : Int), .inl ((i : Nat) : Int)]) (rest := []) (v := some (tm_b (decide (s.testBit i = true)))) (w' := w) rfl rfl rfl rfl (ta_con (d + 2) s i (by omega) w) (Nat.le_of_ble_eq_true rfl) rfl rfl (Nat.le_of_ble_eq_true rfl) ?_
      refine tl_if ((tm_b (decide (s.testBit i = true))) = 0) 26 18 [(0, .inr 0), (1, .inl ((s : Nat) : Int)), (2, .inl ((tm_all (tm_bk σ) s i : Nat) : Int)), (3, .inl ((i : Nat) : Int))] [] (fun _ h => h) (fun hc => ?_) (fun hc => ?_)
      · have hc := of_decide_eq_false (tm_beq hc)
        refine tl_go 2 4 [(0, .inr 0), (1, .inl ((s : Nat) : Int)), (2, .inl ((tm_all (tm_bk σ) s i : Nat) : Int)), (3, .inl (((i : Nat) : Int) + 1))] [] w (fun _ h => And.intro (by omega) h) ?_
        have h9 := ih (i + 1) (by omega)
        rw [tm_all_s, show s.testBit i = false from by simpa using hc] at h9
        exact h9
      · have hc := of_decide_eq_true (tm_bne hc)
        refine tl_go 3 21 [(0, .inr 0), (1, .inl ((s : Nat) : Int)), (2, .inl ((tm_all (tm_bk σ) s i : Nat) : Int)), (3, .inl ((i : Nat) : Int))] [.inl ((i : Nat) : Int), .inr 0, .inl ((tm_all (tm_bk σ) s i : Nat) : Int)] w (fun _ h => h) ?_
        refine tl_callV (as := [.inr 0, .inl ((i : Nat) : Int)]) (rest := [.inl ((tm_all (tm_bk σ) s i : Nat) : Int)]) (v := some ((tm_bk σ i : Nat) : Int)) (w' := w) rfl rfl (ta_bk d i (by omega) w hJ hR) (Nat.le_of_ble_eq_true rfl) rfl rfl rfl (Nat.le_of_ble_eq_true rfl) ?_
        refine tl_or2 (tm_all (tm_bk σ) s i) (tm_bk σ i) rfl rfl rfl ?_
        refine tl_go 3 4 [(0, .inr 0), (1, .inl ((s : Nat) : Int)), (2, .inl ((tm_all (tm_bk σ) s i ||| tm_bk σ i : Nat) : Int)), (3, .inl (((i : Nat) : Int) + 1))] [] w (fun _ h => And.intro (by omega) h) ?_
        have h9 := ih (i + 1) (by omega)
        rw [tm_all_s, hc] at h9
        exact h9
  exact loop 8 0 rfl
def tm_cir (σ : tm_S) (t : Nat) : Bool := (tm_it (tm_jac (tm_bk σ)) 8 (tm_bk σ t)).testBit t
theorem ta_cir (d : Nat) (t : Nat) (ht : t < 8) {σ : tm_S} (w : tl_W) (hJ : tm_J σ) (hR : tm_RC w σ) : tl_Ev ta_P (d + 5) 44 [.inr 0, .inl ((t : Nat) : Int)] w (.inl (some (tm_b (decide (tm_cir σ t = true))))) w := by
  refine tl_start fun Q hQ => ?_
  refine tl_go 2 2 [(0, .inr 0), (1, .inl ((t : Nat) : Int))] [.inl ((t : Nat) : Int), .inr 0] w (fun _ h => h) ?_
  refine tl_callV (as := [.inr 0, .inl ((t : Nat) : Int)]) (rest := []) (v := some ((tm_bk σ t : Nat) : Int)) (w' := w) rfl rfl (ta_bk (d + 1) t ht w hJ hR) (Nat.le_of_ble_eq_true rfl) rfl rfl rfl (Nat.le_of_ble_eq_true rfl) ?_
  refine tl_go 3 8 [(0, .inr 0), (1, .inl ((t : Nat) : Int)), (2, .inl ((tm_bk σ t : Nat) : Int)), (3, .inl 0)] [] w (fun _ h => h) ?_
  have loop : ∀ k i : Nat, i + k = 8 → tl_E ta_P (d + 4) 44 8 [(0, .inr 0), (1, .inl (t : Int)), (2, .inl ((tm_it (tm_jac (tm_bk σ)) i (tm_bk σ t) : Nat) : Int)), (3, .inl (i : Int))] [] w Q := by
    intro k
    induction k with
    | zero =>
      intro i hi
      refine tl_go 2 11 [(0, .inr 0), (1, .inl ((t : Nat) : Int)), (2, .inl ((tm_it (tm_jac (tm_bk σ)) i (tm_bk σ t) : Nat) : Int)), (3, .inl ((i : Nat) : Int))] [.inl 8, .inl ((i : Nat) : Int)] w (fun _ h => h) ?_
      refine tl_ift (8 ≤ ((i : Nat) : Int)) 28 14 [(0, .inr 0), (1, .inl ((t : Nat) : Int)), (2, .inl ((tm_it (tm_jac (tm_bk σ)) i (tm_bk σ t) : Nat) : Int)), (3, .inl ((i : Nat) : Int))] [] (fun _ h => h) (by omega) ?_
      refine tl_go 2 30 [(0, .inr 0), (1, .inl ((t : Nat) : Int)), (2, .inl ((tm_it (tm_jac (tm_bk σ)) i (tm_bk σ t) : Nat) : Int)), (3, .inl ((i : Nat) : Int))] [.inl ((t : Nat) : Int), .inl ((tm_it (tm_jac (tm_bk σ)) i (tm_bk σ t) : Nat) : Int)] w (fun _ h => h) ?_
      refine tl_callS (as := [.inl ((tm_it (tm_jac (tm_bk σ)) i (tm_bk σ t) : Nat) : Int), .inl ((t : Nat) : Int)]) (rest := []) (v := some (tm_b (decide ((tm_it (tm_jac (tm_bk σ)) i (tm_bk σ t)).testBit t = true)))) (w' := w) rfl rfl rfl rfl (ta_con (d + 3) _ t (by omega) w) (Nat.le_of_ble_eq_true rfl) rfl rfl (Nat.le_of_ble_eq_true rfl) ?_
      exact tl_retz rfl rfl (⟨by rw [show i = 8 by omega]; rfl, tm_b01 _⟩) (hQ)
    | succ k ih =>
      intro i hi
      refine tl_go 2 11 [(0, .inr 0), (1, .inl ((t : Nat) : Int)), (2, .inl ((tm_it (tm_jac (tm_bk σ)) i (tm_bk σ t) : Nat) : Int)), (3, .inl ((i : Nat) : Int))] [.inl 8, .inl ((i : Nat) : Int)] w (fun _ h => h) ?_
      refine tl_iff (8 ≤ ((i : Nat) : Int)) 28 14 [(0, .inr 0), (1, .inl ((t : Nat) : Int)), (2, .inl ((tm_it (tm_jac (tm_bk σ)) i (tm_bk σ t) : Nat) : Int)), (3, .inl ((i : Nat) : Int))] [] (fun _ h => h) (by omega) ?_
      refine tl_go 3 17 [(0, .inr 0), (1, .inl ((t : Nat) : Int)), (2, .inl ((tm_it (tm_jac (tm_bk σ)) i (tm_bk σ t) : Nat) : Int)), (3, .inl ((i : Nat) : Int))] [.inl ((tm_it (tm_jac (tm_bk σ)) i (tm_bk σ t) : Nat) : Int), .inr 0, .inl ((tm_it (tm_jac (tm_bk σ)) i (tm_bk σ t) : Nat) : Int)] w (fun _ h => h) ?_
      refine tl_callV (as := [.inr 0, .inl ((tm_it (tm_jac (tm_bk σ)) i (tm_bk σ t) : Nat) : Int)]) (rest := [.inl ((tm_it (tm_jac (tm_bk σ)) i (tm_bk σ t) : Nat) : Int)]) (v := some ((tm_all (tm_bk σ) (tm_it (tm_jac (tm_bk σ)) i (tm_bk σ t)) 8 : Nat) : Int)) (w' := w) rfl rfl (ta_ball d (tm_it (tm_jac (tm_bk σ)) i (tm_bk σ t)) w hJ hR) (Nat.le_of_ble_eq_true rfl) rfl rfl rfl (Nat.le_of_ble_eq_true rfl) ?_
      refine tl_or2 (tm_it (tm_jac (tm_bk σ)) i (tm_bk σ t)) (tm_all (tm_bk σ) (tm_it (tm_jac (tm_bk σ)) i (tm_bk σ t)) 8) rfl rfl rfl ?_
      refine tl_go 3 8 [(0, .inr 0), (1, .inl ((t : Nat) : Int)), (2, .inl ((tm_it (tm_jac (tm_bk σ)) i (tm_bk σ t) ||| tm_all (tm_bk σ) (tm_it (tm_jac (tm_bk σ)) i (tm_bk σ t)) 8 : Nat) : Int)), (3, .inl (((i : Nat) : Int) + 1))] [] w (fun _ h => And.intro (by omega) h) ?_
      exact ih (i + 1) (by omega)
  exact loop 8 0 rfl
theorem tm_sv_nil {n : Nat} {σ : tm_S} {r : Nat} (h : σ.2.2.2 r = []) : tm_sv (n + 1) σ r = (0, σ) := by
  show (match σ.2.2.2 r with
    | [] => (0, σ)
    | t :: l => if tm_fits σ.1 t r (σ.2.2.1 t) = true then ((tm_sv n (tm_gr σ r t l) r).1 + 1, (tm_sv n (tm_gr σ r t l) r).2) else (0, σ)) = _
  rw [h]
theorem tm_sv_yes {n : Nat} {σ : tm_S} {r t : Nat} {l : List Nat} (h : σ.2.2.2 r = t :: l) (hf : tm_fits σ.1 t r (σ.2.2.1 t) = true) : tm_sv (n + 1) σ r = ((tm_sv n (tm_gr σ r t l) r).1 + 1, (tm_sv n (tm_gr σ r t l) r).2) := by
  show (match σ.2.2.2 r with
    | [] => (0, σ)
    | t :: l => if tm_fits σ.1 t r (σ.2.2.1 t) = true then ((tm_sv n (tm_gr σ r t l) r).1 + 1, (tm_sv n (tm_gr σ r t l) r).2) else (0, σ)) = _
  rw [h]
  exact if_pos hf
theorem tm_sv_no {n : Nat} {σ : tm_S} {r t : Nat} {l : List Nat} (h : σ.2.2.2 r = t :: l) (hf : ¬ tm_fits σ.1 t r (σ.2.2.1 t) = true) : tm_sv (n + 1) σ r = (0, σ) := by
  show (match σ.2.2.2 r with
    | [] => (0, σ)
    | t :: l => if tm_fits σ.1 t r (σ.2.2.1 t) = true then ((tm_sv n (tm_gr σ r t l) r).1 + 1, (tm_sv n (tm_gr σ r t l) r).2) else (0, σ)) = _
  rw [h]
  exact if_neg hf
/-- t's mode at the place i -/
def tm_sm (σ : tm_S) (i m : Nat) : tm_S := (va_up σ.1 i m, σ.2.1, σ.2.2.1, σ.2.2.2)
theorem tm_sm_RC {w : tl_W} {σ : tm_S} (hR : tm_RC w σ) {i m : Nat} : tm_RC (tl_set w 0 i (m : Int)) (tm_sm σ i m) := by
  refine ⟨fun a ha => ?_, fun u hu => ⟨?_, ?_⟩, fun r hr k t hk => ?_, fun j hj => ?_⟩
  · rw [tl_set_s]
    show va_up (w 0) i _ a = ((va_up σ.1 i m a : Nat) : Int)
    by_cases e : a = i
    · rw [e, va_up_s, va_up_s]
    · rw [va_up_n _ _ e, va_up_n _ _ e]; exact hR.1 a ha
  · rw [tl_set_o (by decide)]; exact (hR.2.1 u hu).1
  · rw [tl_set_o (by decide)]; exact (hR.2.1 u hu).2
  · rw [tl_set_o (by decide)]; exact hR.2.2.1 r hr k t hk
  · rw [tl_set_o (by decide)]; exact hR.2.2.2 j hj
theorem tm_gr_lv {σ : tm_S} {r t : Nat} {l : List Nat} (h : σ.2.2.2 r = t :: l) : tm_lv (tm_sm σ (34 * t + r) (σ.2.2.1 t)) r t 0 = tm_gr σ r t l := by
  unfold tm_lv tm_sm tm_gr
  dsimp only
  rw [h]
  rfl

theorem ta_sv (d r : Nat) (hr : r < 34) {σ : tm_S} (w : tl_W) (hJ : tm_J σ) (hR : tm_RC w σ) : ∃ w', tl_Ev ta_P (d + 4) 41 [.inr 0, .inl (r : Int)] w (.inl (some (((tm_serve σ r).1 : Nat) : Int))) w' ∧ tm_RC w' (tm_serve σ r).2 := by
  refine tl_exi fun Q hQ => ?_
  refine tl_go 2 2 [(0, .inr 0), (1, .inl ((r : Nat) : Int)), (2, .inl 0)] [] w (fun _ h => h) ?_
  have loop : ∀ (n c : Nat) (σ : tm_S) (w : tl_W), c + n = 8 → tm_J σ → tm_RC w σ → (∀ w', tm_RC w' (tm_sv n σ r).2 → Q (.inl (some ((c + (tm_sv n σ r).1 : Nat) : Int))) w') → ∀ L : tl_L, (L = [(0, .inr 0), (1, .inl (r : Int)), (2, .inl (c : Int))] ∨ ∃ x : Int, L = [(0, .inr 0), (1, .inl (r : Int)), (2, .inl (c : Int)), (3, .inl x)]) → tl_E ta_P (d + 3) 41 2 L [] w Q := by
    intro n
    induction n with
    | zero =>
      intro c σ w hi hJ hR hQ' L hL
      rcases hL with rfl | ⟨x, rfl⟩
      · refine tl_go 2 5 [(0, .inr 0), (1, .inl ((r : Nat) : Int)), (2, .inl ((c : Nat) : Int))] [.inl 8, .inl ((c : Nat) : Int)] w (fun _ h => h) ?_
        refine tl_ift (8 ≤ ((c : Nat) : Int)) 60 8 [(0, .inr 0), (1, .inl ((r : Nat) : Int)), (2, .inl ((c : Nat) : Int))] [] (fun _ h => h) (by omega) ?_
        refine tl_go 1 62 [(0, .inr 0), (1, .inl ((r : Nat) : Int)), (2, .inl ((c : Nat) : Int))] [.inl 8] w (fun _ h => h) ?_
        exact tl_reti rfl rfl (by show (8 : Int) = ((c + 0 : Nat) : Int); omega) (hQ' w hR)
      · refine tl_go 2 5 [(0, .inr 0), (1, .inl ((r : Nat) : Int)), (2, .inl ((c : Nat) : Int)), (3, .inl x)] [.inl 8, .inl ((c : Nat) : Int)] w (fun _ h => h) ?_
        refine tl_ift (8 ≤ ((c : Nat) : Int)) 60 8 [(0, .inr 0), (1, .inl ((r : Nat) : Int)), (2, .inl ((c : Nat) : Int)), (3, .inl x)] [] (fun _ h => h) (by omega) ?_
        refine tl_go 1 62 [(0, .inr 0), (1, .inl ((r : Nat) : Int)), (2, .inl ((c : Nat) : Int)), (3, .inl x)] [.inl 8] w (fun _ h => h) ?_
        exact tl_reti rfl rfl (by show (8 : Int) = ((c + 0 : Nat) : Int); omega) (hQ' w hR)
    | succ n ih =>
      intro c σ w hi hJ hR hQ' L hL
      have hK := tm_J_K hJ
      rcases hL with rfl | ⟨x, rfl⟩
      · refine tl_go 2 5 [(0, .inr 0), (1, .inl ((r : Nat) : Int)), (2, .inl ((c : Nat) : Int))] [.inl 8, .inl ((c : Nat) : Int)] w (fun _ h => h) ?_
        refine tl_iff (8 ≤ ((c : Nat) : Int)) 60 8 [(0, .inr 0), (1, .inl ((r : Nat) : Int)), (2, .inl ((c : Nat) : Int))] [] (fun _ h => h) (by omega) ?_
        refine tl_go 3 11 [(0, .inr 0), (1, .inl ((r : Nat) : Int)), (2, .inl ((c : Nat) : Int))] [.inl 0, .inl ((r : Nat) : Int), .inr 0] w (fun _ h => h) ?_
        refine tl_callV (as := [.inr 0, .inl ((r : Nat) : Int), .inl 0]) (rest := []) (v := some (tm_sa (σ.2.2.2 r) 0)) (w' := w) rfl rfl (ta_sa (d + 1) r 0 hr w hJ (tm_RC_3 hR)) (Nat.le_of_ble_eq_true rfl) rfl rfl rfl (Nat.le_of_ble_eq_true rfl) ?_
        cases hq : σ.2.2.2 r with
        | nil =>
          rw [tm_sv_nil hq] at hQ'
          refine tl_top (y := (-1)) (rfl) ?_
          refine tl_go 3 17 [(0, .inr 0), (1, .inl ((r : Nat) : Int)), (2, .inl ((c : Nat) : Int)), (3, .inl (-1))] [.inl (-1), .inl (-1)] w (fun _ h => h) ?_
          refine tl_ift ((-1) = (-1)) 35 20 [(0, .inr 0), (1, .inl ((r : Nat) : Int)), (2, .inl ((c : Nat) : Int)), (3, .inl (-1))] [] (fun _ h => h) (rfl) ?_
          refine tl_go 1 36 [(0, .inr 0), (1, .inl ((r : Nat) : Int)), (2, .inl ((c : Nat) : Int)), (3, .inl (-1))] [.inl ((c : Nat) : Int)] w (fun _ h => h) ?_
          exact tl_reti rfl rfl (by show (c : Int) = ((c + 0 : Nat) : Int); omega) (hQ' w hR)
        | cons t l =>
          refine tl_top (y := ((t : Nat) : Int)) (rfl) ?_
          have hk0 : (σ.2.2.2 r)[0]? = some t := by rw [hq]; rfl
          obtain ⟨_, ht8, hts⟩ := tm_K_lt hK hr hk0
          refine tl_go 3 17 [(0, .inr 0), (1, .inl ((r : Nat) : Int)), (2, .inl ((c : Nat) : Int)), (3, .inl ((t : Nat) : Int))] [.inl (-1), .inl ((t : Nat) : Int)] w (fun _ h => h) ?_
          refine tl_iff (((t : Nat) : Int) = (-1)) 35 20 [(0, .inr 0), (1, .inl ((r : Nat) : Int)), (2, .inl ((c : Nat) : Int)), (3, .inl ((t : Nat) : Int))] [] (fun _ h => h) (by omega) ?_
          refine tl_go 6 28 [(0, .inr 0), (1, .inl ((r : Nat) : Int)), (2, .inl ((c : Nat) : Int)), (3, .inl ((t : Nat) : Int))] [.inl ((t : Nat) : Int), .inr 3, .inl ((r : Nat) : Int), .inl ((t : Nat) : Int), .inr 0] w (fun _ h => And.intro rfl (And.intro (by decide) (h))) ?_
          refine tl_ald (t) 8 (k := 2) rfl (by omega) rfl (by omega) ?_
          refine tl_top (y := ((σ.2.2.1 t : Nat) : Int)) ((hR.2.1 t ht8).2) ?_
          refine tl_callV (as := [.inr 0, .inl ((t : Nat) : Int), .inl ((r : Nat) : Int), .inl ((σ.2.2.1 t : Nat) : Int)]) (rest := []) (v := some (tm_b (decide (tm_fits σ.1 t r (σ.2.2.1 t) = true)))) (w' := w) rfl rfl (ta_fit (d + 1) t r (σ.2.2.1 t) ht8 hr (hJ.2.1 t ht8).2.1 w hR.1 hJ.1 hR.2.2.2) (Nat.le_of_ble_eq_true rfl) rfl rfl rfl (Nat.le_of_ble_eq_true rfl) ?_
          refine tl_if (¬ (tm_b (decide (tm_fits σ.1 t r (σ.2.2.1 t) = true))) = 0) 37 35 [(0, .inr 0), (1, .inl ((r : Nat) : Int)), (2, .inl ((c : Nat) : Int)), (3, .inl ((t : Nat) : Int))] [] (fun _ h => h) (fun hf => ?_) (fun hf => ?_)
          · have hf := of_decide_eq_true (tm_bne hf)
            rw [tm_sv_yes hq hf] at hQ'
            refine tl_go 6 45 [(0, .inr 0), (1, .inl ((r : Nat) : Int)), (2, .inl ((c : Nat) : Int)), (3, .inl ((t : Nat) : Int))] [.inl ((t : Nat) : Int), .inr 3, .inl ((r : Nat) : Int), .inl ((t : Nat) : Int), .inr 0] w (fun _ h => And.intro rfl (And.intro (by decide) (h))) ?_
            refine tl_ald (t) 8 (k := 2) rfl (by omega) rfl (by omega) ?_
            refine tl_top (y := ((σ.2.2.1 t : Nat) : Int)) ((hR.2.1 t ht8).2) ?_
            refine tl_callV (as := [.inr 0, .inl ((t : Nat) : Int), .inl ((r : Nat) : Int), .inl ((σ.2.2.1 t : Nat) : Int)]) (rest := []) (v := none) (w' := (tl_set w 0 (34 * t + r) ((σ.2.2.1 t : Nat) : Int))) rfl rfl (ta_sm (d + 2) t r ht8 hr _ w) (Nat.le_of_ble_eq_true rfl) rfl rfl rfl (Nat.le_of_ble_eq_true rfl) ?_
            have hR1 := tm_sm_RC hR (i := 34 * t + r) (m := σ.2.2.1 t)
            have hK1 : tm_K (tm_sm σ (34 * t + r) (σ.2.2.1 t)) := hK
            have hR2 := tm_lv_RC hK1 hR1 hr hk0
            rw [tm_gr_lv hq] at hR2
            refine tl_go 2 51 [(0, .inr 0), (1, .inl ((r : Nat) : Int)), (2, .inl ((c : Nat) : Int)), (3, .inl ((t : Nat) : Int))] [.inl ((t : Nat) : Int), .inr 0] (tl_set w 0 (34 * t + r) ((σ.2.2.1 t : Nat) : Int)) (fun _ h => h) ?_
            refine tl_callV (as := [.inr 0, .inl ((t : Nat) : Int)]) (rest := []) (v := none) (w' := (tm_shf (tl_set (tl_set (tl_set w 0 (34 * t + r) ((σ.2.2.1 t : Nat) : Int)) 1 t 1) 2 t 0) (va_up σ.2.1 t 1) r ((tl_set w 0 (34 * t + r) ((σ.2.2.1 t : Nat) : Int)) 3 t) (-1) 8)) rfl rfl (ta_lv d (σ := tm_sm σ (34 * t + r) (σ.2.2.1 t)) _ hK1 hR1 hr hk0) (Nat.le_of_ble_eq_true rfl) rfl rfl rfl (Nat.le_of_ble_eq_true rfl) ?_
            refine tl_go 2 2 [(0, .inr 0), (1, .inl ((r : Nat) : Int)), (2, .inl (((c : Nat) : Int) + 1)), (3, .inl ((t : Nat) : Int))] [] (tm_shf (tl_set (tl_set (tl_set w 0 (34 * t + r) ((σ.2.2.1 t : Nat) : Int)) 1 t 1) 2 t 0) (va_up σ.2.1 t 1) r ((tl_set w 0 (34 * t + r) ((σ.2.2.1 t : Nat) : Int)) 3 t) (-1) 8) (fun _ h => And.intro (by omega) h) ?_
            refine ih (c + 1) (tm_gr σ r t l) _ (by omega) (tm_gr_J hJ hr hq) hR2 (fun w' hw' => ?_) _ (Or.inr ⟨_, rfl⟩)
            have h9 := hQ' w' hw'
            rw [show c + 1 + (tm_sv n (tm_gr σ r t l) r).1 = c + ((tm_sv n (tm_gr σ r t l) r).1 + 1) by omega]
            exact h9
          · have hf := of_decide_eq_false (tm_beq (Classical.not_not.mp hf))
            rw [tm_sv_no hq hf] at hQ'
            refine tl_go 1 36 [(0, .inr 0), (1, .inl ((r : Nat) : Int)), (2, .inl ((c : Nat) : Int)), (3, .inl ((t : Nat) : Int))] [.inl ((c : Nat) : Int)] w (fun _ h => h) ?_
            exact tl_reti rfl rfl (by show (c : Int) = ((c + 0 : Nat) : Int); omega) (hQ' w hR)
      · refine tl_go 2 5 [(0, .inr 0), (1, .inl ((r : Nat) : Int)), (2, .inl ((c : Nat) : Int)), (3, .inl x)] [.inl 8, .inl ((c : Nat) : Int)] w (fun _ h => h) ?_
        refine tl_iff (8 ≤ ((c : Nat) : Int)) 60 8 [(0, .inr 0), (1, .inl ((r : Nat) : Int)), (2, .inl ((c : Nat) : Int)), (3, .inl x)] [] (fun _ h => h) (by omega) ?_
        refine tl_go 3 11 [(0, .inr 0), (1, .inl ((r : Nat) : Int)), (2, .inl ((c : Nat) : Int)), (3, .inl x)] [.inl 0, .inl ((r : Nat) : Int), .inr 0] w (fun _ h => h) ?_
        refine tl_callV (as := [.inr 0, .inl ((r : Nat) : Int), .inl 0]) (rest := []) (v := some (tm_sa (σ.2.2.2 r) 0)) (w' := w) rfl rfl (ta_sa (d + 1) r 0 hr w hJ (tm_RC_3 hR)) (Nat.le_of_ble_eq_true rfl) rfl rfl rfl (Nat.le_of_ble_eq_true rfl) ?_
        cases hq : σ.2.2.2 r with
        | nil =>
          rw [tm_sv_nil hq] at hQ'
          refine tl_top (y := (-1)) (rfl) ?_
          refine tl_go 3 17 [(0, .inr 0), (1, .inl ((r : Nat) : Int)), (2, .inl ((c : Nat) : Int)), (3, .inl (-1))] [.inl (-1), .inl (-1)] w (fun _ h => h) ?_
          refine tl_ift ((-1) = (-1)) 35 20 [(0, .inr 0), (1, .inl ((r : Nat) : Int)), (2, .inl ((c : Nat) : Int)), (3, .inl (-1))] [] (fun _ h => h) (rfl) ?_
          refine tl_go 1 36 [(0, .inr 0), (1, .inl ((r : Nat) : Int)), (2, .inl ((c : Nat) : Int)), (3, .inl (-1))] [.inl ((c : Nat) : Int)] w (fun _ h => h) ?_
          exact tl_reti rfl rfl (by show (c : Int) = ((c + 0 : Nat) : Int); omega) (hQ' w hR)
        | cons t l =>
          refine tl_top (y := ((t : Nat) : Int)) (rfl) ?_
          have hk0 : (σ.2.2.2 r)[0]? = some t := by rw [hq]; rfl
          obtain ⟨_, ht8, hts⟩ := tm_K_lt hK hr hk0
          refine tl_go 3 17 [(0, .inr 0), (1, .inl ((r : Nat) : Int)), (2, .inl ((c : Nat) : Int)), (3, .inl ((t : Nat) : Int))] [.inl (-1), .inl ((t : Nat) : Int)] w (fun _ h => h) ?_
          refine tl_iff (((t : Nat) : Int) = (-1)) 35 20 [(0, .inr 0), (1, .inl ((r : Nat) : Int)), (2, .inl ((c : Nat) : Int)), (3, .inl ((t : Nat) : Int))] [] (fun _ h => h) (by omega) ?_
          refine tl_go 6 28 [(0, .inr 0), (1, .inl ((r : Nat) : Int)), (2, .inl ((c : Nat) : Int)), (3, .inl ((t : Nat) : Int))] [.inl ((t : Nat) : Int), .inr 3, .inl ((r : Nat) : Int), .inl ((t : Nat) : Int), .inr 0] w (fun _ h => And.intro rfl (And.intro (by decide) (h))) ?_
          refine tl_ald (t) 8 (k := 2) rfl (by omega) rfl (by omega) ?_
          refine tl_top (y := ((σ.2.2.1 t : Nat) : Int)) ((hR.2.1 t ht8).2) ?_
          refine tl_callV (as := [.inr 0, .inl ((t : Nat) : Int), .inl ((r : Nat) : Int), .inl ((σ.2.2.1 t : Nat) : Int)]) (rest := []) (v := some (tm_b (decide (tm_fits σ.1 t r (σ.2.2.1 t) = true)))) (w' := w) rfl rfl (ta_fit (d + 1) t r (σ.2.2.1 t) ht8 hr (hJ.2.1 t ht8).2.1 w hR.1 hJ.1 hR.2.2.2) (Nat.le_of_ble_eq_true rfl) rfl rfl rfl (Nat.le_of_ble_eq_true rfl) ?_
          refine tl_if (¬ (tm_b (decide (tm_fits σ.1 t r (σ.2.2.1 t) = true))) = 0) 37 35 [(0, .inr 0), (1, .inl ((r : Nat) : Int)), (2, .inl ((c : Nat) : Int)), (3, .inl ((t : Nat) : Int))] [] (fun _ h => h) (fun hf => ?_) (fun hf => ?_)
          · have hf := of_decide_eq_true (tm_bne hf)
            rw [tm_sv_yes hq hf] at hQ'
            refine tl_go 6 45 [(0, .inr 0), (1, .inl ((r : Nat) : Int)), (2, .inl ((c : Nat) : Int)), (3, .inl ((t : Nat) : Int))] [.inl ((t : Nat) : Int), .inr 3, .inl ((r : Nat) : Int), .inl ((t : Nat) : Int), .inr 0] w (fun _ h => And.intro rfl (And.intro (by decide) (h))) ?_
            refine tl_ald (t) 8 (k := 2) rfl (by omega) rfl (by omega) ?_
            refine tl_top (y := ((σ.2.2.1 t : Nat) : Int)) ((hR.2.1 t ht8).2) ?_
            refine tl_callV (as := [.inr 0, .inl ((t : Nat) : Int), .inl ((r : Nat) : Int), .inl ((σ.2.2.1 t : Nat) : Int)]) (rest := []) (v := none) (w' := (tl_set w 0 (34 * t + r) ((σ.2.2.1 t : Nat) : Int))) rfl rfl (ta_sm (d + 2) t r ht8 hr _ w) (Nat.le_of_ble_eq_true rfl) rfl rfl rfl (Nat.le_of_ble_eq_true rfl) ?_
            have hR1 := tm_sm_RC hR (i := 34 * t + r) (m := σ.2.2.1 t)
            have hK1 : tm_K (tm_sm σ (34 * t + r) (σ.2.2.1 t)) := hK
            have hR2 := tm_lv_RC hK1 hR1 hr hk0
            rw [tm_gr_lv hq] at hR2
            refine tl_go 2 51 [(0, .inr 0), (1, .inl ((r : Nat) : Int)), (2, .inl ((c : Nat) : Int)), (3, .inl ((t : Nat) : Int))] [.inl ((t : Nat) : Int), .inr 0] (tl_set w 0 (34 * t + r) ((σ.2.2.1 t : Nat) : Int)) (fun _ h => h) ?_
            refine tl_callV (as := [.inr 0, .inl ((t : Nat) : Int)]) (rest := []) (v := none) (w' := (tm_shf (tl_set (tl_set (tl_set w 0 (34 * t + r) ((σ.2.2.1 t : Nat) : Int)) 1 t 1) 2 t 0) (va_up σ.2.1 t 1) r ((tl_set w 0 (34 * t + r) ((σ.2.2.1 t : Nat) : Int)) 3 t) (-1) 8)) rfl rfl (ta_lv d (σ := tm_sm σ (34 * t + r) (σ.2.2.1 t)) _ hK1 hR1 hr hk0) (Nat.le_of_ble_eq_true rfl) rfl rfl rfl (Nat.le_of_ble_eq_true rfl) ?_
            refine tl_go 2 2 [(0, .inr 0), (1, .inl ((r : Nat) : Int)), (2, .inl (((c : Nat) : Int) + 1)), (3, .inl ((t : Nat) : Int))] [] (tm_shf (tl_set (tl_set (tl_set w 0 (34 * t + r) ((σ.2.2.1 t : Nat) : Int)) 1 t 1) 2 t 0) (va_up σ.2.1 t 1) r ((tl_set w 0 (34 * t + r) ((σ.2.2.1 t : Nat) : Int)) 3 t) (-1) 8) (fun _ h => And.intro (by omega) h) ?_
            refine ih (c + 1) (tm_gr σ r t l) _ (by omega) (tm_gr_J hJ hr hq) hR2 (fun w' hw' => ?_) _ (Or.inr ⟨_, rfl⟩)
            have h9 := hQ' w' hw'
            rw [show c + 1 + (tm_sv n (tm_gr σ r t l) r).1 = c + ((tm_sv n (tm_gr σ r t l) r).1 + 1) by omega]
            exact h9
          · have hf := of_decide_eq_false (tm_beq (Classical.not_not.mp hf))
            rw [tm_sv_no hq hf] at hQ'
            refine tl_go 1 36 [(0, .inr 0), (1, .inl ((r : Nat) : Int)), (2, .inl ((c : Nat) : Int)), (3, .inl ((t : Nat) : Int))] [.inl ((c : Nat) : Int)] w (fun _ h => h) ?_
            exact tl_reti rfl rfl (by show (c : Int) = ((c + 0 : Nat) : Int); omega) (hQ' w hR)
  exact loop 8 0 σ w rfl hJ hR (fun w' hw' => by rw [Nat.zero_add]; exact hQ w' hw') _ (Or.inl rfl)
theorem ta_gu (d t r : Nat) (ht : t < 8) (hr : r < 34) {σ : tm_S} (w : tl_W) (hJ : tm_J (tm_sm σ (34 * t + r) 0)) (hR : tm_RC w σ) : ∃ w', tl_Ev ta_P (d + 5) 31 [.inr 0, .inl (t : Int), .inl (r : Int)] w (.inl (some (((tm_serve (tm_sm σ (34 * t + r) 0) r).1 : Nat) : Int))) w' ∧ tm_RC w' (tm_serve (tm_sm σ (34 * t + r) 0) r).2 := by
  obtain ⟨w1, hw1, hR1⟩ := ta_sv d r hr _ hJ (tm_sm_RC (m := 0) hR)
  refine ⟨w1, ?_, hR1⟩
  refine tl_start fun Q hQ => ?_
  refine tl_go 4 4 [(0, .inr 0), (1, .inl ((t : Nat) : Int)), (2, .inl ((r : Nat) : Int))] [.inl 0, .inl ((r : Nat) : Int), .inl ((t : Nat) : Int), .inr 0] w (fun _ h => h) ?_
  refine tl_callV (as := [.inr 0, .inl ((t : Nat) : Int), .inl ((r : Nat) : Int), .inl 0]) (rest := []) (v := none) (w' := (tl_set w 0 (34 * t + r) 0)) rfl rfl (ta_sm (d + 3) t r ht hr 0 w) (Nat.le_of_ble_eq_true rfl) rfl rfl rfl (Nat.le_of_ble_eq_true rfl) ?_
  refine tl_go 2 9 [(0, .inr 0), (1, .inl ((t : Nat) : Int)), (2, .inl ((r : Nat) : Int))] [.inl ((r : Nat) : Int), .inr 0] (tl_set w 0 (34 * t + r) 0) (fun _ h => h) ?_
  refine tl_callV (as := [.inr 0, .inl ((r : Nat) : Int)]) (rest := []) (v := some (((tm_serve (tm_sm σ (34 * t + r) 0) r).1 : Nat) : Int)) (w' := w1) rfl rfl (hw1) (Nat.le_of_ble_eq_true rfl) rfl rfl rfl (Nat.le_of_ble_eq_true rfl) ?_
  exact tl_reti rfl rfl (rfl) (hQ)
