/-! 11.reads: the class's methods that read in loops, printed by a2.py -/
theorem tm_range_all (p : Nat → Bool) (i : Nat) : (List.range (i + 1)).all p = ((List.range i).all p && p i) := by
  rw [List.range_succ, List.all_append]
  simp
theorem tm_all_8 {p : Nat → Bool} {i n : Nat} (hi : i < n) (h : p i = false) : (List.range n).all p = false := by
  rw [← Bool.not_eq_true, List.all_eq_true]
  intro q
  have := q i (List.mem_range.mpr hi)
  rw [h] at this
  cases this

theorem ta_fit (d : Nat) (t r m : Nat) (ht : t < 8) (hr : r < 34) (hm : m ≤ 5) {M : Nat → Nat} (w : tl_W) (hM : ∀ i, i < 272 → w 0 i = (M i : Int)) (hM5 : ∀ i, i < 272 → M i ≤ 5) (hT : ∀ j, j < 6 → w 99 j = (tm_tb j : Int)) : tl_Ev ta_P (d + 2) 29 [.inr 0, .inl ((t : Nat) : Int), .inl ((r : Nat) : Int), .inl ((m : Nat) : Int)] w (.inl (some (tm_b (decide (tm_fits M t r m = true))))) w := by
  refine tl_start fun Q hQ => ?_
  refine tl_go 2 3 [(0, .inr 0), (1, .inl ((t : Nat) : Int)), (2, .inl ((r : Nat) : Int)), (3, .inl ((m : Nat) : Int)), (4, .inl 0)] [] w (fun _ h => h) ?_
  have loop : ∀ k i : Nat, i + k = 8 → (List.range i).all (fun u => u == t || tm_tog m (M (34 * u + r))) = true → tl_E ta_P (d + 1) 29 3 [(0, .inr 0), (1, .inl (t : Int)), (2, .inl (r : Int)), (3, .inl (m : Int)), (4, .inl (i : Int))] [] w Q := by
    intro k
    induction k with
    | zero =>
      intro i hi hall
      have hall8 : tm_fits M t r m = true := by rw [show i = 8 by omega] at hall; exact hall
      refine tl_go 2 7 [(0, .inr 0), (1, .inl ((t : Nat) : Int)), (2, .inl ((r : Nat) : Int)), (3, .inl ((m : Nat) : Int)), (4, .inl ((i : Nat) : Int))] [.inl 8, .inl ((i : Nat) : Int)] w (fun _ h => h) ?_
      refine tl_ift (8 ≤ ((i : Nat) : Int)) 38 10 [(0, .inr 0), (1, .inl ((t : Nat) : Int)), (2, .inl ((r : Nat) : Int)), (3, .inl ((m : Nat) : Int)), (4, .inl ((i : Nat) : Int))] [] (fun _ h => h) (by omega) ?_
      refine tl_go 1 39 [(0, .inr 0), (1, .inl ((t : Nat) : Int)), (2, .inl ((r : Nat) : Int)), (3, .inl ((m : Nat) : Int)), (4, .inl ((i : Nat) : Int))] [.inl 1] w (fun _ h => h) ?_
      exact tl_retz rfl rfl (tm_b1 (decide_eq_true hall8)) (hQ)
    | succ k ih =>
      intro i hi hall
      refine tl_go 2 7 [(0, .inr 0), (1, .inl ((t : Nat) : Int)), (2, .inl ((r : Nat) : Int)), (3, .inl ((m : Nat) : Int)), (4, .inl ((i : Nat) : Int))] [.inl 8, .inl ((i : Nat) : Int)] w (fun _ h => h) ?_
      refine tl_iff (8 ≤ ((i : Nat) : Int)) 38 10 [(0, .inr 0), (1, .inl ((t : Nat) : Int)), (2, .inl ((r : Nat) : Int)), (3, .inl ((m : Nat) : Int)), (4, .inl ((i : Nat) : Int))] [] (fun _ h => h) (by omega) ?_
      refine tl_go 2 13 [(0, .inr 0), (1, .inl ((t : Nat) : Int)), (2, .inl ((r : Nat) : Int)), (3, .inl ((m : Nat) : Int)), (4, .inl ((i : Nat) : Int))] [.inl ((t : Nat) : Int), .inl ((i : Nat) : Int)] w (fun _ h => h) ?_
      refine tl_if (((i : Nat) : Int) = ((t : Nat) : Int)) 32 16 [(0, .inr 0), (1, .inl ((t : Nat) : Int)), (2, .inl ((r : Nat) : Int)), (3, .inl ((m : Nat) : Int)), (4, .inl ((i : Nat) : Int))] [] (fun _ h => h) (fun hc => ?_) (fun hc => ?_)
      · refine tl_go 2 3 [(0, .inr 0), (1, .inl ((t : Nat) : Int)), (2, .inl ((r : Nat) : Int)), (3, .inl ((m : Nat) : Int)), (4, .inl (((i : Nat) : Int) + 1))] [] w (fun _ h => And.intro (by omega) h) ?_
        exact ih (i + 1) (by omega) (by rw [tm_range_all, hall, show i = t by omega]; simp)
      · refine tl_go 4 21 [(0, .inr 0), (1, .inl ((t : Nat) : Int)), (2, .inl ((r : Nat) : Int)), (3, .inl ((m : Nat) : Int)), (4, .inl ((i : Nat) : Int))] [.inl ((r : Nat) : Int), .inl ((i : Nat) : Int), .inr 0, .inl ((m : Nat) : Int)] w (fun _ h => h) ?_
        refine tl_callV (as := [.inr 0, .inl ((i : Nat) : Int), .inl ((r : Nat) : Int)]) (rest := [.inl ((m : Nat) : Int)]) (v := some ((M (34 * i + r) : Nat) : Int)) (w' := w) rfl rfl (ta_mo d i r (by omega) hr w (hM _ (by omega))) (Nat.le_of_ble_eq_true rfl) rfl rfl rfl (Nat.le_of_ble_eq_true rfl) ?_
        refine tl_callS (as := [.inl ((m : Nat) : Int), .inl ((M (34 * i + r) : Nat) : Int)]) (rest := []) (v := some (tm_b (decide (tm_tog m (M (34 * i + r)) = true)))) (w' := w) rfl rfl rfl rfl (ta_tog d m (M (34 * i + r)) hm (hM5 _ (by omega)) w hT) (Nat.le_of_ble_eq_true rfl) rfl rfl (Nat.le_of_ble_eq_true rfl) ?_
        refine tl_if (¬ (tm_b (decide (tm_tog m (M (34 * i + r)) = true))) = 0) 32 30 [(0, .inr 0), (1, .inl ((t : Nat) : Int)), (2, .inl ((r : Nat) : Int)), (3, .inl ((m : Nat) : Int)), (4, .inl ((i : Nat) : Int))] [] (fun _ h => h) (fun hg => ?_) (fun hg => ?_)
        · have hg := of_decide_eq_true (tm_bne hg)
          refine tl_go 2 3 [(0, .inr 0), (1, .inl ((t : Nat) : Int)), (2, .inl ((r : Nat) : Int)), (3, .inl ((m : Nat) : Int)), (4, .inl (((i : Nat) : Int) + 1))] [] w (fun _ h => And.intro (by omega) h) ?_
          exact ih (i + 1) (by omega) (by rw [tm_range_all, hall, hg]; simp)
        · have hg := of_decide_eq_false (tm_beq (Classical.not_not.mp hg))
          refine tl_go 1 31 [(0, .inr 0), (1, .inl ((t : Nat) : Int)), (2, .inl ((r : Nat) : Int)), (3, .inl ((m : Nat) : Int)), (4, .inl ((i : Nat) : Int))] [.inl 0] w (fun _ h => h) ?_
          exact tl_retz rfl rfl (tm_b0 (decide_eq_false (by unfold tm_fits; rw [tm_all_8 (i := i) (by omega) (by rw [Bool.not_eq_true] at hg; rw [hg]; simp; omega)]; decide))) (hQ)
  exact loop 8 0 rfl rfl
def tm_sa (q : List Nat) (p : Int) : Int := if p < 0 then -1 else match q[p.toNat]? with
  | some t => (t : Int)
  | none => -1
/-- who waits at r, by the two arrays -/
def tm_at3 (w : tl_W) (σ : tm_S) : Prop := (∀ t, t < 8 → w 1 t = (σ.2.1 t : Int)) ∧ (∀ r, r < 34 → ∀ k t : Nat, (σ.2.2.2 r)[k]? = some t → w 3 t = (k : Int))
theorem tm_at3_iff {w : tl_W} {σ : tm_S} (hJ : tm_J σ) (h : tm_at3 w σ) {r t : Nat} (hr : r < 34) (ht : t < 8) (p : Int) : (tm_aw (σ.2.1 t) = r ∧ w 3 t = p) ↔ ∃ k : Nat, p = k ∧ (σ.2.2.2 r)[k]? = some t := by
  constructor
  · rintro ⟨h1, h2⟩
    have hs : σ.2.1 t = r + 2 := by unfold tm_aw at h1; split at h1 <;> omega
    obtain ⟨k, hk⟩ := List.getElem?_of_mem (((hJ.2.2 r hr).2.1 t).mpr ⟨ht, hs⟩)
    exact ⟨k, by rw [← h2, h.2 r hr k t hk], hk⟩
  · rintro ⟨k, rfl, hk⟩
    have hs := ((hJ.2.2 r hr).2.1 t).mp (List.mem_of_getElem? hk)
    refine ⟨?_, h.2 r hr k t hk⟩
    rw [hs.2]
    unfold tm_aw
    split <;> omega
theorem tm_sa_some {q : List Nat} {p : Int} {k t : Nat} (hp : p = k) (hk : q[k]? = some t) : tm_sa q p = t := by
  subst hp
  unfold tm_sa
  rw [if_neg (by omega), Int.toNat_natCast, hk]
theorem tm_sa_none {q : List Nat} {p : Int} (h : ∀ t k : Nat, p = k → q[k]? ≠ some t) : tm_sa q p = -1 := by
  unfold tm_sa
  by_cases hp : p < 0
  · rw [if_pos hp]
  · rw [if_neg hp]
    cases hq : q[p.toNat]? with
    | none => rfl
    | some t => exact absurd hq (h t p.toNat (by omega))

theorem ta_sa (d : Nat) (r : Nat) (p : Int) (hr : r < 34) {σ : tm_S} (w : tl_W) (hJ : tm_J σ) (h3 : tm_at3 w σ) : tl_Ev ta_P (d + 2) 36 [.inr 0, .inl ((r : Nat) : Int), .inl p] w (.inl (some (tm_sa (σ.2.2.2 r) p))) w := by
  refine tl_start fun Q hQ => ?_
  refine tl_go 2 2 [(0, .inr 0), (1, .inl ((r : Nat) : Int)), (2, .inl p), (3, .inl 0)] [] w (fun _ h => h) ?_
  have loop : ∀ k i : Nat, i + k = 8 → (∀ u, u < i → ¬ (tm_aw (σ.2.1 u) = r ∧ w 3 u = p)) → tl_E ta_P (d + 1) 36 2 [(0, .inr 0), (1, .inl (r : Int)), (2, .inl p), (3, .inl (i : Int))] [] w Q := by
    intro k
    induction k with
    | zero =>
      intro i hi hall
      refine tl_go 2 5 [(0, .inr 0), (1, .inl ((r : Nat) : Int)), (2, .inl p), (3, .inl ((i : Nat) : Int))] [.inl 8, .inl ((i : Nat) : Int)] w (fun _ h => h) ?_
      refine tl_ift (8 ≤ ((i : Nat) : Int)) 35 8 [(0, .inr 0), (1, .inl ((r : Nat) : Int)), (2, .inl p), (3, .inl ((i : Nat) : Int))] [] (fun _ h => h) (by omega) ?_
      refine tl_go 1 36 [(0, .inr 0), (1, .inl ((r : Nat) : Int)), (2, .inl p), (3, .inl ((i : Nat) : Int))] [.inl (-1)] w (fun _ h => h) ?_
      exact tl_reti rfl rfl ((tm_sa_none (fun u k hp hk => hall u (by have := (((hJ.2.2 r hr).2.1 u).mp (List.mem_of_getElem? hk)).1; omega) ((tm_at3_iff hJ h3 hr (((hJ.2.2 r hr).2.1 u).mp (List.mem_of_getElem? hk)).1 p).mpr ⟨k, hp, hk⟩))).symm) (hQ)
    | succ k ih =>
      intro i hi hall
      refine tl_go 2 5 [(0, .inr 0), (1, .inl ((r : Nat) : Int)), (2, .inl p), (3, .inl ((i : Nat) : Int))] [.inl 8, .inl ((i : Nat) : Int)] w (fun _ h => h) ?_
      refine tl_iff (8 ≤ ((i : Nat) : Int)) 35 8 [(0, .inr 0), (1, .inl ((r : Nat) : Int)), (2, .inl p), (3, .inl ((i : Nat) : Int))] [] (fun _ h => h) (by omega) ?_
      refine tl_go 2 10 [(0, .inr 0), (1, .inl ((r : Nat) : Int)), (2, .inl p), (3, .inl ((i : Nat) : Int))] [.inl ((i : Nat) : Int), .inr 0] w (fun _ h => h) ?_
      refine tl_callV (as := [.inr 0, .inl ((i : Nat) : Int)]) (rest := []) (v := some (tm_aw (σ.2.1 i))) (w' := w) rfl rfl (ta_aw d i (by omega) w (h3.1 i (by omega)) (hJ.2.1 i (by omega)).1) (Nat.le_of_ble_eq_true rfl) rfl rfl rfl (Nat.le_of_ble_eq_true rfl) ?_
      refine tl_go 1 14 [(0, .inr 0), (1, .inl ((r : Nat) : Int)), (2, .inl p), (3, .inl ((i : Nat) : Int))] [.inl ((r : Nat) : Int), .inl (tm_aw (σ.2.1 i))] w (fun _ h => h) ?_
      refine tl_if (¬ (tm_aw (σ.2.1 i)) = ((r : Nat) : Int)) 29 17 [(0, .inr 0), (1, .inl ((r : Nat) : Int)), (2, .inl p), (3, .inl ((i : Nat) : Int))] [] (fun _ h => h) (fun hc => ?_) (fun hc => ?_)
      · refine tl_go 2 2 [(0, .inr 0), (1, .inl ((r : Nat) : Int)), (2, .inl p), (3, .inl (((i : Nat) : Int) + 1))] [] w (fun _ h => And.intro (by omega) h) ?_
        refine ih (i + 1) (by omega) (fun u hu => ?_)
        by_cases hui : u = i
        · rw [hui]; exact fun q => hc q.1
        · exact hall u (by omega)
      · refine tl_go 3 22 [(0, .inr 0), (1, .inl ((r : Nat) : Int)), (2, .inl p), (3, .inl ((i : Nat) : Int))] [.inl ((i : Nat) : Int), .inr 4] w (fun _ h => And.intro rfl (And.intro (by decide) (h))) ?_
        refine tl_ald (i) 8 (k := 3) rfl (by omega) rfl (by omega) ?_
        refine tl_go 1 24 [(0, .inr 0), (1, .inl ((r : Nat) : Int)), (2, .inl p), (3, .inl ((i : Nat) : Int))] [.inl p, .inl (w 3 (i))] w (fun _ h => h) ?_
        refine tl_if (¬ (w 3 (i)) = p) 29 27 [(0, .inr 0), (1, .inl ((r : Nat) : Int)), (2, .inl p), (3, .inl ((i : Nat) : Int))] [] (fun _ h => h) (fun hg => ?_) (fun hg => ?_)
        · refine tl_go 2 2 [(0, .inr 0), (1, .inl ((r : Nat) : Int)), (2, .inl p), (3, .inl (((i : Nat) : Int) + 1))] [] w (fun _ h => And.intro (by omega) h) ?_
          refine ih (i + 1) (by omega) (fun u hu => ?_)
          by_cases hui : u = i
          · rw [hui]; exact fun q => hg q.2
          · exact hall u (by omega)
        · obtain ⟨k9, hk9, hk8⟩ := (tm_at3_iff hJ h3 hr (by omega) p).mp ⟨Classical.not_not.mp hc, Classical.not_not.mp hg⟩
          refine tl_go 1 28 [(0, .inr 0), (1, .inl ((r : Nat) : Int)), (2, .inl p), (3, .inl ((i : Nat) : Int))] [.inl ((i : Nat) : Int)] w (fun _ h => h) ?_
          exact tl_reti rfl rfl ((tm_sa_some hk9 hk8).symm) (hQ)
  exact loop 8 0 rfl (fun u hu => absurd hu (Nat.not_lt_zero _))
