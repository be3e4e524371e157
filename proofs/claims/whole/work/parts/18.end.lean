/-! 18.end: the class's begin, unlock, escalate, end, printed by a7.py -/
def tm_bg (σ : tm_S) (t : Nat) : tm_S := (σ.1, va_up σ.2.1 t 1, σ.2.2.1, σ.2.2.2)
def tm_oBegin (σ : tm_S) : Int × tm_S := match (List.range 8).find? (fun t => σ.2.1 t == 0) with
  | some t => ((t : Int), tm_bg σ t)
  | none => (-1, σ)
theorem tm_oBegin_s {σ : tm_S} {t : Nat} (ht : t < 8) (h0 : σ.2.1 t = 0) (h : ∀ u, u < t → σ.2.1 u ≠ 0) : tm_oBegin σ = ((t : Int), tm_bg σ t) := by
  have e : (List.range 8).find? (fun t => σ.2.1 t == 0) = some t := List.find?_range_eq_some.mpr ⟨by rw [h0]; rfl, List.mem_range.mpr ht, fun u hu => by simp [h u hu]⟩
  unfold tm_oBegin
  rw [e]
theorem tm_oBegin_n {σ : tm_S} (h : ∀ u, u < 8 → σ.2.1 u ≠ 0) : tm_oBegin σ = (-1, σ) := by
  have e : (List.range 8).find? (fun t => σ.2.1 t == 0) = none := List.find?_eq_none.mpr (fun u hu => by simp [h u (List.mem_range.mp hu)])
  unfold tm_oBegin
  rw [e]
theorem tm_S_RC {w : tl_W} {σ : tm_S} (hR : tm_RC w σ) (t x : Nat) : tm_RC (tl_set w 1 t (x : Int)) (σ.1, va_up σ.2.1 t x, σ.2.2.1, σ.2.2.2) := by
  refine ⟨fun i hi => ?_, fun u hu => ⟨?_, ?_⟩, fun r hr k u hk => ?_, fun j hj => ?_⟩
  · rw [tl_set_o (by decide)]; exact hR.1 i hi
  · rw [tl_set_s]
    show va_up (w 1) t _ u = ((va_up σ.2.1 t x u : Nat) : Int)
    by_cases e : u = t
    · rw [e, va_up_s, va_up_s]
    · rw [va_up_n _ _ e, va_up_n _ _ e]; exact (hR.2.1 u hu).1
  · rw [tl_set_o (by decide)]; exact (hR.2.1 u hu).2
  · rw [tl_set_o (by decide)]; exact hR.2.2.1 r hr k u hk
  · rw [tl_set_o (by decide)]; exact hR.2.2.2 j hj

theorem ta_begin (d : Nat) {σ : tm_S} (w : tl_W) (hJ : tm_J σ) (hR : tm_RC w σ) : ∃ w', tl_Ev ta_P (d + 1) 1 [.inr 0] w (.inl (some (tm_oBegin σ).1)) w' ∧ tm_RC w' (tm_oBegin σ).2 := by
  refine tl_exi fun Q hQ => ?_
  refine tl_go 2 2 [(0, .inr 0), (1, .inl 0)] [] w (fun _ h => h) ?_
  have loop : ∀ k i : Nat, i + k = 8 → (∀ u, u < i → σ.2.1 u ≠ 0) → tl_E ta_P d 1 2 [(0, .inr 0), (1, .inl (i : Int))] [] w Q := by
    intro k
    induction k with
    | zero =>
      intro i hi hall
      rw [tm_oBegin_n (fun u hu => hall u (by omega))] at hQ
      refine tl_go 2 5 [(0, .inr 0), (1, .inl ((i : Nat) : Int))] [.inl 8, .inl ((i : Nat) : Int)] w (fun _ h => h) ?_
      refine tl_ift (8 ≤ ((i : Nat) : Int)) 32 8 [(0, .inr 0), (1, .inl ((i : Nat) : Int))] [] (fun _ h => h) (by omega) ?_
      refine tl_go 1 33 [(0, .inr 0), (1, .inl ((i : Nat) : Int))] [.inl (-1)] w (fun _ h => h) ?_
      exact tl_reti rfl rfl (rfl) (hQ w hR)
    | succ k ih =>
      intro i hi hall
      refine tl_go 2 5 [(0, .inr 0), (1, .inl ((i : Nat) : Int))] [.inl 8, .inl ((i : Nat) : Int)] w (fun _ h => h) ?_
      refine tl_iff (8 ≤ ((i : Nat) : Int)) 32 8 [(0, .inr 0), (1, .inl ((i : Nat) : Int))] [] (fun _ h => h) (by omega) ?_
      refine tl_go 3 13 [(0, .inr 0), (1, .inl ((i : Nat) : Int))] [.inl ((i : Nat) : Int), .inr 2] w (fun _ h => And.intro rfl (And.intro (by decide) (h))) ?_
      refine tl_ald (i) 8 (k := 1) rfl (by omega) rfl (by omega) ?_
      refine tl_top (y := ((σ.2.1 i : Nat) : Int)) ((hR.2.1 i (by omega)).1) ?_
      refine tl_if (¬ ((σ.2.1 i : Nat) : Int) = 0) 26 17 [(0, .inr 0), (1, .inl ((i : Nat) : Int))] [] (fun _ h => h) (fun hc => ?_) (fun hc => ?_)
      · refine tl_go 2 2 [(0, .inr 0), (1, .inl (((i : Nat) : Int) + 1))] [] w (fun _ h => And.intro (by omega) h) ?_
        refine ih (i + 1) (by omega) (fun u hu => ?_)
        by_cases e : u = i
        · rw [e]; omega
        · exact hall u (by omega)
      · rw [tm_oBegin_s (t := i) (by omega) (by omega) hall] at hQ
        refine tl_go 4 23 [(0, .inr 0), (1, .inl ((i : Nat) : Int))] [.inl 1, .inl ((i : Nat) : Int), .inr 2] w (fun _ h => And.intro rfl (And.intro (by decide) (h))) ?_
        refine tl_ast (i) 8 (k := 1) rfl (by decide) (by omega) rfl (by omega) ?_
        refine tl_go 1 25 [(0, .inr 0), (1, .inl ((i : Nat) : Int))] [.inl ((i : Nat) : Int)] (tl_set w 1 (i) 1) (fun _ h => h) ?_
        exact tl_reti rfl rfl (rfl) (hQ _ (tm_S_RC hR i 1))
  exact loop 8 0 rfl (fun u hu => absurd hu (Nat.not_lt_zero _))
def tm_oUnlock (σ : tm_S) (t r : Int) : tl_R × tm_S :=
  if ¬ ((0 ≤ t ∧ t < 8) ∧ (0 ≤ r ∧ r < 34)) then (.inr 1, σ)
  else if ¬ (σ.2.1 t.toNat = 1 ∧ σ.1 (34 * t.toNat + r.toNat) ≠ 0) then (.inr 2, σ)
  else if tm_hc σ.1 t.toNat r.toNat = true then (.inr 3, σ)
  else (.inl none, (tm_serve (tm_sm σ (34 * t.toNat + r.toNat) 0) r.toNat).2)

theorem ta_unlock (d : Nat) (t r : Int) {σ : tm_S} (w : tl_W) (hJ : tm_J σ) (hR : tm_RC w σ) : ∃ w', tl_Ev ta_P (d + 6) 3 [.inr 0, .inl t, .inl r] w (tm_oUnlock σ t r).1 w' ∧ tm_RC w' (tm_oUnlock σ t r).2 := by
  refine tl_exi fun Q hQ => ?_
  refine tl_go 1 1 [(0, .inr 0), (1, .inl t), (2, .inl r)] [.inl t] w (fun _ h => h) ?_
  refine tl_callS (as := [.inl t]) (rest := []) (v := some (tm_b (decide (0 ≤ t ∧ t < 8)))) (w' := w) rfl rfl rfl rfl (ta_isT (d + 4) t w) (Nat.le_of_ble_eq_true rfl) rfl rfl (Nat.le_of_ble_eq_true rfl) ?_
  refine tl_if ((tm_b (decide (0 ≤ t ∧ t < 8))) = 0) 14 7 [(0, .inr 0), (1, .inl t), (2, .inl r)] [] (fun _ h => h) (fun h1 => ?_) (fun h1 => ?_)
  · have h1 := of_decide_eq_false (tm_beq h1)
    have e : tm_oUnlock σ t r = (.inr 1, σ) := if_pos (fun q => h1 q.1)
    rw [e] at hQ
    exact tl_thr rfl rfl (hQ w hR)
  · have h1 := of_decide_eq_true (tm_bne h1)
    refine tl_go 1 8 [(0, .inr 0), (1, .inl t), (2, .inl r)] [.inl r] w (fun _ h => h) ?_
    refine tl_callS (as := [.inl r]) (rest := []) (v := some (tm_b (decide (0 ≤ r ∧ r < 34)))) (w' := w) rfl rfl rfl rfl (ta_isR (d + 4) r w) (Nat.le_of_ble_eq_true rfl) rfl rfl (Nat.le_of_ble_eq_true rfl) ?_
    refine tl_if (¬ (tm_b (decide (0 ≤ r ∧ r < 34))) = 0) 22 14 [(0, .inr 0), (1, .inl t), (2, .inl r)] [] (fun _ h => h) (fun h2 => ?_) (fun h2 => ?_)
    · have h2 := of_decide_eq_true (tm_bne h2)
      obtain ⟨t', rfl⟩ : ∃ n : Nat, t = n := ⟨t.toNat, by omega⟩
      obtain ⟨r', rfl⟩ : ∃ n : Nat, r = n := ⟨r.toNat, by omega⟩
      refine tl_go 3 27 [(0, .inr 0), (1, .inl ((t' : Nat) : Int)), (2, .inl ((r' : Nat) : Int))] [.inl ((t' : Nat) : Int), .inr 2] w (fun _ h => And.intro rfl (And.intro (by decide) (h))) ?_
      refine tl_ald (t') 8 (k := 1) rfl (by omega) rfl (by omega) ?_
      refine tl_top (y := ((σ.2.1 t' : Nat) : Int)) ((hR.2.1 t' (by omega)).1) ?_
      refine tl_go 1 29 [(0, .inr 0), (1, .inl ((t' : Nat) : Int)), (2, .inl ((r' : Nat) : Int))] [.inl 1, .inl ((σ.2.1 t' : Nat) : Int)] w (fun _ h => h) ?_
      refine tl_if (¬ ((σ.2.1 t' : Nat) : Int) = 1) 41 32 [(0, .inr 0), (1, .inl ((t' : Nat) : Int)), (2, .inl ((r' : Nat) : Int))] [] (fun _ h => h) (fun h3 => ?_) (fun h3 => ?_)
      · have e : tm_oUnlock σ (t' : Int) (r' : Int) = (.inr 2, σ) := (by unfold tm_oUnlock; rw [if_neg (fun q => q ⟨h1, h2⟩), Int.toNat_natCast, Int.toNat_natCast, if_pos (fun q => h3 (by rw [q.1]; rfl))])
        rw [e] at hQ
        exact tl_thr rfl rfl (hQ w hR)
      · have h3 : σ.2.1 t' = 1 := by omega
        refine tl_go 3 35 [(0, .inr 0), (1, .inl ((t' : Nat) : Int)), (2, .inl ((r' : Nat) : Int))] [.inl ((r' : Nat) : Int), .inl ((t' : Nat) : Int), .inr 0] w (fun _ h => h) ?_
        refine tl_callV (as := [.inr 0, .inl ((t' : Nat) : Int), .inl ((r' : Nat) : Int)]) (rest := []) (v := some (tm_b (decide (σ.1 (34 * t' + r') ≠ 0)))) (w' := w) rfl rfl (ta_ih (d + 3) t' r' (by omega) (by omega) w (hR.1 _ (by omega))) (Nat.le_of_ble_eq_true rfl) rfl rfl rfl (Nat.le_of_ble_eq_true rfl) ?_
        refine tl_if (¬ (tm_b (decide (σ.1 (34 * t' + r') ≠ 0))) = 0) 49 41 [(0, .inr 0), (1, .inl ((t' : Nat) : Int)), (2, .inl ((r' : Nat) : Int))] [] (fun _ h => h) (fun h4 => ?_) (fun h4 => ?_)
        · have h4 := of_decide_eq_true (tm_bne h4)
          refine tl_go 3 52 [(0, .inr 0), (1, .inl ((t' : Nat) : Int)), (2, .inl ((r' : Nat) : Int))] [.inl ((r' : Nat) : Int), .inl ((t' : Nat) : Int), .inr 0] w (fun _ h => h) ?_
          refine tl_callV (as := [.inr 0, .inl ((t' : Nat) : Int), .inl ((r' : Nat) : Int)]) (rest := []) (v := some (tm_b (decide (tm_hc σ.1 t' r' = true)))) (w' := w) rfl rfl (ta_hc (d + 2) t' r' (by omega) (by omega) w hR.1 hJ.1) (Nat.le_of_ble_eq_true rfl) rfl rfl rfl (Nat.le_of_ble_eq_true rfl) ?_
          refine tl_if ((tm_b (decide (tm_hc σ.1 t' r' = true))) = 0) 66 58 [(0, .inr 0), (1, .inl ((t' : Nat) : Int)), (2, .inl ((r' : Nat) : Int))] [] (fun _ h => h) (fun h5 => ?_) (fun h5 => ?_)
          · have h5 := of_decide_eq_false (tm_beq h5)
            obtain ⟨w1, hw1, hR1⟩ := ta_gu d t' r' (by omega) (by omega) w (tm_sm_J hJ (by omega) (by omega) (by omega) (by omega)) hR
            have e : tm_oUnlock σ (t' : Int) (r' : Int) = (.inl none, (tm_serve (tm_sm σ (34 * t' + r') 0) r').2) := (by unfold tm_oUnlock; rw [if_neg (fun q => q ⟨h1, h2⟩), Int.toNat_natCast, Int.toNat_natCast, if_neg (fun q => q ⟨h3, h4⟩), if_neg h5])
            rw [e] at hQ
            refine tl_go 3 69 [(0, .inr 0), (1, .inl ((t' : Nat) : Int)), (2, .inl ((r' : Nat) : Int))] [.inl ((r' : Nat) : Int), .inl ((t' : Nat) : Int), .inr 0] w (fun _ h => h) ?_
            refine tl_callV (as := [.inr 0, .inl ((t' : Nat) : Int), .inl ((r' : Nat) : Int)]) (rest := []) (v := some (((tm_serve (tm_sm σ (34 * t' + r') 0) r').1 : Nat) : Int)) (w' := w1) rfl rfl (hw1) (Nat.le_of_ble_eq_true rfl) rfl rfl rfl (Nat.le_of_ble_eq_true rfl) ?_
            refine tl_go 1 73 [(0, .inr 0), (1, .inl ((t' : Nat) : Int)), (2, .inl ((r' : Nat) : Int))] [] w1 (fun _ h => h) ?_
            exact tl_retv rfl rfl (hQ w1 hR1)
          · have h5 := of_decide_eq_true (tm_bne h5)
            have e : tm_oUnlock σ (t' : Int) (r' : Int) = (.inr 3, σ) := (by unfold tm_oUnlock; rw [if_neg (fun q => q ⟨h1, h2⟩), Int.toNat_natCast, Int.toNat_natCast, if_neg (fun q => q ⟨h3, h4⟩), if_pos h5])
            rw [e] at hQ
            exact tl_thr rfl rfl (hQ w hR)
        · have h4 := of_decide_eq_false (tm_beq (Classical.not_not.mp h4))
          have e : tm_oUnlock σ (t' : Int) (r' : Int) = (.inr 2, σ) := (by unfold tm_oUnlock; rw [if_neg (fun q => q ⟨h1, h2⟩), Int.toNat_natCast, Int.toNat_natCast, if_pos (fun q => h4 q.2)])
          rw [e] at hQ
          exact tl_thr rfl rfl (hQ w hR)
    · have h2 := of_decide_eq_false (tm_beq (Classical.not_not.mp h2))
      have e : tm_oUnlock σ t r = (.inr 1, σ) := if_pos (fun q => h2 q.2)
      rw [e] at hQ
      exact tl_thr rfl rfl (hQ w hR)
theorem tm_serve_J {σ : tm_S} {r : Nat} (hr : r < 34) (h : tm_J σ) : tm_J (tm_serve σ r).2 ∧ tm_H (tm_serve σ r).2 r ∧ (tm_serve σ r).1 ≤ 8 ∧ (∀ u c, c < 34 → c ≠ r → (tm_serve σ r).2.1 (34 * u + c) = σ.1 (34 * u + c)) ∧ (∀ c, c ≠ r → (tm_serve σ r).2.2.2.2 c = σ.2.2.2 c) ∧ (∀ u, σ.2.1 u ≠ r + 2 → (tm_serve σ r).2.2.1 u = σ.2.1 u ∧ (tm_serve σ r).2.2.2.1 u = σ.2.2.1 u) := by
  obtain ⟨a, b, c, d, e, f⟩ := tm_sv_J 8 σ r hr h
  exact ⟨a, b (tm_len h hr), c, d, e, f⟩
/-- t gives up at n -/
def tm_gv (σ : tm_S) (t n : Nat) : Nat × tm_S := tm_serve (tm_sm σ (34 * t + n) 0) n
def tm_gb (t r : Nat) : Nat → tm_S → tm_S
  | 0, σ => σ
  | n + 1, σ => tm_gb t r n (if tm_bl n r = true ∧ σ.1 (34 * t + n) ≠ 0 then (tm_gv σ t n).2 else σ)
theorem tm_gb_s (t r n : Nat) (σ : tm_S) : tm_gb t r (n + 1) σ = tm_gb t r n (if tm_bl n r = true ∧ σ.1 (34 * t + n) ≠ 0 then (tm_gv σ t n).2 else σ) := rfl
theorem tm_gb_0 (t : Nat) {r : Nat} (hr : r < 34) : ∀ (n : Nat) (σ : tm_S), n ≤ r + 1 → tm_gb t r n σ = σ := by
  intro n
  induction n with
  | zero => exact fun _ _ => rfl
  | succ n ih =>
    intro σ hn
    rw [tm_gb_s, if_neg (fun q => by have := tm_bl_lt n (by omega) r hr q.1; omega)]
    exact ih σ (by omega)
theorem tm_gv_J {σ : tm_S} (h : tm_J σ) {t n : Nat} (ht : t < 8) (hn : n < 34) (hs : σ.2.1 t < 2) : tm_J (tm_gv σ t n).2 ∧ (tm_gv σ t n).1 ≤ 8 ∧ (tm_gv σ t n).2.2.1 t = σ.2.1 t ∧ (∀ u c, c < 34 → c ≠ n → (tm_gv σ t n).2.1 (34 * u + c) = σ.1 (34 * u + c)) := by
  have h0 := tm_sm_J h ht hn (Nat.zero_le 5) (by omega)
  obtain ⟨a, _, c, d, _, f⟩ := tm_serve_J hn h0
  refine ⟨a, c, (f t (by show σ.2.1 t ≠ n + 2; omega)).1, fun u c' hc' hne => ?_⟩
  refine (d u c' hc' hne).trans ?_
  show va_up σ.1 (34 * t + n) 0 (34 * u + c') = _
  rw [va_up_n _ _ (by omega)]
theorem tm_cb_row {M M' : Nat → Nat} {t r : Nat} : ∀ n, (∀ c, c < n → M' (34 * t + c) = M (34 * t + c)) → tm_cb M' t r n = tm_cb M t r n := by
  intro n
  induction n with
  | zero => exact fun _ => rfl
  | succ n ih =>
    intro h
    rw [tm_cb_s, tm_cb_s, ih (fun c hc => h c (by omega)), h n (by omega)]

theorem ta_gub (d t r : Nat) (ht : t < 8) (hr : r < 34) {σ : tm_S} (w : tl_W) (hJ : tm_J σ) (hR : tm_RC w σ) (hs : σ.2.1 t = 1) : ∃ w', tl_Ev ta_P (d + 6) 49 [.inr 0, .inl (t : Int), .inl (r : Int)] w (.inl (some ((tm_cb σ.1 t r 34 : Nat) : Int))) w' ∧ tm_RC w' (tm_gb t r 34 σ) := by
  refine tl_exi fun Q hQ => ?_
  refine tl_go 4 6 [(0, .inr 0), (1, .inl ((t : Nat) : Int)), (2, .inl ((r : Nat) : Int)), (3, .inl 0), (4, .inl 33)] [] w (fun _ h => h) ?_
  have loop : ∀ (n c : Nat) (σ : tm_S) (w : tl_W), c + n ≤ 34 → tm_J σ → tm_RC w σ → σ.2.1 t = 1 → (∀ w', tm_RC w' (tm_gb t r n σ) → Q (.inl (some ((c + tm_cb σ.1 t r n : Nat) : Int))) w') → tl_E ta_P (d + 5) 49 6 [(0, .inr 0), (1, .inl (t : Int)), (2, .inl (r : Int)), (3, .inl (c : Int)), (4, .inl ((n : Int) - 1))] [] w Q := by
    intro n
    induction n with
    | zero =>
      intro c σ w hc hJ hR hs hQ'
      refine tl_go 2 9 [(0, .inr 0), (1, .inl ((t : Nat) : Int)), (2, .inl ((r : Nat) : Int)), (3, .inl ((c : Nat) : Int)), (4, .inl (((0 : Nat) : Int) - 1))] [.inl ((r : Nat) : Int), .inl (((0 : Nat) : Int) - 1)] w (fun _ h => h) ?_
      refine tl_ift ((((0 : Nat) : Int) - 1) ≤ ((r : Nat) : Int)) 48 12 [(0, .inr 0), (1, .inl ((t : Nat) : Int)), (2, .inl ((r : Nat) : Int)), (3, .inl ((c : Nat) : Int)), (4, .inl (((0 : Nat) : Int) - 1))] [] (fun _ h => h) (by omega) ?_
      refine tl_go 1 49 [(0, .inr 0), (1, .inl ((t : Nat) : Int)), (2, .inl ((r : Nat) : Int)), (3, .inl ((c : Nat) : Int)), (4, .inl (((0 : Nat) : Int) - 1))] [.inl ((c : Nat) : Int)] w (fun _ h => h) ?_
      exact tl_reti rfl rfl (by show (c : Int) = ((c + 0 : Nat) : Int); omega) (hQ' w hR)
    | succ n ih =>
      intro c σ w hc hJ hR hs hQ'
      refine tl_loc (L' := [(0, .inr 0), (1, .inl ((t : Nat) : Int)), (2, .inl ((r : Nat) : Int)), (3, .inl ((c : Nat) : Int)), (4, .inl ((n : Nat) : Int))]) (by rw [show (((n + 1 : Nat) : Int) - 1) = (n : Int) by omega]) ?_
      refine tl_go 2 9 [(0, .inr 0), (1, .inl ((t : Nat) : Int)), (2, .inl ((r : Nat) : Int)), (3, .inl ((c : Nat) : Int)), (4, .inl ((n : Nat) : Int))] [.inl ((r : Nat) : Int), .inl ((n : Nat) : Int)] w (fun _ h => h) ?_
      refine tl_if (((n : Nat) : Int) ≤ ((r : Nat) : Int)) 48 12 [(0, .inr 0), (1, .inl ((t : Nat) : Int)), (2, .inl ((r : Nat) : Int)), (3, .inl ((c : Nat) : Int)), (4, .inl ((n : Nat) : Int))] [] (fun _ h => h) (fun h1 => ?_) (fun h1 => ?_)
      · rw [tm_gb_0 t hr (n + 1) σ (by omega), tm_cb_0 σ.1 t hr (n + 1) (by omega)] at hQ'
        refine tl_go 1 49 [(0, .inr 0), (1, .inl ((t : Nat) : Int)), (2, .inl ((r : Nat) : Int)), (3, .inl ((c : Nat) : Int)), (4, .inl ((n : Nat) : Int))] [.inl ((c : Nat) : Int)] w (fun _ h => h) ?_
        exact tl_reti rfl rfl (by show (c : Int) = ((c + 0 : Nat) : Int); omega) (hQ' w hR)
      · refine tl_go 2 15 [(0, .inr 0), (1, .inl ((t : Nat) : Int)), (2, .inl ((r : Nat) : Int)), (3, .inl ((c : Nat) : Int)), (4, .inl ((n : Nat) : Int))] [.inl ((r : Nat) : Int), .inl ((n : Nat) : Int)] w (fun _ h => h) ?_
        refine tl_callS (as := [.inl ((n : Nat) : Int), .inl ((r : Nat) : Int)]) (rest := []) (v := some (tm_b (decide (tm_bl n r = true)))) (w' := w) rfl rfl rfl rfl (ta_bl (d + 3) n r (by omega) hr w) (Nat.le_of_ble_eq_true rfl) rfl rfl (Nat.le_of_ble_eq_true rfl) ?_
        refine tl_if ((tm_b (decide (tm_bl n r = true))) = 0) 42 21 [(0, .inr 0), (1, .inl ((t : Nat) : Int)), (2, .inl ((r : Nat) : Int)), (3, .inl ((c : Nat) : Int)), (4, .inl ((n : Nat) : Int))] [] (fun _ h => h) (fun h2 => ?_) (fun h2 => ?_)
        · have h2 := of_decide_eq_false (tm_beq h2)
          rw [tm_gb_s, tm_cb_s, if_neg (fun q => h2 q.1), if_neg (fun q => h2 q.1), Nat.add_zero] at hQ'
          refine tl_go 2 6 [(0, .inr 0), (1, .inl ((t : Nat) : Int)), (2, .inl ((r : Nat) : Int)), (3, .inl ((c : Nat) : Int)), (4, .inl (((n : Nat) : Int) + (-1)))] [] w (fun _ h => And.intro (by omega) h) ?_
          exact ih c σ w (by omega) hJ hR hs hQ'
        · have h2 := of_decide_eq_true (tm_bne h2)
          refine tl_go 3 25 [(0, .inr 0), (1, .inl ((t : Nat) : Int)), (2, .inl ((r : Nat) : Int)), (3, .inl ((c : Nat) : Int)), (4, .inl ((n : Nat) : Int))] [.inl ((n : Nat) : Int), .inl ((t : Nat) : Int), .inr 0] w (fun _ h => h) ?_
          refine tl_callV (as := [.inr 0, .inl ((t : Nat) : Int), .inl ((n : Nat) : Int)]) (rest := []) (v := some (tm_b (decide (σ.1 (34 * t + n) ≠ 0)))) (w' := w) rfl rfl (ta_ih (d + 3) t n ht (by omega) w (hR.1 _ (by omega))) (Nat.le_of_ble_eq_true rfl) rfl rfl rfl (Nat.le_of_ble_eq_true rfl) ?_
          refine tl_if ((tm_b (decide (σ.1 (34 * t + n) ≠ 0))) = 0) 42 31 [(0, .inr 0), (1, .inl ((t : Nat) : Int)), (2, .inl ((r : Nat) : Int)), (3, .inl ((c : Nat) : Int)), (4, .inl ((n : Nat) : Int))] [] (fun _ h => h) (fun h3 => ?_) (fun h3 => ?_)
          · have h3 := of_decide_eq_false (tm_beq h3)
            rw [tm_gb_s, tm_cb_s, if_neg (fun q => h3 q.2), if_neg (fun q => h3 q.2), Nat.add_zero] at hQ'
            refine tl_go 2 6 [(0, .inr 0), (1, .inl ((t : Nat) : Int)), (2, .inl ((r : Nat) : Int)), (3, .inl ((c : Nat) : Int)), (4, .inl (((n : Nat) : Int) + (-1)))] [] w (fun _ h => And.intro (by omega) h) ?_
            exact ih c σ w (by omega) hJ hR hs hQ'
          · have h3 := of_decide_eq_true (tm_bne h3)
            obtain ⟨g1, g2, g3, g4⟩ := tm_gv_J hJ (n := n) ht (by omega) (by omega)
            obtain ⟨w1, hw1, hR1⟩ := ta_gu d t n ht (by omega) w (tm_sm_J hJ ht (by omega) (Nat.zero_le 5) (by omega)) hR
            rw [tm_gb_s, tm_cb_s, if_pos ⟨h2, h3⟩, if_pos ⟨h2, h3⟩] at hQ'
            have ecb : tm_cb (tm_gv σ t n).2.1 t r n = tm_cb σ.1 t r n := tm_cb_row n (fun c hc => g4 t c (by omega) (by omega))
            refine tl_go 3 35 [(0, .inr 0), (1, .inl ((t : Nat) : Int)), (2, .inl ((r : Nat) : Int)), (3, .inl ((c : Nat) : Int)), (4, .inl ((n : Nat) : Int))] [.inl ((n : Nat) : Int), .inl ((t : Nat) : Int), .inr 0] w (fun _ h => h) ?_
            refine tl_callV (as := [.inr 0, .inl ((t : Nat) : Int), .inl ((n : Nat) : Int)]) (rest := []) (v := some (((tm_gv σ t n).1 : Nat) : Int)) (w' := w1) rfl rfl (hw1) (Nat.le_of_ble_eq_true rfl) rfl rfl rfl (Nat.le_of_ble_eq_true rfl) ?_
            refine tl_go 4 6 [(0, .inr 0), (1, .inl ((t : Nat) : Int)), (2, .inl ((r : Nat) : Int)), (3, .inl (((c : Nat) : Int) + 1)), (4, .inl (((n : Nat) : Int) + (-1)))] [] w1 (fun _ h => And.intro (by omega) (And.intro (by omega) h)) ?_
            exact ih (c + 1) (tm_gv σ t n).2 w1 (by omega) g1 hR1 (g3.trans hs) (fun w' hw' => by rw [ecb, show c + 1 + tm_cb σ.1 t r n = c + (tm_cb σ.1 t r n + 1) by omega]; exact hQ' w' hw')
  exact loop 34 0 σ w (by omega) hJ hR hs (fun w' hw' => by rw [Nat.zero_add]; exact hQ w' hw')
def tm_ew (σ : tm_S) (t r : Nat) : Nat := tm_jn (if tm_ww σ.1 t r = true then 5 else 3) (σ.1 (34 * t + r))
def tm_oEsc (σ : tm_S) (t r : Int) : tl_R × tm_S :=
  if ¬ ((0 ≤ t ∧ t < 8) ∧ (1 ≤ r ∧ r < 10)) then (.inr 1, σ)
  else if ¬ σ.2.1 t.toNat = 1 then (.inr 2, σ)
  else if tm_cb σ.1 t.toNat r.toNat 34 = 0 then (.inl (some 0), σ)
  else if ¬ tm_fits σ.1 t.toNat r.toNat (tm_ew σ t.toNat r.toNat) = true then (.inl (some (-1)), σ)
  else (.inl (some (tm_cb σ.1 t.toNat r.toNat 34 : Nat)), (tm_serve (tm_gb t.toNat r.toNat 34 (tm_sm σ (34 * t.toNat + r.toNat) (tm_ew σ t.toNat r.toNat))) r.toNat).2)
theorem tm_gb_J {t r : Nat} (ht : t < 8) : ∀ (n : Nat) (σ : tm_S), n ≤ 34 → tm_J σ → σ.2.1 t = 1 → tm_J (tm_gb t r n σ) ∧ (tm_gb t r n σ).2.1 t = 1 := by
  intro n
  induction n with
  | zero => exact fun σ _ h hs => ⟨h, hs⟩
  | succ n ih =>
    intro σ hn h hs
    rw [tm_gb_s]
    by_cases hc : tm_bl n r = true ∧ σ.1 (34 * t + n) ≠ 0
    · rw [if_pos hc]
      obtain ⟨g1, _, g3, _⟩ := tm_gv_J h (n := n) ht (by omega) (by omega)
      exact ih _ (by omega) g1 (g3.trans hs)
    · rw [if_neg hc]
      exact ih _ (by omega) h hs
theorem tm_cb_sm {σ : tm_S} {t r m : Nat} (hr : r < 34) : tm_cb (tm_sm σ (34 * t + r) m).1 t r 34 = tm_cb σ.1 t r 34 := by
  have key : ∀ n, n ≤ 34 → tm_cb (tm_sm σ (34 * t + r) m).1 t r n = tm_cb σ.1 t r n := by
    intro n
    induction n with
    | zero => exact fun _ => rfl
    | succ n ih =>
      intro hn
      rw [tm_cb_s, tm_cb_s, ih (by omega)]
      by_cases e : n = r
      · have hf : ¬ tm_bl n r = true := fun q => by have := tm_bl_lt n (by omega) r hr q; omega
        rw [if_neg (fun q => hf q.1), if_neg (fun q => hf q.1)]
      · have : (tm_sm σ (34 * t + r) m).1 (34 * t + n) = σ.1 (34 * t + n) := by
          show va_up σ.1 (34 * t + r) m (34 * t + n) = _
          rw [va_up_n _ _ (by omega)]
        rw [this]
  exact key 34 (Nat.le_refl _)

theorem ta_esc (d : Nat) (t r : Int) {σ : tm_S} (w : tl_W) (hJ : tm_J σ) (hR : tm_RC w σ) : ∃ w', tl_Ev ta_P (d + 7) 4 [.inr 0, .inl t, .inl r] w (tm_oEsc σ t r).1 w' ∧ tm_RC w' (tm_oEsc σ t r).2 := by
  refine tl_exi fun Q hQ => ?_
  refine tl_go 1 1 [(0, .inr 0), (1, .inl t), (2, .inl r)] [.inl t] w (fun _ h => h) ?_
  refine tl_callS (as := [.inl t]) (rest := []) (v := some (tm_b (decide (0 ≤ t ∧ t < 8)))) (w' := w) rfl rfl rfl rfl (ta_isT (d + 5) t w) (Nat.le_of_ble_eq_true rfl) rfl rfl (Nat.le_of_ble_eq_true rfl) ?_
  refine tl_if ((tm_b (decide (0 ≤ t ∧ t < 8))) = 0) 14 7 [(0, .inr 0), (1, .inl t), (2, .inl r)] [] (fun _ h => h) (fun h1 => ?_) (fun h1 => ?_)
  · have h1 := of_decide_eq_false (tm_beq h1)
    have e : tm_oEsc σ t r = (.inr 1, σ) := if_pos (fun q => h1 q.1)
    rw [e] at hQ
    exact tl_thr rfl rfl (hQ w hR)
  · have h1 := of_decide_eq_true (tm_bne h1)
    refine tl_go 1 8 [(0, .inr 0), (1, .inl t), (2, .inl r)] [.inl r] w (fun _ h => h) ?_
    refine tl_callS (as := [.inl r]) (rest := []) (v := some (tm_b (decide (1 ≤ r ∧ r < 10)))) (w' := w) rfl rfl rfl rfl (ta_isTP (d + 5) r w) (Nat.le_of_ble_eq_true rfl) rfl rfl (Nat.le_of_ble_eq_true rfl) ?_
    refine tl_if (¬ (tm_b (decide (1 ≤ r ∧ r < 10))) = 0) 22 14 [(0, .inr 0), (1, .inl t), (2, .inl r)] [] (fun _ h => h) (fun h2 => ?_) (fun h2 => ?_)
    · have h2 := of_decide_eq_true (tm_bne h2)
      obtain ⟨t', rfl⟩ : ∃ n : Nat, t = n := ⟨t.toNat, by omega⟩
      obtain ⟨r', rfl⟩ : ∃ n : Nat, r = n := ⟨r.toNat, by omega⟩
      refine tl_go 3 27 [(0, .inr 0), (1, .inl ((t' : Nat) : Int)), (2, .inl ((r' : Nat) : Int))] [.inl ((t' : Nat) : Int), .inr 2] w (fun _ h => And.intro rfl (And.intro (by decide) (h))) ?_
      refine tl_ald (t') 8 (k := 1) rfl (by omega) rfl (by omega) ?_
      refine tl_top (y := ((σ.2.1 t' : Nat) : Int)) ((hR.2.1 t' (by omega)).1) ?_
      refine tl_go 1 29 [(0, .inr 0), (1, .inl ((t' : Nat) : Int)), (2, .inl ((r' : Nat) : Int))] [.inl 1, .inl ((σ.2.1 t' : Nat) : Int)] w (fun _ h => h) ?_
      refine tl_if (((σ.2.1 t' : Nat) : Int) = 1) 40 32 [(0, .inr 0), (1, .inl ((t' : Nat) : Int)), (2, .inl ((r' : Nat) : Int))] [] (fun _ h => h) (fun h3 => ?_) (fun h3 => ?_)
      · have h3 : σ.2.1 t' = 1 := by omega
        refine tl_go 3 43 [(0, .inr 0), (1, .inl ((t' : Nat) : Int)), (2, .inl ((r' : Nat) : Int))] [.inl ((r' : Nat) : Int), .inl ((t' : Nat) : Int), .inr 0] w (fun _ h => h) ?_
        refine tl_callV (as := [.inr 0, .inl ((t' : Nat) : Int), .inl ((r' : Nat) : Int)]) (rest := []) (v := some ((tm_cb σ.1 t' r' 34 : Nat) : Int)) (w' := w) rfl rfl (ta_cb (d + 3) t' r' (by omega) (by omega) w hR.1 hJ.1) (Nat.le_of_ble_eq_true rfl) rfl rfl rfl (Nat.le_of_ble_eq_true rfl) ?_
        refine tl_if (¬ ((tm_cb σ.1 t' r' 34 : Nat) : Int) = 0) 51 49 [(0, .inr 0), (1, .inl ((t' : Nat) : Int)), (2, .inl ((r' : Nat) : Int))] [] (fun _ h => h) (fun h4 => ?_) (fun h4 => ?_)
        · have h4 : ¬ tm_cb σ.1 t' r' 34 = 0 := by omega
          refine tl_go 3 54 [(0, .inr 0), (1, .inl ((t' : Nat) : Int)), (2, .inl ((r' : Nat) : Int))] [.inl ((r' : Nat) : Int), .inl ((t' : Nat) : Int), .inr 0] w (fun _ h => h) ?_
          refine tl_callV (as := [.inr 0, .inl ((t' : Nat) : Int), .inl ((r' : Nat) : Int)]) (rest := []) (v := some (tm_b (decide (tm_ww σ.1 t' r' = true)))) (w' := w) rfl rfl (ta_ww (d + 3) t' r' (by omega) (by omega) w hR.1 hJ.1) (Nat.le_of_ble_eq_true rfl) rfl rfl rfl (Nat.le_of_ble_eq_true rfl) ?_
          refine tl_if ((tm_b (decide (tm_ww σ.1 t' r' = true))) = 0) 64 60 [(0, .inr 0), (1, .inl ((t' : Nat) : Int)), (2, .inl ((r' : Nat) : Int))] [] (fun _ h => h) (fun h5 => ?_) (fun h5 => ?_)
          · have h5 := of_decide_eq_false (tm_beq h5)
            have hM5 := hJ.1 (34 * t' + r') (by omega)
            have eew : tm_jn 3 (σ.1 (34 * t' + r')) = tm_ew σ t' r' := by unfold tm_ew; rw [if_neg h5]
            have hw5 : tm_ew σ t' r' ≤ 5 := by rw [← eew]; exact tm_jn5 (by omega) hM5
            refine tl_go 4 68 [(0, .inr 0), (1, .inl ((t' : Nat) : Int)), (2, .inl ((r' : Nat) : Int))] [.inl ((r' : Nat) : Int), .inl ((t' : Nat) : Int), .inr 0, .inl 3] w (fun _ h => h) ?_
            refine tl_callV (as := [.inr 0, .inl ((t' : Nat) : Int), .inl ((r' : Nat) : Int)]) (rest := [.inl 3]) (v := some ((σ.1 (34 * t' + r') : Nat) : Int)) (w' := w) rfl rfl (ta_mo (d + 5) t' r' (by omega) (by omega) w (hR.1 _ (by omega))) (Nat.le_of_ble_eq_true rfl) rfl rfl rfl (Nat.le_of_ble_eq_true rfl) ?_
            refine tl_eq (st' := [.inl ((σ.1 (34 * t' + r') : Nat) : Int), .inl ((3 : Nat) : Int)]) rfl ?_
            refine tl_callS (as := [.inl ((3 : Nat) : Int), .inl ((σ.1 (34 * t' + r') : Nat) : Int)]) (rest := []) (v := some ((tm_jn 3 (σ.1 (34 * t' + r')) : Nat) : Int)) (w' := w) rfl rfl rfl rfl (ta_join (d + 5) 3 (σ.1 (34 * t' + r')) w) (Nat.le_of_ble_eq_true rfl) rfl rfl (Nat.le_of_ble_eq_true rfl) ?_
            refine tl_top (y := ((tm_ew σ t' r' : Nat) : Int)) (by rw [eew]) ?_
            refine tl_go 5 79 [(0, .inr 0), (1, .inl ((t' : Nat) : Int)), (2, .inl ((r' : Nat) : Int)), (3, .inl ((tm_ew σ t' r' : Nat) : Int))] [.inl ((tm_ew σ t' r' : Nat) : Int), .inl ((r' : Nat) : Int), .inl ((t' : Nat) : Int), .inr 0] w (fun _ h => h) ?_
            refine tl_callV (as := [.inr 0, .inl ((t' : Nat) : Int), .inl ((r' : Nat) : Int), .inl ((tm_ew σ t' r' : Nat) : Int)]) (rest := []) (v := some (tm_b (decide (tm_fits σ.1 t' r' (tm_ew σ t' r') = true)))) (w' := w) rfl rfl (ta_fit (d + 4) t' r' (tm_ew σ t' r') (by omega) (by omega) hw5 w hR.1 hJ.1 hR.2.2.2) (Nat.le_of_ble_eq_true rfl) rfl rfl rfl (Nat.le_of_ble_eq_true rfl) ?_
            refine tl_if (¬ (tm_b (decide (tm_fits σ.1 t' r' (tm_ew σ t' r') = true))) = 0) 87 85 [(0, .inr 0), (1, .inl ((t' : Nat) : Int)), (2, .inl ((r' : Nat) : Int)), (3, .inl ((tm_ew σ t' r' : Nat) : Int))] [] (fun _ h => h) (fun h6 => ?_) (fun h6 => ?_)
            · have h6 := of_decide_eq_true (tm_bne h6)
              have hJ1 := tm_sm_J (t := t') (r := r') (m := tm_ew σ t' r') hJ (by omega) (by omega) hw5 (by omega)
              have hR1 := tm_sm_RC hR (i := 34 * t' + r') (m := tm_ew σ t' r')
              obtain ⟨w2, hw2, hR2⟩ := ta_gub d t' r' (by omega) (by omega) _ hJ1 hR1 h3
              rw [tm_cb_sm (by omega)] at hw2
              obtain ⟨w3, hw3, hR3⟩ := ta_sv (d + 2) r' (by omega) w2 (tm_gb_J (by omega) 34 _ (Nat.le_refl _) hJ1 h3).1 hR2
              have e : tm_oEsc σ (t' : Int) (r' : Int) = (.inl (some (tm_cb σ.1 t' r' 34 : Nat)), (tm_serve (tm_gb t' r' 34 (tm_sm σ (34 * t' + r') (tm_ew σ t' r'))) r').2) := (by unfold tm_oEsc; rw [if_neg (fun q => q ⟨h1, h2⟩), Int.toNat_natCast, Int.toNat_natCast, if_neg (fun q => q h3), if_neg h4, if_neg (fun q => q h6)])
              rw [e] at hQ
              refine tl_go 4 91 [(0, .inr 0), (1, .inl ((t' : Nat) : Int)), (2, .inl ((r' : Nat) : Int)), (3, .inl ((tm_ew σ t' r' : Nat) : Int))] [.inl ((tm_ew σ t' r' : Nat) : Int), .inl ((r' : Nat) : Int), .inl ((t' : Nat) : Int), .inr 0] w (fun _ h => h) ?_
              refine tl_callV (as := [.inr 0, .inl ((t' : Nat) : Int), .inl ((r' : Nat) : Int), .inl ((tm_ew σ t' r' : Nat) : Int)]) (rest := []) (v := none) (w' := (tl_set w 0 (34 * t' + r') ((tm_ew σ t' r' : Nat) : Int))) rfl rfl (ta_sm (d + 5) t' r' (by omega) (by omega) _ w) (Nat.le_of_ble_eq_true rfl) rfl rfl rfl (Nat.le_of_ble_eq_true rfl) ?_
              refine tl_go 3 97 [(0, .inr 0), (1, .inl ((t' : Nat) : Int)), (2, .inl ((r' : Nat) : Int)), (3, .inl ((tm_ew σ t' r' : Nat) : Int))] [.inl ((r' : Nat) : Int), .inl ((t' : Nat) : Int), .inr 0] (tl_set w 0 (34 * t' + r') ((tm_ew σ t' r' : Nat) : Int)) (fun _ h => h) ?_
              refine tl_callV (as := [.inr 0, .inl ((t' : Nat) : Int), .inl ((r' : Nat) : Int)]) (rest := []) (v := some ((tm_cb σ.1 t' r' 34 : Nat) : Int)) (w' := w2) rfl rfl (hw2) (Nat.le_of_ble_eq_true rfl) rfl rfl rfl (Nat.le_of_ble_eq_true rfl) ?_
              refine tl_go 3 104 [(0, .inr 0), (1, .inl ((t' : Nat) : Int)), (2, .inl ((r' : Nat) : Int)), (3, .inl ((tm_ew σ t' r' : Nat) : Int)), (4, .inl ((tm_cb σ.1 t' r' 34 : Nat) : Int))] [.inl ((r' : Nat) : Int), .inr 0] w2 (fun _ h => h) ?_
              refine tl_callV (as := [.inr 0, .inl ((r' : Nat) : Int)]) (rest := []) (v := some (((tm_serve (tm_gb t' r' 34 (tm_sm σ (34 * t' + r') (tm_ew σ t' r'))) r').1 : Nat) : Int)) (w' := w3) rfl rfl (hw3) (Nat.le_of_ble_eq_true rfl) rfl rfl rfl (Nat.le_of_ble_eq_true rfl) ?_
              refine tl_go 2 110 [(0, .inr 0), (1, .inl ((t' : Nat) : Int)), (2, .inl ((r' : Nat) : Int)), (3, .inl ((tm_ew σ t' r' : Nat) : Int)), (4, .inl ((tm_cb σ.1 t' r' 34 : Nat) : Int))] [.inl ((tm_cb σ.1 t' r' 34 : Nat) : Int)] w3 (fun _ h => h) ?_
              exact tl_reti rfl rfl (rfl) (hQ w3 hR3)
            · have h6 := of_decide_eq_false (tm_beq (Classical.not_not.mp h6))
              have e : tm_oEsc σ (t' : Int) (r' : Int) = (.inl (some (-1)), σ) := (by unfold tm_oEsc; rw [if_neg (fun q => q ⟨h1, h2⟩), Int.toNat_natCast, Int.toNat_natCast, if_neg (fun q => q h3), if_neg h4, if_pos h6])
              rw [e] at hQ
              refine tl_go 1 86 [(0, .inr 0), (1, .inl ((t' : Nat) : Int)), (2, .inl ((r' : Nat) : Int)), (3, .inl ((tm_ew σ t' r' : Nat) : Int))] [.inl (-1)] w (fun _ h => h) ?_
              exact tl_reti rfl rfl (rfl) (hQ w hR)
          · have h5 := of_decide_eq_true (tm_bne h5)
            have hM5 := hJ.1 (34 * t' + r') (by omega)
            have eew : tm_jn 5 (σ.1 (34 * t' + r')) = tm_ew σ t' r' := by unfold tm_ew; rw [if_pos h5]
            have hw5 : tm_ew σ t' r' ≤ 5 := by rw [← eew]; exact tm_jn5 (by omega) hM5
            refine tl_go 5 68 [(0, .inr 0), (1, .inl ((t' : Nat) : Int)), (2, .inl ((r' : Nat) : Int))] [.inl ((r' : Nat) : Int), .inl ((t' : Nat) : Int), .inr 0, .inl 5] w (fun _ h => h) ?_
            refine tl_callV (as := [.inr 0, .inl ((t' : Nat) : Int), .inl ((r' : Nat) : Int)]) (rest := [.inl 5]) (v := some ((σ.1 (34 * t' + r') : Nat) : Int)) (w' := w) rfl rfl (ta_mo (d + 5) t' r' (by omega) (by omega) w (hR.1 _ (by omega))) (Nat.le_of_ble_eq_true rfl) rfl rfl rfl (Nat.le_of_ble_eq_true rfl) ?_
            refine tl_eq (st' := [.inl ((σ.1 (34 * t' + r') : Nat) : Int), .inl ((5 : Nat) : Int)]) rfl ?_
            refine tl_callS (as := [.inl ((5 : Nat) : Int), .inl ((σ.1 (34 * t' + r') : Nat) : Int)]) (rest := []) (v := some ((tm_jn 5 (σ.1 (34 * t' + r')) : Nat) : Int)) (w' := w) rfl rfl rfl rfl (ta_join (d + 5) 5 (σ.1 (34 * t' + r')) w) (Nat.le_of_ble_eq_true rfl) rfl rfl (Nat.le_of_ble_eq_true rfl) ?_
            refine tl_top (y := ((tm_ew σ t' r' : Nat) : Int)) (by rw [eew]) ?_
            refine tl_go 5 79 [(0, .inr 0), (1, .inl ((t' : Nat) : Int)), (2, .inl ((r' : Nat) : Int)), (3, .inl ((tm_ew σ t' r' : Nat) : Int))] [.inl ((tm_ew σ t' r' : Nat) : Int), .inl ((r' : Nat) : Int), .inl ((t' : Nat) : Int), .inr 0] w (fun _ h => h) ?_
            refine tl_callV (as := [.inr 0, .inl ((t' : Nat) : Int), .inl ((r' : Nat) : Int), .inl ((tm_ew σ t' r' : Nat) : Int)]) (rest := []) (v := some (tm_b (decide (tm_fits σ.1 t' r' (tm_ew σ t' r') = true)))) (w' := w) rfl rfl (ta_fit (d + 4) t' r' (tm_ew σ t' r') (by omega) (by omega) hw5 w hR.1 hJ.1 hR.2.2.2) (Nat.le_of_ble_eq_true rfl) rfl rfl rfl (Nat.le_of_ble_eq_true rfl) ?_
            refine tl_if (¬ (tm_b (decide (tm_fits σ.1 t' r' (tm_ew σ t' r') = true))) = 0) 87 85 [(0, .inr 0), (1, .inl ((t' : Nat) : Int)), (2, .inl ((r' : Nat) : Int)), (3, .inl ((tm_ew σ t' r' : Nat) : Int))] [] (fun _ h => h) (fun h6 => ?_) (fun h6 => ?_)
            · have h6 := of_decide_eq_true (tm_bne h6)
              have hJ1 := tm_sm_J (t := t') (r := r') (m := tm_ew σ t' r') hJ (by omega) (by omega) hw5 (by omega)
              have hR1 := tm_sm_RC hR (i := 34 * t' + r') (m := tm_ew σ t' r')
              obtain ⟨w2, hw2, hR2⟩ := ta_gub d t' r' (by omega) (by omega) _ hJ1 hR1 h3
              rw [tm_cb_sm (by omega)] at hw2
              obtain ⟨w3, hw3, hR3⟩ := ta_sv (d + 2) r' (by omega) w2 (tm_gb_J (by omega) 34 _ (Nat.le_refl _) hJ1 h3).1 hR2
              have e : tm_oEsc σ (t' : Int) (r' : Int) = (.inl (some (tm_cb σ.1 t' r' 34 : Nat)), (tm_serve (tm_gb t' r' 34 (tm_sm σ (34 * t' + r') (tm_ew σ t' r'))) r').2) := (by unfold tm_oEsc; rw [if_neg (fun q => q ⟨h1, h2⟩), Int.toNat_natCast, Int.toNat_natCast, if_neg (fun q => q h3), if_neg h4, if_neg (fun q => q h6)])
              rw [e] at hQ
              refine tl_go 4 91 [(0, .inr 0), (1, .inl ((t' : Nat) : Int)), (2, .inl ((r' : Nat) : Int)), (3, .inl ((tm_ew σ t' r' : Nat) : Int))] [.inl ((tm_ew σ t' r' : Nat) : Int), .inl ((r' : Nat) : Int), .inl ((t' : Nat) : Int), .inr 0] w (fun _ h => h) ?_
              refine tl_callV (as := [.inr 0, .inl ((t' : Nat) : Int), .inl ((r' : Nat) : Int), .inl ((tm_ew σ t' r' : Nat) : Int)]) (rest := []) (v := none) (w' := (tl_set w 0 (34 * t' + r') ((tm_ew σ t' r' : Nat) : Int))) rfl rfl (ta_sm (d + 5) t' r' (by omega) (by omega) _ w) (Nat.le_of_ble_eq_true rfl) rfl rfl rfl (Nat.le_of_ble_eq_true rfl) ?_
              refine tl_go 3 97 [(0, .inr 0), (1, .inl ((t' : Nat) : Int)), (2, .inl ((r' : Nat) : Int)), (3, .inl ((tm_ew σ t' r' : Nat) : Int))] [.inl ((r' : Nat) : Int), .inl ((t' : Nat) : Int), .inr 0] (tl_set w 0 (34 * t' + r') ((tm_ew σ t' r' : Nat) : Int)) (fun _ h => h) ?_
              refine tl_callV (as := [.inr 0, .inl ((t' : Nat) : Int), .inl ((r' : Nat) : Int)]) (rest := []) (v := some ((tm_cb σ.1 t' r' 34 : Nat) : Int)) (w' := w2) rfl rfl (hw2) (Nat.le_of_ble_eq_true rfl) rfl rfl rfl (Nat.le_of_ble_eq_true rfl) ?_
              refine tl_go 3 104 [(0, .inr 0), (1, .inl ((t' : Nat) : Int)), (2, .inl ((r' : Nat) : Int)), (3, .inl ((tm_ew σ t' r' : Nat) : Int)), (4, .inl ((tm_cb σ.1 t' r' 34 : Nat) : Int))] [.inl ((r' : Nat) : Int), .inr 0] w2 (fun _ h => h) ?_
              refine tl_callV (as := [.inr 0, .inl ((r' : Nat) : Int)]) (rest := []) (v := some (((tm_serve (tm_gb t' r' 34 (tm_sm σ (34 * t' + r') (tm_ew σ t' r'))) r').1 : Nat) : Int)) (w' := w3) rfl rfl (hw3) (Nat.le_of_ble_eq_true rfl) rfl rfl rfl (Nat.le_of_ble_eq_true rfl) ?_
              refine tl_go 2 110 [(0, .inr 0), (1, .inl ((t' : Nat) : Int)), (2, .inl ((r' : Nat) : Int)), (3, .inl ((tm_ew σ t' r' : Nat) : Int)), (4, .inl ((tm_cb σ.1 t' r' 34 : Nat) : Int))] [.inl ((tm_cb σ.1 t' r' 34 : Nat) : Int)] w3 (fun _ h => h) ?_
              exact tl_reti rfl rfl (rfl) (hQ w3 hR3)
            · have h6 := of_decide_eq_false (tm_beq (Classical.not_not.mp h6))
              have e : tm_oEsc σ (t' : Int) (r' : Int) = (.inl (some (-1)), σ) := (by unfold tm_oEsc; rw [if_neg (fun q => q ⟨h1, h2⟩), Int.toNat_natCast, Int.toNat_natCast, if_neg (fun q => q h3), if_neg h4, if_pos h6])
              rw [e] at hQ
              refine tl_go 1 86 [(0, .inr 0), (1, .inl ((t' : Nat) : Int)), (2, .inl ((r' : Nat) : Int)), (3, .inl ((tm_ew σ t' r' : Nat) : Int))] [.inl (-1)] w (fun _ h => h) ?_
              exact tl_reti rfl rfl (rfl) (hQ w hR)
        · have h4 : tm_cb σ.1 t' r' 34 = 0 := by omega
          have e : tm_oEsc σ (t' : Int) (r' : Int) = (.inl (some 0), σ) := (by unfold tm_oEsc; rw [if_neg (fun q => q ⟨h1, h2⟩), Int.toNat_natCast, Int.toNat_natCast, if_neg (fun q => q h3), if_pos h4])
          rw [e] at hQ
          refine tl_go 1 50 [(0, .inr 0), (1, .inl ((t' : Nat) : Int)), (2, .inl ((r' : Nat) : Int))] [.inl 0] w (fun _ h => h) ?_
          exact tl_reti rfl rfl (rfl) (hQ w hR)
      · have h3 : ¬ σ.2.1 t' = 1 := by omega
        have e : tm_oEsc σ (t' : Int) (r' : Int) = (.inr 2, σ) := (by unfold tm_oEsc; rw [if_neg (fun q => q ⟨h1, h2⟩), Int.toNat_natCast, Int.toNat_natCast, if_pos h3])
        rw [e] at hQ
        exact tl_thr rfl rfl (hQ w hR)
    · have h2 := of_decide_eq_false (tm_beq (Classical.not_not.mp h2))
      have e : tm_oEsc σ t r = (.inr 1, σ) := if_pos (fun q => h2 q.2)
      rw [e] at hQ
      exact tl_thr rfl rfl (hQ w hR)
