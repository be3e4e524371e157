/-! 17.lock: the class's requests and simple public methods, printed by a6.py -/
def tm_wish (σ : tm_S) (t r m : Nat) : Nat := tm_jn m (σ.1 (34 * t + r))
def tm_req (σ : tm_S) (t r m : Nat) : Nat × tm_S :=
  if tm_cvd σ.1 t r (m : Int) = true then (2, σ)
  else if tm_wish σ t r m = σ.1 (34 * t + r) then (3, σ)
  else if tm_fits σ.1 t r (tm_wish σ t r m) = true ∧ (σ.1 (34 * t + r) ≠ 0 ∨ σ.2.2.2 r = []) then (1, tm_sm σ (34 * t + r) (tm_wish σ t r m))
  else if tm_cir (tm_en σ r t (tm_wish σ t r m) (tm_pl σ t r)) t = true then (4, σ)
  else (0, tm_en σ r t (tm_wish σ t r m) (tm_pl σ t r))
theorem tm_sa_0 {q : List Nat} : tm_sa q 0 = -1 ↔ q = [] := by
  cases q with
  | nil => exact ⟨fun _ => rfl, fun _ => rfl⟩
  | cons t l =>
    constructor
    · intro h
      have h : ((t : Nat) : Int) = -1 := h
      omega
    · intro h; cases h

theorem ta_req (d t r m : Nat) (ht : t < 8) (hr : r < 34) (hm : m ≤ 5) {σ : tm_S} (w : tl_W) (hJ : tm_J σ) (hR : tm_RC w σ) (hs : σ.2.1 t = 1) : ∃ w', tl_Ev ta_P (d + 6) 34 [.inr 0, .inl (t : Int), .inl (r : Int), .inl (m : Int)] w (.inl (some (((tm_req σ t r m).1 : Nat) : Int))) w' ∧ tm_RC w' (tm_req σ t r m).2 := by
  refine tl_exi fun Q hQ => ?_
  have hK := tm_J_K hJ
  have hM5 := hJ.1 (34 * t + r) (by omega)
  have hw5 : tm_wish σ t r m ≤ 5 := tm_jn5 hm hM5
  refine tl_go 4 4 [(0, .inr 0), (1, .inl ((t : Nat) : Int)), (2, .inl ((r : Nat) : Int)), (3, .inl ((m : Nat) : Int))] [.inl ((m : Nat) : Int), .inl ((r : Nat) : Int), .inl ((t : Nat) : Int), .inr 0] w (fun _ h => h) ?_
  refine tl_callV (as := [.inr 0, .inl ((t : Nat) : Int), .inl ((r : Nat) : Int), .inl ((m : Nat) : Int)]) (rest := []) (v := some (tm_b (decide (tm_cvd σ.1 t r (m : Int) = true)))) (w' := w) rfl rfl (ta_cvd (d + 2) t r m ht hr w hR.1 hJ.1) (Nat.le_of_ble_eq_true rfl) rfl rfl rfl (Nat.le_of_ble_eq_true rfl) ?_
  refine tl_if ((tm_b (decide (tm_cvd σ.1 t r (m : Int) = true))) = 0) 12 10 [(0, .inr 0), (1, .inl ((t : Nat) : Int)), (2, .inl ((r : Nat) : Int)), (3, .inl ((m : Nat) : Int))] [] (fun _ h => h) (fun h1 => ?_) (fun h1 => ?_)
  · have h1 := of_decide_eq_false (tm_beq h1)
    refine tl_go 4 16 [(0, .inr 0), (1, .inl ((t : Nat) : Int)), (2, .inl ((r : Nat) : Int)), (3, .inl ((m : Nat) : Int))] [.inl ((r : Nat) : Int), .inl ((t : Nat) : Int), .inr 0, .inl ((m : Nat) : Int)] w (fun _ h => h) ?_
    refine tl_callV (as := [.inr 0, .inl ((t : Nat) : Int), .inl ((r : Nat) : Int)]) (rest := [.inl ((m : Nat) : Int)]) (v := some ((σ.1 (34 * t + r) : Nat) : Int)) (w' := w) rfl rfl (ta_mo (d + 4) t r ht hr w (hR.1 _ (by omega))) (Nat.le_of_ble_eq_true rfl) rfl rfl rfl (Nat.le_of_ble_eq_true rfl) ?_
    refine tl_callS (as := [.inl ((m : Nat) : Int), .inl ((σ.1 (34 * t + r) : Nat) : Int)]) (rest := []) (v := some ((tm_jn m (σ.1 (34 * t + r)) : Nat) : Int)) (w' := w) rfl rfl rfl rfl (ta_join (d + 4) m (σ.1 (34 * t + r)) w) (Nat.le_of_ble_eq_true rfl) rfl rfl (Nat.le_of_ble_eq_true rfl) ?_
    refine tl_top (y := ((tm_wish σ t r m : Nat) : Int)) (rfl) ?_
    refine tl_go 5 29 [(0, .inr 0), (1, .inl ((t : Nat) : Int)), (2, .inl ((r : Nat) : Int)), (3, .inl ((m : Nat) : Int)), (4, .inl ((tm_wish σ t r m : Nat) : Int))] [.inl ((r : Nat) : Int), .inl ((t : Nat) : Int), .inr 0, .inl ((tm_wish σ t r m : Nat) : Int)] w (fun _ h => h) ?_
    refine tl_callV (as := [.inr 0, .inl ((t : Nat) : Int), .inl ((r : Nat) : Int)]) (rest := [.inl ((tm_wish σ t r m : Nat) : Int)]) (v := some ((σ.1 (34 * t + r) : Nat) : Int)) (w' := w) rfl rfl (ta_mo (d + 4) t r ht hr w (hR.1 _ (by omega))) (Nat.le_of_ble_eq_true rfl) rfl rfl rfl (Nat.le_of_ble_eq_true rfl) ?_
    refine tl_if (¬ ((tm_wish σ t r m : Nat) : Int) = ((σ.1 (34 * t + r) : Nat) : Int)) 37 35 [(0, .inr 0), (1, .inl ((t : Nat) : Int)), (2, .inl ((r : Nat) : Int)), (3, .inl ((m : Nat) : Int)), (4, .inl ((tm_wish σ t r m : Nat) : Int))] [] (fun _ h => h) (fun h2 => ?_) (fun h2 => ?_)
    · have h2 : ¬ tm_wish σ t r m = σ.1 (34 * t + r) := fun e => h2 (by rw [e])
      refine tl_go 4 42 [(0, .inr 0), (1, .inl ((t : Nat) : Int)), (2, .inl ((r : Nat) : Int)), (3, .inl ((m : Nat) : Int)), (4, .inl ((tm_wish σ t r m : Nat) : Int))] [.inl ((tm_wish σ t r m : Nat) : Int), .inl ((r : Nat) : Int), .inl ((t : Nat) : Int), .inr 0] w (fun _ h => h) ?_
      refine tl_callV (as := [.inr 0, .inl ((t : Nat) : Int), .inl ((r : Nat) : Int), .inl ((tm_wish σ t r m : Nat) : Int)]) (rest := []) (v := some (tm_b (decide (tm_fits σ.1 t r (tm_wish σ t r m) = true)))) (w' := w) rfl rfl (ta_fit (d + 3) t r (tm_wish σ t r m) ht hr hw5 w hR.1 hJ.1 hR.2.2.2) (Nat.le_of_ble_eq_true rfl) rfl rfl rfl (Nat.le_of_ble_eq_true rfl) ?_
      refine tl_if ((tm_b (decide (tm_fits σ.1 t r (tm_wish σ t r m) = true))) = 0) 77 48 [(0, .inr 0), (1, .inl ((t : Nat) : Int)), (2, .inl ((r : Nat) : Int)), (3, .inl ((m : Nat) : Int)), (4, .inl ((tm_wish σ t r m : Nat) : Int))] [] (fun _ h => h) (fun h5 => ?_) (fun h5 => ?_)
      · have h5 := of_decide_eq_false (tm_beq h5)
        have h3 : ¬ (tm_fits σ.1 t r (tm_wish σ t r m) = true ∧ (σ.1 (34 * t + r) ≠ 0 ∨ σ.2.2.2 r = [])) := fun q => h5 q.1
        have hJ1 := tm_en_J (m := tm_wish σ t r m) hJ ht hr hw5 (by omega)
        have hR1 := tm_en_RC (m := tm_wish σ t r m) hK hR hr ht (by omega) (tm_pl_le σ t r)
        refine tl_go 4 82 [(0, .inr 0), (1, .inl ((t : Nat) : Int)), (2, .inl ((r : Nat) : Int)), (3, .inl ((m : Nat) : Int)), (4, .inl ((tm_wish σ t r m : Nat) : Int))] [.inl ((tm_wish σ t r m : Nat) : Int), .inl ((r : Nat) : Int), .inl ((t : Nat) : Int), .inr 0] w (fun _ h => h) ?_
        refine tl_callV (as := [.inr 0, .inl ((t : Nat) : Int), .inl ((r : Nat) : Int), .inl ((tm_wish σ t r m : Nat) : Int)]) (rest := []) (v := none) (w' := (tl_set (tl_set (tl_set (tm_shf w σ.2.1 r ((tm_pl σ t r : Nat) : Int) 1 8) 1 t ((r + 2 : Nat) : Int)) 2 t ((tm_wish σ t r m : Nat) : Int)) 3 t ((tm_pl σ t r : Nat) : Int))) rfl rfl (ta_en (d + 1) (tm_wish σ t r m) w hK hR hr ht) (Nat.le_of_ble_eq_true rfl) rfl rfl rfl (Nat.le_of_ble_eq_true rfl) ?_
        refine tl_go 2 87 [(0, .inr 0), (1, .inl ((t : Nat) : Int)), (2, .inl ((r : Nat) : Int)), (3, .inl ((m : Nat) : Int)), (4, .inl ((tm_wish σ t r m : Nat) : Int))] [.inl ((t : Nat) : Int), .inr 0] (tl_set (tl_set (tl_set (tm_shf w σ.2.1 r ((tm_pl σ t r : Nat) : Int) 1 8) 1 t ((r + 2 : Nat) : Int)) 2 t ((tm_wish σ t r m : Nat) : Int)) 3 t ((tm_pl σ t r : Nat) : Int)) (fun _ h => h) ?_
        refine tl_callV (as := [.inr 0, .inl ((t : Nat) : Int)]) (rest := []) (v := some (tm_b (decide (tm_cir (tm_en σ r t (tm_wish σ t r m) (tm_pl σ t r)) t = true)))) (w' := (tl_set (tl_set (tl_set (tm_shf w σ.2.1 r ((tm_pl σ t r : Nat) : Int) 1 8) 1 t ((r + 2 : Nat) : Int)) 2 t ((tm_wish σ t r m : Nat) : Int)) 3 t ((tm_pl σ t r : Nat) : Int))) rfl rfl (ta_cir d t ht _ hJ1 hR1) (Nat.le_of_ble_eq_true rfl) rfl rfl rfl (Nat.le_of_ble_eq_true rfl) ?_
        refine tl_if ((tm_b (decide (tm_cir (tm_en σ r t (tm_wish σ t r m) (tm_pl σ t r)) t = true))) = 0) 100 93 [(0, .inr 0), (1, .inl ((t : Nat) : Int)), (2, .inl ((r : Nat) : Int)), (3, .inl ((m : Nat) : Int)), (4, .inl ((tm_wish σ t r m : Nat) : Int))] [] (fun _ h => h) (fun h4 => ?_) (fun h4 => ?_)
        · have h4 := of_decide_eq_false (tm_beq h4)
          have e : tm_req σ t r m = (0, tm_en σ r t (tm_wish σ t r m) (tm_pl σ t r)) := by unfold tm_req; rw [if_neg h1, if_neg h2, if_neg h3, if_neg h4]
          rw [e] at hQ
          refine tl_go 1 101 [(0, .inr 0), (1, .inl ((t : Nat) : Int)), (2, .inl ((r : Nat) : Int)), (3, .inl ((m : Nat) : Int)), (4, .inl ((tm_wish σ t r m : Nat) : Int))] [.inl 0] (tl_set (tl_set (tl_set (tm_shf w σ.2.1 r ((tm_pl σ t r : Nat) : Int) 1 8) 1 t ((r + 2 : Nat) : Int)) 2 t ((tm_wish σ t r m : Nat) : Int)) 3 t ((tm_pl σ t r : Nat) : Int)) (fun _ h => h) ?_
          exact tl_reti rfl rfl (rfl) (hQ _ hR1)
        · have h4 := of_decide_eq_true (tm_bne h4)
          have e : tm_req σ t r m = (4, σ) := by unfold tm_req; rw [if_neg h1, if_neg h2, if_neg h3, if_pos h4]
          rw [e] at hQ
          have hkp : ((tm_en σ r t (tm_wish σ t r m) (tm_pl σ t r)).2.2.2 r)[tm_pl σ t r]? = some t := by
            show (va_up σ.2.2.2 r _ r)[tm_pl σ t r]? = some t
            rw [va_up_s, tm_ins (tm_pl_le σ t r), if_neg (by omega), if_pos rfl]
          have hR2 := tm_lv_RC (tm_J_K hJ1) hR1 hr hkp
          rw [tm_lv_en hs ((hJ.2.1 t ht).2.2 (by omega)) (tm_pl_le σ t r)] at hR2
          refine tl_go 2 95 [(0, .inr 0), (1, .inl ((t : Nat) : Int)), (2, .inl ((r : Nat) : Int)), (3, .inl ((m : Nat) : Int)), (4, .inl ((tm_wish σ t r m : Nat) : Int))] [.inl ((t : Nat) : Int), .inr 0] (tl_set (tl_set (tl_set (tm_shf w σ.2.1 r ((tm_pl σ t r : Nat) : Int) 1 8) 1 t ((r + 2 : Nat) : Int)) 2 t ((tm_wish σ t r m : Nat) : Int)) 3 t ((tm_pl σ t r : Nat) : Int)) (fun _ h => h) ?_
          refine tl_callV (as := [.inr 0, .inl ((t : Nat) : Int)]) (rest := []) (v := none) (w' := (tm_shf (tl_set (tl_set (tl_set (tl_set (tl_set (tm_shf w σ.2.1 r ((tm_pl σ t r : Nat) : Int) 1 8) 1 t ((r + 2 : Nat) : Int)) 2 t ((tm_wish σ t r m : Nat) : Int)) 3 t ((tm_pl σ t r : Nat) : Int)) 1 t 1) 2 t 0) (va_up (tm_en σ r t (tm_wish σ t r m) (tm_pl σ t r)).2.1 t 1) r ((tl_set (tl_set (tl_set (tm_shf w σ.2.1 r ((tm_pl σ t r : Nat) : Int) 1 8) 1 t ((r + 2 : Nat) : Int)) 2 t ((tm_wish σ t r m : Nat) : Int)) 3 t ((tm_pl σ t r : Nat) : Int)) 3 t) (-1) 8)) rfl rfl (ta_lv (d + 2) (σ := tm_en σ r t (tm_wish σ t r m) (tm_pl σ t r)) _ (tm_J_K hJ1) hR1 hr hkp) (Nat.le_of_ble_eq_true rfl) rfl rfl rfl (Nat.le_of_ble_eq_true rfl) ?_
          refine tl_go 1 99 [(0, .inr 0), (1, .inl ((t : Nat) : Int)), (2, .inl ((r : Nat) : Int)), (3, .inl ((m : Nat) : Int)), (4, .inl ((tm_wish σ t r m : Nat) : Int))] [.inl 4] (tm_shf (tl_set (tl_set (tl_set (tl_set (tl_set (tm_shf w σ.2.1 r ((tm_pl σ t r : Nat) : Int) 1 8) 1 t ((r + 2 : Nat) : Int)) 2 t ((tm_wish σ t r m : Nat) : Int)) 3 t ((tm_pl σ t r : Nat) : Int)) 1 t 1) 2 t 0) (va_up (tm_en σ r t (tm_wish σ t r m) (tm_pl σ t r)).2.1 t 1) r ((tl_set (tl_set (tl_set (tm_shf w σ.2.1 r ((tm_pl σ t r : Nat) : Int) 1 8) 1 t ((r + 2 : Nat) : Int)) 2 t ((tm_wish σ t r m : Nat) : Int)) 3 t ((tm_pl σ t r : Nat) : Int)) 3 t) (-1) 8) (fun _ h => h) ?_
          exact tl_reti rfl rfl (rfl) (hQ _ hR2)
      · have h5 := of_decide_eq_true (tm_bne h5)
        refine tl_go 3 51 [(0, .inr 0), (1, .inl ((t : Nat) : Int)), (2, .inl ((r : Nat) : Int)), (3, .inl ((m : Nat) : Int)), (4, .inl ((tm_wish σ t r m : Nat) : Int))] [.inl ((r : Nat) : Int), .inl ((t : Nat) : Int), .inr 0] w (fun _ h => h) ?_
        refine tl_callV (as := [.inr 0, .inl ((t : Nat) : Int), .inl ((r : Nat) : Int)]) (rest := []) (v := some (tm_b (decide (σ.1 (34 * t + r) ≠ 0)))) (w' := w) rfl rfl (ta_ih (d + 3) t r ht hr w (hR.1 _ (by omega))) (Nat.le_of_ble_eq_true rfl) rfl rfl rfl (Nat.le_of_ble_eq_true rfl) ?_
        refine tl_if (¬ (tm_b (decide (σ.1 (34 * t + r) ≠ 0))) = 0) 67 57 [(0, .inr 0), (1, .inl ((t : Nat) : Int)), (2, .inl ((r : Nat) : Int)), (3, .inl ((m : Nat) : Int)), (4, .inl ((tm_wish σ t r m : Nat) : Int))] [] (fun _ h => h) (fun h6 => ?_) (fun h6 => ?_)
        · have h6 := of_decide_eq_true (tm_bne h6)
          have e : tm_req σ t r m = (1, tm_sm σ (34 * t + r) (tm_wish σ t r m)) := by unfold tm_req; rw [if_neg h1, if_neg h2, if_pos ⟨h5, Or.inl h6⟩]
          rw [e] at hQ
          refine tl_go 4 72 [(0, .inr 0), (1, .inl ((t : Nat) : Int)), (2, .inl ((r : Nat) : Int)), (3, .inl ((m : Nat) : Int)), (4, .inl ((tm_wish σ t r m : Nat) : Int))] [.inl ((tm_wish σ t r m : Nat) : Int), .inl ((r : Nat) : Int), .inl ((t : Nat) : Int), .inr 0] w (fun _ h => h) ?_
          refine tl_callV (as := [.inr 0, .inl ((t : Nat) : Int), .inl ((r : Nat) : Int), .inl ((tm_wish σ t r m : Nat) : Int)]) (rest := []) (v := none) (w' := (tl_set w 0 (34 * t + r) ((tm_wish σ t r m : Nat) : Int))) rfl rfl (ta_sm (d + 4) t r ht hr _ w) (Nat.le_of_ble_eq_true rfl) rfl rfl rfl (Nat.le_of_ble_eq_true rfl) ?_
          refine tl_go 1 76 [(0, .inr 0), (1, .inl ((t : Nat) : Int)), (2, .inl ((r : Nat) : Int)), (3, .inl ((m : Nat) : Int)), (4, .inl ((tm_wish σ t r m : Nat) : Int))] [.inl 1] (tl_set w 0 (34 * t + r) ((tm_wish σ t r m : Nat) : Int)) (fun _ h => h) ?_
          exact tl_reti rfl rfl (rfl) (hQ _ (tm_sm_RC hR))
        · have h6 := of_decide_eq_false (tm_beq (Classical.not_not.mp h6))
          refine tl_go 3 60 [(0, .inr 0), (1, .inl ((t : Nat) : Int)), (2, .inl ((r : Nat) : Int)), (3, .inl ((m : Nat) : Int)), (4, .inl ((tm_wish σ t r m : Nat) : Int))] [.inl 0, .inl ((r : Nat) : Int), .inr 0] w (fun _ h => h) ?_
          refine tl_callV (as := [.inr 0, .inl ((r : Nat) : Int), .inl 0]) (rest := []) (v := some (tm_sa (σ.2.2.2 r) 0)) (w' := w) rfl rfl (ta_sa (d + 3) r 0 hr w hJ (tm_RC_3 hR)) (Nat.le_of_ble_eq_true rfl) rfl rfl rfl (Nat.le_of_ble_eq_true rfl) ?_
          refine tl_go 1 64 [(0, .inr 0), (1, .inl ((t : Nat) : Int)), (2, .inl ((r : Nat) : Int)), (3, .inl ((m : Nat) : Int)), (4, .inl ((tm_wish σ t r m : Nat) : Int))] [.inl (-1), .inl (tm_sa (σ.2.2.2 r) 0)] w (fun _ h => h) ?_
          refine tl_if (¬ (tm_sa (σ.2.2.2 r) 0) = (-1)) 77 67 [(0, .inr 0), (1, .inl ((t : Nat) : Int)), (2, .inl ((r : Nat) : Int)), (3, .inl ((m : Nat) : Int)), (4, .inl ((tm_wish σ t r m : Nat) : Int))] [] (fun _ h => h) (fun h7 => ?_) (fun h7 => ?_)
          · have h3 : ¬ (tm_fits σ.1 t r (tm_wish σ t r m) = true ∧ (σ.1 (34 * t + r) ≠ 0 ∨ σ.2.2.2 r = [])) := fun q => q.2.elim h6 (fun z => h7 (tm_sa_0.mpr z))
            have hJ1 := tm_en_J (m := tm_wish σ t r m) hJ ht hr hw5 (by omega)
            have hR1 := tm_en_RC (m := tm_wish σ t r m) hK hR hr ht (by omega) (tm_pl_le σ t r)
            refine tl_go 4 82 [(0, .inr 0), (1, .inl ((t : Nat) : Int)), (2, .inl ((r : Nat) : Int)), (3, .inl ((m : Nat) : Int)), (4, .inl ((tm_wish σ t r m : Nat) : Int))] [.inl ((tm_wish σ t r m : Nat) : Int), .inl ((r : Nat) : Int), .inl ((t : Nat) : Int), .inr 0] w (fun _ h => h) ?_
            refine tl_callV (as := [.inr 0, .inl ((t : Nat) : Int), .inl ((r : Nat) : Int), .inl ((tm_wish σ t r m : Nat) : Int)]) (rest := []) (v := none) (w' := (tl_set (tl_set (tl_set (tm_shf w σ.2.1 r ((tm_pl σ t r : Nat) : Int) 1 8) 1 t ((r + 2 : Nat) : Int)) 2 t ((tm_wish σ t r m : Nat) : Int)) 3 t ((tm_pl σ t r : Nat) : Int))) rfl rfl (ta_en (d + 1) (tm_wish σ t r m) w hK hR hr ht) (Nat.le_of_ble_eq_true rfl) rfl rfl rfl (Nat.le_of_ble_eq_true rfl) ?_
            refine tl_go 2 87 [(0, .inr 0), (1, .inl ((t : Nat) : Int)), (2, .inl ((r : Nat) : Int)), (3, .inl ((m : Nat) : Int)), (4, .inl ((tm_wish σ t r m : Nat) : Int))] [.inl ((t : Nat) : Int), .inr 0] (tl_set (tl_set (tl_set (tm_shf w σ.2.1 r ((tm_pl σ t r : Nat) : Int) 1 8) 1 t ((r + 2 : Nat) : Int)) 2 t ((tm_wish σ t r m : Nat) : Int)) 3 t ((tm_pl σ t r : Nat) : Int)) (fun _ h => h) ?_
            refine tl_callV (as := [.inr 0, .inl ((t : Nat) : Int)]) (rest := []) (v := some (tm_b (decide (tm_cir (tm_en σ r t (tm_wish σ t r m) (tm_pl σ t r)) t = true)))) (w' := (tl_set (tl_set (tl_set (tm_shf w σ.2.1 r ((tm_pl σ t r : Nat) : Int) 1 8) 1 t ((r + 2 : Nat) : Int)) 2 t ((tm_wish σ t r m : Nat) : Int)) 3 t ((tm_pl σ t r : Nat) : Int))) rfl rfl (ta_cir d t ht _ hJ1 hR1) (Nat.le_of_ble_eq_true rfl) rfl rfl rfl (Nat.le_of_ble_eq_true rfl) ?_
            refine tl_if ((tm_b (decide (tm_cir (tm_en σ r t (tm_wish σ t r m) (tm_pl σ t r)) t = true))) = 0) 100 93 [(0, .inr 0), (1, .inl ((t : Nat) : Int)), (2, .inl ((r : Nat) : Int)), (3, .inl ((m : Nat) : Int)), (4, .inl ((tm_wish σ t r m : Nat) : Int))] [] (fun _ h => h) (fun h4 => ?_) (fun h4 => ?_)
            · have h4 := of_decide_eq_false (tm_beq h4)
              have e : tm_req σ t r m = (0, tm_en σ r t (tm_wish σ t r m) (tm_pl σ t r)) := by unfold tm_req; rw [if_neg h1, if_neg h2, if_neg h3, if_neg h4]
              rw [e] at hQ
              refine tl_go 1 101 [(0, .inr 0), (1, .inl ((t : Nat) : Int)), (2, .inl ((r : Nat) : Int)), (3, .inl ((m : Nat) : Int)), (4, .inl ((tm_wish σ t r m : Nat) : Int))] [.inl 0] (tl_set (tl_set (tl_set (tm_shf w σ.2.1 r ((tm_pl σ t r : Nat) : Int) 1 8) 1 t ((r + 2 : Nat) : Int)) 2 t ((tm_wish σ t r m : Nat) : Int)) 3 t ((tm_pl σ t r : Nat) : Int)) (fun _ h => h) ?_
              exact tl_reti rfl rfl (rfl) (hQ _ hR1)
            · have h4 := of_decide_eq_true (tm_bne h4)
              have e : tm_req σ t r m = (4, σ) := by unfold tm_req; rw [if_neg h1, if_neg h2, if_neg h3, if_pos h4]
              rw [e] at hQ
              have hkp : ((tm_en σ r t (tm_wish σ t r m) (tm_pl σ t r)).2.2.2 r)[tm_pl σ t r]? = some t := by
                show (va_up σ.2.2.2 r _ r)[tm_pl σ t r]? = some t
                rw [va_up_s, tm_ins (tm_pl_le σ t r), if_neg (by omega), if_pos rfl]
              have hR2 := tm_lv_RC (tm_J_K hJ1) hR1 hr hkp
              rw [tm_lv_en hs ((hJ.2.1 t ht).2.2 (by omega)) (tm_pl_le σ t r)] at hR2
              refine tl_go 2 95 [(0, .inr 0), (1, .inl ((t : Nat) : Int)), (2, .inl ((r : Nat) : Int)), (3, .inl ((m : Nat) : Int)), (4, .inl ((tm_wish σ t r m : Nat) : Int))] [.inl ((t : Nat) : Int), .inr 0] (tl_set (tl_set (tl_set (tm_shf w σ.2.1 r ((tm_pl σ t r : Nat) : Int) 1 8) 1 t ((r + 2 : Nat) : Int)) 2 t ((tm_wish σ t r m : Nat) : Int)) 3 t ((tm_pl σ t r : Nat) : Int)) (fun _ h => h) ?_
              refine tl_callV (as := [.inr 0, .inl ((t : Nat) : Int)]) (rest := []) (v := none) (w' := (tm_shf (tl_set (tl_set (tl_set (tl_set (tl_set (tm_shf w σ.2.1 r ((tm_pl σ t r : Nat) : Int) 1 8) 1 t ((r + 2 : Nat) : Int)) 2 t ((tm_wish σ t r m : Nat) : Int)) 3 t ((tm_pl σ t r : Nat) : Int)) 1 t 1) 2 t 0) (va_up (tm_en σ r t (tm_wish σ t r m) (tm_pl σ t r)).2.1 t 1) r ((tl_set (tl_set (tl_set (tm_shf w σ.2.1 r ((tm_pl σ t r : Nat) : Int) 1 8) 1 t ((r + 2 : Nat) : Int)) 2 t ((tm_wish σ t r m : Nat) : Int)) 3 t ((tm_pl σ t r : Nat) : Int)) 3 t) (-1) 8)) rfl rfl (ta_lv (d + 2) (σ := tm_en σ r t (tm_wish σ t r m) (tm_pl σ t r)) _ (tm_J_K hJ1) hR1 hr hkp) (Nat.le_of_ble_eq_true rfl) rfl rfl rfl (Nat.le_of_ble_eq_true rfl) ?_
              refine tl_go 1 99 [(0, .inr 0), (1, .inl ((t : Nat) : Int)), (2, .inl ((r : Nat) : Int)), (3, .inl ((m : Nat) : Int)), (4, .inl ((tm_wish σ t r m : Nat) : Int))] [.inl 4] (tm_shf (tl_set (tl_set (tl_set (tl_set (tl_set (tm_shf w σ.2.1 r ((tm_pl σ t r : Nat) : Int) 1 8) 1 t ((r + 2 : Nat) : Int)) 2 t ((tm_wish σ t r m : Nat) : Int)) 3 t ((tm_pl σ t r : Nat) : Int)) 1 t 1) 2 t 0) (va_up (tm_en σ r t (tm_wish σ t r m) (tm_pl σ t r)).2.1 t 1) r ((tl_set (tl_set (tl_set (tm_shf w σ.2.1 r ((tm_pl σ t r : Nat) : Int) 1 8) 1 t ((r + 2 : Nat) : Int)) 2 t ((tm_wish σ t r m : Nat) : Int)) 3 t ((tm_pl σ t r : Nat) : Int)) 3 t) (-1) 8) (fun _ h => h) ?_
              exact tl_reti rfl rfl (rfl) (hQ _ hR2)
          · have e : tm_req σ t r m = (1, tm_sm σ (34 * t + r) (tm_wish σ t r m)) := by unfold tm_req; rw [if_neg h1, if_neg h2, if_pos ⟨h5, Or.inr (tm_sa_0.mp (Classical.not_not.mp h7))⟩]
            rw [e] at hQ
            refine tl_go 4 72 [(0, .inr 0), (1, .inl ((t : Nat) : Int)), (2, .inl ((r : Nat) : Int)), (3, .inl ((m : Nat) : Int)), (4, .inl ((tm_wish σ t r m : Nat) : Int))] [.inl ((tm_wish σ t r m : Nat) : Int), .inl ((r : Nat) : Int), .inl ((t : Nat) : Int), .inr 0] w (fun _ h => h) ?_
            refine tl_callV (as := [.inr 0, .inl ((t : Nat) : Int), .inl ((r : Nat) : Int), .inl ((tm_wish σ t r m : Nat) : Int)]) (rest := []) (v := none) (w' := (tl_set w 0 (34 * t + r) ((tm_wish σ t r m : Nat) : Int))) rfl rfl (ta_sm (d + 4) t r ht hr _ w) (Nat.le_of_ble_eq_true rfl) rfl rfl rfl (Nat.le_of_ble_eq_true rfl) ?_
            refine tl_go 1 76 [(0, .inr 0), (1, .inl ((t : Nat) : Int)), (2, .inl ((r : Nat) : Int)), (3, .inl ((m : Nat) : Int)), (4, .inl ((tm_wish σ t r m : Nat) : Int))] [.inl 1] (tl_set w 0 (34 * t + r) ((tm_wish σ t r m : Nat) : Int)) (fun _ h => h) ?_
            exact tl_reti rfl rfl (rfl) (hQ _ (tm_sm_RC hR))
    · have e : tm_req σ t r m = (3, σ) := by unfold tm_req; rw [if_neg h1, if_pos (by omega)]
      rw [e] at hQ
      refine tl_go 1 36 [(0, .inr 0), (1, .inl ((t : Nat) : Int)), (2, .inl ((r : Nat) : Int)), (3, .inl ((m : Nat) : Int)), (4, .inl ((tm_wish σ t r m : Nat) : Int))] [.inl 3] w (fun _ h => h) ?_
      exact tl_reti rfl rfl (rfl) (hQ w hR)
  · have h1 := of_decide_eq_true (tm_bne h1)
    have e : tm_req σ t r m = (2, σ) := by unfold tm_req; rw [if_pos h1]
    rw [e] at hQ
    refine tl_go 1 11 [(0, .inr 0), (1, .inl ((t : Nat) : Int)), (2, .inl ((r : Nat) : Int)), (3, .inl ((m : Nat) : Int))] [.inl 2] w (fun _ h => h) ?_
    exact tl_reti rfl rfl (rfl) (hQ w hR)
def tm_qHeld (σ : tm_S) (t r : Int) : Int := if (0 ≤ t ∧ t < 8) ∧ (0 ≤ r ∧ r < 34) then (σ.1 (34 * t.toNat + r.toNat) : Int) else -1
def tm_qState (σ : tm_S) (t : Int) : Int := if 0 ≤ t ∧ t < 8 then (σ.2.1 t.toNat : Int) else -1
def tm_qWanted (σ : tm_S) (t : Int) : Int := if 0 ≤ t ∧ t < 8 then (σ.2.2.1 t.toNat : Int) else -1
def tm_qQueue (σ : tm_S) (r k : Int) : Int := if 0 ≤ r ∧ r < 34 then tm_sa (σ.2.2.2 r.toNat) k else -1
def tm_qWaits (σ : tm_S) (t : Int) : Int := if 0 ≤ t ∧ t < 8 then (tm_bk σ t.toNat : Int) else -1
def tm_qAcc (σ : tm_S) (t r : Int) : Int := if (0 ≤ t ∧ t < 8) ∧ (10 ≤ r ∧ r < 34) then ((max (tm_rt (σ.1 (34 * t.toNat + r.toNat))) (tm_rfa σ.1 t.toNat (tm_an 3 r.toNat) 0) : Nat) : Int) else -1
def tm_lk (M : Nat → Nat) (t i : Nat) : Nat := (List.range i).countP (fun c => decide (M (34 * t + c) ≠ 0))
def tm_qLocks (σ : tm_S) (t : Int) : Int := if 0 ≤ t ∧ t < 8 then (tm_lk σ.1 t.toNat 34 : Int) else -1
theorem tm_lk_s (M : Nat → Nat) (t i : Nat) : tm_lk M t (i + 1) = tm_lk M t i + (if M (34 * t + i) ≠ 0 then 1 else 0) := by
  unfold tm_lk
  rw [List.range_succ, List.countP_append, List.countP_singleton]
  by_cases h : M (34 * t + i) ≠ 0
  · rw [if_pos h, if_pos (decide_eq_true h)]
  · rw [if_neg h, if_neg (fun q => h (of_decide_eq_true q))]
theorem tm_lk_le (M : Nat → Nat) (t i : Nat) : tm_lk M t i ≤ i := by
  unfold tm_lk
  exact Nat.le_trans (List.countP_le_length) (by rw [List.length_range]; exact Nat.le_refl _)

theorem ta_held (d : Nat) (t r : Int) {σ : tm_S} (w : tl_W) (hJ : tm_J σ) (hR : tm_RC w σ) : tl_Ev ta_P (d + 2) 6 [.inr 0, .inl t, .inl r] w (.inl (some (tm_qHeld σ t r))) w := by
  refine tl_start fun Q hQ => ?_
  refine tl_go 1 1 [(0, .inr 0), (1, .inl t), (2, .inl r)] [.inl t] w (fun _ h => h) ?_
  refine tl_callS (as := [.inl t]) (rest := []) (v := some (tm_b (decide (0 ≤ t ∧ t < 8)))) (w' := w) rfl rfl rfl rfl (ta_isT d t w) (Nat.le_of_ble_eq_true rfl) rfl rfl (Nat.le_of_ble_eq_true rfl) ?_
  refine tl_if ((tm_b (decide (0 ≤ t ∧ t < 8))) = 0) 23 7 [(0, .inr 0), (1, .inl t), (2, .inl r)] [] (fun _ h => h) (fun h1 => ?_) (fun h1 => ?_)
  · have h1 := of_decide_eq_false (tm_beq h1)
    refine tl_go 1 24 [(0, .inr 0), (1, .inl t), (2, .inl r)] [.inl (-1)] w (fun _ h => h) ?_
    exact tl_reti rfl rfl (by unfold tm_qHeld; rw [if_neg (fun q => h1 q.1)]) (hQ)
  · have h1 := of_decide_eq_true (tm_bne h1)
    refine tl_go 1 8 [(0, .inr 0), (1, .inl t), (2, .inl r)] [.inl r] w (fun _ h => h) ?_
    refine tl_callS (as := [.inl r]) (rest := []) (v := some (tm_b (decide (0 ≤ r ∧ r < 34)))) (w' := w) rfl rfl rfl rfl (ta_isR d r w) (Nat.le_of_ble_eq_true rfl) rfl rfl (Nat.le_of_ble_eq_true rfl) ?_
    refine tl_if ((tm_b (decide (0 ≤ r ∧ r < 34))) = 0) 23 14 [(0, .inr 0), (1, .inl t), (2, .inl r)] [] (fun _ h => h) (fun h2 => ?_) (fun h2 => ?_)
    · have h2 := of_decide_eq_false (tm_beq h2)
      refine tl_go 1 24 [(0, .inr 0), (1, .inl t), (2, .inl r)] [.inl (-1)] w (fun _ h => h) ?_
      exact tl_reti rfl rfl (by unfold tm_qHeld; rw [if_neg (fun q => h2 q.2)]) (hQ)
    · have h2 := of_decide_eq_true (tm_bne h2)
      obtain ⟨t', rfl⟩ : ∃ n : Nat, t = n := ⟨t.toNat, by omega⟩
      obtain ⟨r', rfl⟩ : ∃ n : Nat, r = n := ⟨r.toNat, by omega⟩
      refine tl_go 3 17 [(0, .inr 0), (1, .inl ((t' : Nat) : Int)), (2, .inl ((r' : Nat) : Int))] [.inl ((r' : Nat) : Int), .inl ((t' : Nat) : Int), .inr 0] w (fun _ h => h) ?_
      refine tl_callV (as := [.inr 0, .inl ((t' : Nat) : Int), .inl ((r' : Nat) : Int)]) (rest := []) (v := some ((σ.1 (34 * t' + r') : Nat) : Int)) (w' := w) rfl rfl (ta_mo d t' r' (by omega) (by omega) w (hR.1 _ (by omega))) (Nat.le_of_ble_eq_true rfl) rfl rfl rfl (Nat.le_of_ble_eq_true rfl) ?_
      refine tl_go 1 24 [(0, .inr 0), (1, .inl ((t' : Nat) : Int)), (2, .inl ((r' : Nat) : Int))] [.inl ((σ.1 (34 * t' + r') : Nat) : Int)] w (fun _ h => h) ?_
      exact tl_reti rfl rfl (by unfold tm_qHeld; rw [if_pos ⟨h1, h2⟩, Int.toNat_natCast, Int.toNat_natCast]) (hQ)
theorem ta_state (d : Nat) (t : Int) {σ : tm_S} (w : tl_W) (hJ : tm_J σ) (hR : tm_RC w σ) : tl_Ev ta_P (d + 2) 7 [.inr 0, .inl t] w (.inl (some (tm_qState σ t))) w := by
  refine tl_start fun Q hQ => ?_
  refine tl_go 1 1 [(0, .inr 0), (1, .inl t)] [.inl t] w (fun _ h => h) ?_
  refine tl_callS (as := [.inl t]) (rest := []) (v := some (tm_b (decide (0 ≤ t ∧ t < 8)))) (w' := w) rfl rfl rfl rfl (ta_isT d t w) (Nat.le_of_ble_eq_true rfl) rfl rfl (Nat.le_of_ble_eq_true rfl) ?_
  refine tl_if ((tm_b (decide (0 ≤ t ∧ t < 8))) = 0) 16 7 [(0, .inr 0), (1, .inl t)] [] (fun _ h => h) (fun h1 => ?_) (fun h1 => ?_)
  · have h1 := of_decide_eq_false (tm_beq h1)
    refine tl_go 1 17 [(0, .inr 0), (1, .inl t)] [.inl (-1)] w (fun _ h => h) ?_
    exact tl_reti rfl rfl (by unfold tm_qState; rw [if_neg h1]) (hQ)
  · have h1 := of_decide_eq_true (tm_bne h1)
    obtain ⟨t', rfl⟩ : ∃ n : Nat, t = n := ⟨t.toNat, by omega⟩
    refine tl_go 3 12 [(0, .inr 0), (1, .inl ((t' : Nat) : Int))] [.inl ((t' : Nat) : Int), .inr 2] w (fun _ h => And.intro rfl (And.intro (by decide) (h))) ?_
    refine tl_ald (t') 8 (k := 1) rfl (by omega) rfl (by omega) ?_
    refine tl_top (y := ((σ.2.1 t' : Nat) : Int)) ((hR.2.1 t' (by omega)).1) ?_
    refine tl_go 1 17 [(0, .inr 0), (1, .inl ((t' : Nat) : Int))] [.inl ((σ.2.1 t' : Nat) : Int)] w (fun _ h => h) ?_
    exact tl_reti rfl rfl (by unfold tm_qState; rw [if_pos h1, Int.toNat_natCast]) (hQ)
theorem ta_wanted (d : Nat) (t : Int) {σ : tm_S} (w : tl_W) (hJ : tm_J σ) (hR : tm_RC w σ) : tl_Ev ta_P (d + 2) 8 [.inr 0, .inl t] w (.inl (some (tm_qWanted σ t))) w := by
  refine tl_start fun Q hQ => ?_
  refine tl_go 1 1 [(0, .inr 0), (1, .inl t)] [.inl t] w (fun _ h => h) ?_
  refine tl_callS (as := [.inl t]) (rest := []) (v := some (tm_b (decide (0 ≤ t ∧ t < 8)))) (w' := w) rfl rfl rfl rfl (ta_isT d t w) (Nat.le_of_ble_eq_true rfl) rfl rfl (Nat.le_of_ble_eq_true rfl) ?_
  refine tl_if ((tm_b (decide (0 ≤ t ∧ t < 8))) = 0) 16 7 [(0, .inr 0), (1, .inl t)] [] (fun _ h => h) (fun h1 => ?_) (fun h1 => ?_)
  · have h1 := of_decide_eq_false (tm_beq h1)
    refine tl_go 1 17 [(0, .inr 0), (1, .inl t)] [.inl (-1)] w (fun _ h => h) ?_
    exact tl_reti rfl rfl (by unfold tm_qWanted; rw [if_neg h1]) (hQ)
  · have h1 := of_decide_eq_true (tm_bne h1)
    obtain ⟨t', rfl⟩ : ∃ n : Nat, t = n := ⟨t.toNat, by omega⟩
    refine tl_go 3 12 [(0, .inr 0), (1, .inl ((t' : Nat) : Int))] [.inl ((t' : Nat) : Int), .inr 3] w (fun _ h => And.intro rfl (And.intro (by decide) (h))) ?_
    refine tl_ald (t') 8 (k := 2) rfl (by omega) rfl (by omega) ?_
    refine tl_top (y := ((σ.2.2.1 t' : Nat) : Int)) ((hR.2.1 t' (by omega)).2) ?_
    refine tl_go 1 17 [(0, .inr 0), (1, .inl ((t' : Nat) : Int))] [.inl ((σ.2.2.1 t' : Nat) : Int)] w (fun _ h => h) ?_
    exact tl_reti rfl rfl (by unfold tm_qWanted; rw [if_pos h1, Int.toNat_natCast]) (hQ)
theorem ta_queue (d : Nat) (r k : Int) {σ : tm_S} (w : tl_W) (hJ : tm_J σ) (hR : tm_RC w σ) : tl_Ev ta_P (d + 3) 9 [.inr 0, .inl r, .inl k] w (.inl (some (tm_qQueue σ r k))) w := by
  refine tl_start fun Q hQ => ?_
  refine tl_go 1 1 [(0, .inr 0), (1, .inl r), (2, .inl k)] [.inl r] w (fun _ h => h) ?_
  refine tl_callS (as := [.inl r]) (rest := []) (v := some (tm_b (decide (0 ≤ r ∧ r < 34)))) (w' := w) rfl rfl rfl rfl (ta_isR (d + 1) r w) (Nat.le_of_ble_eq_true rfl) rfl rfl (Nat.le_of_ble_eq_true rfl) ?_
  refine tl_if ((tm_b (decide (0 ≤ r ∧ r < 34))) = 0) 16 7 [(0, .inr 0), (1, .inl r), (2, .inl k)] [] (fun _ h => h) (fun h1 => ?_) (fun h1 => ?_)
  · have h1 := of_decide_eq_false (tm_beq h1)
    refine tl_go 1 17 [(0, .inr 0), (1, .inl r), (2, .inl k)] [.inl (-1)] w (fun _ h => h) ?_
    exact tl_reti rfl rfl (by unfold tm_qQueue; rw [if_neg h1]) (hQ)
  · have h1 := of_decide_eq_true (tm_bne h1)
    obtain ⟨r', rfl⟩ : ∃ n : Nat, r = n := ⟨r.toNat, by omega⟩
    refine tl_go 3 10 [(0, .inr 0), (1, .inl ((r' : Nat) : Int)), (2, .inl k)] [.inl k, .inl ((r' : Nat) : Int), .inr 0] w (fun _ h => h) ?_
    refine tl_callV (as := [.inr 0, .inl ((r' : Nat) : Int), .inl k]) (rest := []) (v := some (tm_sa (σ.2.2.2 r') k)) (w' := w) rfl rfl (ta_sa d r' k (by omega) w hJ (tm_RC_3 hR)) (Nat.le_of_ble_eq_true rfl) rfl rfl rfl (Nat.le_of_ble_eq_true rfl) ?_
    refine tl_go 1 17 [(0, .inr 0), (1, .inl ((r' : Nat) : Int)), (2, .inl k)] [.inl (tm_sa (σ.2.2.2 r') k)] w (fun _ h => h) ?_
    exact tl_reti rfl rfl (by unfold tm_qQueue; rw [if_pos h1, Int.toNat_natCast]) (hQ)
theorem ta_waits (d : Nat) (t : Int) {σ : tm_S} (w : tl_W) (hJ : tm_J σ) (hR : tm_RC w σ) : tl_Ev ta_P (d + 4) 10 [.inr 0, .inl t] w (.inl (some (tm_qWaits σ t))) w := by
  refine tl_start fun Q hQ => ?_
  refine tl_go 1 1 [(0, .inr 0), (1, .inl t)] [.inl t] w (fun _ h => h) ?_
  refine tl_callS (as := [.inl t]) (rest := []) (v := some (tm_b (decide (0 ≤ t ∧ t < 8)))) (w' := w) rfl rfl rfl rfl (ta_isT (d + 2) t w) (Nat.le_of_ble_eq_true rfl) rfl rfl (Nat.le_of_ble_eq_true rfl) ?_
  refine tl_if ((tm_b (decide (0 ≤ t ∧ t < 8))) = 0) 15 7 [(0, .inr 0), (1, .inl t)] [] (fun _ h => h) (fun h1 => ?_) (fun h1 => ?_)
  · have h1 := of_decide_eq_false (tm_beq h1)
    refine tl_go 1 16 [(0, .inr 0), (1, .inl t)] [.inl (-1)] w (fun _ h => h) ?_
    exact tl_reti rfl rfl (by unfold tm_qWaits; rw [if_neg h1]) (hQ)
  · have h1 := of_decide_eq_true (tm_bne h1)
    obtain ⟨t', rfl⟩ : ∃ n : Nat, t = n := ⟨t.toNat, by omega⟩
    refine tl_go 2 9 [(0, .inr 0), (1, .inl ((t' : Nat) : Int))] [.inl ((t' : Nat) : Int), .inr 0] w (fun _ h => h) ?_
    refine tl_callV (as := [.inr 0, .inl ((t' : Nat) : Int)]) (rest := []) (v := some ((tm_bk σ t' : Nat) : Int)) (w' := w) rfl rfl (ta_bk d t' (by omega) w hJ hR) (Nat.le_of_ble_eq_true rfl) rfl rfl rfl (Nat.le_of_ble_eq_true rfl) ?_
    refine tl_go 1 16 [(0, .inr 0), (1, .inl ((t' : Nat) : Int))] [.inl ((tm_bk σ t' : Nat) : Int)] w (fun _ h => h) ?_
    exact tl_reti rfl rfl (by unfold tm_qWaits; rw [if_pos h1, Int.toNat_natCast]) (hQ)
theorem ta_access (d : Nat) (t r : Int) {σ : tm_S} (w : tl_W) (hJ : tm_J σ) (hR : tm_RC w σ) : tl_Ev ta_P (d + 3) 11 [.inr 0, .inl t, .inl r] w (.inl (some (tm_qAcc σ t r))) w := by
  refine tl_start fun Q hQ => ?_
  refine tl_go 1 1 [(0, .inr 0), (1, .inl t), (2, .inl r)] [.inl t] w (fun _ h => h) ?_
  refine tl_callS (as := [.inl t]) (rest := []) (v := some (tm_b (decide (0 ≤ t ∧ t < 8)))) (w' := w) rfl rfl rfl rfl (ta_isT (d + 1) t w) (Nat.le_of_ble_eq_true rfl) rfl rfl (Nat.le_of_ble_eq_true rfl) ?_
  refine tl_if ((tm_b (decide (0 ≤ t ∧ t < 8))) = 0) 21 7 [(0, .inr 0), (1, .inl t), (2, .inl r)] [] (fun _ h => h) (fun h1 => ?_) (fun h1 => ?_)
  · have h1 := of_decide_eq_false (tm_beq h1)
    refine tl_go 1 22 [(0, .inr 0), (1, .inl t), (2, .inl r)] [.inl (-1)] w (fun _ h => h) ?_
    exact tl_reti rfl rfl (by unfold tm_qAcc; rw [if_neg (fun q => h1 q.1)]) (hQ)
  · have h1 := of_decide_eq_true (tm_bne h1)
    refine tl_go 1 8 [(0, .inr 0), (1, .inl t), (2, .inl r)] [.inl r] w (fun _ h => h) ?_
    refine tl_callS (as := [.inl r]) (rest := []) (v := some (tm_b (decide (0 ≤ r ∧ r < 34)))) (w' := w) rfl rfl rfl rfl (ta_isR (d + 1) r w) (Nat.le_of_ble_eq_true rfl) rfl rfl (Nat.le_of_ble_eq_true rfl) ?_
    refine tl_if ((tm_b (decide (0 ≤ r ∧ r < 34))) = 0) 21 14 [(0, .inr 0), (1, .inl t), (2, .inl r)] [] (fun _ h => h) (fun h2 => ?_) (fun h2 => ?_)
    · have h2 := of_decide_eq_false (tm_beq h2)
      refine tl_go 1 22 [(0, .inr 0), (1, .inl t), (2, .inl r)] [.inl (-1)] w (fun _ h => h) ?_
      exact tl_reti rfl rfl (by unfold tm_qAcc; rw [if_neg (by omega)]) (hQ)
    · have h2 := of_decide_eq_true (tm_bne h2)
      refine tl_go 1 15 [(0, .inr 0), (1, .inl t), (2, .inl r)] [.inl r] w (fun _ h => h) ?_
      refine tl_callS (as := [.inl r]) (rest := []) (v := some (tm_b (decide (10 ≤ r)))) (w' := w) rfl rfl rfl rfl (ta_isRow (d + 1) r w) (Nat.le_of_ble_eq_true rfl) rfl rfl (Nat.le_of_ble_eq_true rfl) ?_
      refine tl_if (¬ (tm_b (decide (10 ≤ r))) = 0) 23 21 [(0, .inr 0), (1, .inl t), (2, .inl r)] [] (fun _ h => h) (fun h3 => ?_) (fun h3 => ?_)
      · have h3 := of_decide_eq_true (tm_bne h3)
        obtain ⟨t', rfl⟩ : ∃ n : Nat, t = n := ⟨t.toNat, by omega⟩
        obtain ⟨r', rfl⟩ : ∃ n : Nat, r = n := ⟨r.toNat, by omega⟩
        refine tl_go 3 26 [(0, .inr 0), (1, .inl ((t' : Nat) : Int)), (2, .inl ((r' : Nat) : Int))] [.inl ((r' : Nat) : Int), .inl ((t' : Nat) : Int), .inr 0] w (fun _ h => h) ?_
        refine tl_callV (as := [.inr 0, .inl ((t' : Nat) : Int), .inl ((r' : Nat) : Int)]) (rest := []) (v := some ((σ.1 (34 * t' + r') : Nat) : Int)) (w' := w) rfl rfl (ta_mo (d + 1) t' r' (by omega) (by omega) w (hR.1 _ (by omega))) (Nat.le_of_ble_eq_true rfl) rfl rfl rfl (Nat.le_of_ble_eq_true rfl) ?_
        refine tl_callS (as := [.inl ((σ.1 (34 * t' + r') : Nat) : Int)]) (rest := []) (v := some ((tm_rt (σ.1 (34 * t' + r')) : Nat) : Int)) (w' := w) rfl rfl rfl rfl (ta_rt (d + 1) (σ.1 (34 * t' + r')) w) (Nat.le_of_ble_eq_true rfl) rfl rfl (Nat.le_of_ble_eq_true rfl) ?_
        refine tl_go 3 35 [(0, .inr 0), (1, .inl ((t' : Nat) : Int)), (2, .inl ((r' : Nat) : Int))] [.inl ((r' : Nat) : Int), .inl ((t' : Nat) : Int), .inr 0, .inl ((tm_rt (σ.1 (34 * t' + r')) : Nat) : Int)] w (fun _ h => h) ?_
        refine tl_callV (as := [.inr 0, .inl ((t' : Nat) : Int), .inl ((r' : Nat) : Int)]) (rest := [.inl ((tm_rt (σ.1 (34 * t' + r')) : Nat) : Int)]) (v := some ((tm_rfa σ.1 t' (tm_an 3 r') 0 : Nat) : Int)) (w' := w) rfl rfl (ta_rfa d t' r' (by omega) (by omega) w hR.1 hJ.1) (Nat.le_of_ble_eq_true rfl) rfl rfl rfl (Nat.le_of_ble_eq_true rfl) ?_
        refine tl_go 1 41 [(0, .inr 0), (1, .inl ((t' : Nat) : Int)), (2, .inl ((r' : Nat) : Int))] [.inl (max ((tm_rt (σ.1 (34 * t' + r')) : Nat) : Int) ((tm_rfa σ.1 t' (tm_an 3 r') 0 : Nat) : Int))] w (fun _ h => And.intro (Nat.le_of_ble_eq_true rfl) h) ?_
        refine tl_top (y := ((max (tm_rt (σ.1 (34 * t' + r'))) (tm_rfa σ.1 t' (tm_an 3 r') 0) : Nat) : Int)) (by omega) ?_
        exact tl_reti rfl rfl (by unfold tm_qAcc; rw [if_pos (by omega), Int.toNat_natCast, Int.toNat_natCast]) (hQ)
      · have h3 := of_decide_eq_false (tm_beq (Classical.not_not.mp h3))
        refine tl_go 1 22 [(0, .inr 0), (1, .inl t), (2, .inl r)] [.inl (-1)] w (fun _ h => h) ?_
        exact tl_reti rfl rfl (by unfold tm_qAcc; rw [if_neg (by omega)]) (hQ)
theorem ta_locks (d : Nat) (t : Int) {σ : tm_S} (w : tl_W) (hJ : tm_J σ) (hR : tm_RC w σ) : tl_Ev ta_P (d + 3) 12 [.inr 0, .inl t] w (.inl (some (tm_qLocks σ t))) w := by
  refine tl_start fun Q hQ => ?_
  refine tl_go 1 1 [(0, .inr 0), (1, .inl t)] [.inl t] w (fun _ h => h) ?_
  refine tl_callS (as := [.inl t]) (rest := []) (v := some (tm_b (decide (0 ≤ t ∧ t < 8)))) (w' := w) rfl rfl rfl rfl (ta_isT (d + 1) t w) (Nat.le_of_ble_eq_true rfl) rfl rfl (Nat.le_of_ble_eq_true rfl) ?_
  refine tl_if (¬ (tm_b (decide (0 ≤ t ∧ t < 8))) = 0) 9 7 [(0, .inr 0), (1, .inl t)] [] (fun _ h => h) (fun h1 => ?_) (fun h1 => ?_)
  · have h1 := of_decide_eq_true (tm_bne h1)
    obtain ⟨t', rfl⟩ : ∃ n : Nat, t = n := ⟨t.toNat, by omega⟩
    refine tl_go 4 13 [(0, .inr 0), (1, .inl ((t' : Nat) : Int)), (2, .inl 0), (3, .inl 0)] [] w (fun _ h => h) ?_
    have loop : ∀ k i : Nat, i + k = 34 → tl_E ta_P (d + 2) 12 13 [(0, .inr 0), (1, .inl (t' : Int)), (2, .inl ((tm_lk σ.1 t' i : Nat) : Int)), (3, .inl (i : Int))] [] w Q := by
      intro k
      induction k with
      | zero =>
        intro i hi
        refine tl_go 2 16 [(0, .inr 0), (1, .inl ((t' : Nat) : Int)), (2, .inl ((tm_lk σ.1 t' i : Nat) : Int)), (3, .inl ((i : Nat) : Int))] [.inl 34, .inl ((i : Nat) : Int)] w (fun _ h => h) ?_
        refine tl_ift (34 ≤ ((i : Nat) : Int)) 37 19 [(0, .inr 0), (1, .inl ((t' : Nat) : Int)), (2, .inl ((tm_lk σ.1 t' i : Nat) : Int)), (3, .inl ((i : Nat) : Int))] [] (fun _ h => h) (by omega) ?_
        refine tl_go 1 38 [(0, .inr 0), (1, .inl ((t' : Nat) : Int)), (2, .inl ((tm_lk σ.1 t' i : Nat) : Int)), (3, .inl ((i : Nat) : Int))] [.inl ((tm_lk σ.1 t' i : Nat) : Int)] w (fun _ h => h) ?_
        exact tl_reti rfl rfl (by unfold tm_qLocks; rw [if_pos h1, Int.toNat_natCast, show i = 34 by omega]) (hQ)
      | succ k ih =>
        intro i hi
        have hle := tm_lk_le σ.1 t' i
        refine tl_go 2 16 [(0, .inr 0), (1, .inl ((t' : Nat) : Int)), (2, .inl ((tm_lk σ.1 t' i : Nat) : Int)), (3, .inl ((i : Nat) : Int))] [.inl 34, .inl ((i : Nat) : Int)] w (fun _ h => h) ?_
        refine tl_iff (34 ≤ ((i : Nat) : Int)) 37 19 [(0, .inr 0), (1, .inl ((t' : Nat) : Int)), (2, .inl ((tm_lk σ.1 t' i : Nat) : Int)), (3, .inl ((i : Nat) : Int))] [] (fun _ h => h) (by omega) ?_
        refine tl_go 3 22 [(0, .inr 0), (1, .inl ((t' : Nat) : Int)), (2, .inl ((tm_lk σ.1 t' i : Nat) : Int)), (3, .inl ((i : Nat) : Int))] [.inl ((i : Nat) : Int), .inl ((t' : Nat) : Int), .inr 0] w (fun _ h => h) ?_
        refine tl_callV (as := [.inr 0, .inl ((t' : Nat) : Int), .inl ((i : Nat) : Int)]) (rest := []) (v := some (tm_b (decide (σ.1 (34 * t' + i) ≠ 0)))) (w' := w) rfl rfl (ta_ih d t' i (by omega) (by omega) w (hR.1 _ (by omega))) (Nat.le_of_ble_eq_true rfl) rfl rfl rfl (Nat.le_of_ble_eq_true rfl) ?_
        refine tl_if ((tm_b (decide (σ.1 (34 * t' + i) ≠ 0))) = 0) 31 28 [(0, .inr 0), (1, .inl ((t' : Nat) : Int)), (2, .inl ((tm_lk σ.1 t' i : Nat) : Int)), (3, .inl ((i : Nat) : Int))] [] (fun _ h => h) (fun hg => ?_) (fun hg => ?_)
        · have hg := of_decide_eq_false (tm_beq hg)
          refine tl_go 2 13 [(0, .inr 0), (1, .inl ((t' : Nat) : Int)), (2, .inl ((tm_lk σ.1 t' i : Nat) : Int)), (3, .inl (((i : Nat) : Int) + 1))] [] w (fun _ h => And.intro (by omega) h) ?_
          have h9 := ih (i + 1) (by omega)
          rw [tm_lk_s, if_neg hg] at h9
          exact h9
        · have hg := of_decide_eq_true (tm_bne hg)
          refine tl_go 3 13 [(0, .inr 0), (1, .inl ((t' : Nat) : Int)), (2, .inl (((tm_lk σ.1 t' i : Nat) : Int) + 1)), (3, .inl (((i : Nat) : Int) + 1))] [] w (fun _ h => And.intro (by omega) (And.intro (by omega) h)) ?_
          have h9 := ih (i + 1) (by omega)
          rw [tm_lk_s, if_pos hg] at h9
          exact h9
    exact loop 34 0 rfl
  · have h1 := of_decide_eq_false (tm_beq (Classical.not_not.mp h1))
    refine tl_go 1 8 [(0, .inr 0), (1, .inl t)] [.inl (-1)] w (fun _ h => h) ?_
    exact tl_reti rfl rfl (by unfold tm_qLocks; rw [if_neg h1]) (hQ)
def tm_oLock (σ : tm_S) (t r m : Int) : tl_R × tm_S :=
  if ¬ ((0 ≤ t ∧ t < 8) ∧ (0 ≤ r ∧ r < 34) ∧ ((10 ≤ r ∧ (m = 3 ∨ m = 5)) ∨ (r < 10 ∧ 1 ≤ m ∧ m ≤ 5))) then (.inr 1, σ)
  else if ¬ σ.2.1 t.toNat = 1 then (.inr 2, σ)
  else if ¬ tm_ann σ.1 t.toNat r.toNat m = true then (.inr 3, σ)
  else (.inl (some (((tm_req σ t.toNat r.toNat m.toNat).1 : Nat) : Int)), (tm_req σ t.toNat r.toNat m.toNat).2)

theorem ta_lock (d : Nat) (t r m : Int) {σ : tm_S} (w : tl_W) (hJ : tm_J σ) (hR : tm_RC w σ) : ∃ w', tl_Ev ta_P (d + 7) 2 [.inr 0, .inl t, .inl r, .inl m] w (tm_oLock σ t r m).1 w' ∧ tm_RC w' (tm_oLock σ t r m).2 := by
  refine tl_exi fun Q hQ => ?_
  refine tl_go 1 1 [(0, .inr 0), (1, .inl t), (2, .inl r), (3, .inl m)] [.inl t] w (fun _ h => h) ?_
  refine tl_callS (as := [.inl t]) (rest := []) (v := some (tm_b (decide (0 ≤ t ∧ t < 8)))) (w' := w) rfl rfl rfl rfl (ta_isT (d + 5) t w) (Nat.le_of_ble_eq_true rfl) rfl rfl (Nat.le_of_ble_eq_true rfl) ?_
  refine tl_if ((tm_b (decide (0 ≤ t ∧ t < 8))) = 0) 22 7 [(0, .inr 0), (1, .inl t), (2, .inl r), (3, .inl m)] [] (fun _ h => h) (fun h1 => ?_) (fun h1 => ?_)
  · have h1 := of_decide_eq_false (tm_beq h1)
    have e : tm_oLock σ t r m = (.inr 1, σ) := if_pos (fun q => h1 q.1)
    rw [e] at hQ
    exact tl_thr rfl rfl (hQ w hR)
  · have h1 := of_decide_eq_true (tm_bne h1)
    refine tl_go 1 8 [(0, .inr 0), (1, .inl t), (2, .inl r), (3, .inl m)] [.inl r] w (fun _ h => h) ?_
    refine tl_callS (as := [.inl r]) (rest := []) (v := some (tm_b (decide (0 ≤ r ∧ r < 34)))) (w' := w) rfl rfl rfl rfl (ta_isR (d + 5) r w) (Nat.le_of_ble_eq_true rfl) rfl rfl (Nat.le_of_ble_eq_true rfl) ?_
    refine tl_if ((tm_b (decide (0 ≤ r ∧ r < 34))) = 0) 22 14 [(0, .inr 0), (1, .inl t), (2, .inl r), (3, .inl m)] [] (fun _ h => h) (fun h2 => ?_) (fun h2 => ?_)
    · have h2 := of_decide_eq_false (tm_beq h2)
      have e : tm_oLock σ t r m = (.inr 1, σ) := if_pos (fun q => h2 q.2.1)
      rw [e] at hQ
      exact tl_thr rfl rfl (hQ w hR)
    · have h2 := of_decide_eq_true (tm_bne h2)
      refine tl_go 2 16 [(0, .inr 0), (1, .inl t), (2, .inl r), (3, .inl m)] [.inl m, .inl r] w (fun _ h => h) ?_
      refine tl_callS (as := [.inl r, .inl m]) (rest := []) (v := some (tm_b (decide ((10 ≤ r ∧ (m = 3 ∨ m = 5)) ∨ (r < 10 ∧ 1 ≤ m ∧ m ≤ 5))))) (w' := w) rfl rfl rfl rfl (ta_cba (d + 4) r m w) (Nat.le_of_ble_eq_true rfl) rfl rfl (Nat.le_of_ble_eq_true rfl) ?_
      refine tl_if (¬ (tm_b (decide ((10 ≤ r ∧ (m = 3 ∨ m = 5)) ∨ (r < 10 ∧ 1 ≤ m ∧ m ≤ 5)))) = 0) 30 22 [(0, .inr 0), (1, .inl t), (2, .inl r), (3, .inl m)] [] (fun _ h => h) (fun h3 => ?_) (fun h3 => ?_)
      · have h3 := of_decide_eq_true (tm_bne h3)
        obtain ⟨t', rfl⟩ : ∃ n : Nat, t = n := ⟨t.toNat, by omega⟩
        obtain ⟨r', rfl⟩ : ∃ n : Nat, r = n := ⟨r.toNat, by omega⟩
        obtain ⟨m', rfl⟩ : ∃ n : Nat, m = n := ⟨m.toNat, by omega⟩
        refine tl_go 3 35 [(0, .inr 0), (1, .inl ((t' : Nat) : Int)), (2, .inl ((r' : Nat) : Int)), (3, .inl ((m' : Nat) : Int))] [.inl ((t' : Nat) : Int), .inr 2] w (fun _ h => And.intro rfl (And.intro (by decide) (h))) ?_
        refine tl_ald (t') 8 (k := 1) rfl (by omega) rfl (by omega) ?_
        refine tl_top (y := ((σ.2.1 t' : Nat) : Int)) ((hR.2.1 t' (by omega)).1) ?_
        refine tl_go 1 37 [(0, .inr 0), (1, .inl ((t' : Nat) : Int)), (2, .inl ((r' : Nat) : Int)), (3, .inl ((m' : Nat) : Int))] [.inl 1, .inl ((σ.2.1 t' : Nat) : Int)] w (fun _ h => h) ?_
        refine tl_if (((σ.2.1 t' : Nat) : Int) = 1) 48 40 [(0, .inr 0), (1, .inl ((t' : Nat) : Int)), (2, .inl ((r' : Nat) : Int)), (3, .inl ((m' : Nat) : Int))] [] (fun _ h => h) (fun h4 => ?_) (fun h4 => ?_)
        · have h4 : σ.2.1 t' = 1 := by omega
          refine tl_go 4 52 [(0, .inr 0), (1, .inl ((t' : Nat) : Int)), (2, .inl ((r' : Nat) : Int)), (3, .inl ((m' : Nat) : Int))] [.inl ((m' : Nat) : Int), .inl ((r' : Nat) : Int), .inl ((t' : Nat) : Int), .inr 0] w (fun _ h => h) ?_
          refine tl_callV (as := [.inr 0, .inl ((t' : Nat) : Int), .inl ((r' : Nat) : Int), .inl ((m' : Nat) : Int)]) (rest := []) (v := some (tm_b (decide (tm_ann σ.1 t' r' (m' : Int) = true)))) (w' := w) rfl rfl (ta_ann (d + 3) t' r' m' (by omega) (by omega) w hR.1 hJ.1) (Nat.le_of_ble_eq_true rfl) rfl rfl rfl (Nat.le_of_ble_eq_true rfl) ?_
          refine tl_if (¬ (tm_b (decide (tm_ann σ.1 t' r' (m' : Int) = true))) = 0) 66 58 [(0, .inr 0), (1, .inl ((t' : Nat) : Int)), (2, .inl ((r' : Nat) : Int)), (3, .inl ((m' : Nat) : Int))] [] (fun _ h => h) (fun h5 => ?_) (fun h5 => ?_)
          · have h5 := of_decide_eq_true (tm_bne h5)
            obtain ⟨w1, hw1, hR1⟩ := ta_req d t' r' m' (by omega) (by omega) (by omega) w hJ hR h4
            have e : tm_oLock σ (t' : Int) (r' : Int) (m' : Int) = (.inl (some (((tm_req σ t' r' m').1 : Nat) : Int)), (tm_req σ t' r' m').2) := (by unfold tm_oLock; rw [if_neg (fun q => q ⟨h1, h2, h3⟩), Int.toNat_natCast, Int.toNat_natCast, Int.toNat_natCast, if_neg (fun q => q h4), if_neg (fun q => q h5)])
            rw [e] at hQ
            refine tl_go 4 70 [(0, .inr 0), (1, .inl ((t' : Nat) : Int)), (2, .inl ((r' : Nat) : Int)), (3, .inl ((m' : Nat) : Int))] [.inl ((m' : Nat) : Int), .inl ((r' : Nat) : Int), .inl ((t' : Nat) : Int), .inr 0] w (fun _ h => h) ?_
            refine tl_callV (as := [.inr 0, .inl ((t' : Nat) : Int), .inl ((r' : Nat) : Int), .inl ((m' : Nat) : Int)]) (rest := []) (v := some (((tm_req σ t' r' m').1 : Nat) : Int)) (w' := w1) rfl rfl (hw1) (Nat.le_of_ble_eq_true rfl) rfl rfl rfl (Nat.le_of_ble_eq_true rfl) ?_
            exact tl_reti rfl rfl (rfl) (hQ w1 hR1)
          · have h5 := of_decide_eq_false (tm_beq (Classical.not_not.mp h5))
            have e : tm_oLock σ (t' : Int) (r' : Int) (m' : Int) = (.inr 3, σ) := (by unfold tm_oLock; rw [if_neg (fun q => q ⟨h1, h2, h3⟩), Int.toNat_natCast, Int.toNat_natCast, Int.toNat_natCast, if_neg (fun q => q h4), if_pos h5])
            rw [e] at hQ
            exact tl_thr rfl rfl (hQ w hR)
        · have h4 : ¬ σ.2.1 t' = 1 := by omega
          have e : tm_oLock σ (t' : Int) (r' : Int) (m' : Int) = (.inr 2, σ) := (by unfold tm_oLock; rw [if_neg (fun q => q ⟨h1, h2, h3⟩), Int.toNat_natCast, Int.toNat_natCast, Int.toNat_natCast, if_pos h4])
          rw [e] at hQ
          exact tl_thr rfl rfl (hQ w hR)
      · have h3 := of_decide_eq_false (tm_beq (Classical.not_not.mp h3))
        have e : tm_oLock σ t r m = (.inr 1, σ) := if_pos (fun q => h3 q.2.2)
        rw [e] at hQ
        exact tl_thr rfl rfl (hQ w hR)
