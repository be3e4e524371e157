/-! 21.mask: the reference's serve, waits, isRound, isCovered, ask, printed by b2.py -/
theorem tm_M_RM {w : tl_W} {σ : tm_S} (hR : tm_RM w σ) (i m : Nat) : tm_RM (tl_set w 0 i (m : Int)) (tm_sm σ i m) := by
  refine ⟨fun a ha => ?_, fun u hu => ⟨?_, ?_⟩, fun r hr => ⟨?_, fun k t hk => ?_⟩⟩
  · rw [tl_set_s]
    show va_up (w 0) i _ a = ((va_up σ.1 i m a : Nat) : Int)
    by_cases e : a = i
    · rw [e, va_up_s, va_up_s]
    · rw [va_up_n _ _ e, va_up_n _ _ e]; exact hR.1 a ha
  · rw [tl_set_o (by decide)]; exact (hR.2.1 u hu).1
  · rw [tl_set_o (by decide)]; exact (hR.2.1 u hu).2
  · rw [tl_set_o (by decide)]; exact (hR.2.2 r hr).1
  · rw [tl_set_o (by decide)]; exact (hR.2.2 r hr).2 k t hk
theorem tm_S_RM {w : tl_W} {σ : tm_S} (hR : tm_RM w σ) (t x : Nat) : tm_RM (tl_set w 1 t (x : Int)) (σ.1, va_up σ.2.1 t x, σ.2.2.1, σ.2.2.2) := by
  refine ⟨fun i hi => ?_, fun u hu => ⟨?_, ?_⟩, fun r hr => ⟨?_, fun k u hk => ?_⟩⟩
  · rw [tl_set_o (by decide)]; exact hR.1 i hi
  · rw [tl_set_s]
    show va_up (w 1) t _ u = ((va_up σ.2.1 t x u : Nat) : Int)
    by_cases e : u = t
    · rw [e, va_up_s, va_up_s]
    · rw [va_up_n _ _ e, va_up_n _ _ e]; exact (hR.2.1 u hu).1
  · rw [tl_set_o (by decide)]; exact (hR.2.1 u hu).2
  · rw [tl_set_o (by decide)]; exact (hR.2.2 r hr).1
  · rw [tl_set_o (by decide)]; exact (hR.2.2 r hr).2 k u hk
theorem tm_W_RM {w : tl_W} {σ : tm_S} (hR : tm_RM w σ) (t x : Nat) : tm_RM (tl_set w 2 t (x : Int)) (σ.1, σ.2.1, va_up σ.2.2.1 t x, σ.2.2.2) := by
  refine ⟨fun i hi => ?_, fun u hu => ⟨?_, ?_⟩, fun r hr => ⟨?_, fun k u hk => ?_⟩⟩
  · rw [tl_set_o (by decide)]; exact hR.1 i hi
  · rw [tl_set_o (by decide)]; exact (hR.2.1 u hu).1
  · rw [tl_set_s]
    show va_up (w 2) t _ u = ((va_up σ.2.2.1 t x u : Nat) : Int)
    by_cases e : u = t
    · rw [e, va_up_s, va_up_s]
    · rw [va_up_n _ _ e, va_up_n _ _ e]; exact (hR.2.1 u hu).2
  · rw [tl_set_o (by decide)]; exact (hR.2.2 r hr).1
  · rw [tl_set_o (by decide)]; exact (hR.2.2 r hr).2 k u hk

theorem tb_sv (d r : Nat) (hr : r < 34) {σ : tm_S} (w : tl_W) (hJ : tm_J σ) (hR : tm_RM w σ) : ∃ w', tl_Ev tb_P (d + 3) 12 [.inr 0, .inl (r : Int)] w (.inl (some (((tm_serve σ r).1 : Nat) : Int))) w' ∧ (tm_RM w' (tm_serve σ r).2 ∧ w' 5 = w 5) := by
  refine tl_exi fun Q hQ => ?_
  generalize hw5 : w 5 = W5 at hQ
  refine tl_go 2 2 [(0, .inr 0), (1, .inl ((r : Nat) : Int)), (2, .inl 0)] [] w (fun _ h => h) ?_
  have loop : ∀ (n c : Nat) (σ : tm_S) (w : tl_W), (σ.2.2.2 r).length ≤ n → c + n = 8 → tm_J σ → tm_RM w σ → w 5 = W5 → (∀ w', (tm_RM w' (tm_sv n σ r).2 ∧ w' 5 = W5) → Q (.inl (some ((c + (tm_sv n σ r).1 : Nat) : Int))) w') → ∀ L : tl_L, (L = [(0, .inr 0), (1, .inl (r : Int)), (2, .inl (c : Int))] ∨ ∃ x : Int, L = [(0, .inr 0), (1, .inl (r : Int)), (2, .inl (c : Int)), (3, .inl x)]) → tl_E tb_P (d + 2) 12 2 L [] w Q := by
    intro n
    induction n with
    | zero =>
      intro c σ w hlen hi hJ hR hw5 hQ' L hL
      have hl := (hR.2.2 r hr).1
      rcases hL with rfl | ⟨x, rfl⟩
      · refine tl_go 3 7 [(0, .inr 0), (1, .inl ((r : Nat) : Int)), (2, .inl ((c : Nat) : Int))] [.inl ((r : Nat) : Int), .inr 5] w (fun _ h => And.intro rfl (And.intro (by decide) (h))) ?_
        refine tl_ald (r) 34 (k := 4) rfl (by omega) rfl (by omega) ?_
        refine tl_top (y := (((σ.2.2.2 r).length : Nat) : Int)) (hl) ?_
        refine tl_ift ((((σ.2.2.2 r).length : Nat) : Int) ≤ 0) 95 11 [(0, .inr 0), (1, .inl ((r : Nat) : Int)), (2, .inl ((c : Nat) : Int))] [] (fun _ h => h) (by omega) ?_
        refine tl_go 1 96 [(0, .inr 0), (1, .inl ((r : Nat) : Int)), (2, .inl ((c : Nat) : Int))] [.inl ((c : Nat) : Int)] w (fun _ h => h) ?_
        exact tl_reti rfl rfl (by show (c : Int) = ((c + 0 : Nat) : Int); omega) (hQ' w ⟨hR, hw5⟩)
      · refine tl_go 3 7 [(0, .inr 0), (1, .inl ((r : Nat) : Int)), (2, .inl ((c : Nat) : Int)), (3, .inl x)] [.inl ((r : Nat) : Int), .inr 5] w (fun _ h => And.intro rfl (And.intro (by decide) (h))) ?_
        refine tl_ald (r) 34 (k := 4) rfl (by omega) rfl (by omega) ?_
        refine tl_top (y := (((σ.2.2.2 r).length : Nat) : Int)) (hl) ?_
        refine tl_ift ((((σ.2.2.2 r).length : Nat) : Int) ≤ 0) 95 11 [(0, .inr 0), (1, .inl ((r : Nat) : Int)), (2, .inl ((c : Nat) : Int)), (3, .inl x)] [] (fun _ h => h) (by omega) ?_
        refine tl_go 1 96 [(0, .inr 0), (1, .inl ((r : Nat) : Int)), (2, .inl ((c : Nat) : Int)), (3, .inl x)] [.inl ((c : Nat) : Int)] w (fun _ h => h) ?_
        exact tl_reti rfl rfl (by show (c : Int) = ((c + 0 : Nat) : Int); omega) (hQ' w ⟨hR, hw5⟩)
    | succ n ih =>
      intro c σ w hlen hi hJ hR hw5 hQ' L hL
      have hK := tm_J_K hJ
      have hl := (hR.2.2 r hr).1
      rcases hL with rfl | ⟨x, rfl⟩
      · cases hq : σ.2.2.2 r with
        | nil =>
          rw [tm_sv_nil hq] at hQ'
          have hl0 : w 4 r = 0 := by rw [hl, hq]; rfl
          refine tl_go 3 7 [(0, .inr 0), (1, .inl ((r : Nat) : Int)), (2, .inl ((c : Nat) : Int))] [.inl ((r : Nat) : Int), .inr 5] w (fun _ h => And.intro rfl (And.intro (by decide) (h))) ?_
          refine tl_ald (r) 34 (k := 4) rfl (by omega) rfl (by omega) ?_
          refine tl_top (y := 0) (hl0) ?_
          refine tl_ift (0 ≤ 0) 95 11 [(0, .inr 0), (1, .inl ((r : Nat) : Int)), (2, .inl ((c : Nat) : Int))] [] (fun _ h => h) (by decide) ?_
          refine tl_go 1 96 [(0, .inr 0), (1, .inl ((r : Nat) : Int)), (2, .inl ((c : Nat) : Int))] [.inl ((c : Nat) : Int)] w (fun _ h => h) ?_
          exact tl_reti rfl rfl (by show (c : Int) = ((c + 0 : Nat) : Int); omega) (hQ' w ⟨hR, hw5⟩)
        | cons t l =>
          have hk0 : (σ.2.2.2 r)[0]? = some t := by rw [hq]; rfl
          have h30 : w 3 (8 * r) = (t : Int) := (hR.2.2 r hr).2 0 t hk0
          have hlp : 0 < (σ.2.2.2 r).length := by rw [hq, List.length_cons]; omega
          obtain ⟨_, ht8, hts⟩ := tm_K_lt hK hr hk0
          refine tl_go 3 7 [(0, .inr 0), (1, .inl ((r : Nat) : Int)), (2, .inl ((c : Nat) : Int))] [.inl ((r : Nat) : Int), .inr 5] w (fun _ h => And.intro rfl (And.intro (by decide) (h))) ?_
          refine tl_ald (r) 34 (k := 4) rfl (by omega) rfl (by omega) ?_
          refine tl_top (y := (((σ.2.2.2 r).length : Nat) : Int)) (hl) ?_
          refine tl_iff ((((σ.2.2.2 r).length : Nat) : Int) ≤ 0) 95 11 [(0, .inr 0), (1, .inl ((r : Nat) : Int)), (2, .inl ((c : Nat) : Int))] [] (fun _ h => h) (by omega) ?_
          refine tl_go 6 20 [(0, .inr 0), (1, .inl ((r : Nat) : Int)), (2, .inl ((c : Nat) : Int))] [.inl (8 * ((r : Nat) : Int)), .inr 4, .inr 0] w (fun _ h => And.intro rfl (And.intro (by decide) (And.intro (by omega) h))) ?_
          refine tl_ald (8 * r) 272 (k := 3) rfl (by omega) rfl (by omega) ?_
          refine tl_top (y := ((t : Nat) : Int)) (h30) ?_
          refine tl_go 8 34 [(0, .inr 0), (1, .inl ((r : Nat) : Int)), (2, .inl ((c : Nat) : Int))] [.inl (8 * ((r : Nat) : Int)), .inr 4, .inr 3, .inl ((r : Nat) : Int), .inl ((t : Nat) : Int), .inr 0] w (fun _ h => And.intro rfl (And.intro (by decide) (And.intro rfl (And.intro (by decide) (And.intro (by omega) h))))) ?_
          refine tl_ald (8 * r) 272 (k := 3) rfl (by omega) rfl (by omega) ?_
          refine tl_top (y := ((t : Nat) : Int)) (h30) ?_
          refine tl_ald (t) 8 (k := 2) rfl (by omega) rfl (by omega) ?_
          refine tl_top (y := ((σ.2.2.1 t : Nat) : Int)) ((hR.2.1 t ht8).2) ?_
          refine tl_callV (as := [.inr 0, .inl ((t : Nat) : Int), .inl ((r : Nat) : Int), .inl ((σ.2.2.1 t : Nat) : Int)]) (rest := []) (v := some (tm_b (decide (tm_fits σ.1 t r (σ.2.2.1 t) = true)))) (w' := w) rfl rfl (tb_fit d t r (σ.2.2.1 t) ht8 hr w hR.1) (Nat.le_of_ble_eq_true rfl) rfl rfl rfl (Nat.le_of_ble_eq_true rfl) ?_
          refine tl_if ((tm_b (decide (tm_fits σ.1 t r (σ.2.2.1 t) = true))) = 0) 95 42 [(0, .inr 0), (1, .inl ((r : Nat) : Int)), (2, .inl ((c : Nat) : Int))] [] (fun _ h => h) (fun hf => ?_) (fun hf => ?_)
          · have hf := of_decide_eq_false (tm_beq hf)
            rw [tm_sv_no hq hf] at hQ'
            refine tl_go 1 96 [(0, .inr 0), (1, .inl ((r : Nat) : Int)), (2, .inl ((c : Nat) : Int))] [.inl ((c : Nat) : Int)] w (fun _ h => h) ?_
            exact tl_reti rfl rfl (by show (c : Int) = ((c + 0 : Nat) : Int); omega) (hQ' w ⟨hR, hw5⟩)
          · have hf := of_decide_eq_true (tm_bne hf)
            rw [tm_sv_yes hq hf] at hQ'
            refine tl_go 5 50 [(0, .inr 0), (1, .inl ((r : Nat) : Int)), (2, .inl ((c : Nat) : Int))] [.inl (8 * ((r : Nat) : Int)), .inr 4] w (fun _ h => And.intro rfl (And.intro (by decide) (And.intro (by omega) h))) ?_
            refine tl_ald (8 * r) 272 (k := 3) rfl (by omega) rfl (by omega) ?_
            refine tl_top (y := ((t : Nat) : Int)) (h30) ?_
            refine tl_go 11 67 [(0, .inr 0), (1, .inl ((r : Nat) : Int)), (2, .inl ((c : Nat) : Int)), (3, .inl ((t : Nat) : Int))] [.inl ((t : Nat) : Int), .inr 3, .inl ((34 * ((t : Nat) : Int)) + ((r : Nat) : Int)), .inr 1] w (fun _ h => And.intro rfl (And.intro (by decide) (And.intro (by omega) (And.intro (by omega) (And.intro rfl (And.intro (by decide) (h))))))) ?_
            refine tl_ald (t) 8 (k := 2) rfl (by omega) rfl (by omega) ?_
            refine tl_top (y := ((σ.2.2.1 t : Nat) : Int)) ((hR.2.1 t ht8).2) ?_
            refine tl_ast (34 * t + r) 272 (k := 0) rfl (by decide) (by omega) rfl (by omega) ?_
            refine tl_go 4 75 [(0, .inr 0), (1, .inl ((r : Nat) : Int)), (2, .inl ((c : Nat) : Int)), (3, .inl ((t : Nat) : Int))] [.inl 0, .inl ((t : Nat) : Int), .inr 3] (tl_set w 0 (34 * t + r) ((σ.2.2.1 t : Nat) : Int)) (fun _ h => And.intro rfl (And.intro (by decide) (h))) ?_
            refine tl_ast (t) 8 (k := 2) rfl (by decide) (by omega) rfl (by omega) ?_
            refine tl_go 4 82 [(0, .inr 0), (1, .inl ((r : Nat) : Int)), (2, .inl ((c : Nat) : Int)), (3, .inl ((t : Nat) : Int))] [.inl 1, .inl ((t : Nat) : Int), .inr 2] (tl_set (tl_set w 0 (34 * t + r) ((σ.2.2.1 t : Nat) : Int)) 2 (t) 0) (fun _ h => And.intro rfl (And.intro (by decide) (h))) ?_
            refine tl_ast (t) 8 (k := 1) rfl (by decide) (by omega) rfl (by omega) ?_
            refine tl_go 3 86 [(0, .inr 0), (1, .inl ((r : Nat) : Int)), (2, .inl ((c : Nat) : Int)), (3, .inl ((t : Nat) : Int))] [.inl 0, .inl ((r : Nat) : Int), .inr 0] (tl_set (tl_set (tl_set w 0 (34 * t + r) ((σ.2.2.1 t : Nat) : Int)) 2 (t) 0) 1 (t) 1) (fun _ h => h) ?_
            have hR3 : tm_RM (tl_set (tl_set (tl_set w 0 (34 * t + r) ((σ.2.2.1 t : Nat) : Int)) 2 t 0) 1 t 1) (va_up σ.1 (34 * t + r) (σ.2.2.1 t), va_up σ.2.1 t 1, va_up σ.2.2.1 t 0, σ.2.2.2) := tm_S_RM (tm_W_RM (tm_M_RM hR (34 * t + r) (σ.2.2.1 t)) t 0) t 1
            have hR4 := tm_lw_RM (k := 0) hR3 hr hlp (fun c hc => tm_len hJ hc)
            have e4 : ((va_up σ.1 (34 * t + r) (σ.2.2.1 t), va_up σ.2.1 t 1, va_up σ.2.2.1 t 0, va_up σ.2.2.2 r ((σ.2.2.2 r).eraseIdx 0)) : tm_S) = tm_gr σ r t l := by unfold tm_gr; rw [hq]; rfl
            refine tl_eq (st' := [.inl ((0 : Nat) : Int), .inl ((r : Nat) : Int), .inr 0]) rfl ?_
            refine tl_callV (as := [.inr 0, .inl ((r : Nat) : Int), .inl ((0 : Nat) : Int)]) (rest := []) (v := none) (w' := (tm_lw (tl_set (tl_set (tl_set w 0 (34 * t + r) ((σ.2.2.1 t : Nat) : Int)) 2 (t) 0) 1 (t) 1) r 0 ((σ.2.2.2 r).length - 1))) rfl rfl (tb_lv (d + 1) (σ := (va_up σ.1 (34 * t + r) (σ.2.2.1 t), va_up σ.2.1 t 1, va_up σ.2.2.1 t 0, σ.2.2.2)) _ hR3 hr hlp (tm_len hJ hr)) (Nat.le_of_ble_eq_true rfl) rfl rfl rfl (Nat.le_of_ble_eq_true rfl) ?_
            refine tl_go 2 2 [(0, .inr 0), (1, .inl ((r : Nat) : Int)), (2, .inl (((c : Nat) : Int) + 1)), (3, .inl ((t : Nat) : Int))] [] (tm_lw (tl_set (tl_set (tl_set w 0 (34 * t + r) ((σ.2.2.1 t : Nat) : Int)) 2 (t) 0) 1 (t) 1) r 0 ((σ.2.2.2 r).length - 1)) (fun _ h => And.intro (by omega) h) ?_
            refine ih (c + 1) (tm_gr σ r t l) _ ?_ (by omega) (tm_gr_J hJ hr hq) (e4 ▸ hR4) ?_ (fun w' hw' => ?_) _ (Or.inr ⟨_, rfl⟩)
            · show (va_up σ.2.2.2 r l r).length ≤ n
              rw [va_up_s]; rw [hq, List.length_cons] at hlen; omega
            · rw [tm_lw_n (by decide) (by decide), tl_set_o (by decide), tl_set_o (by decide), tl_set_o (by decide)]; exact hw5
            · have h9 := hQ' w' hw'
              rw [show c + 1 + (tm_sv n (tm_gr σ r t l) r).1 = c + ((tm_sv n (tm_gr σ r t l) r).1 + 1) by omega]
              exact h9
      · cases hq : σ.2.2.2 r with
        | nil =>
          rw [tm_sv_nil hq] at hQ'
          have hl0 : w 4 r = 0 := by rw [hl, hq]; rfl
          refine tl_go 3 7 [(0, .inr 0), (1, .inl ((r : Nat) : Int)), (2, .inl ((c : Nat) : Int)), (3, .inl x)] [.inl ((r : Nat) : Int), .inr 5] w (fun _ h => And.intro rfl (And.intro (by decide) (h))) ?_
          refine tl_ald (r) 34 (k := 4) rfl (by omega) rfl (by omega) ?_
          refine tl_top (y := 0) (hl0) ?_
          refine tl_ift (0 ≤ 0) 95 11 [(0, .inr 0), (1, .inl ((r : Nat) : Int)), (2, .inl ((c : Nat) : Int)), (3, .inl x)] [] (fun _ h => h) (by decide) ?_
          refine tl_go 1 96 [(0, .inr 0), (1, .inl ((r : Nat) : Int)), (2, .inl ((c : Nat) : Int)), (3, .inl x)] [.inl ((c : Nat) : Int)] w (fun _ h => h) ?_
          exact tl_reti rfl rfl (by show (c : Int) = ((c + 0 : Nat) : Int); omega) (hQ' w ⟨hR, hw5⟩)
        | cons t l =>
          have hk0 : (σ.2.2.2 r)[0]? = some t := by rw [hq]; rfl
          have h30 : w 3 (8 * r) = (t : Int) := (hR.2.2 r hr).2 0 t hk0
          have hlp : 0 < (σ.2.2.2 r).length := by rw [hq, List.length_cons]; omega
          obtain ⟨_, ht8, hts⟩ := tm_K_lt hK hr hk0
          refine tl_go 3 7 [(0, .inr 0), (1, .inl ((r : Nat) : Int)), (2, .inl ((c : Nat) : Int)), (3, .inl x)] [.inl ((r : Nat) : Int), .inr 5] w (fun _ h => And.intro rfl (And.intro (by decide) (h))) ?_
          refine tl_ald (r) 34 (k := 4) rfl (by omega) rfl (by omega) ?_
          refine tl_top (y := (((σ.2.2.2 r).length : Nat) : Int)) (hl) ?_
          refine tl_iff ((((σ.2.2.2 r).length : Nat) : Int) ≤ 0) 95 11 [(0, .inr 0), (1, .inl ((r : Nat) : Int)), (2, .inl ((c : Nat) : Int)), (3, .inl x)] [] (fun _ h => h) (by omega) ?_
          refine tl_go 6 20 [(0, .inr 0), (1, .inl ((r : Nat) : Int)), (2, .inl ((c : Nat) : Int)), (3, .inl x)] [.inl (8 * ((r : Nat) : Int)), .inr 4, .inr 0] w (fun _ h => And.intro rfl (And.intro (by decide) (And.intro (by omega) h))) ?_
          refine tl_ald (8 * r) 272 (k := 3) rfl (by omega) rfl (by omega) ?_
          refine tl_top (y := ((t : Nat) : Int)) (h30) ?_
          refine tl_go 8 34 [(0, .inr 0), (1, .inl ((r : Nat) : Int)), (2, .inl ((c : Nat) : Int)), (3, .inl x)] [.inl (8 * ((r : Nat) : Int)), .inr 4, .inr 3, .inl ((r : Nat) : Int), .inl ((t : Nat) : Int), .inr 0] w (fun _ h => And.intro rfl (And.intro (by decide) (And.intro rfl (And.intro (by decide) (And.intro (by omega) h))))) ?_
          refine tl_ald (8 * r) 272 (k := 3) rfl (by omega) rfl (by omega) ?_
          refine tl_top (y := ((t : Nat) : Int)) (h30) ?_
          refine tl_ald (t) 8 (k := 2) rfl (by omega) rfl (by omega) ?_
          refine tl_top (y := ((σ.2.2.1 t : Nat) : Int)) ((hR.2.1 t ht8).2) ?_
          refine tl_callV (as := [.inr 0, .inl ((t : Nat) : Int), .inl ((r : Nat) : Int), .inl ((σ.2.2.1 t : Nat) : Int)]) (rest := []) (v := some (tm_b (decide (tm_fits σ.1 t r (σ.2.2.1 t) = true)))) (w' := w) rfl rfl (tb_fit d t r (σ.2.2.1 t) ht8 hr w hR.1) (Nat.le_of_ble_eq_true rfl) rfl rfl rfl (Nat.le_of_ble_eq_true rfl) ?_
          refine tl_if ((tm_b (decide (tm_fits σ.1 t r (σ.2.2.1 t) = true))) = 0) 95 42 [(0, .inr 0), (1, .inl ((r : Nat) : Int)), (2, .inl ((c : Nat) : Int)), (3, .inl x)] [] (fun _ h => h) (fun hf => ?_) (fun hf => ?_)
          · have hf := of_decide_eq_false (tm_beq hf)
            rw [tm_sv_no hq hf] at hQ'
            refine tl_go 1 96 [(0, .inr 0), (1, .inl ((r : Nat) : Int)), (2, .inl ((c : Nat) : Int)), (3, .inl x)] [.inl ((c : Nat) : Int)] w (fun _ h => h) ?_
            exact tl_reti rfl rfl (by show (c : Int) = ((c + 0 : Nat) : Int); omega) (hQ' w ⟨hR, hw5⟩)
          · have hf := of_decide_eq_true (tm_bne hf)
            rw [tm_sv_yes hq hf] at hQ'
            refine tl_go 5 50 [(0, .inr 0), (1, .inl ((r : Nat) : Int)), (2, .inl ((c : Nat) : Int)), (3, .inl x)] [.inl (8 * ((r : Nat) : Int)), .inr 4] w (fun _ h => And.intro rfl (And.intro (by decide) (And.intro (by omega) h))) ?_
            refine tl_ald (8 * r) 272 (k := 3) rfl (by omega) rfl (by omega) ?_
            refine tl_top (y := ((t : Nat) : Int)) (h30) ?_
            refine tl_go 11 67 [(0, .inr 0), (1, .inl ((r : Nat) : Int)), (2, .inl ((c : Nat) : Int)), (3, .inl ((t : Nat) : Int))] [.inl ((t : Nat) : Int), .inr 3, .inl ((34 * ((t : Nat) : Int)) + ((r : Nat) : Int)), .inr 1] w (fun _ h => And.intro rfl (And.intro (by decide) (And.intro (by omega) (And.intro (by omega) (And.intro rfl (And.intro (by decide) (h))))))) ?_
            refine tl_ald (t) 8 (k := 2) rfl (by omega) rfl (by omega) ?_
            refine tl_top (y := ((σ.2.2.1 t : Nat) : Int)) ((hR.2.1 t ht8).2) ?_
            refine tl_ast (34 * t + r) 272 (k := 0) rfl (by decide) (by omega) rfl (by omega) ?_
            refine tl_go 4 75 [(0, .inr 0), (1, .inl ((r : Nat) : Int)), (2, .inl ((c : Nat) : Int)), (3, .inl ((t : Nat) : Int))] [.inl 0, .inl ((t : Nat) : Int), .inr 3] (tl_set w 0 (34 * t + r) ((σ.2.2.1 t : Nat) : Int)) (fun _ h => And.intro rfl (And.intro (by decide) (h))) ?_
            refine tl_ast (t) 8 (k := 2) rfl (by decide) (by omega) rfl (by omega) ?_
            refine tl_go 4 82 [(0, .inr 0), (1, .inl ((r : Nat) : Int)), (2, .inl ((c : Nat) : Int)), (3, .inl ((t : Nat) : Int))] [.inl 1, .inl ((t : Nat) : Int), .inr 2] (tl_set (tl_set w 0 (34 * t + r) ((σ.2.2.1 t : Nat) : Int)) 2 (t) 0) (fun _ h => And.intro rfl (And.intro (by decide) (h))) ?_
            refine tl_ast (t) 8 (k := 1) rfl (by decide) (by omega) rfl (by omega) ?_
            refine tl_go 3 86 [(0, .inr 0), (1, .inl ((r : Nat) : Int)), (2, .inl ((c : Nat) : Int)), (3, .inl ((t : Nat) : Int))] [.inl 0, .inl ((r : Nat) : Int), .inr 0] (tl_set (tl_set (tl_set w 0 (34 * t + r) ((σ.2.2.1 t : Nat) : Int)) 2 (t) 0) 1 (t) 1) (fun _ h => h) ?_
            have hR3 : tm_RM (tl_set (tl_set (tl_set w 0 (34 * t + r) ((σ.2.2.1 t : Nat) : Int)) 2 t 0) 1 t 1) (va_up σ.1 (34 * t + r) (σ.2.2.1 t), va_up σ.2.1 t 1, va_up σ.2.2.1 t 0, σ.2.2.2) := tm_S_RM (tm_W_RM (tm_M_RM hR (34 * t + r) (σ.2.2.1 t)) t 0) t 1
            have hR4 := tm_lw_RM (k := 0) hR3 hr hlp (fun c hc => tm_len hJ hc)
            have e4 : ((va_up σ.1 (34 * t + r) (σ.2.2.1 t), va_up σ.2.1 t 1, va_up σ.2.2.1 t 0, va_up σ.2.2.2 r ((σ.2.2.2 r).eraseIdx 0)) : tm_S) = tm_gr σ r t l := by unfold tm_gr; rw [hq]; rfl
            refine tl_eq (st' := [.inl ((0 : Nat) : Int), .inl ((r : Nat) : Int), .inr 0]) rfl ?_
            refine tl_callV (as := [.inr 0, .inl ((r : Nat) : Int), .inl ((0 : Nat) : Int)]) (rest := []) (v := none) (w' := (tm_lw (tl_set (tl_set (tl_set w 0 (34 * t + r) ((σ.2.2.1 t : Nat) : Int)) 2 (t) 0) 1 (t) 1) r 0 ((σ.2.2.2 r).length - 1))) rfl rfl (tb_lv (d + 1) (σ := (va_up σ.1 (34 * t + r) (σ.2.2.1 t), va_up σ.2.1 t 1, va_up σ.2.2.1 t 0, σ.2.2.2)) _ hR3 hr hlp (tm_len hJ hr)) (Nat.le_of_ble_eq_true rfl) rfl rfl rfl (Nat.le_of_ble_eq_true rfl) ?_
            refine tl_go 2 2 [(0, .inr 0), (1, .inl ((r : Nat) : Int)), (2, .inl (((c : Nat) : Int) + 1)), (3, .inl ((t : Nat) : Int))] [] (tm_lw (tl_set (tl_set (tl_set w 0 (34 * t + r) ((σ.2.2.1 t : Nat) : Int)) 2 (t) 0) 1 (t) 1) r 0 ((σ.2.2.2 r).length - 1)) (fun _ h => And.intro (by omega) h) ?_
            refine ih (c + 1) (tm_gr σ r t l) _ ?_ (by omega) (tm_gr_J hJ hr hq) (e4 ▸ hR4) ?_ (fun w' hw' => ?_) _ (Or.inr ⟨_, rfl⟩)
            · show (va_up σ.2.2.2 r l r).length ≤ n
              rw [va_up_s]; rw [hq, List.length_cons] at hlen; omega
            · rw [tm_lw_n (by decide) (by decide), tl_set_o (by decide), tl_set_o (by decide), tl_set_o (by decide)]; exact hw5
            · have h9 := hQ' w' hw'
              rw [show c + 1 + (tm_sv n (tm_gr σ r t l) r).1 = c + ((tm_sv n (tm_gr σ r t l) r).1 + 1) by omega]
              exact h9
  exact loop 8 0 σ w (tm_len hJ hr) rfl hJ hR hw5 (fun w' hw' => by rw [Nat.zero_add]; exact hQ w' hw') _ (Or.inl rfl)
def tm_qm (s : Nat) (l : List Nat) (k : Nat) : Nat := (l.take k).foldl (fun a u => a ||| 1 * 2 ^ u) s
theorem tm_qm_s {s : Nat} {l : List Nat} {k u : Nat} (h : l[k]? = some u) : tm_qm s l (k + 1) = tm_qm s l k ||| 1 * 2 ^ u := by
  unfold tm_qm
  rw [List.take_add_one, h, Option.toList_some, List.foldl_append]
  rfl
theorem tm_qm_t (w : Nat) : ∀ (l : List Nat) (s : Nat), (l.foldl (fun a u => a ||| 1 * 2 ^ u) s).testBit w = (s.testBit w || decide (w ∈ l)) := by
  intro l
  induction l with
  | nil => intro s; simp
  | cons a l ih =>
    intro s
    show (l.foldl (fun a u => a ||| 1 * 2 ^ u) (s ||| 1 * 2 ^ a)).testBit w = _
    rw [ih, Nat.testBit_or, Nat.one_mul, Nat.testBit_two_pow, Bool.or_assoc]
    congr 1
    by_cases h1 : a = w
    · rw [decide_eq_true h1, Bool.true_or]
      exact (decide_eq_true (by rw [h1]; exact List.mem_cons_self)).symm
    · rw [decide_eq_false h1, Bool.false_or]
      by_cases h2 : w ∈ l
      · rw [decide_eq_true h2, decide_eq_true (List.mem_cons_of_mem _ h2)]
      · rw [decide_eq_false h2, decide_eq_false (fun q => (List.mem_cons.mp q).elim (fun e => h1 e.symm) h2)]
def tm_p1 (σ : tm_S) (r t u : Nat) : Bool := decide (u ≠ t) && !tm_tog (σ.2.2.1 t) (σ.1 (34 * u + r))
theorem tm_wait_eq {σ : tm_S} (hK : tm_K σ) {r t : Nat} (hr : r < 34) (ht : t < 8) (hs : σ.2.1 t = r + 2) : tm_qm (tm_msk (tm_p1 σ r t) 8) (σ.2.2.2 r) ((σ.2.2.2 r).idxOf t) = tm_msk (tm_blk σ r t) 8 := by
  apply Nat.eq_of_testBit_eq
  intro w
  unfold tm_qm
  rw [tm_qm_t, tm_msk_t, tm_msk_t]
  have ht1 := tm_ix2 (((hK.2 r hr).2 t).mpr ⟨ht, hs⟩)
  have hmem : w ∈ (σ.2.2.2 r).take ((σ.2.2.2 r).idxOf t) ↔ (w < 8 ∧ σ.2.1 w = r + 2) ∧ (σ.2.2.2 r).idxOf w < (σ.2.2.2 r).idxOf t := by
    rw [← (hK.2 r hr).2 w]
    constructor
    · intro h
      obtain ⟨i, hi⟩ := List.getElem?_of_mem h
      have h1 : i < (σ.2.2.2 r).idxOf t := by
        have := (List.getElem?_eq_some_iff.mp hi).1
        rw [List.length_take] at this
        omega
      rw [List.getElem?_take_of_lt h1] at hi
      exact ⟨List.mem_of_getElem? hi, by rw [tm_ix (hK.2 r hr).1 hi]; exact h1⟩
    · rintro ⟨h1, h2⟩
      have h3 := tm_ix2 h1
      rw [← List.getElem?_take_of_lt h2] at h3
      exact List.mem_of_getElem? h3
  unfold tm_blk tm_p1
  by_cases h8 : w < 8
  · rw [decide_eq_true h8, Bool.true_and, Bool.true_and]
    by_cases hwt : w = t
    · have hn : ¬ w ∈ (σ.2.2.2 r).take ((σ.2.2.2 r).idxOf t) := fun q => by have := (hmem.mp q).2; rw [hwt] at this; omega
      rw [decide_eq_false hn, decide_eq_false (show ¬ w ≠ t from fun q => q hwt)]
      rfl
    · rw [decide_eq_true hwt, Bool.true_and, Bool.true_and]
      congr 1
      by_cases hm : w ∈ (σ.2.2.2 r).take ((σ.2.2.2 r).idxOf t)
      · have h1 := hmem.mp hm
        rw [decide_eq_true hm, decide_eq_true h1.1.2, decide_eq_true h1.2]
        rfl
      · rw [decide_eq_false hm]
        by_cases h2 : σ.2.1 w = r + 2
        · rw [decide_eq_true h2, decide_eq_false (fun q => hm (hmem.mpr ⟨⟨h8, h2⟩, q⟩))]
          rfl
        · rw [decide_eq_false h2]
          rfl
  · rw [decide_eq_false h8, decide_eq_false (fun q => h8 (hmem.mp q).1.1)]
    rfl
theorem tm_qm_256 {s : Nat} {l : List Nat} (hs : s < 256) (hl : ∀ x ∈ l, x < 8) : ∀ k, k ≤ l.length → tm_qm s l k < 256 := by
  intro k
  induction k with
  | zero => intro _; unfold tm_qm; rw [List.take_zero]; exact hs
  | succ k ih =>
    intro hk
    obtain ⟨u, hu⟩ : ∃ u, l[k]? = some u := ⟨_, List.getElem?_eq_getElem (by omega)⟩
    rw [tm_qm_s hu]
    have h8 := hl u (List.mem_of_getElem? hu)
    have h1 : 1 * 2 ^ u < 256 := by rw [Nat.one_mul]; exact (show 2 ^ u < 2 ^ 8 from Nat.pow_lt_pow_right (by decide) h8)
    exact tm_or256 (ih (by omega)) h1

theorem tb_wt (d : Nat) (t : Nat) (ht : t < 8) {σ : tm_S} (w : tl_W) (hJ : tm_J σ) (hR : tm_RM w σ) : tl_Ev tb_P (d + 2) 14 [.inr 0, .inl ((t : Nat) : Int)] w (.inl (some ((tm_bk σ t : Nat) : Int))) w := by
  refine tl_start fun Q hQ => ?_
  have hS5 := (hJ.2.1 t ht).1
  have hK := tm_J_K hJ
  refine tl_go 3 5 [(0, .inr 0), (1, .inl ((t : Nat) : Int))] [.inl ((t : Nat) : Int), .inr 2] w (fun _ h => And.intro rfl (And.intro (by decide) (h))) ?_
  refine tl_ald (t) 8 (k := 1) rfl (by omega) rfl (by omega) ?_
  refine tl_top (y := ((σ.2.1 t : Nat) : Int)) ((hR.2.1 t ht).1) ?_
  refine tl_go 1 7 [(0, .inr 0), (1, .inl ((t : Nat) : Int))] [.inl 2, .inl ((σ.2.1 t : Nat) : Int)] w (fun _ h => h) ?_
  refine tl_if (2 ≤ ((σ.2.1 t : Nat) : Int)) 12 10 [(0, .inr 0), (1, .inl ((t : Nat) : Int))] [] (fun _ h => h) (fun hc => ?_) (fun hc => ?_)
  · obtain ⟨r, hr, hs⟩ : ∃ r, r < 34 ∧ σ.2.1 t = r + 2 := ⟨σ.2.1 t - 2, by omega, by omega⟩
    have ebk : tm_bk σ t = tm_msk (tm_blk σ r t) 8 := by unfold tm_bk; rw [if_neg (by omega), show σ.2.1 t - 2 = r by omega]
    have hlen := tm_len hJ hr
    refine tl_go 3 17 [(0, .inr 0), (1, .inl ((t : Nat) : Int))] [.inl ((t : Nat) : Int), .inr 2] w (fun _ h => And.intro rfl (And.intro (by decide) (h))) ?_
    refine tl_ald (t) 8 (k := 1) rfl (by omega) rfl (by omega) ?_
    refine tl_top (y := ((σ.2.1 t : Nat) : Int)) ((hR.2.1 t ht).1) ?_
    refine tl_go 2 20 [(0, .inr 0), (1, .inl ((t : Nat) : Int))] [.inl (((σ.2.1 t : Nat) : Int) - 2)] w (fun _ h => And.intro (by omega) h) ?_
    refine tl_top (y := ((r : Nat) : Int)) (by omega) ?_
    refine tl_go 5 26 [(0, .inr 0), (1, .inl ((t : Nat) : Int)), (2, .inl ((r : Nat) : Int)), (3, .inl 0), (4, .inl 0)] [] w (fun _ h => h) ?_
    have loop2 : ∀ m k : Nat, k + m = (σ.2.2.2 r).idxOf t → tl_E tb_P (d + 1) 14 83 [(0, .inr 0), (1, .inl (t : Int)), (2, .inl (r : Int)), (3, .inl ((tm_qm (tm_msk (tm_p1 σ r t) 8) (σ.2.2.2 r) k : Nat) : Int)), (4, .inl (k : Int))] [] w Q := by
      intro m
      induction m with
      | zero =>
        intro k hk
        refine tl_go 4 88 [(0, .inr 0), (1, .inl ((t : Nat) : Int)), (2, .inl ((r : Nat) : Int)), (3, .inl ((tm_qm (tm_msk (tm_p1 σ r t) 8) (σ.2.2.2 r) k : Nat) : Int)), (4, .inl ((k : Nat) : Int))] [.inl ((r : Nat) : Int), .inl ((t : Nat) : Int), .inr 0, .inl ((k : Nat) : Int)] w (fun _ h => h) ?_
        refine tl_callV (as := [.inr 0, .inl ((t : Nat) : Int), .inl ((r : Nat) : Int)]) (rest := [.inl ((k : Nat) : Int)]) (v := some (((σ.2.2.2 r).idxOf t : Nat) : Int)) (w' := w) rfl rfl (tb_po d t r w hR hr (hJ.2.2 r hr).1 hlen) (Nat.le_of_ble_eq_true rfl) rfl rfl rfl (Nat.le_of_ble_eq_true rfl) ?_
        refine tl_ift ((((σ.2.2.2 r).idxOf t : Nat) : Int) ≤ ((k : Nat) : Int)) 117 94 [(0, .inr 0), (1, .inl ((t : Nat) : Int)), (2, .inl ((r : Nat) : Int)), (3, .inl ((tm_qm (tm_msk (tm_p1 σ r t) 8) (σ.2.2.2 r) k : Nat) : Int)), (4, .inl ((k : Nat) : Int))] [] (fun _ h => h) (by omega) ?_
        refine tl_go 1 118 [(0, .inr 0), (1, .inl ((t : Nat) : Int)), (2, .inl ((r : Nat) : Int)), (3, .inl ((tm_qm (tm_msk (tm_p1 σ r t) 8) (σ.2.2.2 r) k : Nat) : Int)), (4, .inl ((k : Nat) : Int))] [.inl ((tm_qm (tm_msk (tm_p1 σ r t) 8) (σ.2.2.2 r) k : Nat) : Int)] w (fun _ h => h) ?_
        exact tl_reti rfl rfl (by rw [ebk, ← tm_wait_eq hK hr ht hs, show k = (σ.2.2.2 r).idxOf t by omega]) (hQ)
      | succ m ih =>
        intro k hk
        have hix := List.idxOf_lt_length_of_mem (((hK.2 r hr).2 t).mpr ⟨ht, hs⟩)
        obtain ⟨u, hu⟩ : ∃ u, (σ.2.2.2 r)[k]? = some u := ⟨_, List.getElem?_eq_getElem (by omega)⟩
        have hu8 := (tm_K_lt hK hr hu).2.1
        refine tl_go 4 88 [(0, .inr 0), (1, .inl ((t : Nat) : Int)), (2, .inl ((r : Nat) : Int)), (3, .inl ((tm_qm (tm_msk (tm_p1 σ r t) 8) (σ.2.2.2 r) k : Nat) : Int)), (4, .inl ((k : Nat) : Int))] [.inl ((r : Nat) : Int), .inl ((t : Nat) : Int), .inr 0, .inl ((k : Nat) : Int)] w (fun _ h => h) ?_
        refine tl_callV (as := [.inr 0, .inl ((t : Nat) : Int), .inl ((r : Nat) : Int)]) (rest := [.inl ((k : Nat) : Int)]) (v := some (((σ.2.2.2 r).idxOf t : Nat) : Int)) (w' := w) rfl rfl (tb_po d t r w hR hr (hJ.2.2 r hr).1 hlen) (Nat.le_of_ble_eq_true rfl) rfl rfl rfl (Nat.le_of_ble_eq_true rfl) ?_
        refine tl_iff ((((σ.2.2.2 r).idxOf t : Nat) : Int) ≤ ((k : Nat) : Int)) 117 94 [(0, .inr 0), (1, .inl ((t : Nat) : Int)), (2, .inl ((r : Nat) : Int)), (3, .inl ((tm_qm (tm_msk (tm_p1 σ r t) 8) (σ.2.2.2 r) k : Nat) : Int)), (4, .inl ((k : Nat) : Int))] [] (fun _ h => h) (by omega) ?_
        refine tl_go 9 107 [(0, .inr 0), (1, .inl ((t : Nat) : Int)), (2, .inl ((r : Nat) : Int)), (3, .inl ((tm_qm (tm_msk (tm_p1 σ r t) 8) (σ.2.2.2 r) k : Nat) : Int)), (4, .inl ((k : Nat) : Int))] [.inl ((8 * ((r : Nat) : Int)) + ((k : Nat) : Int)), .inr 4, .inl 1, .inl ((tm_qm (tm_msk (tm_p1 σ r t) 8) (σ.2.2.2 r) k : Nat) : Int)] w (fun _ h => And.intro rfl (And.intro (by decide) (And.intro (by omega) (And.intro (by omega) h)))) ?_
        refine tl_ald (8 * r + k) 272 (k := 3) rfl (by omega) rfl (by omega) ?_
        refine tl_top (y := ((u : Nat) : Int)) ((hR.2.2 r hr).2 k u hu) ?_
        refine tl_shl2 1 u rfl rfl rfl (by omega) (tm_p8 hu8) ?_
        refine tl_or2 (tm_qm (tm_msk (tm_p1 σ r t) 8) (σ.2.2.2 r) k) (1 * 2 ^ u) rfl rfl rfl ?_
        refine tl_go 3 83 [(0, .inr 0), (1, .inl ((t : Nat) : Int)), (2, .inl ((r : Nat) : Int)), (3, .inl ((tm_qm (tm_msk (tm_p1 σ r t) 8) (σ.2.2.2 r) k ||| 1 * 2 ^ u : Nat) : Int)), (4, .inl (((k : Nat) : Int) + 1))] [] w (fun _ h => And.intro (by omega) h) ?_
        have h9 := ih (k + 1) (by omega)
        rw [tm_qm_s hu] at h9
        exact h9
    have loop : ∀ k i : Nat, i + k = 8 → tl_E tb_P (d + 1) 14 26 [(0, .inr 0), (1, .inl (t : Int)), (2, .inl (r : Int)), (3, .inl ((tm_msk (tm_p1 σ r t) i : Nat) : Int)), (4, .inl (i : Int))] [] w Q := by
      intro k
      induction k with
      | zero =>
        intro i hi
        have h9 := loop2 _ 0 (Nat.zero_add _)
        rw [show tm_qm (tm_msk (tm_p1 σ r t) 8) (σ.2.2.2 r) 0 = tm_msk (tm_p1 σ r t) i by rw [show i = 8 by omega]; rfl] at h9
        refine tl_go 2 30 [(0, .inr 0), (1, .inl ((t : Nat) : Int)), (2, .inl ((r : Nat) : Int)), (3, .inl ((tm_msk (tm_p1 σ r t) i : Nat) : Int)), (4, .inl ((i : Nat) : Int))] [.inl 8, .inl ((i : Nat) : Int)] w (fun _ h => h) ?_
        refine tl_ift (8 ≤ ((i : Nat) : Int)) 80 33 [(0, .inr 0), (1, .inl ((t : Nat) : Int)), (2, .inl ((r : Nat) : Int)), (3, .inl ((tm_msk (tm_p1 σ r t) i : Nat) : Int)), (4, .inl ((i : Nat) : Int))] [] (fun _ h => h) (by omega) ?_
        refine tl_go 2 83 [(0, .inr 0), (1, .inl ((t : Nat) : Int)), (2, .inl ((r : Nat) : Int)), (3, .inl ((tm_msk (tm_p1 σ r t) i : Nat) : Int)), (4, .inl 0)] [] w (fun _ h => h) ?_
        exact h9
      | succ k ih =>
        intro i hi
        refine tl_go 2 30 [(0, .inr 0), (1, .inl ((t : Nat) : Int)), (2, .inl ((r : Nat) : Int)), (3, .inl ((tm_msk (tm_p1 σ r t) i : Nat) : Int)), (4, .inl ((i : Nat) : Int))] [.inl 8, .inl ((i : Nat) : Int)] w (fun _ h => h) ?_
        refine tl_iff (8 ≤ ((i : Nat) : Int)) 80 33 [(0, .inr 0), (1, .inl ((t : Nat) : Int)), (2, .inl ((r : Nat) : Int)), (3, .inl ((tm_msk (tm_p1 σ r t) i : Nat) : Int)), (4, .inl ((i : Nat) : Int))] [] (fun _ h => h) (by omega) ?_
        refine tl_go 2 36 [(0, .inr 0), (1, .inl ((t : Nat) : Int)), (2, .inl ((r : Nat) : Int)), (3, .inl ((tm_msk (tm_p1 σ r t) i : Nat) : Int)), (4, .inl ((i : Nat) : Int))] [.inl ((t : Nat) : Int), .inl ((i : Nat) : Int)] w (fun _ h => h) ?_
        refine tl_if (((i : Nat) : Int) = ((t : Nat) : Int)) 72 39 [(0, .inr 0), (1, .inl ((t : Nat) : Int)), (2, .inl ((r : Nat) : Int)), (3, .inl ((tm_msk (tm_p1 σ r t) i : Nat) : Int)), (4, .inl ((i : Nat) : Int))] [] (fun _ h => h) (fun he => ?_) (fun he => ?_)
        · have e1 : tm_msk (tm_p1 σ r t) (i + 1) = tm_msk (tm_p1 σ r t) i := by
            show (bif tm_p1 σ r t i then _ else _) = _
            rw [show tm_p1 σ r t i = false from by unfold tm_p1; rw [decide_eq_false (show ¬ i ≠ t by omega)]; rfl]
            rfl
          refine tl_go 4 26 [(0, .inr 0), (1, .inl ((t : Nat) : Int)), (2, .inl ((r : Nat) : Int)), (3, .inl ((tm_msk (tm_p1 σ r t) i : Nat) : Int)), (4, .inl (((i : Nat) : Int) + 1))] [] w (fun _ h => And.intro (by omega) h) ?_
          have h9 := ih (i + 1) (by omega)
          rw [e1] at h9
          exact h9
        · have hne : i ≠ t := fun e => he (by rw [e])
          refine tl_go 3 44 [(0, .inr 0), (1, .inl ((t : Nat) : Int)), (2, .inl ((r : Nat) : Int)), (3, .inl ((tm_msk (tm_p1 σ r t) i : Nat) : Int)), (4, .inl ((i : Nat) : Int))] [.inl ((t : Nat) : Int), .inr 3] w (fun _ h => And.intro rfl (And.intro (by decide) (h))) ?_
          refine tl_ald (t) 8 (k := 2) rfl (by omega) rfl (by omega) ?_
          refine tl_top (y := ((σ.2.2.1 t : Nat) : Int)) ((hR.2.1 t ht).2) ?_
          refine tl_go 7 56 [(0, .inr 0), (1, .inl ((t : Nat) : Int)), (2, .inl ((r : Nat) : Int)), (3, .inl ((tm_msk (tm_p1 σ r t) i : Nat) : Int)), (4, .inl ((i : Nat) : Int))] [.inl ((34 * ((i : Nat) : Int)) + ((r : Nat) : Int)), .inr 1, .inl ((σ.2.2.1 t : Nat) : Int)] w (fun _ h => And.intro rfl (And.intro (by decide) (And.intro (by omega) (And.intro (by omega) h)))) ?_
          refine tl_ald (34 * i + r) 272 (k := 0) rfl (by omega) rfl (by omega) ?_
          refine tl_top (y := ((σ.1 (34 * i + r) : Nat) : Int)) (hR.1 _ (by omega)) ?_
          refine tl_callS (as := [.inl ((σ.2.2.1 t : Nat) : Int), .inl ((σ.1 (34 * i + r) : Nat) : Int)]) (rest := []) (v := some (tm_b (decide (tm_tog (σ.2.2.1 t) (σ.1 (34 * i + r)) = true)))) (w' := w) rfl rfl rfl rfl (tb_tog d (σ.2.2.1 t) (σ.1 (34 * i + r)) w) (Nat.le_of_ble_eq_true rfl) rfl rfl (Nat.le_of_ble_eq_true rfl) ?_
          refine tl_if (¬ (tm_b (decide (tm_tog (σ.2.2.1 t) (σ.1 (34 * i + r)) = true))) = 0) 72 63 [(0, .inr 0), (1, .inl ((t : Nat) : Int)), (2, .inl ((r : Nat) : Int)), (3, .inl ((tm_msk (tm_p1 σ r t) i : Nat) : Int)), (4, .inl ((i : Nat) : Int))] [] (fun _ h => h) (fun hb => ?_) (fun hb => ?_)
          · have hb := of_decide_eq_true (tm_bne hb)
            have e1 : tm_msk (tm_p1 σ r t) (i + 1) = tm_msk (tm_p1 σ r t) i := by
              show (bif tm_p1 σ r t i then _ else _) = _
              rw [show tm_p1 σ r t i = false from by unfold tm_p1; rw [hb, Bool.not_true, Bool.and_false]]
              rfl
            refine tl_go 4 26 [(0, .inr 0), (1, .inl ((t : Nat) : Int)), (2, .inl ((r : Nat) : Int)), (3, .inl ((tm_msk (tm_p1 σ r t) i : Nat) : Int)), (4, .inl (((i : Nat) : Int) + 1))] [] w (fun _ h => And.intro (by omega) h) ?_
            have h9 := ih (i + 1) (by omega)
            rw [e1] at h9
            exact h9
          · have hb := of_decide_eq_false (tm_beq (Classical.not_not.mp hb))
            refine tl_go 3 67 [(0, .inr 0), (1, .inl ((t : Nat) : Int)), (2, .inl ((r : Nat) : Int)), (3, .inl ((tm_msk (tm_p1 σ r t) i : Nat) : Int)), (4, .inl ((i : Nat) : Int))] [.inl ((i : Nat) : Int), .inl 1, .inl ((tm_msk (tm_p1 σ r t) i : Nat) : Int)] w (fun _ h => h) ?_
            refine tl_shl2 1 i rfl rfl rfl (by omega) (tm_p8 (by omega)) ?_
            refine tl_or2 (tm_msk (tm_p1 σ r t) i) (1 * 2 ^ i) rfl rfl rfl ?_
            have e1 : tm_msk (tm_p1 σ r t) (i + 1) = tm_msk (tm_p1 σ r t) i ||| 1 * 2 ^ i := by
              show (bif tm_p1 σ r t i then _ else _) = _
              rw [show tm_p1 σ r t i = true from by unfold tm_p1; rw [decide_eq_true hne, show tm_tog (σ.2.2.1 t) (σ.1 (34 * i + r)) = false from by simpa using hb]; rfl]
              rfl
            refine tl_go 4 26 [(0, .inr 0), (1, .inl ((t : Nat) : Int)), (2, .inl ((r : Nat) : Int)), (3, .inl ((tm_msk (tm_p1 σ r t) i ||| 1 * 2 ^ i : Nat) : Int)), (4, .inl (((i : Nat) : Int) + 1))] [] w (fun _ h => And.intro (by omega) h) ?_
            have h9 := ih (i + 1) (by omega)
            rw [e1] at h9
            exact h9
    exact loop 8 0 rfl
  · refine tl_go 1 11 [(0, .inr 0), (1, .inl ((t : Nat) : Int))] [.inl 0] w (fun _ h => h) ?_
    exact tl_reti rfl rfl (by unfold tm_bk; rw [if_pos (by omega)]; rfl) (hQ)
theorem tb_rnd (d : Nat) (t : Nat) (ht : t < 8) {σ : tm_S} (w : tl_W) (hJ : tm_J σ) (hR : tm_RM w σ) : tl_Ev tb_P (d + 3) 15 [.inr 0, .inl ((t : Nat) : Int)] w (.inl (some (tm_b (decide (tm_cir σ t = true))))) w := by
  refine tl_start fun Q hQ => ?_
  have hbk : ∀ u, u < 8 → tm_bk σ u < 256 := fun u _ => tm_bk_256 σ u
  refine tl_go 2 2 [(0, .inr 0), (1, .inl ((t : Nat) : Int))] [.inl ((t : Nat) : Int), .inr 0] w (fun _ h => h) ?_
  refine tl_callV (as := [.inr 0, .inl ((t : Nat) : Int)]) (rest := []) (v := some ((tm_bk σ t : Nat) : Int)) (w' := w) rfl rfl (tb_wt d t ht w hJ hR) (Nat.le_of_ble_eq_true rfl) rfl rfl rfl (Nat.le_of_ble_eq_true rfl) ?_
  refine tl_go 3 8 [(0, .inr 0), (1, .inl ((t : Nat) : Int)), (2, .inl ((tm_bk σ t : Nat) : Int)), (3, .inl 0)] [] w (fun _ h => h) ?_
  have loop : ∀ m k : Nat, k + m = 8 → ∀ L : tl_L, (L = [(0, .inr 0), (1, .inl (t : Int)), (2, .inl ((tm_it (tm_gs (tm_bk σ)) k (tm_bk σ t) : Nat) : Int)), (3, .inl (k : Int))] ∨ ∃ x : Int, L = [(0, .inr 0), (1, .inl (t : Int)), (2, .inl ((tm_it (tm_gs (tm_bk σ)) k (tm_bk σ t) : Nat) : Int)), (3, .inl (k : Int)), (4, .inl x)]) → tl_E tb_P (d + 2) 15 8 L [] w Q := by
    intro m
    induction m with
    | zero =>
      intro k hk L hL
      have e8 : (tm_it (tm_gs (tm_bk σ)) k (tm_bk σ t)).testBit t = tm_cir σ t := by rw [show k = 8 by omega]; exact tm_both hbk _ _
      have hb : (tm_it (tm_gs (tm_bk σ)) k (tm_bk σ t)).testBit t = decide (tm_it (tm_gs (tm_bk σ)) k (tm_bk σ t) / 2 ^ t % 2 = 1) := Nat.testBit_eq_decide_div_mod_eq
      rcases hL with rfl | ⟨x, rfl⟩
      · refine tl_go 2 11 [(0, .inr 0), (1, .inl ((t : Nat) : Int)), (2, .inl ((tm_it (tm_gs (tm_bk σ)) k (tm_bk σ t) : Nat) : Int)), (3, .inl ((k : Nat) : Int))] [.inl 8, .inl ((k : Nat) : Int)] w (fun _ h => h) ?_
        refine tl_ift (8 ≤ ((k : Nat) : Int)) 59 14 [(0, .inr 0), (1, .inl ((t : Nat) : Int)), (2, .inl ((tm_it (tm_gs (tm_bk σ)) k (tm_bk σ t) : Nat) : Int)), (3, .inl ((k : Nat) : Int))] [] (fun _ h => h) (by omega) ?_
        refine tl_go 2 61 [(0, .inr 0), (1, .inl ((t : Nat) : Int)), (2, .inl ((tm_it (tm_gs (tm_bk σ)) k (tm_bk σ t) : Nat) : Int)), (3, .inl ((k : Nat) : Int))] [.inl ((t : Nat) : Int), .inl ((tm_it (tm_gs (tm_bk σ)) k (tm_bk σ t) : Nat) : Int)] w (fun _ h => h) ?_
        refine tl_shr2 (tm_it (tm_gs (tm_bk σ)) k (tm_bk σ t)) t rfl rfl rfl (by omega) ?_
        refine tl_go 1 63 [(0, .inr 0), (1, .inl ((t : Nat) : Int)), (2, .inl ((tm_it (tm_gs (tm_bk σ)) k (tm_bk σ t) : Nat) : Int)), (3, .inl ((k : Nat) : Int))] [.inl 1, .inl ((tm_it (tm_gs (tm_bk σ)) k (tm_bk σ t) / 2 ^ t : Nat) : Int)] w (fun _ h => h) ?_
        refine tl_and2 (tm_it (tm_gs (tm_bk σ)) k (tm_bk σ t) / 2 ^ t) 1 rfl rfl rfl ?_
        refine tl_top (y := ((tm_it (tm_gs (tm_bk σ)) k (tm_bk σ t) / 2 ^ t % 2 : Nat) : Int)) (by rw [Nat.and_one_is_mod]) ?_
        refine tl_go 1 65 [(0, .inr 0), (1, .inl ((t : Nat) : Int)), (2, .inl ((tm_it (tm_gs (tm_bk σ)) k (tm_bk σ t) : Nat) : Int)), (3, .inl ((k : Nat) : Int))] [.inl 1, .inl ((tm_it (tm_gs (tm_bk σ)) k (tm_bk σ t) / 2 ^ t % 2 : Nat) : Int)] w (fun _ h => h) ?_
        refine tl_if (¬ ((tm_it (tm_gs (tm_bk σ)) k (tm_bk σ t) / 2 ^ t % 2 : Nat) : Int) = 1) 72 68 [(0, .inr 0), (1, .inl ((t : Nat) : Int)), (2, .inl ((tm_it (tm_gs (tm_bk σ)) k (tm_bk σ t) : Nat) : Int)), (3, .inl ((k : Nat) : Int))] [] (fun _ h => h) (fun hc => ?_) (fun hc => ?_)
        · refine tl_go 1 73 [(0, .inr 0), (1, .inl ((t : Nat) : Int)), (2, .inl ((tm_it (tm_gs (tm_bk σ)) k (tm_bk σ t) : Nat) : Int)), (3, .inl ((k : Nat) : Int))] [.inl 0] w (fun _ h => h) ?_
          exact tl_retz rfl rfl (tm_b0 (decide_eq_false (by rw [← e8, hb]; intro q; have := of_decide_eq_true q; omega))) (hQ)
        · refine tl_go 2 73 [(0, .inr 0), (1, .inl ((t : Nat) : Int)), (2, .inl ((tm_it (tm_gs (tm_bk σ)) k (tm_bk σ t) : Nat) : Int)), (3, .inl ((k : Nat) : Int))] [.inl 1] w (fun _ h => h) ?_
          exact tl_retz rfl rfl (tm_b1 (decide_eq_true (by rw [← e8, hb]; exact decide_eq_true (by omega)))) (hQ)
      · refine tl_go 2 11 [(0, .inr 0), (1, .inl ((t : Nat) : Int)), (2, .inl ((tm_it (tm_gs (tm_bk σ)) k (tm_bk σ t) : Nat) : Int)), (3, .inl ((k : Nat) : Int)), (4, .inl x)] [.inl 8, .inl ((k : Nat) : Int)] w (fun _ h => h) ?_
        refine tl_ift (8 ≤ ((k : Nat) : Int)) 59 14 [(0, .inr 0), (1, .inl ((t : Nat) : Int)), (2, .inl ((tm_it (tm_gs (tm_bk σ)) k (tm_bk σ t) : Nat) : Int)), (3, .inl ((k : Nat) : Int)), (4, .inl x)] [] (fun _ h => h) (by omega) ?_
        refine tl_go 2 61 [(0, .inr 0), (1, .inl ((t : Nat) : Int)), (2, .inl ((tm_it (tm_gs (tm_bk σ)) k (tm_bk σ t) : Nat) : Int)), (3, .inl ((k : Nat) : Int)), (4, .inl x)] [.inl ((t : Nat) : Int), .inl ((tm_it (tm_gs (tm_bk σ)) k (tm_bk σ t) : Nat) : Int)] w (fun _ h => h) ?_
        refine tl_shr2 (tm_it (tm_gs (tm_bk σ)) k (tm_bk σ t)) t rfl rfl rfl (by omega) ?_
        refine tl_go 1 63 [(0, .inr 0), (1, .inl ((t : Nat) : Int)), (2, .inl ((tm_it (tm_gs (tm_bk σ)) k (tm_bk σ t) : Nat) : Int)), (3, .inl ((k : Nat) : Int)), (4, .inl x)] [.inl 1, .inl ((tm_it (tm_gs (tm_bk σ)) k (tm_bk σ t) / 2 ^ t : Nat) : Int)] w (fun _ h => h) ?_
        refine tl_and2 (tm_it (tm_gs (tm_bk σ)) k (tm_bk σ t) / 2 ^ t) 1 rfl rfl rfl ?_
        refine tl_top (y := ((tm_it (tm_gs (tm_bk σ)) k (tm_bk σ t) / 2 ^ t % 2 : Nat) : Int)) (by rw [Nat.and_one_is_mod]) ?_
        refine tl_go 1 65 [(0, .inr 0), (1, .inl ((t : Nat) : Int)), (2, .inl ((tm_it (tm_gs (tm_bk σ)) k (tm_bk σ t) : Nat) : Int)), (3, .inl ((k : Nat) : Int)), (4, .inl x)] [.inl 1, .inl ((tm_it (tm_gs (tm_bk σ)) k (tm_bk σ t) / 2 ^ t % 2 : Nat) : Int)] w (fun _ h => h) ?_
        refine tl_if (¬ ((tm_it (tm_gs (tm_bk σ)) k (tm_bk σ t) / 2 ^ t % 2 : Nat) : Int) = 1) 72 68 [(0, .inr 0), (1, .inl ((t : Nat) : Int)), (2, .inl ((tm_it (tm_gs (tm_bk σ)) k (tm_bk σ t) : Nat) : Int)), (3, .inl ((k : Nat) : Int)), (4, .inl x)] [] (fun _ h => h) (fun hc => ?_) (fun hc => ?_)
        · refine tl_go 1 73 [(0, .inr 0), (1, .inl ((t : Nat) : Int)), (2, .inl ((tm_it (tm_gs (tm_bk σ)) k (tm_bk σ t) : Nat) : Int)), (3, .inl ((k : Nat) : Int)), (4, .inl x)] [.inl 0] w (fun _ h => h) ?_
          exact tl_retz rfl rfl (tm_b0 (decide_eq_false (by rw [← e8, hb]; intro q; have := of_decide_eq_true q; omega))) (hQ)
        · refine tl_go 2 73 [(0, .inr 0), (1, .inl ((t : Nat) : Int)), (2, .inl ((tm_it (tm_gs (tm_bk σ)) k (tm_bk σ t) : Nat) : Int)), (3, .inl ((k : Nat) : Int)), (4, .inl x)] [.inl 1] w (fun _ h => h) ?_
          exact tl_retz rfl rfl (tm_b1 (decide_eq_true (by rw [← e8, hb]; exact decide_eq_true (by omega)))) (hQ)
    | succ m ih =>
      intro k hk L hL
      have inner : ∀ n i : Nat, i + n = 8 → tl_E tb_P (d + 2) 15 17 [(0, .inr 0), (1, .inl (t : Int)), (2, .inl ((tm_gsn (tm_bk σ) (tm_it (tm_gs (tm_bk σ)) k (tm_bk σ t)) i : Nat) : Int)), (3, .inl (k : Int)), (4, .inl (i : Int))] [] w Q := by
        intro n
        induction n with
        | zero =>
          intro i hi
          refine tl_go 2 21 [(0, .inr 0), (1, .inl ((t : Nat) : Int)), (2, .inl ((tm_gsn (tm_bk σ) (tm_it (tm_gs (tm_bk σ)) k (tm_bk σ t)) i : Nat) : Int)), (3, .inl ((k : Nat) : Int)), (4, .inl ((i : Nat) : Int))] [.inl 8, .inl ((i : Nat) : Int)] w (fun _ h => h) ?_
          refine tl_ift (8 ≤ ((i : Nat) : Int)) 53 24 [(0, .inr 0), (1, .inl ((t : Nat) : Int)), (2, .inl ((tm_gsn (tm_bk σ) (tm_it (tm_gs (tm_bk σ)) k (tm_bk σ t)) i : Nat) : Int)), (3, .inl ((k : Nat) : Int)), (4, .inl ((i : Nat) : Int))] [] (fun _ h => h) (by omega) ?_
          refine tl_go 2 8 [(0, .inr 0), (1, .inl ((t : Nat) : Int)), (2, .inl ((tm_gsn (tm_bk σ) (tm_it (tm_gs (tm_bk σ)) k (tm_bk σ t)) i : Nat) : Int)), (3, .inl (((k : Nat) : Int) + 1)), (4, .inl ((i : Nat) : Int))] [] w (fun _ h => And.intro (by omega) h) ?_
          refine tl_loc (L' := [(0, .inr 0), (1, .inl ((t : Nat) : Int)), (2, .inl ((tm_it (tm_gs (tm_bk σ)) (k + 1) (tm_bk σ t) : Nat) : Int)), (3, .inl (((k : Nat) : Int) + 1)), (4, .inl ((i : Nat) : Int))]) (by rw [show i = 8 by omega]; rfl) ?_
          exact ih (k + 1) (by omega) _ (Or.inr ⟨_, rfl⟩)
        | succ n ihn =>
          intro i hi
          have hb : (tm_gsn (tm_bk σ) (tm_it (tm_gs (tm_bk σ)) k (tm_bk σ t)) i).testBit i = decide (tm_gsn (tm_bk σ) (tm_it (tm_gs (tm_bk σ)) k (tm_bk σ t)) i / 2 ^ i % 2 = 1) := Nat.testBit_eq_decide_div_mod_eq
          refine tl_go 2 21 [(0, .inr 0), (1, .inl ((t : Nat) : Int)), (2, .inl ((tm_gsn (tm_bk σ) (tm_it (tm_gs (tm_bk σ)) k (tm_bk σ t)) i : Nat) : Int)), (3, .inl ((k : Nat) : Int)), (4, .inl ((i : Nat) : Int))] [.inl 8, .inl ((i : Nat) : Int)] w (fun _ h => h) ?_
          refine tl_iff (8 ≤ ((i : Nat) : Int)) 53 24 [(0, .inr 0), (1, .inl ((t : Nat) : Int)), (2, .inl ((tm_gsn (tm_bk σ) (tm_it (tm_gs (tm_bk σ)) k (tm_bk σ t)) i : Nat) : Int)), (3, .inl ((k : Nat) : Int)), (4, .inl ((i : Nat) : Int))] [] (fun _ h => h) (by omega) ?_
          refine tl_go 2 27 [(0, .inr 0), (1, .inl ((t : Nat) : Int)), (2, .inl ((tm_gsn (tm_bk σ) (tm_it (tm_gs (tm_bk σ)) k (tm_bk σ t)) i : Nat) : Int)), (3, .inl ((k : Nat) : Int)), (4, .inl ((i : Nat) : Int))] [.inl ((i : Nat) : Int), .inl ((tm_gsn (tm_bk σ) (tm_it (tm_gs (tm_bk σ)) k (tm_bk σ t)) i : Nat) : Int)] w (fun _ h => h) ?_
          refine tl_shr2 (tm_gsn (tm_bk σ) (tm_it (tm_gs (tm_bk σ)) k (tm_bk σ t)) i) i rfl rfl rfl (by omega) ?_
          refine tl_go 1 29 [(0, .inr 0), (1, .inl ((t : Nat) : Int)), (2, .inl ((tm_gsn (tm_bk σ) (tm_it (tm_gs (tm_bk σ)) k (tm_bk σ t)) i : Nat) : Int)), (3, .inl ((k : Nat) : Int)), (4, .inl ((i : Nat) : Int))] [.inl 1, .inl ((tm_gsn (tm_bk σ) (tm_it (tm_gs (tm_bk σ)) k (tm_bk σ t)) i / 2 ^ i : Nat) : Int)] w (fun _ h => h) ?_
          refine tl_and2 (tm_gsn (tm_bk σ) (tm_it (tm_gs (tm_bk σ)) k (tm_bk σ t)) i / 2 ^ i) 1 rfl rfl rfl ?_
          refine tl_top (y := ((tm_gsn (tm_bk σ) (tm_it (tm_gs (tm_bk σ)) k (tm_bk σ t)) i / 2 ^ i % 2 : Nat) : Int)) (by rw [Nat.and_one_is_mod]) ?_
          refine tl_go 1 31 [(0, .inr 0), (1, .inl ((t : Nat) : Int)), (2, .inl ((tm_gsn (tm_bk σ) (tm_it (tm_gs (tm_bk σ)) k (tm_bk σ t)) i : Nat) : Int)), (3, .inl ((k : Nat) : Int)), (4, .inl ((i : Nat) : Int))] [.inl 1, .inl ((tm_gsn (tm_bk σ) (tm_it (tm_gs (tm_bk σ)) k (tm_bk σ t)) i / 2 ^ i % 2 : Nat) : Int)] w (fun _ h => h) ?_
          refine tl_if (¬ ((tm_gsn (tm_bk σ) (tm_it (tm_gs (tm_bk σ)) k (tm_bk σ t)) i / 2 ^ i % 2 : Nat) : Int) = 1) 45 34 [(0, .inr 0), (1, .inl ((t : Nat) : Int)), (2, .inl ((tm_gsn (tm_bk σ) (tm_it (tm_gs (tm_bk σ)) k (tm_bk σ t)) i : Nat) : Int)), (3, .inl ((k : Nat) : Int)), (4, .inl ((i : Nat) : Int))] [] (fun _ h => h) (fun hc => ?_) (fun hc => ?_)
          · have h9 := ihn (i + 1) (by omega)
            rw [tm_gsn_s, hb, decide_eq_false (by omega)] at h9
            refine tl_go 4 17 [(0, .inr 0), (1, .inl ((t : Nat) : Int)), (2, .inl ((tm_gsn (tm_bk σ) (tm_it (tm_gs (tm_bk σ)) k (tm_bk σ t)) i : Nat) : Int)), (3, .inl ((k : Nat) : Int)), (4, .inl (((i : Nat) : Int) + 1))] [] w (fun _ h => And.intro (by omega) h) ?_
            exact h9
          · have h9 := ihn (i + 1) (by omega)
            rw [tm_gsn_s, hb, decide_eq_true (by omega)] at h9
            refine tl_go 3 38 [(0, .inr 0), (1, .inl ((t : Nat) : Int)), (2, .inl ((tm_gsn (tm_bk σ) (tm_it (tm_gs (tm_bk σ)) k (tm_bk σ t)) i : Nat) : Int)), (3, .inl ((k : Nat) : Int)), (4, .inl ((i : Nat) : Int))] [.inl ((i : Nat) : Int), .inr 0, .inl ((tm_gsn (tm_bk σ) (tm_it (tm_gs (tm_bk σ)) k (tm_bk σ t)) i : Nat) : Int)] w (fun _ h => h) ?_
            refine tl_callV (as := [.inr 0, .inl ((i : Nat) : Int)]) (rest := [.inl ((tm_gsn (tm_bk σ) (tm_it (tm_gs (tm_bk σ)) k (tm_bk σ t)) i : Nat) : Int)]) (v := some ((tm_bk σ i : Nat) : Int)) (w' := w) rfl rfl (tb_wt d i (by omega) w hJ hR) (Nat.le_of_ble_eq_true rfl) rfl rfl rfl (Nat.le_of_ble_eq_true rfl) ?_
            refine tl_or2 (tm_gsn (tm_bk σ) (tm_it (tm_gs (tm_bk σ)) k (tm_bk σ t)) i) (tm_bk σ i) rfl rfl rfl ?_
            refine tl_go 4 17 [(0, .inr 0), (1, .inl ((t : Nat) : Int)), (2, .inl ((tm_gsn (tm_bk σ) (tm_it (tm_gs (tm_bk σ)) k (tm_bk σ t)) i ||| tm_bk σ i : Nat) : Int)), (3, .inl ((k : Nat) : Int)), (4, .inl (((i : Nat) : Int) + 1))] [] w (fun _ h => And.intro (by omega) h) ?_
            exact h9
      rcases hL with rfl | ⟨x, rfl⟩
      · refine tl_go 2 11 [(0, .inr 0), (1, .inl ((t : Nat) : Int)), (2, .inl ((tm_it (tm_gs (tm_bk σ)) k (tm_bk σ t) : Nat) : Int)), (3, .inl ((k : Nat) : Int))] [.inl 8, .inl ((k : Nat) : Int)] w (fun _ h => h) ?_
        refine tl_iff (8 ≤ ((k : Nat) : Int)) 59 14 [(0, .inr 0), (1, .inl ((t : Nat) : Int)), (2, .inl ((tm_it (tm_gs (tm_bk σ)) k (tm_bk σ t) : Nat) : Int)), (3, .inl ((k : Nat) : Int))] [] (fun _ h => h) (by omega) ?_
        refine tl_go 2 17 [(0, .inr 0), (1, .inl ((t : Nat) : Int)), (2, .inl ((tm_it (tm_gs (tm_bk σ)) k (tm_bk σ t) : Nat) : Int)), (3, .inl ((k : Nat) : Int)), (4, .inl 0)] [] w (fun _ h => h) ?_
        exact inner 8 0 rfl
      · refine tl_go 2 11 [(0, .inr 0), (1, .inl ((t : Nat) : Int)), (2, .inl ((tm_it (tm_gs (tm_bk σ)) k (tm_bk σ t) : Nat) : Int)), (3, .inl ((k : Nat) : Int)), (4, .inl x)] [.inl 8, .inl ((k : Nat) : Int)] w (fun _ h => h) ?_
        refine tl_iff (8 ≤ ((k : Nat) : Int)) 59 14 [(0, .inr 0), (1, .inl ((t : Nat) : Int)), (2, .inl ((tm_it (tm_gs (tm_bk σ)) k (tm_bk σ t) : Nat) : Int)), (3, .inl ((k : Nat) : Int)), (4, .inl x)] [] (fun _ h => h) (by omega) ?_
        refine tl_go 2 17 [(0, .inr 0), (1, .inl ((t : Nat) : Int)), (2, .inl ((tm_it (tm_gs (tm_bk σ)) k (tm_bk σ t) : Nat) : Int)), (3, .inl ((k : Nat) : Int)), (4, .inl 0)] [] w (fun _ h => h) ?_
        exact inner 8 0 rfl
  exact loop 8 0 rfl _ (Or.inl rfl)
