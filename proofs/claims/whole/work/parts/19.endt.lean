/-! 19.endt: the class's end, printed by a8.py -/
def tm_ge (t : Nat) (aw : Int) : Nat → tm_S → Nat × tm_S
  | 0, σ => (0, σ)
  | n + 1, σ => if σ.1 (34 * t + n) ≠ 0 ∨ (n : Int) = aw then ((tm_gv σ t n).1 + (tm_ge t aw n (tm_gv σ t n).2).1, (tm_ge t aw n (tm_gv σ t n).2).2) else tm_ge t aw n σ
theorem tm_ge_s (t : Nat) (aw : Int) (n : Nat) (σ : tm_S) : tm_ge t aw (n + 1) σ = if σ.1 (34 * t + n) ≠ 0 ∨ (n : Int) = aw then ((tm_gv σ t n).1 + (tm_ge t aw n (tm_gv σ t n).2).1, (tm_ge t aw n (tm_gv σ t n).2).2) else tm_ge t aw n σ := rfl
def tm_idl (σ : tm_S) (t : Nat) : tm_S := (σ.1, va_up σ.2.1 t 0, σ.2.2.1, σ.2.2.2)
def tm_out (σ : tm_S) (t : Nat) : tm_S := if σ.2.1 t < 2 then σ else tm_lv σ (σ.2.1 t - 2) t ((σ.2.2.2 (σ.2.1 t - 2)).idxOf t)
def tm_oEnd (σ : tm_S) (t : Int) : tl_R × tm_S :=
  if ¬ (0 ≤ t ∧ t < 8) then (.inr 1, σ)
  else if σ.2.1 t.toNat = 0 then (.inr 2, σ)
  else (.inl (some ((tm_ge t.toNat (tm_aw (σ.2.1 t.toNat)) 34 (tm_idl (tm_out σ t.toNat) t.toNat)).1 : Nat)), (tm_ge t.toNat (tm_aw (σ.2.1 t.toNat)) 34 (tm_idl (tm_out σ t.toNat) t.toNat)).2)
theorem tm_lv_J {σ : tm_S} (h : tm_J σ) {r t k : Nat} (hr : r < 34) (hk : (σ.2.2.2 r)[k]? = some t) : tm_J (tm_lv σ r t k) := by
  obtain ⟨h1, h2, h3⟩ := h
  obtain ⟨n1, n2, n3⟩ := h3 r hr
  have htr := (n2 t).mp (List.mem_of_getElem? hk)
  refine ⟨h1, fun u hu => ?_, fun c hc => ?_⟩
  · show va_up σ.2.1 t 1 u ≤ 35 ∧ va_up σ.2.2.1 t 0 u ≤ 5 ∧ (va_up σ.2.1 t 1 u < 2 → va_up σ.2.2.1 t 0 u = 0)
    by_cases e : u = t
    · rw [e, va_up_s, va_up_s]; exact ⟨by omega, by omega, fun _ => rfl⟩
    · rw [va_up_n _ _ e, va_up_n _ _ e]; exact h2 u hu
  · show (va_up σ.2.2.2 r ((σ.2.2.2 r).eraseIdx k) c).Nodup ∧ (∀ u, u ∈ va_up σ.2.2.2 r ((σ.2.2.2 r).eraseIdx k) c ↔ u < 8 ∧ va_up σ.2.1 t 1 u = c + 2) ∧ (va_up σ.2.2.2 r ((σ.2.2.2 r).eraseIdx k) c).Pairwise (fun a b => σ.1 (34 * b + c) ≠ 0 → σ.1 (34 * a + c) ≠ 0)
    by_cases e : c = r
    · subst e
      rw [va_up_s]
      refine ⟨n1.eraseIdx k, fun u => ?_, n3.sublist (List.eraseIdx_sublist _ _)⟩
      rw [List.mem_eraseIdx_iff_getElem?]
      by_cases eu : u = t
      · rw [eu, va_up_s]
        exact ⟨fun ⟨i, hi, hu⟩ => absurd (tm_nd n1 hu hk) hi, fun q => by omega⟩
      · rw [va_up_n _ _ eu, ← n2 u]
        constructor
        · rintro ⟨i, _, hu⟩
          exact List.mem_of_getElem? hu
        · intro hu
          obtain ⟨i, hi⟩ := List.getElem?_of_mem hu
          refine ⟨i, fun e => eu ?_, hi⟩
          rw [e, hk] at hi
          exact (Option.some.inj hi).symm
    · rw [va_up_n _ _ e]
      obtain ⟨m1, m2, m3⟩ := h3 c hc
      refine ⟨m1, fun u => ?_, m3⟩
      by_cases eu : u = t
      · rw [eu, va_up_s, m2 t]
        exact ⟨fun q => by omega, fun q => by omega⟩
      · rw [va_up_n _ _ eu]; exact m2 u
theorem tm_idl_J {σ : tm_S} (h : tm_J σ) {t : Nat} (ht : t < 8) (hs : σ.2.1 t < 2) : tm_J (tm_idl σ t) := by
  obtain ⟨h1, h2, h3⟩ := h
  refine ⟨h1, fun u hu => ?_, fun c hc => ?_⟩
  · show va_up σ.2.1 t 0 u ≤ 35 ∧ σ.2.2.1 u ≤ 5 ∧ (va_up σ.2.1 t 0 u < 2 → σ.2.2.1 u = 0)
    by_cases e : u = t
    · rw [e, va_up_s]; exact ⟨by omega, (h2 t ht).2.1, fun _ => (h2 t ht).2.2 hs⟩
    · rw [va_up_n _ _ e]; exact h2 u hu
  · obtain ⟨m1, m2, m3⟩ := h3 c hc
    refine ⟨m1, fun u => ?_, m3⟩
    show u ∈ σ.2.2.2 c ↔ u < 8 ∧ va_up σ.2.1 t 0 u = c + 2
    by_cases eu : u = t
    · rw [eu, va_up_s, m2 t]
      exact ⟨fun q => by omega, fun q => by omega⟩
    · rw [va_up_n _ _ eu]; exact m2 u
/-- behind leaving: t waits nowhere -/
theorem tm_out_J {σ : tm_S} (h : tm_J σ) {t : Nat} (ht : t < 8) : tm_J (tm_out σ t) ∧ (tm_out σ t).2.1 t < 2 := by
  unfold tm_out
  by_cases hs : σ.2.1 t < 2
  · rw [if_pos hs]; exact ⟨h, hs⟩
  · rw [if_neg hs]
    have h5 := (h.2.1 t ht).1
    have hk := tm_ix2 (((h.2.2 (σ.2.1 t - 2) (by omega)).2.1 t).mpr ⟨ht, by omega⟩)
    refine ⟨tm_lv_J h (by omega) hk, ?_⟩
    show va_up σ.2.1 t 1 t < 2
    rw [va_up_s]
    decide

theorem ta_end (d : Nat) (t : Int) {σ : tm_S} (w : tl_W) (hJ : tm_J σ) (hR : tm_RC w σ) : ∃ w', tl_Ev ta_P (d + 6) 5 [.inr 0, .inl t] w (tm_oEnd σ t).1 w' ∧ tm_RC w' (tm_oEnd σ t).2 := by
  refine tl_exi fun Q hQ => ?_
  refine tl_go 1 1 [(0, .inr 0), (1, .inl t)] [.inl t] w (fun _ h => h) ?_
  refine tl_callS (as := [.inl t]) (rest := []) (v := some (tm_b (decide (0 ≤ t ∧ t < 8)))) (w' := w) rfl rfl rfl rfl (ta_isT (d + 4) t w) (Nat.le_of_ble_eq_true rfl) rfl rfl (Nat.le_of_ble_eq_true rfl) ?_
  refine tl_if (¬ (tm_b (decide (0 ≤ t ∧ t < 8))) = 0) 15 7 [(0, .inr 0), (1, .inl t)] [] (fun _ h => h) (fun h1 => ?_) (fun h1 => ?_)
  · have h1 := of_decide_eq_true (tm_bne h1)
    obtain ⟨t', rfl⟩ : ∃ n : Nat, t = n := ⟨t.toNat, by omega⟩
    have ht : t' < 8 := by omega
    refine tl_go 3 20 [(0, .inr 0), (1, .inl ((t' : Nat) : Int))] [.inl ((t' : Nat) : Int), .inr 2] w (fun _ h => And.intro rfl (And.intro (by decide) (h))) ?_
    refine tl_ald (t') 8 (k := 1) rfl (by omega) rfl (by omega) ?_
    refine tl_top (y := ((σ.2.1 t' : Nat) : Int)) ((hR.2.1 t' ht).1) ?_
    refine tl_if (¬ ((σ.2.1 t' : Nat) : Int) = 0) 32 24 [(0, .inr 0), (1, .inl ((t' : Nat) : Int))] [] (fun _ h => h) (fun h2 => ?_) (fun h2 => ?_)
    · have h2 : ¬ σ.2.1 t' = 0 := by omega
      rw [show tm_oEnd σ (t' : Int) = _ from (by unfold tm_oEnd; rw [if_neg (fun q => q h1), Int.toNat_natCast, if_neg h2])] at hQ
      have hS5 := (hJ.2.1 t' ht).1
      obtain ⟨hJ1, hs1⟩ := tm_out_J hJ ht
      have hJ2 := tm_idl_J hJ1 ht hs1
      have hs2 : (tm_idl (tm_out σ t') t').2.1 t' = 0 := by show va_up (tm_out σ t').2.1 t' 0 t' = 0; rw [va_up_s]
      generalize haw : tm_aw (σ.2.1 t') = aw at hQ
      have loop : ∀ (n c : Nat) (σ : tm_S) (w : tl_W), c + 8 * n ≤ 272 → n ≤ 34 → tm_J σ → tm_RC w σ → σ.2.1 t' = 0 → (∀ w', tm_RC w' (tm_ge t' aw n σ).2 → Q (.inl (some ((c + (tm_ge t' aw n σ).1 : Nat) : Int))) w') → tl_E ta_P (d + 5) 5 61 [(0, .inr 0), (1, .inl (t' : Int)), (2, .inl aw), (3, .inl (c : Int)), (4, .inl ((n : Int) - 1))] [] w Q := by
        intro n
        induction n with
        | zero =>
          intro c σ w hc hn hJ hR hs hQ'
          refine tl_go 1 63 [(0, .inr 0), (1, .inl ((t' : Nat) : Int)), (2, .inl aw), (3, .inl ((c : Nat) : Int)), (4, .inl (((0 : Nat) : Int) - 1))] [.inl (((0 : Nat) : Int) - 1)] w (fun _ h => h) ?_
          refine tl_ift ((((0 : Nat) : Int) - 1) < 0) 98 66 [(0, .inr 0), (1, .inl ((t' : Nat) : Int)), (2, .inl aw), (3, .inl ((c : Nat) : Int)), (4, .inl (((0 : Nat) : Int) - 1))] [] (fun _ h => h) (by omega) ?_
          refine tl_go 1 99 [(0, .inr 0), (1, .inl ((t' : Nat) : Int)), (2, .inl aw), (3, .inl ((c : Nat) : Int)), (4, .inl (((0 : Nat) : Int) - 1))] [.inl ((c : Nat) : Int)] w (fun _ h => h) ?_
          exact tl_reti rfl rfl (by show (c : Int) = ((c + 0 : Nat) : Int); omega) (hQ' w hR)
        | succ n ih =>
          intro c σ w hc hn hJ hR hs hQ'
          refine tl_loc (L' := [(0, .inr 0), (1, .inl ((t' : Nat) : Int)), (2, .inl aw), (3, .inl ((c : Nat) : Int)), (4, .inl ((n : Nat) : Int))]) (by rw [show (((n + 1 : Nat) : Int) - 1) = (n : Int) by omega]) ?_
          refine tl_go 1 63 [(0, .inr 0), (1, .inl ((t' : Nat) : Int)), (2, .inl aw), (3, .inl ((c : Nat) : Int)), (4, .inl ((n : Nat) : Int))] [.inl ((n : Nat) : Int)] w (fun _ h => h) ?_
          refine tl_iff (((n : Nat) : Int) < 0) 98 66 [(0, .inr 0), (1, .inl ((t' : Nat) : Int)), (2, .inl aw), (3, .inl ((c : Nat) : Int)), (4, .inl ((n : Nat) : Int))] [] (fun _ h => h) (by omega) ?_
          refine tl_go 3 70 [(0, .inr 0), (1, .inl ((t' : Nat) : Int)), (2, .inl aw), (3, .inl ((c : Nat) : Int)), (4, .inl ((n : Nat) : Int))] [.inl ((n : Nat) : Int), .inl ((t' : Nat) : Int), .inr 0] w (fun _ h => h) ?_
          refine tl_callV (as := [.inr 0, .inl ((t' : Nat) : Int), .inl ((n : Nat) : Int)]) (rest := []) (v := some (tm_b (decide (σ.1 (34 * t' + n) ≠ 0)))) (w' := w) rfl rfl (ta_ih (d + 3) t' n ht (by omega) w (hR.1 _ (by omega))) (Nat.le_of_ble_eq_true rfl) rfl rfl rfl (Nat.le_of_ble_eq_true rfl) ?_
          refine tl_if (¬ (tm_b (decide (σ.1 (34 * t' + n) ≠ 0))) = 0) 82 76 [(0, .inr 0), (1, .inl ((t' : Nat) : Int)), (2, .inl aw), (3, .inl ((c : Nat) : Int)), (4, .inl ((n : Nat) : Int))] [] (fun _ h => h) (fun h3 => ?_) (fun h3 => ?_)
          · have h3 := of_decide_eq_true (tm_bne h3)
            obtain ⟨g1, g2, g3, g4⟩ := tm_gv_J hJ (n := n) ht (by omega) (by omega)
            obtain ⟨w1, hw1, hR1⟩ := ta_gu d t' n ht (by omega) w (tm_sm_J hJ ht (by omega) (Nat.zero_le 5) (by omega)) hR
            rw [tm_ge_s, if_pos (Or.inl h3)] at hQ'
            refine tl_go 4 87 [(0, .inr 0), (1, .inl ((t' : Nat) : Int)), (2, .inl aw), (3, .inl ((c : Nat) : Int)), (4, .inl ((n : Nat) : Int))] [.inl ((n : Nat) : Int), .inl ((t' : Nat) : Int), .inr 0, .inl ((c : Nat) : Int)] w (fun _ h => h) ?_
            refine tl_callV (as := [.inr 0, .inl ((t' : Nat) : Int), .inl ((n : Nat) : Int)]) (rest := [.inl ((c : Nat) : Int)]) (v := some (((tm_gv σ t' n).1 : Nat) : Int)) (w' := w1) rfl rfl (hw1) (Nat.le_of_ble_eq_true rfl) rfl rfl rfl (Nat.le_of_ble_eq_true rfl) ?_
            refine tl_go 1 91 [(0, .inr 0), (1, .inl ((t' : Nat) : Int)), (2, .inl aw), (3, .inl ((c : Nat) : Int)), (4, .inl ((n : Nat) : Int))] [.inl (((c : Nat) : Int) + (((tm_gv σ t' n).1 : Nat) : Int))] w1 (fun _ h => And.intro (by omega) h) ?_
            refine tl_top (y := ((c + (tm_gv σ t' n).1 : Nat) : Int)) (by omega) ?_
            refine tl_go 3 61 [(0, .inr 0), (1, .inl ((t' : Nat) : Int)), (2, .inl aw), (3, .inl ((c + (tm_gv σ t' n).1 : Nat) : Int)), (4, .inl (((n : Nat) : Int) + (-1)))] [] w1 (fun _ h => And.intro (by omega) h) ?_
            exact ih (c + (tm_gv σ t' n).1) (tm_gv σ t' n).2 w1 (by omega) (by omega) g1 hR1 (g3.trans hs) (fun w' hw' => by rw [Nat.add_assoc]; exact hQ' w' hw')
          · have h3 := of_decide_eq_false (tm_beq (Classical.not_not.mp h3))
            refine tl_go 2 79 [(0, .inr 0), (1, .inl ((t' : Nat) : Int)), (2, .inl aw), (3, .inl ((c : Nat) : Int)), (4, .inl ((n : Nat) : Int))] [.inl aw, .inl ((n : Nat) : Int)] w (fun _ h => h) ?_
            refine tl_if (¬ ((n : Nat) : Int) = aw) 92 82 [(0, .inr 0), (1, .inl ((t' : Nat) : Int)), (2, .inl aw), (3, .inl ((c : Nat) : Int)), (4, .inl ((n : Nat) : Int))] [] (fun _ h => h) (fun h4 => ?_) (fun h4 => ?_)
            · rw [tm_ge_s, if_neg (fun q => q.elim h3 h4)] at hQ'
              refine tl_go 2 61 [(0, .inr 0), (1, .inl ((t' : Nat) : Int)), (2, .inl aw), (3, .inl ((c : Nat) : Int)), (4, .inl (((n : Nat) : Int) + (-1)))] [] w (fun _ h => And.intro (by omega) h) ?_
              exact ih c σ w (by omega) (by omega) hJ hR hs hQ'
            · obtain ⟨g1, g2, g3, g4⟩ := tm_gv_J hJ (n := n) ht (by omega) (by omega)
              obtain ⟨w1, hw1, hR1⟩ := ta_gu d t' n ht (by omega) w (tm_sm_J hJ ht (by omega) (Nat.zero_le 5) (by omega)) hR
              rw [tm_ge_s, if_pos (Or.inr (Classical.not_not.mp h4))] at hQ'
              refine tl_go 4 87 [(0, .inr 0), (1, .inl ((t' : Nat) : Int)), (2, .inl aw), (3, .inl ((c : Nat) : Int)), (4, .inl ((n : Nat) : Int))] [.inl ((n : Nat) : Int), .inl ((t' : Nat) : Int), .inr 0, .inl ((c : Nat) : Int)] w (fun _ h => h) ?_
              refine tl_callV (as := [.inr 0, .inl ((t' : Nat) : Int), .inl ((n : Nat) : Int)]) (rest := [.inl ((c : Nat) : Int)]) (v := some (((tm_gv σ t' n).1 : Nat) : Int)) (w' := w1) rfl rfl (hw1) (Nat.le_of_ble_eq_true rfl) rfl rfl rfl (Nat.le_of_ble_eq_true rfl) ?_
              refine tl_go 1 91 [(0, .inr 0), (1, .inl ((t' : Nat) : Int)), (2, .inl aw), (3, .inl ((c : Nat) : Int)), (4, .inl ((n : Nat) : Int))] [.inl (((c : Nat) : Int) + (((tm_gv σ t' n).1 : Nat) : Int))] w1 (fun _ h => And.intro (by omega) h) ?_
              refine tl_top (y := ((c + (tm_gv σ t' n).1 : Nat) : Int)) (by omega) ?_
              refine tl_go 3 61 [(0, .inr 0), (1, .inl ((t' : Nat) : Int)), (2, .inl aw), (3, .inl ((c + (tm_gv σ t' n).1 : Nat) : Int)), (4, .inl (((n : Nat) : Int) + (-1)))] [] w1 (fun _ h => And.intro (by omega) h) ?_
              exact ih (c + (tm_gv σ t' n).1) (tm_gv σ t' n).2 w1 (by omega) (by omega) g1 hR1 (g3.trans hs) (fun w' hw' => by rw [Nat.add_assoc]; exact hQ' w' hw')
      refine tl_go 2 34 [(0, .inr 0), (1, .inl ((t' : Nat) : Int))] [.inl ((t' : Nat) : Int), .inr 0] w (fun _ h => h) ?_
      refine tl_callV (as := [.inr 0, .inl ((t' : Nat) : Int)]) (rest := []) (v := some (tm_aw (σ.2.1 t'))) (w' := w) rfl rfl (ta_aw (d + 4) t' ht w (hR.2.1 t' ht).1 hS5) (Nat.le_of_ble_eq_true rfl) rfl rfl rfl (Nat.le_of_ble_eq_true rfl) ?_
      refine tl_top (y := aw) (haw) ?_
      refine tl_go 3 40 [(0, .inr 0), (1, .inl ((t' : Nat) : Int)), (2, .inl aw)] [.inl (-1), .inl aw] w (fun _ h => h) ?_
      refine tl_if (aw = (-1)) 48 43 [(0, .inr 0), (1, .inl ((t' : Nat) : Int)), (2, .inl aw)] [] (fun _ h => h) (fun h5 => ?_) (fun h5 => ?_)
      · have h6 : σ.2.1 t' < 2 := by rw [← haw] at h5; unfold tm_aw at h5; split at h5 <;> omega
        have e1 : tm_out σ t' = σ := by unfold tm_out; rw [if_pos h6]
        rw [e1] at hJ2 hs2 hQ
        refine tl_go 4 54 [(0, .inr 0), (1, .inl ((t' : Nat) : Int)), (2, .inl aw)] [.inl 0, .inl ((t' : Nat) : Int), .inr 2] w (fun _ h => And.intro rfl (And.intro (by decide) (h))) ?_
        refine tl_ast (t') 8 (k := 1) rfl (by decide) (by omega) rfl (by omega) ?_
        refine tl_go 4 61 [(0, .inr 0), (1, .inl ((t' : Nat) : Int)), (2, .inl aw), (3, .inl 0), (4, .inl 33)] [] (tl_set w 1 (t') 0) (fun _ h => h) ?_
        exact loop 34 0 _ _ (by omega) (by omega) hJ2 (tm_S_RC hR t' 0) hs2 (fun w' hw' => by rw [Nat.zero_add]; exact hQ w' hw')
      · have h6 : ¬ σ.2.1 t' < 2 := fun q => h5 (by rw [← haw]; unfold tm_aw; rw [if_pos q])
        have hk := tm_ix2 (((hJ.2.2 (σ.2.1 t' - 2) (by omega)).2.1 t').mpr ⟨ht, by omega⟩)
        have e1 : tm_out σ t' = tm_lv σ (σ.2.1 t' - 2) t' ((σ.2.2.2 (σ.2.1 t' - 2)).idxOf t') := by unfold tm_out; rw [if_neg h6]
        rw [e1] at hJ2 hs2 hQ
        have hR1 := tm_lv_RC (tm_J_K hJ) hR (by omega) hk
        refine tl_go 2 45 [(0, .inr 0), (1, .inl ((t' : Nat) : Int)), (2, .inl aw)] [.inl ((t' : Nat) : Int), .inr 0] w (fun _ h => h) ?_
        refine tl_callV (as := [.inr 0, .inl ((t' : Nat) : Int)]) (rest := []) (v := none) (w' := (tm_shf (tl_set (tl_set w 1 t' 1) 2 t' 0) (va_up σ.2.1 t' 1) (σ.2.1 t' - 2) (w 3 t') (-1) 8)) rfl rfl (ta_lv (d + 2) w (tm_J_K hJ) hR (by omega) hk) (Nat.le_of_ble_eq_true rfl) rfl rfl rfl (Nat.le_of_ble_eq_true rfl) ?_
        refine tl_go 4 54 [(0, .inr 0), (1, .inl ((t' : Nat) : Int)), (2, .inl aw)] [.inl 0, .inl ((t' : Nat) : Int), .inr 2] (tm_shf (tl_set (tl_set w 1 t' 1) 2 t' 0) (va_up σ.2.1 t' 1) (σ.2.1 t' - 2) (w 3 t') (-1) 8) (fun _ h => And.intro rfl (And.intro (by decide) (h))) ?_
        refine tl_ast (t') 8 (k := 1) rfl (by decide) (by omega) rfl (by omega) ?_
        refine tl_go 4 61 [(0, .inr 0), (1, .inl ((t' : Nat) : Int)), (2, .inl aw), (3, .inl 0), (4, .inl 33)] [] (tl_set (tm_shf (tl_set (tl_set w 1 t' 1) 2 t' 0) (va_up σ.2.1 t' 1) (σ.2.1 t' - 2) (w 3 t') (-1) 8) 1 (t') 0) (fun _ h => h) ?_
        exact loop 34 0 _ _ (by omega) (by omega) hJ2 (tm_S_RC hR1 t' 0) hs2 (fun w' hw' => by rw [Nat.zero_add]; exact hQ w' hw')
    · have e : tm_oEnd σ (t' : Int) = (.inr 2, σ) := (by unfold tm_oEnd; rw [if_neg (fun q => q h1), Int.toNat_natCast, if_pos (by omega)])
      rw [e] at hQ
      exact tl_thr rfl rfl (hQ w hR)
  · have h1 := of_decide_eq_false (tm_beq (Classical.not_not.mp h1))
    have e : tm_oEnd σ t = (.inr 1, σ) := if_pos h1
    rw [e] at hQ
    exact tl_thr rfl rfl (hQ w hR)
