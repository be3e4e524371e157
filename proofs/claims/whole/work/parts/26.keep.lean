/-! 26.keep: every operation keeps the invariant -/
theorem tm_bg_I {σ : tm_S} (h : tm_I σ) : tm_I (tm_oBegin σ).2 := by
  by_cases hx : ∃ t, t < 8 ∧ σ.2.1 t = 0
  · obtain ⟨t, ⟨ht, h0⟩, hm⟩ := pk_least (fun t => t < 8 ∧ σ.2.1 t = 0) hx
    have e := tm_oBegin_s ht h0 (fun u hu q => hm u hu ⟨by omega, q⟩)
    rw [e]
    obtain ⟨⟨h1, h2, h3⟩, hH⟩ := h
    refine ⟨⟨h1, fun u hu => ?_, fun c hc => ?_⟩, fun r hr => tm_H_keep (hH r hr) (fun _ _ => rfl) rfl (fun _ _ => rfl)⟩
    · show va_up σ.2.1 t 1 u ≤ 35 ∧ σ.2.2.1 u ≤ 5 ∧ (va_up σ.2.1 t 1 u < 2 → σ.2.2.1 u = 0)
      by_cases eu : u = t
      · rw [eu, va_up_s]; exact ⟨by omega, (h2 t ht).2.1, fun _ => (h2 t ht).2.2 (by omega)⟩
      · rw [va_up_n _ _ eu]; exact h2 u hu
    · obtain ⟨n1, n2, n3⟩ := h3 c hc
      refine ⟨n1, fun u => ?_, n3⟩
      show u ∈ σ.2.2.2 c ↔ u < 8 ∧ va_up σ.2.1 t 1 u = c + 2
      by_cases eu : u = t
      · rw [eu, va_up_s, n2 t]; exact ⟨fun q => by omega, fun q => by omega⟩
      · rw [va_up_n _ _ eu]; exact n2 u
  · rw [tm_oBegin_n (fun u hu q => hx ⟨u, hu, q⟩)]
    exact h
/-- more at r: who doesn't fit there still doesn't -/
theorem tm_sm_H {σ : tm_S} (h : tm_I σ) {t r m : Nat} (ht : t < 8) (hr : r < 34) (hm : m ≤ 5) (hs : σ.2.1 t < 2) : ∀ c, c < 34 → tm_H (tm_sm σ (34 * t + r) (tm_jn m (σ.1 (34 * t + r)))) c := by
  intro c hc
  by_cases e : c = r
  · subst e
    intro u l hq
    have hq : σ.2.2.2 c = u :: l := hq
    have h0 := h.2 c hc u l hq
    have hu := ((h.1.2.2 c hc).2.1 u).mp (by rw [hq]; exact List.mem_cons_self)
    obtain ⟨v, hv8, hvu, hv⟩ := tm_fits_f.mp h0
    refine tm_fits_f.mpr ⟨v, hv8, hvu, ?_⟩
    show tm_tog (σ.2.2.1 u) (va_up σ.1 (34 * t + c) _ (34 * v + c)) = false
    by_cases ev : v = t
    · rw [ev, va_up_s, tm_jn_c]
      rw [ev] at hv
      have h5 := h.1.1 (34 * t + c) (by omega)
      exact tm_tog_up (σ.2.2.1 u) (by have := (h.1.2.1 u hu.1).2.1; omega) (σ.1 (34 * t + c)) (by omega) m (by omega) hv
    · rw [va_up_n _ _ (by omega)]
      exact hv
  · refine tm_H_keep (h.2 c hc) (fun u _ => ?_) rfl (fun _ _ => rfl)
    show va_up σ.1 (34 * t + r) _ (34 * u + c) = _
    rw [va_up_n _ _ (by omega)]
theorem tm_req_I {σ : tm_S} (h : tm_I σ) {t r m : Nat} (ht : t < 8) (hr : r < 34) (hm : m ≤ 5) (hs : σ.2.1 t = 1) : tm_I (tm_req σ t r m).2 := by
  have hM5 := h.1.1 (34 * t + r) (by omega)
  have hw5 : tm_wish σ t r m ≤ 5 := tm_jn5 hm hM5
  unfold tm_req
  by_cases h1 : tm_cvd σ.1 t r (m : Int) = true
  · rw [if_pos h1]; exact h
  · rw [if_neg h1]
    by_cases h2 : tm_wish σ t r m = σ.1 (34 * t + r)
    · rw [if_pos h2]; exact h
    · rw [if_neg h2]
      by_cases h3 : tm_fits σ.1 t r (tm_wish σ t r m) = true ∧ (σ.1 (34 * t + r) ≠ 0 ∨ σ.2.2.2 r = [])
      · rw [if_pos h3]
        exact ⟨tm_sm_J h.1 ht hr hw5 (by omega), tm_sm_H h ht hr hm (by omega)⟩
      · rw [if_neg h3]
        by_cases h4 : tm_cir (tm_en σ r t (tm_wish σ t r m) (tm_pl σ t r)) t = true
        · rw [if_pos h4]; exact h
        · rw [if_neg h4]
          refine ⟨tm_en_J h.1 ht hr hw5 (by omega), fun c hc => ?_⟩
          have htq : ∀ c', c' < 34 → t ∉ σ.2.2.2 c' := fun c' hc' q => by
            have := ((h.1.2.2 c' hc').2.1 t).mp q
            omega
          by_cases e : c = r
          · subst e
            intro u l hq
            have hq : va_up σ.2.2.2 c ((σ.2.2.2 c).take (tm_pl σ t c) ++ t :: (σ.2.2.2 c).drop (tm_pl σ t c)) c = u :: l := hq
            rw [va_up_s] at hq
            show tm_fits σ.1 u c (va_up σ.2.2.1 t (tm_wish σ t c m) u) = false
            cases hp : (σ.2.2.2 c).take (tm_pl σ t c) with
            | nil =>
              rw [hp] at hq
              have eu : t = u := (List.cons.inj hq).1
              rw [← eu, va_up_s]
              rw [← Bool.not_eq_true]
              intro hf
              apply h3
              refine ⟨hf, ?_⟩
              by_cases hz : σ.1 (34 * t + c) = 0
              · right
                rw [tm_pl_0 hz, List.take_length] at hp
                exact hp
              · exact Or.inl hz
            | cons a l' =>
              rw [hp] at hq
              have eu : a = u := (List.cons.inj hq).1
              have hal : ∃ l2, σ.2.2.2 c = a :: l2 := by
                have h9 := List.take_append_drop (tm_pl σ t c) (σ.2.2.2 c)
                rw [hp] at h9
                exact ⟨_, h9.symm⟩
              obtain ⟨l2, hl2⟩ := hal
              have hat : u ≠ t := fun q => htq c hc (by rw [hl2, ← q, eu]; exact List.mem_cons_self)
              rw [va_up_n _ _ hat, ← eu]
              exact h.2 c hc a l2 hl2
          · refine tm_H_keep (h.2 c hc) (fun _ _ => rfl) ?_ (fun u hu => ?_)
            · show va_up σ.2.2.2 r _ c = _
              rw [va_up_n _ _ e]
            · show va_up σ.2.2.1 t _ u = _
              exact va_up_n _ _ (fun q : u = t => htq c hc (q ▸ hu))
theorem tm_oLock_I {σ : tm_S} (h : tm_I σ) (t r m : Int) : tm_I (tm_oLock σ t r m).2 := by
  unfold tm_oLock
  by_cases h1 : ¬ ((0 ≤ t ∧ t < 8) ∧ (0 ≤ r ∧ r < 34) ∧ ((10 ≤ r ∧ (m = 3 ∨ m = 5)) ∨ (r < 10 ∧ 1 ≤ m ∧ m ≤ 5)))
  · rw [if_pos h1]; exact h
  · rw [if_neg h1]
    have h1 := Classical.not_not.mp h1
    by_cases h2 : ¬ σ.2.1 t.toNat = 1
    · rw [if_pos h2]; exact h
    · rw [if_neg h2]
      by_cases h3 : ¬ tm_ann σ.1 t.toNat r.toNat m = true
      · rw [if_pos h3]; exact h
      · rw [if_neg h3]
        exact tm_req_I h (by omega) (by omega) (by omega) (Classical.not_not.mp h2)
theorem tm_gv_I {σ : tm_S} (h : tm_J σ) {t n : Nat} (ht : t < 8) (hn : n < 34) (hs : σ.2.1 t < 2) : tm_H (tm_gv σ t n).2 n :=
  (tm_serve_J hn (tm_sm_J h ht hn (Nat.zero_le 5) (by omega))).2.1
theorem tm_oUnlock_I {σ : tm_S} (h : tm_I σ) (t r : Int) : tm_I (tm_oUnlock σ t r).2 := by
  unfold tm_oUnlock
  by_cases h1 : ¬ ((0 ≤ t ∧ t < 8) ∧ (0 ≤ r ∧ r < 34))
  · rw [if_pos h1]; exact h
  · rw [if_neg h1]
    have h1 := Classical.not_not.mp h1
    by_cases h2 : ¬ (σ.2.1 t.toNat = 1 ∧ σ.1 (34 * t.toNat + r.toNat) ≠ 0)
    · rw [if_pos h2]; exact h
    · rw [if_neg h2]
      have h2 := Classical.not_not.mp h2
      by_cases h3 : tm_hc σ.1 t.toNat r.toNat = true
      · rw [if_pos h3]; exact h
      · rw [if_neg h3]
        show tm_I (tm_gv σ t.toNat r.toNat).2
        refine ⟨(tm_gv_J h.1 (by omega) (by omega) (by omega)).1, fun c hc => ?_⟩
        by_cases e : c = r.toNat
        · rw [e]; exact tm_gv_I h.1 (by omega) (by omega) (by omega)
        · exact tm_gv_H h.1 (by omega) (by omega) hc (by omega) e (h.2 c hc)
theorem tm_gb_I {t r : Nat} (ht : t < 8) : ∀ (n : Nat) (σ : tm_S), n ≤ 34 → tm_I σ → σ.2.1 t = 1 → tm_I (tm_gb t r n σ) := by
  intro n
  induction n with
  | zero => exact fun σ _ h _ => h
  | succ n ih =>
    intro σ hn h hs
    rw [tm_gb_s]
    by_cases hc : tm_bl n r = true ∧ σ.1 (34 * t + n) ≠ 0
    · rw [if_pos hc]
      obtain ⟨g1, _, g3, _⟩ := tm_gv_J h.1 (n := n) ht (by omega) (by omega)
      refine ih _ (by omega) ⟨g1, fun c hc' => ?_⟩ (g3.trans hs)
      by_cases e : c = n
      · rw [e]; exact tm_gv_I h.1 ht (by omega) (by omega)
      · exact tm_gv_H h.1 ht (by omega) hc' (by omega) e (h.2 c hc')
    · rw [if_neg hc]
      exact ih _ (by omega) h hs
theorem tm_serve_I {σ : tm_S} (h : tm_I σ) {r : Nat} (hr : r < 34) : tm_I (tm_serve σ r).2 := by
  rw [tm_serve_H (h.2 r hr)]
  exact h
theorem tm_oEsc_I {σ : tm_S} (h : tm_I σ) (t r : Int) : tm_I (tm_oEsc σ t r).2 := by
  unfold tm_oEsc
  by_cases h1 : ¬ ((0 ≤ t ∧ t < 8) ∧ (1 ≤ r ∧ r < 10))
  · rw [if_pos h1]; exact h
  · rw [if_neg h1]
    have h1 := Classical.not_not.mp h1
    by_cases h2 : ¬ σ.2.1 t.toNat = 1
    · rw [if_pos h2]; exact h
    · rw [if_neg h2]
      have h2 := Classical.not_not.mp h2
      by_cases h3 : tm_cb σ.1 t.toNat r.toNat 34 = 0
      · rw [if_pos h3]; exact h
      · rw [if_neg h3]
        by_cases h4 : ¬ tm_fits σ.1 t.toNat r.toNat (tm_ew σ t.toNat r.toNat) = true
        · rw [if_pos h4]; exact h
        · rw [if_neg h4]
          have hM5 := h.1.1 (34 * t.toNat + r.toNat) (by omega)
          have hk5 : (if tm_ww σ.1 t.toNat r.toNat = true then 5 else 3) ≤ 5 := by split <;> omega
          have hw5 : tm_ew σ t.toNat r.toNat ≤ 5 := tm_jn5 hk5 hM5
          refine tm_serve_I (tm_gb_I (by omega) 34 _ (Nat.le_refl _) ⟨tm_sm_J h.1 (by omega) (by omega) hw5 (by omega), ?_⟩ h2) (by omega)
          exact tm_sm_H h (by omega) (by omega) hk5 (by omega)
theorem tm_ge_I {t : Nat} {aw : Int} (ht : t < 8) : ∀ (n : Nat) (σ : tm_S), n ≤ 34 → tm_J σ → σ.2.1 t = 0 → (∀ c, c < 34 → tm_H σ c ∨ (c < n ∧ (c : Int) = aw)) → tm_I (tm_ge t aw n σ).2 := by
  intro n
  induction n with
  | zero => exact fun σ _ h _ hH => ⟨h, fun c hc => (hH c hc).resolve_right (fun q => by omega)⟩
  | succ n ih =>
    intro σ hn h hs hH
    rw [tm_ge_s]
    by_cases hc : σ.1 (34 * t + n) ≠ 0 ∨ (n : Int) = aw
    · rw [if_pos hc]
      obtain ⟨g1, _, g3, _⟩ := tm_gv_J h (n := n) ht (by omega) (by omega)
      refine ih _ (by omega) g1 (g3.trans hs) (fun c hc' => ?_)
      by_cases e : c = n
      · rw [e]; exact Or.inl (tm_gv_I h ht (by omega) (by omega))
      · rcases hH c hc' with h1 | h1
        · exact Or.inl (tm_gv_H h ht (by omega) hc' (by omega) e h1)
        · exact Or.inr ⟨by omega, h1.2⟩
    · rw [if_neg hc]
      refine ih _ (by omega) h hs (fun c hc' => ?_)
      rcases hH c hc' with h1 | h1
      · exact Or.inl h1
      · exact Or.inr ⟨by
          have : c ≠ n := fun e => hc (Or.inr (by rw [← e]; exact h1.2))
          omega, h1.2⟩
theorem tm_oEnd_I {σ : tm_S} (h : tm_I σ) (t : Int) : tm_I (tm_oEnd σ t).2 := by
  unfold tm_oEnd
  by_cases h1 : ¬ (0 ≤ t ∧ t < 8)
  · rw [if_pos h1]; exact h
  · rw [if_neg h1]
    have h1 := Classical.not_not.mp h1
    by_cases h2 : σ.2.1 t.toNat = 0
    · rw [if_pos h2]; exact h
    · rw [if_neg h2]
      have ht : t.toNat < 8 := by omega
      obtain ⟨hJ1, hs1⟩ := tm_out_J h.1 ht
      have hJ2 := tm_idl_J hJ1 ht hs1
      refine tm_ge_I ht 34 _ (Nat.le_refl _) hJ2 (by show va_up (tm_out σ t.toNat).2.1 t.toNat 0 t.toNat = 0; rw [va_up_s]) (fun c hc => ?_)
      have key : tm_H (tm_out σ t.toNat) c ∨ (c : Int) = tm_aw (σ.2.1 t.toNat) := by
        unfold tm_out
        by_cases hs : σ.2.1 t.toNat < 2
        · rw [if_pos hs]; exact Or.inl (h.2 c hc)
        · rw [if_neg hs]
          by_cases e : c = σ.2.1 t.toNat - 2
          · right
            unfold tm_aw
            rw [if_neg hs]
            omega
          · left
            refine tm_H_keep (h.2 c hc) (fun _ _ => rfl) ?_ (fun u hu => ?_)
            · show va_up σ.2.2.2 _ _ c = _
              rw [va_up_n _ _ e]
            · show va_up σ.2.2.1 t.toNat 0 u = _
              have hu' := ((h.1.2.2 c hc).2.1 u).mp hu
              rw [va_up_n _ _ (fun q => by rw [q] at hu'; omega)]
      rcases key with k | k
      · exact Or.inl (tm_H_keep k (fun _ _ => rfl) rfl (fun _ _ => rfl))
      · exact Or.inr ⟨hc, k⟩
/-- a new object -/
def tm_0 : tm_S := (fun _ => 0, fun _ => 0, fun _ => 0, fun _ => [])
theorem tm_0_I : tm_I tm_0 := by
  refine ⟨⟨fun _ _ => Nat.zero_le _, fun _ _ => ⟨Nat.zero_le _, Nat.zero_le _, fun _ => rfl⟩, fun r hr => ⟨List.nodup_nil, fun t => ⟨fun q => (by cases q), fun q => (by have := q.2; exact absurd this (by show (0 : Nat) ≠ r + 2; omega))⟩, List.Pairwise.nil⟩⟩, fun r hr t l hq => by cases hq⟩
