/-! 24.mesc: giving up below, all at once or one after the other -/
theorem tm_fits_c {M M' : Nat → Nat} {r : Nat} (h : ∀ u, u < 8 → M' (34 * u + r) = M (34 * u + r)) (t m : Nat) : tm_fits M' t r m = tm_fits M t r m := by
  unfold tm_fits
  rw [Bool.eq_iff_iff, List.all_eq_true, List.all_eq_true]
  constructor
  · intro q u hu
    have := q u hu
    rw [h u (List.mem_range.mp hu)] at this
    exact this
  · intro q u hu
    rw [h u (List.mem_range.mp hu)]
    exact q u hu
/-- the first one of c's queue stays unfit where c's column, queue and wishes stay -/
theorem tm_H_keep {σ τ : tm_S} {c : Nat} (h : tm_H σ c) (hM : ∀ u, u < 8 → τ.1 (34 * u + c) = σ.1 (34 * u + c)) (hq : τ.2.2.2 c = σ.2.2.2 c) (hw : ∀ t, t ∈ σ.2.2.2 c → τ.2.2.1 t = σ.2.2.1 t) : tm_H τ c := by
  intro t l e
  rw [hq] at e
  rw [hw t (by rw [e]; exact List.mem_cons_self), tm_fits_c hM]
  exact h t l e
theorem tm_serve_H {σ : tm_S} {r : Nat} (h : tm_H σ r) : tm_serve σ r = (0, σ) := by
  unfold tm_serve
  cases hq : σ.2.2.2 r with
  | nil => exact tm_sv_nil hq
  | cons t l => exact tm_sv_no hq (by rw [h t l hq]; decide)
theorem tm_gv_H {σ : tm_S} (hJ : tm_J σ) {t n c : Nat} (ht : t < 8) (hn : n < 34) (hc : c < 34) (hs : σ.2.1 t < 2) (hne : c ≠ n) (h : tm_H σ c) : tm_H (tm_gv σ t n).2 c := by
  have h0 := tm_sm_J hJ ht hn (Nat.zero_le 5) (show σ.2.1 t ≠ n + 2 by omega)
  obtain ⟨_, _, _, g4, g5, g6⟩ := tm_serve_J hn h0
  refine tm_H_keep h (fun u _ => ?_) (g5 c hne) (fun u hu => ?_)
  · refine (g4 u c hc hne).trans ?_
    show va_up σ.1 (34 * t + n) 0 (34 * u + c) = _
    rw [va_up_n _ _ (by omega)]
  · have hsu := (((hJ.2.2 c hc).2.1 u).mp hu).2
    exact (g6 u (by show σ.2.1 u ≠ n + 2; omega)).2
def tm_g (t r n i : Nat) : Bool := (List.range n).any (fun c => tm_bl c r && (i == 34 * t + c))
theorem tm_g_s (t r n i : Nat) : tm_g t r (n + 1) i = (tm_g t r n i || (tm_bl n r && (i == 34 * t + n))) := by
  unfold tm_g
  rw [List.range_succ, List.any_append]
  simp
theorem tm_g_f {t r n u : Nat} (hn : n < 34) : tm_g t r n (34 * u + n) = false := by
  unfold tm_g
  apply tm_any_f
  intro c hc
  have : (34 * u + n == 34 * t + c) = false := by simp; omega
  rw [this, Bool.and_false]
def tm_mk (g : Nat → Bool) (σ : tm_S) : tm_S := (fun i => if g i = true then 0 else σ.1 i, σ.2.1, σ.2.2.1, σ.2.2.2)
def tm_z0 (t r : Nat) : Nat → tm_S → tm_S
  | 0, σ => σ
  | n + 1, σ => tm_z0 t r n (if tm_bl n r = true then tm_sm σ (34 * t + n) 0 else σ)
theorem tm_z0_s (t r n : Nat) (σ : tm_S) : tm_z0 t r (n + 1) σ = tm_z0 t r n (if tm_bl n r = true then tm_sm σ (34 * t + n) 0 else σ) := rfl
def tm_z1 (t r : Nat) : Nat → tm_S → Nat × tm_S
  | 0, σ => (0, σ)
  | n + 1, σ => if tm_bl n r = true then ((tm_gv σ t n).1 + (tm_z1 t r n (tm_gv σ t n).2).1, (tm_z1 t r n (tm_gv σ t n).2).2) else tm_z1 t r n σ
theorem tm_z1_s (t r n : Nat) (σ : tm_S) : tm_z1 t r (n + 1) σ = if tm_bl n r = true then ((tm_gv σ t n).1 + (tm_z1 t r n (tm_gv σ t n).2).1, (tm_z1 t r n (tm_gv σ t n).2).2) else tm_z1 t r n σ := rfl
theorem tm_mk_e {g g' : Nat → Bool} {σ σ' : tm_S} (h : ∀ i, (if g i = true then 0 else σ.1 i) = (if g' i = true then 0 else σ'.1 i)) (h2 : σ.2 = σ'.2) : tm_mk g σ = tm_mk g' σ' := by
  unfold tm_mk
  rw [show (fun i => if g i = true then 0 else σ.1 i) = (fun i => if g' i = true then 0 else σ'.1 i) from funext h, h2]
theorem tm_mk_n {t r n : Nat} {σ : tm_S} (h : ¬ tm_bl n r = true) : tm_mk (tm_g t r (n + 1)) σ = tm_mk (tm_g t r n) σ := by
  apply tm_mk_e _ rfl
  intro i
  rw [tm_g_s, show tm_bl n r = false from by simpa using h, Bool.false_and, Bool.or_false]
theorem tm_mk_y {t r n : Nat} {σ : tm_S} (h : tm_bl n r = true) : tm_mk (tm_g t r (n + 1)) σ = tm_mk (tm_g t r n) (tm_sm σ (34 * t + n) 0) := by
  refine tm_mk_e (σ' := tm_sm σ (34 * t + n) 0) ?_ rfl
  intro i
  rw [tm_g_s, h, Bool.true_and]
  show _ = if tm_g t r n i = true then 0 else va_up σ.1 (34 * t + n) 0 i
  by_cases hi : i = 34 * t + n
  · rw [hi, va_up_s]
    simp
  · rw [va_up_n _ _ hi, show (i == 34 * t + n) = false by simp [hi], Bool.or_false]
theorem tm_z0_mk (t r : Nat) : ∀ (n : Nat) (σ : tm_S), tm_z0 t r n σ = tm_mk (tm_g t r n) σ := by
  intro n
  induction n with
  | zero =>
    intro σ
    show σ = tm_mk (tm_g t r 0) σ
    unfold tm_mk tm_g
    simp
  | succ n ih =>
    intro σ
    rw [tm_z0_s, ih]
    by_cases h : tm_bl n r = true
    · rw [if_pos h, tm_mk_y h]
    · rw [if_neg h, tm_mk_n h]
/-- serving c doesn't see what is masked in other columns -/
theorem tm_sv_mk {g : Nat → Bool} {c : Nat} (hg : ∀ u, g (34 * u + c) = false) : ∀ (k : Nat) (σ : tm_S), tm_sv k (tm_mk g σ) c = ((tm_sv k σ c).1, tm_mk g (tm_sv k σ c).2) := by
  intro k
  induction k with
  | zero => intro σ; rfl
  | succ k ih =>
    intro σ
    have hf : ∀ t, tm_fits (tm_mk g σ).1 t c ((tm_mk g σ).2.2.1 t) = tm_fits σ.1 t c (σ.2.2.1 t) := fun t => tm_fits_c (fun u _ => by
      show (if g (34 * u + c) = true then 0 else σ.1 (34 * u + c)) = _
      rw [if_neg (by rw [hg u]; decide)]) t _
    cases hq : σ.2.2.2 c with
    | nil =>
      rw [tm_sv_nil (σ := tm_mk g σ) hq, tm_sv_nil hq]
    | cons t l =>
      by_cases h : tm_fits σ.1 t c (σ.2.2.1 t) = true
      · rw [tm_sv_yes (σ := tm_mk g σ) hq (by rw [hf]; exact h), tm_sv_yes hq h]
        have e : tm_gr (tm_mk g σ) c t l = tm_mk g (tm_gr σ c t l) := by
          unfold tm_gr tm_mk
          have : va_up (fun i => if g i = true then 0 else σ.1 i) (34 * t + c) (σ.2.2.1 t) = fun i => if g i = true then 0 else va_up σ.1 (34 * t + c) (σ.2.2.1 t) i := by
            funext i
            by_cases hi : i = 34 * t + c
            · rw [hi, va_up_s, va_up_s, if_neg (by rw [hg t]; decide)]
            · rw [va_up_n _ _ hi, va_up_n _ _ hi]
          dsimp only
          rw [this]
        rw [e, ih]
      · rw [tm_sv_no (σ := tm_mk g σ) hq (by rw [hf]; exact h), tm_sv_no hq h]
theorem tm_sm_id {σ : tm_S} {i : Nat} (h : σ.1 i = 0) : tm_sm σ i 0 = σ := by
  unfold tm_sm
  have e : va_up σ.1 i 0 = σ.1 := by
    funext j
    by_cases hj : j = i
    · rw [hj, va_up_s, h]
    · rw [va_up_n _ _ hj]
  rw [e]
/-- all at once and then serving, or one after the other: the same -/
theorem tm_z_gb {t r : Nat} (ht : t < 8) : ∀ (n : Nat) (σ : tm_S), n ≤ 34 → tm_J σ → σ.2.1 t = 1 → (∀ c, c < n → tm_bl c r = true → tm_H σ c) → (tm_z1 t r n (tm_mk (tm_g t r n) σ)).2 = tm_gb t r n σ := by
  intro n
  induction n with
  | zero =>
    intro σ _ _ _ _
    show tm_mk (tm_g t r 0) σ = σ
    unfold tm_mk tm_g
    simp
  | succ n ih =>
    intro σ hn hJ hs hH
    rw [tm_z1_s, tm_gb_s]
    by_cases hb : tm_bl n r = true
    · rw [if_pos hb, tm_mk_y hb]
      have e0 : tm_sm (tm_mk (tm_g t r n) (tm_sm σ (34 * t + n) 0)) (34 * t + n) 0 = tm_mk (tm_g t r n) (tm_sm σ (34 * t + n) 0) := by
        apply tm_sm_id
        show (if tm_g t r n (34 * t + n) = true then 0 else va_up σ.1 (34 * t + n) 0 (34 * t + n)) = 0
        rw [va_up_s]
        split <;> rfl
      have e1 : tm_gv (tm_mk (tm_g t r n) (tm_sm σ (34 * t + n) 0)) t n = ((tm_gv σ t n).1, tm_mk (tm_g t r n) (tm_gv σ t n).2) := by
        unfold tm_gv
        rw [e0]
        exact tm_sv_mk (fun u => tm_g_f (by omega)) 8 _
      rw [e1]
      show (tm_z1 t r n (tm_mk (tm_g t r n) (tm_gv σ t n).2)).2 = _
      obtain ⟨g1, _, g3, _⟩ := tm_gv_J hJ (n := n) ht (by omega) (by omega)
      rw [ih _ (by omega) g1 (g3.trans hs) (fun c hc hcb => tm_gv_H hJ ht (by omega) (by omega) (by omega) (by omega) (hH c (by omega) hcb))]
      by_cases hz : σ.1 (34 * t + n) ≠ 0
      · rw [if_pos ⟨hb, hz⟩]
      · rw [if_neg (fun q => hz q.2)]
        have e2 : tm_gv σ t n = (0, σ) := by
          unfold tm_gv
          rw [tm_sm_id (by omega)]
          exact tm_serve_H (hH n (by omega) hb)
        rw [e2]
    · rw [if_neg hb, tm_mk_n hb, if_neg (fun q => hb q.1)]
      exact ih σ (by omega) hJ hs (fun c hc => hH c (by omega))
theorem tm_z0_J {t r : Nat} (ht : t < 8) : ∀ (n : Nat) (σ : tm_S), n ≤ 34 → tm_J σ → σ.2.1 t = 1 → tm_J (tm_z0 t r n σ) ∧ (tm_z0 t r n σ).2.1 t = 1 := by
  intro n
  induction n with
  | zero => exact fun σ _ h hs => ⟨h, hs⟩
  | succ n ih =>
    intro σ hn h hs
    rw [tm_z0_s]
    by_cases hc : tm_bl n r = true
    · rw [if_pos hc]
      exact ih _ (by omega) (tm_sm_J h ht (by omega) (Nat.zero_le 5) (by omega)) hs
    · rw [if_neg hc]
      exact ih _ (by omega) h hs
theorem tm_z1_J {t r : Nat} (ht : t < 8) : ∀ (n : Nat) (σ : tm_S), n ≤ 34 → tm_J σ → σ.2.1 t = 1 → tm_J (tm_z1 t r n σ).2 := by
  intro n
  induction n with
  | zero => exact fun σ _ h _ => h
  | succ n ih =>
    intro σ hn h hs
    rw [tm_z1_s]
    by_cases hc : tm_bl n r = true
    · rw [if_pos hc]
      obtain ⟨g1, _, g3, _⟩ := tm_gv_J h (n := n) ht (by omega) (by omega)
      exact ih _ (by omega) g1 (g3.trans hs)
    · rw [if_neg hc]
      exact ih _ (by omega) h hs
def tm_bw (M : Nat → Nat) (t r i : Nat) : Bool := tm_wr (M (34 * t + r)) || (List.range i).any (fun c => tm_bl c r && tm_wr (M (34 * t + c)))
theorem tm_bw_s (M : Nat → Nat) (t r i : Nat) : tm_bw M t r (i + 1) = (tm_bw M t r i || (tm_bl i r && tm_wr (M (34 * t + i)))) := by
  unfold tm_bw
  rw [List.range_succ, List.any_append, Bool.or_assoc]
  simp
theorem tm_ww_bw (M : Nat → Nat) (t : Nat) {r : Nat} (hr : r < 34) : tm_ww M t r = tm_bw M t r 34 := by
  unfold tm_ww tm_bw
  rw [Bool.eq_iff_iff, Bool.or_eq_true, List.any_eq_true, List.any_eq_true]
  constructor
  · rintro ⟨c, hc, h⟩
    rw [Bool.and_eq_true, Bool.or_eq_true, beq_iff_eq] at h
    rcases h.1 with h1 | h1
    · rw [h1] at h; exact Or.inl h.2
    · exact Or.inr ⟨c, hc, by rw [Bool.and_eq_true]; exact ⟨h1, h.2⟩⟩
  · rintro (h | ⟨c, hc, h⟩)
    · exact ⟨r, List.mem_range.mpr hr, by rw [Bool.and_eq_true, Bool.or_eq_true, beq_iff_eq]; exact ⟨Or.inl rfl, h⟩⟩
    · rw [Bool.and_eq_true] at h
      exact ⟨c, hc, by rw [Bool.and_eq_true, Bool.or_eq_true]; exact ⟨Or.inr h.1, h.2⟩⟩
theorem tm_wr_iff {m : Nat} : tm_wr m = true ↔ m = 2 ∨ m = 4 ∨ m = 5 := by
  unfold tm_wr
  simp only [Bool.or_eq_true, beq_iff_eq]
