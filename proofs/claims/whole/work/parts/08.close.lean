/-! 06.close: sets of transactions as sums of powers; eight rounds close them, whether a round looks at the set of its start or at the growing one -/
def tm_it (g : Nat → Nat) : Nat → Nat → Nat
  | 0, s => s
  | n + 1, s => g (tm_it g n s)
/-- what the members of s below n bring -/
def tm_all (f : Nat → Nat) (s : Nat) (n : Nat) : Nat := (List.range n).foldl (fun a u => bif s.testBit u then a ||| f u else a) 0
def tm_jac (f : Nat → Nat) (s : Nat) : Nat := s ||| tm_all f s 8
def tm_gsn (f : Nat → Nat) (s : Nat) (n : Nat) : Nat := (List.range n).foldl (fun a u => bif a.testBit u then a ||| f u else a) s
def tm_gs (f : Nat → Nat) (s : Nat) : Nat := tm_gsn f s 8
theorem tm_all_s (f : Nat → Nat) (s n : Nat) : tm_all f s (n + 1) = bif s.testBit n then tm_all f s n ||| f n else tm_all f s n := by
  unfold tm_all
  rw [List.range_succ, List.foldl_append]
  rfl
theorem tm_gsn_s (f : Nat → Nat) (s n : Nat) : tm_gsn f s (n + 1) = bif (tm_gsn f s n).testBit n then tm_gsn f s n ||| f n else tm_gsn f s n := by
  unfold tm_gsn
  rw [List.range_succ, List.foldl_append]
  rfl
theorem tm_all_t (f : Nat → Nat) (s w : Nat) : ∀ n, (tm_all f s n).testBit w = true ↔ ∃ u, u < n ∧ s.testBit u = true ∧ (f u).testBit w = true := by
  intro n
  induction n with
  | zero =>
    constructor
    · intro h
      have h : (0 : Nat).testBit w = true := h
      rw [Nat.zero_testBit] at h
      cases h
    · rintro ⟨u, h, _⟩
      omega
  | succ n ih =>
    rw [tm_all_s]
    cases hs : s.testBit n with
    | true =>
      show (tm_all f s n ||| f n).testBit w = true ↔ _
      rw [Nat.testBit_or, Bool.or_eq_true, ih]
      constructor
      · rintro (⟨u, h1, h2, h3⟩ | h)
        · exact ⟨u, by omega, h2, h3⟩
        · exact ⟨n, by omega, hs, h⟩
      · rintro ⟨u, h1, h2, h3⟩
        by_cases hu : u = n
        · subst hu; exact Or.inr h3
        · exact Or.inl ⟨u, by omega, h2, h3⟩
    | false =>
      show (tm_all f s n).testBit w = true ↔ _
      rw [ih]
      constructor
      · rintro ⟨u, h1, h2, h3⟩
        exact ⟨u, by omega, h2, h3⟩
      · rintro ⟨u, h1, h2, h3⟩
        have hu : u ≠ n := fun e => by rw [e, hs] at h2; cases h2
        exact ⟨u, by omega, h2, h3⟩
theorem tm_jac_t (f : Nat → Nat) (s w : Nat) : (tm_jac f s).testBit w = true ↔ s.testBit w = true ∨ ∃ u, u < 8 ∧ s.testBit u = true ∧ (f u).testBit w = true := by
  unfold tm_jac
  rw [Nat.testBit_or, Bool.or_eq_true, tm_all_t]
def tm_cl (f : Nat → Nat) (s : Nat) : Prop := ∀ v, v < 8 → s.testBit v = true → ∀ w, (f v).testBit w = true → s.testBit w = true
theorem tm_gsn_up (f : Nat → Nat) (s : Nat) : ∀ n, (∀ w, s.testBit w = true → (tm_gsn f s n).testBit w = true) ∧ (∀ u, u < n → s.testBit u = true → ∀ w, (f u).testBit w = true → (tm_gsn f s n).testBit w = true) := by
  intro n
  induction n with
  | zero => exact ⟨fun w h => h, fun u h => absurd h (Nat.not_lt_zero _)⟩
  | succ n ih =>
    rw [tm_gsn_s]
    cases hg : (tm_gsn f s n).testBit n with
    | true =>
      refine ⟨fun w h => ?_, fun u hu h w hw => ?_⟩
      · show (tm_gsn f s n ||| f n).testBit w = true
        rw [Nat.testBit_or, Bool.or_eq_true]
        exact Or.inl (ih.1 w h)
      · show (tm_gsn f s n ||| f n).testBit w = true
        rw [Nat.testBit_or, Bool.or_eq_true]
        by_cases he : u = n
        · subst he; exact Or.inr hw
        · exact Or.inl (ih.2 u (by omega) h w hw)
    | false =>
      refine ⟨fun w h => ih.1 w h, fun u hu h w hw => ?_⟩
      have hne : u ≠ n := fun e => by
        have := ih.1 u h
        rw [e, hg] at this
        cases this
      exact ih.2 u (by omega) h w hw
theorem tm_gsn_in (f : Nat → Nat) (s C : Nat) (hC : tm_cl f C) (hs : ∀ w, s.testBit w = true → C.testBit w = true) : ∀ n, n ≤ 8 → ∀ w, (tm_gsn f s n).testBit w = true → C.testBit w = true := by
  intro n
  induction n with
  | zero => exact fun _ w h => hs w h
  | succ n ih =>
    intro hn w h
    rw [tm_gsn_s] at h
    cases hg : (tm_gsn f s n).testBit n with
    | true =>
      rw [hg] at h
      have h : (tm_gsn f s n ||| f n).testBit w = true := h
      rw [Nat.testBit_or, Bool.or_eq_true] at h
      rcases h with h | h
      · exact ih (by omega) w h
      · exact hC n (by omega) (ih (by omega) n hg) w h
    | false =>
      rw [hg] at h
      exact ih (by omega) w h
def tm_cnt (s : Nat) : Nat := (s.testBit 0).toNat + (s.testBit 1).toNat + (s.testBit 2).toNat + (s.testBit 3).toNat + (s.testBit 4).toNat + (s.testBit 5).toNat + (s.testBit 6).toNat + (s.testBit 7).toNat
theorem tm_bit8 {x w : Nat} (hx : x < 256) (h : x.testBit w = true) : w < 8 := by
  refine Classical.byContradiction fun hn => ?_
  have h1 : x < 2 ^ w := Nat.lt_of_lt_of_le hx (show 2 ^ 8 ≤ 2 ^ w from Nat.pow_le_pow_right (by decide) (by omega))
  rw [Nat.testBit_lt_two_pow h1] at h
  cases h
theorem tm_cnt_up {s s' : Nat} (h : ∀ w, s.testBit w = true → s'.testBit w = true) {w : Nat} (hw : w < 8) (h1 : s'.testBit w = true) (h2 : s.testBit w = false) : tm_cnt s + 1 ≤ tm_cnt s' := by
  have key : ∀ i, (s.testBit i).toNat ≤ (s'.testBit i).toNat := by
    intro i
    cases hi : s.testBit i with
    | false => exact Nat.zero_le _
    | true => rw [h i hi]; exact Nat.le_refl _
  have kw : (s.testBit w).toNat + 1 ≤ (s'.testBit w).toNat := by rw [h1, h2]; exact Nat.le_refl _
  have k0 := key 0
  have k1 := key 1
  have k2 := key 2
  have k3 := key 3
  have k4 := key 4
  have k5 := key 5
  have k6 := key 6
  have k7 := key 7
  unfold tm_cnt
  have hc : w = 0 ∨ w = 1 ∨ w = 2 ∨ w = 3 ∨ w = 4 ∨ w = 5 ∨ w = 6 ∨ w = 7 := by omega
  rcases hc with rfl | rfl | rfl | rfl | rfl | rfl | rfl | rfl <;> omega
theorem tm_cnt_8 {s : Nat} (h : 8 ≤ tm_cnt s) {w : Nat} (hw : w < 8) : s.testBit w = true := by
  have key : ∀ i, (s.testBit i).toNat ≤ 1 := fun i => Bool.toNat_le _
  have k0 := key 0
  have k1 := key 1
  have k2 := key 2
  have k3 := key 3
  have k4 := key 4
  have k5 := key 5
  have k6 := key 6
  have k7 := key 7
  unfold tm_cnt at h
  have e : (s.testBit w).toNat = 1 := by
    have hc : w = 0 ∨ w = 1 ∨ w = 2 ∨ w = 3 ∨ w = 4 ∨ w = 5 ∨ w = 6 ∨ w = 7 := by omega
    rcases hc with rfl | rfl | rfl | rfl | rfl | rfl | rfl | rfl <;> omega
  cases hs : s.testBit w with
  | true => rfl
  | false => rw [hs] at e; cases e
theorem tm_jac_cl {f : Nat → Nat} {s : Nat} (h : tm_cl f s) : tm_cl f (tm_jac f s) := by
  have e : ∀ w, (tm_jac f s).testBit w = true → s.testBit w = true := by
    intro w hw
    rcases (tm_jac_t f s w).mp hw with hw | ⟨u, h1, h2, h3⟩
    · exact hw
    · exact h u h1 h2 w h3
  intro v hv hs w hw
  exact (tm_jac_t f s w).mpr (Or.inl (h v hv (e v hs) w hw))
theorem tm_jac_n {f : Nat → Nat} (hf : ∀ u, u < 8 → f u < 256) (s : Nat) : ∀ k, tm_cl f (tm_it (tm_jac f) k s) ∨ k ≤ tm_cnt (tm_it (tm_jac f) k s) := by
  intro k
  induction k with
  | zero => exact Or.inr (Nat.zero_le _)
  | succ k ih =>
    rcases ih with ih | ih
    · exact Or.inl (tm_jac_cl ih)
    · by_cases hc : tm_cl f (tm_it (tm_jac f) k s)
      · exact Or.inl (tm_jac_cl hc)
      · refine Or.inr ?_
        have hex : ∃ v w, v < 8 ∧ (tm_it (tm_jac f) k s).testBit v = true ∧ (f v).testBit w = true ∧ (tm_it (tm_jac f) k s).testBit w = false := by
          refine Classical.byContradiction fun hn => hc fun v hv hs w hw => ?_
          cases hb : (tm_it (tm_jac f) k s).testBit w with
          | true => rfl
          | false => exact absurd ⟨v, w, hv, hs, hw, hb⟩ hn
        obtain ⟨v, w, hv, hs, hw, hb⟩ := hex
        have := tm_cnt_up (s := tm_it (tm_jac f) k s) (s' := tm_jac f (tm_it (tm_jac f) k s)) (fun x hx => (tm_jac_t f _ x).mpr (Or.inl hx)) (tm_bit8 (hf v hv) hw) ((tm_jac_t f _ w).mpr (Or.inr ⟨v, hv, hs, hw⟩)) hb
        exact Nat.le_trans (Nat.succ_le_succ ih) this
theorem tm_jac_8 {f : Nat → Nat} (hf : ∀ u, u < 8 → f u < 256) (s : Nat) : tm_cl f (tm_it (tm_jac f) 8 s) := by
  rcases tm_jac_n hf s 8 with h | h
  · exact h
  · intro v hv _ w hw
    exact tm_cnt_8 h (tm_bit8 (hf v hv) hw)
theorem tm_it_up (f : Nat → Nat) (s : Nat) : ∀ k w, s.testBit w = true → (tm_it (tm_jac f) k s).testBit w = true := by
  intro k
  induction k with
  | zero => exact fun w h => h
  | succ k ih => exact fun w h => (tm_jac_t f _ w).mpr (Or.inl (ih w h))
theorem tm_it_le (f : Nat → Nat) (s : Nat) : ∀ k w, (tm_it (tm_jac f) k s).testBit w = true → (tm_it (tm_gs f) k s).testBit w = true := by
  intro k
  induction k with
  | zero => exact fun w h => h
  | succ k ih =>
    intro w h
    have hu := tm_gsn_up f (tm_it (tm_gs f) k s) 8
    rcases (tm_jac_t f _ w).mp h with h | ⟨u, h1, h2, h3⟩
    · exact hu.1 w (ih w h)
    · exact hu.2 u h1 (ih u h2) w h3
/-- both ways close alike -/
theorem tm_both {f : Nat → Nat} (hf : ∀ u, u < 8 → f u < 256) (s w : Nat) : (tm_it (tm_gs f) 8 s).testBit w = (tm_it (tm_jac f) 8 s).testBit w := by
  have hC := tm_jac_8 hf s
  have hin : ∀ k, ∀ x, (tm_it (tm_gs f) k s).testBit x = true → (tm_it (tm_jac f) 8 s).testBit x = true := by
    intro k
    induction k with
    | zero => exact fun x h => tm_it_up f s 8 x h
    | succ k ih => exact fun x h => tm_gsn_in f _ _ hC ih 8 (Nat.le_refl _) x h
  have h1 := tm_it_le f s 8 w
  have h2 := hin 8 w
  cases ha : (tm_it (tm_gs f) 8 s).testBit w with
  | true => exact (h2 ha).symm
  | false =>
    cases hb : (tm_it (tm_jac f) 8 s).testBit w with
    | false => rfl
    | true => rw [h1 hb] at ha; cases ha
theorem tm_or256 {a b : Nat} (ha : a < 256) (hb : b < 256) : a ||| b < 256 := Nat.or_lt_two_pow (n := 8) ha hb
theorem tm_all_256 {f : Nat → Nat} (hf : ∀ u, u < 8 → f u < 256) (s : Nat) : ∀ n, n ≤ 8 → tm_all f s n < 256 := by
  intro n
  induction n with
  | zero => exact fun _ => by show 0 < 256; decide
  | succ n ih =>
    intro hn
    rw [tm_all_s]
    cases s.testBit n with
    | true => exact tm_or256 (ih (by omega)) (hf n (by omega))
    | false => exact ih (by omega)
theorem tm_gsn_256 {f : Nat → Nat} (hf : ∀ u, u < 8 → f u < 256) {s : Nat} (hs : s < 256) : ∀ n, n ≤ 8 → tm_gsn f s n < 256 := by
  intro n
  induction n with
  | zero => exact fun _ => hs
  | succ n ih =>
    intro hn
    rw [tm_gsn_s]
    cases (tm_gsn f s n).testBit n with
    | true => exact tm_or256 (ih (by omega)) (hf n (by omega))
    | false => exact ih (by omega)
