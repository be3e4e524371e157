/-! 05.math: the state as mathematics: modes at 34 t + r, situations, wishes, queues -/
abbrev tm_S : Type := (Nat → Nat) × (Nat → Nat) × (Nat → Nat) × (Nat → List Nat)
def tm_b (b : Bool) : Int := bif b then 1 else 0
def tm_pn (r : Nat) : Nat := if r < 4 then 0 else if r < 10 then 1 + (r - 4) / 2 else 4 + (r - 10) / 4
def tm_pI (r : Nat) : Int := if r = 0 then -1 else (tm_pn r : Int)
def tm_an : Nat → Nat → List Nat
  | 0, _ => []
  | n + 1, r => if r = 0 then [] else tm_pn r :: tm_an n (tm_pn r)
def tm_bl (low r : Nat) : Bool := (tm_an 3 low).contains r
def tm_tog (a b : Nat) : Bool := (min a b == 0) || ((min a b == 1 && decide (max a b < 5)) || (min a b == max a b && (min a b == 2 || min a b == 3)))
def tm_jn (a b : Nat) : Nat := if min a b = 2 ∧ max a b = 3 then 4 else max a b
def tm_cov (a b : Nat) : Bool := tm_jn a b == a
def tm_rd (m : Nat) : Bool := m == 1 || m == 3
def tm_rt (m : Nat) : Nat := if m = 5 then 2 else if m = 3 ∨ m = 4 then 1 else 0
def tm_fits (M : Nat → Nat) (t r m : Nat) : Bool := (List.range 8).all fun u => u == t || tm_tog m (M (34 * u + r))
theorem tm_tog_c (a b : Nat) : tm_tog a b = tm_tog b a := by
  unfold tm_tog
  rw [Nat.min_comm a b, Nat.max_comm a b]
theorem tm_jn_c (a b : Nat) : tm_jn a b = tm_jn b a := by
  unfold tm_jn
  rw [Nat.min_comm a b, Nat.max_comm a b]
theorem tm_jn5 {a b : Nat} (ha : a ≤ 5) (hb : b ≤ 5) : tm_jn a b ≤ 5 := by
  unfold tm_jn
  split <;> omega
/-- what doesn't go with a mode doesn't go with more -/
theorem tm_tog_up : ∀ m, m < 6 → ∀ a, a < 6 → ∀ b, b < 6 → tm_tog m a = false → tm_tog m (tm_jn a b) = false := by decide +kernel
theorem tm_fits_f {M : Nat → Nat} {t r m : Nat} : tm_fits M t r m = false ↔ ∃ u, u < 8 ∧ u ≠ t ∧ tm_tog m (M (34 * u + r)) = false := by
  unfold tm_fits
  rw [← Bool.not_eq_true, List.all_eq_true]
  constructor
  · intro h
    refine Classical.byContradiction fun hn => h fun u hu => ?_
    have hu8 := List.mem_range.mp hu
    by_cases hut : u = t
    · simp [hut]
    · cases hg : tm_tog m (M (34 * u + r)) with
      | true => simp
      | false => exact absurd ⟨u, hu8, hut, hg⟩ hn
  · rintro ⟨u, h1, h2, h3⟩ h
    have := h u (List.mem_range.mpr h1)
    simp [h2, h3] at this
/-- at most n numbers below n -/
theorem tm_pig : ∀ (n : Nat) (l : List Nat), l.Nodup → (∀ x ∈ l, x < n) → l.length ≤ n := by
  intro n
  induction n with
  | zero =>
    intro l _ h
    cases l with
    | nil => exact Nat.le_refl _
    | cons a l => exact absurd (h a List.mem_cons_self) (Nat.not_lt_zero _)
  | succ n ih =>
    intro l hd h
    by_cases hm : n ∈ l
    · have h1 := List.length_erase_of_mem hm
      have h2 := ih (l.erase n) (hd.erase n) (fun x hx => by
        have h3 := (hd.mem_erase_iff).mp hx
        have h4 := h x h3.2
        omega)
      omega
    · have := ih l hd (fun x hx => by
        have h4 := h x hx
        have h5 : x ≠ n := fun e => hm (e ▸ hx)
        omega)
      omega
/-- the parts of the invariant that hold at every moment -/
def tm_J (σ : tm_S) : Prop :=
  (∀ i, i < 272 → σ.1 i ≤ 5) ∧ (∀ t, t < 8 → σ.2.1 t ≤ 35 ∧ σ.2.2.1 t ≤ 5 ∧ (σ.2.1 t < 2 → σ.2.2.1 t = 0)) ∧
  ∀ r, r < 34 → (σ.2.2.2 r).Nodup ∧ (∀ t, t ∈ σ.2.2.2 r ↔ t < 8 ∧ σ.2.1 t = r + 2) ∧ (σ.2.2.2 r).Pairwise (fun a b => σ.1 (34 * b + r) ≠ 0 → σ.1 (34 * a + r) ≠ 0)
/-- the first one of the queue of r does not fit -/
def tm_H (σ : tm_S) (r : Nat) : Prop := ∀ t l, σ.2.2.2 r = t :: l → tm_fits σ.1 t r (σ.2.2.1 t) = false
def tm_I (σ : tm_S) : Prop := tm_J σ ∧ ∀ r, r < 34 → tm_H σ r
theorem tm_len {σ : tm_S} (h : tm_J σ) {r : Nat} (hr : r < 34) : (σ.2.2.2 r).length ≤ 8 :=
  tm_pig 8 _ (h.2.2 r hr).1 (fun x hx => (((h.2.2 r hr).2.1 x).mp hx).1)
/-- t is let in at r; l: the others of the queue -/
def tm_gr (σ : tm_S) (r t : Nat) (l : List Nat) : tm_S := (va_up σ.1 (34 * t + r) (σ.2.2.1 t), va_up σ.2.1 t 1, va_up σ.2.2.1 t 0, va_up σ.2.2.2 r l)
def tm_sv : Nat → tm_S → Nat → Nat × tm_S
  | 0, σ, _ => (0, σ)
  | n + 1, σ, r => match σ.2.2.2 r with
    | [] => (0, σ)
    | t :: l => if tm_fits σ.1 t r (σ.2.2.1 t) = true then ((tm_sv n (tm_gr σ r t l) r).1 + 1, (tm_sv n (tm_gr σ r t l) r).2) else (0, σ)
def tm_serve (σ : tm_S) (r : Nat) : Nat × tm_S := tm_sv 8 σ r
theorem va_up_s {α : Type} (f : Nat → α) (k : Nat) (v : α) : va_up f k v k = v := by unfold va_up; rw [if_pos rfl]
theorem va_up_n {α : Type} (f : Nat → α) {k j : Nat} (v : α) (h : j ≠ k) : va_up f k v j = f j := by unfold va_up; rw [if_neg h]
theorem tm_col {t u r c : Nat} (hr : r < 34) (hc : c < 34) (h : 34 * u + c = 34 * t + r) : u = t ∧ c = r := by omega
theorem tm_gr_J {σ : tm_S} (h : tm_J σ) {r t : Nat} {l : List Nat} (hr : r < 34) (hq : σ.2.2.2 r = t :: l) : tm_J (tm_gr σ r t l) := by
  obtain ⟨h1, h2, h3⟩ := h
  obtain ⟨n1, n2, n3⟩ := h3 r hr
  rw [hq] at n1 n2 n3
  obtain ⟨ht8, hts⟩ := (n2 t).mp List.mem_cons_self
  have htl : t ∉ l := (List.nodup_cons.mp n1).1
  refine ⟨fun i hi => ?_, fun u hu => ?_, fun c hc => ?_⟩
  · show va_up σ.1 (34 * t + r) (σ.2.2.1 t) i ≤ 5
    by_cases hi' : i = 34 * t + r
    · rw [hi', va_up_s]; exact (h2 t ht8).2.1
    · rw [va_up_n _ _ hi']; exact h1 i hi
  · show va_up σ.2.1 t 1 u ≤ 35 ∧ va_up σ.2.2.1 t 0 u ≤ 5 ∧ (va_up σ.2.1 t 1 u < 2 → va_up σ.2.2.1 t 0 u = 0)
    by_cases hu' : u = t
    · rw [hu', va_up_s, va_up_s]; exact ⟨by omega, by omega, fun _ => rfl⟩
    · rw [va_up_n _ _ hu', va_up_n _ _ hu']; exact h2 u hu
  · show (va_up σ.2.2.2 r l c).Nodup ∧ (∀ u, u ∈ va_up σ.2.2.2 r l c ↔ u < 8 ∧ va_up σ.2.1 t 1 u = c + 2) ∧ (va_up σ.2.2.2 r l c).Pairwise (fun a b => va_up σ.1 (34 * t + r) (σ.2.2.1 t) (34 * b + c) ≠ 0 → va_up σ.1 (34 * t + r) (σ.2.2.1 t) (34 * a + c) ≠ 0)
    by_cases hcr : c = r
    · subst hcr
      rw [va_up_s]
      refine ⟨(List.nodup_cons.mp n1).2, fun u => ?_, ?_⟩
      · by_cases hut : u = t
        · subst hut
          rw [va_up_s]
          exact ⟨fun q => absurd q htl, fun q => by omega⟩
        · rw [va_up_n _ _ hut, ← n2 u]
          exact ⟨fun q => List.mem_cons_of_mem _ q, fun q => (List.mem_cons.mp q).resolve_left hut⟩
      · refine List.Pairwise.imp_of_mem ?_ (List.pairwise_cons.mp n3).2
        intro a b ha hb hab
        have e1 : a ≠ t := fun e => htl (e ▸ ha)
        have e2 : b ≠ t := fun e => htl (e ▸ hb)
        rw [va_up_n _ _ (by omega), va_up_n _ _ (by omega)]
        exact hab
    · rw [va_up_n _ _ hcr]
      obtain ⟨m1, m2, m3⟩ := h3 c hc
      refine ⟨m1, fun u => ?_, ?_⟩
      · by_cases hut : u = t
        · subst hut
          rw [va_up_s, m2 u]
          exact ⟨fun q => by omega, fun q => by omega⟩
        · rw [va_up_n _ _ hut]
          exact m2 u
      · refine m3.imp ?_
        intro a b hab
        rw [va_up_n _ _ (by omega), va_up_n _ _ (by omega)]
        exact hab
/-- serving r: the invariant stays; r's first one does not fit any more; other columns and queues, and those who wait elsewhere, stay -/
theorem tm_sv_J : ∀ (n : Nat) (σ : tm_S) (r : Nat), r < 34 → tm_J σ → tm_J (tm_sv n σ r).2 ∧ ((σ.2.2.2 r).length ≤ n → tm_H (tm_sv n σ r).2 r) ∧ (tm_sv n σ r).1 ≤ n ∧
    (∀ u c, c < 34 → c ≠ r → (tm_sv n σ r).2.1 (34 * u + c) = σ.1 (34 * u + c)) ∧ (∀ c, c ≠ r → (tm_sv n σ r).2.2.2.2 c = σ.2.2.2 c) ∧
    (∀ u, σ.2.1 u ≠ r + 2 → (tm_sv n σ r).2.2.1 u = σ.2.1 u ∧ (tm_sv n σ r).2.2.2.1 u = σ.2.2.1 u) := by
  intro n
  induction n with
  | zero =>
    intro σ r hr h
    refine ⟨h, fun hl => ?_, Nat.le_refl _, fun _ _ _ _ => rfl, fun _ _ => rfl, fun _ _ => ⟨rfl, rfl⟩⟩
    intro t l hq
    have hq : σ.2.2.2 r = t :: l := hq
    rw [hq] at hl
    simp at hl
  | succ n ih =>
    intro σ r hr h
    cases hq : σ.2.2.2 r with
    | nil =>
      have e : tm_sv (n + 1) σ r = (0, σ) := by unfold tm_sv; rw [hq]
      rw [e]
      refine ⟨h, fun _ t l hq' => ?_, Nat.zero_le _, fun _ _ _ _ => rfl, fun _ _ => rfl, fun _ _ => ⟨rfl, rfl⟩⟩
      have hq' : σ.2.2.2 r = t :: l := hq'
      rw [hq] at hq'
      cases hq'
    | cons t l =>
      by_cases hf : tm_fits σ.1 t r (σ.2.2.1 t) = true
      · have e : tm_sv (n + 1) σ r = ((tm_sv n (tm_gr σ r t l) r).1 + 1, (tm_sv n (tm_gr σ r t l) r).2) := by
          show (match σ.2.2.2 r with
            | [] => (0, σ)
            | t :: l => if tm_fits σ.1 t r (σ.2.2.1 t) = true then ((tm_sv n (tm_gr σ r t l) r).1 + 1, (tm_sv n (tm_gr σ r t l) r).2) else (0, σ)) = _
          rw [hq]
          exact if_pos hf
        have hts : t < 8 ∧ σ.2.1 t = r + 2 := ((h.2.2 r hr).2.1 t).mp (by rw [hq]; exact List.mem_cons_self)
        obtain ⟨i1, i2, i3, i4, i5, i6⟩ := ih (tm_gr σ r t l) r hr (tm_gr_J h hr hq)
        rw [e]
        refine ⟨i1, fun hl => i2 ?_, Nat.succ_le_succ i3, fun u c hc hcr => ?_, fun c hcr => ?_, fun u hu => ?_⟩
        · show (va_up σ.2.2.2 r l r).length ≤ n
          rw [va_up_s]
          simpa using hl
        · have e4 := i4 u c hc hcr
          refine e4.trans ?_
          show va_up σ.1 (34 * t + r) (σ.2.2.1 t) (34 * u + c) = _
          rw [va_up_n _ _ (by omega)]
        · refine (i5 c hcr).trans ?_
          show va_up σ.2.2.2 r l c = _
          rw [va_up_n _ _ hcr]
        · have hut : u ≠ t := fun e' => hu (e' ▸ hts.2)
          have e6 := i6 u (by show va_up σ.2.1 t 1 u ≠ r + 2; rw [va_up_n _ _ hut]; exact hu)
          refine ⟨e6.1.trans ?_, e6.2.trans ?_⟩
          · show va_up σ.2.1 t 1 u = _
            rw [va_up_n _ _ hut]
          · show va_up σ.2.2.1 t 0 u = _
            rw [va_up_n _ _ hut]
      · have e : tm_sv (n + 1) σ r = (0, σ) := by
          show (match σ.2.2.2 r with
            | [] => (0, σ)
            | t :: l => if tm_fits σ.1 t r (σ.2.2.1 t) = true then ((tm_sv n (tm_gr σ r t l) r).1 + 1, (tm_sv n (tm_gr σ r t l) r).2) else (0, σ)) = _
          rw [hq]
          exact if_neg hf
        rw [e]
        refine ⟨h, fun _ t' l' hq' => ?_, Nat.zero_le _, fun _ _ _ _ => rfl, fun _ _ => rfl, fun _ _ => ⟨rfl, rfl⟩⟩
        have hq' : σ.2.2.2 r = t' :: l' := hq'
        rw [hq] at hq'
        cases hq'
        exact Bool.not_eq_true _ ▸ hf
