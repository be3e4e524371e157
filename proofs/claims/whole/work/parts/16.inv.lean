/-! 16.inv: the invariant under setting a mode, entering and leaving a queue -/
theorem tm_sm_J {σ : tm_S} (h : tm_J σ) {t r m : Nat} (ht : t < 8) (hr : r < 34) (hm : m ≤ 5) (hs : σ.2.1 t ≠ r + 2) : tm_J (tm_sm σ (34 * t + r) m) := by
  obtain ⟨h1, h2, h3⟩ := h
  refine ⟨fun i hi => ?_, h2, fun c hc => ?_⟩
  · show va_up σ.1 (34 * t + r) m i ≤ 5
    by_cases e : i = 34 * t + r
    · rw [e, va_up_s]; exact hm
    · rw [va_up_n _ _ e]; exact h1 i hi
  · obtain ⟨n1, n2, n3⟩ := h3 c hc
    refine ⟨n1, n2, ?_⟩
    refine List.Pairwise.imp_of_mem ?_ n3
    intro a b ha hb hab
    show va_up σ.1 (34 * t + r) m (34 * b + c) ≠ 0 → va_up σ.1 (34 * t + r) m (34 * a + c) ≠ 0
    have key : ∀ u, u ∈ σ.2.2.2 c → 34 * u + c ≠ 34 * t + r := fun u hu e => by
      have h9 := (n2 u).mp hu
      obtain ⟨e1, e2⟩ := tm_col hr hc e
      rw [e1, e2] at h9
      exact hs h9.2
    rw [va_up_n _ _ (key b hb), va_up_n _ _ (key a ha)]
    exact hab
theorem tm_first {R : Nat → Bool} : ∀ l : List Nat, l.Pairwise (fun a b => R b = true → R a = true) → ∀ a ∈ l.take (l.countP R), R a = true := by
  intro l
  induction l with
  | nil => intro _ a ha; cases ha
  | cons b l ih =>
    intro hp a ha
    obtain ⟨h1, h2⟩ := List.pairwise_cons.mp hp
    by_cases hb : R b = true
    · rw [List.countP_cons, if_pos hb, List.take_succ_cons] at ha
      rcases List.mem_cons.mp ha with e | ha
      · rw [e]; exact hb
      · exact ih h2 a ha
    · have h0 : l.countP R = 0 := List.countP_eq_zero.mpr (fun c hc q => hb (h1 c hc q))
      rw [List.countP_cons, if_neg hb, h0] at ha
      cases ha
theorem tm_en_perm (l : List Nat) (p t : Nat) : (l.take p ++ t :: l.drop p).Perm (t :: l) := by
  have h := List.perm_middle (a := t) (l₁ := l.take p) (l₂ := l.drop p)
  rw [List.take_append_drop] at h
  exact h
theorem tm_pl_0 {σ : tm_S} {t r : Nat} (h : σ.1 (34 * t + r) = 0) : tm_pl σ t r = (σ.2.2.2 r).length := by
  unfold tm_pl
  apply List.countP_eq_length.mpr
  intro u _
  rw [decide_eq_true h, Bool.or_true]
theorem tm_pl_1 {σ : tm_S} {t r : Nat} (h : σ.1 (34 * t + r) ≠ 0) : tm_pl σ t r = (σ.2.2.2 r).countP (fun u => decide (σ.1 (34 * u + r) ≠ 0)) := by
  unfold tm_pl
  apply List.countP_congr
  intro u _
  rw [decide_eq_false h, Bool.or_false]
theorem tm_en_J {σ : tm_S} (h : tm_J σ) {t r m : Nat} (ht : t < 8) (hr : r < 34) (hm : m ≤ 5) (hs : σ.2.1 t < 2) : tm_J (tm_en σ r t m (tm_pl σ t r)) := by
  obtain ⟨h1, h2, h3⟩ := h
  have htq : ∀ c, c < 34 → t ∉ σ.2.2.2 c := fun c hc hq => by
    have := ((h3 c hc).2.1 t).mp hq
    omega
  refine ⟨h1, fun u hu => ?_, fun c hc => ?_⟩
  · show va_up σ.2.1 t (r + 2) u ≤ 35 ∧ va_up σ.2.2.1 t m u ≤ 5 ∧ (va_up σ.2.1 t (r + 2) u < 2 → va_up σ.2.2.1 t m u = 0)
    by_cases e : u = t
    · rw [e, va_up_s, va_up_s]; exact ⟨by omega, hm, fun q => by omega⟩
    · rw [va_up_n _ _ e, va_up_n _ _ e]; exact h2 u hu
  · obtain ⟨n1, n2, n3⟩ := h3 c hc
    show (va_up σ.2.2.2 r ((σ.2.2.2 r).take (tm_pl σ t r) ++ t :: (σ.2.2.2 r).drop (tm_pl σ t r)) c).Nodup ∧ (∀ u, u ∈ va_up σ.2.2.2 r ((σ.2.2.2 r).take (tm_pl σ t r) ++ t :: (σ.2.2.2 r).drop (tm_pl σ t r)) c ↔ u < 8 ∧ va_up σ.2.1 t (r + 2) u = c + 2) ∧ (va_up σ.2.2.2 r ((σ.2.2.2 r).take (tm_pl σ t r) ++ t :: (σ.2.2.2 r).drop (tm_pl σ t r)) c).Pairwise (fun a b => σ.1 (34 * b + c) ≠ 0 → σ.1 (34 * a + c) ≠ 0)
    by_cases e : c = r
    · subst e
      rw [va_up_s]
      have hp := tm_en_perm (σ.2.2.2 c) (tm_pl σ t c) t
      refine ⟨hp.nodup_iff.mpr (List.nodup_cons.mpr ⟨htq c hc, n1⟩), fun u => ?_, ?_⟩
      · rw [hp.mem_iff, List.mem_cons, n2 u]
        by_cases eu : u = t
        · rw [eu, va_up_s]; exact ⟨fun _ => ⟨ht, rfl⟩, fun _ => Or.inl rfl⟩
        · rw [va_up_n _ _ eu]; exact ⟨fun q => q.resolve_left eu, Or.inr⟩
      · have n4 := n3
        rw [← List.take_append_drop (tm_pl σ t c) (σ.2.2.2 c), List.pairwise_append] at n4
        obtain ⟨p1, p2, p3⟩ := n4
        refine List.pairwise_append.mpr ⟨p1, List.pairwise_cons.mpr ⟨fun b hb => ?_, p2⟩, fun a ha b hb => ?_⟩
        · intro _ hz
          rw [tm_pl_0 hz, List.drop_length] at hb
          cases hb
        · rcases List.mem_cons.mp hb with eb | hb
          · rw [eb]
            intro hz
            rw [tm_pl_1 hz] at ha
            have h9 := tm_first (R := fun u => decide (σ.1 (34 * u + c) ≠ 0)) (σ.2.2.2 c) (n3.imp (fun {x y} hxy q => decide_eq_true (hxy (of_decide_eq_true q)))) a ha
            exact of_decide_eq_true h9
          · exact p3 a ha b hb
    · rw [va_up_n _ _ e]
      refine ⟨n1, fun u => ?_, n3⟩
      by_cases eu : u = t
      · rw [eu, va_up_s]
        exact ⟨fun q => absurd q (htq c hc), fun q => by omega⟩
      · rw [va_up_n _ _ eu]; exact n2 u
theorem tm_up_id {α : Type} (f : Nat → α) (k : Nat) (v : α) : va_up (va_up f k v) k (f k) = f := by
  funext j
  by_cases e : j = k
  · rw [e, va_up_s]
  · rw [va_up_n _ _ e, va_up_n _ _ e]
theorem tm_ins_er (l : List Nat) {p : Nat} (t : Nat) (hp : p ≤ l.length) : (l.take p ++ t :: l.drop p).eraseIdx p = l := by
  rw [List.eraseIdx_eq_take_drop_succ]
  have h1 : (l.take p ++ t :: l.drop p).take p = l.take p := by
    rw [List.take_append_of_le_length (by rw [List.length_take]; omega), List.take_take, Nat.min_self]
  have h2 : (l.take p ++ t :: l.drop p).drop (p + 1) = l.drop p := by
    rw [List.drop_append, List.length_take, Nat.min_eq_left hp, List.drop_eq_nil_of_le (by rw [List.length_take]; omega), show p + 1 - p = 1 by omega]
    rfl
  rw [h1, h2, List.take_append_drop]
/-- who enters and leaves at once has changed nothing -/
theorem tm_lv_en {σ : tm_S} {r t m p : Nat} (hs : σ.2.1 t = 1) (hw : σ.2.2.1 t = 0) (hp : p ≤ (σ.2.2.2 r).length) : tm_lv (tm_en σ r t m p) r t p = σ := by
  have e1 : va_up (va_up σ.2.1 t (r + 2)) t 1 = σ.2.1 := by have := tm_up_id σ.2.1 t (r + 2); rw [hs] at this; exact this
  have e2 : va_up (va_up σ.2.2.1 t m) t 0 = σ.2.2.1 := by have := tm_up_id σ.2.2.1 t m; rw [hw] at this; exact this
  have e3 : va_up (va_up σ.2.2.2 r ((σ.2.2.2 r).take p ++ t :: (σ.2.2.2 r).drop p)) r ((va_up σ.2.2.2 r ((σ.2.2.2 r).take p ++ t :: (σ.2.2.2 r).drop p) r).eraseIdx p) = σ.2.2.2 := by
    rw [va_up_s, tm_ins_er _ t hp]
    exact tm_up_id σ.2.2.2 r _
  show (σ.1, va_up (va_up σ.2.1 t (r + 2)) t 1, va_up (va_up σ.2.2.1 t m) t 0, va_up (va_up σ.2.2.2 r ((σ.2.2.2 r).take p ++ t :: (σ.2.2.2 r).drop p)) r ((va_up σ.2.2.2 r ((σ.2.2.2 r).take p ++ t :: (σ.2.2.2 r).drop p) r).eraseIdx p)) = σ
  rw [e1, e2, e3]
