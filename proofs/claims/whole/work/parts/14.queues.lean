/-! 14.queues: the class's queues, printed by a4.py -/
def tm_RC (w : tl_W) (σ : tm_S) : Prop := (∀ i, i < 272 → w 0 i = (σ.1 i : Int)) ∧ (∀ t, t < 8 → w 1 t = (σ.2.1 t : Int) ∧ w 2 t = (σ.2.2.1 t : Int)) ∧ (∀ r, r < 34 → ∀ k t : Nat, (σ.2.2.2 r)[k]? = some t → w 3 t = (k : Int)) ∧ (∀ j, j < 6 → w 99 j = (tm_tb j : Int))
/-- queues and situations belong together -/
def tm_K (σ : tm_S) : Prop := (∀ t, t < 8 → σ.2.1 t ≤ 35) ∧ ∀ r, r < 34 → (σ.2.2.2 r).Nodup ∧ ∀ t, t ∈ σ.2.2.2 r ↔ t < 8 ∧ σ.2.1 t = r + 2
theorem tm_J_K {σ : tm_S} (h : tm_J σ) : tm_K σ := ⟨fun t ht => (h.2.1 t ht).1, fun r hr => ⟨(h.2.2 r hr).1, (h.2.2 r hr).2.1⟩⟩
theorem tm_RC_3 {w : tl_W} {σ : tm_S} (h : tm_RC w σ) : tm_at3 w σ := ⟨fun t ht => (h.2.1 t ht).1, h.2.2.1⟩
theorem tm_K_len {σ : tm_S} (h : tm_K σ) {r : Nat} (hr : r < 34) : (σ.2.2.2 r).length ≤ 8 := tm_pig 8 _ (h.2 r hr).1 (fun x hx => (((h.2 r hr).2 x).mp hx).1)
theorem tm_K_lt {σ : tm_S} (h : tm_K σ) {r k t : Nat} (hr : r < 34) (hk : (σ.2.2.2 r)[k]? = some t) : k < 8 ∧ t < 8 ∧ σ.2.1 t = r + 2 := by
  have h1 := (List.getElem?_eq_some_iff.mp hk).1
  have h2 := tm_K_len h hr
  have h3 := ((h.2 r hr).2 t).mp (List.mem_of_getElem? hk)
  exact ⟨by omega, h3⟩
theorem tm_nd {l : List Nat} (h : l.Nodup) {i j a : Nat} (hi : l[i]? = some a) (hj : l[j]? = some a) : i = j := by
  have h1 := (List.getElem?_eq_some_iff.mp hi).1
  exact (List.getElem?_inj h1 h).mp (hi.trans hj.symm)
theorem tm_ix {l : List Nat} (h : l.Nodup) {k a : Nat} (hk : l[k]? = some a) : l.idxOf a = k := by
  have h1 : l.idxOf a < l.length := List.idxOf_lt_length_of_mem (List.mem_of_getElem? hk)
  have h2 : l[l.idxOf a]? = some a := by rw [List.getElem?_eq_getElem h1, List.getElem_idxOf h1]
  exact tm_nd h h2 hk
theorem tm_ix2 {l : List Nat} {a : Nat} (h : a ∈ l) : l[l.idxOf a]? = some a := by
  have h1 : l.idxOf a < l.length := List.idxOf_lt_length_of_mem h
  rw [List.getElem?_eq_getElem h1, List.getElem_idxOf h1]
def tm_shf (w : tl_W) (S : Nat → Nat) (r : Nat) (fr st : Int) (i : Nat) : tl_W := fun a => if a = 3 then (fun t => if t < i ∧ S t = r + 2 ∧ fr ≤ w 3 t then w 3 t + st else w 3 t) else w a
theorem tm_shf_0 (w : tl_W) (S : Nat → Nat) (r : Nat) (fr st : Int) : tm_shf w S r fr st 0 = w := by
  funext a t
  unfold tm_shf
  by_cases h : a = 3
  · rw [if_pos h, if_neg (by omega), h]
  · rw [if_neg h]
theorem tm_shf_n {w : tl_W} {S : Nat → Nat} {r : Nat} {fr st : Int} {i a : Nat} (h : a ≠ 3) : tm_shf w S r fr st i a = w a := by unfold tm_shf; exact if_neg h
theorem tm_shf_3 (w : tl_W) (S : Nat → Nat) (r : Nat) (fr st : Int) (i t : Nat) : tm_shf w S r fr st i 3 t = if t < i ∧ S t = r + 2 ∧ fr ≤ w 3 t then w 3 t + st else w 3 t := by unfold tm_shf; rw [if_pos rfl]
theorem tm_shf_y {w : tl_W} {S : Nat → Nat} {r : Nat} {fr st : Int} {i : Nat} (h : S i = r + 2 ∧ fr ≤ w 3 i) : tl_set (tm_shf w S r fr st i) 3 i (w 3 i + st) = tm_shf w S r fr st (i + 1) := by
  funext a t
  unfold tl_set
  by_cases ha : a = 3
  · rw [if_pos ha, ha, tm_shf_3]
    unfold va_up
    by_cases ht : t = i
    · rw [if_pos ht, ht, if_pos ⟨by omega, h⟩]
    · rw [if_neg ht, tm_shf_3]
      by_cases hc : t < i ∧ S t = r + 2 ∧ fr ≤ w 3 t
      · rw [if_pos hc, if_pos ⟨by omega, hc.2⟩]
      · rw [if_neg hc, if_neg (fun q => hc ⟨by omega, q.2⟩)]
  · rw [if_neg ha, tm_shf_n ha, tm_shf_n ha]
theorem tm_shf_x {w : tl_W} {S : Nat → Nat} {r : Nat} {fr st : Int} {i : Nat} (h : ¬ (S i = r + 2 ∧ fr ≤ w 3 i)) : tm_shf w S r fr st i = tm_shf w S r fr st (i + 1) := by
  funext a t
  by_cases ha : a = 3
  · rw [ha, tm_shf_3, tm_shf_3]
    by_cases hc : t < i ∧ S t = r + 2 ∧ fr ≤ w 3 t
    · rw [if_pos hc, if_pos ⟨by omega, hc.2⟩]
    · rw [if_neg hc, if_neg (fun q => ?_)]
      by_cases ht : t = i
      · exact h (ht ▸ q.2)
      · exact hc ⟨by omega, q.2⟩
  · rw [tm_shf_n ha, tm_shf_n ha]
theorem tm_aw_eq {x r : Nat} : tm_aw x = (r : Int) ↔ x = r + 2 := by
  unfold tm_aw
  split <;> omega

theorem ta_shf (d : Nat) (r : Nat) (fr st : Int) {S : Nat → Nat} (w : tl_W) (hS : ∀ t, t < 8 → w 1 t = (S t : Int)) (hS5 : ∀ t, t < 8 → S t ≤ 35) (h3 : ∀ t, t < 8 → S t = r + 2 → -8 ≤ w 3 t ∧ w 3 t ≤ 16) (hst : -1 ≤ st ∧ st ≤ 1) : tl_Ev ta_P (d + 2) 40 [.inr 0, .inl ((r : Nat) : Int), .inl fr, .inl st] w (.inl (none)) (tm_shf w S r fr st 8) := by
  refine tl_start fun Q hQ => ?_
  refine tl_go 2 3 [(0, .inr 0), (1, .inl ((r : Nat) : Int)), (2, .inl fr), (3, .inl st), (4, .inl 0)] [] w (fun _ h => h) ?_
  have loop : ∀ k i : Nat, i + k = 8 → tl_E ta_P (d + 1) 40 3 [(0, .inr 0), (1, .inl (r : Int)), (2, .inl fr), (3, .inl st), (4, .inl (i : Int))] [] (tm_shf w S r fr st i) Q := by
    intro k
    induction k with
    | zero =>
      intro i hi
      have hQ8 : Q (.inl none) (tm_shf w S r fr st i) := by rw [show i = 8 by omega]; exact hQ
      refine tl_go 2 7 [(0, .inr 0), (1, .inl ((r : Nat) : Int)), (2, .inl fr), (3, .inl st), (4, .inl ((i : Nat) : Int))] [.inl 8, .inl ((i : Nat) : Int)] (tm_shf w S r fr st i) (fun _ h => h) ?_
      refine tl_ift (8 ≤ ((i : Nat) : Int)) 48 10 [(0, .inr 0), (1, .inl ((r : Nat) : Int)), (2, .inl fr), (3, .inl st), (4, .inl ((i : Nat) : Int))] [] (fun _ h => h) (by omega) ?_
      exact tl_retv rfl rfl (hQ8)
    | succ k ih =>
      intro i hi
      refine tl_go 2 7 [(0, .inr 0), (1, .inl ((r : Nat) : Int)), (2, .inl fr), (3, .inl st), (4, .inl ((i : Nat) : Int))] [.inl 8, .inl ((i : Nat) : Int)] (tm_shf w S r fr st i) (fun _ h => h) ?_
      refine tl_iff (8 ≤ ((i : Nat) : Int)) 48 10 [(0, .inr 0), (1, .inl ((r : Nat) : Int)), (2, .inl fr), (3, .inl st), (4, .inl ((i : Nat) : Int))] [] (fun _ h => h) (by omega) ?_
      refine tl_go 2 13 [(0, .inr 0), (1, .inl ((r : Nat) : Int)), (2, .inl fr), (3, .inl st), (4, .inl ((i : Nat) : Int))] [.inl ((i : Nat) : Int), .inr 0] (tm_shf w S r fr st i) (fun _ h => h) ?_
      refine tl_callV (as := [.inr 0, .inl ((i : Nat) : Int)]) (rest := []) (v := some (tm_aw (S i))) (w' := (tm_shf w S r fr st i)) rfl rfl (ta_aw d i (by omega) _ (by rw [tm_shf_n (by decide)]; exact hS i (by omega)) (hS5 i (by omega))) (Nat.le_of_ble_eq_true rfl) rfl rfl rfl (Nat.le_of_ble_eq_true rfl) ?_
      refine tl_go 1 17 [(0, .inr 0), (1, .inl ((r : Nat) : Int)), (2, .inl fr), (3, .inl st), (4, .inl ((i : Nat) : Int))] [.inl ((r : Nat) : Int), .inl (tm_aw (S i))] (tm_shf w S r fr st i) (fun _ h => h) ?_
      refine tl_if (¬ (tm_aw (S i)) = ((r : Nat) : Int)) 42 20 [(0, .inr 0), (1, .inl ((r : Nat) : Int)), (2, .inl fr), (3, .inl st), (4, .inl ((i : Nat) : Int))] [] (fun _ h => h) (fun hc => ?_) (fun hc => ?_)
      · refine tl_go 2 3 [(0, .inr 0), (1, .inl ((r : Nat) : Int)), (2, .inl fr), (3, .inl st), (4, .inl (((i : Nat) : Int) + 1))] [] (tm_shf w S r fr st i) (fun _ h => And.intro (by omega) h) ?_
        have e9 := tm_shf_x (w := w) (S := S) (r := r) (fr := fr) (st := st) (i := i) (fun q => hc (tm_aw_eq.mpr q.1))
        rw [e9]
        exact ih (i + 1) (by omega)
      · have hc := tm_aw_eq.mp (Classical.not_not.mp hc)
        have e3 : tm_shf w S r fr st i 3 i = w 3 i := by rw [tm_shf_3, if_neg (by omega)]
        have hb := h3 i (by omega) hc
        refine tl_go 3 26 [(0, .inr 0), (1, .inl ((r : Nat) : Int)), (2, .inl fr), (3, .inl st), (4, .inl ((i : Nat) : Int))] [.inl ((i : Nat) : Int), .inr 4] (tm_shf w S r fr st i) (fun _ h => And.intro rfl (And.intro (by decide) (h))) ?_
        refine tl_ald (i) 8 (k := 3) rfl (by omega) rfl (by omega) ?_
        refine tl_top (y := (w 3 i)) (e3) ?_
        refine tl_go 1 28 [(0, .inr 0), (1, .inl ((r : Nat) : Int)), (2, .inl fr), (3, .inl st), (4, .inl ((i : Nat) : Int))] [.inl fr, .inl (w 3 i)] (tm_shf w S r fr st i) (fun _ h => h) ?_
        refine tl_if ((w 3 i) < fr) 42 31 [(0, .inr 0), (1, .inl ((r : Nat) : Int)), (2, .inl fr), (3, .inl st), (4, .inl ((i : Nat) : Int))] [] (fun _ h => h) (fun hg => ?_) (fun hg => ?_)
        · refine tl_go 2 3 [(0, .inr 0), (1, .inl ((r : Nat) : Int)), (2, .inl fr), (3, .inl st), (4, .inl (((i : Nat) : Int) + 1))] [] (tm_shf w S r fr st i) (fun _ h => And.intro (by omega) h) ?_
          have e9 := tm_shf_x (w := w) (S := S) (r := r) (fr := fr) (st := st) (i := i) (fun q => by have := q.2; omega)
          rw [e9]
          exact ih (i + 1) (by omega)
        · refine tl_go 4 38 [(0, .inr 0), (1, .inl ((r : Nat) : Int)), (2, .inl fr), (3, .inl st), (4, .inl ((i : Nat) : Int))] [.inl ((i : Nat) : Int), .inr 4, .inl ((i : Nat) : Int), .inr 4] (tm_shf w S r fr st i) (fun _ h => And.intro rfl (And.intro (by decide) (h))) ?_
          refine tl_ald (i) 8 (k := 3) rfl (by omega) rfl (by omega) ?_
          refine tl_top (y := (w 3 i)) (e3) ?_
          refine tl_go 2 41 [(0, .inr 0), (1, .inl ((r : Nat) : Int)), (2, .inl fr), (3, .inl st), (4, .inl ((i : Nat) : Int))] [.inl ((w 3 i) + st), .inl ((i : Nat) : Int), .inr 4] (tm_shf w S r fr st i) (fun _ h => And.intro (by omega) h) ?_
          refine tl_ast (i) 8 (k := 3) rfl (by decide) (by omega) rfl (by omega) ?_
          refine tl_wld (w' := (tm_shf w S r fr st (i + 1))) (tm_shf_y ⟨hc, by omega⟩) ?_
          refine tl_go 2 3 [(0, .inr 0), (1, .inl ((r : Nat) : Int)), (2, .inl fr), (3, .inl st), (4, .inl (((i : Nat) : Int) + 1))] [] (tm_shf w S r fr st (i + 1)) (fun _ h => And.intro (by omega) h) ?_
          exact ih (i + 1) (by omega)
  have h9 := loop 8 0 rfl
  rw [tm_shf_0] at h9
  exact h9
def tm_lv (σ : tm_S) (r t k : Nat) : tm_S := (σ.1, va_up σ.2.1 t 1, va_up σ.2.2.1 t 0, va_up σ.2.2.2 r ((σ.2.2.2 r).eraseIdx k))
theorem tl_set_o {w : tl_W} {k j a : Nat} {x : Int} (h : a ≠ k) : tl_set w k j x a = w a := by unfold tl_set; exact if_neg h
theorem tl_set_s (w : tl_W) (k j : Nat) (x : Int) : tl_set w k j x k = va_up (w k) j x := by unfold tl_set; exact if_pos rfl
theorem tm_lv_RC {w : tl_W} {σ : tm_S} (hK : tm_K σ) (hR : tm_RC w σ) {r t k : Nat} (hr : r < 34) (hk : (σ.2.2.2 r)[k]? = some t) : tm_RC (tm_shf (tl_set (tl_set w 1 t 1) 2 t 0) (va_up σ.2.1 t 1) r (w 3 t) (-1) 8) (tm_lv σ r t k) := by
  obtain ⟨hk8, ht8, hts⟩ := tm_K_lt hK hr hk
  have h3t := hR.2.2.1 r hr k t hk
  refine ⟨fun i hi => ?_, fun u hu => ⟨?_, ?_⟩, fun r' hr' k' t' hk' => ?_, fun j hj => ?_⟩
  · rw [tm_shf_n (by decide), tl_set_o (by decide), tl_set_o (by decide)]; exact hR.1 i hi
  · rw [tm_shf_n (by decide), tl_set_o (by decide), tl_set_s]
    show va_up (w 1) t 1 u = ((va_up σ.2.1 t 1 u : Nat) : Int)
    by_cases e : u = t
    · rw [e, va_up_s, va_up_s]; rfl
    · rw [va_up_n _ _ e, va_up_n _ _ e]; exact (hR.2.1 u hu).1
  · rw [tm_shf_n (by decide), tl_set_s, tl_set_o (by decide)]
    show va_up (w 2) t 0 u = ((va_up σ.2.2.1 t 0 u : Nat) : Int)
    by_cases e : u = t
    · rw [e, va_up_s, va_up_s]; rfl
    · rw [va_up_n _ _ e, va_up_n _ _ e]; exact (hR.2.1 u hu).2
  · have hk' : (va_up σ.2.2.2 r ((σ.2.2.2 r).eraseIdx k) r')[k']? = some t' := hk'
    have e0 : tl_set (tl_set w 1 t 1) 2 t 0 3 = w 3 := by rw [tl_set_o (by decide), tl_set_o (by decide)]
    rw [tm_shf_3, e0]
    by_cases er : r' = r
    · subst er
      rw [va_up_s] at hk'
      by_cases hlt : k' < k
      · rw [List.getElem?_eraseIdx_of_lt hlt] at hk'
        have e3 := hR.2.2.1 r' hr' k' t' hk'
        rw [if_neg (fun q => by have := q.2.2; omega)]
        exact e3
      · rw [List.getElem?_eraseIdx_of_ge (by omega)] at hk'
        have e3 := hR.2.2.1 r' hr' (k' + 1) t' hk'
        obtain ⟨_, ht', hs'⟩ := tm_K_lt hK hr' hk'
        have hne : t' ≠ t := fun e => by
          rw [e] at hk'
          have := tm_nd (hK.2 r' hr').1 hk' hk
          omega
        rw [if_pos ⟨ht', by rw [va_up_n _ _ hne]; exact hs', by omega⟩]
        omega
    · rw [va_up_n _ _ er] at hk'
      have e3 := hR.2.2.1 r' hr' k' t' hk'
      obtain ⟨_, ht', hs'⟩ := tm_K_lt hK hr' hk'
      have hne : t' ≠ t := fun e => by rw [e] at hs'; omega
      rw [if_neg (fun q => by have := q.2.1; rw [va_up_n _ _ hne] at this; omega)]
      exact e3
  · rw [tm_shf_n (by decide), tl_set_o (by decide), tl_set_o (by decide)]; exact hR.2.2.2 j hj

theorem ta_lv (d : Nat) {r t k : Nat} {σ : tm_S} (w : tl_W) (hK : tm_K σ) (hR : tm_RC w σ) (hr : r < 34) (hk : (σ.2.2.2 r)[k]? = some t) : tl_Ev ta_P (d + 3) 38 [.inr 0, .inl ((t : Nat) : Int)] w (.inl (none)) (tm_shf (tl_set (tl_set w 1 t 1) 2 t 0) (va_up σ.2.1 t 1) r (w 3 t) (-1) 8) := by
  refine tl_start fun Q hQ => ?_
  obtain ⟨hk8, ht8, hts⟩ := tm_K_lt hK hr hk
  refine tl_go 2 2 [(0, .inr 0), (1, .inl ((t : Nat) : Int))] [.inl ((t : Nat) : Int), .inr 0] w (fun _ h => h) ?_
  refine tl_callV (as := [.inr 0, .inl ((t : Nat) : Int)]) (rest := []) (v := some (tm_aw (σ.2.1 t))) (w' := w) rfl rfl (ta_aw (d + 1) t ht8 w (hR.2.1 t ht8).1 (hK.1 t ht8)) (Nat.le_of_ble_eq_true rfl) rfl rfl rfl (Nat.le_of_ble_eq_true rfl) ?_
  refine tl_top (y := ((r : Nat) : Int)) (tm_aw_eq.mpr hts) ?_
  refine tl_go 5 12 [(0, .inr 0), (1, .inl ((t : Nat) : Int)), (2, .inl ((r : Nat) : Int))] [.inl 1, .inl ((t : Nat) : Int), .inr 2] w (fun _ h => And.intro rfl (And.intro (by decide) (h))) ?_
  refine tl_ast (t) 8 (k := 1) rfl (by decide) (by omega) rfl (by omega) ?_
  refine tl_go 4 19 [(0, .inr 0), (1, .inl ((t : Nat) : Int)), (2, .inl ((r : Nat) : Int))] [.inl 0, .inl ((t : Nat) : Int), .inr 3] (tl_set w 1 (t) 1) (fun _ h => And.intro rfl (And.intro (by decide) (h))) ?_
  refine tl_ast (t) 8 (k := 2) rfl (by decide) (by omega) rfl (by omega) ?_
  refine tl_go 5 27 [(0, .inr 0), (1, .inl ((t : Nat) : Int)), (2, .inl ((r : Nat) : Int))] [.inl ((t : Nat) : Int), .inr 4, .inl ((r : Nat) : Int), .inr 0] (tl_set (tl_set w 1 (t) 1) 2 (t) 0) (fun _ h => And.intro rfl (And.intro (by decide) (h))) ?_
  refine tl_ald (t) 8 (k := 3) rfl (by omega) rfl (by omega) ?_
  refine tl_top (y := (w 3 t)) (by rw [tl_set_o (by decide), tl_set_o (by decide)]) ?_
  refine tl_go 1 29 [(0, .inr 0), (1, .inl ((t : Nat) : Int)), (2, .inl ((r : Nat) : Int))] [.inl (-1), .inl (w 3 t), .inl ((r : Nat) : Int), .inr 0] (tl_set (tl_set w 1 (t) 1) 2 (t) 0) (fun _ h => h) ?_
  refine tl_callV (as := [.inr 0, .inl ((r : Nat) : Int), .inl (w 3 t), .inl (-1)]) (rest := []) (v := none) (w' := (tm_shf (tl_set (tl_set w 1 t 1) 2 t 0) (va_up σ.2.1 t 1) r (w 3 t) (-1) 8)) rfl rfl (ta_shf d r (w 3 t) (-1) (S := va_up σ.2.1 t 1) _ ?_ ?_ ?_ (by omega)) (Nat.le_of_ble_eq_true rfl) rfl rfl rfl (Nat.le_of_ble_eq_true rfl) ?_
  · intro u hu
    rw [tl_set_o (by decide), tl_set_s]
    by_cases e : u = t
    · rw [e, va_up_s, va_up_s]; rfl
    · rw [va_up_n _ _ e, va_up_n _ _ e]; exact (hR.2.1 u hu).1
  · intro u hu
    by_cases e : u = t
    · rw [e, va_up_s]; omega
    · rw [va_up_n _ _ e]; exact hK.1 u hu
  · intro u hu hs
    have e : u ≠ t := fun e => by rw [e, va_up_s] at hs; omega
    rw [va_up_n _ _ e] at hs
    obtain ⟨k9, hk9⟩ := List.getElem?_of_mem (((hK.2 r hr).2 u).mpr ⟨hu, hs⟩)
    have h8 := tm_K_lt hK hr hk9
    rw [tl_set_o (by decide), tl_set_o (by decide), hR.2.2.1 r hr k9 u hk9]
    omega
  · exact tl_retv rfl rfl hQ
def tm_pl (σ : tm_S) (t r : Nat) : Nat := (σ.2.2.2 r).countP (fun u => decide (σ.1 (34 * u + r) ≠ 0) || decide (σ.1 (34 * t + r) = 0))
theorem tm_cq_1 (p : Nat → Bool) {a : Nat} {l : List Nat} (ha : a ∉ l) : ∀ n, (List.range n).countP (fun u => decide (u ∈ a :: l) && p u) = (List.range n).countP (fun u => decide (u ∈ l) && p u) + (if a < n ∧ p a = true then 1 else 0) := by
  intro n
  induction n with
  | zero => rfl
  | succ n ih =>
    rw [List.range_succ, List.countP_append, List.countP_append, ih, List.countP_singleton, List.countP_singleton]
    by_cases hn : n = a
    · subst hn
      have e1 : decide (n ∈ n :: l) = true := decide_eq_true List.mem_cons_self
      have e2 : decide (n ∈ l) = false := decide_eq_false ha
      rw [e1, e2]
      cases hp : p n with
      | true => simp
      | false => simp
    · have e1 : decide (n ∈ a :: l) = decide (n ∈ l) := by
        by_cases h : n ∈ l
        · rw [decide_eq_true h, decide_eq_true (List.mem_cons_of_mem _ h)]
        · rw [decide_eq_false h, decide_eq_false (fun q => (List.mem_cons.mp q).elim hn h)]
      have e2 : (a < n ∧ p a = true) ↔ (a < n + 1 ∧ p a = true) := ⟨fun q => ⟨by omega, q.2⟩, fun q => ⟨by omega, q.2⟩⟩
      rw [e1]
      by_cases hc : a < n ∧ p a = true
      · rw [if_pos hc, if_pos (e2.mp hc)]
        omega
      · rw [if_neg hc, if_neg (fun q => hc (e2.mpr q))]
        omega
theorem tm_cq (p : Nat → Bool) (n : Nat) : ∀ l : List Nat, l.Nodup → (∀ x ∈ l, x < n) → (List.range n).countP (fun u => decide (u ∈ l) && p u) = l.countP p := by
  intro l
  induction l with
  | nil =>
    intro _ _
    rw [List.countP_nil]
    apply List.countP_eq_zero.mpr
    intro a _
    simp
  | cons a l ih =>
    intro hd hl
    obtain ⟨h1, h2⟩ := List.nodup_cons.mp hd
    rw [tm_cq_1 p h1, ih h2 (fun x hx => hl x (List.mem_cons_of_mem _ hx)), List.countP_cons]
    by_cases hp : p a = true
    · rw [if_pos ⟨hl a List.mem_cons_self, hp⟩, if_pos hp]
    · rw [if_neg (fun q => hp q.2), if_neg hp]
def tm_pc (σ : tm_S) (t r i : Nat) : Nat := (List.range i).countP (fun u => decide (σ.2.1 u = r + 2) && (decide (σ.1 (34 * u + r) ≠ 0) || decide (σ.1 (34 * t + r) = 0)))
theorem tm_pc_s (σ : tm_S) (t r i : Nat) : tm_pc σ t r (i + 1) = tm_pc σ t r i + (if σ.2.1 i = r + 2 ∧ (σ.1 (34 * i + r) ≠ 0 ∨ σ.1 (34 * t + r) = 0) then 1 else 0) := by
  unfold tm_pc
  rw [List.range_succ, List.countP_append, List.countP_singleton]
  by_cases h : σ.2.1 i = r + 2 ∧ (σ.1 (34 * i + r) ≠ 0 ∨ σ.1 (34 * t + r) = 0)
  · rw [if_pos h, if_pos (by rw [Bool.and_eq_true, Bool.or_eq_true, decide_eq_true_eq, decide_eq_true_eq, decide_eq_true_eq]; exact h)]
  · rw [if_neg h, if_neg (by rw [Bool.and_eq_true, Bool.or_eq_true, decide_eq_true_eq, decide_eq_true_eq, decide_eq_true_eq]; exact h)]
theorem tm_pc_le (σ : tm_S) (t r i : Nat) : tm_pc σ t r i ≤ i := by
  unfold tm_pc
  exact Nat.le_trans (List.countP_le_length) (by rw [List.length_range]; exact Nat.le_refl _)
theorem tm_pc_8 {σ : tm_S} (hK : tm_K σ) {t r : Nat} (hr : r < 34) : tm_pc σ t r 8 = tm_pl σ t r := by
  unfold tm_pl
  rw [← tm_cq _ 8 (σ.2.2.2 r) (hK.2 r hr).1 (fun x hx => (((hK.2 r hr).2 x).mp hx).1)]
  unfold tm_pc
  apply List.countP_congr
  intro u hu
  have h8 := List.mem_range.mp hu
  have e : decide (σ.2.1 u = r + 2) = decide (u ∈ σ.2.2.2 r) := by
    by_cases h : u ∈ σ.2.2.2 r
    · rw [decide_eq_true h, decide_eq_true (((hK.2 r hr).2 u).mp h).2]
    · rw [decide_eq_false h, decide_eq_false (fun q => h (((hK.2 r hr).2 u).mpr ⟨h8, q⟩))]
  rw [e]

theorem ta_pl (d : Nat) (t r : Nat) {σ : tm_S} (w : tl_W) (hK : tm_K σ) (hR : tm_RC w σ) (ht : t < 8) (hr : r < 34) : tl_Ev ta_P (d + 3) 39 [.inr 0, .inl ((t : Nat) : Int), .inl ((r : Nat) : Int)] w (.inl (some ((tm_pl σ t r : Nat) : Int))) w := by
  refine tl_start fun Q hQ => ?_
  refine tl_go 4 5 [(0, .inr 0), (1, .inl ((t : Nat) : Int)), (2, .inl ((r : Nat) : Int)), (3, .inl 0), (4, .inl 0)] [] w (fun _ h => h) ?_
  have loop : ∀ k i : Nat, i + k = 8 → tl_E ta_P (d + 2) 39 5 [(0, .inr 0), (1, .inl (t : Int)), (2, .inl (r : Int)), (3, .inl ((tm_pc σ t r i : Nat) : Int)), (4, .inl (i : Int))] [] w Q := by
    intro k
    induction k with
    | zero =>
      intro i hi
      refine tl_go 2 9 [(0, .inr 0), (1, .inl ((t : Nat) : Int)), (2, .inl ((r : Nat) : Int)), (3, .inl ((tm_pc σ t r i : Nat) : Int)), (4, .inl ((i : Nat) : Int))] [.inl 8, .inl ((i : Nat) : Int)] w (fun _ h => h) ?_
      refine tl_ift (8 ≤ ((i : Nat) : Int)) 50 12 [(0, .inr 0), (1, .inl ((t : Nat) : Int)), (2, .inl ((r : Nat) : Int)), (3, .inl ((tm_pc σ t r i : Nat) : Int)), (4, .inl ((i : Nat) : Int))] [] (fun _ h => h) (by omega) ?_
      refine tl_go 1 51 [(0, .inr 0), (1, .inl ((t : Nat) : Int)), (2, .inl ((r : Nat) : Int)), (3, .inl ((tm_pc σ t r i : Nat) : Int)), (4, .inl ((i : Nat) : Int))] [.inl ((tm_pc σ t r i : Nat) : Int)] w (fun _ h => h) ?_
      exact tl_reti rfl rfl (by rw [show i = 8 by omega, tm_pc_8 hK hr]) (hQ)
    | succ k ih =>
      intro i hi
      have hle := tm_pc_le σ t r i
      refine tl_go 2 9 [(0, .inr 0), (1, .inl ((t : Nat) : Int)), (2, .inl ((r : Nat) : Int)), (3, .inl ((tm_pc σ t r i : Nat) : Int)), (4, .inl ((i : Nat) : Int))] [.inl 8, .inl ((i : Nat) : Int)] w (fun _ h => h) ?_
      refine tl_iff (8 ≤ ((i : Nat) : Int)) 50 12 [(0, .inr 0), (1, .inl ((t : Nat) : Int)), (2, .inl ((r : Nat) : Int)), (3, .inl ((tm_pc σ t r i : Nat) : Int)), (4, .inl ((i : Nat) : Int))] [] (fun _ h => h) (by omega) ?_
      refine tl_go 2 15 [(0, .inr 0), (1, .inl ((t : Nat) : Int)), (2, .inl ((r : Nat) : Int)), (3, .inl ((tm_pc σ t r i : Nat) : Int)), (4, .inl ((i : Nat) : Int))] [.inl ((i : Nat) : Int), .inr 0] w (fun _ h => h) ?_
      refine tl_callV (as := [.inr 0, .inl ((i : Nat) : Int)]) (rest := []) (v := some (tm_aw (σ.2.1 i))) (w' := w) rfl rfl (ta_aw (d + 1) i (by omega) w (hR.2.1 i (by omega)).1 (hK.1 i (by omega))) (Nat.le_of_ble_eq_true rfl) rfl rfl rfl (Nat.le_of_ble_eq_true rfl) ?_
      refine tl_go 1 19 [(0, .inr 0), (1, .inl ((t : Nat) : Int)), (2, .inl ((r : Nat) : Int)), (3, .inl ((tm_pc σ t r i : Nat) : Int)), (4, .inl ((i : Nat) : Int))] [.inl ((r : Nat) : Int), .inl (tm_aw (σ.2.1 i))] w (fun _ h => h) ?_
      refine tl_if (¬ (tm_aw (σ.2.1 i)) = ((r : Nat) : Int)) 44 22 [(0, .inr 0), (1, .inl ((t : Nat) : Int)), (2, .inl ((r : Nat) : Int)), (3, .inl ((tm_pc σ t r i : Nat) : Int)), (4, .inl ((i : Nat) : Int))] [] (fun _ h => h) (fun hc => ?_) (fun hc => ?_)
      · have e1 : tm_pc σ t r (i + 1) = tm_pc σ t r i + 0 := by rw [tm_pc_s, if_neg (fun q => hc (tm_aw_eq.mpr q.1))]
        refine tl_go 2 5 [(0, .inr 0), (1, .inl ((t : Nat) : Int)), (2, .inl ((r : Nat) : Int)), (3, .inl ((tm_pc σ t r i : Nat) : Int)), (4, .inl (((i : Nat) : Int) + 1))] [] w (fun _ h => And.intro (by omega) h) ?_
        have h9 := ih (i + 1) (by omega)
        rw [e1] at h9
        exact h9
      · have hc := tm_aw_eq.mp (Classical.not_not.mp hc)
        refine tl_go 3 26 [(0, .inr 0), (1, .inl ((t : Nat) : Int)), (2, .inl ((r : Nat) : Int)), (3, .inl ((tm_pc σ t r i : Nat) : Int)), (4, .inl ((i : Nat) : Int))] [.inl ((r : Nat) : Int), .inl ((i : Nat) : Int), .inr 0] w (fun _ h => h) ?_
        refine tl_callV (as := [.inr 0, .inl ((i : Nat) : Int), .inl ((r : Nat) : Int)]) (rest := []) (v := some (tm_b (decide (σ.1 (34 * i + r) ≠ 0)))) (w' := w) rfl rfl (ta_ih d i r (by omega) hr w (hR.1 _ (by omega))) (Nat.le_of_ble_eq_true rfl) rfl rfl rfl (Nat.le_of_ble_eq_true rfl) ?_
        refine tl_if (¬ (tm_b (decide (σ.1 (34 * i + r) ≠ 0))) = 0) 41 32 [(0, .inr 0), (1, .inl ((t : Nat) : Int)), (2, .inl ((r : Nat) : Int)), (3, .inl ((tm_pc σ t r i : Nat) : Int)), (4, .inl ((i : Nat) : Int))] [] (fun _ h => h) (fun hg => ?_) (fun hg => ?_)
        · have hg := of_decide_eq_true (tm_bne hg)
          have e1 : tm_pc σ t r (i + 1) = tm_pc σ t r i + 1 := by rw [tm_pc_s, if_pos (⟨hc, Or.inl hg⟩)]
          refine tl_go 3 5 [(0, .inr 0), (1, .inl ((t : Nat) : Int)), (2, .inl ((r : Nat) : Int)), (3, .inl (((tm_pc σ t r i : Nat) : Int) + 1)), (4, .inl (((i : Nat) : Int) + 1))] [] w (fun _ h => And.intro (by omega) (And.intro (by omega) h)) ?_
          have h9 := ih (i + 1) (by omega)
          rw [e1] at h9
          exact h9
        · have hg := of_decide_eq_false (tm_beq (Classical.not_not.mp hg))
          refine tl_go 3 35 [(0, .inr 0), (1, .inl ((t : Nat) : Int)), (2, .inl ((r : Nat) : Int)), (3, .inl ((tm_pc σ t r i : Nat) : Int)), (4, .inl ((i : Nat) : Int))] [.inl ((r : Nat) : Int), .inl ((t : Nat) : Int), .inr 0] w (fun _ h => h) ?_
          refine tl_callV (as := [.inr 0, .inl ((t : Nat) : Int), .inl ((r : Nat) : Int)]) (rest := []) (v := some (tm_b (decide (σ.1 (34 * t + r) ≠ 0)))) (w' := w) rfl rfl (ta_ih d t r ht hr w (hR.1 _ (by omega))) (Nat.le_of_ble_eq_true rfl) rfl rfl rfl (Nat.le_of_ble_eq_true rfl) ?_
          refine tl_if (¬ (tm_b (decide (σ.1 (34 * t + r) ≠ 0))) = 0) 44 41 [(0, .inr 0), (1, .inl ((t : Nat) : Int)), (2, .inl ((r : Nat) : Int)), (3, .inl ((tm_pc σ t r i : Nat) : Int)), (4, .inl ((i : Nat) : Int))] [] (fun _ h => h) (fun hh => ?_) (fun hh => ?_)
          · have hh := of_decide_eq_true (tm_bne hh)
            have e1 : tm_pc σ t r (i + 1) = tm_pc σ t r i + 0 := by rw [tm_pc_s, if_neg (fun q => q.2.elim hg hh)]
            refine tl_go 2 5 [(0, .inr 0), (1, .inl ((t : Nat) : Int)), (2, .inl ((r : Nat) : Int)), (3, .inl ((tm_pc σ t r i : Nat) : Int)), (4, .inl (((i : Nat) : Int) + 1))] [] w (fun _ h => And.intro (by omega) h) ?_
            have h9 := ih (i + 1) (by omega)
            rw [e1] at h9
            exact h9
          · have hh := of_decide_eq_false (tm_beq (Classical.not_not.mp hh))
            have e1 : tm_pc σ t r (i + 1) = tm_pc σ t r i + 1 := by rw [tm_pc_s, if_pos (⟨hc, Or.inr (Classical.not_not.mp hh)⟩)]
            refine tl_go 3 5 [(0, .inr 0), (1, .inl ((t : Nat) : Int)), (2, .inl ((r : Nat) : Int)), (3, .inl (((tm_pc σ t r i : Nat) : Int) + 1)), (4, .inl (((i : Nat) : Int) + 1))] [] w (fun _ h => And.intro (by omega) (And.intro (by omega) h)) ?_
            have h9 := ih (i + 1) (by omega)
            rw [e1] at h9
            exact h9
  exact loop 8 0 rfl
def tm_en (σ : tm_S) (r t m p : Nat) : tm_S := (σ.1, va_up σ.2.1 t (r + 2), va_up σ.2.2.1 t m, va_up σ.2.2.2 r ((σ.2.2.2 r).take p ++ t :: (σ.2.2.2 r).drop p))
theorem tm_ins {l : List Nat} {p t : Nat} (hp : p ≤ l.length) (k : Nat) : (l.take p ++ t :: l.drop p)[k]? = if k < p then l[k]? else if k = p then some t else l[k - 1]? := by
  rw [List.getElem?_append, List.length_take, Nat.min_eq_left hp]
  by_cases h : k < p
  · rw [if_pos h, if_pos h, List.getElem?_take_of_lt h]
  · rw [if_neg h, if_neg h]
    by_cases h2 : k = p
    · rw [if_pos h2, h2, Nat.sub_self]; rfl
    · rw [if_neg h2]
      obtain ⟨n, rfl⟩ : ∃ n, k = p + 1 + n := ⟨k - p - 1, by omega⟩
      rw [show p + 1 + n - p = n + 1 by omega, List.getElem?_cons_succ, List.getElem?_drop, show p + 1 + n - 1 = p + n by omega]
theorem tm_pl_le (σ : tm_S) (t r : Nat) : tm_pl σ t r ≤ (σ.2.2.2 r).length := List.countP_le_length
theorem tm_en_RC {w : tl_W} {σ : tm_S} (hK : tm_K σ) (hR : tm_RC w σ) {r t m p : Nat} (hr : r < 34) (ht : t < 8) (hs : σ.2.1 t < 2) (hp : p ≤ (σ.2.2.2 r).length) : tm_RC (tl_set (tl_set (tl_set (tm_shf w σ.2.1 r (p : Int) 1 8) 1 t ((r + 2 : Nat) : Int)) 2 t (m : Int)) 3 t (p : Int)) (tm_en σ r t m p) := by
  refine ⟨fun i hi => ?_, fun u hu => ⟨?_, ?_⟩, fun r' hr' k' t' hk' => ?_, fun j hj => ?_⟩
  · rw [tl_set_o (by decide), tl_set_o (by decide), tl_set_o (by decide), tm_shf_n (by decide)]; exact hR.1 i hi
  · rw [tl_set_o (by decide), tl_set_o (by decide), tl_set_s, tm_shf_n (by decide)]
    show va_up (w 1) t _ u = ((va_up σ.2.1 t (r + 2) u : Nat) : Int)
    by_cases e : u = t
    · rw [e, va_up_s, va_up_s]
    · rw [va_up_n _ _ e, va_up_n _ _ e]; exact (hR.2.1 u hu).1
  · rw [tl_set_o (by decide), tl_set_s, tl_set_o (by decide), tm_shf_n (by decide)]
    show va_up (w 2) t _ u = ((va_up σ.2.2.1 t m u : Nat) : Int)
    by_cases e : u = t
    · rw [e, va_up_s, va_up_s]
    · rw [va_up_n _ _ e, va_up_n _ _ e]; exact (hR.2.1 u hu).2
  · have hk' : (va_up σ.2.2.2 r ((σ.2.2.2 r).take p ++ t :: (σ.2.2.2 r).drop p) r')[k']? = some t' := hk'
    rw [tl_set_s, tl_set_o (by decide), tl_set_o (by decide)]
    have key : ∀ k9 : Nat, (σ.2.2.2 r')[k9]? = some t' → t' ≠ t ∧ t' < 8 ∧ σ.2.1 t' = r' + 2 ∧ w 3 t' = (k9 : Int) := fun k9 h9 => by
      obtain ⟨_, ht', hs'⟩ := tm_K_lt hK hr' h9
      exact ⟨fun e => by rw [e] at hs'; omega, ht', hs', hR.2.2.1 r' hr' k9 t' h9⟩
    by_cases er : r' = r
    · subst er
      rw [va_up_s, tm_ins hp] at hk'
      by_cases h1 : k' < p
      · rw [if_pos h1] at hk'
        obtain ⟨hne, ht', hs', e3⟩ := key k' hk'
        rw [va_up_n _ _ hne, tm_shf_3, if_neg (fun q => by have := q.2.2; omega)]
        exact e3
      · rw [if_neg h1] at hk'
        by_cases h2 : k' = p
        · rw [if_pos h2] at hk'
          cases hk'
          rw [va_up_s, h2]
        · rw [if_neg h2] at hk'
          obtain ⟨hne, ht', hs', e3⟩ := key (k' - 1) hk'
          rw [va_up_n _ _ hne, tm_shf_3, if_pos ⟨ht', hs', by omega⟩]
          omega
    · rw [va_up_n _ _ er] at hk'
      obtain ⟨hne, ht', hs', e3⟩ := key k' hk'
      rw [va_up_n _ _ hne, tm_shf_3, if_neg (fun q => by have := q.2.1; omega)]
      exact e3
  · rw [tl_set_o (by decide), tl_set_o (by decide), tl_set_o (by decide), tm_shf_n (by decide)]; exact hR.2.2.2 j hj

theorem ta_en (d : Nat) {r t : Nat} (m : Nat) {σ : tm_S} (w : tl_W) (hK : tm_K σ) (hR : tm_RC w σ) (hr : r < 34) (ht : t < 8) : tl_Ev ta_P (d + 4) 37 [.inr 0, .inl ((t : Nat) : Int), .inl ((r : Nat) : Int), .inl ((m : Nat) : Int)] w (.inl (none)) (tl_set (tl_set (tl_set (tm_shf w σ.2.1 r ((tm_pl σ t r : Nat) : Int) 1 8) 1 t ((r + 2 : Nat) : Int)) 2 t (m : Int)) 3 t ((tm_pl σ t r : Nat) : Int)) := by
  refine tl_start fun Q hQ => ?_
  have hlen := tm_K_len hK hr
  have hple := tm_pl_le σ t r
  refine tl_go 3 3 [(0, .inr 0), (1, .inl ((t : Nat) : Int)), (2, .inl ((r : Nat) : Int)), (3, .inl ((m : Nat) : Int))] [.inl ((r : Nat) : Int), .inl ((t : Nat) : Int), .inr 0] w (fun _ h => h) ?_
  refine tl_callV (as := [.inr 0, .inl ((t : Nat) : Int), .inl ((r : Nat) : Int)]) (rest := []) (v := some ((tm_pl σ t r : Nat) : Int)) (w' := w) rfl rfl (ta_pl d t r w hK hR ht hr) (Nat.le_of_ble_eq_true rfl) rfl rfl rfl (Nat.le_of_ble_eq_true rfl) ?_
  refine tl_go 5 13 [(0, .inr 0), (1, .inl ((t : Nat) : Int)), (2, .inl ((r : Nat) : Int)), (3, .inl ((m : Nat) : Int)), (4, .inl ((tm_pl σ t r : Nat) : Int))] [.inl 1, .inl ((tm_pl σ t r : Nat) : Int), .inl ((r : Nat) : Int), .inr 0] w (fun _ h => h) ?_
  refine tl_callV (as := [.inr 0, .inl ((r : Nat) : Int), .inl ((tm_pl σ t r : Nat) : Int), .inl 1]) (rest := []) (v := none) (w' := (tm_shf w σ.2.1 r ((tm_pl σ t r : Nat) : Int) 1 8)) rfl rfl (ta_shf (d + 1) r ((tm_pl σ t r : Nat) : Int) 1 (S := σ.2.1) w (fun u hu => (hR.2.1 u hu).1) hK.1 ?_ (by omega)) (Nat.le_of_ble_eq_true rfl) rfl rfl rfl (Nat.le_of_ble_eq_true rfl) ?_
  · intro u hu hs
    obtain ⟨k9, hk9⟩ := List.getElem?_of_mem (((hK.2 r hr).2 u).mpr ⟨hu, hs⟩)
    have h8 := tm_K_lt hK hr hk9
    rw [hR.2.2.1 r hr k9 u hk9]
    omega
  refine tl_go 6 24 [(0, .inr 0), (1, .inl ((t : Nat) : Int)), (2, .inl ((r : Nat) : Int)), (3, .inl ((m : Nat) : Int)), (4, .inl ((tm_pl σ t r : Nat) : Int))] [.inl (2 + ((r : Nat) : Int)), .inl ((t : Nat) : Int), .inr 2] (tm_shf w σ.2.1 r ((tm_pl σ t r : Nat) : Int) 1 8) (fun _ h => And.intro rfl (And.intro (by decide) (And.intro (by omega) h))) ?_
  refine tl_top (y := ((r + 2 : Nat) : Int)) (by omega) ?_
  refine tl_ast (t) 8 (k := 1) rfl (by decide) (by omega) rfl (by omega) ?_
  refine tl_go 4 31 [(0, .inr 0), (1, .inl ((t : Nat) : Int)), (2, .inl ((r : Nat) : Int)), (3, .inl ((m : Nat) : Int)), (4, .inl ((tm_pl σ t r : Nat) : Int))] [.inl ((m : Nat) : Int), .inl ((t : Nat) : Int), .inr 3] (tl_set (tm_shf w σ.2.1 r ((tm_pl σ t r : Nat) : Int) 1 8) 1 (t) ((r + 2 : Nat) : Int)) (fun _ h => And.intro rfl (And.intro (by decide) (h))) ?_
  refine tl_ast (t) 8 (k := 2) rfl (by decide) (by omega) rfl (by omega) ?_
  refine tl_go 4 39 [(0, .inr 0), (1, .inl ((t : Nat) : Int)), (2, .inl ((r : Nat) : Int)), (3, .inl ((m : Nat) : Int)), (4, .inl ((tm_pl σ t r : Nat) : Int))] [.inl ((tm_pl σ t r : Nat) : Int), .inl ((t : Nat) : Int), .inr 4] (tl_set (tl_set (tm_shf w σ.2.1 r ((tm_pl σ t r : Nat) : Int) 1 8) 1 (t) ((r + 2 : Nat) : Int)) 2 (t) ((m : Nat) : Int)) (fun _ h => And.intro rfl (And.intro (by decide) (h))) ?_
  refine tl_ast (t) 8 (k := 3) rfl (by decide) (by omega) rfl (by omega) ?_
  exact tl_retv rfl rfl (hQ)
