/-! 13.det: the small machine has one end: what a call does can be named, printed by gen13.py -/
set_option maxHeartbeats 4000000 in
set_option maxRecDepth 100000 in
theorem tl_wp_det {P : tl_P} {C : Nat → List tl_V → tl_W → tl_Q → Prop} {j : Nat} (hC : ∀ (j' : Nat) (as : List tl_V) (w : tl_W) (Q : tl_Q), C j' as w Q → ∃ r w', Q r w' ∧ ∀ Q' : tl_Q, Q' r w' → C j' as w Q') :
    ∀ (n pc : Nat) (L : tl_L) (st : List tl_V) (w : tl_W) (Q : tl_Q), tl_wp P C j Q n pc L st w → ∃ r w', Q r w' ∧ ∀ Q' : tl_Q, Q' r w' → tl_wp P C j Q' n pc L st w := by
  intro n
  induction n with
  | zero => intro pc L st w Q h; exact h.elim
  | succ n ih =>
    intro pc L st w Q h
    obtain ⟨i, hi, h⟩ := tl_some_s h
    have mk : ∀ Q' : tl_Q, tl_w P j C (tl_wp P C j Q' n) Q' i pc L st w → tl_wp P C j Q' (n + 1) pc L st w := fun Q' h' => by
      show tl_some (tl_at (P.1 j).1 pc) _
      rw [hi]
      exact h'
    cases i with
    | iconst k =>
      obtain ⟨r0, w0, hq, hd⟩ := ih _ _ _ _ _ h
      exact ⟨r0, w0, hq, fun Q' hq' => mk Q' (hd Q' hq')⟩
    | bipush k =>
      obtain ⟨r0, w0, hq, hd⟩ := ih _ _ _ _ _ h
      exact ⟨r0, w0, hq, fun Q' hq' => mk Q' (hd Q' hq')⟩
    | sipush k =>
      obtain ⟨r0, w0, hq, hd⟩ := ih _ _ _ _ _ h
      exact ⟨r0, w0, hq, fun Q' hq' => mk Q' (hd Q' hq')⟩
    | goto off =>
      obtain ⟨r0, w0, hq, hd⟩ := ih _ _ _ _ _ h
      exact ⟨r0, w0, hq, fun Q' hq' => mk Q' (hd Q' hq')⟩
    | iload_n k =>
      obtain ⟨x, hg, h⟩ := tl_ldi_s h
      obtain ⟨r0, w0, hq, hd⟩ := ih _ _ _ _ _ h
      exact ⟨r0, w0, hq, fun Q' hq' => mk Q' (by show tl_ldi _ _; rw [hg]; exact hd Q' hq')⟩
    | iload k =>
      obtain ⟨x, hg, h⟩ := tl_ldi_s h
      obtain ⟨r0, w0, hq, hd⟩ := ih _ _ _ _ _ h
      exact ⟨r0, w0, hq, fun Q' hq' => mk Q' (by show tl_ldi _ _; rw [hg]; exact hd Q' hq')⟩
    | aload_n k =>
      obtain ⟨x, hg, h⟩ := tl_lda_s h
      obtain ⟨r0, w0, hq, hd⟩ := ih _ _ _ _ _ h
      exact ⟨r0, w0, hq, fun Q' hq' => mk Q' (by show tl_lda _ _; rw [hg]; exact hd Q' hq')⟩
    | iinc k a =>
      obtain ⟨x, hg, hr, h⟩ := tl_ldi_s h
      obtain ⟨r0, w0, hq, hd⟩ := ih _ _ _ _ _ h
      exact ⟨r0, w0, hq, fun Q' hq' => mk Q' (by show tl_ldi _ _; rw [hg]; exact ⟨hr, hd Q' hq'⟩)⟩
    | istore_n k =>
      obtain ⟨x, r, rfl, h⟩ := tl_st1_s h
      obtain ⟨r0, w0, hq, hd⟩ := ih _ _ _ _ _ h
      exact ⟨r0, w0, hq, fun Q' hq' => mk Q' (hd Q' hq')⟩
    | istore k =>
      obtain ⟨x, r, rfl, h⟩ := tl_st1_s h
      obtain ⟨r0, w0, hq, hd⟩ := ih _ _ _ _ _ h
      exact ⟨r0, w0, hq, fun Q' hq' => mk Q' (hd Q' hq')⟩
    | iadd =>
      obtain ⟨x, y, r, rfl, hr, h⟩ := tl_st2_s h
      obtain ⟨r0, w0, hq, hd⟩ := ih _ _ _ _ _ h
      exact ⟨r0, w0, hq, fun Q' hq' => mk Q' (⟨hr, hd Q' hq'⟩)⟩
    | isub =>
      obtain ⟨x, y, r, rfl, hr, h⟩ := tl_st2_s h
      obtain ⟨r0, w0, hq, hd⟩ := ih _ _ _ _ _ h
      exact ⟨r0, w0, hq, fun Q' hq' => mk Q' (⟨hr, hd Q' hq'⟩)⟩
    | imul =>
      obtain ⟨x, y, r, rfl, hr, h⟩ := tl_st2_s h
      obtain ⟨r0, w0, hq, hd⟩ := ih _ _ _ _ _ h
      exact ⟨r0, w0, hq, fun Q' hq' => mk Q' (⟨hr, hd Q' hq'⟩)⟩
    | iand =>
      obtain ⟨x, y, r, rfl, a, b, hx, hy, h'⟩ := tl_st2_s h
      obtain ⟨r0, w0, hq, hd⟩ := ih _ _ _ _ _ h'
      exact ⟨r0, w0, hq, fun Q' hq' => mk Q' ⟨a, b, hx, hy, hd Q' hq'⟩⟩
    | ior =>
      obtain ⟨x, y, r, rfl, a, b, hx, hy, h'⟩ := tl_st2_s h
      obtain ⟨r0, w0, hq, hd⟩ := ih _ _ _ _ _ h'
      exact ⟨r0, w0, hq, fun Q' hq' => mk Q' ⟨a, b, hx, hy, hd Q' hq'⟩⟩
    | idiv =>
      obtain ⟨x, y, r, rfl, a, b, hx, hy, h0, h'⟩ := tl_st2_s h
      obtain ⟨r0, w0, hq, hd⟩ := ih _ _ _ _ _ h'
      exact ⟨r0, w0, hq, fun Q' hq' => mk Q' ⟨a, b, hx, hy, h0, hd Q' hq'⟩⟩
    | ishl =>
      obtain ⟨x, y, r, rfl, a, b, hx, hy, h0, h1, h'⟩ := tl_st2_s h
      obtain ⟨r0, w0, hq, hd⟩ := ih _ _ _ _ _ h'
      exact ⟨r0, w0, hq, fun Q' hq' => mk Q' ⟨a, b, hx, hy, h0, h1, hd Q' hq'⟩⟩
    | ishr =>
      obtain ⟨x, y, r, rfl, a, b, hx, hy, h0, h'⟩ := tl_st2_s h
      obtain ⟨r0, w0, hq, hd⟩ := ih _ _ _ _ _ h'
      exact ⟨r0, w0, hq, fun Q' hq' => mk Q' ⟨a, b, hx, hy, h0, hd Q' hq'⟩⟩
    | dup =>
      obtain ⟨v, r, rfl, h⟩ := tl_any1_s h
      obtain ⟨r0, w0, hq, hd⟩ := ih _ _ _ _ _ h
      exact ⟨r0, w0, hq, fun Q' hq' => mk Q' (hd Q' hq')⟩
    | pop =>
      obtain ⟨v, r, rfl, h⟩ := tl_any1_s h
      obtain ⟨r0, w0, hq, hd⟩ := ih _ _ _ _ _ h
      exact ⟨r0, w0, hq, fun Q' hq' => mk Q' (hd Q' hq')⟩
    | dup2 =>
      obtain ⟨a, r, rfl, h1⟩ := tl_any1_s h
      obtain ⟨b, r', rfl, h2⟩ := tl_any1_s h1
      obtain ⟨r0, w0, hq, hd⟩ := ih _ _ _ _ _ h2
      exact ⟨r0, w0, hq, fun Q' hq' => mk Q' (hd Q' hq')⟩
    | ifCond cd off =>
      cases cd with
      | eq =>
        obtain ⟨x, r, rfl, h⟩ := tl_st1_s h
        by_cases hc : x = 0
        · obtain ⟨r0, w0, hq, hd⟩ := ih _ _ _ _ _ (h.1 hc)
          exact ⟨r0, w0, hq, fun Q' hq' => mk Q' ⟨fun _ => hd Q' hq', fun q => absurd hc q⟩⟩
        · obtain ⟨r0, w0, hq, hd⟩ := ih _ _ _ _ _ (h.2 hc)
          exact ⟨r0, w0, hq, fun Q' hq' => mk Q' ⟨fun q => absurd q hc, fun _ => hd Q' hq'⟩⟩
      | ne =>
        obtain ⟨x, r, rfl, h⟩ := tl_st1_s h
        by_cases hc : ¬ x = 0
        · obtain ⟨r0, w0, hq, hd⟩ := ih _ _ _ _ _ (h.1 hc)
          exact ⟨r0, w0, hq, fun Q' hq' => mk Q' ⟨fun _ => hd Q' hq', fun q => absurd hc q⟩⟩
        · obtain ⟨r0, w0, hq, hd⟩ := ih _ _ _ _ _ (h.2 hc)
          exact ⟨r0, w0, hq, fun Q' hq' => mk Q' ⟨fun q => absurd q hc, fun _ => hd Q' hq'⟩⟩
      | lt =>
        obtain ⟨x, r, rfl, h⟩ := tl_st1_s h
        by_cases hc : x < 0
        · obtain ⟨r0, w0, hq, hd⟩ := ih _ _ _ _ _ (h.1 hc)
          exact ⟨r0, w0, hq, fun Q' hq' => mk Q' ⟨fun _ => hd Q' hq', fun q => absurd hc q⟩⟩
        · obtain ⟨r0, w0, hq, hd⟩ := ih _ _ _ _ _ (h.2 hc)
          exact ⟨r0, w0, hq, fun Q' hq' => mk Q' ⟨fun q => absurd q hc, fun _ => hd Q' hq'⟩⟩
      | ge =>
        obtain ⟨x, r, rfl, h⟩ := tl_st1_s h
        by_cases hc : 0 ≤ x
        · obtain ⟨r0, w0, hq, hd⟩ := ih _ _ _ _ _ (h.1 hc)
          exact ⟨r0, w0, hq, fun Q' hq' => mk Q' ⟨fun _ => hd Q' hq', fun q => absurd hc q⟩⟩
        · obtain ⟨r0, w0, hq, hd⟩ := ih _ _ _ _ _ (h.2 hc)
          exact ⟨r0, w0, hq, fun Q' hq' => mk Q' ⟨fun q => absurd q hc, fun _ => hd Q' hq'⟩⟩
      | gt =>
        obtain ⟨x, r, rfl, h⟩ := tl_st1_s h
        by_cases hc : 0 < x
        · obtain ⟨r0, w0, hq, hd⟩ := ih _ _ _ _ _ (h.1 hc)
          exact ⟨r0, w0, hq, fun Q' hq' => mk Q' ⟨fun _ => hd Q' hq', fun q => absurd hc q⟩⟩
        · obtain ⟨r0, w0, hq, hd⟩ := ih _ _ _ _ _ (h.2 hc)
          exact ⟨r0, w0, hq, fun Q' hq' => mk Q' ⟨fun q => absurd q hc, fun _ => hd Q' hq'⟩⟩
      | le =>
        obtain ⟨x, r, rfl, h⟩ := tl_st1_s h
        by_cases hc : x ≤ 0
        · obtain ⟨r0, w0, hq, hd⟩ := ih _ _ _ _ _ (h.1 hc)
          exact ⟨r0, w0, hq, fun Q' hq' => mk Q' ⟨fun _ => hd Q' hq', fun q => absurd hc q⟩⟩
        · obtain ⟨r0, w0, hq, hd⟩ := ih _ _ _ _ _ (h.2 hc)
          exact ⟨r0, w0, hq, fun Q' hq' => mk Q' ⟨fun q => absurd q hc, fun _ => hd Q' hq'⟩⟩
    | if_icmp cd off =>
      cases cd with
      | eq =>
        obtain ⟨x, y, r, rfl, h⟩ := tl_st2_s h
        by_cases hc : x = y
        · obtain ⟨r0, w0, hq, hd⟩ := ih _ _ _ _ _ (h.1 hc)
          exact ⟨r0, w0, hq, fun Q' hq' => mk Q' ⟨fun _ => hd Q' hq', fun q => absurd hc q⟩⟩
        · obtain ⟨r0, w0, hq, hd⟩ := ih _ _ _ _ _ (h.2 hc)
          exact ⟨r0, w0, hq, fun Q' hq' => mk Q' ⟨fun q => absurd q hc, fun _ => hd Q' hq'⟩⟩
      | ne =>
        obtain ⟨x, y, r, rfl, h⟩ := tl_st2_s h
        by_cases hc : ¬ x = y
        · obtain ⟨r0, w0, hq, hd⟩ := ih _ _ _ _ _ (h.1 hc)
          exact ⟨r0, w0, hq, fun Q' hq' => mk Q' ⟨fun _ => hd Q' hq', fun q => absurd hc q⟩⟩
        · obtain ⟨r0, w0, hq, hd⟩ := ih _ _ _ _ _ (h.2 hc)
          exact ⟨r0, w0, hq, fun Q' hq' => mk Q' ⟨fun q => absurd q hc, fun _ => hd Q' hq'⟩⟩
      | lt =>
        obtain ⟨x, y, r, rfl, h⟩ := tl_st2_s h
        by_cases hc : x < y
        · obtain ⟨r0, w0, hq, hd⟩ := ih _ _ _ _ _ (h.1 hc)
          exact ⟨r0, w0, hq, fun Q' hq' => mk Q' ⟨fun _ => hd Q' hq', fun q => absurd hc q⟩⟩
        · obtain ⟨r0, w0, hq, hd⟩ := ih _ _ _ _ _ (h.2 hc)
          exact ⟨r0, w0, hq, fun Q' hq' => mk Q' ⟨fun q => absurd q hc, fun _ => hd Q' hq'⟩⟩
      | ge =>
        obtain ⟨x, y, r, rfl, h⟩ := tl_st2_s h
        by_cases hc : y ≤ x
        · obtain ⟨r0, w0, hq, hd⟩ := ih _ _ _ _ _ (h.1 hc)
          exact ⟨r0, w0, hq, fun Q' hq' => mk Q' ⟨fun _ => hd Q' hq', fun q => absurd hc q⟩⟩
        · obtain ⟨r0, w0, hq, hd⟩ := ih _ _ _ _ _ (h.2 hc)
          exact ⟨r0, w0, hq, fun Q' hq' => mk Q' ⟨fun q => absurd q hc, fun _ => hd Q' hq'⟩⟩
      | gt =>
        obtain ⟨x, y, r, rfl, h⟩ := tl_st2_s h
        by_cases hc : y < x
        · obtain ⟨r0, w0, hq, hd⟩ := ih _ _ _ _ _ (h.1 hc)
          exact ⟨r0, w0, hq, fun Q' hq' => mk Q' ⟨fun _ => hd Q' hq', fun q => absurd hc q⟩⟩
        · obtain ⟨r0, w0, hq, hd⟩ := ih _ _ _ _ _ (h.2 hc)
          exact ⟨r0, w0, hq, fun Q' hq' => mk Q' ⟨fun q => absurd q hc, fun _ => hd Q' hq'⟩⟩
      | le =>
        obtain ⟨x, y, r, rfl, h⟩ := tl_st2_s h
        by_cases hc : x ≤ y
        · obtain ⟨r0, w0, hq, hd⟩ := ih _ _ _ _ _ (h.1 hc)
          exact ⟨r0, w0, hq, fun Q' hq' => mk Q' ⟨fun _ => hd Q' hq', fun q => absurd hc q⟩⟩
        · obtain ⟨r0, w0, hq, hd⟩ := ih _ _ _ _ _ (h.2 hc)
          exact ⟨r0, w0, hq, fun Q' hq' => mk Q' ⟨fun q => absurd q hc, fun _ => hd Q' hq'⟩⟩
    | getfield ix =>
      obtain ⟨a, r, rfl, h0, h1⟩ := tl_sta_s h
      obtain ⟨k, hk, h9, h2⟩ := tl_some_s h1
      cases hv : P.2.2.1 k with
      | some z =>
        rw [hv] at h2
        obtain ⟨r0, w0, hq, hd⟩ := ih _ _ _ _ _ h2
        refine ⟨r0, w0, hq, fun Q' hq' => mk Q' ⟨h0, ?_⟩⟩
        rw [hk]
        refine ⟨h9, ?_⟩
        rw [hv]
        exact hd Q' hq'
      | none =>
        rw [hv] at h2
        obtain ⟨r0, w0, hq, hd⟩ := ih _ _ _ _ _ h2
        refine ⟨r0, w0, hq, fun Q' hq' => mk Q' ⟨h0, ?_⟩⟩
        rw [hk]
        refine ⟨h9, ?_⟩
        rw [hv]
        exact hd Q' hq'
    | putfield ix =>
      obtain ⟨x, r, rfl, h1⟩ := tl_st1_s h
      obtain ⟨a, r', rfl, h0, h2⟩ := tl_sta_s h1
      obtain ⟨k, hk, h9, hv, h3⟩ := tl_some_s h2
      obtain ⟨r0, w0, hq, hd⟩ := ih _ _ _ _ _ h3
      refine ⟨r0, w0, hq, fun Q' hq' => mk Q' ⟨h0, ?_⟩⟩
      rw [hk]
      exact ⟨h9, hv, hd Q' hq'⟩
    | getstatic ix =>
      obtain ⟨hk, h⟩ := h
      obtain ⟨r0, w0, hq, hd⟩ := ih _ _ _ _ _ h
      exact ⟨r0, w0, hq, fun Q' hq' => mk Q' ⟨hk, hd Q' hq'⟩⟩
    | iaload =>
      obtain ⟨x, r, rfl, h1⟩ := tl_st1_s h
      obtain ⟨a, r', rfl, k, b, n', e1, e2, e3, e4, h2⟩ := tl_sta_s h1
      obtain ⟨r0, w0, hq, hd⟩ := ih _ _ _ _ _ h2
      exact ⟨r0, w0, hq, fun Q' hq' => mk Q' ⟨k, b, n', e1, e2, e3, e4, hd Q' hq'⟩⟩
    | iastore =>
      obtain ⟨x, y, r, rfl, h1⟩ := tl_st2_s h
      obtain ⟨a, r', rfl, k, b, n', e1, e2, e3, e4, e5, h2⟩ := tl_sta_s h1
      obtain ⟨r0, w0, hq, hd⟩ := ih _ _ _ _ _ h2
      exact ⟨r0, w0, hq, fun Q' hq' => mk Q' ⟨k, b, n', e1, e2, e3, e4, e5, hd Q' hq'⟩⟩
    | invokestatic ix =>
      obtain ⟨q, hq0, h1⟩ := tl_some_s h
      cases h0 : Nat.beq q.1 1000 with
      | true =>
        rw [h0] at h1
        obtain ⟨x, y, r, rfl, h8, h2⟩ := tl_st2_s h1
        obtain ⟨r0, w0, hq, hd⟩ := ih _ _ _ _ _ h2
        refine ⟨r0, w0, hq, fun Q' hq' => mk Q' ?_⟩
        show tl_some _ _
        rw [hq0]
        show bif Nat.beq q.1 1000 then _ else _
        rw [h0]
        exact ⟨h8, hd Q' hq'⟩
      | false =>
        rw [h0] at h1
        cases h9 : Nat.beq q.1 1001 with
        | true =>
          rw [h9] at h1
          obtain ⟨x, y, r, rfl, h8, h2⟩ := tl_st2_s h1
          obtain ⟨r0, w0, hq, hd⟩ := ih _ _ _ _ _ h2
          refine ⟨r0, w0, hq, fun Q' hq' => mk Q' ?_⟩
          show tl_some _ _
          rw [hq0]
          show bif Nat.beq q.1 1000 then _ else bif Nat.beq q.1 1001 then _ else _
          rw [h0, h9]
          exact ⟨h8, hd Q' hq'⟩
        | false =>
          rw [h9] at h1
          obtain ⟨hn, h8, h2⟩ := h1
          obtain ⟨r1, w1, g1, g2⟩ := hC _ _ _ _ h2
          have fin : ∀ Q' : tl_Q, tl_res (fun st' w' => tl_wp P C j Q' n (pc + 3) L st' w') (st.drop q.2) r1 w1 → tl_wp P C j Q' (n + 1) pc L st w := fun Q' h' => mk Q' (by
            show tl_some _ _
            rw [hq0]
            show bif Nat.beq q.1 1000 then _ else bif Nat.beq q.1 1001 then _ else _
            rw [h0, h9]
            exact ⟨hn, h8, g2 _ h'⟩)
          rcases r1 with (_ | x) | k
          · obtain ⟨r0, w0, hq, hd⟩ := ih _ _ _ _ _ g1
            exact ⟨r0, w0, hq, fun Q' hq' => fin Q' (hd Q' hq')⟩
          · obtain ⟨r0, w0, hq, hd⟩ := ih _ _ _ _ _ g1
            exact ⟨r0, w0, hq, fun Q' hq' => fin Q' (hd Q' hq')⟩
          · exact g1.elim
    | invokevirtual ix =>
      obtain ⟨q, hq0, hlast, hn, h8, h2⟩ := tl_some_s h
      obtain ⟨r1, w1, g1, g2⟩ := hC _ _ _ _ h2
      have fin : ∀ Q' : tl_Q, tl_res (fun st' w' => tl_wp P C j Q' n (pc + 3) L st' w') (st.drop q.2) r1 w1 → tl_wp P C j Q' (n + 1) pc L st w := fun Q' h' => mk Q' (by
        show tl_some _ _
        rw [hq0]
        exact ⟨hlast, hn, h8, g2 _ h'⟩)
      rcases r1 with (_ | x) | k
      · obtain ⟨r0, w0, hq, hd⟩ := ih _ _ _ _ _ g1
        exact ⟨r0, w0, hq, fun Q' hq' => fin Q' (hd Q' hq')⟩
      · obtain ⟨r0, w0, hq, hd⟩ := ih _ _ _ _ _ g1
        exact ⟨r0, w0, hq, fun Q' hq' => fin Q' (hd Q' hq')⟩
      · exact g1.elim
    | ireturn =>
      obtain ⟨x, r, rfl, hr, hty, h1⟩ := tl_st1_s h
      exact ⟨_, _, h1, fun Q' hq' => mk Q' ⟨hr, hty, hq'⟩⟩
    | return_ =>
      obtain ⟨hr, hty, h1⟩ := h
      exact ⟨_, _, h1, fun Q' hq' => mk Q' ⟨hr, hty, hq'⟩⟩
    | new ix =>
      obtain ⟨hr, h1⟩ := h
      obtain ⟨k, hk, h2⟩ := tl_some_s h1
      exact ⟨_, _, h2, fun Q' hq' => mk Q' ⟨hr, by rw [hk]; exact hq'⟩⟩
    | _ => exact h.elim
theorem tl_C_det {P : tl_P} : ∀ (d j : Nat) (as : List tl_V) (w : tl_W) (Q : tl_Q), tl_C P d j as w Q → ∃ r w', Q r w' ∧ tl_Ev P d j as w r w' := by
  intro d
  induction d with
  | zero => intro j as w Q h; exact h.elim
  | succ d ih =>
    intro j as w Q h
    obtain ⟨n, hn⟩ := h
    obtain ⟨r, w', hq, hd⟩ := tl_wp_det ih n 0 _ _ _ _ hn
    exact ⟨r, w', hq, fun Q' hq' => ⟨n, hd Q' hq'⟩⟩
/-- a call that ends with the answer v in some world of this kind -/
theorem tl_exi {P : tl_P} {d j : Nat} {as : List tl_V} {w : tl_W} {v : tl_R} {post : tl_W → Prop} (h : ∀ Q : tl_Q, (∀ w', post w' → Q v w') → tl_E P d j 0 (tl_en 0 as) [] w Q) : ∃ w', tl_Ev P (d + 1) j as w v w' ∧ post w' := by
  obtain ⟨r, w', ⟨h1, h2⟩, h3⟩ := tl_C_det (P := P) (d + 1) j as w (fun r w' => r = v ∧ post w') (h (fun r w' => r = v ∧ post w') (fun w' hp => ⟨rfl, hp⟩))
  subst h1
  exact ⟨w', h3, h2⟩
