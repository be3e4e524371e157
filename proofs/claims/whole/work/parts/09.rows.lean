/-! 09.rows: more rows of the small machine -/
section TLR2
variable {P : tl_P} {d j pc : Nat} {L : tl_L} {st : List tl_V} {w : tl_W} {Q : tl_Q}
theorem tl_ift (c : Prop) (pt pf : Nat) (L' : tl_L) (st' : List tl_V) (h : ∀ n, tl_br c (tl_wp P (tl_C P d) j Q n pt L' st' w) (tl_wp P (tl_C P d) j Q n pf L' st' w) → tl_wp P (tl_C P d) j Q (n + 1) pc L st w) (hc : c) (kt : tl_E P d j pt L' st' w Q) : tl_E P d j pc L st w Q :=
  tl_if c pt pf L' st' h (fun _ => kt) (fun q => absurd hc q)
theorem tl_iff (c : Prop) (pt pf : Nat) (L' : tl_L) (st' : List tl_V) (h : ∀ n, tl_br c (tl_wp P (tl_C P d) j Q n pt L' st' w) (tl_wp P (tl_C P d) j Q n pf L' st' w) → tl_wp P (tl_C P d) j Q (n + 1) pc L st w) (hc : ¬ c) (kf : tl_E P d j pf L' st' w Q) : tl_E P d j pc L st w Q :=
  tl_if c pt pf L' st' h (fun q => absurd q hc) (fun _ => kf)
theorem tl_reti {x y : Int} (hc : tl_at (P.1 j).1 pc = some .ireturn) (hr : (P.1 j).2.2 = some .int) (hx : x = y) (hQ : Q (.inl (some y)) w) : tl_E P d j pc L [.inl x] w Q := by
  subst hx
  refine tl_one hc ⟨0, rfl, ?_, hQ⟩
  rw [hr]
  exact Or.inl rfl
theorem tl_retz {x y : Int} (hc : tl_at (P.1 j).1 pc = some .ireturn) (hr : (P.1 j).2.2 = some .boolean) (hx : x = y ∧ (y = 0 ∨ y = 1)) (hQ : Q (.inl (some y)) w) : tl_E P d j pc L [.inl x] w Q := by
  obtain ⟨hx, hy⟩ := hx
  subst hx
  refine tl_one hc ⟨0, rfl, ?_, hQ⟩
  rw [hr]
  exact Or.inr ⟨hy, rfl⟩
theorem tl_retv (hc : tl_at (P.1 j).1 pc = some .return_) (hr : (P.1 j).2.2 = none) (hQ : Q (.inl none) w) : tl_E P d j pc L [] w Q :=
  tl_one hc ⟨0, rfl, hr, hQ⟩
theorem tl_thr {ix k : Nat} (hc : tl_at (P.1 j).1 pc = some (.new ix)) (hk : P.2.2.2.2 ix = some k) (hQ : Q (.inr k) w) : tl_E P d j pc L [] w Q := by
  refine tl_one hc ⟨0, rfl, ?_⟩
  show tl_some (P.2.2.2.2 ix) _
  rw [hk]
  exact hQ
theorem tl_and2 {x y : Int} {r : List tl_V} (a b : Nat) (hc : tl_at (P.1 j).1 pc = some .iand) (hx : x = a) (hy : y = b) (kk : tl_E P d j (pc + 1) L (.inl ((a &&& b : Nat) : Int) :: r) w Q) : tl_E P d j pc L (.inl y :: .inl x :: r) w Q := by
  obtain ⟨m, hm⟩ := kk
  exact tl_one hc ⟨m, a, b, hx, hy, hm⟩
theorem tl_or2 {x y : Int} {r : List tl_V} (a b : Nat) (hc : tl_at (P.1 j).1 pc = some .ior) (hx : x = a) (hy : y = b) (kk : tl_E P d j (pc + 1) L (.inl ((a ||| b : Nat) : Int) :: r) w Q) : tl_E P d j pc L (.inl y :: .inl x :: r) w Q := by
  obtain ⟨m, hm⟩ := kk
  exact tl_one hc ⟨m, a, b, hx, hy, hm⟩
theorem tl_div2 {x y : Int} {r : List tl_V} (a b : Nat) (hc : tl_at (P.1 j).1 pc = some .idiv) (hx : x = a) (hy : y = b) (h0 : 0 < b) (kk : tl_E P d j (pc + 1) L (.inl ((a / b : Nat) : Int) :: r) w Q) : tl_E P d j pc L (.inl y :: .inl x :: r) w Q := by
  obtain ⟨m, hm⟩ := kk
  exact tl_one hc ⟨m, a, b, hx, hy, h0, hm⟩
theorem tl_shl2 {x y : Int} {r : List tl_V} (a b : Nat) (hc : tl_at (P.1 j).1 pc = some .ishl) (hx : x = a) (hy : y = b) (h0 : b < 32) (h1 : a * 2 ^ b < 2147483648) (kk : tl_E P d j (pc + 1) L (.inl ((a * 2 ^ b : Nat) : Int) :: r) w Q) : tl_E P d j pc L (.inl y :: .inl x :: r) w Q := by
  obtain ⟨m, hm⟩ := kk
  exact tl_one hc ⟨m, a, b, hx, hy, h0, h1, hm⟩
theorem tl_shr2 {x y : Int} {r : List tl_V} (a b : Nat) (hc : tl_at (P.1 j).1 pc = some .ishr) (hx : x = a) (hy : y = b) (h0 : b < 32) (kk : tl_E P d j (pc + 1) L (.inl ((a / 2 ^ b : Nat) : Int) :: r) w Q) : tl_E P d j pc L (.inl y :: .inl x :: r) w Q := by
  obtain ⟨m, hm⟩ := kk
  exact tl_one hc ⟨m, a, b, hx, hy, h0, hm⟩
theorem tm_b01 (b : Bool) : tm_b b = 0 ∨ tm_b b = 1 := by cases b; exact Or.inl rfl; exact Or.inr rfl
/-- a truth value as its number -/
theorem tm_b1 {b : Bool} (h : b = true) : (1 : Int) = tm_b b ∧ (tm_b b = 0 ∨ tm_b b = 1) := ⟨by rw [h]; rfl, tm_b01 b⟩
theorem tm_b0 {b : Bool} (h : b = false) : (0 : Int) = tm_b b ∧ (tm_b b = 0 ∨ tm_b b = 1) := ⟨by rw [h]; rfl, tm_b01 b⟩
theorem tm_bne {b : Bool} (h : ¬ tm_b b = 0) : b = true := by cases b; exact absurd rfl h; rfl
theorem tm_beq {b : Bool} (h : tm_b b = 0) : b = false := by cases b; rfl; cases h
end TLR2
