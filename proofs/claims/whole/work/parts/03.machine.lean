/-! 02.machine: a small machine of our own over the class's fields (int fields and int arrays): its judgement, and rows to walk it -/
abbrev tl_V : Type := Int ⊕ Nat
abbrev tl_W : Type := Nat → Nat → Int
abbrev tl_R : Type := Option Int ⊕ Nat
abbrev tl_L : Type := List (Nat × tl_V)
abbrev tl_Q : Type := tl_R → tl_W → Prop
def tl_set (w : tl_W) (k j : Nat) (x : Int) : tl_W := fun a => if a = k then va_up (w k) j x else w a
/-- method number: rows, locals, type of the answer; pool number: field; field: length of its array; pool number: method and how many values it takes off the stack; pool number: kind of exception -/
abbrev tl_P : Type := (Nat → List (Nat × Instr) × Nat × Option FieldType) × (Nat → Option Nat) × (Nat → Option Nat) × (Nat → Option (Nat × Nat)) × (Nat → Option Nat)
def tl_at : List (Nat × Instr) → Nat → Option Instr
  | [], _ => none
  | q :: l, pc => bif Nat.beq q.1 pc then some q.2 else tl_at l pc
def tl_get : tl_L → Nat → Option tl_V
  | [], _ => none
  | q :: l, i => bif Nat.beq q.1 i then some q.2 else tl_get l i
def tl_put (L : tl_L) (i : Nat) (v : tl_V) : tl_L := bif L.any (fun q => Nat.beq q.1 i) then L.map (fun q => bif Nat.beq q.1 i then (i, v) else q) else L ++ [(i, v)]
def tl_lk : List (Nat × Nat) → Nat → Option Nat
  | [], _ => none
  | q :: l, i => bif Nat.beq q.1 i then some q.2 else tl_lk l i
def tl_lk2 : List (Nat × Nat × Nat) → Nat → Option (Nat × Nat)
  | [], _ => none
  | q :: l, i => bif Nat.beq q.1 i then some q.2 else tl_lk2 l i
def tl_to (pc : Nat) (off : Int) : Nat := ((pc : Int) + off).toNat
def tl_ldi (v : Option tl_V) (k : Int → Prop) : Prop := match v with
  | some (.inl x) => k x
  | _ => False
def tl_lda (v : Option tl_V) (k : Nat → Prop) : Prop := match v with
  | some (.inr a) => k a
  | _ => False
def tl_st1 (st : List tl_V) (k : Int → List tl_V → Prop) : Prop := match st with
  | .inl x :: r => k x r
  | _ => False
def tl_st2 (st : List tl_V) (k : Int → Int → List tl_V → Prop) : Prop := match st with
  | .inl y :: .inl x :: r => k x y r
  | _ => False
def tl_sta (st : List tl_V) (k : Nat → List tl_V → Prop) : Prop := match st with
  | .inr a :: r => k a r
  | _ => False
def tl_any1 (st : List tl_V) (k : tl_V → List tl_V → Prop) : Prop := match st with
  | v :: r => k v r
  | _ => False
def tl_some {α : Type} (x : Option α) (k : α → Prop) : Prop := match x with
  | some v => k v
  | none => False
def tl_br (c a b : Prop) : Prop := (c → a) ∧ (¬ c → b)
def tl_res (K : List tl_V → tl_W → Prop) (st : List tl_V) : tl_Q := fun r w => match r with
  | .inl (some x) => K (.inl x :: st) w
  | .inl none => K st w
  | .inr _ => False
def tl_cl (C : Nat → List tl_V → tl_W → tl_Q → Prop) (K : List tl_V → tl_W → Prop) (st : List tl_V) (j n : Nat) (w : tl_W) : Prop :=
  n ≤ st.length ∧ (st.drop n).length ≤ 8 ∧ C j (st.take n).reverse w (tl_res K (st.drop n))
def tl_w (P : tl_P) (j : Nat) (C : Nat → List tl_V → tl_W → tl_Q → Prop) (K : Nat → tl_L → List tl_V → tl_W → Prop) (Q : tl_Q) (i : Instr) (pc : Nat) (L : tl_L) (st : List tl_V) (w : tl_W) : Prop :=
  match i with
  | .iconst n => K (pc + 1) L (.inl (n) :: st) w
  | .bipush n => K (pc + 2) L (.inl (n) :: st) w
  | .sipush n => K (pc + 3) L (.inl (n) :: st) w
  | .iload_n k => tl_ldi (tl_get L k) (fun x => K (pc + 1) L (.inl x :: st) w)
  | .iload k => tl_ldi (tl_get L k) (fun x => K (pc + 2) L (.inl x :: st) w)
  | .aload_n k => tl_lda (tl_get L k) (fun a => K (pc + 1) L (.inr a :: st) w)
  | .istore_n k => tl_st1 st (fun x r => K (pc + 1) (tl_put L k (.inl x)) r w)
  | .istore k => tl_st1 st (fun x r => K (pc + 2) (tl_put L k (.inl x)) r w)
  | .iinc k n => tl_ldi (tl_get L k) (fun x => (-2147483648 ≤ x + n ∧ x + n < 2147483648) ∧ K (pc + 3) (tl_put L k (.inl (x + n))) st w)
  | .iadd => tl_st2 st (fun x y r => (-2147483648 ≤ x + y ∧ x + y < 2147483648) ∧ K (pc + 1) L (.inl (x + y) :: r) w)
  | .isub => tl_st2 st (fun x y r => (-2147483648 ≤ x - y ∧ x - y < 2147483648) ∧ K (pc + 1) L (.inl (x - y) :: r) w)
  | .imul => tl_st2 st (fun x y r => (-2147483648 ≤ x * y ∧ x * y < 2147483648) ∧ K (pc + 1) L (.inl (x * y) :: r) w)
  | .iand => tl_st2 st (fun x y r => ∃ a b : Nat, x = a ∧ y = b ∧ K (pc + 1) L (.inl ((a &&& b : Nat) : Int) :: r) w)
  | .ior => tl_st2 st (fun x y r => ∃ a b : Nat, x = a ∧ y = b ∧ K (pc + 1) L (.inl ((a ||| b : Nat) : Int) :: r) w)
  | .idiv => tl_st2 st (fun x y r => ∃ a b : Nat, x = a ∧ y = b ∧ 0 < b ∧ K (pc + 1) L (.inl ((a / b : Nat) : Int) :: r) w)
  | .ishl => tl_st2 st (fun x y r => ∃ a b : Nat, x = a ∧ y = b ∧ b < 32 ∧ a * 2 ^ b < 2147483648 ∧ K (pc + 1) L (.inl ((a * 2 ^ b : Nat) : Int) :: r) w)
  | .ishr => tl_st2 st (fun x y r => ∃ a b : Nat, x = a ∧ y = b ∧ b < 32 ∧ K (pc + 1) L (.inl ((a / 2 ^ b : Nat) : Int) :: r) w)
  | .dup => tl_any1 st (fun v r => K (pc + 1) L (v :: v :: r) w)
  | .dup2 => tl_any1 st (fun a r => tl_any1 r (fun b r' => K (pc + 1) L (a :: b :: a :: b :: r') w))
  | .pop => tl_any1 st (fun _ r => K (pc + 1) L r w)
  | .ifCond .eq off => tl_st1 st (fun x r => tl_br (x = 0) (K (tl_to pc off) L r w) (K (pc + 3) L r w))
  | .ifCond .ne off => tl_st1 st (fun x r => tl_br (¬ x = 0) (K (tl_to pc off) L r w) (K (pc + 3) L r w))
  | .ifCond .lt off => tl_st1 st (fun x r => tl_br (x < 0) (K (tl_to pc off) L r w) (K (pc + 3) L r w))
  | .ifCond .ge off => tl_st1 st (fun x r => tl_br (0 ≤ x) (K (tl_to pc off) L r w) (K (pc + 3) L r w))
  | .ifCond .gt off => tl_st1 st (fun x r => tl_br (0 < x) (K (tl_to pc off) L r w) (K (pc + 3) L r w))
  | .ifCond .le off => tl_st1 st (fun x r => tl_br (x ≤ 0) (K (tl_to pc off) L r w) (K (pc + 3) L r w))
  | .if_icmp .eq off => tl_st2 st (fun x y r => tl_br (x = y) (K (tl_to pc off) L r w) (K (pc + 3) L r w))
  | .if_icmp .ne off => tl_st2 st (fun x y r => tl_br (¬ x = y) (K (tl_to pc off) L r w) (K (pc + 3) L r w))
  | .if_icmp .lt off => tl_st2 st (fun x y r => tl_br (x < y) (K (tl_to pc off) L r w) (K (pc + 3) L r w))
  | .if_icmp .ge off => tl_st2 st (fun x y r => tl_br (y ≤ x) (K (tl_to pc off) L r w) (K (pc + 3) L r w))
  | .if_icmp .gt off => tl_st2 st (fun x y r => tl_br (y < x) (K (tl_to pc off) L r w) (K (pc + 3) L r w))
  | .if_icmp .le off => tl_st2 st (fun x y r => tl_br (x ≤ y) (K (tl_to pc off) L r w) (K (pc + 3) L r w))
  | .goto off => K (tl_to pc off) L st w
  | .getfield ix => tl_sta st (fun a r => a = 0 ∧ tl_some (P.2.1 ix) (fun k => k < 99 ∧ match P.2.2.1 k with
      | some _ => K (pc + 3) L (.inr (k + 1) :: r) w
      | none => K (pc + 3) L (.inl (w k 0) :: r) w))
  | .putfield ix => tl_st1 st (fun x r => tl_sta r (fun a r' => a = 0 ∧ tl_some (P.2.1 ix) (fun k => k < 99 ∧ P.2.2.1 k = none ∧ K (pc + 3) L r' (tl_set w k 0 x))))
  | .getstatic ix => P.2.1 ix = some 99 ∧ K (pc + 3) L (.inr 100 :: st) w
  | .iaload => tl_st1 st (fun x r => tl_sta r (fun a r' => ∃ k b n : Nat, a = k + 1 ∧ x = (b : Int) ∧ P.2.2.1 k = some n ∧ b < n ∧ K (pc + 1) L (.inl (w k b) :: r') w))
  | .iastore => tl_st2 st (fun i x r => tl_sta r (fun a r' => ∃ k b n : Nat, a = k + 1 ∧ k ≠ 99 ∧ i = (b : Int) ∧ P.2.2.1 k = some n ∧ b < n ∧ K (pc + 1) L r' (tl_set w k b x)))
  | .invokestatic ix => tl_some (P.2.2.2.1 ix) (fun q => bif Nat.beq q.1 1000 then tl_st2 st (fun x y r => r.length ≤ 8 ∧ K (pc + 3) L (.inl (max x y) :: r) w)
      else bif Nat.beq q.1 1001 then tl_st2 st (fun x y r => r.length ≤ 8 ∧ K (pc + 3) L (.inl (min x y) :: r) w)
      else tl_cl C (fun st' w' => K (pc + 3) L st' w') st q.1 q.2 w)
  | .invokevirtual ix => tl_some (P.2.2.2.1 ix) (fun q => (st.take q.2).getLast? = some (.inr 0) ∧ tl_cl C (fun st' w' => K (pc + 3) L st' w') st q.1 q.2 w)
  | .ireturn => tl_st1 st (fun x r => r = [] ∧ tl_some (P.1 j).2.2 (fun ty => ty = .int ∨ ((x = 0 ∨ x = 1) ∧ ty = .boolean)) ∧ Q (.inl (some x)) w)
  | .return_ => st = [] ∧ (P.1 j).2.2 = none ∧ Q (.inl none) w
  | .new ix => st = [] ∧ tl_some (P.2.2.2.2 ix) (fun k => Q (.inr k) w)
  | _ => False
def tl_wp (P : tl_P) (C : Nat → List tl_V → tl_W → tl_Q → Prop) (j : Nat) (Q : tl_Q) : Nat → Nat → tl_L → List tl_V → tl_W → Prop
  | 0, _, _, _, _ => False
  | n + 1, pc, L, st, w => tl_some (tl_at (P.1 j).1 pc) (fun i => tl_w P j C (tl_wp P C j Q n) Q i pc L st w)
def tl_en : Nat → List tl_V → tl_L
  | _, [] => []
  | i, v :: l => (i, v) :: tl_en (i + 1) l
/-- a call of method j at depth d, values as, world w: it ends, and Q holds of its end -/
def tl_C (P : tl_P) : Nat → Nat → List tl_V → tl_W → tl_Q → Prop
  | 0, _, _, _, _ => False
  | d + 1, j, as, w, Q => ∃ n, tl_wp P (tl_C P d) j Q n 0 (tl_en 0 as) [] w
/-- the walk from a point within method j; its callees at depth d -/
def tl_E (P : tl_P) (d j pc : Nat) (L : tl_L) (st : List tl_V) (w : tl_W) (Q : tl_Q) : Prop := ∃ n, tl_wp P (tl_C P d) j Q n pc L st w
/-- the call ends with just this answer and this world -/
def tl_Ev (P : tl_P) (d j : Nat) (as : List tl_V) (w : tl_W) (r : tl_R) (w' : tl_W) : Prop := ∀ Q : tl_Q, Q r w' → tl_C P d j as w Q
section TLR
variable {P : tl_P} {d j pc : Nat} {L : tl_L} {st : List tl_V} {w : tl_W} {Q : tl_Q}
theorem tl_start {as : List tl_V} {r : tl_R} {w' : tl_W} (h : ∀ Q : tl_Q, Q r w' → tl_E P d j 0 (tl_en 0 as) [] w Q) : tl_Ev P (d + 1) j as w r w' := fun Q hq => h Q hq
theorem tl_go (k : Nat) (pc' : Nat) (L' : tl_L) (st' : List tl_V) (w' : tl_W) (h : ∀ n, tl_wp P (tl_C P d) j Q n pc' L' st' w' → tl_wp P (tl_C P d) j Q (n + k) pc L st w) (kk : tl_E P d j pc' L' st' w' Q) : tl_E P d j pc L st w Q := by
  obtain ⟨n, hn⟩ := kk
  exact ⟨n + k, h n hn⟩
theorem tl_one {i : Instr} (hc : tl_at (P.1 j).1 pc = some i) (h : ∃ n, tl_w P j (tl_C P d) (tl_wp P (tl_C P d) j Q n) Q i pc L st w) : tl_E P d j pc L st w Q := by
  obtain ⟨n, hn⟩ := h
  refine ⟨n + 1, ?_⟩
  show tl_some (tl_at (P.1 j).1 pc) _
  rw [hc]
  exact hn
theorem tl_ald (b n : Nat) {k : Nat} {x : Int} {r : List tl_V} (hc : tl_at (P.1 j).1 pc = some .iaload) (hx : x = (b : Int)) (hn : P.2.2.1 k = some n) (hb : b < n) (kk : tl_E P d j (pc + 1) L (.inl (w k b) :: r) w Q) : tl_E P d j pc L (.inl x :: .inr (k + 1) :: r) w Q := by
  obtain ⟨m, hm⟩ := kk
  exact tl_one hc ⟨m, k, b, n, rfl, hx, hn, hb, hm⟩
theorem tl_ast (b n : Nat) {k : Nat} {i x : Int} {r : List tl_V} (hc : tl_at (P.1 j).1 pc = some .iastore) (hk : k ≠ 99) (hx : i = (b : Int)) (hn : P.2.2.1 k = some n) (hb : b < n) (kk : tl_E P d j (pc + 1) L r (tl_set w k b x) Q) : tl_E P d j pc L (.inl x :: .inl i :: .inr (k + 1) :: r) w Q := by
  obtain ⟨m, hm⟩ := kk
  exact tl_one hc ⟨m, k, b, n, rfl, hk, hx, hn, hb, hm⟩
theorem tl_callS {ix j' n : Nat} {as rest : List tl_V} {v : Option Int} {w' : tl_W} (hc : tl_at (P.1 j).1 pc = some (.invokestatic ix)) (hm : P.2.2.2.1 ix = some (j', n)) (h0 : Nat.beq j' 1000 = false) (h1 : Nat.beq j' 1001 = false) (hE : tl_Ev P d j' as w (.inl v) w') (hn : n ≤ st.length) (ha : (st.take n).reverse = as) (hr : st.drop n = rest) (h8 : rest.length ≤ 8)
    (kk : tl_E P d j (pc + 3) L (v.toList.map .inl ++ rest) w' Q) : tl_E P d j pc L st w Q := by
  obtain ⟨m, hm'⟩ := kk
  refine tl_one hc ⟨m, ?_⟩
  show tl_some (P.2.2.2.1 ix) _
  rw [hm]
  show bif Nat.beq j' 1000 then _ else bif Nat.beq j' 1001 then _ else _
  rw [h0, h1]
  refine ⟨hn, by rw [hr]; exact h8, ?_⟩
  rw [ha, hr]
  apply hE
  cases v with
  | none => exact hm'
  | some x => exact hm'
theorem tl_callV {ix j' n : Nat} {as rest : List tl_V} {v : Option Int} {w' : tl_W} (hc : tl_at (P.1 j).1 pc = some (.invokevirtual ix)) (hm : P.2.2.2.1 ix = some (j', n)) (hE : tl_Ev P d j' as w (.inl v) w') (hn : n ≤ st.length) (hl : (st.take n).getLast? = some (.inr 0)) (ha : (st.take n).reverse = as) (hr : st.drop n = rest) (h8 : rest.length ≤ 8)
    (kk : tl_E P d j (pc + 3) L (v.toList.map .inl ++ rest) w' Q) : tl_E P d j pc L st w Q := by
  obtain ⟨m, hm'⟩ := kk
  refine tl_one hc ⟨m, ?_⟩
  show tl_some (P.2.2.2.1 ix) _
  rw [hm]
  refine ⟨hl, hn, by rw [hr]; exact h8, ?_⟩
  rw [ha, hr]
  apply hE
  cases v with
  | none => exact hm'
  | some x => exact hm'
/-- a branch: which one instruction it is, is said by h -/
theorem tl_if (c : Prop) (pt pf : Nat) (L' : tl_L) (st' : List tl_V) (h : ∀ n, tl_br c (tl_wp P (tl_C P d) j Q n pt L' st' w) (tl_wp P (tl_C P d) j Q n pf L' st' w) → tl_wp P (tl_C P d) j Q (n + 1) pc L st w) (kt : c → tl_E P d j pt L' st' w Q) (kf : ¬ c → tl_E P d j pf L' st' w Q) : tl_E P d j pc L st w Q := by
  by_cases hc : c
  · obtain ⟨n, hn⟩ := kt hc
    exact ⟨n + 1, h n ⟨fun _ => hn, fun q => absurd hc q⟩⟩
  · obtain ⟨n, hn⟩ := kf hc
    exact ⟨n + 1, h n ⟨fun q => absurd q hc, fun _ => hn⟩⟩
/-- a value on the stack gets another name -/
theorem tl_eq {st' : List tl_V} (h : st = st') (kk : tl_E P d j pc L st' w Q) : tl_E P d j pc L st w Q := h ▸ kk
theorem tl_top {x y : Int} {r : List tl_V} (h : x = y) (kk : tl_E P d j pc L (.inl y :: r) w Q) : tl_E P d j pc L (.inl x :: r) w Q := h ▸ kk
theorem tl_loc {L' : tl_L} (h : L = L') (kk : tl_E P d j pc L' st w Q) : tl_E P d j pc L st w Q := h ▸ kk
theorem tl_wld {w' : tl_W} (h : w = w') (kk : tl_E P d j pc L st w' Q) : tl_E P d j pc L st w Q := h ▸ kk
theorem tl_end (h : ∀ n, tl_wp P (tl_C P d) j Q (n + 1) pc L st w) : tl_E P d j pc L st w Q := ⟨1, h 0⟩
end TLR
