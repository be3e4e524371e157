section
/-! 02.machine: a small machine of our own over the class's fields (int fields and int arrays): its judgement, and rows to walk it -/
abbrev tl_V : Type := Int ⊕ Nat
abbrev tl_W : Type := Nat → Nat → Int
abbrev tl_R : Type := Option Int ⊕ Nat
abbrev tl_L : Type := List (Nat × tl_V)
abbrev tl_Q : Type := tl_R → tl_W → Prop
def tl_set (w : tl_W) (k j : Nat) (x : Int) : tl_W := fun a => if a = k then va_up (w k) j x else w a
/-- method number: rows, locals, type of the answer; pool number: field; field: length of its array; pool number: method and how many values it takes off the stack; pool number: kind of exception -/
abbrev tl_P : Type := (Nat → List (Nat × Instr) × Nat × Option FieldType) × (Nat → Option Nat) × (Nat → Option Nat) × (Nat → Option (Nat × Nat)) × (Nat → Option Nat)
def tl_at : List (Nat × Instr) → Nat → Option Instr
  | [], _ => none
  | q :: l, pc => bif Nat.beq q.1 pc then some q.2 else tl_at l pc
def tl_get : tl_L → Nat → Option tl_V
  | [], _ => none
  | q :: l, i => bif Nat.beq q.1 i then some q.2 else tl_get l i
def tl_put (L : tl_L) (i : Nat) (v : tl_V) : tl_L := bif L.any (fun q => Nat.beq q.1 i) then L.map (fun q => bif Nat.beq q.1 i then (i, v) else q) else L ++ [(i, v)]
def tl_lk : List (Nat × Nat) → Nat → Option Nat
  | [], _ => none
  | q :: l, i => bif Nat.beq q.1 i then some q.2 else tl_lk l i
def tl_lk2 : List (Nat × Nat × Nat) → Nat → Option (Nat × Nat)
  | [], _ => none
  | q :: l, i => bif Nat.beq q.1 i then some q.2 else tl_lk2 l i
def tl_to (pc : Nat) (off : Int) : Nat := ((pc : Int) + off).toNat
def tl_ldi (v : Option tl_V) (k : Int → Prop) : Prop := match v with
  | some (.inl x) => k x
  | _ => False
def tl_lda (v : Option tl_V) (k : Nat → Prop) : Prop := match v with
  | some (.inr a) => k a
  | _ => False
def tl_st1 (st : List tl_V) (k : Int → List tl_V → Prop) : Prop := match st with
  | .inl x :: r => k x r
  | _ => False
def tl_st2 (st : List tl_V) (k : Int → Int → List tl_V → Prop) : Prop := match st with
  | .inl y :: .inl x :: r => k x y r
  | _ => False
def tl_sta (st : List tl_V) (k : Nat → List tl_V → Prop) : Prop := match st with
  | .inr a :: r => k a r
  | _ => False
def tl_any1 (st : List tl_V) (k : tl_V → List tl_V → Prop) : Prop := match st with
  | v :: r => k v r
  | _ => False
def tl_some {α : Type} (x : Option α) (k : α → Prop) : Prop := match x with
  | some v => k v
  | none => False
def tl_br (c a b : Prop) : Prop := (c → a) ∧ (¬ c → b)
def tl_res (K : List tl_V → tl_W → Prop) (st : List tl_V) : tl_Q := fun r w => match r with
  | .inl (some x) => K (.inl x :: st) w
  | .inl none => K st w
  | .inr _ => False
def tl_cl (C : Nat → List tl_V → tl_W → tl_Q → Prop) (K : List tl_V → tl_W → Prop) (st : List tl_V) (j n : Nat) (w : tl_W) : Prop :=
  n ≤ st.length ∧ (st.drop n).length ≤ 8 ∧ C j (st.take n).reverse w (tl_res K (st.drop n))
def tl_w (P : tl_P) (j : Nat) (C : Nat → List tl_V → tl_W → tl_Q → Prop) (K : Nat → tl_L → List tl_V → tl_W → Prop) (Q : tl_Q) (i : Instr) (pc : Nat) (L : tl_L) (st : List tl_V) (w : tl_W) : Prop :=
  match i with
  | .iconst n => K (pc + 1) L (.inl (n) :: st) w
  | .bipush n => K (pc + 2) L (.inl (n) :: st) w
  | .sipush n => K (pc + 3) L (.inl (n) :: st) w
  | .iload_n k => tl_ldi (tl_get L k) (fun x => K (pc + 1) L (.inl x :: st) w)
  | .iload k => tl_ldi (tl_get L k) (fun x => K (pc + 2) L (.inl x :: st) w)
  | .aload_n k => tl_lda (tl_get L k) (fun a => K (pc + 1) L (.inr a :: st) w)
  | .istore_n k => tl_st1 st (fun x r => K (pc + 1) (tl_put L k (.inl x)) r w)
  | .istore k => tl_st1 st (fun x r => K (pc + 2) (tl_put L k (.inl x)) r w)
  | .iinc k n => tl_ldi (tl_get L k) (fun x => (-2147483648 ≤ x + n ∧ x + n < 2147483648) ∧ K (pc + 3) (tl_put L k (.inl (x + n))) st w)
  | .iadd => tl_st2 st (fun x y r => (-2147483648 ≤ x + y ∧ x + y < 2147483648) ∧ K (pc + 1) L (.inl (x + y) :: r) w)
  | .isub => tl_st2 st (fun x y r => (-2147483648 ≤ x - y ∧ x - y < 2147483648) ∧ K (pc + 1) L (.inl (x - y) :: r) w)
  | .imul => tl_st2 st (fun x y r => (-2147483648 ≤ x * y ∧ x * y < 2147483648) ∧ K (pc + 1) L (.inl (x * y) :: r) w)
  | .iand => tl_st2 st (fun x y r => ∃ a b : Nat, x = a ∧ y = b ∧ K (pc + 1) L (.inl ((a &&& b : Nat) : Int) :: r) w)
  | .ior => tl_st2 st (fun x y r => ∃ a b : Nat, x = a ∧ y = b ∧ K (pc + 1) L (.inl ((a ||| b : Nat) : Int) :: r) w)
  | .idiv => tl_st2 st (fun x y r => ∃ a b : Nat, x = a ∧ y = b ∧ 0 < b ∧ K (pc + 1) L (.inl ((a / b : Nat) : Int) :: r) w)
  | .ishl => tl_st2 st (fun x y r => ∃ a b : Nat, x = a ∧ y = b ∧ b < 32 ∧ a * 2 ^ b < 2147483648 ∧ K (pc + 1) L (.inl ((a * 2 ^ b : Nat) : Int) :: r) w)
  | .ishr => tl_st2 st (fun x y r => ∃ a b : Nat, x = a ∧ y = b ∧ b < 32 ∧ K (pc + 1) L (.inl ((a / 2 ^ b : Nat) : Int) :: r) w)
  | .dup => tl_any1 st (fun v r => K (pc + 1) L (v :: v :: r) w)
  | .dup2 => tl_any1 st (fun a r => tl_any1 r (fun b r' => K (pc + 1) L (a :: b :: a :: b :: r') w))
  | .pop => tl_any1 st (fun _ r => K (pc + 1) L r w)
  | .ifCond .eq off => tl_st1 st (fun x r => tl_br (x = 0) (K (tl_to pc off) L r w) (K (pc + 3) L r w))
  | .ifCond .ne off => tl_st1 st (fun x r => tl_br (¬ x = 0) (K (tl_to pc off) L r w) (K (pc + 3) L r w))
  | .ifCond .lt off => tl_st1 st (fun x r => tl_br (x < 0) (K (tl_to pc off) L r w) (K (pc + 3) L r w))
  | .ifCond .ge off => tl_st1 st (fun x r => tl_br (0 ≤ x) (K (tl_to pc off) L r w) (K (pc + 3) L r w))
  | .ifCond .gt off => tl_st1 st (fun x r => tl_br (0 < x) (K (tl_to pc off) L r w) (K (pc + 3) L r w))
  | .ifCond .le off => tl_st1 st (fun x r => tl_br (x ≤ 0) (K (tl_to pc off) L r w) (K (pc + 3) L r w))
  | .if_icmp .eq off => tl_st2 st (fun x y r => tl_br (x = y) (K (tl_to pc off) L r w) (K (pc + 3) L r w))
  | .if_icmp .ne off => tl_st2 st (fun x y r => tl_br (¬ x = y) (K (tl_to pc off) L r w) (K (pc + 3) L r w))
  | .if_icmp .lt off => tl_st2 st (fun x y r => tl_br (x < y) (K (tl_to pc off) L r w) (K (pc + 3) L r w))
  | .if_icmp .ge off => tl_st2 st (fun x y r => tl_br (y ≤ x) (K (tl_to pc off) L r w) (K (pc + 3) L r w))
  | .if_icmp .gt off => tl_st2 st (fun x y r => tl_br (y < x) (K (tl_to pc off) L r w) (K (pc + 3) L r w))
  | .if_icmp .le off => tl_st2 st (fun x y r => tl_br (x ≤ y) (K (tl_to pc off) L r w) (K (pc + 3) L r w))
  | .goto off => K (tl_to pc off) L st w
  | .getfield ix => tl_sta st (fun a r => a = 0 ∧ tl_some (P.2.1 ix) (fun k => k < 99 ∧ match P.2.2.1 k with
      | some _ => K (pc + 3) L (.inr (k + 1) :: r) w
      | none => K (pc + 3) L (.inl (w k 0) :: r) w))
  | .putfield ix => tl_st1 st (fun x r => tl_sta r (fun a r' => a = 0 ∧ tl_some (P.2.1 ix) (fun k => k < 99 ∧ P.2.2.1 k = none ∧ K (pc + 3) L r' (tl_set w k 0 x))))
  | .getstatic ix => P.2.1 ix = some 99 ∧ K (pc + 3) L (.inr 100 :: st) w
  | .iaload => tl_st1 st (fun x r => tl_sta r (fun a r' => ∃ k b n : Nat, a = k + 1 ∧ x = (b : Int) ∧ P.2.2.1 k = some n ∧ b < n ∧ K (pc + 1) L (.inl (w k b) :: r') w))
  | .iastore => tl_st2 st (fun i x r => tl_sta r (fun a r' => ∃ k b n : Nat, a = k + 1 ∧ k ≠ 99 ∧ i = (b : Int) ∧ P.2.2.1 k = some n ∧ b < n ∧ K (pc + 1) L r' (tl_set w k b x)))
  | .invokestatic ix => tl_some (P.2.2.2.1 ix) (fun q => bif Nat.beq q.1 1000 then tl_st2 st (fun x y r => r.length ≤ 8 ∧ K (pc + 3) L (.inl (max x y) :: r) w)
      else bif Nat.beq q.1 1001 then tl_st2 st (fun x y r => r.length ≤ 8 ∧ K (pc + 3) L (.inl (min x y) :: r) w)
      else tl_cl C (fun st' w' => K (pc + 3) L st' w') st q.1 q.2 w)
  | .invokevirtual ix => tl_some (P.2.2.2.1 ix) (fun q => (st.take q.2).getLast? = some (.inr 0) ∧ tl_cl C (fun st' w' => K (pc + 3) L st' w') st q.1 q.2 w)
  | .ireturn => tl_st1 st (fun x r => r = [] ∧ tl_some (P.1 j).2.2 (fun ty => ty = .int ∨ ((x = 0 ∨ x = 1) ∧ ty = .boolean)) ∧ Q (.inl (some x)) w)
  | .return_ => st = [] ∧ (P.1 j).2.2 = none ∧ Q (.inl none) w
  | .new ix => st = [] ∧ tl_some (P.2.2.2.2 ix) (fun k => Q (.inr k) w)
  | _ => False
def tl_wp (P : tl_P) (C : Nat → List tl_V → tl_W → tl_Q → Prop) (j : Nat) (Q : tl_Q) : Nat → Nat → tl_L → List tl_V → tl_W → Prop
  | 0, _, _, _, _ => False
  | n + 1, pc, L, st, w => tl_some (tl_at (P.1 j).1 pc) (fun i => tl_w P j C (tl_wp P C j Q n) Q i pc L st w)
def tl_en : Nat → List tl_V → tl_L
  | _, [] => []
  | i, v :: l => (i, v) :: tl_en (i + 1) l
/-- a call of method j at depth d, values as, world w: it ends, and Q holds of its end -/
def tl_C (P : tl_P) : Nat → Nat → List tl_V → tl_W → tl_Q → Prop
  | 0, _, _, _, _ => False
  | d + 1, j, as, w, Q => ∃ n, tl_wp P (tl_C P d) j Q n 0 (tl_en 0 as) [] w
/-- the walk from a point within method j; its callees at depth d -/
def tl_E (P : tl_P) (d j pc : Nat) (L : tl_L) (st : List tl_V) (w : tl_W) (Q : tl_Q) : Prop := ∃ n, tl_wp P (tl_C P d) j Q n pc L st w
/-- the call ends with just this answer and this world -/
def tl_Ev (P : tl_P) (d j : Nat) (as : List tl_V) (w : tl_W) (r : tl_R) (w' : tl_W) : Prop := ∀ Q : tl_Q, Q r w' → tl_C P d j as w Q
section TLR
variable {P : tl_P} {d j pc : Nat} {L : tl_L} {st : List tl_V} {w : tl_W} {Q : tl_Q}
theorem tl_start {as : List tl_V} {r : tl_R} {w' : tl_W} (h : ∀ Q : tl_Q, Q r w' → tl_E P d j 0 (tl_en 0 as) [] w Q) : tl_Ev P (d + 1) j as w r w' := fun Q hq => h Q hq
theorem tl_go (k : Nat) (pc' : Nat) (L' : tl_L) (st' : List tl_V) (w' : tl_W) (h : ∀ n, tl_wp P (tl_C P d) j Q n pc' L' st' w' → tl_wp P (tl_C P d) j Q (n + k) pc L st w) (kk : tl_E P d j pc' L' st' w' Q) : tl_E P d j pc L st w Q := by
  obtain ⟨n, hn⟩ := kk
  exact ⟨n + k, h n hn⟩
theorem tl_one {i : Instr} (hc : tl_at (P.1 j).1 pc = some i) (h : ∃ n, tl_w P j (tl_C P d) (tl_wp P (tl_C P d) j Q n) Q i pc L st w) : tl_E P d j pc L st w Q := by
  obtain ⟨n, hn⟩ := h
  refine ⟨n + 1, ?_⟩
  show tl_some (tl_at (P.1 j).1 pc) _
  rw [hc]
  exact hn
theorem tl_ald (b n : Nat) {k : Nat} {x : Int} {r : List tl_V} (hc : tl_at (P.1 j).1 pc = some .iaload) (hx : x = (b : Int)) (hn : P.2.2.1 k = some n) (hb : b < n) (kk : tl_E P d j (pc + 1) L (.inl (w k b) :: r) w Q) : tl_E P d j pc L (.inl x :: .inr (k + 1) :: r) w Q := by
  obtain ⟨m, hm⟩ := kk
  exact tl_one hc ⟨m, k, b, n, rfl, hx, hn, hb, hm⟩
theorem tl_ast (b n : Nat) {k : Nat} {i x : Int} {r : List tl_V} (hc : tl_at (P.1 j).1 pc = some .iastore) (hk : k ≠ 99) (hx : i = (b : Int)) (hn : P.2.2.1 k = some n) (hb : b < n) (kk : tl_E P d j (pc + 1) L r (tl_set w k b x) Q) : tl_E P d j pc L (.inl x :: .inl i :: .inr (k + 1) :: r) w Q := by
  obtain ⟨m, hm⟩ := kk
  exact tl_one hc ⟨m, k, b, n, rfl, hk, hx, hn, hb, hm⟩
theorem tl_callS {ix j' n : Nat} {as rest : List tl_V} {v : Option Int} {w' : tl_W} (hc : tl_at (P.1 j).1 pc = some (.invokestatic ix)) (hm : P.2.2.2.1 ix = some (j', n)) (h0 : Nat.beq j' 1000 = false) (h1 : Nat.beq j' 1001 = false) (hE : tl_Ev P d j' as w (.inl v) w') (hn : n ≤ st.length) (ha : (st.take n).reverse = as) (hr : st.drop n = rest) (h8 : rest.length ≤ 8)
    (kk : tl_E P d j (pc + 3) L (v.toList.map .inl ++ rest) w' Q) : tl_E P d j pc L st w Q := by
  obtain ⟨m, hm'⟩ := kk
  refine tl_one hc ⟨m, ?_⟩
  show tl_some (P.2.2.2.1 ix) _
  rw [hm]
  show bif Nat.beq j' 1000 then _ else bif Nat.beq j' 1001 then _ else _
  rw [h0, h1]
  refine ⟨hn, by rw [hr]; exact h8, ?_⟩
  rw [ha, hr]
  apply hE
  cases v with
  | none => exact hm'
  | some x => exact hm'
theorem tl_callV {ix j' n : Nat} {as rest : List tl_V} {v : Option Int} {w' : tl_W} (hc : tl_at (P.1 j).1 pc = some (.invokevirtual ix)) (hm : P.2.2.2.1 ix = some (j', n)) (hE : tl_Ev P d j' as w (.inl v) w') (hn : n ≤ st.length) (hl : (st.take n).getLast? = some (.inr 0)) (ha : (st.take n).reverse = as) (hr : st.drop n = rest) (h8 : rest.length ≤ 8)
    (kk : tl_E P d j (pc + 3) L (v.toList.map .inl ++ rest) w' Q) : tl_E P d j pc L st w Q := by
  obtain ⟨m, hm'⟩ := kk
  refine tl_one hc ⟨m, ?_⟩
  show tl_some (P.2.2.2.1 ix) _
  rw [hm]
  refine ⟨hl, hn, by rw [hr]; exact h8, ?_⟩
  rw [ha, hr]
  apply hE
  cases v with
  | none => exact hm'
  | some x => exact hm'
/-- a branch: which one instruction it is, is said by h -/
theorem tl_if (c : Prop) (pt pf : Nat) (L' : tl_L) (st' : List tl_V) (h : ∀ n, tl_br c (tl_wp P (tl_C P d) j Q n pt L' st' w) (tl_wp P (tl_C P d) j Q n pf L' st' w) → tl_wp P (tl_C P d) j Q (n + 1) pc L st w) (kt : c → tl_E P d j pt L' st' w Q) (kf : ¬ c → tl_E P d j pf L' st' w Q) : tl_E P d j pc L st w Q := by
  by_cases hc : c
  · obtain ⟨n, hn⟩ := kt hc
    exact ⟨n + 1, h n ⟨fun _ => hn, fun q => absurd hc q⟩⟩
  · obtain ⟨n, hn⟩ := kf hc
    exact ⟨n + 1, h n ⟨fun q => absurd q hc, fun _ => hn⟩⟩
/-- a value on the stack gets another name -/
theorem tl_eq {st' : List tl_V} (h : st = st') (kk : tl_E P d j pc L st' w Q) : tl_E P d j pc L st w Q := h ▸ kk
theorem tl_top {x y : Int} {r : List tl_V} (h : x = y) (kk : tl_E P d j pc L (.inl y :: r) w Q) : tl_E P d j pc L (.inl x :: r) w Q := h ▸ kk
theorem tl_loc {L' : tl_L} (h : L = L') (kk : tl_E P d j pc L' st w Q) : tl_E P d j pc L st w Q := h ▸ kk
theorem tl_wld {w' : tl_W} (h : w = w') (kk : tl_E P d j pc L st w' Q) : tl_E P d j pc L st w Q := h ▸ kk
theorem tl_end (h : ∀ n, tl_wp P (tl_C P d) j Q (n + 1) pc L st w) : tl_E P d j pc L st w Q := ⟨1, h 0⟩
end TLR
end
section
/-! 03.sound: what the small machine says, the machine does -/
def tl_val (o : Nat) (ad : Nat → Nat) : tl_V → Value
  | .inl x => .int (Int32.ofInt x)
  | .inr 0 => .ref o
  | .inr (k + 1) => .ref (ad k)
theorem tl_val_cat (o : Nat) (ad : Nat → Nat) (v : tl_V) : (tl_val o ad v).category = 1 := by
  rcases v with x | a
  · rfl
  · cases a <;> rfl
def tl_lm (o : Nat) (ad : Nat → Nat) (L : tl_L) : List (Nat × Value) := L.map (fun q => (q.1, tl_val o ad q.2))
theorem tl_at_mem : ∀ (l : List (Nat × Instr)) (pc : Nat) (i : Instr), tl_at l pc = some i → (pc, i) ∈ l
  | [], _, _, h => by cases h
  | q :: l, pc, i, h => by
    unfold tl_at at h
    cases hb : Nat.beq q.1 pc with
    | true =>
      rw [hb] at h
      have e1 : q.1 = pc := Nat.eq_of_beq_eq_true hb
      have e2 : q.2 = i := Option.some.inj h
      subst e1; subst e2
      exact List.mem_cons_self
    | false =>
      rw [hb] at h
      exact List.mem_cons_of_mem _ (tl_at_mem l pc i h)
theorem tl_get_mem : ∀ (L : tl_L) (i : Nat) (v : tl_V), tl_get L i = some v → (i, v) ∈ L
  | [], _, _, h => by cases h
  | q :: l, i, v, h => by
    unfold tl_get at h
    cases hb : Nat.beq q.1 i with
    | true =>
      rw [hb] at h
      have e1 : q.1 = i := Nat.eq_of_beq_eq_true hb
      have e2 : q.2 = v := Option.some.inj h
      subst e1; subst e2
      exact List.mem_cons_self
    | false =>
      rw [hb] at h
      exact List.mem_cons_of_mem _ (tl_get_mem l i v h)
theorem tl_put_mem {L : tl_L} {i : Nat} {v : tl_V} {q : Nat × tl_V} (h : q ∈ tl_put L i v) : q = (i, v) ∨ (q ∈ L ∧ q.1 ≠ i) := by
  unfold tl_put at h
  cases ha : L.any (fun q => Nat.beq q.1 i) with
  | true =>
    rw [ha] at h
    obtain ⟨a, h1, h2⟩ := List.mem_map.mp h
    cases hb : Nat.beq a.1 i with
    | true =>
      rw [hb] at h2
      exact Or.inl h2.symm
    | false =>
      rw [hb] at h2
      have e : a = q := h2
      subst e
      exact Or.inr ⟨h1, Nat.ne_of_beq_eq_false hb⟩
  | false =>
    rw [ha] at h
    rcases List.mem_append.mp h with h | h
    · refine Or.inr ⟨h, fun e => ?_⟩
      have h3 : L.any (fun q => Nat.beq q.1 i) = true := List.any_eq_true.mpr ⟨q, h, by rw [e]; exact Nat.beq_refl i⟩
      rw [ha] at h3
      cases h3
    · exact Or.inl (List.mem_singleton.mp h)
theorem tl_has_get {o : Nat} {ad : Nat → Nat} {ls : Array Slot} {nL : Nat} {L : tl_L} {i : Nat} {v : tl_V} (h : lv_has ls nL (tl_lm o ad L)) (hg : tl_get L i = some v) : ls[i]? = some (.val (tl_val o ad v)) :=
  h.2.2 (i, tl_val o ad v) (List.mem_map.mpr ⟨(i, v), tl_get_mem L i v hg, rfl⟩)
theorem tl_has_plc {o : Nat} {ad : Nat → Nat} {L : tl_L} {i : Nat} {v : tl_V} (hg : tl_get L i = some v) : ∃ k : Nat, (tl_lm o ad L)[k]? = some (i, tl_val o ad v) :=
  List.getElem?_of_mem (List.mem_map.mpr ⟨(i, v), tl_get_mem L i v hg, rfl⟩)
theorem tl_has_put {o : Nat} {ad : Nat → Nat} {ls : Array Slot} {nL : Nat} {L : tl_L} {i : Nat} {v : tl_V} (h : lv_has ls nL ((i, tl_val o ad v) :: (tl_lm o ad L).filter (fun q => !(q.1 == i) && !(q.1 + 1 == i && q.2.category == 2)))) : lv_has ls nL (tl_lm o ad (tl_put L i v)) := by
  refine ⟨h.1, h.2.1, fun q hq => ?_⟩
  obtain ⟨a, ha, rfl⟩ := List.mem_map.mp hq
  rcases tl_put_mem ha with rfl | ⟨h1, h2⟩
  · exact h.2.2 _ List.mem_cons_self
  · refine h.2.2 _ (List.mem_cons_of_mem _ (List.mem_filter.mpr ⟨List.mem_map.mpr ⟨a, h1, rfl⟩, ?_⟩))
    show (!(a.1 == i) && !(a.1 + 1 == i && (tl_val o ad a.2).category == 2)) = true
    rw [tl_val_cat]
    simp [h2]
theorem tl_ldi_s {v : Option tl_V} {k : Int → Prop} (h : tl_ldi v k) : ∃ x, v = some (.inl x) ∧ k x := by
  rcases v with _ | (x | a)
  · exact h.elim
  · exact ⟨x, rfl, h⟩
  · exact h.elim
theorem tl_lda_s {v : Option tl_V} {k : Nat → Prop} (h : tl_lda v k) : ∃ a, v = some (.inr a) ∧ k a := by
  rcases v with _ | (x | a)
  · exact h.elim
  · exact h.elim
  · exact ⟨a, rfl, h⟩
theorem tl_st1_s {st : List tl_V} {k : Int → List tl_V → Prop} (h : tl_st1 st k) : ∃ x r, st = .inl x :: r ∧ k x r := by
  rcases st with _ | ⟨(x | a), r⟩
  · exact h.elim
  · exact ⟨x, r, rfl, h⟩
  · exact h.elim
theorem tl_st2_s {st : List tl_V} {k : Int → Int → List tl_V → Prop} (h : tl_st2 st k) : ∃ x y r, st = .inl y :: .inl x :: r ∧ k x y r := by
  rcases st with _ | ⟨(y | a), _ | ⟨(x | b), r⟩⟩
  · exact h.elim
  · exact h.elim
  · exact ⟨x, y, r, rfl, h⟩
  · exact h.elim
  · exact h.elim
  · exact h.elim
  · exact h.elim
theorem tl_sta_s {st : List tl_V} {k : Nat → List tl_V → Prop} (h : tl_sta st k) : ∃ a r, st = .inr a :: r ∧ k a r := by
  rcases st with _ | ⟨(x | a), r⟩
  · exact h.elim
  · exact h.elim
  · exact ⟨a, r, rfl, h⟩
theorem tl_any1_s {st : List tl_V} {k : tl_V → List tl_V → Prop} (h : tl_any1 st k) : ∃ v r, st = v :: r ∧ k v r := by
  rcases st with _ | ⟨v, r⟩
  · exact h.elim
  · exact ⟨v, r, rfl, h⟩
theorem tl_some_s {α : Type} {x : Option α} {k : α → Prop} (h : tl_some x k) : ∃ v, x = some v ∧ k v := by
  rcases x with _ | v
  · exact h.elim
  · exact ⟨v, rfl, h⟩
/-- the world's cells: the object, its arrays -/
def tl_fs (N : Nat) (ks : List Nat) (ad : Nat → Nat) (w : tl_W) : List Value := (List.range N).map (fun k => if k ∈ ks then Value.ref (ad k) else .int (Int32.ofInt (w k 0)))
def tl_ar (P : tl_P) (ad : Nat → Nat) (cA : Nat → ClassId) (w : tl_W) (k : Nat) : Nat × va_E := (ad k, .inl (cA k, (P.2.2.1 k).getD 0, .inl (fun a => Int32.ofInt (w k a))))
def tl_ce (P : tl_P) (N ci : Nat) (ks : List Nat) (o : Nat) (ad : Nat → Nat) (cA : Nat → ClassId) (w : tl_W) : va_W := (o, .inr (ci, tl_fs N ks ad w)) :: ks.map (tl_ar P ad cA w)
theorem tl_fs_at {N : Nat} {ks : List Nat} {ad : Nat → Nat} {w : tl_W} {k : Nat} (hk : k < N) : (tl_fs N ks ad w)[k]? = some (if k ∈ ks then Value.ref (ad k) else .int (Int32.ofInt (w k 0))) := by
  unfold tl_fs
  rw [List.getElem?_map, List.getElem?_range hk]
  rfl
theorem tl_fs_len {N : Nat} {ks : List Nat} {ad : Nat → Nat} {w : tl_W} : (tl_fs N ks ad w).length = N := by
  unfold tl_fs
  rw [List.length_map, List.length_range]
theorem tl_ce_arr {P : tl_P} {N ci : Nat} {ks : List Nat} {o : Nat} {ad : Nat → Nat} {cA : Nat → ClassId} {w : tl_W} {i k n : Nat} (h : ks[i]? = some k) (hn : P.2.2.1 k = some n) : (tl_ce P N ci ks o ad cA w)[i + 1]? = some (ad k, .inl (cA k, n, .inl (fun a => Int32.ofInt (w k a)))) := by
  show (ks.map (tl_ar P ad cA w))[i]? = _
  rw [List.getElem?_map, h]
  show some (tl_ar P ad cA w k) = _
  unfold tl_ar
  rw [hn]
  rfl
theorem tl_ce_set {P : tl_P} {N ci : Nat} {ks : List Nat} {o : Nat} {ad : Nat → Nat} {cA : Nat → ClassId} {w : tl_W} {i k n b : Nat} {x : Int} (hnd : va_nd ks = true) (h : ks[i]? = some k) (hn : P.2.2.1 k = some n) :
    (tl_ce P N ci ks o ad cA w).set (i + 1) (ad k, .inl (cA k, n, .inl (upd (fun a => Int32.ofInt (w k a)) b (Int32.ofInt x)))) = tl_ce P N ci ks o ad cA (tl_set w k b x) := by
  have hk : k ∈ ks := List.mem_of_getElem? h
  have h1 : tl_fs N ks ad (tl_set w k b x) = tl_fs N ks ad w := by
    unfold tl_fs
    apply List.map_congr_left
    intro k' _
    by_cases hm : k' ∈ ks
    · rw [if_pos hm, if_pos hm]
    · rw [if_neg hm, if_neg hm]
      have hne : k' ≠ k := fun e => hm (e ▸ hk)
      unfold tl_set
      rw [if_neg hne]
  unfold tl_ce
  rw [h1, List.set_cons_succ]
  congr 1
  apply List.ext_getElem?
  intro m
  rw [List.getElem?_set]
  by_cases hm : i = m
  · subst hm
    have hlt : i < (ks.map (tl_ar P ad cA w)).length := by rw [List.length_map]; exact (List.getElem?_eq_some_iff.mp h).1
    rw [if_pos rfl, if_pos hlt, List.getElem?_map, h]
    show _ = some (tl_ar P ad cA (tl_set w k b x) k)
    unfold tl_ar
    rw [hn]
    have e : upd (fun a => Int32.ofInt (w k a)) b (Int32.ofInt x) = fun a => Int32.ofInt (tl_set w k b x k a) := by
      funext a
      unfold tl_set upd va_up
      rw [if_pos rfl]
      by_cases hab : a = b
      · rw [if_pos hab, if_pos hab]
      · rw [if_neg hab, if_neg hab]
    rw [e]
    rfl
  · rw [if_neg hm, List.getElem?_map, List.getElem?_map]
    cases hq : ks[m]? with
    | none => rfl
    | some k' =>
      have hne : k' ≠ k := fun e => hm (va_nd_inj ks hnd i m k h (e ▸ hq))
      show some (tl_ar P ad cA w k') = some (tl_ar P ad cA (tl_set w k b x) k')
      unfold tl_ar tl_set
      rw [if_neg hne]
theorem tl_ce_put {P : tl_P} {N ci : Nat} {ks : List Nat} {o : Nat} {ad : Nat → Nat} {cA : Nat → ClassId} {w : tl_W} {k : Nat} {x : Int} (hk : k < N) (hks : k ∉ ks) :
    (tl_ce P N ci ks o ad cA w).set 0 (o, .inr (ci, (tl_fs N ks ad w).set k (.int (Int32.ofInt x)))) = tl_ce P N ci ks o ad cA (tl_set w k 0 x) := by
  have h1 : (tl_fs N ks ad w).set k (.int (Int32.ofInt x)) = tl_fs N ks ad (tl_set w k 0 x) := by
    apply List.ext_getElem?
    intro m
    rw [List.getElem?_set]
    by_cases hm : k = m
    · subst hm
      rw [if_pos rfl, if_pos (by rw [tl_fs_len]; exact hk), tl_fs_at hk, if_neg hks]
      unfold tl_set va_up
      rw [if_pos rfl, if_pos rfl]
    · rw [if_neg hm]
      by_cases hlt : m < N
      · have e1 : tl_set w k 0 x m = w m := by
          unfold tl_set
          exact if_neg (fun e => hm e.symm)
        rw [tl_fs_at hlt, tl_fs_at hlt, e1]
      · rw [List.getElem?_eq_none (by rw [tl_fs_len]; omega), List.getElem?_eq_none (by rw [tl_fs_len]; omega)]
  unfold tl_ce
  rw [List.set_cons_zero, h1]
  congr 1
  apply List.map_congr_left
  intro k' hk'
  have hne : k' ≠ k := fun e => hks (e ▸ hk')
  unfold tl_ar tl_set
  rw [if_neg hne]
def tl_A (o : Nat) (ks : List Nat) (ad : Nat → Nat) (sz : Nat) : Nat → Prop := fun q => (q = o ∨ ∃ k, k ∈ ks ∧ q = ad k) ∨ sz ≤ q
theorem tl_A_mono {o : Nat} {ks : List Nat} {ad : Nat → Nat} {a b : Nat} (h : a ≤ b) : ∀ q, tl_A o ks ad b q → tl_A o ks ad a q := fun q hq => hq.elim Or.inl (fun z => Or.inr (Nat.le_trans h z))
theorem tl_D {P : tl_P} {N ci : Nat} {ks : List Nat} {o : Nat} {ad : Nat → Nat} {cA : Nat → ClassId} {w : tl_W} {B : Nat → Prop} {sz : Nat} (h : va_D B (tl_ce P N ci ks o ad cA w)) : va_D (tl_A o ks ad sz) (tl_ce P N ci ks o ad cA w) := by
  refine ⟨h.1, fun m q hm => ?_⟩
  have hq := List.mem_of_getElem? hm
  unfold tl_ce at hq
  rcases List.mem_cons.mp hq with rfl | hq
  · exact Or.inl (Or.inl rfl)
  · obtain ⟨k, hk, rfl⟩ := List.mem_map.mp hq
    exact Or.inl (Or.inr ⟨k, hk, rfl⟩)
def tl_G (sf : Bool) (cn fn : String) (n9 : Nat) (ad : Nat → Nat) (w : tl_W) (A : Nat → Prop) (U : State) (H : Heap) : Prop := sf = true → va_Z cn fn "[I" (.ref (ad 99)) A U H ∧ va_T .int (ad 99) n9 (fun j => .int (Int32.ofInt (w 99 j))) A U H
def tl_len : Instr → Nat
  | .bipush _ => 2
  | .sipush _ => 3
  | .iload _ => 2
  | .istore _ => 2
  | .iinc _ _ => 3
  | .ifCond _ _ => 3
  | .if_icmp _ _ => 3
  | .goto _ => 3
  | .getfield _ => 3
  | .putfield _ => 3
  | .getstatic _ => 3
  | .invokestatic _ => 3
  | .invokevirtual _ => 3
  | .invokespecial _ => 3
  | .new _ => 3
  | _ => 1
def tl_ok (P : tl_P) (sta : Nat → Bool) (nL pc : Nat) : Instr → Bool
  | .iconst n => decide (-2147483648 ≤ n) && decide (n < 2147483648)
  | .bipush n => decide ((Int8.ofInt n).toInt32 = Int32.ofInt n) && (decide (-2147483648 ≤ n) && decide (n < 2147483648))
  | .sipush n => decide ((Int16.ofInt n).toInt32 = Int32.ofInt n) && (decide (-2147483648 ≤ n) && decide (n < 2147483648))
  | .istore_n k => decide ((k : Nat) < nL)
  | .istore k => decide (k < nL)
  | .iinc k _ => decide (k < nL)
  | .ifCond _ off => decide (0 ≤ (pc : Int) + off)
  | .if_icmp _ off => decide (0 ≤ (pc : Int) + off)
  | .goto off => decide (0 ≤ (pc : Int) + off)
  | .invokestatic ix => match P.2.2.2.1 ix with
    | some q => Nat.beq q.1 1000 || (Nat.beq q.1 1001 || (decide (q.1 < 1000) && sta q.1))
    | none => true
  | .invokevirtual ix => match P.2.2.2.1 ix with
    | some q => decide (q.1 < 1000) && !sta q.1
    | none => true
  | _ => true
theorem tl_to_eq {pc : Nat} {off : Int} (h : 0 ≤ (pc : Int) + off) : (pc : Int) + off = ((tl_to pc off : Nat) : Int) := by
  unfold tl_to
  omega
theorem tl_sum (o : Nat) (ad : Nat → Nat) (r : List tl_V) : ((r.map (tl_val o ad)).map fun v => v.category).sum = r.length := by
  induction r with
  | nil => rfl
  | cons a r ih =>
    simp only [List.map_cons, List.sum_cons, List.length_cons, tl_val_cat]
    rw [ih]
    omega
theorem tl_sl (o : Nat) (ad : Nat → Nat) (as : List tl_V) : (lg_sl (as.map (tl_val o ad))).length = as.length := by
  induction as with
  | nil => rfl
  | cons a r ih =>
    have e : lg_sl ((a :: r).map (tl_val o ad)) = Slot.val (tl_val o ad a) :: lg_sl (r.map (tl_val o ad)) := by
      unfold lg_sl
      rw [List.map_cons, List.flatMap_cons, if_neg (by rw [tl_val_cat]; decide)]
      rfl
    rw [e, List.length_cons, List.length_cons, ih]
theorem tl_args (o : Nat) (ad : Nat → Nat) (as : List tl_V) : ∀ i : Nat, lv_args i (as.map (tl_val o ad)) = tl_lm o ad (tl_en i as) := by
  induction as with
  | nil => intro i; rfl
  | cons a r ih =>
    intro i
    show (i, tl_val o ad a) :: lv_args (if (tl_val o ad a).category = 2 then i + 2 else i + 1) (r.map (tl_val o ad)) = (i, tl_val o ad a) :: tl_lm o ad (tl_en (i + 1) r)
    rw [if_neg (by rw [tl_val_cat]; decide), ih (i + 1)]
/-- numbers -/
def tl_ir (x : Int) : Prop := -2147483648 ≤ x ∧ x < 2147483648
def tl_vr : tl_V → Prop
  | .inl x => tl_ir x
  | .inr _ => True
theorem tl_ti {x : Int} (h : tl_ir x) : (Int32.ofInt x).toInt = x := Int32.toInt_ofInt_of_le (by have := h.1; omega) (by have := h.2; omega)
theorem tl_eqI {x y : Int} (hx : tl_ir x) (hy : tl_ir y) : Int32.ofInt x = Int32.ofInt y ↔ x = y := by
  rw [← Int32.toInt_inj, tl_ti hx, tl_ti hy]
theorem tl_ltI {x y : Int} (hx : tl_ir x) (hy : tl_ir y) : Int32.ofInt x < Int32.ofInt y ↔ x < y := by
  rw [Int32.lt_iff_toInt_lt, tl_ti hx, tl_ti hy]
theorem tl_leI {x y : Int} (hx : tl_ir x) (hy : tl_ir y) : Int32.ofInt x ≤ Int32.ofInt y ↔ x ≤ y := by
  rw [Int32.le_iff_toInt_le, tl_ti hx, tl_ti hy]
theorem tl_z : (0 : Int32) = Int32.ofInt 0 := rfl
theorem tl_ir0 : tl_ir 0 := ⟨by decide, by decide⟩
theorem tl_nI (b : Nat) : Int32.ofInt (b : Int) = nI b := Int32.ofInt_eq_ofNat
theorem tl_or (a b : Nat) : Int32.ofInt (a : Int) ||| Int32.ofInt (b : Int) = Int32.ofInt ((a ||| b : Nat) : Int) := by
  rw [tl_nI, tl_nI, tl_nI]
  apply Int32.toBitVec.inj
  show BitVec.ofNat 32 a ||| BitVec.ofNat 32 b = BitVec.ofNat 32 (a ||| b)
  rw [BitVec.ofNat_or]
theorem tl_and (a b : Nat) : Int32.ofInt (a : Int) &&& Int32.ofInt (b : Int) = Int32.ofInt ((a &&& b : Nat) : Int) := by
  rw [tl_nI, tl_nI, tl_nI]
  apply Int32.toBitVec.inj
  show BitVec.ofNat 32 a &&& BitVec.ofNat 32 b = BitVec.ofNat 32 (a &&& b)
  rw [BitVec.ofNat_and]
theorem tl_sm : ∀ n, n < 32 → ((nI n &&& 31).toBitVec.smod 32).toNat = n := by decide +kernel
theorem tl_shl {a b : Nat} (hb : b < 32) (h : a * 2 ^ b < 2147483648) : Int32.ofInt (a : Int) <<< (Int32.ofInt (b : Int) &&& 31) = Int32.ofInt ((a * 2 ^ b : Nat) : Int) := by
  rw [tl_nI, tl_nI, tl_nI]
  exact pk_shlN _ b (tl_sm b hb) (by omega)
theorem tl_shr {a b : Nat} (ha : a < 2147483648) (hb : b < 32) : Int32.ofInt (a : Int) >>> (Int32.ofInt (b : Int) &&& 31) = Int32.ofInt ((a / 2 ^ b : Nat) : Int) := by
  rw [tl_nI, tl_nI, tl_nI]
  exact pk_shrN (by omega) _ b (tl_sm b hb)
theorem tl_dv {a b : Nat} (ha : a < 2147483648) (h0 : 0 < b) (hb : b < 2147483648) : Int32.ofInt (a : Int) / Int32.ofInt (b : Int) = Int32.ofInt ((a / b : Nat) : Int) := by
  rw [tl_nI, tl_nI, tl_nI]
  exact pk_div (by omega) h0 (by omega)
theorem tl_mx {x y : Int} (hx : tl_ir x) (hy : tl_ir y) : (if Int32.ofInt x < Int32.ofInt y then Int32.ofInt y else Int32.ofInt x) = Int32.ofInt (max x y) := by
  by_cases h : x < y
  · rw [if_pos ((tl_ltI hx hy).mpr h), Int.max_eq_right (by omega)]
  · rw [if_neg (fun q => h ((tl_ltI hx hy).mp q)), Int.max_eq_left (by omega)]
theorem tl_mn {x y : Int} (hx : tl_ir x) (hy : tl_ir y) : (if Int32.ofInt y < Int32.ofInt x then Int32.ofInt y else Int32.ofInt x) = Int32.ofInt (min x y) := by
  by_cases h : y < x
  · rw [if_pos ((tl_ltI hy hx).mpr h), Int.min_eq_right (by omega)]
  · rw [if_neg (fun q => h ((tl_ltI hy hx).mp q)), Int.min_eq_left (by omega)]
theorem tl_ra {a : Nat} (h : tl_ir (a : Int)) : a < 2147483648 := by have := h.2; omega
theorem tl_cons {v : tl_V} {r : List tl_V} (h : ∀ x ∈ v :: r, tl_vr x) : tl_vr v ∧ ∀ x ∈ r, tl_vr x := ⟨h v List.mem_cons_self, fun x hx => h x (List.mem_cons_of_mem _ hx)⟩
theorem tl_push {v : tl_V} {r : List tl_V} (h1 : tl_vr v) (h2 : ∀ x ∈ r, tl_vr x) : ∀ x ∈ v :: r, tl_vr x := by
  intro x hx
  rcases List.mem_cons.mp hx with rfl | hx
  · exact h1
  · exact h2 x hx
theorem tl_put_r {L : tl_L} {i : Nat} {v : tl_V} (h : ∀ q ∈ L, tl_vr q.2) (hv : tl_vr v) : ∀ q ∈ tl_put L i v, tl_vr q.2 := by
  intro q hq
  rcases tl_put_mem hq with rfl | ⟨h1, _⟩
  · exact hv
  · exact h q h1
theorem tl_set_r {w : tl_W} {k j : Nat} {x : Int} (h : ∀ a b, tl_ir (w a b)) (hx : tl_ir x) : ∀ a b, tl_ir (tl_set w k j x a b) := by
  intro a b
  unfold tl_set va_up
  by_cases h1 : a = k
  · rw [if_pos h1]
    by_cases h2 : b = j
    · rw [if_pos h2]; exact hx
    · rw [if_neg h2]; exact h k b
  · rw [if_neg h1]; exact h a b
theorem tl_en_r {as : List tl_V} (h : ∀ v ∈ as, tl_vr v) : ∀ i, ∀ q ∈ tl_en i as, tl_vr q.2 := by
  induction as with
  | nil => intro i q hq; cases hq
  | cons a r ih =>
    intro i q hq
    rcases List.mem_cons.mp hq with rfl | hq
    · exact h a List.mem_cons_self
    · exact ih (fun v hv => h v (List.mem_cons_of_mem _ hv)) (i + 1) q hq
theorem tl_orb {a b : Nat} (ha : a < 2147483648) (hb : b < 2147483648) : a ||| b < 2147483648 := Nat.or_lt_two_pow (n := 31) ha hb
theorem tl_andb {a b : Nat} (ha : a < 2147483648) : a &&& b < 2147483648 := Nat.lt_of_le_of_lt Nat.and_le_left ha
theorem tl_divb {a b : Nat} (ha : a < 2147483648) : a / b < 2147483648 := Nat.lt_of_le_of_lt (Nat.div_le_self a b) ha
theorem tl_irn {a : Nat} (h : a < 2147483648) : tl_ir (a : Int) := ⟨by omega, by omega⟩
end
section
/-! 04.walk: the walk of the small machine is a walk of the machine; contracts out of it -/
def tl_ws (P : tl_P) (nm : Nat → MethodName) (bs : Nat → ByteArray) (WS : List Cond) (j : Nat) : List Cond := Cond.code (nm j) (bs j) (P.1 j).2.1 (P.1 j).2.2 :: WS
def tl_rm (d : Nat) : Room := { frames := d, cells := 0, slots := 0, locals := 40 * d }
/-- what is asked of the numbers and words of a class: every row of it is decided -/
def tl_face (P : tl_P) (N : Nat) (ks : List Nat) (sf : Bool) (n9 : Nat) (cn fn : String) (T : u_T) (ty0 : Nat → FieldType) (nM : Nat) (nm : Nat → MethodName) (bs : Nat → ByteArray) (sta : Nat → Bool) (WS : List Cond) : Prop :=
  (∀ j, j < nM → ∀ q ∈ (P.1 j).1, decode (bs j) q.1 = .ok (q.2, tl_len q.2) ∧ tl_ok P sta (P.1 j).2.1 q.1 q.2 = true) ∧
  (∀ j, j < nM → (nm j).cls = cn ∧ (P.1 j).2.1 ≤ 20 ∧ Cond.code (nm j) (bs j) (P.1 j).2.1 (P.1 j).2.2 ∈ WS) ∧
  (∀ w ∈ WS, (w.onTables && w.keeps) = true ∨ ∃ ty, w = .arrayClass ty) ∧
  (plainName cn = true ∧ cn ≠ "java/lang/invoke/MethodHandle" ∧ cn ≠ "java/lang/invoke/VarHandle" ∧ Cond.initialized cn ∈ WS ∧ ∀ w ∈ u_ws cn T N, w ∈ WS) ∧
  (∀ k, k < N → (T k).1 = cn ∧ (k ∈ ks ↔ (P.2.2.1 k).isSome = true) ∧ (P.2.2.1 k = none → (T k).2.2.2 = false ∧ parseFieldDescriptor (T k).2.2.1 = some .int)) ∧
  (∀ k n, P.2.2.1 k = some n → n < 2 ^ 31 ∧ (k ∈ ks ∨ (k = 99 ∧ sf = true ∧ n = n9))) ∧
  (∀ ix k, P.2.1 ix = some k → (k < 99 → k < N ∧ Cond.fieldLink cn ix cn (T k).2.1 (T k).2.2.1 ∈ WS) ∧ (k = 99 → sf = true ∧ Cond.fieldLink cn ix cn fn "[I" ∈ WS)) ∧
  (∀ ix q, P.2.2.2.1 ix = some q →
    (q.1 < 1000 → q.1 < nM ∧ q.2 ≤ (P.1 q.1).2.1 ∧ Cond.methodLink cn ix (nm q.1) ∈ WS ∧
      (sta q.1 = true → Cond.static (nm q.1) ∈ WS ∧ (parseMethodDescriptor (nm q.1).desc).map (fun d => d.parameters.length) = some q.2) ∧
      (sta q.1 = false → Cond.instanceMethod (nm q.1) ∈ WS ∧ Cond.selects cn (nm q.1) (nm q.1) ∈ WS ∧ (parseMethodDescriptor (nm q.1).desc).map (fun d => d.parameters.length) = some (q.2 - 1))) ∧
    (q.1 = 1000 → Cond.methodLink cn ix Lib.Math.max.name ∈ WS ∧ Cond.static Lib.Math.max.name ∈ WS ∧ Cond.initialized "java/lang/Math" ∈ WS ∧ Cond.code Lib.Math.max.name Lib.Math.max.code 2 (some .int) ∈ WS) ∧
    (q.1 = 1001 → Cond.methodLink cn ix Lib.Math.min.name ∈ WS ∧ Cond.static Lib.Math.min.name ∈ WS ∧ Cond.initialized "java/lang/Math" ∈ WS ∧ Cond.code Lib.Math.min.name Lib.Math.min.code 2 (some .int) ∈ WS)) ∧
  (va_nd ks = true ∧ (∀ k, k < N → parseFieldDescriptor (T k).2.2.1 = some (ty0 k)) ∧ (∀ a, a < N → ∀ b, b < N → a ≠ b → (T a).2.1 ≠ (T b).2.1))
/-- the world at an object -/
def tl_B (P : tl_P) (N ci : Nat) (ks : List Nat) (D : va_G) (cl : List vw_C) (o : Nat) (ad : Nat → Nat) (cA : Nat → ClassId) (w : tl_W) (U : State) : Prop :=
  va_P D cl (tl_ce P N ci ks o ad cA w) U.heap ∧ va_K D cl (ks.map fun k => (cA k, FieldType.int)) U ∧ va_D (fun _ => True) (tl_ce P N ci ks o ad cA w)
def tl_Pc (P : tl_P) (N ci : Nat) (ks : List Nat) (sf : Bool) (n9 : Nat) (cn fn : String) (D : va_G) (cl : List vw_C) (o : Nat) (ad : Nat → Nat) (cA : Nat → ClassId) (as : List tl_V) (w : tl_W) (sz : Nat) : Array Value → State → Prop :=
  va_Pc (as.map (tl_val o ad)) (fun U => U.heap.size = sz ∧ tl_B P N ci ks D cl o ad cA w U ∧ tl_G sf cn fn n9 ad w (tl_A o ks ad sz) U U.heap)
def tl_Qc (P : tl_P) (N ci : Nat) (ks : List Nat) (D : va_G) (cl : List vw_C) (o : Nat) (ad : Nat → Nat) (cA : Nat → ClassId) (w : tl_W) (Q : tl_Q) (sz : Nat) : Array Value → State → Outcome → State → Prop :=
  fun _ st oc t => (∃ (r : Option Int) (w' : tl_W), oc = .returned (r.map (fun x => Value.int (Int32.ofInt x))) ∧ Q (.inl r) w' ∧ tl_B P N ci ks D cl o ad cA w' t ∧ w' 99 = w 99 ∧ (∀ x, r = some x → tl_ir x) ∧ ∀ a b, tl_ir (w' a b)) ∧ va_F (tl_A o ks ad sz) st t
theorem tl_G.use {sf : Bool} {cn fn : String} {n9 : Nat} {ad : Nat → Nat} {w w' : tl_W} {A B : Nat → Prop} {s U : State} {H : Heap} (h : tl_G sf cn fn n9 ad w A s s.heap) (hvm : s.vm.Alike U.vm) (hU : U.heap = H) (hH : ∀ q : Nat, q < s.heap.size → ¬ A q → H[q]? = s.heap[q]?) (hBA : ∀ q, B q → A q) (hw : w' 99 = w 99) : tl_G sf cn fn n9 ad w' B U U.heap := by
  intro hs
  obtain ⟨h1, h2⟩ := h hs
  rw [hU, hw]
  exact ⟨((h1.kept hH).moved hvm).narrow hBA, ((h2.kept hH).moved hvm).narrow hBA⟩
section TLW
variable {p : Program} {l : Launch} {e : Env} {R : Room} {s : State} {m : MethodId} {args : Array Value} {below : List Frame} {meth : Method} {c : Code} {H : Heap} {locs : List Loc} {QQ : State → Prop}
variable {P : tl_P} {N ci : Nat} {ks : List Nat} {sf : Bool} {n9 : Nat} {cn fn : String} {D : va_G} {cl : List vw_C} {o : Nat} {ad : Nat → Nat} {cA : Nat → ClassId} {T : u_T} {ty0 : Nat → FieldType} {nM : Nat} {nm : Nat → MethodName} {bs : Nat → ByteArray} {sta : Nat → Bool} {WS : List Cond}
theorem tl_callk {pc : Nat} {ls : Array Slot} {st0 rest : List Value} {a : Array Value} {w : tl_W} {Q : tl_Q} {sz : Nat} {A0 : Nat → Prop} {H0 : Heap}
    (hr : va_Run p l e R s m args below meth c H locs 0 0 0 0 (F0 m pc ls st0) rest (tl_Qc P N ci ks D cl o ad cA w Q sz a) (tl_A o ks ad sz)) (hS : va_S A0 H0 H locs) (hA : ∀ q, tl_A o ks ad sz q → A0 q)
    (kk : ∀ (r : Option Int) (w' : tl_W) (t : State) (H1 : Heap) (locs1 : List Loc), t.heap = H1 → s.vm.Alike t.vm → Q (.inl r) w' → tl_B P N ci ks D cl o ad cA w' t → w' 99 = w 99 → (∀ x, r = some x → tl_ir x) → (∀ a b, tl_ir (w' a b)) → va_S A0 H0 H1 locs1 → W p l e R s m args below meth c H1 locs1 0 0 QQ (F0 m (pc + 3) ls ((r.map (fun x => Value.int (Int32.ofInt x))).toList ++ rest))) :
    W p l e R s m args below meth c H locs 0 0 QQ (F0 m pc ls st0) := by
  intro T hT X
  obtain ⟨v, st₀, t, T', L, h0, X', hL, e1, e2, ⟨⟨r, w', hv, hq, hb, h9, hr1, hr2⟩, hz, hk⟩, st⟩ := hr T hT X
  cases hv
  rw [h0] at hz hk
  obtain ⟨t2, a1, b1⟩ := kk r w' t T'.heap (locs ++ L) e1.symm (by rw [← e2]; exact X'.warmed.alike) hq hb h9 hr1 hr2
    ⟨Nat.le_trans hS.1 (by rw [e1]; exact hz), fun q h1 h2 => by rw [e1, hk q (Nat.lt_of_lt_of_le h1 hS.1) (fun z => h2 (hA q z))]; exact hS.2.1 q h1 h2, fun q hq => by
      rcases List.mem_append.mp hq with h | h
      · exact hS.2.2 q h
      · exact hA _ (hL q h)⟩ T' rfl X'
  exact ⟨t2, st t2 a1, b1⟩
theorem tl_blind {as : List tl_V} {w : tl_W} {sz : Nat} : FrameBlind (tl_Pc P N ci ks sf n9 cn fn D cl o ad cA as w sz) := by
  intro a U g mk q
  obtain ⟨q0, q1, ⟨qP, qK, qD⟩, qG⟩ := q
  refine ⟨q0, q1, ⟨qP, va_K.moved (u := U) (U := U.calling g mk a) (Vm.Alike.refl U.vm) qK, qD⟩, fun hs => ?_⟩
  obtain ⟨g1, g2⟩ := qG hs
  exact ⟨va_Z.moved (u := U) (U := U.calling g mk a) (Vm.Alike.refl U.vm) g1, va_T.moved (u := U) (U := U.calling g mk a) (Vm.Alike.refl U.vm) g2⟩
theorem tl_good (hW : ∀ w ∈ WS, (w.onTables && w.keeps) = true ∨ ∃ ty, w = .arrayClass ty) {j j' : Nat} (hc : Cond.code (nm j') (bs j') (P.1 j').2.1 (P.1 j').2.2 ∈ WS) : GoodIn (tl_ws P nm bs WS j) (tl_ws P nm bs WS j') := by
  intro w hw
  rcases List.mem_cons.mp hw with rfl | hw
  · exact ⟨List.mem_cons_of_mem _ hc, hW _ hc⟩
  · exact ⟨List.mem_cons_of_mem _ hw, hW _ hw⟩
set_option maxHeartbeats 4000000 in
set_option maxRecDepth 100000 in
theorem tl_walk (F : tl_face P N ks sf n9 cn fn T ty0 nM nm bs sta WS) {d j : Nat} {Q : tl_Q} {w0 : tl_W} (hR : R.frames = d + 1 ∧ R.locals = 40 * (d + 1)) (hx : p.tables.exec = Jvm.exec) (hb : c.code = bs j) (hml : c.maxLocals = (P.1 j).2.1) (hown : s.vm.findClass cn = some m.cls) (hts : ∀ w ∈ tl_ws P nm bs WS j, w.before args s = true)
    (hj : j < nM) (hc : cl[ci]? = some (cn, T, N)) (hK : va_K D cl (ks.map fun k => (cA k, FieldType.int)) s) (hG : tl_G sf cn fn n9 ad w0 (tl_A o ks ad s.heap.size) s s.heap)
    (hM : ∀ (j' : Nat) (as : List tl_V) (w : tl_W) (Q' : tl_Q) (sz : Nat), j' < nM → as.length ≤ (P.1 j').2.1 → (∀ v ∈ as, tl_vr v) → (∀ a b, tl_ir (w a b)) → (∀ k w', ¬ Q' (.inr k) w') → tl_C P d j' as w Q' → Met l (nm j') (tl_ws P nm bs WS j') (tl_rm d) (tl_Pc P N ci ks sf n9 cn fn D cl o ad cA as w sz) (tl_Qc P N ci ks D cl o ad cA w Q' sz) 0 0 (tl_A o ks ad sz))
    (hret : ∀ (r : Option Int) (w' : tl_W) (H : Heap) (locs : List Loc) (pc : Nat) (ls : Array Slot), Q (.inl r) w' → va_P D cl (tl_ce P N ci ks o ad cA w') H → va_D (tl_A o ks ad s.heap.size) (tl_ce P N ci ks o ad cA w') → va_S (tl_A o ks ad s.heap.size) s.heap H locs → w' 99 = w0 99 → (∀ a b, tl_ir (w' a b)) → (∀ x, r = some x → tl_ir x) →
      (match r with
        | some x => decode (bs j) pc = .ok (.ireturn, 1) ∧ ∃ ty, (P.1 j).2.2 = some ty ∧ (ty = .int ∨ ((x = 0 ∨ x = 1) ∧ ty = .boolean))
        | none => decode (bs j) pc = .ok (.return_, 1) ∧ (P.1 j).2.2 = none) → W p l e R s m args below meth c H locs 0 0 QQ (F0 m pc ls ((r.map (fun x => Value.int (Int32.ofInt x))).toList)))
    (hthr : ∀ (k : Nat) (w' : tl_W) (H : Heap) (locs : List Loc) (pc ix : Nat) (ls : Array Slot), Q (.inr k) w' → va_P D cl (tl_ce P N ci ks o ad cA w') H → va_D (tl_A o ks ad s.heap.size) (tl_ce P N ci ks o ad cA w') → va_S (tl_A o ks ad s.heap.size) s.heap H locs → w' 99 = w0 99 → (∀ a b, tl_ir (w' a b)) →
      ls.size = (P.1 j).2.1 → P.2.2.2.2 ix = some k → tl_at (P.1 j).1 pc = some (.new ix) → decode (bs j) pc = .ok (.new ix, 3) → W p l e R s m args below meth c H locs 0 0 QQ (F0 m pc ls [])) :
    ∀ (n pc : Nat) (L : tl_L) (st : List tl_V) (w : tl_W) (H : Heap) (locs : List Loc) (ls : Array Slot), tl_wp P (tl_C P d) j Q n pc L st w → lv_has ls (P.1 j).2.1 (tl_lm o ad L) → va_P D cl (tl_ce P N ci ks o ad cA w) H → va_D (tl_A o ks ad s.heap.size) (tl_ce P N ci ks o ad cA w) → va_S (tl_A o ks ad s.heap.size) s.heap H locs → w 99 = w0 99 → (∀ q ∈ L, tl_vr q.2) → (∀ v ∈ st, tl_vr v) → (∀ a b, tl_ir (w a b)) →
      W p l e R s m args below meth c H locs 0 0 QQ (F0 m pc ls (st.map (tl_val o ad))) := by
  obtain ⟨f1, f2, f3, ⟨f4, f4a, f4b, f4c, f4d⟩, f5, f6, f7, f8, f9, f9a, f9b⟩ := F
  have hin : ∀ w ∈ WS, w.before args s = true := fun w hw => hts w (List.mem_cons_of_mem _ hw)
  have hsub : ∀ w ∈ u_ws cn T N, w ∈ tl_ws P nm bs WS j := fun w hw => List.mem_cons_of_mem _ (f4d w hw)
  intro n
  induction n with
  | zero => intro pc L st w H locs ls h; exact h.elim
  | succ n ih =>
    intro pc L st w H locs ls h hl hP hD hS h99 hLr hsr hwr
    obtain ⟨i, hi, h⟩ := tl_some_s h
    obtain ⟨hdg, hok⟩ := f1 j hj _ (tl_at_mem _ _ _ hi)
    cases i with
    | iconst k =>
      have hok := (Bool.and_eq_true _ _).mp hok
      have hr : tl_ir k := ⟨of_decide_eq_true hok.1, of_decide_eq_true hok.2⟩
      exact lv_iconst hx hb hdg rfl (ih (pc + 1) L (.inl k :: st) w H locs ls h hl hP hD hS h99 hLr (tl_push (v := .inl k) hr hsr) hwr)
    | bipush k =>
      have hok := (Bool.and_eq_true _ _).mp hok
      have hok2 := (Bool.and_eq_true _ _).mp hok.2
      have hr : tl_ir k := ⟨of_decide_eq_true hok2.1, of_decide_eq_true hok2.2⟩
      exact lv_bipush hx hb hdg (of_decide_eq_true hok.1) (ih (pc + 2) L (.inl k :: st) w H locs ls h hl hP hD hS h99 hLr (tl_push (v := .inl k) hr hsr) hwr)
    | sipush k =>
      have hok := (Bool.and_eq_true _ _).mp hok
      have hok2 := (Bool.and_eq_true _ _).mp hok.2
      have hr : tl_ir k := ⟨of_decide_eq_true hok2.1, of_decide_eq_true hok2.2⟩
      exact lv_sipush hx hb hdg (of_decide_eq_true hok.1) (ih (pc + 3) L (.inl k :: st) w H locs ls h hl hP hD hS h99 hLr (tl_push (v := .inl k) hr hsr) hwr)
    | iload_n k =>
      obtain ⟨x, hg, h⟩ := tl_ldi_s h
      exact lv_iload_n hx hb hdg rfl (tl_has_get hl hg) (ih (pc + 1) L (.inl x :: st) w H locs ls h hl hP hD hS h99 hLr (tl_push (hLr _ (tl_get_mem _ _ _ hg)) hsr) hwr)
    | iload k =>
      obtain ⟨x, hg, h⟩ := tl_ldi_s h
      exact lv_iload hx hb hdg (tl_has_get hl hg) (ih (pc + 2) L (.inl x :: st) w H locs ls h hl hP hD hS h99 hLr (tl_push (hLr _ (tl_get_mem _ _ _ hg)) hsr) hwr)
    | aload_n k =>
      obtain ⟨a, hg, h⟩ := tl_lda_s h
      cases a with
      | zero => exact lv_aload_n hx hb hdg rfl (tl_has_get hl hg) (ih (pc + 1) L (.inr 0 :: st) w H locs ls h hl hP hD hS h99 hLr (tl_push (v := .inr 0) trivial hsr) hwr)
      | succ a => exact lv_aload_n hx hb hdg rfl (tl_has_get hl hg) (ih (pc + 1) L (.inr (a + 1) :: st) w H locs ls h hl hP hD hS h99 hLr (tl_push (v := .inr (a + 1)) trivial hsr) hwr)
    | istore_n k =>
      obtain ⟨x, r, rfl, h⟩ := tl_st1_s h
      obtain ⟨hv, hsr⟩ := tl_cons hsr
      exact lv_istore_n hx hb hdg rfl hl (of_decide_eq_true hok) rfl (fun ls' hl' => ih (pc + 1) (tl_put L k (.inl x)) r w H locs ls' h (tl_has_put (v := .inl x) hl') hP hD hS h99 (tl_put_r hLr hv) hsr hwr)
    | istore k =>
      obtain ⟨x, r, rfl, h⟩ := tl_st1_s h
      obtain ⟨hv, hsr⟩ := tl_cons hsr
      exact lv_istore hx hb hdg hl (of_decide_eq_true hok) rfl (fun ls' hl' => ih (pc + 2) (tl_put L k (.inl x)) r w H locs ls' h (tl_has_put (v := .inl x) hl') hP hD hS h99 (tl_put_r hLr hv) hsr hwr)
    | iinc k a =>
      obtain ⟨x, hg, hr, h⟩ := tl_ldi_s h
      obtain ⟨kp, hkp⟩ := tl_has_plc (o := o) (ad := ad) hg
      exact lv_iinc hx hb hdg hl hkp (v := Int32.ofInt (x + a)) (Int32.ofInt_add x a).symm (of_decide_eq_true hok) rfl (fun ls' hl' => ih (pc + 3) (tl_put L k (.inl (x + a))) st w H locs ls' h (tl_has_put (v := .inl (x + a)) hl') hP hD hS h99 (tl_put_r (v := .inl (x + a)) hLr hr) hsr hwr)
    | iadd =>
      obtain ⟨x, y, r, rfl, hr, h⟩ := tl_st2_s h
      obtain ⟨_, hsr⟩ := tl_cons hsr
      obtain ⟨_, hsr⟩ := tl_cons hsr
      refine lv_iadd hx hb hdg ?_
      rw [← Int32.ofInt_add]
      exact ih (pc + 1) L (.inl (x + y) :: r) w H locs ls h hl hP hD hS h99 hLr (tl_push (v := .inl (x + y)) hr hsr) hwr
    | isub =>
      obtain ⟨x, y, r, rfl, hr, h⟩ := tl_st2_s h
      obtain ⟨_, hsr⟩ := tl_cons hsr
      obtain ⟨_, hsr⟩ := tl_cons hsr
      refine lv_isub hx hb hdg ?_
      rw [← Int32.ofInt_sub]
      exact ih (pc + 1) L (.inl (x - y) :: r) w H locs ls h hl hP hD hS h99 hLr (tl_push (v := .inl (x - y)) hr hsr) hwr
    | imul =>
      obtain ⟨x, y, r, rfl, hr, h⟩ := tl_st2_s h
      obtain ⟨_, hsr⟩ := tl_cons hsr
      obtain ⟨_, hsr⟩ := tl_cons hsr
      refine lv_imul hx hb hdg ?_
      rw [← Int32.ofInt_mul]
      exact ih (pc + 1) L (.inl (x * y) :: r) w H locs ls h hl hP hD hS h99 hLr (tl_push (v := .inl (x * y)) hr hsr) hwr
    | iand =>
      obtain ⟨x, y, r, rfl, a, b, rfl, rfl, h'⟩ := tl_st2_s h
      obtain ⟨hvy, hsr⟩ := tl_cons hsr
      obtain ⟨hvx, hsr⟩ := tl_cons hsr
      have ha := tl_ra hvx
      have hb' := tl_ra hvy
      refine lv_iand hx hb hdg ?_
      rw [tl_and]
      exact ih (pc + 1) L (.inl ((a &&& b : Nat) : Int) :: r) w H locs ls h' hl hP hD hS h99 hLr (tl_push (v := .inl ((a &&& b : Nat) : Int)) (tl_irn (tl_andb ha)) hsr) hwr
    | ior =>
      obtain ⟨x, y, r, rfl, a, b, rfl, rfl, h'⟩ := tl_st2_s h
      obtain ⟨hvy, hsr⟩ := tl_cons hsr
      obtain ⟨hvx, hsr⟩ := tl_cons hsr
      have ha := tl_ra hvx
      have hb' := tl_ra hvy
      refine lv_ior hx hb hdg ?_
      rw [tl_or]
      exact ih (pc + 1) L (.inl ((a ||| b : Nat) : Int) :: r) w H locs ls h' hl hP hD hS h99 hLr (tl_push (v := .inl ((a ||| b : Nat) : Int)) (tl_irn (tl_orb ha hb')) hsr) hwr
    | idiv =>
      obtain ⟨x, y, r, rfl, a, b, rfl, rfl, h0, h'⟩ := tl_st2_s h
      obtain ⟨hvy, hsr⟩ := tl_cons hsr
      obtain ⟨hvx, hsr⟩ := tl_cons hsr
      have ha := tl_ra hvx
      have hb' := tl_ra hvy
      refine lv_idiv hx hb hdg (fun q => by rw [tl_z] at q; have := (tl_eqI hvy tl_ir0).mp q; omega) ?_
      rw [tl_dv ha h0 hb']
      exact ih (pc + 1) L (.inl ((a / b : Nat) : Int) :: r) w H locs ls h' hl hP hD hS h99 hLr (tl_push (v := .inl ((a / b : Nat) : Int)) (tl_irn (tl_divb ha)) hsr) hwr
    | ishl =>
      obtain ⟨x, y, r, rfl, a, b, rfl, rfl, h0, h1, h'⟩ := tl_st2_s h
      obtain ⟨hvy, hsr⟩ := tl_cons hsr
      obtain ⟨hvx, hsr⟩ := tl_cons hsr
      have ha := tl_ra hvx
      have hb' := tl_ra hvy
      refine lv_ishl hx hb hdg ?_
      rw [tl_shl h0 h1]
      exact ih (pc + 1) L (.inl ((a * 2 ^ b : Nat) : Int) :: r) w H locs ls h' hl hP hD hS h99 hLr (tl_push (v := .inl ((a * 2 ^ b : Nat) : Int)) (tl_irn (h1)) hsr) hwr
    | ishr =>
      obtain ⟨x, y, r, rfl, a, b, rfl, rfl, h0, h'⟩ := tl_st2_s h
      obtain ⟨hvy, hsr⟩ := tl_cons hsr
      obtain ⟨hvx, hsr⟩ := tl_cons hsr
      have ha := tl_ra hvx
      have hb' := tl_ra hvy
      refine lv_ishr hx hb hdg ?_
      rw [tl_shr ha h0]
      exact ih (pc + 1) L (.inl ((a / 2 ^ b : Nat) : Int) :: r) w H locs ls h' hl hP hD hS h99 hLr (tl_push (v := .inl ((a / 2 ^ b : Nat) : Int)) (tl_irn (tl_divb ha)) hsr) hwr
    | dup =>
      obtain ⟨v, r, rfl, h⟩ := tl_any1_s h
      obtain ⟨hv, hsr'⟩ := tl_cons hsr
      exact lv_dup hx hb hdg (tl_val_cat o ad v) (ih (pc + 1) L (v :: v :: r) w H locs ls h hl hP hD hS h99 hLr (tl_push hv hsr) hwr)
    | dup2 =>
      obtain ⟨a, r, rfl, h⟩ := tl_any1_s h
      obtain ⟨b, r, rfl, h⟩ := tl_any1_s h
      obtain ⟨hva, hsr'⟩ := tl_cons hsr
      obtain ⟨hvb, _⟩ := tl_cons hsr'
      exact lv_dup2_11 hx hb hdg (tl_val_cat o ad a) (tl_val_cat o ad b) (ih (pc + 1) L (a :: b :: a :: b :: r) w H locs ls h hl hP hD hS h99 hLr (tl_push hva (tl_push hvb hsr)) hwr)
    | pop =>
      obtain ⟨v, r, rfl, h⟩ := tl_any1_s h
      exact lv_pop hx hb hdg (tl_val_cat o ad v) (ih (pc + 1) L r w H locs ls h hl hP hD hS h99 hLr (tl_cons hsr).2 hwr)
    | ifCond cd off =>
      have ht := tl_to_eq (of_decide_eq_true hok)
      cases cd with
      | eq =>
        obtain ⟨x, r, rfl, h⟩ := tl_st1_s h
        obtain ⟨hv, hsr⟩ := tl_cons hsr
        have hiff := tl_eqI hv tl_ir0
        exact lv_if_eq hx hb hdg ht (fun q => ih (tl_to pc off) L r w H locs ls (h.1 (hiff.mp q)) hl hP hD hS h99 hLr hsr hwr) (fun q => ih (pc + 3) L r w H locs ls (h.2 (fun z => q (hiff.mpr z))) hl hP hD hS h99 hLr hsr hwr)
      | ne =>
        obtain ⟨x, r, rfl, h⟩ := tl_st1_s h
        obtain ⟨hv, hsr⟩ := tl_cons hsr
        have hiff := not_congr (tl_eqI hv tl_ir0)
        have heq := tl_eqI hv tl_ir0
        exact lv_if_ne hx hb hdg ht (fun q => ih (tl_to pc off) L r w H locs ls (h.1 (hiff.mp q)) hl hP hD hS h99 hLr hsr hwr) (fun q => ih (pc + 3) L r w H locs ls (h.2 (fun z => z (heq.mp q))) hl hP hD hS h99 hLr hsr hwr)
      | lt =>
        obtain ⟨x, r, rfl, h⟩ := tl_st1_s h
        obtain ⟨hv, hsr⟩ := tl_cons hsr
        have hiff := tl_ltI hv tl_ir0
        exact lv_if_lt hx hb hdg ht (fun q => ih (tl_to pc off) L r w H locs ls (h.1 (hiff.mp q)) hl hP hD hS h99 hLr hsr hwr) (fun q => ih (pc + 3) L r w H locs ls (h.2 (fun z => q (hiff.mpr z))) hl hP hD hS h99 hLr hsr hwr)
      | ge =>
        obtain ⟨x, r, rfl, h⟩ := tl_st1_s h
        obtain ⟨hv, hsr⟩ := tl_cons hsr
        have hiff := tl_leI tl_ir0 hv
        exact lv_if_ge hx hb hdg ht (fun q => ih (tl_to pc off) L r w H locs ls (h.1 (hiff.mp q)) hl hP hD hS h99 hLr hsr hwr) (fun q => ih (pc + 3) L r w H locs ls (h.2 (fun z => q (hiff.mpr z))) hl hP hD hS h99 hLr hsr hwr)
      | gt =>
        obtain ⟨x, r, rfl, h⟩ := tl_st1_s h
        obtain ⟨hv, hsr⟩ := tl_cons hsr
        have hiff := tl_ltI tl_ir0 hv
        exact lv_if_gt hx hb hdg ht (fun q => ih (tl_to pc off) L r w H locs ls (h.1 (hiff.mp q)) hl hP hD hS h99 hLr hsr hwr) (fun q => ih (pc + 3) L r w H locs ls (h.2 (fun z => q (hiff.mpr z))) hl hP hD hS h99 hLr hsr hwr)
      | le =>
        obtain ⟨x, r, rfl, h⟩ := tl_st1_s h
        obtain ⟨hv, hsr⟩ := tl_cons hsr
        have hiff := tl_leI hv tl_ir0
        exact lv_if_le hx hb hdg ht (fun q => ih (tl_to pc off) L r w H locs ls (h.1 (hiff.mp q)) hl hP hD hS h99 hLr hsr hwr) (fun q => ih (pc + 3) L r w H locs ls (h.2 (fun z => q (hiff.mpr z))) hl hP hD hS h99 hLr hsr hwr)
    | if_icmp cd off =>
      have ht := tl_to_eq (of_decide_eq_true hok)
      cases cd with
      | eq =>
        obtain ⟨x, y, r, rfl, h⟩ := tl_st2_s h
        obtain ⟨hvy, hsr⟩ := tl_cons hsr
        obtain ⟨hvx, hsr⟩ := tl_cons hsr
        have hiff := tl_eqI hvx hvy
        exact lv_icmp_eq hx hb hdg ht (fun q => ih (tl_to pc off) L r w H locs ls (h.1 (hiff.mp q)) hl hP hD hS h99 hLr hsr hwr) (fun q => ih (pc + 3) L r w H locs ls (h.2 (fun z => q (hiff.mpr z))) hl hP hD hS h99 hLr hsr hwr)
      | ne =>
        obtain ⟨x, y, r, rfl, h⟩ := tl_st2_s h
        obtain ⟨hvy, hsr⟩ := tl_cons hsr
        obtain ⟨hvx, hsr⟩ := tl_cons hsr
        have hiff := not_congr (tl_eqI hvx hvy)
        have heq := tl_eqI hvx hvy
        exact lv_icmp_ne hx hb hdg ht (fun q => ih (tl_to pc off) L r w H locs ls (h.1 (hiff.mp q)) hl hP hD hS h99 hLr hsr hwr) (fun q => ih (pc + 3) L r w H locs ls (h.2 (fun z => z (heq.mp q))) hl hP hD hS h99 hLr hsr hwr)
      | lt =>
        obtain ⟨x, y, r, rfl, h⟩ := tl_st2_s h
        obtain ⟨hvy, hsr⟩ := tl_cons hsr
        obtain ⟨hvx, hsr⟩ := tl_cons hsr
        have hiff := tl_ltI hvx hvy
        exact lv_icmp_lt hx hb hdg ht (fun q => ih (tl_to pc off) L r w H locs ls (h.1 (hiff.mp q)) hl hP hD hS h99 hLr hsr hwr) (fun q => ih (pc + 3) L r w H locs ls (h.2 (fun z => q (hiff.mpr z))) hl hP hD hS h99 hLr hsr hwr)
      | ge =>
        obtain ⟨x, y, r, rfl, h⟩ := tl_st2_s h
        obtain ⟨hvy, hsr⟩ := tl_cons hsr
        obtain ⟨hvx, hsr⟩ := tl_cons hsr
        have hiff := tl_leI hvy hvx
        exact lv_icmp_ge hx hb hdg ht (fun q => ih (tl_to pc off) L r w H locs ls (h.1 (hiff.mp q)) hl hP hD hS h99 hLr hsr hwr) (fun q => ih (pc + 3) L r w H locs ls (h.2 (fun z => q (hiff.mpr z))) hl hP hD hS h99 hLr hsr hwr)
      | gt =>
        obtain ⟨x, y, r, rfl, h⟩ := tl_st2_s h
        obtain ⟨hvy, hsr⟩ := tl_cons hsr
        obtain ⟨hvx, hsr⟩ := tl_cons hsr
        have hiff := tl_ltI hvy hvx
        exact lv_icmp_gt hx hb hdg ht (fun q => ih (tl_to pc off) L r w H locs ls (h.1 (hiff.mp q)) hl hP hD hS h99 hLr hsr hwr) (fun q => ih (pc + 3) L r w H locs ls (h.2 (fun z => q (hiff.mpr z))) hl hP hD hS h99 hLr hsr hwr)
      | le =>
        obtain ⟨x, y, r, rfl, h⟩ := tl_st2_s h
        obtain ⟨hvy, hsr⟩ := tl_cons hsr
        obtain ⟨hvx, hsr⟩ := tl_cons hsr
        have hiff := tl_leI hvx hvy
        exact lv_icmp_le hx hb hdg ht (fun q => ih (tl_to pc off) L r w H locs ls (h.1 (hiff.mp q)) hl hP hD hS h99 hLr hsr hwr) (fun q => ih (pc + 3) L r w H locs ls (h.2 (fun z => q (hiff.mpr z))) hl hP hD hS h99 hLr hsr hwr)
    | goto off => exact lv_goto hx hb hdg (tl_to_eq (of_decide_eq_true hok)) (ih (tl_to pc off) L st w H locs ls h hl hP hD hS h99 hLr hsr hwr)
    | getfield ix =>
      obtain ⟨a, r, rfl, rfl, h1⟩ := tl_sta_s h
      clear h
      obtain ⟨k, hk, h9, h⟩ := tl_some_s h1
      obtain ⟨_, hsr⟩ := tl_cons hsr
      obtain ⟨hkN, hlk⟩ := (f7 ix k hk).1 h9
      obtain ⟨g1, g2, g3⟩ := f5 k hkN
      have hfa := tl_fs_at (ks := ks) (ad := ad) (w := w) hkN
      cases hv : P.2.2.1 k with
      | some z =>
        rw [hv] at h
        rw [if_pos (g2.mpr (by rw [hv]; rfl))] at hfa
        exact va_get hx hb hts hsub hown hK hP 0 rfl hc k hkN (hin _ hlk) (fun x hx' => by rw [g1] at hx'; exact hx') hfa hdg (ih (pc + 3) L (.inr (k + 1) :: r) w H locs ls h hl hP hD hS h99 hLr (tl_push (v := .inr (k + 1)) trivial hsr) hwr)
      | none =>
        rw [hv] at h
        rw [if_neg (fun q => by have := g2.mp q; rw [hv] at this; cases this)] at hfa
        exact va_get hx hb hts hsub hown hK hP 0 rfl hc k hkN (hin _ hlk) (fun x hx' => by rw [g1] at hx'; exact hx') hfa hdg (ih (pc + 3) L (.inl (w k 0) :: r) w H locs ls h hl hP hD hS h99 hLr (tl_push (v := .inl (w k 0)) (hwr k 0) hsr) hwr)
    | putfield ix =>
      obtain ⟨x, r, rfl, h⟩ := tl_st1_s h
      obtain ⟨a, r, rfl, rfl, h1⟩ := tl_sta_s h
      clear h
      obtain ⟨k, hk, h9, hv, h⟩ := tl_some_s h1
      obtain ⟨hvx, hsr⟩ := tl_cons hsr
      obtain ⟨_, hsr⟩ := tl_cons hsr
      obtain ⟨hkN, hlk⟩ := (f7 ix k hk).1 h9
      obtain ⟨g1, g2, g3⟩ := f5 k hkN
      obtain ⟨g4, g5⟩ := g3 hv
      have hks : k ∉ ks := fun q => by have := g2.mp q; rw [hv] at this; cases this
      refine va_put hx hb hts hsub ty0 f9a f9b hown hK hP hD hS 0 rfl hc k hkN (hin _ hlk) (fun x hx' => by rw [g1] at hx'; exact hx') g4 g5 rfl rfl (by rw [tl_fs_len]; exact hkN) hdg (fun H1 locs1 hP1 hD1 hS1 => ?_)
      have e1 : (tl_ce P N ci ks o ad cA w).set 0 (o, .inr (ci, (tl_fs N ks ad w).set k (tl_val o ad (.inl x)))) = tl_ce P N ci ks o ad cA (tl_set w k 0 x) := tl_ce_put hkN hks
      rw [e1] at hP1 hD1
      refine ih (pc + 3) L r (tl_set w k 0 x) H1 locs1 ls h hl hP1 hD1 hS1 ?_ hLr hsr (tl_set_r hwr hvx)
      unfold tl_set
      rw [if_neg (by omega)]
      exact h99
    | getstatic ix =>
      obtain ⟨hk, h⟩ := h
      obtain ⟨hsf, hlk⟩ := (f7 ix 99 hk).2 rfl
      obtain ⟨hZ, -⟩ := hG hsf
      exact va_gets hx hb hZ hS hown (hin _ hlk) (fun x hx' => hx') hdg (ih (pc + 3) L (.inr 100 :: st) w H locs ls h hl hP hD hS h99 hLr (tl_push (v := .inr 100) trivial hsr) hwr)
    | iaload =>
      obtain ⟨x, r, rfl, h⟩ := tl_st1_s h
      obtain ⟨a, r, rfl, k, b, n', rfl, rfl, hn, hbn, h1⟩ := tl_sta_s h
      clear h
      have h := h1
      obtain ⟨_, hsr1⟩ := tl_cons hsr
      obtain ⟨_, hsr2⟩ := tl_cons hsr1
      clear hsr hsr1
      have hsr := hsr2
      obtain ⟨hn31, hkk⟩ := f6 k n' hn
      have hin' : vp_in (nI b) n' := vp_in_nI hbn hn31
      have hcl : (nI b).toNatClampNeg = b := nI_clamp (Nat.lt_trans hbn hn31)
      have eb : tl_val o ad (.inl (b : Int)) = .int (nI b) := by show Value.int (Int32.ofInt (b : Int)) = _; rw [tl_nI]
      show W p l e R s m args below meth c H locs 0 0 QQ (F0 m pc ls (tl_val o ad (.inl (b : Int)) :: .ref (ad k) :: r.map (tl_val o ad)))
      rw [eb]
      rcases hkk with hkk | ⟨rfl, hsf, rfl⟩
      · obtain ⟨q0, hq0⟩ := List.getElem?_of_mem hkk
        have hty : (ks.map fun k => (cA k, FieldType.int))[q0]? = some (cA k, FieldType.int) := by rw [List.getElem?_map, hq0]; rfl
        refine va_iald hx hb hK hP (q0 + 1) q0 (tl_ce_arr hq0 hn) hty hin' hdg ?_
        rw [hcl]
        exact ih (pc + 1) L (.inl (w k b) :: r) w H locs ls h hl hP hD hS h99 hLr (tl_push (v := .inl (w k b)) (hwr k b) hsr) hwr
      · obtain ⟨-, hT⟩ := hG hsf
        exact va_ti hx hb hT hS hin' (v := .int (Int32.ofInt (w 99 b))) (by rw [hcl, h99]) hdg (ih (pc + 1) L (.inl (w 99 b) :: r) w H locs ls h hl hP hD hS h99 hLr (tl_push (v := .inl (w 99 b)) (hwr 99 b) hsr) hwr)
    | iastore =>
      obtain ⟨i', x, r, rfl, h⟩ := tl_st2_s h
      obtain ⟨a, r, rfl, k, b, n', rfl, h9, rfl, hn, hbn, h1⟩ := tl_sta_s h
      clear h
      have h := h1
      obtain ⟨hvx, hsr⟩ := tl_cons hsr
      obtain ⟨_, hsr⟩ := tl_cons hsr
      obtain ⟨_, hsr⟩ := tl_cons hsr
      obtain ⟨hn31, hkk⟩ := f6 k n' hn
      have hin' : vp_in (nI b) n' := vp_in_nI hbn hn31
      have hcl : (nI b).toNatClampNeg = b := nI_clamp (Nat.lt_trans hbn hn31)
      have eb : tl_val o ad (.inl (b : Int)) = .int (nI b) := by show Value.int (Int32.ofInt (b : Int)) = _; rw [tl_nI]
      show W p l e R s m args below meth c H locs 0 0 QQ (F0 m pc ls (.int (Int32.ofInt x) :: tl_val o ad (.inl (b : Int)) :: .ref (ad k) :: r.map (tl_val o ad)))
      rw [eb]
      rcases hkk with hkk | ⟨h99', -⟩
      · obtain ⟨q0, hq0⟩ := List.getElem?_of_mem hkk
        have hty : (ks.map fun k => (cA k, FieldType.int))[q0]? = some (cA k, FieldType.int) := by rw [List.getElem?_map, hq0]; rfl
        refine va_iast hx hb hK hP hD hS (q0 + 1) q0 (tl_ce_arr hq0 hn) hty hin' hdg (fun H1 locs1 hP1 hD1 hS1 => ?_)
        rw [hcl, tl_ce_set f9 hq0 hn] at hP1 hD1
        refine ih (pc + 1) L r (tl_set w k b x) H1 locs1 ls h hl hP1 hD1 hS1 ?_ hLr hsr (tl_set_r hwr hvx)
        unfold tl_set
        rw [if_neg (fun e => h9 e.symm)]
        exact h99
      · exact absurd h99' h9
    | invokestatic ix =>
      obtain ⟨q, hq, h⟩ := tl_some_s h
      obtain ⟨g1, g2, g3⟩ := f8 ix q hq
      cases h0 : Nat.beq q.1 1000 with
      | true =>
        rw [h0] at h
        obtain ⟨x, y, r, rfl, h8, h⟩ := tl_st2_s h
        obtain ⟨hvy, hsr⟩ := tl_cons hsr
        obtain ⟨hvx, hsr⟩ := tl_cons hsr
        obtain ⟨k1, k2, k3, k4⟩ := g2 (Nat.eq_of_beq_eq_true h0)
        refine va_mmax hx hb (by rw [hml]; exact hl.1.symm) hown (hin _ k1) (hin _ k2) (hin _ k3) (hin _ k4) (by rw [hR.1]; omega) (by rw [tl_sum, hR.2]; omega) (Nat.zero_le _) (Nat.zero_le _) hdg ?_
        rw [tl_mx hvx hvy]
        exact ih (pc + 3) L (.inl (max x y) :: r) w H locs ls h hl hP hD hS h99 hLr (tl_push (v := .inl (max x y)) (by have h1 := hvx; have h2 := hvy; exact ⟨by have := h1.1; have := h2.1; omega, by have := h1.2; have := h2.2; omega⟩) hsr) hwr
      | false =>
        rw [h0] at h
        cases h1 : Nat.beq q.1 1001 with
        | true =>
          rw [h1] at h
          obtain ⟨x, y, r, rfl, h8, h⟩ := tl_st2_s h
          obtain ⟨hvy, hsr⟩ := tl_cons hsr
          obtain ⟨hvx, hsr⟩ := tl_cons hsr
          obtain ⟨k1, k2, k3, k4⟩ := g3 (Nat.eq_of_beq_eq_true h1)
          refine va_mmin hx hb (by rw [hml]; exact hl.1.symm) hown (hin _ k1) (hin _ k2) (hin _ k3) (hin _ k4) (by rw [hR.1]; omega) (by rw [tl_sum, hR.2]; omega) (Nat.zero_le _) (Nat.zero_le _) hdg ?_
          rw [tl_mn hvx hvy]
          exact ih (pc + 3) L (.inl (min x y) :: r) w H locs ls h hl hP hD hS h99 hLr (tl_push (v := .inl (min x y)) (by have h1 := hvx; have h2 := hvy; exact ⟨by have := h1.1; have := h2.1; omega, by have := h1.2; have := h2.2; omega⟩) hsr) hwr
        | false =>
          rw [h1] at h
          obtain ⟨hn, h8, h⟩ := h
          have hdr : ∀ v ∈ st.drop q.2, tl_vr v := fun v hv => hsr v (List.mem_of_mem_drop hv)
          simp only [tl_ok, hq, h0, h1, Bool.false_or, Bool.and_eq_true, decide_eq_true_eq] at hok
          obtain ⟨k1, k2, k3, k4, k5⟩ := g1 hok.1
          obtain ⟨k6, k7⟩ := k4 hok.2
          obtain ⟨hcls, hm20, hcw⟩ := f2 q.1 k1
          have hMc := hM q.1 (st.take q.2).reverse w _ H.size k1 (by rw [List.length_reverse, List.length_take]; omega) (fun v hv => hsr v (List.mem_of_mem_take (List.mem_reverse.mp hv))) hwr (fun _ _ z => z) h
          refine tl_callk (rest := (st.drop q.2).map (tl_val o ad)) (va_runS (Ts := tl_ws P nm bs WS j) (As := (st.take q.2).reverse.map (tl_val o ad)) ⟨hx, hb, hml, hown, hts⟩ hMc
            ⟨callB_of q.2 hts (tl_good f3 hcw) rfl rfl rfl (by rw [hcls]; exact hin _ f4c) (hin _ k3) ⟨by rw [hcls]; exact f4a, by rw [hcls]; exact f4b, k7⟩ ⟨by rw [hR.1]; exact Nat.le_refl _, by show 8 + ((P.1 q.1).2.1 + 11) + 40 * d ≤ R.locals; rw [hR.2]; omega⟩, hin _ k6⟩
            ⟨tl_blind, fun U hU hW => ⟨rfl, by rw [hU], ⟨by rw [hU]; exact hP, va_K.moved hW.alike hK, hD.weaken (fun _ _ _ _ => trivial)⟩, tl_G.use hG hW.alike hU hS.2.1 (tl_A_mono hS.1) h99⟩⟩ rfl ?_ hl.1 ?_ (lv_room (by rw [tl_sum]; exact h8)) hdg ⟨Nat.zero_le _, Nat.zero_le _⟩) hS (tl_A_mono hS.1) (fun r w' t H1 locs1 ht hvm hq' hB h9 hr1 hr2 hS1 => ?_)
          · rw [List.length_map, List.length_reverse, List.length_take]; omega
          · show st.map (tl_val o ad) = _
            rw [List.map_reverse, List.reverse_reverse, ← List.map_append, List.take_append_drop]
          · obtain ⟨hP1, hK1, hD1⟩ := hB
            rw [ht] at hP1
            cases r with
            | none => exact ih (pc + 3) L (st.drop q.2) w' H1 locs1 ls hq' hl hP1 (tl_D hD1) hS1 (h9.trans h99) hLr hdr hr2
            | some x => exact ih (pc + 3) L (.inl x :: st.drop q.2) w' H1 locs1 ls hq' hl hP1 (tl_D hD1) hS1 (h9.trans h99) hLr (tl_push (v := .inl x) (hr1 x rfl) hdr) hr2
    | invokevirtual ix =>
      obtain ⟨q, hq, hlast, hn, h8, h⟩ := tl_some_s h
      have hdr : ∀ v ∈ st.drop q.2, tl_vr v := fun v hv => hsr v (List.mem_of_mem_drop hv)
      obtain ⟨g1, g2, g3⟩ := f8 ix q hq
      simp only [tl_ok, hq, Bool.and_eq_true, Bool.not_eq_true', decide_eq_true_eq] at hok
      obtain ⟨k1, k2, k3, k4, k5⟩ := g1 hok.1
      obtain ⟨k6, k7, k8⟩ := k5 hok.2
      obtain ⟨hcls, hm20, hcw⟩ := f2 q.1 k1
      obtain ⟨ys, hys⟩ := List.getLast?_eq_some_iff.mp hlast
      have has : (st.take q.2).reverse = .inr 0 :: ys.reverse := by rw [hys, List.reverse_append]; rfl
      have hlen : ys.length + 1 = q.2 := by
        have h1 := congrArg List.length hys
        rw [List.length_take, List.length_append, List.length_singleton] at h1
        omega
      have e : st = ys ++ (.inr 0 :: st.drop q.2) := by
        have h1 := List.take_append_drop q.2 st
        rw [hys, List.append_assoc] at h1
        exact h1.symm
      have hst : st.map (tl_val o ad) = (ys.reverse.map (tl_val o ad)).reverse ++ Value.ref o :: (st.drop q.2).map (tl_val o ad) := by
        have h1 := congrArg (List.map (tl_val o ad)) e
        rw [h1, List.map_append, List.map_reverse, List.reverse_reverse]
        rfl
      have hasr : ∀ v ∈ (.inr 0 :: ys.reverse : List tl_V), tl_vr v := by
        rw [← has]
        exact fun v hv => hsr v (List.mem_of_mem_take (List.mem_reverse.mp hv))
      rw [has] at h
      have hMc := hM q.1 (.inr 0 :: ys.reverse) w _ H.size k1 (by rw [List.length_cons, List.length_reverse]; omega) hasr hwr (fun _ _ z => z) h
      refine tl_callk (rest := (st.drop q.2).map (tl_val o ad)) (va_runV (Ts := tl_ws P nm bs WS j) (C := cn) (b := o) (As := ys.reverse.map (tl_val o ad)) ⟨hx, hb, hml, hown, hts⟩ hMc
        ⟨callB_of (q.2 - 1) hts (tl_good f3 hcw) rfl rfl rfl (by rw [hcls]; exact hin _ f4c) (hin _ k3) ⟨by rw [hcls]; exact f4a, by rw [hcls]; exact f4b, k8⟩ ⟨by rw [hR.1]; exact Nat.le_refl _, by show 8 + ((P.1 q.1).2.1 + 11) + 40 * d ≤ R.locals; rw [hR.2]; omega⟩, hin _ k6, hin _ k7⟩
        ⟨tl_blind, va_recv hK hP hc (q0 := 0) rfl, fun U hU hW => ⟨rfl, by rw [hU], ⟨by rw [hU]; exact hP, va_K.moved hW.alike hK, hD.weaken (fun _ _ _ _ => trivial)⟩, tl_G.use hG hW.alike hU hS.2.1 (tl_A_mono hS.1) h99⟩⟩ rfl ?_ hl.1 hst (lv_room (by rw [tl_sum]; exact h8)) hdg ⟨Nat.zero_le _, Nat.zero_le _⟩) hS (tl_A_mono hS.1) (fun r w' t H1 locs1 ht hvm hq' hB h9 hr1 hr2 hS1 => ?_)
      · rw [List.length_map, List.length_reverse]; omega
      · obtain ⟨hP1, hK1, hD1⟩ := hB
        rw [ht] at hP1
        cases r with
        | none => exact ih (pc + 3) L (st.drop q.2) w' H1 locs1 ls hq' hl hP1 (tl_D hD1) hS1 (h9.trans h99) hLr hdr hr2
        | some x => exact ih (pc + 3) L (.inl x :: st.drop q.2) w' H1 locs1 ls hq' hl hP1 (tl_D hD1) hS1 (h9.trans h99) hLr (tl_push (v := .inl x) (hr1 x rfl) hdr) hr2
    | ireturn =>
      obtain ⟨x, r, rfl, rfl, hty, h1⟩ := tl_st1_s h
      clear h
      have h := h1
      obtain ⟨ty, e1, e2⟩ := tl_some_s hty
      exact hret (some x) w H locs pc ls h hP hD hS h99 hwr (fun y hy => by cases hy; exact (tl_cons hsr).1) ⟨hdg, ty, e1, e2⟩
    | return_ =>
      obtain ⟨rfl, e1, h1⟩ := h
      exact hret none w H locs pc ls h1 hP hD hS h99 hwr (fun y hy => by cases hy) ⟨hdg, e1⟩
    | new ix =>
      obtain ⟨rfl, h1⟩ := h
      obtain ⟨k, hk, h2⟩ := tl_some_s h1
      exact hthr k w H locs pc ix ls h2 hP hD hS h99 hwr hl.1 hk hi hdg
    | _ => exact h.elim
theorem tl_nar {x : Int} {ty : FieldType} (h : ty = .int ∨ ((x = 0 ∨ x = 1) ∧ ty = .boolean)) : narrow ty (.int (Int32.ofInt x)) = .int (Int32.ofInt x) := by
  rcases h with rfl | ⟨rfl | rfl, rfl⟩
  · rfl
  · rfl
  · rfl
set_option maxHeartbeats 4000000 in
set_option maxRecDepth 100000 in
/-- contracts of methods that throw nothing -/
theorem tl_sound (F : tl_face P N ks sf n9 cn fn T ty0 nM nm bs sta WS) (hc : cl[ci]? = some (cn, T, N)) : ∀ (d j : Nat) (as : List tl_V) (w : tl_W) (Q : tl_Q) (sz : Nat), j < nM → as.length ≤ (P.1 j).2.1 → (∀ v ∈ as, tl_vr v) → (∀ a b, tl_ir (w a b)) → (∀ k w', ¬ Q (.inr k) w') → tl_C P d j as w Q →
    Met l (nm j) (tl_ws P nm bs WS j) (tl_rm d) (tl_Pc P N ci ks sf n9 cn fn D cl o ad cA as w sz) (tl_Qc P N ci ks D cl o ad cA w Q sz) 0 0 (tl_A o ks ad sz) := by
  intro d
  induction d with
  | zero => intro j as w Q sz _ _ _ _ _ h; exact h.elim
  | succ d ihd =>
    intro j as w Q sz hj has hasr hwr hQ h
    refine Met.ofW (cc := bs j) (maxL := (P.1 j).2.1) (ret := (P.1 j).2.2) (by rw [(F.2.1 j hj).1]; exact F.2.2.2.1.1) rfl ?_
    intro p e s m args below meth c s₁ B hml hv
    obtain ⟨rfl, hsz, ⟨hP, hK, hD⟩, hG⟩ := hv
    subst hsz
    obtain ⟨n, hn⟩ := h
    have hts := atoms_spec (ws := tl_ws P nm bs WS j) B.pre
    have hown : s.vm.findClass cn = some m.cls := by rw [← (F.2.1 j hj).1]; exact findClass_of_methodNamed B.named
    have hl := lv_entry (as.map (tl_val o ad)) (n := (P.1 j).2.1) (by rw [tl_sl]; exact has)
    rw [lg_entry_eq]
    generalize (lg_sl (as.map (tl_val o ad)) ++ List.replicate ((P.1 j).2.1 - (lg_sl (as.map (tl_val o ad))).length) Slot.unset).toArray = ls at hl ⊢
    rw [tl_args] at hl
    refine tl_walk F (R := tl_rm (d + 1)) ⟨rfl, rfl⟩ B.exec B.bytes hml hown hts hj hc hK hG ihd ?_ ?_ n 0 (tl_en 0 as) [] w s.heap [] ls hn hl hP (tl_D hD) va_S.rf rfl (tl_en_r hasr 0) (fun v hv => by cases hv) hwr
    · intro r w' H locs pc ls' hq hP' hD' hS' h9 hwr' hr1 hr
      cases r with
      | none => exact W.vret B.exec B.bytes (B.returns.trans hr.2) (fun t ht hW => ⟨⟨none, w', rfl, hq, ⟨by rw [ht]; exact hP', va_K.moved hW.alike hK, hD'.weaken (fun _ _ _ _ => trivial)⟩, h9, hr1, hwr'⟩, hS'.F ht⟩) hS'.2.2 hr.1 B.notSynchronized
      | some x =>
        obtain ⟨h1, ty, h2, h3⟩ := hr
        exact W.zret B.exec B.bytes (B.returns.trans h2) (tl_nar h3) (fun t ht hW => ⟨⟨some x, w', rfl, hq, ⟨by rw [ht]; exact hP', va_K.moved hW.alike hK, hD'.weaken (fun _ _ _ _ => trivial)⟩, h9, hr1, hwr'⟩, hS'.F ht⟩) hS'.2.2 h1 B.notSynchronized
    · intro k w' H locs pc ix ls' hq
      exact absurd hq (hQ k w')
end TLW
end
