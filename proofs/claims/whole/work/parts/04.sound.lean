/-! 03.sound: what the small machine says, the machine does -/
def tl_val (o : Nat) (ad : Nat → Nat) : tl_V → Value
  | .inl x => .int (Int32.ofInt x)
  | .inr 0 => .ref o
  | .inr (k + 1) => .ref (ad k)
theorem tl_val_cat (o : Nat) (ad : Nat → Nat) (v : tl_V) : (tl_val o ad v).category = 1 := by
  rcases v with x | a
  · rfl
  · cases a <;> rfl
def tl_lm (o : Nat) (ad : Nat → Nat) (L : tl_L) : List (Nat × Value) := L.map (fun q => (q.1, tl_val o ad q.2))
theorem tl_at_mem : ∀ (l : List (Nat × Instr)) (pc : Nat) (i : Instr), tl_at l pc = some i → (pc, i) ∈ l
  | [], _, _, h => by cases h
  | q :: l, pc, i, h => by
    unfold tl_at at h
    cases hb : Nat.beq q.1 pc with
    | true =>
      rw [hb] at h
      have e1 : q.1 = pc := Nat.eq_of_beq_eq_true hb
      have e2 : q.2 = i := Option.some.inj h
      subst e1; subst e2
      exact List.mem_cons_self
    | false =>
      rw [hb] at h
      exact List.mem_cons_of_mem _ (tl_at_mem l pc i h)
theorem tl_get_mem : ∀ (L : tl_L) (i : Nat) (v : tl_V), tl_get L i = some v → (i, v) ∈ L
  | [], _, _, h => by cases h
  | q :: l, i, v, h => by
    unfold tl_get at h
    cases hb : Nat.beq q.1 i with
    | true =>
      rw [hb] at h
      have e1 : q.1 = i := Nat.eq_of_beq_eq_true hb
      have e2 : q.2 = v := Option.some.inj h
      subst e1; subst e2
      exact List.mem_cons_self
    | false =>
      rw [hb] at h
      exact List.mem_cons_of_mem _ (tl_get_mem l i v h)
theorem tl_put_mem {L : tl_L} {i : Nat} {v : tl_V} {q : Nat × tl_V} (h : q ∈ tl_put L i v) : q = (i, v) ∨ (q ∈ L ∧ q.1 ≠ i) := by
  unfold tl_put at h
  cases ha : L.any (fun q => Nat.beq q.1 i) with
  | true =>
    rw [ha] at h
    obtain ⟨a, h1, h2⟩ := List.mem_map.mp h
    cases hb : Nat.beq a.1 i with
    | true =>
      rw [hb] at h2
      exact Or.inl h2.symm
    | false =>
      rw [hb] at h2
      have e : a = q := h2
      subst e
      exact Or.inr ⟨h1, Nat.ne_of_beq_eq_false hb⟩
  | false =>
    rw [ha] at h
    rcases List.mem_append.mp h with h | h
    · refine Or.inr ⟨h, fun e => ?_⟩
      have h3 : L.any (fun q => Nat.beq q.1 i) = true := List.any_eq_true.mpr ⟨q, h, by rw [e]; exact Nat.beq_refl i⟩
      rw [ha] at h3
      cases h3
    · exact Or.inl (List.mem_singleton.mp h)
theorem tl_has_get {o : Nat} {ad : Nat → Nat} {ls : Array Slot} {nL : Nat} {L : tl_L} {i : Nat} {v : tl_V} (h : lv_has ls nL (tl_lm o ad L)) (hg : tl_get L i = some v) : ls[i]? = some (.val (tl_val o ad v)) :=
  h.2.2 (i, tl_val o ad v) (List.mem_map.mpr ⟨(i, v), tl_get_mem L i v hg, rfl⟩)
theorem tl_has_plc {o : Nat} {ad : Nat → Nat} {L : tl_L} {i : Nat} {v : tl_V} (hg : tl_get L i = some v) : ∃ k : Nat, (tl_lm o ad L)[k]? = some (i, tl_val o ad v) :=
  List.getElem?_of_mem (List.mem_map.mpr ⟨(i, v), tl_get_mem L i v hg, rfl⟩)
theorem tl_has_put {o : Nat} {ad : Nat → Nat} {ls : Array Slot} {nL : Nat} {L : tl_L} {i : Nat} {v : tl_V} (h : lv_has ls nL ((i, tl_val o ad v) :: (tl_lm o ad L).filter (fun q => !(q.1 == i) && !(q.1 + 1 == i && q.2.category == 2)))) : lv_has ls nL (tl_lm o ad (tl_put L i v)) := by
  refine ⟨h.1, h.2.1, fun q hq => ?_⟩
  obtain ⟨a, ha, rfl⟩ := List.mem_map.mp hq
  rcases tl_put_mem ha with rfl | ⟨h1, h2⟩
  · exact h.2.2 _ List.mem_cons_self
  · refine h.2.2 _ (List.mem_cons_of_mem _ (List.mem_filter.mpr ⟨List.mem_map.mpr ⟨a, h1, rfl⟩, ?_⟩))
    show (!(a.1 == i) && !(a.1 + 1 == i && (tl_val o ad a.2).category == 2)) = true
    rw [tl_val_cat]
    simp [h2]
theorem tl_ldi_s {v : Option tl_V} {k : Int → Prop} (h : tl_ldi v k) : ∃ x, v = some (.inl x) ∧ k x := by
  rcases v with _ | (x | a)
  · exact h.elim
  · exact ⟨x, rfl, h⟩
  · exact h.elim
theorem tl_lda_s {v : Option tl_V} {k : Nat → Prop} (h : tl_lda v k) : ∃ a, v = some (.inr a) ∧ k a := by
  rcases v with _ | (x | a)
  · exact h.elim
  · exact h.elim
  · exact ⟨a, rfl, h⟩
theorem tl_st1_s {st : List tl_V} {k : Int → List tl_V → Prop} (h : tl_st1 st k) : ∃ x r, st = .inl x :: r ∧ k x r := by
  rcases st with _ | ⟨(x | a), r⟩
  · exact h.elim
  · exact ⟨x, r, rfl, h⟩
  · exact h.elim
theorem tl_st2_s {st : List tl_V} {k : Int → Int → List tl_V → Prop} (h : tl_st2 st k) : ∃ x y r, st = .inl y :: .inl x :: r ∧ k x y r := by
  rcases st with _ | ⟨(y | a), _ | ⟨(x | b), r⟩⟩
  · exact h.elim
  · exact h.elim
  · exact ⟨x, y, r, rfl, h⟩
  · exact h.elim
  · exact h.elim
  · exact h.elim
  · exact h.elim
theorem tl_sta_s {st : List tl_V} {k : Nat → List tl_V → Prop} (h : tl_sta st k) : ∃ a r, st = .inr a :: r ∧ k a r := by
  rcases st with _ | ⟨(x | a), r⟩
  · exact h.elim
  · exact h.elim
  · exact ⟨a, r, rfl, h⟩
theorem tl_any1_s {st : List tl_V} {k : tl_V → List tl_V → Prop} (h : tl_any1 st k) : ∃ v r, st = v :: r ∧ k v r := by
  rcases st with _ | ⟨v, r⟩
  · exact h.elim
  · exact ⟨v, r, rfl, h⟩
theorem tl_some_s {α : Type} {x : Option α} {k : α → Prop} (h : tl_some x k) : ∃ v, x = some v ∧ k v := by
  rcases x with _ | v
  · exact h.elim
  · exact ⟨v, rfl, h⟩
/-- the world's cells: the object, its arrays -/
def tl_fs (N : Nat) (ks : List Nat) (ad : Nat → Nat) (w : tl_W) : List Value := (List.range N).map (fun k => if k ∈ ks then Value.ref (ad k) else .int (Int32.ofInt (w k 0)))
def tl_ar (P : tl_P) (ad : Nat → Nat) (cA : Nat → ClassId) (w : tl_W) (k : Nat) : Nat × va_E := (ad k, .inl (cA k, (P.2.2.1 k).getD 0, .inl (fun a => Int32.ofInt (w k a))))
def tl_ce (P : tl_P) (N ci : Nat) (ks : List Nat) (o : Nat) (ad : Nat → Nat) (cA : Nat → ClassId) (w : tl_W) : va_W := (o, .inr (ci, tl_fs N ks ad w)) :: ks.map (tl_ar P ad cA w)
theorem tl_fs_at {N : Nat} {ks : List Nat} {ad : Nat → Nat} {w : tl_W} {k : Nat} (hk : k < N) : (tl_fs N ks ad w)[k]? = some (if k ∈ ks then Value.ref (ad k) else .int (Int32.ofInt (w k 0))) := by
  unfold tl_fs
  rw [List.getElem?_map, List.getElem?_range hk]
  rfl
theorem tl_fs_len {N : Nat} {ks : List Nat} {ad : Nat → Nat} {w : tl_W} : (tl_fs N ks ad w).length = N := by
  unfold tl_fs
  rw [List.length_map, List.length_range]
theorem tl_ce_arr {P : tl_P} {N ci : Nat} {ks : List Nat} {o : Nat} {ad : Nat → Nat} {cA : Nat → ClassId} {w : tl_W} {i k n : Nat} (h : ks[i]? = some k) (hn : P.2.2.1 k = some n) : (tl_ce P N ci ks o ad cA w)[i + 1]? = some (ad k, .inl (cA k, n, .inl (fun a => Int32.ofInt (w k a)))) := by
  show (ks.map (tl_ar P ad cA w))[i]? = _
  rw [List.getElem?_map, h]
  show some (tl_ar P ad cA w k) = _
  unfold tl_ar
  rw [hn]
  rfl
theorem tl_ce_set {P : tl_P} {N ci : Nat} {ks : List Nat} {o : Nat} {ad : Nat → Nat} {cA : Nat → ClassId} {w : tl_W} {i k n b : Nat} {x : Int} (hnd : va_nd ks = true) (h : ks[i]? = some k) (hn : P.2.2.1 k = some n) :
    (tl_ce P N ci ks o ad cA w).set (i + 1) (ad k, .inl (cA k, n, .inl (upd (fun a => Int32.ofInt (w k a)) b (Int32.ofInt x)))) = tl_ce P N ci ks o ad cA (tl_set w k b x) := by
  have hk : k ∈ ks := List.mem_of_getElem? h
  have h1 : tl_fs N ks ad (tl_set w k b x) = tl_fs N ks ad w := by
    unfold tl_fs
    apply List.map_congr_left
    intro k' _
    by_cases hm : k' ∈ ks
    · rw [if_pos hm, if_pos hm]
    · rw [if_neg hm, if_neg hm]
      have hne : k' ≠ k := fun e => hm (e ▸ hk)
      unfold tl_set
      rw [if_neg hne]
  unfold tl_ce
  rw [h1, List.set_cons_succ]
  congr 1
  apply List.ext_getElem?
  intro m
  rw [List.getElem?_set]
  by_cases hm : i = m
  · subst hm
    have hlt : i < (ks.map (tl_ar P ad cA w)).length := by rw [List.length_map]; exact (List.getElem?_eq_some_iff.mp h).1
    rw [if_pos rfl, if_pos hlt, List.getElem?_map, h]
    show _ = some (tl_ar P ad cA (tl_set w k b x) k)
    unfold tl_ar
    rw [hn]
    have e : upd (fun a => Int32.ofInt (w k a)) b (Int32.ofInt x) = fun a => Int32.ofInt (tl_set w k b x k a) := by
      funext a
      unfold tl_set upd va_up
      rw [if_pos rfl]
      by_cases hab : a = b
      · rw [if_pos hab, if_pos hab]
      · rw [if_neg hab, if_neg hab]
    rw [e]
    rfl
  · rw [if_neg hm, List.getElem?_map, List.getElem?_map]
    cases hq : ks[m]? with
    | none => rfl
    | some k' =>
      have hne : k' ≠ k := fun e => hm (va_nd_inj ks hnd i m k h (e ▸ hq))
      show some (tl_ar P ad cA w k') = some (tl_ar P ad cA (tl_set w k b x) k')
      unfold tl_ar tl_set
      rw [if_neg hne]
theorem tl_ce_put {P : tl_P} {N ci : Nat} {ks : List Nat} {o : Nat} {ad : Nat → Nat} {cA : Nat → ClassId} {w : tl_W} {k : Nat} {x : Int} (hk : k < N) (hks : k ∉ ks) :
    (tl_ce P N ci ks o ad cA w).set 0 (o, .inr (ci, (tl_fs N ks ad w).set k (.int (Int32.ofInt x)))) = tl_ce P N ci ks o ad cA (tl_set w k 0 x) := by
  have h1 : (tl_fs N ks ad w).set k (.int (Int32.ofInt x)) = tl_fs N ks ad (tl_set w k 0 x) := by
    apply List.ext_getElem?
    intro m
    rw [List.getElem?_set]
    by_cases hm : k = m
    · subst hm
      rw [if_pos rfl, if_pos (by rw [tl_fs_len]; exact hk), tl_fs_at hk, if_neg hks]
      unfold tl_set va_up
      rw [if_pos rfl, if_pos rfl]
    · rw [if_neg hm]
      by_cases hlt : m < N
      · have e1 : tl_set w k 0 x m = w m := by
          unfold tl_set
          exact if_neg (fun e => hm e.symm)
        rw [tl_fs_at hlt, tl_fs_at hlt, e1]
      · rw [List.getElem?_eq_none (by rw [tl_fs_len]; omega), List.getElem?_eq_none (by rw [tl_fs_len]; omega)]
  unfold tl_ce
  rw [List.set_cons_zero, h1]
  congr 1
  apply List.map_congr_left
  intro k' hk'
  have hne : k' ≠ k := fun e => hks (e ▸ hk')
  unfold tl_ar tl_set
  rw [if_neg hne]
def tl_A (o : Nat) (ks : List Nat) (ad : Nat → Nat) (sz : Nat) : Nat → Prop := fun q => (q = o ∨ ∃ k, k ∈ ks ∧ q = ad k) ∨ sz ≤ q
theorem tl_A_mono {o : Nat} {ks : List Nat} {ad : Nat → Nat} {a b : Nat} (h : a ≤ b) : ∀ q, tl_A o ks ad b q → tl_A o ks ad a q := fun q hq => hq.elim Or.inl (fun z => Or.inr (Nat.le_trans h z))
theorem tl_D {P : tl_P} {N ci : Nat} {ks : List Nat} {o : Nat} {ad : Nat → Nat} {cA : Nat → ClassId} {w : tl_W} {B : Nat → Prop} {sz : Nat} (h : va_D B (tl_ce P N ci ks o ad cA w)) : va_D (tl_A o ks ad sz) (tl_ce P N ci ks o ad cA w) := by
  refine ⟨h.1, fun m q hm => ?_⟩
  have hq := List.mem_of_getElem? hm
  unfold tl_ce at hq
  rcases List.mem_cons.mp hq with rfl | hq
  · exact Or.inl (Or.inl rfl)
  · obtain ⟨k, hk, rfl⟩ := List.mem_map.mp hq
    exact Or.inl (Or.inr ⟨k, hk, rfl⟩)
def tl_G (sf : Bool) (cn fn : String) (n9 : Nat) (ad : Nat → Nat) (w : tl_W) (A : Nat → Prop) (U : State) (H : Heap) : Prop := sf = true → va_Z cn fn "[I" (.ref (ad 99)) A U H ∧ va_T .int (ad 99) n9 (fun j => .int (Int32.ofInt (w 99 j))) A U H
def tl_len : Instr → Nat
  | .bipush _ => 2
  | .sipush _ => 3
  | .iload _ => 2
  | .istore _ => 2
  | .iinc _ _ => 3
  | .ifCond _ _ => 3
  | .if_icmp _ _ => 3
  | .goto _ => 3
  | .getfield _ => 3
  | .putfield _ => 3
  | .getstatic _ => 3
  | .invokestatic _ => 3
  | .invokevirtual _ => 3
  | .invokespecial _ => 3
  | .new _ => 3
  | _ => 1
def tl_ok (P : tl_P) (sta : Nat → Bool) (nL pc : Nat) : Instr → Bool
  | .iconst n => decide (-2147483648 ≤ n) && decide (n < 2147483648)
  | .bipush n => decide ((Int8.ofInt n).toInt32 = Int32.ofInt n) && (decide (-2147483648 ≤ n) && decide (n < 2147483648))
  | .sipush n => decide ((Int16.ofInt n).toInt32 = Int32.ofInt n) && (decide (-2147483648 ≤ n) && decide (n < 2147483648))
  | .istore_n k => decide ((k : Nat) < nL)
  | .istore k => decide (k < nL)
  | .iinc k _ => decide (k < nL)
  | .ifCond _ off => decide (0 ≤ (pc : Int) + off)
  | .if_icmp _ off => decide (0 ≤ (pc : Int) + off)
  | .goto off => decide (0 ≤ (pc : Int) + off)
  | .invokestatic ix => match P.2.2.2.1 ix with
    | some q => Nat.beq q.1 1000 || (Nat.beq q.1 1001 || (decide (q.1 < 1000) && sta q.1))
    | none => true
  | .invokevirtual ix => match P.2.2.2.1 ix with
    | some q => decide (q.1 < 1000) && !sta q.1
    | none => true
  | _ => true
theorem tl_to_eq {pc : Nat} {off : Int} (h : 0 ≤ (pc : Int) + off) : (pc : Int) + off = ((tl_to pc off : Nat) : Int) := by
  unfold tl_to
  omega
theorem tl_sum (o : Nat) (ad : Nat → Nat) (r : List tl_V) : ((r.map (tl_val o ad)).map fun v => v.category).sum = r.length := by
  induction r with
  | nil => rfl
  | cons a r ih =>
    simp only [List.map_cons, List.sum_cons, List.length_cons, tl_val_cat]
    rw [ih]
    omega
theorem tl_sl (o : Nat) (ad : Nat → Nat) (as : List tl_V) : (lg_sl (as.map (tl_val o ad))).length = as.length := by
  induction as with
  | nil => rfl
  | cons a r ih =>
    have e : lg_sl ((a :: r).map (tl_val o ad)) = Slot.val (tl_val o ad a) :: lg_sl (r.map (tl_val o ad)) := by
      unfold lg_sl
      rw [List.map_cons, List.flatMap_cons, if_neg (by rw [tl_val_cat]; decide)]
      rfl
    rw [e, List.length_cons, List.length_cons, ih]
theorem tl_args (o : Nat) (ad : Nat → Nat) (as : List tl_V) : ∀ i : Nat, lv_args i (as.map (tl_val o ad)) = tl_lm o ad (tl_en i as) := by
  induction as with
  | nil => intro i; rfl
  | cons a r ih =>
    intro i
    show (i, tl_val o ad a) :: lv_args (if (tl_val o ad a).category = 2 then i + 2 else i + 1) (r.map (tl_val o ad)) = (i, tl_val o ad a) :: tl_lm o ad (tl_en (i + 1) r)
    rw [if_neg (by rw [tl_val_cat]; decide), ih (i + 1)]
/-- numbers -/
def tl_ir (x : Int) : Prop := -2147483648 ≤ x ∧ x < 2147483648
def tl_vr : tl_V → Prop
  | .inl x => tl_ir x
  | .inr _ => True
theorem tl_ti {x : Int} (h : tl_ir x) : (Int32.ofInt x).toInt = x := Int32.toInt_ofInt_of_le (by have := h.1; omega) (by have := h.2; omega)
theorem tl_eqI {x y : Int} (hx : tl_ir x) (hy : tl_ir y) : Int32.ofInt x = Int32.ofInt y ↔ x = y := by
  rw [← Int32.toInt_inj, tl_ti hx, tl_ti hy]
theorem tl_ltI {x y : Int} (hx : tl_ir x) (hy : tl_ir y) : Int32.ofInt x < Int32.ofInt y ↔ x < y := by
  rw [Int32.lt_iff_toInt_lt, tl_ti hx, tl_ti hy]
theorem tl_leI {x y : Int} (hx : tl_ir x) (hy : tl_ir y) : Int32.ofInt x ≤ Int32.ofInt y ↔ x ≤ y := by
  rw [Int32.le_iff_toInt_le, tl_ti hx, tl_ti hy]
theorem tl_z : (0 : Int32) = Int32.ofInt 0 := rfl
theorem tl_ir0 : tl_ir 0 := ⟨by decide, by decide⟩
theorem tl_nI (b : Nat) : Int32.ofInt (b : Int) = nI b := Int32.ofInt_eq_ofNat
theorem tl_or (a b : Nat) : Int32.ofInt (a : Int) ||| Int32.ofInt (b : Int) = Int32.ofInt ((a ||| b : Nat) : Int) := by
  rw [tl_nI, tl_nI, tl_nI]
  apply Int32.toBitVec.inj
  show BitVec.ofNat 32 a ||| BitVec.ofNat 32 b = BitVec.ofNat 32 (a ||| b)
  rw [BitVec.ofNat_or]
theorem tl_and (a b : Nat) : Int32.ofInt (a : Int) &&& Int32.ofInt (b : Int) = Int32.ofInt ((a &&& b : Nat) : Int) := by
  rw [tl_nI, tl_nI, tl_nI]
  apply Int32.toBitVec.inj
  show BitVec.ofNat 32 a &&& BitVec.ofNat 32 b = BitVec.ofNat 32 (a &&& b)
  rw [BitVec.ofNat_and]
theorem tl_sm : ∀ n, n < 32 → ((nI n &&& 31).toBitVec.smod 32).toNat = n := by decide +kernel
theorem tl_shl {a b : Nat} (hb : b < 32) (h : a * 2 ^ b < 2147483648) : Int32.ofInt (a : Int) <<< (Int32.ofInt (b : Int) &&& 31) = Int32.ofInt ((a * 2 ^ b : Nat) : Int) := by
  rw [tl_nI, tl_nI, tl_nI]
  exact pk_shlN _ b (tl_sm b hb) (by omega)
theorem tl_shr {a b : Nat} (ha : a < 2147483648) (hb : b < 32) : Int32.ofInt (a : Int) >>> (Int32.ofInt (b : Int) &&& 31) = Int32.ofInt ((a / 2 ^ b : Nat) : Int) := by
  rw [tl_nI, tl_nI, tl_nI]
  exact pk_shrN (by omega) _ b (tl_sm b hb)
theorem tl_dv {a b : Nat} (ha : a < 2147483648) (h0 : 0 < b) (hb : b < 2147483648) : Int32.ofInt (a : Int) / Int32.ofInt (b : Int) = Int32.ofInt ((a / b : Nat) : Int) := by
  rw [tl_nI, tl_nI, tl_nI]
  exact pk_div (by omega) h0 (by omega)
theorem tl_mx {x y : Int} (hx : tl_ir x) (hy : tl_ir y) : (if Int32.ofInt x < Int32.ofInt y then Int32.ofInt y else Int32.ofInt x) = Int32.ofInt (max x y) := by
  by_cases h : x < y
  · rw [if_pos ((tl_ltI hx hy).mpr h), Int.max_eq_right (by omega)]
  · rw [if_neg (fun q => h ((tl_ltI hx hy).mp q)), Int.max_eq_left (by omega)]
theorem tl_mn {x y : Int} (hx : tl_ir x) (hy : tl_ir y) : (if Int32.ofInt y < Int32.ofInt x then Int32.ofInt y else Int32.ofInt x) = Int32.ofInt (min x y) := by
  by_cases h : y < x
  · rw [if_pos ((tl_ltI hy hx).mpr h), Int.min_eq_right (by omega)]
  · rw [if_neg (fun q => h ((tl_ltI hy hx).mp q)), Int.min_eq_left (by omega)]
theorem tl_ra {a : Nat} (h : tl_ir (a : Int)) : a < 2147483648 := by have := h.2; omega
theorem tl_cons {v : tl_V} {r : List tl_V} (h : ∀ x ∈ v :: r, tl_vr x) : tl_vr v ∧ ∀ x ∈ r, tl_vr x := ⟨h v List.mem_cons_self, fun x hx => h x (List.mem_cons_of_mem _ hx)⟩
theorem tl_push {v : tl_V} {r : List tl_V} (h1 : tl_vr v) (h2 : ∀ x ∈ r, tl_vr x) : ∀ x ∈ v :: r, tl_vr x := by
  intro x hx
  rcases List.mem_cons.mp hx with rfl | hx
  · exact h1
  · exact h2 x hx
theorem tl_put_r {L : tl_L} {i : Nat} {v : tl_V} (h : ∀ q ∈ L, tl_vr q.2) (hv : tl_vr v) : ∀ q ∈ tl_put L i v, tl_vr q.2 := by
  intro q hq
  rcases tl_put_mem hq with rfl | ⟨h1, _⟩
  · exact hv
  · exact h q h1
theorem tl_set_r {w : tl_W} {k j : Nat} {x : Int} (h : ∀ a b, tl_ir (w a b)) (hx : tl_ir x) : ∀ a b, tl_ir (tl_set w k j x a b) := by
  intro a b
  unfold tl_set va_up
  by_cases h1 : a = k
  · rw [if_pos h1]
    by_cases h2 : b = j
    · rw [if_pos h2]; exact hx
    · rw [if_neg h2]; exact h k b
  · rw [if_neg h1]; exact h a b
theorem tl_en_r {as : List tl_V} (h : ∀ v ∈ as, tl_vr v) : ∀ i, ∀ q ∈ tl_en i as, tl_vr q.2 := by
  induction as with
  | nil => intro i q hq; cases hq
  | cons a r ih =>
    intro i q hq
    rcases List.mem_cons.mp hq with rfl | hq
    · exact h a List.mem_cons_self
    · exact ih (fun v hv => h v (List.mem_cons_of_mem _ hv)) (i + 1) q hq
theorem tl_orb {a b : Nat} (ha : a < 2147483648) (hb : b < 2147483648) : a ||| b < 2147483648 := Nat.or_lt_two_pow (n := 31) ha hb
theorem tl_andb {a b : Nat} (ha : a < 2147483648) : a &&& b < 2147483648 := Nat.lt_of_le_of_lt Nat.and_le_left ha
theorem tl_divb {a b : Nat} (ha : a < 2147483648) : a / b < 2147483648 := Nat.lt_of_le_of_lt (Nat.div_le_self a b) ha
theorem tl_irn {a : Nat} (h : a < 2147483648) : tl_ir (a : Int) := ⟨by omega, by omega⟩
