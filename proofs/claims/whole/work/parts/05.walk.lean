/-! 04.walk: the walk of the small machine is a walk of the machine; contracts out of it -/
def tl_ws (P : tl_P) (nm : Nat → MethodName) (bs : Nat → ByteArray) (WS : List Cond) (j : Nat) : List Cond := Cond.code (nm j) (bs j) (P.1 j).2.1 (P.1 j).2.2 :: WS
def tl_rm (d : Nat) : Room := { frames := d, cells := 0, slots := 0, locals := 40 * d }
/-- what is asked of the numbers and words of a class: every row of it is decided -/
def tl_face (P : tl_P) (N : Nat) (ks : List Nat) (sf : Bool) (n9 : Nat) (cn fn : String) (T : u_T) (ty0 : Nat → FieldType) (nM : Nat) (nm : Nat → MethodName) (bs : Nat → ByteArray) (sta : Nat → Bool) (WS : List Cond) : Prop :=
  (∀ j, j < nM → ∀ q ∈ (P.1 j).1, decode (bs j) q.1 = .ok (q.2, tl_len q.2) ∧ tl_ok P sta (P.1 j).2.1 q.1 q.2 = true) ∧
  (∀ j, j < nM → (nm j).cls = cn ∧ (P.1 j).2.1 ≤ 20 ∧ Cond.code (nm j) (bs j) (P.1 j).2.1 (P.1 j).2.2 ∈ WS) ∧
  (∀ w ∈ WS, (w.onTables && w.keeps) = true ∨ ∃ ty, w = .arrayClass ty) ∧
  (plainName cn = true ∧ cn ≠ "java/lang/invoke/MethodHandle" ∧ cn ≠ "java/lang/invoke/VarHandle" ∧ Cond.initialized cn ∈ WS ∧ ∀ w ∈ u_ws cn T N, w ∈ WS) ∧
  (∀ k, k < N → (T k).1 = cn ∧ (k ∈ ks ↔ (P.2.2.1 k).isSome = true) ∧ (P.2.2.1 k = none → (T k).2.2.2 = false ∧ parseFieldDescriptor (T k).2.2.1 = some .int)) ∧
  (∀ k n, P.2.2.1 k = some n → n < 2 ^ 31 ∧ (k ∈ ks ∨ (k = 99 ∧ sf = true ∧ n = n9))) ∧
  (∀ ix k, P.2.1 ix = some k → (k < 99 → k < N ∧ Cond.fieldLink cn ix cn (T k).2.1 (T k).2.2.1 ∈ WS) ∧ (k = 99 → sf = true ∧ Cond.fieldLink cn ix cn fn "[I" ∈ WS)) ∧
  (∀ ix q, P.2.2.2.1 ix = some q →
    (q.1 < 1000 → q.1 < nM ∧ q.2 ≤ (P.1 q.1).2.1 ∧ Cond.methodLink cn ix (nm q.1) ∈ WS ∧
      (sta q.1 = true → Cond.static (nm q.1) ∈ WS ∧ (parseMethodDescriptor (nm q.1).desc).map (fun d => d.parameters.length) = some q.2) ∧
      (sta q.1 = false → Cond.instanceMethod (nm q.1) ∈ WS ∧ Cond.selects cn (nm q.1) (nm q.1) ∈ WS ∧ (parseMethodDescriptor (nm q.1).desc).map (fun d => d.parameters.length) = some (q.2 - 1))) ∧
    (q.1 = 1000 → Cond.methodLink cn ix Lib.Math.max.name ∈ WS ∧ Cond.static Lib.Math.max.name ∈ WS ∧ Cond.initialized "java/lang/Math" ∈ WS ∧ Cond.code Lib.Math.max.name Lib.Math.max.code 2 (some .int) ∈ WS) ∧
    (q.1 = 1001 → Cond.methodLink cn ix Lib.Math.min.name ∈ WS ∧ Cond.static Lib.Math.min.name ∈ WS ∧ Cond.initialized "java/lang/Math" ∈ WS ∧ Cond.code Lib.Math.min.name Lib.Math.min.code 2 (some .int) ∈ WS)) ∧
  (va_nd ks = true ∧ (∀ k, k < N → parseFieldDescriptor (T k).2.2.1 = some (ty0 k)) ∧ (∀ a, a < N → ∀ b, b < N → a ≠ b → (T a).2.1 ≠ (T b).2.1))
/-- the world at an object -/
def tl_B (P : tl_P) (N ci : Nat) (ks : List Nat) (D : va_G) (cl : List vw_C) (o : Nat) (ad : Nat → Nat) (cA : Nat → ClassId) (w : tl_W) (U : State) : Prop :=
  va_P D cl (tl_ce P N ci ks o ad cA w) U.heap ∧ va_K D cl (ks.map fun k => (cA k, FieldType.int)) U ∧ va_D (fun _ => True) (tl_ce P N ci ks o ad cA w)
def tl_Pc (P : tl_P) (N ci : Nat) (ks : List Nat) (sf : Bool) (n9 : Nat) (cn fn : String) (D : va_G) (cl : List vw_C) (o : Nat) (ad : Nat → Nat) (cA : Nat → ClassId) (as : List tl_V) (w : tl_W) (sz : Nat) : Array Value → State → Prop :=
  va_Pc (as.map (tl_val o ad)) (fun U => U.heap.size = sz ∧ tl_B P N ci ks D cl o ad cA w U ∧ tl_G sf cn fn n9 ad w (tl_A o ks ad sz) U U.heap)
def tl_Qc (P : tl_P) (N ci : Nat) (ks : List Nat) (D : va_G) (cl : List vw_C) (o : Nat) (ad : Nat → Nat) (cA : Nat → ClassId) (w : tl_W) (Q : tl_Q) (sz : Nat) : Array Value → State → Outcome → State → Prop :=
  fun _ st oc t => (∃ (r : Option Int) (w' : tl_W), oc = .returned (r.map (fun x => Value.int (Int32.ofInt x))) ∧ Q (.inl r) w' ∧ tl_B P N ci ks D cl o ad cA w' t ∧ w' 99 = w 99 ∧ (∀ x, r = some x → tl_ir x) ∧ ∀ a b, tl_ir (w' a b)) ∧ va_F (tl_A o ks ad sz) st t
theorem tl_G.use {sf : Bool} {cn fn : String} {n9 : Nat} {ad : Nat → Nat} {w w' : tl_W} {A B : Nat → Prop} {s U : State} {H : Heap} (h : tl_G sf cn fn n9 ad w A s s.heap) (hvm : s.vm.Alike U.vm) (hU : U.heap = H) (hH : ∀ q : Nat, q < s.heap.size → ¬ A q → H[q]? = s.heap[q]?) (hBA : ∀ q, B q → A q) (hw : w' 99 = w 99) : tl_G sf cn fn n9 ad w' B U U.heap := by
  intro hs
  obtain ⟨h1, h2⟩ := h hs
  rw [hU, hw]
  exact ⟨((h1.kept hH).moved hvm).narrow hBA, ((h2.kept hH).moved hvm).narrow hBA⟩
section TLW
variable {p : Program} {l : Launch} {e : Env} {R : Room} {s : State} {m : MethodId} {args : Array Value} {below : List Frame} {meth : Method} {c : Code} {H : Heap} {locs : List Loc} {QQ : State → Prop}
variable {P : tl_P} {N ci : Nat} {ks : List Nat} {sf : Bool} {n9 : Nat} {cn fn : String} {D : va_G} {cl : List vw_C} {o : Nat} {ad : Nat → Nat} {cA : Nat → ClassId} {T : u_T} {ty0 : Nat → FieldType} {nM : Nat} {nm : Nat → MethodName} {bs : Nat → ByteArray} {sta : Nat → Bool} {WS : List Cond}
theorem tl_callk {pc : Nat} {ls : Array Slot} {st0 rest : List Value} {a : Array Value} {w : tl_W} {Q : tl_Q} {sz : Nat} {A0 : Nat → Prop} {H0 : Heap}
    (hr : va_Run p l e R s m args below meth c H locs 0 0 0 0 (F0 m pc ls st0) rest (tl_Qc P N ci ks D cl o ad cA w Q sz a) (tl_A o ks ad sz)) (hS : va_S A0 H0 H locs) (hA : ∀ q, tl_A o ks ad sz q → A0 q)
    (kk : ∀ (r : Option Int) (w' : tl_W) (t : State) (H1 : Heap) (locs1 : List Loc), t.heap = H1 → s.vm.Alike t.vm → Q (.inl r) w' → tl_B P N ci ks D cl o ad cA w' t → w' 99 = w 99 → (∀ x, r = some x → tl_ir x) → (∀ a b, tl_ir (w' a b)) → va_S A0 H0 H1 locs1 → W p l e R s m args below meth c H1 locs1 0 0 QQ (F0 m (pc + 3) ls ((r.map (fun x => Value.int (Int32.ofInt x))).toList ++ rest))) :
    W p l e R s m args below meth c H locs 0 0 QQ (F0 m pc ls st0) := by
  intro T hT X
  obtain ⟨v, st₀, t, T', L, h0, X', hL, e1, e2, ⟨⟨r, w', hv, hq, hb, h9, hr1, hr2⟩, hz, hk⟩, st⟩ := hr T hT X
  cases hv
  rw [h0] at hz hk
  obtain ⟨t2, a1, b1⟩ := kk r w' t T'.heap (locs ++ L) e1.symm (by rw [← e2]; exact X'.warmed.alike) hq hb h9 hr1 hr2
    ⟨Nat.le_trans hS.1 (by rw [e1]; exact hz), fun q h1 h2 => by rw [e1, hk q (Nat.lt_of_lt_of_le h1 hS.1) (fun z => h2 (hA q z))]; exact hS.2.1 q h1 h2, fun q hq => by
      rcases List.mem_append.mp hq with h | h
      · exact hS.2.2 q h
      · exact hA _ (hL q h)⟩ T' rfl X'
  exact ⟨t2, st t2 a1, b1⟩
theorem tl_blind {as : List tl_V} {w : tl_W} {sz : Nat} : FrameBlind (tl_Pc P N ci ks sf n9 cn fn D cl o ad cA as w sz) := by
  intro a U g mk q
  obtain ⟨q0, q1, ⟨qP, qK, qD⟩, qG⟩ := q
  refine ⟨q0, q1, ⟨qP, va_K.moved (u := U) (U := U.calling g mk a) (Vm.Alike.refl U.vm) qK, qD⟩, fun hs => ?_⟩
  obtain ⟨g1, g2⟩ := qG hs
  exact ⟨va_Z.moved (u := U) (U := U.calling g mk a) (Vm.Alike.refl U.vm) g1, va_T.moved (u := U) (U := U.calling g mk a) (Vm.Alike.refl U.vm) g2⟩
theorem tl_good (hW : ∀ w ∈ WS, (w.onTables && w.keeps) = true ∨ ∃ ty, w = .arrayClass ty) {j j' : Nat} (hc : Cond.code (nm j') (bs j') (P.1 j').2.1 (P.1 j').2.2 ∈ WS) : GoodIn (tl_ws P nm bs WS j) (tl_ws P nm bs WS j') := by
  intro w hw
  rcases List.mem_cons.mp hw with rfl | hw
  · exact ⟨List.mem_cons_of_mem _ hc, hW _ hc⟩
  · exact ⟨List.mem_cons_of_mem _ hw, hW _ hw⟩
set_option maxHeartbeats 4000000 in
set_option maxRecDepth 100000 in
theorem tl_walk (F : tl_face P N ks sf n9 cn fn T ty0 nM nm bs sta WS) {d j : Nat} {Q : tl_Q} {w0 : tl_W} (hR : R.frames = d + 1 ∧ R.locals = 40 * (d + 1)) (hx : p.tables.exec = Jvm.exec) (hb : c.code = bs j) (hml : c.maxLocals = (P.1 j).2.1) (hown : s.vm.findClass cn = some m.cls) (hts : ∀ w ∈ tl_ws P nm bs WS j, w.before args s = true)
    (hj : j < nM) (hc : cl[ci]? = some (cn, T, N)) (hK : va_K D cl (ks.map fun k => (cA k, FieldType.int)) s) (hG : tl_G sf cn fn n9 ad w0 (tl_A o ks ad s.heap.size) s s.heap)
    (hM : ∀ (j' : Nat) (as : List tl_V) (w : tl_W) (Q' : tl_Q) (sz : Nat), j' < nM → as.length ≤ (P.1 j').2.1 → (∀ v ∈ as, tl_vr v) → (∀ a b, tl_ir (w a b)) → (∀ k w', ¬ Q' (.inr k) w') → tl_C P d j' as w Q' → Met l (nm j') (tl_ws P nm bs WS j') (tl_rm d) (tl_Pc P N ci ks sf n9 cn fn D cl o ad cA as w sz) (tl_Qc P N ci ks D cl o ad cA w Q' sz) 0 0 (tl_A o ks ad sz))
    (hret : ∀ (r : Option Int) (w' : tl_W) (H : Heap) (locs : List Loc) (pc : Nat) (ls : Array Slot), Q (.inl r) w' → va_P D cl (tl_ce P N ci ks o ad cA w') H → va_D (tl_A o ks ad s.heap.size) (tl_ce P N ci ks o ad cA w') → va_S (tl_A o ks ad s.heap.size) s.heap H locs → w' 99 = w0 99 → (∀ a b, tl_ir (w' a b)) → (∀ x, r = some x → tl_ir x) →
      (match r with
        | some x => decode (bs j) pc = .ok (.ireturn, 1) ∧ ∃ ty, (P.1 j).2.2 = some ty ∧ (ty = .int ∨ ((x = 0 ∨ x = 1) ∧ ty = .boolean))
        | none => decode (bs j) pc = .ok (.return_, 1) ∧ (P.1 j).2.2 = none) → W p l e R s m args below meth c H locs 0 0 QQ (F0 m pc ls ((r.map (fun x => Value.int (Int32.ofInt x))).toList)))
    (hthr : ∀ (k : Nat) (w' : tl_W) (H : Heap) (locs : List Loc) (pc ix : Nat) (ls : Array Slot), Q (.inr k) w' → va_P D cl (tl_ce P N ci ks o ad cA w') H → va_D (tl_A o ks ad s.heap.size) (tl_ce P N ci ks o ad cA w') → va_S (tl_A o ks ad s.heap.size) s.heap H locs → w' 99 = w0 99 → (∀ a b, tl_ir (w' a b)) →
      ls.size = (P.1 j).2.1 → P.2.2.2.2 ix = some k → tl_at (P.1 j).1 pc = some (.new ix) → decode (bs j) pc = .ok (.new ix, 3) → W p l e R s m args below meth c H locs 0 0 QQ (F0 m pc ls [])) :
    ∀ (n pc : Nat) (L : tl_L) (st : List tl_V) (w : tl_W) (H : Heap) (locs : List Loc) (ls : Array Slot), tl_wp P (tl_C P d) j Q n pc L st w → lv_has ls (P.1 j).2.1 (tl_lm o ad L) → va_P D cl (tl_ce P N ci ks o ad cA w) H → va_D (tl_A o ks ad s.heap.size) (tl_ce P N ci ks o ad cA w) → va_S (tl_A o ks ad s.heap.size) s.heap H locs → w 99 = w0 99 → (∀ q ∈ L, tl_vr q.2) → (∀ v ∈ st, tl_vr v) → (∀ a b, tl_ir (w a b)) →
      W p l e R s m args below meth c H locs 0 0 QQ (F0 m pc ls (st.map (tl_val o ad))) := by
  obtain ⟨f1, f2, f3, ⟨f4, f4a, f4b, f4c, f4d⟩, f5, f6, f7, f8, f9, f9a, f9b⟩ := F
  have hin : ∀ w ∈ WS, w.before args s = true := fun w hw => hts w (List.mem_cons_of_mem _ hw)
  have hsub : ∀ w ∈ u_ws cn T N, w ∈ tl_ws P nm bs WS j := fun w hw => List.mem_cons_of_mem _ (f4d w hw)
  intro n
  induction n with
  | zero => intro pc L st w H locs ls h; exact h.elim
  | succ n ih =>
    intro pc L st w H locs ls h hl hP hD hS h99 hLr hsr hwr
    obtain ⟨i, hi, h⟩ := tl_some_s h
    obtain ⟨hdg, hok⟩ := f1 j hj _ (tl_at_mem _ _ _ hi)
    cases i with
    | iconst k =>
      have hok := (Bool.and_eq_true _ _).mp hok
      have hr : tl_ir k := ⟨of_decide_eq_true hok.1, of_decide_eq_true hok.2⟩
      exact lv_iconst hx hb hdg rfl (ih (pc + 1) L (.inl k :: st) w H locs ls h hl hP hD hS h99 hLr (tl_push (v := .inl k) hr hsr) hwr)
    | bipush k =>
      have hok := (Bool.and_eq_true _ _).mp hok
      have hok2 := (Bool.and_eq_true _ _).mp hok.2
      have hr : tl_ir k := ⟨of_decide_eq_true hok2.1, of_decide_eq_true hok2.2⟩
      exact lv_bipush hx hb hdg (of_decide_eq_true hok.1) (ih (pc + 2) L (.inl k :: st) w H locs ls h hl hP hD hS h99 hLr (tl_push (v := .inl k) hr hsr) hwr)
    | sipush k =>
      have hok := (Bool.and_eq_true _ _).mp hok
      have hok2 := (Bool.and_eq_true _ _).mp hok.2
      have hr : tl_ir k := ⟨of_decide_eq_true hok2.1, of_decide_eq_true hok2.2⟩
      exact lv_sipush hx hb hdg (of_decide_eq_true hok.1) (ih (pc + 3) L (.inl k :: st) w H locs ls h hl hP hD hS h99 hLr (tl_push (v := .inl k) hr hsr) hwr)
    | iload_n k =>
      obtain ⟨x, hg, h⟩ := tl_ldi_s h
      exact lv_iload_n hx hb hdg rfl (tl_has_get hl hg) (ih (pc + 1) L (.inl x :: st) w H locs ls h hl hP hD hS h99 hLr (tl_push (hLr _ (tl_get_mem _ _ _ hg)) hsr) hwr)
    | iload k =>
      obtain ⟨x, hg, h⟩ := tl_ldi_s h
      exact lv_iload hx hb hdg (tl_has_get hl hg) (ih (pc + 2) L (.inl x :: st) w H locs ls h hl hP hD hS h99 hLr (tl_push (hLr _ (tl_get_mem _ _ _ hg)) hsr) hwr)
    | aload_n k =>
      obtain ⟨a, hg, h⟩ := tl_lda_s h
      cases a with
      | zero => exact lv_aload_n hx hb hdg rfl (tl_has_get hl hg) (ih (pc + 1) L (.inr 0 :: st) w H locs ls h hl hP hD hS h99 hLr (tl_push (v := .inr 0) trivial hsr) hwr)
      | succ a => exact lv_aload_n hx hb hdg rfl (tl_has_get hl hg) (ih (pc + 1) L (.inr (a + 1) :: st) w H locs ls h hl hP hD hS h99 hLr (tl_push (v := .inr (a + 1)) trivial hsr) hwr)
    | istore_n k =>
      obtain ⟨x, r, rfl, h⟩ := tl_st1_s h
      obtain ⟨hv, hsr⟩ := tl_cons hsr
      exact lv_istore_n hx hb hdg rfl hl (of_decide_eq_true hok) rfl (fun ls' hl' => ih (pc + 1) (tl_put L k (.inl x)) r w H locs ls' h (tl_has_put (v := .inl x) hl') hP hD hS h99 (tl_put_r hLr hv) hsr hwr)
    | istore k =>
      obtain ⟨x, r, rfl, h⟩ := tl_st1_s h
      obtain ⟨hv, hsr⟩ := tl_cons hsr
      exact lv_istore hx hb hdg hl (of_decide_eq_true hok) rfl (fun ls' hl' => ih (pc + 2) (tl_put L k (.inl x)) r w H locs ls' h (tl_has_put (v := .inl x) hl') hP hD hS h99 (tl_put_r hLr hv) hsr hwr)
    | iinc k a =>
      obtain ⟨x, hg, hr, h⟩ := tl_ldi_s h
      obtain ⟨kp, hkp⟩ := tl_has_plc (o := o) (ad := ad) hg
      exact lv_iinc hx hb hdg hl hkp (v := Int32.ofInt (x + a)) (Int32.ofInt_add x a).symm (of_decide_eq_true hok) rfl (fun ls' hl' => ih (pc + 3) (tl_put L k (.inl (x + a))) st w H locs ls' h (tl_has_put (v := .inl (x + a)) hl') hP hD hS h99 (tl_put_r (v := .inl (x + a)) hLr hr) hsr hwr)
    | iadd =>
      obtain ⟨x, y, r, rfl, hr, h⟩ := tl_st2_s h
      obtain ⟨_, hsr⟩ := tl_cons hsr
      obtain ⟨_, hsr⟩ := tl_cons hsr
      refine lv_iadd hx hb hdg ?_
      rw [← Int32.ofInt_add]
      exact ih (pc + 1) L (.inl (x + y) :: r) w H locs ls h hl hP hD hS h99 hLr (tl_push (v := .inl (x + y)) hr hsr) hwr
    | isub =>
      obtain ⟨x, y, r, rfl, hr, h⟩ := tl_st2_s h
      obtain ⟨_, hsr⟩ := tl_cons hsr
      obtain ⟨_, hsr⟩ := tl_cons hsr
      refine lv_isub hx hb hdg ?_
      rw [← Int32.ofInt_sub]
      exact ih (pc + 1) L (.inl (x - y) :: r) w H locs ls h hl hP hD hS h99 hLr (tl_push (v := .inl (x - y)) hr hsr) hwr
    | imul =>
      obtain ⟨x, y, r, rfl, hr, h⟩ := tl_st2_s h
      obtain ⟨_, hsr⟩ := tl_cons hsr
      obtain ⟨_, hsr⟩ := tl_cons hsr
      refine lv_imul hx hb hdg ?_
      rw [← Int32.ofInt_mul]
      exact ih (pc + 1) L (.inl (x * y) :: r) w H locs ls h hl hP hD hS h99 hLr (tl_push (v := .inl (x * y)) hr hsr) hwr
    | iand =>
      obtain ⟨x, y, r, rfl, a, b, rfl, rfl, h'⟩ := tl_st2_s h
      obtain ⟨hvy, hsr⟩ := tl_cons hsr
      obtain ⟨hvx, hsr⟩ := tl_cons hsr
      have ha := tl_ra hvx
      have hb' := tl_ra hvy
      refine lv_iand hx hb hdg ?_
      rw [tl_and]
      exact ih (pc + 1) L (.inl ((a &&& b : Nat) : Int) :: r) w H locs ls h' hl hP hD hS h99 hLr (tl_push (v := .inl ((a &&& b : Nat) : Int)) (tl_irn (tl_andb ha)) hsr) hwr
    | ior =>
      obtain ⟨x, y, r, rfl, a, b, rfl, rfl, h'⟩ := tl_st2_s h
      obtain ⟨hvy, hsr⟩ := tl_cons hsr
      obtain ⟨hvx, hsr⟩ := tl_cons hsr
      have ha := tl_ra hvx
      have hb' := tl_ra hvy
      refine lv_ior hx hb hdg ?_
      rw [tl_or]
      exact ih (pc + 1) L (.inl ((a ||| b : Nat) : Int) :: r) w H locs ls h' hl hP hD hS h99 hLr (tl_push (v := .inl ((a ||| b : Nat) : Int)) (tl_irn (tl_orb ha hb')) hsr) hwr
    | idiv =>
      obtain ⟨x, y, r, rfl, a, b, rfl, rfl, h0, h'⟩ := tl_st2_s h
      obtain ⟨hvy, hsr⟩ := tl_cons hsr
      obtain ⟨hvx, hsr⟩ := tl_cons hsr
      have ha := tl_ra hvx
      have hb' := tl_ra hvy
      refine lv_idiv hx hb hdg (fun q => by rw [tl_z] at q; have := (tl_eqI hvy tl_ir0).mp q; omega) ?_
      rw [tl_dv ha h0 hb']
      exact ih (pc + 1) L (.inl ((a / b : Nat) : Int) :: r) w H locs ls h' hl hP hD hS h99 hLr (tl_push (v := .inl ((a / b : Nat) : Int)) (tl_irn (tl_divb ha)) hsr) hwr
    | ishl =>
      obtain ⟨x, y, r, rfl, a, b, rfl, rfl, h0, h1, h'⟩ := tl_st2_s h
      obtain ⟨hvy, hsr⟩ := tl_cons hsr
      obtain ⟨hvx, hsr⟩ := tl_cons hsr
      have ha := tl_ra hvx
      have hb' := tl_ra hvy
      refine lv_ishl hx hb hdg ?_
      rw [tl_shl h0 h1]
      exact ih (pc + 1) L (.inl ((a * 2 ^ b : Nat) : Int) :: r) w H locs ls h' hl hP hD hS h99 hLr (tl_push (v := .inl ((a * 2 ^ b : Nat) : Int)) (tl_irn (h1)) hsr) hwr
    | ishr =>
      obtain ⟨x, y, r, rfl, a, b, rfl, rfl, h0, h'⟩ := tl_st2_s h
      obtain ⟨hvy, hsr⟩ := tl_cons hsr
      obtain ⟨hvx, hsr⟩ := tl_cons hsr
      have ha := tl_ra hvx
      have hb' := tl_ra hvy
      refine lv_ishr hx hb hdg ?_
      rw [tl_shr ha h0]
      exact ih (pc + 1) L (.inl ((a / 2 ^ b : Nat) : Int) :: r) w H locs ls h' hl hP hD hS h99 hLr (tl_push (v := .inl ((a / 2 ^ b : Nat) : Int)) (tl_irn (tl_divb ha)) hsr) hwr
    | dup =>
      obtain ⟨v, r, rfl, h⟩ := tl_any1_s h
      obtain ⟨hv, hsr'⟩ := tl_cons hsr
      exact lv_dup hx hb hdg (tl_val_cat o ad v) (ih (pc + 1) L (v :: v :: r) w H locs ls h hl hP hD hS h99 hLr (tl_push hv hsr) hwr)
    | dup2 =>
      obtain ⟨a, r, rfl, h⟩ := tl_any1_s h
      obtain ⟨b, r, rfl, h⟩ := tl_any1_s h
      obtain ⟨hva, hsr'⟩ := tl_cons hsr
      obtain ⟨hvb, _⟩ := tl_cons hsr'
      exact lv_dup2_11 hx hb hdg (tl_val_cat o ad a) (tl_val_cat o ad b) (ih (pc + 1) L (a :: b :: a :: b :: r) w H locs ls h hl hP hD hS h99 hLr (tl_push hva (tl_push hvb hsr)) hwr)
    | pop =>
      obtain ⟨v, r, rfl, h⟩ := tl_any1_s h
      exact lv_pop hx hb hdg (tl_val_cat o ad v) (ih (pc + 1) L r w H locs ls h hl hP hD hS h99 hLr (tl_cons hsr).2 hwr)
    | ifCond cd off =>
      have ht := tl_to_eq (of_decide_eq_true hok)
      cases cd with
      | eq =>
        obtain ⟨x, r, rfl, h⟩ := tl_st1_s h
        obtain ⟨hv, hsr⟩ := tl_cons hsr
        have hiff := tl_eqI hv tl_ir0
        exact lv_if_eq hx hb hdg ht (fun q => ih (tl_to pc off) L r w H locs ls (h.1 (hiff.mp q)) hl hP hD hS h99 hLr hsr hwr) (fun q => ih (pc + 3) L r w H locs ls (h.2 (fun z => q (hiff.mpr z))) hl hP hD hS h99 hLr hsr hwr)
      | ne =>
        obtain ⟨x, r, rfl, h⟩ := tl_st1_s h
        obtain ⟨hv, hsr⟩ := tl_cons hsr
        have hiff := not_congr (tl_eqI hv tl_ir0)
        have heq := tl_eqI hv tl_ir0
        exact lv_if_ne hx hb hdg ht (fun q => ih (tl_to pc off) L r w H locs ls (h.1 (hiff.mp q)) hl hP hD hS h99 hLr hsr hwr) (fun q => ih (pc + 3) L r w H locs ls (h.2 (fun z => z (heq.mp q))) hl hP hD hS h99 hLr hsr hwr)
      | lt =>
        obtain ⟨x, r, rfl, h⟩ := tl_st1_s h
        obtain ⟨hv, hsr⟩ := tl_cons hsr
        have hiff := tl_ltI hv tl_ir0
        exact lv_if_lt hx hb hdg ht (fun q => ih (tl_to pc off) L r w H locs ls (h.1 (hiff.mp q)) hl hP hD hS h99 hLr hsr hwr) (fun q => ih (pc + 3) L r w H locs ls (h.2 (fun z => q (hiff.mpr z))) hl hP hD hS h99 hLr hsr hwr)
      | ge =>
        obtain ⟨x, r, rfl, h⟩ := tl_st1_s h
        obtain ⟨hv, hsr⟩ := tl_cons hsr
        have hiff := tl_leI tl_ir0 hv
        exact lv_if_ge hx hb hdg ht (fun q => ih (tl_to pc off) L r w H locs ls (h.1 (hiff.mp q)) hl hP hD hS h99 hLr hsr hwr) (fun q => ih (pc + 3) L r w H locs ls (h.2 (fun z => q (hiff.mpr z))) hl hP hD hS h99 hLr hsr hwr)
      | gt =>
        obtain ⟨x, r, rfl, h⟩ := tl_st1_s h
        obtain ⟨hv, hsr⟩ := tl_cons hsr
        have hiff := tl_ltI tl_ir0 hv
        exact lv_if_gt hx hb hdg ht (fun q => ih (tl_to pc off) L r w H locs ls (h.1 (hiff.mp q)) hl hP hD hS h99 hLr hsr hwr) (fun q => ih (pc + 3) L r w H locs ls (h.2 (fun z => q (hiff.mpr z))) hl hP hD hS h99 hLr hsr hwr)
      | le =>
        obtain ⟨x, r, rfl, h⟩ := tl_st1_s h
        obtain ⟨hv, hsr⟩ := tl_cons hsr
        have hiff := tl_leI hv tl_ir0
        exact lv_if_le hx hb hdg ht (fun q => ih (tl_to pc off) L r w H locs ls (h.1 (hiff.mp q)) hl hP hD hS h99 hLr hsr hwr) (fun q => ih (pc + 3) L r w H locs ls (h.2 (fun z => q (hiff.mpr z))) hl hP hD hS h99 hLr hsr hwr)
    | if_icmp cd off =>
      have ht := tl_to_eq (of_decide_eq_true hok)
      cases cd with
      | eq =>
        obtain ⟨x, y, r, rfl, h⟩ := tl_st2_s h
        obtain ⟨hvy, hsr⟩ := tl_cons hsr
        obtain ⟨hvx, hsr⟩ := tl_cons hsr
        have hiff := tl_eqI hvx hvy
        exact lv_icmp_eq hx hb hdg ht (fun q => ih (tl_to pc off) L r w H locs ls (h.1 (hiff.mp q)) hl hP hD hS h99 hLr hsr hwr) (fun q => ih (pc + 3) L r w H locs ls (h.2 (fun z => q (hiff.mpr z))) hl hP hD hS h99 hLr hsr hwr)
      | ne =>
        obtain ⟨x, y, r, rfl, h⟩ := tl_st2_s h
        obtain ⟨hvy, hsr⟩ := tl_cons hsr
        obtain ⟨hvx, hsr⟩ := tl_cons hsr
        have hiff := not_congr (tl_eqI hvx hvy)
        have heq := tl_eqI hvx hvy
        exact lv_icmp_ne hx hb hdg ht (fun q => ih (tl_to pc off) L r w H locs ls (h.1 (hiff.mp q)) hl hP hD hS h99 hLr hsr hwr) (fun q => ih (pc + 3) L r w H locs ls (h.2 (fun z => z (heq.mp q))) hl hP hD hS h99 hLr hsr hwr)
      | lt =>
        obtain ⟨x, y, r, rfl, h⟩ := tl_st2_s h
        obtain ⟨hvy, hsr⟩ := tl_cons hsr
        obtain ⟨hvx, hsr⟩ := tl_cons hsr
        have hiff := tl_ltI hvx hvy
        exact lv_icmp_lt hx hb hdg ht (fun q => ih (tl_to pc off) L r w H locs ls (h.1 (hiff.mp q)) hl hP hD hS h99 hLr hsr hwr) (fun q => ih (pc + 3) L r w H locs ls (h.2 (fun z => q (hiff.mpr z))) hl hP hD hS h99 hLr hsr hwr)
      | ge =>
        obtain ⟨x, y, r, rfl, h⟩ := tl_st2_s h
        obtain ⟨hvy, hsr⟩ := tl_cons hsr
        obtain ⟨hvx, hsr⟩ := tl_cons hsr
        have hiff := tl_leI hvy hvx
        exact lv_icmp_ge hx hb hdg ht (fun q => ih (tl_to pc off) L r w H locs ls (h.1 (hiff.mp q)) hl hP hD hS h99 hLr hsr hwr) (fun q => ih (pc + 3) L r w H locs ls (h.2 (fun z => q (hiff.mpr z))) hl hP hD hS h99 hLr hsr hwr)
      | gt =>
        obtain ⟨x, y, r, rfl, h⟩ := tl_st2_s h
        obtain ⟨hvy, hsr⟩ := tl_cons hsr
        obtain ⟨hvx, hsr⟩ := tl_cons hsr
        have hiff := tl_ltI hvy hvx
        exact lv_icmp_gt hx hb hdg ht (fun q => ih (tl_to pc off) L r w H locs ls (h.1 (hiff.mp q)) hl hP hD hS h99 hLr hsr hwr) (fun q => ih (pc + 3) L r w H locs ls (h.2 (fun z => q (hiff.mpr z))) hl hP hD hS h99 hLr hsr hwr)
      | le =>
        obtain ⟨x, y, r, rfl, h⟩ := tl_st2_s h
        obtain ⟨hvy, hsr⟩ := tl_cons hsr
        obtain ⟨hvx, hsr⟩ := tl_cons hsr
        have hiff := tl_leI hvx hvy
        exact lv_icmp_le hx hb hdg ht (fun q => ih (tl_to pc off) L r w H locs ls (h.1 (hiff.mp q)) hl hP hD hS h99 hLr hsr hwr) (fun q => ih (pc + 3) L r w H locs ls (h.2 (fun z => q (hiff.mpr z))) hl hP hD hS h99 hLr hsr hwr)
    | goto off => exact lv_goto hx hb hdg (tl_to_eq (of_decide_eq_true hok)) (ih (tl_to pc off) L st w H locs ls h hl hP hD hS h99 hLr hsr hwr)
    | getfield ix =>
      obtain ⟨a, r, rfl, rfl, h1⟩ := tl_sta_s h
      clear h
      obtain ⟨k, hk, h9, h⟩ := tl_some_s h1
      obtain ⟨_, hsr⟩ := tl_cons hsr
      obtain ⟨hkN, hlk⟩ := (f7 ix k hk).1 h9
      obtain ⟨g1, g2, g3⟩ := f5 k hkN
      have hfa := tl_fs_at (ks := ks) (ad := ad) (w := w) hkN
      cases hv : P.2.2.1 k with
      | some z =>
        rw [hv] at h
        rw [if_pos (g2.mpr (by rw [hv]; rfl))] at hfa
        exact va_get hx hb hts hsub hown hK hP 0 rfl hc k hkN (hin _ hlk) (fun x hx' => by rw [g1] at hx'; exact hx') hfa hdg (ih (pc + 3) L (.inr (k + 1) :: r) w H locs ls h hl hP hD hS h99 hLr (tl_push (v := .inr (k + 1)) trivial hsr) hwr)
      | none =>
        rw [hv] at h
        rw [if_neg (fun q => by have := g2.mp q; rw [hv] at this; cases this)] at hfa
        exact va_get hx hb hts hsub hown hK hP 0 rfl hc k hkN (hin _ hlk) (fun x hx' => by rw [g1] at hx'; exact hx') hfa hdg (ih (pc + 3) L (.inl (w k 0) :: r) w H locs ls h hl hP hD hS h99 hLr (tl_push (v := .inl (w k 0)) (hwr k 0) hsr) hwr)
    | putfield ix =>
      obtain ⟨x, r, rfl, h⟩ := tl_st1_s h
      obtain ⟨a, r, rfl, rfl, h1⟩ := tl_sta_s h
      clear h
      obtain ⟨k, hk, h9, hv, h⟩ := tl_some_s h1
      obtain ⟨hvx, hsr⟩ := tl_cons hsr
      obtain ⟨_, hsr⟩ := tl_cons hsr
      obtain ⟨hkN, hlk⟩ := (f7 ix k hk).1 h9
      obtain ⟨g1, g2, g3⟩ := f5 k hkN
      obtain ⟨g4, g5⟩ := g3 hv
      have hks : k ∉ ks := fun q => by have := g2.mp q; rw [hv] at this; cases this
      refine va_put hx hb hts hsub ty0 f9a f9b hown hK hP hD hS 0 rfl hc k hkN (hin _ hlk) (fun x hx' => by rw [g1] at hx'; exact hx') g4 g5 rfl rfl (by rw [tl_fs_len]; exact hkN) hdg (fun H1 locs1 hP1 hD1 hS1 => ?_)
      have e1 : (tl_ce P N ci ks o ad cA w).set 0 (o, .inr (ci, (tl_fs N ks ad w).set k (tl_val o ad (.inl x)))) = tl_ce P N ci ks o ad cA (tl_set w k 0 x) := tl_ce_put hkN hks
      rw [e1] at hP1 hD1
      refine ih (pc + 3) L r (tl_set w k 0 x) H1 locs1 ls h hl hP1 hD1 hS1 ?_ hLr hsr (tl_set_r hwr hvx)
      unfold tl_set
      rw [if_neg (by omega)]
      exact h99
    | getstatic ix =>
      obtain ⟨hk, h⟩ := h
      obtain ⟨hsf, hlk⟩ := (f7 ix 99 hk).2 rfl
      obtain ⟨hZ, -⟩ := hG hsf
      exact va_gets hx hb hZ hS hown (hin _ hlk) (fun x hx' => hx') hdg (ih (pc + 3) L (.inr 100 :: st) w H locs ls h hl hP hD hS h99 hLr (tl_push (v := .inr 100) trivial hsr) hwr)
    | iaload =>
      obtain ⟨x, r, rfl, h⟩ := tl_st1_s h
      obtain ⟨a, r, rfl, k, b, n', rfl, rfl, hn, hbn, h1⟩ := tl_sta_s h
      clear h
      have h := h1
      obtain ⟨_, hsr1⟩ := tl_cons hsr
      obtain ⟨_, hsr2⟩ := tl_cons hsr1
      clear hsr hsr1
      have hsr := hsr2
      obtain ⟨hn31, hkk⟩ := f6 k n' hn
      have hin' : vp_in (nI b) n' := vp_in_nI hbn hn31
      have hcl : (nI b).toNatClampNeg = b := nI_clamp (Nat.lt_trans hbn hn31)
      have eb : tl_val o ad (.inl (b : Int)) = .int (nI b) := by show Value.int (Int32.ofInt (b : Int)) = _; rw [tl_nI]
      show W p l e R s m args below meth c H locs 0 0 QQ (F0 m pc ls (tl_val o ad (.inl (b : Int)) :: .ref (ad k) :: r.map (tl_val o ad)))
      rw [eb]
      rcases hkk with hkk | ⟨rfl, hsf, rfl⟩
      · obtain ⟨q0, hq0⟩ := List.getElem?_of_mem hkk
        have hty : (ks.map fun k => (cA k, FieldType.int))[q0]? = some (cA k, FieldType.int) := by rw [List.getElem?_map, hq0]; rfl
        refine va_iald hx hb hK hP (q0 + 1) q0 (tl_ce_arr hq0 hn) hty hin' hdg ?_
        rw [hcl]
        exact ih (pc + 1) L (.inl (w k b) :: r) w H locs ls h hl hP hD hS h99 hLr (tl_push (v := .inl (w k b)) (hwr k b) hsr) hwr
      · obtain ⟨-, hT⟩ := hG hsf
        exact va_ti hx hb hT hS hin' (v := .int (Int32.ofInt (w 99 b))) (by rw [hcl, h99]) hdg (ih (pc + 1) L (.inl (w 99 b) :: r) w H locs ls h hl hP hD hS h99 hLr (tl_push (v := .inl (w 99 b)) (hwr 99 b) hsr) hwr)
    | iastore =>
      obtain ⟨i', x, r, rfl, h⟩ := tl_st2_s h
      obtain ⟨a, r, rfl, k, b, n', rfl, h9, rfl, hn, hbn, h1⟩ := tl_sta_s h
      clear h
      have h := h1
      obtain ⟨hvx, hsr⟩ := tl_cons hsr
      obtain ⟨_, hsr⟩ := tl_cons hsr
      obtain ⟨_, hsr⟩ := tl_cons hsr
      obtain ⟨hn31, hkk⟩ := f6 k n' hn
      have hin' : vp_in (nI b) n' := vp_in_nI hbn hn31
      have hcl : (nI b).toNatClampNeg = b := nI_clamp (Nat.lt_trans hbn hn31)
      have eb : tl_val o ad (.inl (b : Int)) = .int (nI b) := by show Value.int (Int32.ofInt (b : Int)) = _; rw [tl_nI]
      show W p l e R s m args below meth c H locs 0 0 QQ (F0 m pc ls (.int (Int32.ofInt x) :: tl_val o ad (.inl (b : Int)) :: .ref (ad k) :: r.map (tl_val o ad)))
      rw [eb]
      rcases hkk with hkk | ⟨h99', -⟩
      · obtain ⟨q0, hq0⟩ := List.getElem?_of_mem hkk
        have hty : (ks.map fun k => (cA k, FieldType.int))[q0]? = some (cA k, FieldType.int) := by rw [List.getElem?_map, hq0]; rfl
        refine va_iast hx hb hK hP hD hS (q0 + 1) q0 (tl_ce_arr hq0 hn) hty hin' hdg (fun H1 locs1 hP1 hD1 hS1 => ?_)
        rw [hcl, tl_ce_set f9 hq0 hn] at hP1 hD1
        refine ih (pc + 1) L r (tl_set w k b x) H1 locs1 ls h hl hP1 hD1 hS1 ?_ hLr hsr (tl_set_r hwr hvx)
        unfold tl_set
        rw [if_neg (fun e => h9 e.symm)]
        exact h99
      · exact absurd h99' h9
    | invokestatic ix =>
      obtain ⟨q, hq, h⟩ := tl_some_s h
      obtain ⟨g1, g2, g3⟩ := f8 ix q hq
      cases h0 : Nat.beq q.1 1000 with
      | true =>
        rw [h0] at h
        obtain ⟨x, y, r, rfl, h8, h⟩ := tl_st2_s h
        obtain ⟨hvy, hsr⟩ := tl_cons hsr
        obtain ⟨hvx, hsr⟩ := tl_cons hsr
        obtain ⟨k1, k2, k3, k4⟩ := g2 (Nat.eq_of_beq_eq_true h0)
        refine va_mmax hx hb (by rw [hml]; exact hl.1.symm) hown (hin _ k1) (hin _ k2) (hin _ k3) (hin _ k4) (by rw [hR.1]; omega) (by rw [tl_sum, hR.2]; omega) (Nat.zero_le _) (Nat.zero_le _) hdg ?_
        rw [tl_mx hvx hvy]
        exact ih (pc + 3) L (.inl (max x y) :: r) w H locs ls h hl hP hD hS h99 hLr (tl_push (v := .inl (max x y)) (by have h1 := hvx; have h2 := hvy; exact ⟨by have := h1.1; have := h2.1; omega, by have := h1.2; have := h2.2; omega⟩) hsr) hwr
      | false =>
        rw [h0] at h
        cases h1 : Nat.beq q.1 1001 with
        | true =>
          rw [h1] at h
          obtain ⟨x, y, r, rfl, h8, h⟩ := tl_st2_s h
          obtain ⟨hvy, hsr⟩ := tl_cons hsr
          obtain ⟨hvx, hsr⟩ := tl_cons hsr
          obtain ⟨k1, k2, k3, k4⟩ := g3 (Nat.eq_of_beq_eq_true h1)
          refine va_mmin hx hb (by rw [hml]; exact hl.1.symm) hown (hin _ k1) (hin _ k2) (hin _ k3) (hin _ k4) (by rw [hR.1]; omega) (by rw [tl_sum, hR.2]; omega) (Nat.zero_le _) (Nat.zero_le _) hdg ?_
          rw [tl_mn hvx hvy]
          exact ih (pc + 3) L (.inl (min x y) :: r) w H locs ls h hl hP hD hS h99 hLr (tl_push (v := .inl (min x y)) (by have h1 := hvx; have h2 := hvy; exact ⟨by have := h1.1; have := h2.1; omega, by have := h1.2; have := h2.2; omega⟩) hsr) hwr
        | false =>
          rw [h1] at h
          obtain ⟨hn, h8, h⟩ := h
          have hdr : ∀ v ∈ st.drop q.2, tl_vr v := fun v hv => hsr v (List.mem_of_mem_drop hv)
          simp only [tl_ok, hq, h0, h1, Bool.false_or, Bool.and_eq_true, decide_eq_true_eq] at hok
          obtain ⟨k1, k2, k3, k4, k5⟩ := g1 hok.1
          obtain ⟨k6, k7⟩ := k4 hok.2
          obtain ⟨hcls, hm20, hcw⟩ := f2 q.1 k1
          have hMc := hM q.1 (st.take q.2).reverse w _ H.size k1 (by rw [List.length_reverse, List.length_take]; omega) (fun v hv => hsr v (List.mem_of_mem_take (List.mem_reverse.mp hv))) hwr (fun _ _ z => z) h
          refine tl_callk (rest := (st.drop q.2).map (tl_val o ad)) (va_runS (Ts := tl_ws P nm bs WS j) (As := (st.take q.2).reverse.map (tl_val o ad)) ⟨hx, hb, hml, hown, hts⟩ hMc
            ⟨callB_of q.2 hts (tl_good f3 hcw) rfl rfl rfl (by rw [hcls]; exact hin _ f4c) (hin _ k3) ⟨by rw [hcls]; exact f4a, by rw [hcls]; exact f4b, k7⟩ ⟨by rw [hR.1]; exact Nat.le_refl _, by show 8 + ((P.1 q.1).2.1 + 11) + 40 * d ≤ R.locals; rw [hR.2]; omega⟩, hin _ k6⟩
            ⟨tl_blind, fun U hU hW => ⟨rfl, by rw [hU], ⟨by rw [hU]; exact hP, va_K.moved hW.alike hK, hD.weaken (fun _ _ _ _ => trivial)⟩, tl_G.use hG hW.alike hU hS.2.1 (tl_A_mono hS.1) h99⟩⟩ rfl ?_ hl.1 ?_ (lv_room (by rw [tl_sum]; exact h8)) hdg ⟨Nat.zero_le _, Nat.zero_le _⟩) hS (tl_A_mono hS.1) (fun r w' t H1 locs1 ht hvm hq' hB h9 hr1 hr2 hS1 => ?_)
          · rw [List.length_map, List.length_reverse, List.length_take]; omega
          · show st.map (tl_val o ad) = _
            rw [List.map_reverse, List.reverse_reverse, ← List.map_append, List.take_append_drop]
          · obtain ⟨hP1, hK1, hD1⟩ := hB
            rw [ht] at hP1
            cases r with
            | none => exact ih (pc + 3) L (st.drop q.2) w' H1 locs1 ls hq' hl hP1 (tl_D hD1) hS1 (h9.trans h99) hLr hdr hr2
            | some x => exact ih (pc + 3) L (.inl x :: st.drop q.2) w' H1 locs1 ls hq' hl hP1 (tl_D hD1) hS1 (h9.trans h99) hLr (tl_push (v := .inl x) (hr1 x rfl) hdr) hr2
    | invokevirtual ix =>
      obtain ⟨q, hq, hlast, hn, h8, h⟩ := tl_some_s h
      have hdr : ∀ v ∈ st.drop q.2, tl_vr v := fun v hv => hsr v (List.mem_of_mem_drop hv)
      obtain ⟨g1, g2, g3⟩ := f8 ix q hq
      simp only [tl_ok, hq, Bool.and_eq_true, Bool.not_eq_true', decide_eq_true_eq] at hok
      obtain ⟨k1, k2, k3, k4, k5⟩ := g1 hok.1
      obtain ⟨k6, k7, k8⟩ := k5 hok.2
      obtain ⟨hcls, hm20, hcw⟩ := f2 q.1 k1
      obtain ⟨ys, hys⟩ := List.getLast?_eq_some_iff.mp hlast
      have has : (st.take q.2).reverse = .inr 0 :: ys.reverse := by rw [hys, List.reverse_append]; rfl
      have hlen : ys.length + 1 = q.2 := by
        have h1 := congrArg List.length hys
        rw [List.length_take, List.length_append, List.length_singleton] at h1
        omega
      have e : st = ys ++ (.inr 0 :: st.drop q.2) := by
        have h1 := List.take_append_drop q.2 st
        rw [hys, List.append_assoc] at h1
        exact h1.symm
      have hst : st.map (tl_val o ad) = (ys.reverse.map (tl_val o ad)).reverse ++ Value.ref o :: (st.drop q.2).map (tl_val o ad) := by
        have h1 := congrArg (List.map (tl_val o ad)) e
        rw [h1, List.map_append, List.map_reverse, List.reverse_reverse]
        rfl
      have hasr : ∀ v ∈ (.inr 0 :: ys.reverse : List tl_V), tl_vr v := by
        rw [← has]
        exact fun v hv => hsr v (List.mem_of_mem_take (List.mem_reverse.mp hv))
      rw [has] at h
      have hMc := hM q.1 (.inr 0 :: ys.reverse) w _ H.size k1 (by rw [List.length_cons, List.length_reverse]; omega) hasr hwr (fun _ _ z => z) h
      refine tl_callk (rest := (st.drop q.2).map (tl_val o ad)) (va_runV (Ts := tl_ws P nm bs WS j) (C := cn) (b := o) (As := ys.reverse.map (tl_val o ad)) ⟨hx, hb, hml, hown, hts⟩ hMc
        ⟨callB_of (q.2 - 1) hts (tl_good f3 hcw) rfl rfl rfl (by rw [hcls]; exact hin _ f4c) (hin _ k3) ⟨by rw [hcls]; exact f4a, by rw [hcls]; exact f4b, k8⟩ ⟨by rw [hR.1]; exact Nat.le_refl _, by show 8 + ((P.1 q.1).2.1 + 11) + 40 * d ≤ R.locals; rw [hR.2]; omega⟩, hin _ k6, hin _ k7⟩
        ⟨tl_blind, va_recv hK hP hc (q0 := 0) rfl, fun U hU hW => ⟨rfl, by rw [hU], ⟨by rw [hU]; exact hP, va_K.moved hW.alike hK, hD.weaken (fun _ _ _ _ => trivial)⟩, tl_G.use hG hW.alike hU hS.2.1 (tl_A_mono hS.1) h99⟩⟩ rfl ?_ hl.1 hst (lv_room (by rw [tl_sum]; exact h8)) hdg ⟨Nat.zero_le _, Nat.zero_le _⟩) hS (tl_A_mono hS.1) (fun r w' t H1 locs1 ht hvm hq' hB h9 hr1 hr2 hS1 => ?_)
      · rw [List.length_map, List.length_reverse]; omega
      · obtain ⟨hP1, hK1, hD1⟩ := hB
        rw [ht] at hP1
        cases r with
        | none => exact ih (pc + 3) L (st.drop q.2) w' H1 locs1 ls hq' hl hP1 (tl_D hD1) hS1 (h9.trans h99) hLr hdr hr2
        | some x => exact ih (pc + 3) L (.inl x :: st.drop q.2) w' H1 locs1 ls hq' hl hP1 (tl_D hD1) hS1 (h9.trans h99) hLr (tl_push (v := .inl x) (hr1 x rfl) hdr) hr2
    | ireturn =>
      obtain ⟨x, r, rfl, rfl, hty, h1⟩ := tl_st1_s h
      clear h
      have h := h1
      obtain ⟨ty, e1, e2⟩ := tl_some_s hty
      exact hret (some x) w H locs pc ls h hP hD hS h99 hwr (fun y hy => by cases hy; exact (tl_cons hsr).1) ⟨hdg, ty, e1, e2⟩
    | return_ =>
      obtain ⟨rfl, e1, h1⟩ := h
      exact hret none w H locs pc ls h1 hP hD hS h99 hwr (fun y hy => by cases hy) ⟨hdg, e1⟩
    | new ix =>
      obtain ⟨rfl, h1⟩ := h
      obtain ⟨k, hk, h2⟩ := tl_some_s h1
      exact hthr k w H locs pc ix ls h2 hP hD hS h99 hwr hl.1 hk hi hdg
    | _ => exact h.elim
theorem tl_nar {x : Int} {ty : FieldType} (h : ty = .int ∨ ((x = 0 ∨ x = 1) ∧ ty = .boolean)) : narrow ty (.int (Int32.ofInt x)) = .int (Int32.ofInt x) := by
  rcases h with rfl | ⟨rfl | rfl, rfl⟩
  · rfl
  · rfl
  · rfl
set_option maxHeartbeats 4000000 in
set_option maxRecDepth 100000 in
/-- contracts of methods that throw nothing -/
theorem tl_sound (F : tl_face P N ks sf n9 cn fn T ty0 nM nm bs sta WS) (hc : cl[ci]? = some (cn, T, N)) : ∀ (d j : Nat) (as : List tl_V) (w : tl_W) (Q : tl_Q) (sz : Nat), j < nM → as.length ≤ (P.1 j).2.1 → (∀ v ∈ as, tl_vr v) → (∀ a b, tl_ir (w a b)) → (∀ k w', ¬ Q (.inr k) w') → tl_C P d j as w Q →
    Met l (nm j) (tl_ws P nm bs WS j) (tl_rm d) (tl_Pc P N ci ks sf n9 cn fn D cl o ad cA as w sz) (tl_Qc P N ci ks D cl o ad cA w Q sz) 0 0 (tl_A o ks ad sz) := by
  intro d
  induction d with
  | zero => intro j as w Q sz _ _ _ _ _ h; exact h.elim
  | succ d ihd =>
    intro j as w Q sz hj has hasr hwr hQ h
    refine Met.ofW (cc := bs j) (maxL := (P.1 j).2.1) (ret := (P.1 j).2.2) (by rw [(F.2.1 j hj).1]; exact F.2.2.2.1.1) rfl ?_
    intro p e s m args below meth c s₁ B hml hv
    obtain ⟨rfl, hsz, ⟨hP, hK, hD⟩, hG⟩ := hv
    subst hsz
    obtain ⟨n, hn⟩ := h
    have hts := atoms_spec (ws := tl_ws P nm bs WS j) B.pre
    have hown : s.vm.findClass cn = some m.cls := by rw [← (F.2.1 j hj).1]; exact findClass_of_methodNamed B.named
    have hl := lv_entry (as.map (tl_val o ad)) (n := (P.1 j).2.1) (by rw [tl_sl]; exact has)
    rw [lg_entry_eq]
    generalize (lg_sl (as.map (tl_val o ad)) ++ List.replicate ((P.1 j).2.1 - (lg_sl (as.map (tl_val o ad))).length) Slot.unset).toArray = ls at hl ⊢
    rw [tl_args] at hl
    refine tl_walk F (R := tl_rm (d + 1)) ⟨rfl, rfl⟩ B.exec B.bytes hml hown hts hj hc hK hG ihd ?_ ?_ n 0 (tl_en 0 as) [] w s.heap [] ls hn hl hP (tl_D hD) va_S.rf rfl (tl_en_r hasr 0) (fun v hv => by cases hv) hwr
    · intro r w' H locs pc ls' hq hP' hD' hS' h9 hwr' hr1 hr
      cases r with
      | none => exact W.vret B.exec B.bytes (B.returns.trans hr.2) (fun t ht hW => ⟨⟨none, w', rfl, hq, ⟨by rw [ht]; exact hP', va_K.moved hW.alike hK, hD'.weaken (fun _ _ _ _ => trivial)⟩, h9, hr1, hwr'⟩, hS'.F ht⟩) hS'.2.2 hr.1 B.notSynchronized
      | some x =>
        obtain ⟨h1, ty, h2, h3⟩ := hr
        exact W.zret B.exec B.bytes (B.returns.trans h2) (tl_nar h3) (fun t ht hW => ⟨⟨some x, w', rfl, hq, ⟨by rw [ht]; exact hP', va_K.moved hW.alike hK, hD'.weaken (fun _ _ _ _ => trivial)⟩, h9, hr1, hwr'⟩, hS'.F ht⟩) hS'.2.2 h1 B.notSynchronized
    · intro k w' H locs pc ix ls' hq
      exact absurd hq (hQ k w')
end TLW
