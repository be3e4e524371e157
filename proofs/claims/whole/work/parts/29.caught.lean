/-! 29.caught: the law's own methods that call and catch -/
def tw_A (o : Nat) (ad : Nat → Nat) (ao sz : Nat) : Nat → Prop := fun q => tl_A o [0, 1, 2, 3] ad sz q ∨ q = ao
def tw_U (A : Nat → Prop) (U : State) : Prop := tx_U A U ∧ va_Nc (tx_n 2) (tx_n 1) U ∧ va_Nc (tx_n 3) (tx_n 1) U ∧ va_Nc (tx_n 3) (tx_n 2) U
theorem tw_U.use {s U : State} {H : Heap} {A B : Nat → Prop} (h : tw_U A s) (hvm : s.vm.Alike U.vm) (hU : U.heap = H) (hH : ∀ q : Nat, q < s.heap.size → ¬ A q → H[q]? = s.heap[q]?) (hBA : ∀ q, B q → A q) : tw_U B U := by
  obtain ⟨h0, h1, h2, h3⟩ := h
  exact ⟨h0.use hvm hU hH hBA, va_Nc.moved hvm h1, va_Nc.moved hvm h2, va_Nc.moved hvm h3⟩
/-- the one long that the answers are laid in -/
def tw_O (D : va_G) (cl : List vw_C) (ao : Nat) (cO : ClassId) (f : Nat → Int64) (H : Heap) : Prop := va_P D cl [(ao, .inl (cO, 1, .inr (.inl f)))] H
def tw_k : tl_R → Int32
  | .inl _ => 0
  | .inr k => Int32.ofNat k
def tw_Pc (ci : Nat) (D : va_G) (cl : List vw_C) (o : Nat) (ad : Nat → Nat) (cA : Nat → ClassId) (ao : Nat) (cO : ClassId) (f : Nat → Int64) (as : List Value) (w : tl_W) (sz : Nat) : Array Value → State → Prop :=
  va_Pc as (fun U => U.heap.size = sz ∧ tl_B ta_P 4 ci [0, 1, 2, 3] D cl o ad cA w U ∧ tl_G true "TieredLocks" "TOGETHER" 6 ad w (tw_A o ad ao sz) U U.heap ∧ tw_U (tw_A o ad ao sz) U ∧ tw_O D cl ao cO f U.heap ∧ va_K D cl [(cO, .long)] U)
def tw_Qc (ci : Nat) (D : va_G) (cl : List vw_C) (o : Nat) (ad : Nat → Nat) (cA : Nat → ClassId) (ao : Nat) (cO : ClassId) (R : tl_R) (w' : tl_W) (sz : Nat) : Array Value → State → Outcome → State → Prop :=
  fun _ st oc t => (oc = .returned (some (.int (tw_k R))) ∧ tl_B ta_P 4 ci [0, 1, 2, 3] D cl o ad cA w' t ∧ (∀ a b, tl_ir (w' a b)) ∧ ∃ f' : Nat → Int64, (∀ x, R = .inl (some x) → f' 0 = (Int32.ofInt x).toInt64) ∧ tw_O D cl ao cO f' t.heap) ∧ va_F (tw_A o ad ao sz) st t
section TWW
variable {p : Program} {l : Launch} {e : Env} {R : Room} {s : State} {m : MethodId} {args : Array Value} {below : List Frame} {meth : Method} {c : Code} {H : Heap} {locs : List Loc} {cells slots : Nat} {QQ : State → Prop}
variable {ci : Nat} {D : va_G} {cl : List vw_C} {o : Nat} {ad : Nat → Nat} {cA : Nat → ClassId}
theorem tw_blind {ao : Nat} {cO : ClassId} {f : Nat → Int64} {as : List Value} {w : tl_W} {sz : Nat} : FrameBlind (tw_Pc ci D cl o ad cA ao cO f as w sz) := by
  intro a U g mk q
  obtain ⟨q0, q1, ⟨qP, qK, qD⟩, qG, q2, q3, q4⟩ := q
  refine ⟨q0, q1, ⟨qP, va_K.moved (u := U) (U := U.calling g mk a) (Vm.Alike.refl U.vm) qK, qD⟩, fun hs => ?_, ?_, q3, va_K.moved (u := U) (U := U.calling g mk a) (Vm.Alike.refl U.vm) q4⟩
  · obtain ⟨g1, g2⟩ := qG hs
    exact ⟨va_Z.moved (u := U) (U := U.calling g mk a) (Vm.Alike.refl U.vm) g1, va_T.moved (u := U) (U := U.calling g mk a) (Vm.Alike.refl U.vm) g2⟩
  · exact tw_U.use (H := U.heap) q2 (U := U.calling g mk a) (Vm.Alike.refl U.vm) rfl (fun _ _ _ => rfl) (fun _ h => h)
theorem tx_callk {pc : Nat} {ls : Array Slot} {st0 rest : List Value} {a : Array Value} {w : tl_W} {Q : tl_Q} {sz : Nat} {A0 : Nat → Prop} {H0 : Heap}
    (hr : vx_Run p l e R s m args below meth c H locs cells slots 1 6 (F0 m pc ls st0) rest (tl_Qc ta_P 4 ci [0, 1, 2, 3] D cl o ad cA w Q sz a) (tx_X ci D cl o ad cA w Q sz) (tl_A o [0, 1, 2, 3] ad sz)) (hS : va_S A0 H0 H locs) (hA : ∀ q, tl_A o [0, 1, 2, 3] ad sz q → A0 q)
    (kx : ∀ (k : Nat) (w' : tl_W) (ce : Cell) (q9 : Addr) (t : State) (H1 : Heap) (locs1 : List Loc), t.heap = H1 → s.vm.Alike t.vm → Q (.inr k) w' → (k = 1 ∨ k = 2 ∨ k = 3) → tl_B ta_P 4 ci [0, 1, 2, 3] D cl o ad cA w' t → (∀ a b, tl_ir (w' a b)) → (∀ q : Nat, q < H.size → ¬ tl_A o [0, 1, 2, 3] ad sz q → H1[q]? = H[q]?) → va_S A0 H0 H1 locs1 → H1[q9]? = some ce → ce.vm = .none → s.vm.findClass (tx_n k) = some ce.cls → vx_W p l e R s m args below meth c H1 locs1 (cells + 1) (slots + 6) QQ (F0 m pc ls rest) q9)
    (kk : ∀ (r : Option Int) (w' : tl_W) (t : State) (H1 : Heap) (locs1 : List Loc), t.heap = H1 → s.vm.Alike t.vm → Q (.inl r) w' → tl_B ta_P 4 ci [0, 1, 2, 3] D cl o ad cA w' t → (∀ a b, tl_ir (w' a b)) → (∀ q : Nat, q < H.size → ¬ tl_A o [0, 1, 2, 3] ad sz q → H1[q]? = H[q]?) → va_S A0 H0 H1 locs1 → W p l e R s m args below meth c H1 locs1 (cells + 1) (slots + 6) QQ (F0 m (pc + 3) ls ((r.map (fun x => Value.int (Int32.ofInt x))).toList ++ rest))) :
    W p l e R s m args below meth c H locs cells slots QQ (F0 m pc ls st0) := by
  intro T hT X
  rcases hr T hT X with ⟨v, st₀, t, T', L, h0, X', hL, e1, e2, ⟨⟨r, w', hv, hq, hb, h9, hr1, hr2⟩, hF⟩, st⟩ | ⟨q, st₀, t, T', L, E, ce, h0, X', hL, e1, e2, ⟨u, ⟨hq, h9, hk, hr2⟩, ⟨hE, hb⟩, hF⟩, hce, hcv, hcl, st⟩
  · cases hv
    obtain ⟨k1, k2, k3⟩ := vx_keep h0 e1 hS (fun q _ h => hA q h) hA hL hF
    obtain ⟨t2, a1, b1⟩ := kk r w' t T'.heap (locs ++ L) e1.symm (by rw [← e2]; exact X'.warmed.alike) hq hb hr2 k2 k3 T' rfl X'
    exact ⟨t2, st t2 a1, b1⟩
  · obtain ⟨k1, k2, k3⟩ := vx_keep h0 e1 hS (fun q _ h => hA q h) hA hL hF
    subst hE
    obtain ⟨t2, a1, b1⟩ := kx u.1 u.2 ce q t T'.heap (locs ++ L) e1.symm (by rw [← e2]; exact X'.warmed.alike) hq hk hb hr2 k2 k3 (by rw [e1]; exact hce) hcv hcl T' rfl X'
    exact ⟨t2, st.trans a1, b1⟩
theorem tw_Dapp {A B : Nat → Prop} {P : tl_P} {N : Nat} {ks : List Nat} {w : tl_W} {ao : Nat} {x : va_E} (h : va_D B (tl_ce P N ci ks o ad cA w)) (hA : ∀ q, (q = o ∨ ∃ k, k ∈ ks ∧ q = ad k) ∨ q = ao → A q) (hao : ¬ (ao = o ∨ ∃ k, k ∈ ks ∧ ao = ad k)) : va_D A (tl_ce P N ci ks o ad cA w ++ [(ao, x)]) := by
  have hm : ∀ (i : Nat) (q : Nat × va_E), (tl_ce P N ci ks o ad cA w)[i]? = some q → q.1 = o ∨ ∃ k, k ∈ ks ∧ q.1 = ad k := by
    intro i q hi
    have hq := List.mem_of_getElem? hi
    unfold tl_ce at hq
    rcases List.mem_cons.mp hq with rfl | hq
    · exact Or.inl rfl
    · obtain ⟨k, hk, rfl⟩ := List.mem_map.mp hq
      exact Or.inr ⟨k, hk, rfl⟩
  have hs : ∀ (i : Nat) (q : Nat × va_E), (tl_ce P N ci ks o ad cA w ++ [(ao, x)])[i]? = some q → (tl_ce P N ci ks o ad cA w)[i]? = some q ∨ (i = (tl_ce P N ci ks o ad cA w).length ∧ q = (ao, x)) := by
    intro i q hi
    by_cases hlt : i < (tl_ce P N ci ks o ad cA w).length
    · rw [List.getElem?_append_left hlt] at hi
      exact Or.inl hi
    · rw [List.getElem?_append_right (by omega)] at hi
      obtain ⟨h1, h2⟩ := List.getElem?_eq_some_iff.mp hi
      simp only [List.length_cons, List.length_nil] at h1
      refine Or.inr ⟨by omega, ?_⟩
      have h3 := List.mem_of_getElem? hi
      exact List.mem_singleton.mp h3
  refine ⟨fun i j a b hi hj he => ?_, fun i q hi => ?_⟩
  · rcases hs i a hi with h1 | ⟨rfl, rfl⟩
    · rcases hs j b hj with h2 | ⟨rfl, rfl⟩
      · exact h.1 i j a b h1 h2 he
      · exact absurd (by have := hm i a h1; rw [he] at this; exact this) hao
    · rcases hs j b hj with h2 | ⟨rfl, rfl⟩
      · exact absurd (by have := hm j b h2; rw [← he] at this; exact this) hao
      · rfl
  · rcases hs i q hi with h1 | ⟨rfl, rfl⟩
    · exact hA _ (Or.inl (hm i q h1))
    · exact hA _ (Or.inr rfl)
/-- the answer laid into the long -/
theorem tw_last {cc : ByteArray} {pc : Nat} {ls : Array Slot} {rest : List Value} {w : tl_W} {ao : Nat} {cO : ClassId} {f : Nat → Int64} {x : Int64} {A B : Nat → Prop} (hx : p.tables.exec = Jvm.exec) (hb : c.code = cc) (hP : va_P D cl (tl_ce ta_P 4 ci [0, 1, 2, 3] o ad cA w) H) (hD : va_D B (tl_ce ta_P 4 ci [0, 1, 2, 3] o ad cA w)) (hO : tw_O D cl ao cO f H) (hKo : va_K D cl [(cO, .long)] s)
    (hao : ¬ (ao = o ∨ ∃ k, k ∈ [0, 1, 2, 3] ∧ ao = ad k)) (hS : va_S A s.heap H locs) (hA : ∀ q, (q = o ∨ ∃ k, k ∈ [0, 1, 2, 3] ∧ q = ad k) ∨ q = ao → A q) (hdg : decode cc pc = .ok (.lastore, 1))
    (kk : ∀ (H1 : Heap) (locs1 : List Loc) (f' : Nat → Int64), f' 0 = x → va_P D cl (tl_ce ta_P 4 ci [0, 1, 2, 3] o ad cA w) H1 → tw_O D cl ao cO f' H1 → va_S A s.heap H1 locs1 → W p l e R s m args below meth c H1 locs1 cells slots QQ (F0 m (pc + 1) ls rest)) :
    W p l e R s m args below meth c H locs cells slots QQ (F0 m pc ls (.long x :: .int 0 :: .ref ao :: rest)) := by
  have hP2 := va_P.app hP hO
  have hD2 := tw_Dapp (A := A) (x := .inl (cO, 1, .inr (.inl f))) hD hA hao
  refine va_last hx hb hKo hP2 hD2 hS 5 0 (i := 0) (n := 1) (f := f) (cA := cO) rfl rfl (by unfold vp_in; decide) hdg (fun H1 locs1 hP3 hD3 hS3 => ?_)
  refine kk H1 locs1 (vp_updL f 0 x) (by simp [vp_updL]) ?_ ?_ hS3
  · exact hP3.sub (ws' := tl_ce ta_P 4 ci [0, 1, 2, 3] o ad cA w) [0, 1, 2, 3, 4] rfl
  · exact hP3.sub (ws' := [(ao, .inl (cO, 1, .inr (.inl (vp_updL f 0 x))))]) [5] rfl
end TWW
theorem tw_good {y : MethodName} {bytes : ByteArray} {ml : Nat} {ret : Option FieldType} {hh : List (Nat × Nat × Nat × Nat)} {j : Nat} (hj : j < 50) : GoodIn (Cond.codeWith y bytes ml ret hh :: lw_gt) (tl_ws ta_P ta_nm ta_bs lw_gt j) := by
  intro w hw
  rcases List.mem_cons.mp hw with rfl | hw
  · have h := (ta_face.2.1 j hj).2.2
    exact ⟨List.mem_cons_of_mem _ h, lw_gt_good _ h⟩
  · exact ⟨List.mem_cons_of_mem _ hw, lw_gt_good _ hw⟩
theorem tw_cl1 : Cond.classLink "TieredLocksLaw" 13 (tx_n 1) ∈ lw_gt := List.mem_filter.mpr ⟨List.mem_of_getElem? (i := 152) rfl, rfl⟩
theorem tw_cl2 : Cond.classLink "TieredLocksLaw" 15 (tx_n 2) ∈ lw_gt := List.mem_filter.mpr ⟨List.mem_of_getElem? (i := 153) rfl, rfl⟩
theorem tw_cl3 : Cond.classLink "TieredLocksLaw" 17 (tx_n 3) ∈ lw_gt := List.mem_filter.mpr ⟨List.mem_of_getElem? (i := 154) rfl, rfl⟩
theorem tw_ini : Cond.initialized "TieredLocks" ∈ lw_gt := List.mem_filter.mpr ⟨List.mem_of_getElem? (i := 35) rfl, rfl⟩
theorem tw_lock_0 : decode method_3_code 0 = .ok (.aload 4, 2) := by decide +kernel
theorem tw_lock_2 : decode method_3_code 2 = .ok (.iconst 0, 1) := by decide +kernel
theorem tw_lock_3 : decode method_3_code 3 = .ok (.aload_n 0, 1) := by decide +kernel
theorem tw_lock_4 : decode method_3_code 4 = .ok (.iload_n 1, 1) := by decide +kernel
theorem tw_lock_5 : decode method_3_code 5 = .ok (.iload_n 2, 1) := by decide +kernel
theorem tw_lock_6 : decode method_3_code 6 = .ok (.iload_n 3, 1) := by decide +kernel
theorem tw_lock_7 : decode method_3_code 7 = .ok (.invokevirtual 7, 3) := by decide +kernel
theorem tw_lock_10 : decode method_3_code 10 = .ok (.i2l, 1) := by decide +kernel
theorem tw_lock_11 : decode method_3_code 11 = .ok (.lastore, 1) := by decide +kernel
theorem tw_lock_12 : decode method_3_code 12 = .ok (.goto 15, 3) := by decide +kernel
theorem tw_lock_15 : decode method_3_code 15 = .ok (.astore 5, 2) := by decide +kernel
theorem tw_lock_17 : decode method_3_code 17 = .ok (.iconst 1, 1) := by decide +kernel
theorem tw_lock_18 : decode method_3_code 18 = .ok (.ireturn, 1) := by decide +kernel
theorem tw_lock_19 : decode method_3_code 19 = .ok (.astore 5, 2) := by decide +kernel
theorem tw_lock_21 : decode method_3_code 21 = .ok (.iconst 2, 1) := by decide +kernel
theorem tw_lock_22 : decode method_3_code 22 = .ok (.ireturn, 1) := by decide +kernel
theorem tw_lock_23 : decode method_3_code 23 = .ok (.astore 5, 2) := by decide +kernel
theorem tw_lock_25 : decode method_3_code 25 = .ok (.iconst 3, 1) := by decide +kernel
theorem tw_lock_26 : decode method_3_code 26 = .ok (.ireturn, 1) := by decide +kernel
theorem tw_lock_27 : decode method_3_code 27 = .ok (.iconst 0, 1) := by decide +kernel
theorem tw_lock_28 : decode method_3_code 28 = .ok (.ireturn, 1) := by decide +kernel
def tw_lock_y : MethodName := ⟨"TieredLocksLaw", "lock", "(LTieredLocks;III[J)I"⟩
def tw_lock_ws : List Cond := Cond.codeWith tw_lock_y method_3_code 6 (some .int) [(0, 12, 15, 13), (0, 12, 19, 15), (0, 12, 23, 17)] :: lw_gt
theorem tw_lock_w0 : Cond.methodLink "TieredLocksLaw" 7 (ta_nm 2) ∈ lw_gt := List.mem_filter.mpr ⟨List.mem_of_getElem? (i := 155) rfl, rfl⟩
theorem tw_lock_w1 : Cond.instanceMethod (ta_nm 2) ∈ lw_gt := List.mem_filter.mpr ⟨List.mem_of_getElem? (i := 156) rfl, rfl⟩
theorem tw_lock_w2 : Cond.selects "TieredLocks" (ta_nm 2) (ta_nm 2) ∈ lw_gt := List.mem_filter.mpr ⟨List.mem_of_getElem? (i := 157) rfl, rfl⟩
set_option maxHeartbeats 4000000 in
set_option maxRecDepth 100000 in
theorem tw_lock {l : Launch} {ci : Nat} {D : va_G} {cl : List vw_C} {o : Nat} {ad : Nat → Nat} {cA : Nat → ClassId} (hl : l.stackTraces = false) (hc : cl[ci]? = some ("TieredLocks", ta_T, 4)) {ao : Nat} {cO : ClassId} (f : Nat → Int64) {w w' : tl_W} {Rr : tl_R} (sz : Nat) (hao : ¬ (ao = o ∨ ∃ k, k ∈ [0, 1, 2, 3] ∧ ao = ad k)) {p0 p1 p2 : Int} (hp0 : tl_ir p0) (hp1 : tl_ir p1) (hp2 : tl_ir p2) (hwr : ∀ a b, tl_ir (w a b)) (hnn : Rr ≠ .inl none) (hEv : tl_Ev ta_P 8 2 [.inr 0, .inl p0, .inl p1, .inl p2] w Rr w') :
    Met l tw_lock_y tw_lock_ws { frames := 9, cells := 1, slots := 6, locals := 349 } (tw_Pc ci D cl o ad cA ao cO f [.ref o, .int (Int32.ofInt p0), .int (Int32.ofInt p1), .int (Int32.ofInt p2), .ref ao] w sz) (tw_Qc ci D cl o ad cA ao cO Rr w' sz) 1 6 (tw_A o ad ao sz) := by
  refine va_MetW (cc := method_3_code) (maxL := 6) (ret := some .int) (hh := [(0, 12, 15, 13), (0, 12, 19, 15), (0, 12, 23, 17)]) (by decide) rfl ?_
  intro p e s m args below meth c s₁ B hml hv
  obtain ⟨rfl, hsz, ⟨hP, hK, hD⟩, hG, hU, hO, hKo⟩ := hv
  subst hsz
  have hx := B.exec
  have hb := B.bytes
  have hr := B.returns
  have hlocks := B.notSynchronized
  have hts := atoms_spec (ws := tw_lock_ws) B.pre
  have hg : ∀ w ∈ lw_gt, w.before _ s = true := fun w hw => hts w (List.mem_cons_of_mem _ hw)
  have hown : s.vm.findClass "TieredLocksLaw" = some m.cls := findClass_of_methodNamed B.named
  have htab : c.exceptionTable.toList = tableOf [(0, 12, 15, 13), (0, 12, 19, 15), (0, 12, 23, 17)] := vx_table (x := tw_lock_y) B (hts _ List.mem_cons_self)
  have haolt : ao < s.heap.size := vx_lt hO (k := 0) rfl
  have hl1 := lv_entry ([.ref o, .int (Int32.ofInt p0), .int (Int32.ofInt p1), .int (Int32.ofInt p2), .ref ao]) (n := 6) (Nat.le_of_ble_eq_true rfl)
  rw [lg_entry_eq]
  generalize (lg_sl ([.ref o, .int (Int32.ofInt p0), .int (Int32.ofInt p1), .int (Int32.ofInt p2), .ref ao]) ++ List.replicate (6 - (lg_sl ([.ref o, .int (Int32.ofInt p0), .int (Int32.ofInt p1), .int (Int32.ofInt p2), .ref ao])).length) Slot.unset).toArray = ls at hl1 ⊢
  have hl1 : lv_has ls 6 [(0, .ref o), (1, .int (Int32.ofInt p0)), (2, .int (Int32.ofInt p1)), (3, .int (Int32.ofInt p2)), (4, .ref ao)] := hl1
  have hA1 : ∀ q, tl_A o [0, 1, 2, 3] ad s.heap.size q → tw_A o ad ao s.heap.size q := fun q h => Or.inl h
  refine lv_aload hx hb tw_lock_0 (lv_at hl1 4 rfl) ?_
  refine lv_iconst (v := 0) hx hb tw_lock_2 (by decide) ?_
  refine lv_aload_n hx hb tw_lock_3 rfl (lv_at hl1 0 rfl) ?_
  refine lv_iload_n hx hb tw_lock_4 rfl (lv_at hl1 1 rfl) ?_
  refine lv_iload_n hx hb tw_lock_5 rfl (lv_at hl1 2 rfl) ?_
  refine lv_iload_n hx hb tw_lock_6 rfl (lv_at hl1 3 rfl) ?_
  have hM := tx_sound (sz := s.heap.size) (D := D) (o := o) (ad := ad) (cA := cA) hl hc (d := 7) (j := 2) (as := [.inr 0, .inl p0, .inl p1, .inl p2]) (w := w) (Q := fun r w9 => r = Rr ∧ w9 = w') (by decide) (by decide) tx_th2 (Nat.le_of_ble_eq_true rfl) (by
    intro v hv
    rcases List.mem_cons.mp hv with rfl | hv
    · trivial
    rcases List.mem_cons.mp hv with rfl | hv
    · exact hp0
    rcases List.mem_cons.mp hv with rfl | hv
    · exact hp1
    rcases List.mem_cons.mp hv with rfl | hv
    · exact hp2
    cases hv) hwr (hEv _ ⟨rfl, rfl⟩)
  refine tx_callk (rest := [.int 0, .ref ao]) (vx_runV (Ts := tw_lock_ws) (C := "TieredLocks") (b := o) (As := [.int (Int32.ofInt p0), .int (Int32.ofInt p1), .int (Int32.ofInt p2)]) ⟨hx, hb, hml, hown, hts⟩ hM
    ⟨callB_of 3 hts (tw_good (by decide)) rfl rfl rfl (hg _ tw_ini) (hg _ tw_lock_w0) (by decide +kernel) ⟨Nat.le_of_ble_eq_true rfl, Nat.le_of_ble_eq_true rfl⟩, hg _ tw_lock_w1, hg _ tw_lock_w2⟩
    ⟨tx_blind, va_recv hK hP hc (q0 := 0) rfl, fun U hUh hW => ⟨rfl, by rw [hUh], ⟨by rw [hUh]; exact hP, va_K.moved hW.alike hK, hD⟩, tl_G.use hG hW.alike hUh (fun _ _ _ => rfl) hA1 rfl, tx_U.use (H := s.heap) hU.1 hW.alike hUh (fun _ _ _ => rfl) hA1⟩⟩ rfl rfl hl1.1 rfl (lv_room (Nat.le_of_ble_eq_true rfl)) tw_lock_7 ⟨Nat.le_of_ble_eq_true rfl, Nat.le_of_ble_eq_true rfl⟩) va_S.rf hA1 ?_ ?_
  · intro k w9 ce q9 t H1 locs1 ht hvm hq hk hB hir hkp hS1 hce hcv hcl
    obtain ⟨rfl, rfl⟩ := hq
    obtain ⟨hP1, -, hD1⟩ := hB
    rw [ht] at hP1
    have hO1 : tw_O D cl ao cO f H1 := va_P.kept hO (fun i q hi => by rw [List.mem_singleton.mp (List.mem_of_getElem? hi)]; exact hkp ao haolt (fun z => z.elim hao (fun z => by omega)))
    obtain ⟨⟨hU1, -⟩, hn21, hn31, hn32⟩ := hU
    rcases hk with rfl | rfl | rfl
    · refine vx_catch (E := tx_n 1) (name := tx_n 1) hown [] ⟨0, 12, 15, 13⟩ [⟨0, 12, 19, 15⟩, ⟨0, 12, 23, 17⟩] (by rw [htab]; rfl) (fun z hz => nomatch hz) (by decide) (by decide) (hg _ tw_cl1) (hU1 _ (by decide +kernel) _) hce hcv hcl ?_
      refine lv_astore hx hb tw_lock_15 hl1 (by decide) rfl (fun ls hl2 => ?_)
      refine lv_iconst (v := 1) hx hb tw_lock_17 (by decide) ?_
      exact W.iret (v := 1) hx hb hr (fun t ht hW => ⟨⟨rfl, ⟨by rw [ht]; exact hP1, va_K.moved hW.alike hK, hD1⟩, hir, f, (by intro x h9; cases h9), (by rw [ht]; exact hO1)⟩, hS1.F ht⟩) hS1.2.2 tw_lock_18
    · refine vx_catch (E := tx_n 2) (name := tx_n 2) hown [⟨0, 12, 15, 13⟩] ⟨0, 12, 19, 15⟩ [⟨0, 12, 23, 17⟩] (by rw [htab]; rfl) (fun z hz => by rw [List.mem_singleton.mp hz]; exact Or.inr ⟨by decide, _, hg _ tw_cl1, hn21⟩) (by decide) (by decide) (hg _ tw_cl2) (hU1 _ (by decide +kernel) _) hce hcv hcl ?_
      refine lv_astore hx hb tw_lock_19 hl1 (by decide) rfl (fun ls hl2 => ?_)
      refine lv_iconst (v := 2) hx hb tw_lock_21 (by decide) ?_
      exact W.iret (v := 2) hx hb hr (fun t ht hW => ⟨⟨rfl, ⟨by rw [ht]; exact hP1, va_K.moved hW.alike hK, hD1⟩, hir, f, (by intro x h9; cases h9), (by rw [ht]; exact hO1)⟩, hS1.F ht⟩) hS1.2.2 tw_lock_22
    · refine vx_catch (E := tx_n 3) (name := tx_n 3) hown [⟨0, 12, 15, 13⟩, ⟨0, 12, 19, 15⟩] ⟨0, 12, 23, 17⟩ [] (by rw [htab]; rfl) (fun z hz => by
        rcases List.mem_cons.mp hz with rfl | hz
        · exact Or.inr ⟨by decide, _, hg _ tw_cl1, hn31⟩
        · rw [List.mem_singleton.mp hz]; exact Or.inr ⟨by decide, _, hg _ tw_cl2, hn32⟩) (by decide) (by decide) (hg _ tw_cl3) (hU1 _ (by decide +kernel) _) hce hcv hcl ?_
      refine lv_astore hx hb tw_lock_23 hl1 (by decide) rfl (fun ls hl2 => ?_)
      refine lv_iconst (v := 3) hx hb tw_lock_25 (by decide) ?_
      exact W.iret (v := 3) hx hb hr (fun t ht hW => ⟨⟨rfl, ⟨by rw [ht]; exact hP1, va_K.moved hW.alike hK, hD1⟩, hir, f, (by intro x h9; cases h9), (by rw [ht]; exact hO1)⟩, hS1.F ht⟩) hS1.2.2 tw_lock_26
  · intro r w9 t H1 locs1 ht hvm hq hB hir hkp hS1
    obtain ⟨rfl, rfl⟩ := hq
    obtain ⟨hP1, -, hD1⟩ := hB
    rw [ht] at hP1
    have hO1 : tw_O D cl ao cO f H1 := va_P.kept hO (fun i q hi => by rw [List.mem_singleton.mp (List.mem_of_getElem? hi)]; exact hkp ao haolt (fun z => z.elim hao (fun z => by omega)))
    cases r with
    | none => exact absurd rfl hnn
    | some x =>
      refine lv_i2l (v := (Int32.ofInt x).toInt64) hx hb tw_lock_10 rfl ?_
      refine tw_last hx hb hP1 hD1 hO1 hKo hao hS1 (fun q h => h.elim (fun z => Or.inl (Or.inl z)) Or.inr) tw_lock_11 (fun H2 locs2 f2 hf2 hP2 hO2 hS2 => ?_)
      refine lv_goto hx hb tw_lock_12 (tgt := 27) (by decide) ?_
      refine lv_iconst (v := 0) hx hb tw_lock_27 (by decide) ?_
      exact W.iret (v := 0) hx hb hr (fun t ht hW => ⟨⟨rfl, ⟨by rw [ht]; exact hP2, va_K.moved hW.alike hK, hD1⟩, hir, f2, (by intro y hy; cases hy; exact hf2), (by rw [ht]; exact hO2)⟩, hS2.F ht⟩) hS2.2.2 tw_lock_28
theorem tw_unlock_0 : decode method_4_code 0 = .ok (.aload_n 0, 1) := by decide +kernel
theorem tw_unlock_1 : decode method_4_code 1 = .ok (.iload_n 1, 1) := by decide +kernel
theorem tw_unlock_2 : decode method_4_code 2 = .ok (.iload_n 2, 1) := by decide +kernel
theorem tw_unlock_3 : decode method_4_code 3 = .ok (.invokevirtual 19, 3) := by decide +kernel
theorem tw_unlock_6 : decode method_4_code 6 = .ok (.goto 12, 3) := by decide +kernel
theorem tw_unlock_9 : decode method_4_code 9 = .ok (.astore_n 3, 1) := by decide +kernel
theorem tw_unlock_10 : decode method_4_code 10 = .ok (.iconst 1, 1) := by decide +kernel
theorem tw_unlock_11 : decode method_4_code 11 = .ok (.ireturn, 1) := by decide +kernel
theorem tw_unlock_12 : decode method_4_code 12 = .ok (.astore_n 3, 1) := by decide +kernel
theorem tw_unlock_13 : decode method_4_code 13 = .ok (.iconst 2, 1) := by decide +kernel
theorem tw_unlock_14 : decode method_4_code 14 = .ok (.ireturn, 1) := by decide +kernel
theorem tw_unlock_15 : decode method_4_code 15 = .ok (.astore_n 3, 1) := by decide +kernel
theorem tw_unlock_16 : decode method_4_code 16 = .ok (.iconst 3, 1) := by decide +kernel
theorem tw_unlock_17 : decode method_4_code 17 = .ok (.ireturn, 1) := by decide +kernel
theorem tw_unlock_18 : decode method_4_code 18 = .ok (.iconst 0, 1) := by decide +kernel
theorem tw_unlock_19 : decode method_4_code 19 = .ok (.ireturn, 1) := by decide +kernel
def tw_unlock_y : MethodName := ⟨"TieredLocksLaw", "unlock", "(LTieredLocks;II)I"⟩
def tw_unlock_ws : List Cond := Cond.codeWith tw_unlock_y method_4_code 4 (some .int) [(0, 6, 9, 13), (0, 6, 12, 15), (0, 6, 15, 17)] :: lw_gt
theorem tw_unlock_w0 : Cond.methodLink "TieredLocksLaw" 19 (ta_nm 3) ∈ lw_gt := List.mem_filter.mpr ⟨List.mem_of_getElem? (i := 317) rfl, rfl⟩
theorem tw_unlock_w1 : Cond.instanceMethod (ta_nm 3) ∈ lw_gt := List.mem_filter.mpr ⟨List.mem_of_getElem? (i := 318) rfl, rfl⟩
theorem tw_unlock_w2 : Cond.selects "TieredLocks" (ta_nm 3) (ta_nm 3) ∈ lw_gt := List.mem_filter.mpr ⟨List.mem_of_getElem? (i := 319) rfl, rfl⟩
set_option maxHeartbeats 4000000 in
set_option maxRecDepth 100000 in
theorem tw_unlock {l : Launch} {ci : Nat} {D : va_G} {cl : List vw_C} {o : Nat} {ad : Nat → Nat} {cA : Nat → ClassId} (hl : l.stackTraces = false) (hc : cl[ci]? = some ("TieredLocks", ta_T, 4)) {ao : Nat} {cO : ClassId} (f : Nat → Int64) {w w' : tl_W} {Rr : tl_R} (sz : Nat) (hao : ¬ (ao = o ∨ ∃ k, k ∈ [0, 1, 2, 3] ∧ ao = ad k)) {p0 p1 : Int} (hp0 : tl_ir p0) (hp1 : tl_ir p1) (hwr : ∀ a b, tl_ir (w a b)) (hnn : ∀ x, Rr ≠ .inl (some x)) (hEv : tl_Ev ta_P 8 3 [.inr 0, .inl p0, .inl p1] w Rr w') :
    Met l tw_unlock_y tw_unlock_ws { frames := 9, cells := 1, slots := 6, locals := 349 } (tw_Pc ci D cl o ad cA ao cO f [.ref o, .int (Int32.ofInt p0), .int (Int32.ofInt p1)] w sz) (tw_Qc ci D cl o ad cA ao cO Rr w' sz) 1 6 (tw_A o ad ao sz) := by
  refine va_MetW (cc := method_4_code) (maxL := 4) (ret := some .int) (hh := [(0, 6, 9, 13), (0, 6, 12, 15), (0, 6, 15, 17)]) (by decide) rfl ?_
  intro p e s m args below meth c s₁ B hml hv
  obtain ⟨rfl, hsz, ⟨hP, hK, hD⟩, hG, hU, hO, hKo⟩ := hv
  subst hsz
  have hx := B.exec
  have hb := B.bytes
  have hr := B.returns
  have hlocks := B.notSynchronized
  have hts := atoms_spec (ws := tw_unlock_ws) B.pre
  have hg : ∀ w ∈ lw_gt, w.before _ s = true := fun w hw => hts w (List.mem_cons_of_mem _ hw)
  have hown : s.vm.findClass "TieredLocksLaw" = some m.cls := findClass_of_methodNamed B.named
  have htab : c.exceptionTable.toList = tableOf [(0, 6, 9, 13), (0, 6, 12, 15), (0, 6, 15, 17)] := vx_table (x := tw_unlock_y) B (hts _ List.mem_cons_self)
  have haolt : ao < s.heap.size := vx_lt hO (k := 0) rfl
  have hl1 := lv_entry ([.ref o, .int (Int32.ofInt p0), .int (Int32.ofInt p1)]) (n := 4) (Nat.le_of_ble_eq_true rfl)
  rw [lg_entry_eq]
  generalize (lg_sl ([.ref o, .int (Int32.ofInt p0), .int (Int32.ofInt p1)]) ++ List.replicate (4 - (lg_sl ([.ref o, .int (Int32.ofInt p0), .int (Int32.ofInt p1)])).length) Slot.unset).toArray = ls at hl1 ⊢
  have hl1 : lv_has ls 4 [(0, .ref o), (1, .int (Int32.ofInt p0)), (2, .int (Int32.ofInt p1))] := hl1
  have hA1 : ∀ q, tl_A o [0, 1, 2, 3] ad s.heap.size q → tw_A o ad ao s.heap.size q := fun q h => Or.inl h
  refine lv_aload_n hx hb tw_unlock_0 rfl (lv_at hl1 0 rfl) ?_
  refine lv_iload_n hx hb tw_unlock_1 rfl (lv_at hl1 1 rfl) ?_
  refine lv_iload_n hx hb tw_unlock_2 rfl (lv_at hl1 2 rfl) ?_
  have hM := tx_sound (sz := s.heap.size) (D := D) (o := o) (ad := ad) (cA := cA) hl hc (d := 7) (j := 3) (as := [.inr 0, .inl p0, .inl p1]) (w := w) (Q := fun r w9 => r = Rr ∧ w9 = w') (by decide) (by decide) tx_th3 (Nat.le_of_ble_eq_true rfl) (by
    intro v hv
    rcases List.mem_cons.mp hv with rfl | hv
    · trivial
    rcases List.mem_cons.mp hv with rfl | hv
    · exact hp0
    rcases List.mem_cons.mp hv with rfl | hv
    · exact hp1
    cases hv) hwr (hEv _ ⟨rfl, rfl⟩)
  refine tx_callk (rest := []) (vx_runV (Ts := tw_unlock_ws) (C := "TieredLocks") (b := o) (As := [.int (Int32.ofInt p0), .int (Int32.ofInt p1)]) ⟨hx, hb, hml, hown, hts⟩ hM
    ⟨callB_of 2 hts (tw_good (by decide)) rfl rfl rfl (hg _ tw_ini) (hg _ tw_unlock_w0) (by decide +kernel) ⟨Nat.le_of_ble_eq_true rfl, Nat.le_of_ble_eq_true rfl⟩, hg _ tw_unlock_w1, hg _ tw_unlock_w2⟩
    ⟨tx_blind, va_recv hK hP hc (q0 := 0) rfl, fun U hUh hW => ⟨rfl, by rw [hUh], ⟨by rw [hUh]; exact hP, va_K.moved hW.alike hK, hD⟩, tl_G.use hG hW.alike hUh (fun _ _ _ => rfl) hA1 rfl, tx_U.use (H := s.heap) hU.1 hW.alike hUh (fun _ _ _ => rfl) hA1⟩⟩ rfl rfl hl1.1 rfl (lv_room (Nat.le_of_ble_eq_true rfl)) tw_unlock_3 ⟨Nat.le_of_ble_eq_true rfl, Nat.le_of_ble_eq_true rfl⟩) va_S.rf hA1 ?_ ?_
  · intro k w9 ce q9 t H1 locs1 ht hvm hq hk hB hir hkp hS1 hce hcv hcl
    obtain ⟨rfl, rfl⟩ := hq
    obtain ⟨hP1, -, hD1⟩ := hB
    rw [ht] at hP1
    have hO1 : tw_O D cl ao cO f H1 := va_P.kept hO (fun i q hi => by rw [List.mem_singleton.mp (List.mem_of_getElem? hi)]; exact hkp ao haolt (fun z => z.elim hao (fun z => by omega)))
    obtain ⟨⟨hU1, -⟩, hn21, hn31, hn32⟩ := hU
    rcases hk with rfl | rfl | rfl
    · refine vx_catch (E := tx_n 1) (name := tx_n 1) hown [] ⟨0, 6, 9, 13⟩ [⟨0, 6, 12, 15⟩, ⟨0, 6, 15, 17⟩] (by rw [htab]; rfl) (fun z hz => nomatch hz) (by decide) (by decide) (hg _ tw_cl1) (hU1 _ (by decide +kernel) _) hce hcv hcl ?_
      refine lv_astore_n hx hb tw_unlock_9 rfl hl1 (by decide) rfl (fun ls hl2 => ?_)
      refine lv_iconst (v := 1) hx hb tw_unlock_10 (by decide) ?_
      exact W.iret (v := 1) hx hb hr (fun t ht hW => ⟨⟨rfl, ⟨by rw [ht]; exact hP1, va_K.moved hW.alike hK, hD1⟩, hir, f, (by intro x h9; cases h9), (by rw [ht]; exact hO1)⟩, hS1.F ht⟩) hS1.2.2 tw_unlock_11
    · refine vx_catch (E := tx_n 2) (name := tx_n 2) hown [⟨0, 6, 9, 13⟩] ⟨0, 6, 12, 15⟩ [⟨0, 6, 15, 17⟩] (by rw [htab]; rfl) (fun z hz => by rw [List.mem_singleton.mp hz]; exact Or.inr ⟨by decide, _, hg _ tw_cl1, hn21⟩) (by decide) (by decide) (hg _ tw_cl2) (hU1 _ (by decide +kernel) _) hce hcv hcl ?_
      refine lv_astore_n hx hb tw_unlock_12 rfl hl1 (by decide) rfl (fun ls hl2 => ?_)
      refine lv_iconst (v := 2) hx hb tw_unlock_13 (by decide) ?_
      exact W.iret (v := 2) hx hb hr (fun t ht hW => ⟨⟨rfl, ⟨by rw [ht]; exact hP1, va_K.moved hW.alike hK, hD1⟩, hir, f, (by intro x h9; cases h9), (by rw [ht]; exact hO1)⟩, hS1.F ht⟩) hS1.2.2 tw_unlock_14
    · refine vx_catch (E := tx_n 3) (name := tx_n 3) hown [⟨0, 6, 9, 13⟩, ⟨0, 6, 12, 15⟩] ⟨0, 6, 15, 17⟩ [] (by rw [htab]; rfl) (fun z hz => by
        rcases List.mem_cons.mp hz with rfl | hz
        · exact Or.inr ⟨by decide, _, hg _ tw_cl1, hn31⟩
        · rw [List.mem_singleton.mp hz]; exact Or.inr ⟨by decide, _, hg _ tw_cl2, hn32⟩) (by decide) (by decide) (hg _ tw_cl3) (hU1 _ (by decide +kernel) _) hce hcv hcl ?_
      refine lv_astore_n hx hb tw_unlock_15 rfl hl1 (by decide) rfl (fun ls hl2 => ?_)
      refine lv_iconst (v := 3) hx hb tw_unlock_16 (by decide) ?_
      exact W.iret (v := 3) hx hb hr (fun t ht hW => ⟨⟨rfl, ⟨by rw [ht]; exact hP1, va_K.moved hW.alike hK, hD1⟩, hir, f, (by intro x h9; cases h9), (by rw [ht]; exact hO1)⟩, hS1.F ht⟩) hS1.2.2 tw_unlock_17
  · intro r w9 t H1 locs1 ht hvm hq hB hir hkp hS1
    obtain ⟨rfl, rfl⟩ := hq
    obtain ⟨hP1, -, hD1⟩ := hB
    rw [ht] at hP1
    have hO1 : tw_O D cl ao cO f H1 := va_P.kept hO (fun i q hi => by rw [List.mem_singleton.mp (List.mem_of_getElem? hi)]; exact hkp ao haolt (fun z => z.elim hao (fun z => by omega)))
    cases r with
    | some x => exact absurd rfl (hnn x)
    | none =>
      refine lv_goto hx hb tw_unlock_6 (tgt := 18) (by decide) ?_
      refine lv_iconst (v := 0) hx hb tw_unlock_18 (by decide) ?_
      exact W.iret (v := 0) hx hb hr (fun t ht hW => ⟨⟨rfl, ⟨by rw [ht]; exact hP1, va_K.moved hW.alike hK, hD1⟩, hir, f, (by intro x h9; cases h9), (by rw [ht]; exact hO1)⟩, hS1.F ht⟩) hS1.2.2 tw_unlock_19
theorem tw_escalate_0 : decode method_5_code 0 = .ok (.aload_n 3, 1) := by decide +kernel
theorem tw_escalate_1 : decode method_5_code 1 = .ok (.iconst 0, 1) := by decide +kernel
theorem tw_escalate_2 : decode method_5_code 2 = .ok (.aload_n 0, 1) := by decide +kernel
theorem tw_escalate_3 : decode method_5_code 3 = .ok (.iload_n 1, 1) := by decide +kernel
theorem tw_escalate_4 : decode method_5_code 4 = .ok (.iload_n 2, 1) := by decide +kernel
theorem tw_escalate_5 : decode method_5_code 5 = .ok (.invokevirtual 23, 3) := by decide +kernel
theorem tw_escalate_8 : decode method_5_code 8 = .ok (.i2l, 1) := by decide +kernel
theorem tw_escalate_9 : decode method_5_code 9 = .ok (.lastore, 1) := by decide +kernel
theorem tw_escalate_10 : decode method_5_code 10 = .ok (.goto 11, 3) := by decide +kernel
theorem tw_escalate_13 : decode method_5_code 13 = .ok (.astore 4, 2) := by decide +kernel
theorem tw_escalate_15 : decode method_5_code 15 = .ok (.iconst 1, 1) := by decide +kernel
theorem tw_escalate_16 : decode method_5_code 16 = .ok (.ireturn, 1) := by decide +kernel
theorem tw_escalate_17 : decode method_5_code 17 = .ok (.astore 4, 2) := by decide +kernel
theorem tw_escalate_19 : decode method_5_code 19 = .ok (.iconst 2, 1) := by decide +kernel
theorem tw_escalate_20 : decode method_5_code 20 = .ok (.ireturn, 1) := by decide +kernel
theorem tw_escalate_21 : decode method_5_code 21 = .ok (.iconst 0, 1) := by decide +kernel
theorem tw_escalate_22 : decode method_5_code 22 = .ok (.ireturn, 1) := by decide +kernel
def tw_escalate_y : MethodName := ⟨"TieredLocksLaw", "escalate", "(LTieredLocks;II[J)I"⟩
def tw_escalate_ws : List Cond := Cond.codeWith tw_escalate_y method_5_code 5 (some .int) [(0, 10, 13, 13), (0, 10, 17, 15)] :: lw_gt
theorem tw_escalate_w0 : Cond.methodLink "TieredLocksLaw" 23 (ta_nm 4) ∈ lw_gt := List.mem_filter.mpr ⟨List.mem_of_getElem? (i := 336) rfl, rfl⟩
theorem tw_escalate_w1 : Cond.instanceMethod (ta_nm 4) ∈ lw_gt := List.mem_filter.mpr ⟨List.mem_of_getElem? (i := 337) rfl, rfl⟩
theorem tw_escalate_w2 : Cond.selects "TieredLocks" (ta_nm 4) (ta_nm 4) ∈ lw_gt := List.mem_filter.mpr ⟨List.mem_of_getElem? (i := 338) rfl, rfl⟩
set_option maxHeartbeats 4000000 in
set_option maxRecDepth 100000 in
theorem tw_escalate {l : Launch} {ci : Nat} {D : va_G} {cl : List vw_C} {o : Nat} {ad : Nat → Nat} {cA : Nat → ClassId} (hl : l.stackTraces = false) (hc : cl[ci]? = some ("TieredLocks", ta_T, 4)) {ao : Nat} {cO : ClassId} (f : Nat → Int64) {w w' : tl_W} {Rr : tl_R} (sz : Nat) (hao : ¬ (ao = o ∨ ∃ k, k ∈ [0, 1, 2, 3] ∧ ao = ad k)) {p0 p1 : Int} (hp0 : tl_ir p0) (hp1 : tl_ir p1) (hwr : ∀ a b, tl_ir (w a b)) (h3 : Rr ≠ .inr 3) (hnn : Rr ≠ .inl none) (hEv : tl_Ev ta_P 8 4 [.inr 0, .inl p0, .inl p1] w Rr w') :
    Met l tw_escalate_y tw_escalate_ws { frames := 9, cells := 1, slots := 6, locals := 349 } (tw_Pc ci D cl o ad cA ao cO f [.ref o, .int (Int32.ofInt p0), .int (Int32.ofInt p1), .ref ao] w sz) (tw_Qc ci D cl o ad cA ao cO Rr w' sz) 1 6 (tw_A o ad ao sz) := by
  refine va_MetW (cc := method_5_code) (maxL := 5) (ret := some .int) (hh := [(0, 10, 13, 13), (0, 10, 17, 15)]) (by decide) rfl ?_
  intro p e s m args below meth c s₁ B hml hv
  obtain ⟨rfl, hsz, ⟨hP, hK, hD⟩, hG, hU, hO, hKo⟩ := hv
  subst hsz
  have hx := B.exec
  have hb := B.bytes
  have hr := B.returns
  have hlocks := B.notSynchronized
  have hts := atoms_spec (ws := tw_escalate_ws) B.pre
  have hg : ∀ w ∈ lw_gt, w.before _ s = true := fun w hw => hts w (List.mem_cons_of_mem _ hw)
  have hown : s.vm.findClass "TieredLocksLaw" = some m.cls := findClass_of_methodNamed B.named
  have htab : c.exceptionTable.toList = tableOf [(0, 10, 13, 13), (0, 10, 17, 15)] := vx_table (x := tw_escalate_y) B (hts _ List.mem_cons_self)
  have haolt : ao < s.heap.size := vx_lt hO (k := 0) rfl
  have hl1 := lv_entry ([.ref o, .int (Int32.ofInt p0), .int (Int32.ofInt p1), .ref ao]) (n := 5) (Nat.le_of_ble_eq_true rfl)
  rw [lg_entry_eq]
  generalize (lg_sl ([.ref o, .int (Int32.ofInt p0), .int (Int32.ofInt p1), .ref ao]) ++ List.replicate (5 - (lg_sl ([.ref o, .int (Int32.ofInt p0), .int (Int32.ofInt p1), .ref ao])).length) Slot.unset).toArray = ls at hl1 ⊢
  have hl1 : lv_has ls 5 [(0, .ref o), (1, .int (Int32.ofInt p0)), (2, .int (Int32.ofInt p1)), (3, .ref ao)] := hl1
  have hA1 : ∀ q, tl_A o [0, 1, 2, 3] ad s.heap.size q → tw_A o ad ao s.heap.size q := fun q h => Or.inl h
  refine lv_aload_n hx hb tw_escalate_0 rfl (lv_at hl1 3 rfl) ?_
  refine lv_iconst (v := 0) hx hb tw_escalate_1 (by decide) ?_
  refine lv_aload_n hx hb tw_escalate_2 rfl (lv_at hl1 0 rfl) ?_
  refine lv_iload_n hx hb tw_escalate_3 rfl (lv_at hl1 1 rfl) ?_
  refine lv_iload_n hx hb tw_escalate_4 rfl (lv_at hl1 2 rfl) ?_
  have hM := tx_sound (sz := s.heap.size) (D := D) (o := o) (ad := ad) (cA := cA) hl hc (d := 7) (j := 4) (as := [.inr 0, .inl p0, .inl p1]) (w := w) (Q := fun r w9 => r = Rr ∧ w9 = w') (by decide) (by decide) tx_th4 (Nat.le_of_ble_eq_true rfl) (by
    intro v hv
    rcases List.mem_cons.mp hv with rfl | hv
    · trivial
    rcases List.mem_cons.mp hv with rfl | hv
    · exact hp0
    rcases List.mem_cons.mp hv with rfl | hv
    · exact hp1
    cases hv) hwr (hEv _ ⟨rfl, rfl⟩)
  refine tx_callk (rest := [.int 0, .ref ao]) (vx_runV (Ts := tw_escalate_ws) (C := "TieredLocks") (b := o) (As := [.int (Int32.ofInt p0), .int (Int32.ofInt p1)]) ⟨hx, hb, hml, hown, hts⟩ hM
    ⟨callB_of 2 hts (tw_good (by decide)) rfl rfl rfl (hg _ tw_ini) (hg _ tw_escalate_w0) (by decide +kernel) ⟨Nat.le_of_ble_eq_true rfl, Nat.le_of_ble_eq_true rfl⟩, hg _ tw_escalate_w1, hg _ tw_escalate_w2⟩
    ⟨tx_blind, va_recv hK hP hc (q0 := 0) rfl, fun U hUh hW => ⟨rfl, by rw [hUh], ⟨by rw [hUh]; exact hP, va_K.moved hW.alike hK, hD⟩, tl_G.use hG hW.alike hUh (fun _ _ _ => rfl) hA1 rfl, tx_U.use (H := s.heap) hU.1 hW.alike hUh (fun _ _ _ => rfl) hA1⟩⟩ rfl rfl hl1.1 rfl (lv_room (Nat.le_of_ble_eq_true rfl)) tw_escalate_5 ⟨Nat.le_of_ble_eq_true rfl, Nat.le_of_ble_eq_true rfl⟩) va_S.rf hA1 ?_ ?_
  · intro k w9 ce q9 t H1 locs1 ht hvm hq hk hB hir hkp hS1 hce hcv hcl
    obtain ⟨rfl, rfl⟩ := hq
    obtain ⟨hP1, -, hD1⟩ := hB
    rw [ht] at hP1
    have hO1 : tw_O D cl ao cO f H1 := va_P.kept hO (fun i q hi => by rw [List.mem_singleton.mp (List.mem_of_getElem? hi)]; exact hkp ao haolt (fun z => z.elim hao (fun z => by omega)))
    obtain ⟨⟨hU1, -⟩, hn21, hn31, hn32⟩ := hU
    rcases hk with rfl | rfl | rfl
    · refine vx_catch (E := tx_n 1) (name := tx_n 1) hown [] ⟨0, 10, 13, 13⟩ [⟨0, 10, 17, 15⟩] (by rw [htab]; rfl) (fun z hz => nomatch hz) (by decide) (by decide) (hg _ tw_cl1) (hU1 _ (by decide +kernel) _) hce hcv hcl ?_
      refine lv_astore hx hb tw_escalate_13 hl1 (by decide) rfl (fun ls hl2 => ?_)
      refine lv_iconst (v := 1) hx hb tw_escalate_15 (by decide) ?_
      exact W.iret (v := 1) hx hb hr (fun t ht hW => ⟨⟨rfl, ⟨by rw [ht]; exact hP1, va_K.moved hW.alike hK, hD1⟩, hir, f, (by intro x h9; cases h9), (by rw [ht]; exact hO1)⟩, hS1.F ht⟩) hS1.2.2 tw_escalate_16
    · refine vx_catch (E := tx_n 2) (name := tx_n 2) hown [⟨0, 10, 13, 13⟩] ⟨0, 10, 17, 15⟩ [] (by rw [htab]; rfl) (fun z hz => by rw [List.mem_singleton.mp hz]; exact Or.inr ⟨by decide, _, hg _ tw_cl1, hn21⟩) (by decide) (by decide) (hg _ tw_cl2) (hU1 _ (by decide +kernel) _) hce hcv hcl ?_
      refine lv_astore hx hb tw_escalate_17 hl1 (by decide) rfl (fun ls hl2 => ?_)
      refine lv_iconst (v := 2) hx hb tw_escalate_19 (by decide) ?_
      exact W.iret (v := 2) hx hb hr (fun t ht hW => ⟨⟨rfl, ⟨by rw [ht]; exact hP1, va_K.moved hW.alike hK, hD1⟩, hir, f, (by intro x h9; cases h9), (by rw [ht]; exact hO1)⟩, hS1.F ht⟩) hS1.2.2 tw_escalate_20
    · exact absurd rfl h3
  · intro r w9 t H1 locs1 ht hvm hq hB hir hkp hS1
    obtain ⟨rfl, rfl⟩ := hq
    obtain ⟨hP1, -, hD1⟩ := hB
    rw [ht] at hP1
    have hO1 : tw_O D cl ao cO f H1 := va_P.kept hO (fun i q hi => by rw [List.mem_singleton.mp (List.mem_of_getElem? hi)]; exact hkp ao haolt (fun z => z.elim hao (fun z => by omega)))
    cases r with
    | none => exact absurd rfl hnn
    | some x =>
      refine lv_i2l (v := (Int32.ofInt x).toInt64) hx hb tw_escalate_8 rfl ?_
      refine tw_last hx hb hP1 hD1 hO1 hKo hao hS1 (fun q h => h.elim (fun z => Or.inl (Or.inl z)) Or.inr) tw_escalate_9 (fun H2 locs2 f2 hf2 hP2 hO2 hS2 => ?_)
      refine lv_goto hx hb tw_escalate_10 (tgt := 21) (by decide) ?_
      refine lv_iconst (v := 0) hx hb tw_escalate_21 (by decide) ?_
      exact W.iret (v := 0) hx hb hr (fun t ht hW => ⟨⟨rfl, ⟨by rw [ht]; exact hP2, va_K.moved hW.alike hK, hD1⟩, hir, f2, (by intro y hy; cases hy; exact hf2), (by rw [ht]; exact hO2)⟩, hS2.F ht⟩) hS2.2.2 tw_escalate_22
theorem tw_end_0 : decode method_6_code 0 = .ok (.aload_n 2, 1) := by decide +kernel
theorem tw_end_1 : decode method_6_code 1 = .ok (.iconst 0, 1) := by decide +kernel
theorem tw_end_2 : decode method_6_code 2 = .ok (.aload_n 0, 1) := by decide +kernel
theorem tw_end_3 : decode method_6_code 3 = .ok (.iload_n 1, 1) := by decide +kernel
theorem tw_end_4 : decode method_6_code 4 = .ok (.invokevirtual 27, 3) := by decide +kernel
theorem tw_end_7 : decode method_6_code 7 = .ok (.i2l, 1) := by decide +kernel
theorem tw_end_8 : decode method_6_code 8 = .ok (.lastore, 1) := by decide +kernel
theorem tw_end_9 : decode method_6_code 9 = .ok (.goto 9, 3) := by decide +kernel
theorem tw_end_12 : decode method_6_code 12 = .ok (.astore_n 3, 1) := by decide +kernel
theorem tw_end_13 : decode method_6_code 13 = .ok (.iconst 1, 1) := by decide +kernel
theorem tw_end_14 : decode method_6_code 14 = .ok (.ireturn, 1) := by decide +kernel
theorem tw_end_15 : decode method_6_code 15 = .ok (.astore_n 3, 1) := by decide +kernel
theorem tw_end_16 : decode method_6_code 16 = .ok (.iconst 2, 1) := by decide +kernel
theorem tw_end_17 : decode method_6_code 17 = .ok (.ireturn, 1) := by decide +kernel
theorem tw_end_18 : decode method_6_code 18 = .ok (.iconst 0, 1) := by decide +kernel
theorem tw_end_19 : decode method_6_code 19 = .ok (.ireturn, 1) := by decide +kernel
def tw_end_y : MethodName := ⟨"TieredLocksLaw", "end", "(LTieredLocks;I[J)I"⟩
def tw_end_ws : List Cond := Cond.codeWith tw_end_y method_6_code 4 (some .int) [(0, 9, 12, 13), (0, 9, 15, 15)] :: lw_gt
theorem tw_end_w0 : Cond.methodLink "TieredLocksLaw" 27 (ta_nm 5) ∈ lw_gt := List.mem_filter.mpr ⟨List.mem_of_getElem? (i := 361) rfl, rfl⟩
theorem tw_end_w1 : Cond.instanceMethod (ta_nm 5) ∈ lw_gt := List.mem_filter.mpr ⟨List.mem_of_getElem? (i := 362) rfl, rfl⟩
theorem tw_end_w2 : Cond.selects "TieredLocks" (ta_nm 5) (ta_nm 5) ∈ lw_gt := List.mem_filter.mpr ⟨List.mem_of_getElem? (i := 363) rfl, rfl⟩
set_option maxHeartbeats 4000000 in
set_option maxRecDepth 100000 in
theorem tw_end {l : Launch} {ci : Nat} {D : va_G} {cl : List vw_C} {o : Nat} {ad : Nat → Nat} {cA : Nat → ClassId} (hl : l.stackTraces = false) (hc : cl[ci]? = some ("TieredLocks", ta_T, 4)) {ao : Nat} {cO : ClassId} (f : Nat → Int64) {w w' : tl_W} {Rr : tl_R} (sz : Nat) (hao : ¬ (ao = o ∨ ∃ k, k ∈ [0, 1, 2, 3] ∧ ao = ad k)) {p0 : Int} (hp0 : tl_ir p0) (hwr : ∀ a b, tl_ir (w a b)) (h3 : Rr ≠ .inr 3) (hnn : Rr ≠ .inl none) (hEv : tl_Ev ta_P 8 5 [.inr 0, .inl p0] w Rr w') :
    Met l tw_end_y tw_end_ws { frames := 9, cells := 1, slots := 6, locals := 349 } (tw_Pc ci D cl o ad cA ao cO f [.ref o, .int (Int32.ofInt p0), .ref ao] w sz) (tw_Qc ci D cl o ad cA ao cO Rr w' sz) 1 6 (tw_A o ad ao sz) := by
  refine va_MetW (cc := method_6_code) (maxL := 4) (ret := some .int) (hh := [(0, 9, 12, 13), (0, 9, 15, 15)]) (by decide) rfl ?_
  intro p e s m args below meth c s₁ B hml hv
  obtain ⟨rfl, hsz, ⟨hP, hK, hD⟩, hG, hU, hO, hKo⟩ := hv
  subst hsz
  have hx := B.exec
  have hb := B.bytes
  have hr := B.returns
  have hlocks := B.notSynchronized
  have hts := atoms_spec (ws := tw_end_ws) B.pre
  have hg : ∀ w ∈ lw_gt, w.before _ s = true := fun w hw => hts w (List.mem_cons_of_mem _ hw)
  have hown : s.vm.findClass "TieredLocksLaw" = some m.cls := findClass_of_methodNamed B.named
  have htab : c.exceptionTable.toList = tableOf [(0, 9, 12, 13), (0, 9, 15, 15)] := vx_table (x := tw_end_y) B (hts _ List.mem_cons_self)
  have haolt : ao < s.heap.size := vx_lt hO (k := 0) rfl
  have hl1 := lv_entry ([.ref o, .int (Int32.ofInt p0), .ref ao]) (n := 4) (Nat.le_of_ble_eq_true rfl)
  rw [lg_entry_eq]
  generalize (lg_sl ([.ref o, .int (Int32.ofInt p0), .ref ao]) ++ List.replicate (4 - (lg_sl ([.ref o, .int (Int32.ofInt p0), .ref ao])).length) Slot.unset).toArray = ls at hl1 ⊢
  have hl1 : lv_has ls 4 [(0, .ref o), (1, .int (Int32.ofInt p0)), (2, .ref ao)] := hl1
  have hA1 : ∀ q, tl_A o [0, 1, 2, 3] ad s.heap.size q → tw_A o ad ao s.heap.size q := fun q h => Or.inl h
  refine lv_aload_n hx hb tw_end_0 rfl (lv_at hl1 2 rfl) ?_
  refine lv_iconst (v := 0) hx hb tw_end_1 (by decide) ?_
  refine lv_aload_n hx hb tw_end_2 rfl (lv_at hl1 0 rfl) ?_
  refine lv_iload_n hx hb tw_end_3 rfl (lv_at hl1 1 rfl) ?_
  have hM := tx_sound (sz := s.heap.size) (D := D) (o := o) (ad := ad) (cA := cA) hl hc (d := 7) (j := 5) (as := [.inr 0, .inl p0]) (w := w) (Q := fun r w9 => r = Rr ∧ w9 = w') (by decide) (by decide) tx_th5 (Nat.le_of_ble_eq_true rfl) (by
    intro v hv
    rcases List.mem_cons.mp hv with rfl | hv
    · trivial
    rcases List.mem_cons.mp hv with rfl | hv
    · exact hp0
    cases hv) hwr (hEv _ ⟨rfl, rfl⟩)
  refine tx_callk (rest := [.int 0, .ref ao]) (vx_runV (Ts := tw_end_ws) (C := "TieredLocks") (b := o) (As := [.int (Int32.ofInt p0)]) ⟨hx, hb, hml, hown, hts⟩ hM
    ⟨callB_of 1 hts (tw_good (by decide)) rfl rfl rfl (hg _ tw_ini) (hg _ tw_end_w0) (by decide +kernel) ⟨Nat.le_of_ble_eq_true rfl, Nat.le_of_ble_eq_true rfl⟩, hg _ tw_end_w1, hg _ tw_end_w2⟩
    ⟨tx_blind, va_recv hK hP hc (q0 := 0) rfl, fun U hUh hW => ⟨rfl, by rw [hUh], ⟨by rw [hUh]; exact hP, va_K.moved hW.alike hK, hD⟩, tl_G.use hG hW.alike hUh (fun _ _ _ => rfl) hA1 rfl, tx_U.use (H := s.heap) hU.1 hW.alike hUh (fun _ _ _ => rfl) hA1⟩⟩ rfl rfl hl1.1 rfl (lv_room (Nat.le_of_ble_eq_true rfl)) tw_end_4 ⟨Nat.le_of_ble_eq_true rfl, Nat.le_of_ble_eq_true rfl⟩) va_S.rf hA1 ?_ ?_
  · intro k w9 ce q9 t H1 locs1 ht hvm hq hk hB hir hkp hS1 hce hcv hcl
    obtain ⟨rfl, rfl⟩ := hq
    obtain ⟨hP1, -, hD1⟩ := hB
    rw [ht] at hP1
    have hO1 : tw_O D cl ao cO f H1 := va_P.kept hO (fun i q hi => by rw [List.mem_singleton.mp (List.mem_of_getElem? hi)]; exact hkp ao haolt (fun z => z.elim hao (fun z => by omega)))
    obtain ⟨⟨hU1, -⟩, hn21, hn31, hn32⟩ := hU
    rcases hk with rfl | rfl | rfl
    · refine vx_catch (E := tx_n 1) (name := tx_n 1) hown [] ⟨0, 9, 12, 13⟩ [⟨0, 9, 15, 15⟩] (by rw [htab]; rfl) (fun z hz => nomatch hz) (by decide) (by decide) (hg _ tw_cl1) (hU1 _ (by decide +kernel) _) hce hcv hcl ?_
      refine lv_astore_n hx hb tw_end_12 rfl hl1 (by decide) rfl (fun ls hl2 => ?_)
      refine lv_iconst (v := 1) hx hb tw_end_13 (by decide) ?_
      exact W.iret (v := 1) hx hb hr (fun t ht hW => ⟨⟨rfl, ⟨by rw [ht]; exact hP1, va_K.moved hW.alike hK, hD1⟩, hir, f, (by intro x h9; cases h9), (by rw [ht]; exact hO1)⟩, hS1.F ht⟩) hS1.2.2 tw_end_14
    · refine vx_catch (E := tx_n 2) (name := tx_n 2) hown [⟨0, 9, 12, 13⟩] ⟨0, 9, 15, 15⟩ [] (by rw [htab]; rfl) (fun z hz => by rw [List.mem_singleton.mp hz]; exact Or.inr ⟨by decide, _, hg _ tw_cl1, hn21⟩) (by decide) (by decide) (hg _ tw_cl2) (hU1 _ (by decide +kernel) _) hce hcv hcl ?_
      refine lv_astore_n hx hb tw_end_15 rfl hl1 (by decide) rfl (fun ls hl2 => ?_)
      refine lv_iconst (v := 2) hx hb tw_end_16 (by decide) ?_
      exact W.iret (v := 2) hx hb hr (fun t ht hW => ⟨⟨rfl, ⟨by rw [ht]; exact hP1, va_K.moved hW.alike hK, hD1⟩, hir, f, (by intro x h9; cases h9), (by rw [ht]; exact hO1)⟩, hS1.F ht⟩) hS1.2.2 tw_end_17
    · exact absurd rfl h3
  · intro r w9 t H1 locs1 ht hvm hq hB hir hkp hS1
    obtain ⟨rfl, rfl⟩ := hq
    obtain ⟨hP1, -, hD1⟩ := hB
    rw [ht] at hP1
    have hO1 : tw_O D cl ao cO f H1 := va_P.kept hO (fun i q hi => by rw [List.mem_singleton.mp (List.mem_of_getElem? hi)]; exact hkp ao haolt (fun z => z.elim hao (fun z => by omega)))
    cases r with
    | none => exact absurd rfl hnn
    | some x =>
      refine lv_i2l (v := (Int32.ofInt x).toInt64) hx hb tw_end_7 rfl ?_
      refine tw_last hx hb hP1 hD1 hO1 hKo hao hS1 (fun q h => h.elim (fun z => Or.inl (Or.inl z)) Or.inr) tw_end_8 (fun H2 locs2 f2 hf2 hP2 hO2 hS2 => ?_)
      refine lv_goto hx hb tw_end_9 (tgt := 18) (by decide) ?_
      refine lv_iconst (v := 0) hx hb tw_end_18 (by decide) ?_
      exact W.iret (v := 0) hx hb hr (fun t ht hW => ⟨⟨rfl, ⟨by rw [ht]; exact hP2, va_K.moved hW.alike hK, hD1⟩, hir, f2, (by intro y hy; cases hy; exact hf2), (by rw [ht]; exact hO2)⟩, hS2.F ht⟩) hS2.2.2 tw_end_19
