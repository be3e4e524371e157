/-! 28.made: the two constructors -/
def tc_ad (l : List Nat) (t9 : Nat) : Nat → Nat := fun k => bif Nat.beq k 99 then t9 else l.getD k 0
def tc_A (h0 sz : Nat) : Nat → Prop := fun q => q = h0 ∨ sz ≤ q
def tc_Q (P : tl_P) (N ci : Nat) (ks : List Nat) (D : va_G) (cl : List vw_C) (h0 t9 : Nat) (w : tl_W) (sz : Nat) : Array Value → State → Outcome → State → Prop :=
  fun _ st oc t => (∃ (ad : Nat → Nat) (cA : Nat → ClassId), oc = .returned none ∧ ad 99 = t9 ∧ (∀ k ∈ ks, sz ≤ ad k) ∧ tl_B P N ci ks D cl h0 ad cA w t) ∧ va_F (tc_A h0 sz) st t
theorem tc_ks {P : tl_P} {N ci : Nat} {ks : List Nat} {h0 sz : Nat} {ad : Nat → Nat} {cA : Nat → ClassId} {w : tl_W} (h : va_D (tc_A h0 sz) (tl_ce P N ci ks h0 ad cA w)) : ∀ k ∈ ks, sz ≤ ad k := by
  intro k hk
  obtain ⟨i, hi⟩ := List.getElem?_of_mem hk
  have h1 : (tl_ce P N ci ks h0 ad cA w)[i + 1]? = some (tl_ar P ad cA w k) := by
    show (ks.map (tl_ar P ad cA w))[i]? = _
    rw [List.getElem?_map, hi]; rfl
  rcases h.2 _ _ h1 with h2 | h2
  · have h3 := h.1 (i + 1) 0 _ (h0, .inr (ci, tl_fs N ks ad w)) h1 rfl h2
    exact absurd h3 (by omega)
  · exact h2
theorem ta_im1 : Cond.methodLink "TieredLocks" 1 objectInit ∈ lw_gt := List.mem_filter.mpr ⟨List.mem_of_getElem? (i := 49) rfl, rfl⟩
theorem ta_im2 : Cond.instanceMethod objectInit ∈ lw_gt := List.mem_filter.mpr ⟨List.mem_of_getElem? (i := 50) rfl, rfl⟩
theorem ta_im3 : Cond.code objectInit ⟨#[0xb1]⟩ 1 none ∈ lw_gt := List.mem_filter.mpr ⟨List.mem_of_getElem? (i := 51) rfl, rfl⟩
theorem ta_im4 : Cond.arrayClass .int ∈ lw_gt := List.mem_filter.mpr ⟨List.mem_of_getElem? (i := 65) rfl, rfl⟩
theorem tb_im1 : Cond.methodLink "TieredLocksModel" 1 objectInit ∈ lw_gt := List.mem_filter.mpr ⟨List.mem_of_getElem? (i := 370) rfl, rfl⟩
theorem tb_im2 : Cond.instanceMethod objectInit ∈ lw_gt := List.mem_filter.mpr ⟨List.mem_of_getElem? (i := 50) rfl, rfl⟩
theorem tb_im3 : Cond.code objectInit ⟨#[0xb1]⟩ 1 none ∈ lw_gt := List.mem_filter.mpr ⟨List.mem_of_getElem? (i := 51) rfl, rfl⟩
theorem tb_im4 : Cond.arrayClass .int ∈ lw_gt := List.mem_filter.mpr ⟨List.mem_of_getElem? (i := 65) rfl, rfl⟩
theorem ta_i0 : decode (ta_bs 0) 0 = .ok (.aload_n 0, 1) := by decide +kernel
theorem ta_i1 : decode (ta_bs 0) 1 = .ok (.invokespecial 1, 3) := by decide +kernel
theorem ta_i4 : decode (ta_bs 0) 4 = .ok (.aload_n 0, 1) := by decide +kernel
theorem ta_i5 : decode (ta_bs 0) 5 = .ok (.sipush 272, 3) := by decide +kernel
theorem ta_i8 : decode (ta_bs 0) 8 = .ok (.newarray .int, 2) := by decide +kernel
theorem ta_i10 : decode (ta_bs 0) 10 = .ok (.putfield 9, 3) := by decide +kernel
theorem ta_i13 : decode (ta_bs 0) 13 = .ok (.aload_n 0, 1) := by decide +kernel
theorem ta_i14 : decode (ta_bs 0) 14 = .ok (.bipush 8, 2) := by decide +kernel
theorem ta_i16 : decode (ta_bs 0) 16 = .ok (.newarray .int, 2) := by decide +kernel
theorem ta_i18 : decode (ta_bs 0) 18 = .ok (.putfield 13, 3) := by decide +kernel
theorem ta_i21 : decode (ta_bs 0) 21 = .ok (.aload_n 0, 1) := by decide +kernel
theorem ta_i22 : decode (ta_bs 0) 22 = .ok (.bipush 8, 2) := by decide +kernel
theorem ta_i24 : decode (ta_bs 0) 24 = .ok (.newarray .int, 2) := by decide +kernel
theorem ta_i26 : decode (ta_bs 0) 26 = .ok (.putfield 16, 3) := by decide +kernel
theorem ta_i29 : decode (ta_bs 0) 29 = .ok (.aload_n 0, 1) := by decide +kernel
theorem ta_i30 : decode (ta_bs 0) 30 = .ok (.bipush 8, 2) := by decide +kernel
theorem ta_i32 : decode (ta_bs 0) 32 = .ok (.newarray .int, 2) := by decide +kernel
theorem ta_i34 : decode (ta_bs 0) 34 = .ok (.putfield 19, 3) := by decide +kernel
theorem ta_i37 : decode (ta_bs 0) 37 = .ok (.return_, 1) := by decide +kernel
set_option maxHeartbeats 4000000 in
set_option maxRecDepth 100000 in
theorem ta_made (l : Launch) {ci : Nat} {D : va_G} {cl : List vw_C} (hc : cl[ci]? = some ("TieredLocks", ta_T, 4)) (h0 t9 sz : Nat) (w : tl_W) (hw : ∀ k, k < 4 → w k = fun _ => 0) : Met l (ta_nm 0) (tl_ws ta_P ta_nm ta_bs lw_gt 0) ({ frames := 1, cells := 4, slots := 296, locals := 40 })
    (va_Pc [.ref h0] (fun U => U.heap.size = sz ∧ va_P D cl [(h0, .inr (ci, [.null, .null, .null, .null]))] U.heap ∧ va_K D cl [] U)) (tc_Q ta_P 4 ci [0, 1, 2, 3] D cl h0 t9 w sz) 4 296 (tc_A h0 sz) := by
  obtain ⟨f1, f2, f3, ⟨f4, f4a, f4b, f4c, f4d⟩, f5, f6, f7, f8, f9, f9a, f9b⟩ := ta_face
  refine Met.ofW (cc := ta_bs 0) (maxL := 1) (ret := none) (by decide) rfl ?_
  intro p e s m args below meth c s₁ B hml hv
  obtain ⟨rfl, hsz, hP, hK⟩ := hv
  have hx := B.exec
  have hb := B.bytes
  have hr := B.returns
  have hts := atoms_spec (ws := tl_ws ta_P ta_nm ta_bs lw_gt 0) B.pre
  have hg : ∀ w ∈ lw_gt, w.before ([Value.ref h0] : List Value).toArray s = true := fun w hw => hts w (List.mem_cons_of_mem _ hw)
  have hsub : ∀ w ∈ u_ws "TieredLocks" ta_T 4, w ∈ tl_ws ta_P ta_nm ta_bs lw_gt 0 := fun w hw => List.mem_cons_of_mem _ (f4d w hw)
  have hown : s.vm.findClass "TieredLocks" = some m.cls := findClass_of_methodNamed B.named
  have hlocks := B.notSynchronized
  have hin : meth.name = "<init>" := (name_of_methodNamed B.named B.method).1
  subst hsz
  have hD : va_D (tc_A h0 s.heap.size) [(h0, .inr (ci, [.null, .null, .null, .null]))] := ⟨fun i j x y hi hj _ => by
    have h1 := (List.getElem?_eq_some_iff.mp hi).1
    have h2 := (List.getElem?_eq_some_iff.mp hj).1
    simp only [List.length_cons, List.length_nil] at h1 h2
    omega, fun k q hk => by rw [List.mem_singleton.mp (List.mem_of_getElem? hk)]; exact Or.inl rfl⟩
  have hA : ∀ q : Nat, s.heap.size ≤ q → tc_A h0 s.heap.size q := fun q h => Or.inr h
  have hS : va_S (tc_A h0 s.heap.size) s.heap s.heap [] := va_S.rf
  have hl := lv_entry ([.ref h0]) (n := 1) (Nat.le_of_ble_eq_true rfl)
  rw [lg_entry_eq]
  generalize (lg_sl ([.ref h0]) ++ List.replicate (1 - (lg_sl ([.ref h0])).length) Slot.unset).toArray = ls at hl ⊢
  have hl : lv_has ls 1 [(0, .ref h0)] := hl
  refine lv_aload_n hx hb ta_i0 rfl (lv_at hl 0 rfl) ?_
  refine W.objInit hx hb hown (hg _ ta_im1) (hg _ ta_im2) (hg _ ta_im3) rfl (by rw [hml]; exact hl.1) rfl ta_i1 (Nat.le_of_ble_eq_true rfl) (Nat.le_of_ble_eq_true rfl) ?_
  refine W.eq (g2 := F0 m 4 ls []) rfl ?_
  refine lv_aload_n hx hb ta_i4 rfl (lv_at hl 0 rfl) ?_
  refine lv_sipush (v := 272) hx hb ta_i5 (by decide) ?_
  refine va_newa (atype := .int) (ty := .int) (a0 := (272, .inl (fun a => Int32.ofInt (w 0 a)))) hx hb (hg _ ta_im4) rfl hK hP hD hS hA (fun cA => by show arrV cA 272 (fun j => .int (Int32.ofInt (w 0 j))) = _; rw [hw 0 (by decide)]; rfl) (by decide) (by decide) (by decide) (by show 0 + 1 ≤ 4; decide) (by show 0 + 272 ≤ 296; decide) ta_i8 (fun q0 c0 H hK hP hD hS => ?_)
  have hP : va_P D cl [(h0, .inr (ci, [.null, .null, .null, .null])), (q0, .inl (c0, 272, .inl (fun a => Int32.ofInt (w 0 a))))] H := hP
  have hD : va_D (tc_A h0 s.heap.size) [(h0, .inr (ci, [.null, .null, .null, .null])), (q0, .inl (c0, 272, .inl (fun a => Int32.ofInt (w 0 a))))] := hD
  refine W.widen (k := 1) (n := 272) (by omega) (by omega) ?_
  refine va_putF (D := D) (ci := ci) (v := .ref q0) (ty := .array .int) (C := "TieredLocks") (T := ta_T) (N := 4) hx hb hts hsub ta_ty f9a f9b hown hK hP hD hS 0 rfl hc 0 (by decide) (hg _ ((f7 9 0 rfl).1 (by decide)).2) (fun _ h9 => h9) rfl hin rfl (by decide +kernel) rfl rfl (Nat.le_of_ble_eq_true rfl) ta_i10 (fun H locs hP hD hS => ?_)
  have hP : va_P D cl [(h0, .inr (ci, [.ref q0, .null, .null, .null])), (q0, .inl (c0, 272, .inl (fun a => Int32.ofInt (w 0 a))))] H := hP
  have hD : va_D (tc_A h0 s.heap.size) [(h0, .inr (ci, [.ref q0, .null, .null, .null])), (q0, .inl (c0, 272, .inl (fun a => Int32.ofInt (w 0 a))))] := hD
  refine lv_aload_n hx hb ta_i13 rfl (lv_at hl 0 rfl) ?_
  refine lv_bipush (v := 8) hx hb ta_i14 (by decide) ?_
  refine va_newa (atype := .int) (ty := .int) (a0 := (8, .inl (fun a => Int32.ofInt (w 1 a)))) hx hb (hg _ ta_im4) rfl hK hP hD hS hA (fun cA => by show arrV cA 8 (fun j => .int (Int32.ofInt (w 1 j))) = _; rw [hw 1 (by decide)]; rfl) (by decide) (by decide) (by decide) (by show 1 + 1 ≤ 4; decide) (by show 272 + 8 ≤ 296; decide) ta_i16 (fun q1 c1 H hK hP hD hS => ?_)
  have hP : va_P D cl [(h0, .inr (ci, [.ref q0, .null, .null, .null])), (q0, .inl (c0, 272, .inl (fun a => Int32.ofInt (w 0 a)))), (q1, .inl (c1, 8, .inl (fun a => Int32.ofInt (w 1 a))))] H := hP
  have hD : va_D (tc_A h0 s.heap.size) [(h0, .inr (ci, [.ref q0, .null, .null, .null])), (q0, .inl (c0, 272, .inl (fun a => Int32.ofInt (w 0 a)))), (q1, .inl (c1, 8, .inl (fun a => Int32.ofInt (w 1 a))))] := hD
  refine W.widen (k := 2) (n := 280) (by omega) (by omega) ?_
  refine va_putF (D := D) (ci := ci) (v := .ref q1) (ty := .array .int) (C := "TieredLocks") (T := ta_T) (N := 4) hx hb hts hsub ta_ty f9a f9b hown hK hP hD hS 0 rfl hc 1 (by decide) (hg _ ((f7 13 1 rfl).1 (by decide)).2) (fun _ h9 => h9) rfl hin rfl (by decide +kernel) rfl rfl (Nat.le_of_ble_eq_true rfl) ta_i18 (fun H locs hP hD hS => ?_)
  have hP : va_P D cl [(h0, .inr (ci, [.ref q0, .ref q1, .null, .null])), (q0, .inl (c0, 272, .inl (fun a => Int32.ofInt (w 0 a)))), (q1, .inl (c1, 8, .inl (fun a => Int32.ofInt (w 1 a))))] H := hP
  have hD : va_D (tc_A h0 s.heap.size) [(h0, .inr (ci, [.ref q0, .ref q1, .null, .null])), (q0, .inl (c0, 272, .inl (fun a => Int32.ofInt (w 0 a)))), (q1, .inl (c1, 8, .inl (fun a => Int32.ofInt (w 1 a))))] := hD
  refine lv_aload_n hx hb ta_i21 rfl (lv_at hl 0 rfl) ?_
  refine lv_bipush (v := 8) hx hb ta_i22 (by decide) ?_
  refine va_newa (atype := .int) (ty := .int) (a0 := (8, .inl (fun a => Int32.ofInt (w 2 a)))) hx hb (hg _ ta_im4) rfl hK hP hD hS hA (fun cA => by show arrV cA 8 (fun j => .int (Int32.ofInt (w 2 j))) = _; rw [hw 2 (by decide)]; rfl) (by decide) (by decide) (by decide) (by show 2 + 1 ≤ 4; decide) (by show 280 + 8 ≤ 296; decide) ta_i24 (fun q2 c2 H hK hP hD hS => ?_)
  have hP : va_P D cl [(h0, .inr (ci, [.ref q0, .ref q1, .null, .null])), (q0, .inl (c0, 272, .inl (fun a => Int32.ofInt (w 0 a)))), (q1, .inl (c1, 8, .inl (fun a => Int32.ofInt (w 1 a)))), (q2, .inl (c2, 8, .inl (fun a => Int32.ofInt (w 2 a))))] H := hP
  have hD : va_D (tc_A h0 s.heap.size) [(h0, .inr (ci, [.ref q0, .ref q1, .null, .null])), (q0, .inl (c0, 272, .inl (fun a => Int32.ofInt (w 0 a)))), (q1, .inl (c1, 8, .inl (fun a => Int32.ofInt (w 1 a)))), (q2, .inl (c2, 8, .inl (fun a => Int32.ofInt (w 2 a))))] := hD
  refine W.widen (k := 3) (n := 288) (by omega) (by omega) ?_
  refine va_putF (D := D) (ci := ci) (v := .ref q2) (ty := .array .int) (C := "TieredLocks") (T := ta_T) (N := 4) hx hb hts hsub ta_ty f9a f9b hown hK hP hD hS 0 rfl hc 2 (by decide) (hg _ ((f7 16 2 rfl).1 (by decide)).2) (fun _ h9 => h9) rfl hin rfl (by decide +kernel) rfl rfl (Nat.le_of_ble_eq_true rfl) ta_i26 (fun H locs hP hD hS => ?_)
  have hP : va_P D cl [(h0, .inr (ci, [.ref q0, .ref q1, .ref q2, .null])), (q0, .inl (c0, 272, .inl (fun a => Int32.ofInt (w 0 a)))), (q1, .inl (c1, 8, .inl (fun a => Int32.ofInt (w 1 a)))), (q2, .inl (c2, 8, .inl (fun a => Int32.ofInt (w 2 a))))] H := hP
  have hD : va_D (tc_A h0 s.heap.size) [(h0, .inr (ci, [.ref q0, .ref q1, .ref q2, .null])), (q0, .inl (c0, 272, .inl (fun a => Int32.ofInt (w 0 a)))), (q1, .inl (c1, 8, .inl (fun a => Int32.ofInt (w 1 a)))), (q2, .inl (c2, 8, .inl (fun a => Int32.ofInt (w 2 a))))] := hD
  refine lv_aload_n hx hb ta_i29 rfl (lv_at hl 0 rfl) ?_
  refine lv_bipush (v := 8) hx hb ta_i30 (by decide) ?_
  refine va_newa (atype := .int) (ty := .int) (a0 := (8, .inl (fun a => Int32.ofInt (w 3 a)))) hx hb (hg _ ta_im4) rfl hK hP hD hS hA (fun cA => by show arrV cA 8 (fun j => .int (Int32.ofInt (w 3 j))) = _; rw [hw 3 (by decide)]; rfl) (by decide) (by decide) (by decide) (by show 3 + 1 ≤ 4; decide) (by show 288 + 8 ≤ 296; decide) ta_i32 (fun q3 c3 H hK hP hD hS => ?_)
  have hP : va_P D cl [(h0, .inr (ci, [.ref q0, .ref q1, .ref q2, .null])), (q0, .inl (c0, 272, .inl (fun a => Int32.ofInt (w 0 a)))), (q1, .inl (c1, 8, .inl (fun a => Int32.ofInt (w 1 a)))), (q2, .inl (c2, 8, .inl (fun a => Int32.ofInt (w 2 a)))), (q3, .inl (c3, 8, .inl (fun a => Int32.ofInt (w 3 a))))] H := hP
  have hD : va_D (tc_A h0 s.heap.size) [(h0, .inr (ci, [.ref q0, .ref q1, .ref q2, .null])), (q0, .inl (c0, 272, .inl (fun a => Int32.ofInt (w 0 a)))), (q1, .inl (c1, 8, .inl (fun a => Int32.ofInt (w 1 a)))), (q2, .inl (c2, 8, .inl (fun a => Int32.ofInt (w 2 a)))), (q3, .inl (c3, 8, .inl (fun a => Int32.ofInt (w 3 a))))] := hD
  refine W.widen (k := 4) (n := 296) (by omega) (by omega) ?_
  refine va_putF (D := D) (ci := ci) (v := .ref q3) (ty := .array .int) (C := "TieredLocks") (T := ta_T) (N := 4) hx hb hts hsub ta_ty f9a f9b hown hK hP hD hS 0 rfl hc 3 (by decide) (hg _ ((f7 19 3 rfl).1 (by decide)).2) (fun _ h9 => h9) rfl hin rfl (by decide +kernel) rfl rfl (Nat.le_of_ble_eq_true rfl) ta_i34 (fun H locs hP hD hS => ?_)
  have hP : va_P D cl [(h0, .inr (ci, [.ref q0, .ref q1, .ref q2, .ref q3])), (q0, .inl (c0, 272, .inl (fun a => Int32.ofInt (w 0 a)))), (q1, .inl (c1, 8, .inl (fun a => Int32.ofInt (w 1 a)))), (q2, .inl (c2, 8, .inl (fun a => Int32.ofInt (w 2 a)))), (q3, .inl (c3, 8, .inl (fun a => Int32.ofInt (w 3 a))))] H := hP
  have hD : va_D (tc_A h0 s.heap.size) [(h0, .inr (ci, [.ref q0, .ref q1, .ref q2, .ref q3])), (q0, .inl (c0, 272, .inl (fun a => Int32.ofInt (w 0 a)))), (q1, .inl (c1, 8, .inl (fun a => Int32.ofInt (w 1 a)))), (q2, .inl (c2, 8, .inl (fun a => Int32.ofInt (w 2 a)))), (q3, .inl (c3, 8, .inl (fun a => Int32.ofInt (w 3 a))))] := hD
  have e5 : tl_ce ta_P 4 ci [0, 1, 2, 3] h0 (tc_ad [q0, q1, q2, q3] t9) (fun k => [c0, c1, c2, c3].getD k 0) w = [(h0, .inr (ci, [.ref q0, .ref q1, .ref q2, .ref q3])), (q0, .inl (c0, 272, .inl (fun a => Int32.ofInt (w 0 a)))), (q1, .inl (c1, 8, .inl (fun a => Int32.ofInt (w 1 a)))), (q2, .inl (c2, 8, .inl (fun a => Int32.ofInt (w 2 a)))), (q3, .inl (c3, 8, .inl (fun a => Int32.ofInt (w 3 a))))] := rfl
  rw [← e5] at hP hD
  exact W.vret hx hb hr (fun t ht hW => ⟨⟨tc_ad [q0, q1, q2, q3] t9, fun k => [c0, c1, c2, c3].getD k 0, rfl, rfl, tc_ks hD, by rw [ht]; exact hP, va_K.moved hW.alike hK, hD.weaken (fun _ _ _ _ => trivial)⟩, hS.F ht⟩) hS.2.2 ta_i37
theorem tb_i0 : decode (tb_bs 0) 0 = .ok (.aload_n 0, 1) := by decide +kernel
theorem tb_i1 : decode (tb_bs 0) 1 = .ok (.invokespecial 1, 3) := by decide +kernel
theorem tb_i4 : decode (tb_bs 0) 4 = .ok (.aload_n 0, 1) := by decide +kernel
theorem tb_i5 : decode (tb_bs 0) 5 = .ok (.sipush 272, 3) := by decide +kernel
theorem tb_i8 : decode (tb_bs 0) 8 = .ok (.newarray .int, 2) := by decide +kernel
theorem tb_i10 : decode (tb_bs 0) 10 = .ok (.putfield 7, 3) := by decide +kernel
theorem tb_i13 : decode (tb_bs 0) 13 = .ok (.aload_n 0, 1) := by decide +kernel
theorem tb_i14 : decode (tb_bs 0) 14 = .ok (.bipush 8, 2) := by decide +kernel
theorem tb_i16 : decode (tb_bs 0) 16 = .ok (.newarray .int, 2) := by decide +kernel
theorem tb_i18 : decode (tb_bs 0) 18 = .ok (.putfield 13, 3) := by decide +kernel
theorem tb_i21 : decode (tb_bs 0) 21 = .ok (.aload_n 0, 1) := by decide +kernel
theorem tb_i22 : decode (tb_bs 0) 22 = .ok (.bipush 8, 2) := by decide +kernel
theorem tb_i24 : decode (tb_bs 0) 24 = .ok (.newarray .int, 2) := by decide +kernel
theorem tb_i26 : decode (tb_bs 0) 26 = .ok (.putfield 16, 3) := by decide +kernel
theorem tb_i29 : decode (tb_bs 0) 29 = .ok (.aload_n 0, 1) := by decide +kernel
theorem tb_i30 : decode (tb_bs 0) 30 = .ok (.sipush 272, 3) := by decide +kernel
theorem tb_i33 : decode (tb_bs 0) 33 = .ok (.newarray .int, 2) := by decide +kernel
theorem tb_i35 : decode (tb_bs 0) 35 = .ok (.putfield 19, 3) := by decide +kernel
theorem tb_i38 : decode (tb_bs 0) 38 = .ok (.aload_n 0, 1) := by decide +kernel
theorem tb_i39 : decode (tb_bs 0) 39 = .ok (.bipush 34, 2) := by decide +kernel
theorem tb_i41 : decode (tb_bs 0) 41 = .ok (.newarray .int, 2) := by decide +kernel
theorem tb_i43 : decode (tb_bs 0) 43 = .ok (.putfield 22, 3) := by decide +kernel
theorem tb_i46 : decode (tb_bs 0) 46 = .ok (.return_, 1) := by decide +kernel
set_option maxHeartbeats 4000000 in
set_option maxRecDepth 100000 in
theorem tb_made (l : Launch) {ci : Nat} {D : va_G} {cl : List vw_C} (hc : cl[ci]? = some ("TieredLocksModel", tb_T, 6)) (h0 t9 sz : Nat) (w : tl_W) (hw : ∀ k, k < 6 → w k = fun _ => 0) : Met l (tb_nm 0) (tl_ws tb_P tb_nm tb_bs lw_gt 0) ({ frames := 1, cells := 5, slots := 594, locals := 40 })
    (va_Pc [.ref h0] (fun U => U.heap.size = sz ∧ va_P D cl [(h0, .inr (ci, [.null, .null, .null, .null, .null, .int 0]))] U.heap ∧ va_K D cl [] U)) (tc_Q tb_P 6 ci [0, 1, 2, 3, 4] D cl h0 t9 w sz) 5 594 (tc_A h0 sz) := by
  obtain ⟨f1, f2, f3, ⟨f4, f4a, f4b, f4c, f4d⟩, f5, f6, f7, f8, f9, f9a, f9b⟩ := tb_face
  refine Met.ofW (cc := tb_bs 0) (maxL := 1) (ret := none) (by decide) rfl ?_
  intro p e s m args below meth c s₁ B hml hv
  obtain ⟨rfl, hsz, hP, hK⟩ := hv
  have hx := B.exec
  have hb := B.bytes
  have hr := B.returns
  have hts := atoms_spec (ws := tl_ws tb_P tb_nm tb_bs lw_gt 0) B.pre
  have hg : ∀ w ∈ lw_gt, w.before ([Value.ref h0] : List Value).toArray s = true := fun w hw => hts w (List.mem_cons_of_mem _ hw)
  have hsub : ∀ w ∈ u_ws "TieredLocksModel" tb_T 6, w ∈ tl_ws tb_P tb_nm tb_bs lw_gt 0 := fun w hw => List.mem_cons_of_mem _ (f4d w hw)
  have hown : s.vm.findClass "TieredLocksModel" = some m.cls := findClass_of_methodNamed B.named
  have hlocks := B.notSynchronized
  have hin : meth.name = "<init>" := (name_of_methodNamed B.named B.method).1
  subst hsz
  have hD : va_D (tc_A h0 s.heap.size) [(h0, .inr (ci, [.null, .null, .null, .null, .null, .int 0]))] := ⟨fun i j x y hi hj _ => by
    have h1 := (List.getElem?_eq_some_iff.mp hi).1
    have h2 := (List.getElem?_eq_some_iff.mp hj).1
    simp only [List.length_cons, List.length_nil] at h1 h2
    omega, fun k q hk => by rw [List.mem_singleton.mp (List.mem_of_getElem? hk)]; exact Or.inl rfl⟩
  have hA : ∀ q : Nat, s.heap.size ≤ q → tc_A h0 s.heap.size q := fun q h => Or.inr h
  have hS : va_S (tc_A h0 s.heap.size) s.heap s.heap [] := va_S.rf
  have hl := lv_entry ([.ref h0]) (n := 1) (Nat.le_of_ble_eq_true rfl)
  rw [lg_entry_eq]
  generalize (lg_sl ([.ref h0]) ++ List.replicate (1 - (lg_sl ([.ref h0])).length) Slot.unset).toArray = ls at hl ⊢
  have hl : lv_has ls 1 [(0, .ref h0)] := hl
  refine lv_aload_n hx hb tb_i0 rfl (lv_at hl 0 rfl) ?_
  refine W.objInit hx hb hown (hg _ tb_im1) (hg _ tb_im2) (hg _ tb_im3) rfl (by rw [hml]; exact hl.1) rfl tb_i1 (Nat.le_of_ble_eq_true rfl) (Nat.le_of_ble_eq_true rfl) ?_
  refine W.eq (g2 := F0 m 4 ls []) rfl ?_
  refine lv_aload_n hx hb tb_i4 rfl (lv_at hl 0 rfl) ?_
  refine lv_sipush (v := 272) hx hb tb_i5 (by decide) ?_
  refine va_newa (atype := .int) (ty := .int) (a0 := (272, .inl (fun a => Int32.ofInt (w 0 a)))) hx hb (hg _ tb_im4) rfl hK hP hD hS hA (fun cA => by show arrV cA 272 (fun j => .int (Int32.ofInt (w 0 j))) = _; rw [hw 0 (by decide)]; rfl) (by decide) (by decide) (by decide) (by show 0 + 1 ≤ 5; decide) (by show 0 + 272 ≤ 594; decide) tb_i8 (fun q0 c0 H hK hP hD hS => ?_)
  have hP : va_P D cl [(h0, .inr (ci, [.null, .null, .null, .null, .null, .int 0])), (q0, .inl (c0, 272, .inl (fun a => Int32.ofInt (w 0 a))))] H := hP
  have hD : va_D (tc_A h0 s.heap.size) [(h0, .inr (ci, [.null, .null, .null, .null, .null, .int 0])), (q0, .inl (c0, 272, .inl (fun a => Int32.ofInt (w 0 a))))] := hD
  refine W.widen (k := 1) (n := 272) (by omega) (by omega) ?_
  refine va_putF (D := D) (ci := ci) (v := .ref q0) (ty := .array .int) (C := "TieredLocksModel") (T := tb_T) (N := 6) hx hb hts hsub tb_ty f9a f9b hown hK hP hD hS 0 rfl hc 0 (by decide) (hg _ ((f7 7 0 rfl).1 (by decide)).2) (fun _ h9 => h9) rfl hin rfl (by decide +kernel) rfl rfl (Nat.le_of_ble_eq_true rfl) tb_i10 (fun H locs hP hD hS => ?_)
  have hP : va_P D cl [(h0, .inr (ci, [.ref q0, .null, .null, .null, .null, .int 0])), (q0, .inl (c0, 272, .inl (fun a => Int32.ofInt (w 0 a))))] H := hP
  have hD : va_D (tc_A h0 s.heap.size) [(h0, .inr (ci, [.ref q0, .null, .null, .null, .null, .int 0])), (q0, .inl (c0, 272, .inl (fun a => Int32.ofInt (w 0 a))))] := hD
  refine lv_aload_n hx hb tb_i13 rfl (lv_at hl 0 rfl) ?_
  refine lv_bipush (v := 8) hx hb tb_i14 (by decide) ?_
  refine va_newa (atype := .int) (ty := .int) (a0 := (8, .inl (fun a => Int32.ofInt (w 1 a)))) hx hb (hg _ tb_im4) rfl hK hP hD hS hA (fun cA => by show arrV cA 8 (fun j => .int (Int32.ofInt (w 1 j))) = _; rw [hw 1 (by decide)]; rfl) (by decide) (by decide) (by decide) (by show 1 + 1 ≤ 5; decide) (by show 272 + 8 ≤ 594; decide) tb_i16 (fun q1 c1 H hK hP hD hS => ?_)
  have hP : va_P D cl [(h0, .inr (ci, [.ref q0, .null, .null, .null, .null, .int 0])), (q0, .inl (c0, 272, .inl (fun a => Int32.ofInt (w 0 a)))), (q1, .inl (c1, 8, .inl (fun a => Int32.ofInt (w 1 a))))] H := hP
  have hD : va_D (tc_A h0 s.heap.size) [(h0, .inr (ci, [.ref q0, .null, .null, .null, .null, .int 0])), (q0, .inl (c0, 272, .inl (fun a => Int32.ofInt (w 0 a)))), (q1, .inl (c1, 8, .inl (fun a => Int32.ofInt (w 1 a))))] := hD
  refine W.widen (k := 2) (n := 280) (by omega) (by omega) ?_
  refine va_putF (D := D) (ci := ci) (v := .ref q1) (ty := .array .int) (C := "TieredLocksModel") (T := tb_T) (N := 6) hx hb hts hsub tb_ty f9a f9b hown hK hP hD hS 0 rfl hc 1 (by decide) (hg _ ((f7 13 1 rfl).1 (by decide)).2) (fun _ h9 => h9) rfl hin rfl (by decide +kernel) rfl rfl (Nat.le_of_ble_eq_true rfl) tb_i18 (fun H locs hP hD hS => ?_)
  have hP : va_P D cl [(h0, .inr (ci, [.ref q0, .ref q1, .null, .null, .null, .int 0])), (q0, .inl (c0, 272, .inl (fun a => Int32.ofInt (w 0 a)))), (q1, .inl (c1, 8, .inl (fun a => Int32.ofInt (w 1 a))))] H := hP
  have hD : va_D (tc_A h0 s.heap.size) [(h0, .inr (ci, [.ref q0, .ref q1, .null, .null, .null, .int 0])), (q0, .inl (c0, 272, .inl (fun a => Int32.ofInt (w 0 a)))), (q1, .inl (c1, 8, .inl (fun a => Int32.ofInt (w 1 a))))] := hD
  refine lv_aload_n hx hb tb_i21 rfl (lv_at hl 0 rfl) ?_
  refine lv_bipush (v := 8) hx hb tb_i22 (by decide) ?_
  refine va_newa (atype := .int) (ty := .int) (a0 := (8, .inl (fun a => Int32.ofInt (w 2 a)))) hx hb (hg _ tb_im4) rfl hK hP hD hS hA (fun cA => by show arrV cA 8 (fun j => .int (Int32.ofInt (w 2 j))) = _; rw [hw 2 (by decide)]; rfl) (by decide) (by decide) (by decide) (by show 2 + 1 ≤ 5; decide) (by show 280 + 8 ≤ 594; decide) tb_i24 (fun q2 c2 H hK hP hD hS => ?_)
  have hP : va_P D cl [(h0, .inr (ci, [.ref q0, .ref q1, .null, .null, .null, .int 0])), (q0, .inl (c0, 272, .inl (fun a => Int32.ofInt (w 0 a)))), (q1, .inl (c1, 8, .inl (fun a => Int32.ofInt (w 1 a)))), (q2, .inl (c2, 8, .inl (fun a => Int32.ofInt (w 2 a))))] H := hP
  have hD : va_D (tc_A h0 s.heap.size) [(h0, .inr (ci, [.ref q0, .ref q1, .null, .null, .null, .int 0])), (q0, .inl (c0, 272, .inl (fun a => Int32.ofInt (w 0 a)))), (q1, .inl (c1, 8, .inl (fun a => Int32.ofInt (w 1 a)))), (q2, .inl (c2, 8, .inl (fun a => Int32.ofInt (w 2 a))))] := hD
  refine W.widen (k := 3) (n := 288) (by omega) (by omega) ?_
  refine va_putF (D := D) (ci := ci) (v := .ref q2) (ty := .array .int) (C := "TieredLocksModel") (T := tb_T) (N := 6) hx hb hts hsub tb_ty f9a f9b hown hK hP hD hS 0 rfl hc 2 (by decide) (hg _ ((f7 16 2 rfl).1 (by decide)).2) (fun _ h9 => h9) rfl hin rfl (by decide +kernel) rfl rfl (Nat.le_of_ble_eq_true rfl) tb_i26 (fun H locs hP hD hS => ?_)
  have hP : va_P D cl [(h0, .inr (ci, [.ref q0, .ref q1, .ref q2, .null, .null, .int 0])), (q0, .inl (c0, 272, .inl (fun a => Int32.ofInt (w 0 a)))), (q1, .inl (c1, 8, .inl (fun a => Int32.ofInt (w 1 a)))), (q2, .inl (c2, 8, .inl (fun a => Int32.ofInt (w 2 a))))] H := hP
  have hD : va_D (tc_A h0 s.heap.size) [(h0, .inr (ci, [.ref q0, .ref q1, .ref q2, .null, .null, .int 0])), (q0, .inl (c0, 272, .inl (fun a => Int32.ofInt (w 0 a)))), (q1, .inl (c1, 8, .inl (fun a => Int32.ofInt (w 1 a)))), (q2, .inl (c2, 8, .inl (fun a => Int32.ofInt (w 2 a))))] := hD
  refine lv_aload_n hx hb tb_i29 rfl (lv_at hl 0 rfl) ?_
  refine lv_sipush (v := 272) hx hb tb_i30 (by decide) ?_
  refine va_newa (atype := .int) (ty := .int) (a0 := (272, .inl (fun a => Int32.ofInt (w 3 a)))) hx hb (hg _ tb_im4) rfl hK hP hD hS hA (fun cA => by show arrV cA 272 (fun j => .int (Int32.ofInt (w 3 j))) = _; rw [hw 3 (by decide)]; rfl) (by decide) (by decide) (by decide) (by show 3 + 1 ≤ 5; decide) (by show 288 + 272 ≤ 594; decide) tb_i33 (fun q3 c3 H hK hP hD hS => ?_)
  have hP : va_P D cl [(h0, .inr (ci, [.ref q0, .ref q1, .ref q2, .null, .null, .int 0])), (q0, .inl (c0, 272, .inl (fun a => Int32.ofInt (w 0 a)))), (q1, .inl (c1, 8, .inl (fun a => Int32.ofInt (w 1 a)))), (q2, .inl (c2, 8, .inl (fun a => Int32.ofInt (w 2 a)))), (q3, .inl (c3, 272, .inl (fun a => Int32.ofInt (w 3 a))))] H := hP
  have hD : va_D (tc_A h0 s.heap.size) [(h0, .inr (ci, [.ref q0, .ref q1, .ref q2, .null, .null, .int 0])), (q0, .inl (c0, 272, .inl (fun a => Int32.ofInt (w 0 a)))), (q1, .inl (c1, 8, .inl (fun a => Int32.ofInt (w 1 a)))), (q2, .inl (c2, 8, .inl (fun a => Int32.ofInt (w 2 a)))), (q3, .inl (c3, 272, .inl (fun a => Int32.ofInt (w 3 a))))] := hD
  refine W.widen (k := 4) (n := 560) (by omega) (by omega) ?_
  refine va_putF (D := D) (ci := ci) (v := .ref q3) (ty := .array .int) (C := "TieredLocksModel") (T := tb_T) (N := 6) hx hb hts hsub tb_ty f9a f9b hown hK hP hD hS 0 rfl hc 3 (by decide) (hg _ ((f7 19 3 rfl).1 (by decide)).2) (fun _ h9 => h9) rfl hin rfl (by decide +kernel) rfl rfl (Nat.le_of_ble_eq_true rfl) tb_i35 (fun H locs hP hD hS => ?_)
  have hP : va_P D cl [(h0, .inr (ci, [.ref q0, .ref q1, .ref q2, .ref q3, .null, .int 0])), (q0, .inl (c0, 272, .inl (fun a => Int32.ofInt (w 0 a)))), (q1, .inl (c1, 8, .inl (fun a => Int32.ofInt (w 1 a)))), (q2, .inl (c2, 8, .inl (fun a => Int32.ofInt (w 2 a)))), (q3, .inl (c3, 272, .inl (fun a => Int32.ofInt (w 3 a))))] H := hP
  have hD : va_D (tc_A h0 s.heap.size) [(h0, .inr (ci, [.ref q0, .ref q1, .ref q2, .ref q3, .null, .int 0])), (q0, .inl (c0, 272, .inl (fun a => Int32.ofInt (w 0 a)))), (q1, .inl (c1, 8, .inl (fun a => Int32.ofInt (w 1 a)))), (q2, .inl (c2, 8, .inl (fun a => Int32.ofInt (w 2 a)))), (q3, .inl (c3, 272, .inl (fun a => Int32.ofInt (w 3 a))))] := hD
  refine lv_aload_n hx hb tb_i38 rfl (lv_at hl 0 rfl) ?_
  refine lv_bipush (v := 34) hx hb tb_i39 (by decide) ?_
  refine va_newa (atype := .int) (ty := .int) (a0 := (34, .inl (fun a => Int32.ofInt (w 4 a)))) hx hb (hg _ tb_im4) rfl hK hP hD hS hA (fun cA => by show arrV cA 34 (fun j => .int (Int32.ofInt (w 4 j))) = _; rw [hw 4 (by decide)]; rfl) (by decide) (by decide) (by decide) (by show 4 + 1 ≤ 5; decide) (by show 560 + 34 ≤ 594; decide) tb_i41 (fun q4 c4 H hK hP hD hS => ?_)
  have hP : va_P D cl [(h0, .inr (ci, [.ref q0, .ref q1, .ref q2, .ref q3, .null, .int 0])), (q0, .inl (c0, 272, .inl (fun a => Int32.ofInt (w 0 a)))), (q1, .inl (c1, 8, .inl (fun a => Int32.ofInt (w 1 a)))), (q2, .inl (c2, 8, .inl (fun a => Int32.ofInt (w 2 a)))), (q3, .inl (c3, 272, .inl (fun a => Int32.ofInt (w 3 a)))), (q4, .inl (c4, 34, .inl (fun a => Int32.ofInt (w 4 a))))] H := hP
  have hD : va_D (tc_A h0 s.heap.size) [(h0, .inr (ci, [.ref q0, .ref q1, .ref q2, .ref q3, .null, .int 0])), (q0, .inl (c0, 272, .inl (fun a => Int32.ofInt (w 0 a)))), (q1, .inl (c1, 8, .inl (fun a => Int32.ofInt (w 1 a)))), (q2, .inl (c2, 8, .inl (fun a => Int32.ofInt (w 2 a)))), (q3, .inl (c3, 272, .inl (fun a => Int32.ofInt (w 3 a)))), (q4, .inl (c4, 34, .inl (fun a => Int32.ofInt (w 4 a))))] := hD
  refine W.widen (k := 5) (n := 594) (by omega) (by omega) ?_
  refine va_putF (D := D) (ci := ci) (v := .ref q4) (ty := .array .int) (C := "TieredLocksModel") (T := tb_T) (N := 6) hx hb hts hsub tb_ty f9a f9b hown hK hP hD hS 0 rfl hc 4 (by decide) (hg _ ((f7 22 4 rfl).1 (by decide)).2) (fun _ h9 => h9) rfl hin rfl (by decide +kernel) rfl rfl (Nat.le_of_ble_eq_true rfl) tb_i43 (fun H locs hP hD hS => ?_)
  have hP : va_P D cl [(h0, .inr (ci, [.ref q0, .ref q1, .ref q2, .ref q3, .ref q4, .int 0])), (q0, .inl (c0, 272, .inl (fun a => Int32.ofInt (w 0 a)))), (q1, .inl (c1, 8, .inl (fun a => Int32.ofInt (w 1 a)))), (q2, .inl (c2, 8, .inl (fun a => Int32.ofInt (w 2 a)))), (q3, .inl (c3, 272, .inl (fun a => Int32.ofInt (w 3 a)))), (q4, .inl (c4, 34, .inl (fun a => Int32.ofInt (w 4 a))))] H := hP
  have hD : va_D (tc_A h0 s.heap.size) [(h0, .inr (ci, [.ref q0, .ref q1, .ref q2, .ref q3, .ref q4, .int 0])), (q0, .inl (c0, 272, .inl (fun a => Int32.ofInt (w 0 a)))), (q1, .inl (c1, 8, .inl (fun a => Int32.ofInt (w 1 a)))), (q2, .inl (c2, 8, .inl (fun a => Int32.ofInt (w 2 a)))), (q3, .inl (c3, 272, .inl (fun a => Int32.ofInt (w 3 a)))), (q4, .inl (c4, 34, .inl (fun a => Int32.ofInt (w 4 a))))] := hD
  have e5 : tl_ce tb_P 6 ci [0, 1, 2, 3, 4] h0 (tc_ad [q0, q1, q2, q3, q4] t9) (fun k => [c0, c1, c2, c3, c4].getD k 0) w = [(h0, .inr (ci, [.ref q0, .ref q1, .ref q2, .ref q3, .ref q4, .int 0])), (q0, .inl (c0, 272, .inl (fun a => Int32.ofInt (w 0 a)))), (q1, .inl (c1, 8, .inl (fun a => Int32.ofInt (w 1 a)))), (q2, .inl (c2, 8, .inl (fun a => Int32.ofInt (w 2 a)))), (q3, .inl (c3, 272, .inl (fun a => Int32.ofInt (w 3 a)))), (q4, .inl (c4, 34, .inl (fun a => Int32.ofInt (w 4 a))))] := by
    have e6 : tl_fs 6 [0, 1, 2, 3, 4] (tc_ad [q0, q1, q2, q3, q4] t9) w = [.ref q0, .ref q1, .ref q2, .ref q3, .ref q4, .int 0] := by
      show [Value.ref q0, Value.ref q1, Value.ref q2, Value.ref q3, Value.ref q4, Value.int (Int32.ofInt (w 5 0))] = _
      rw [hw 5 (by decide)]; rfl
    unfold tl_ce
    rw [e6]; rfl
  rw [← e5] at hP hD
  exact W.vret hx hb hr (fun t ht hW => ⟨⟨tc_ad [q0, q1, q2, q3, q4] t9, fun k => [c0, c1, c2, c3, c4].getD k 0, rfl, rfl, tc_ks hD, by rw [ht]; exact hP, va_K.moved hW.alike hK, hD.weaken (fun _ _ _ _ => trivial)⟩, hS.F ht⟩) hS.2.2 tb_i46
