/-! 27.thrown: contracts of the class's methods that may throw -/
def tx_n (k : Nat) : String := bif Nat.beq k 1 then "java/lang/IllegalArgumentException" else bif Nat.beq k 2 then "java/lang/IllegalStateException" else "java/lang/UnsupportedOperationException"
def tx_ic (k : Nat) : Nat := bif Nat.beq k 1 then 35 else bif Nat.beq k 2 then 38 else 45
def tx_ik (k : Nat) : Nat := bif Nat.beq k 1 then 33 else bif Nat.beq k 2 then 36 else 43
def tx_at (k : Nat) : List Cond := vx_at0 "TieredLocks" (tx_ic k) (tx_n k) ["java/lang/RuntimeException", "java/lang/Exception"]
def tx_w : List Cond := [.declares ⟨"java/lang/RuntimeException", "<init>", "()V"⟩, .declares ⟨"java/lang/Exception", "<init>", "()V"⟩, .declares ⟨"java/lang/Throwable", "<init>", "()V"⟩, .castable (tx_n 1) (tx_n 1), .castable (tx_n 2) (tx_n 2), .castable (tx_n 3) (tx_n 3)]
/-- what a throw asks of the state beside the words of the tables -/
def tx_U (A : Nat → Prop) (U : State) : Prop := (∀ w ∈ tx_w, ∀ a, w.before a U = true) ∧ vx_Zq Bundle.tN "UNASSIGNED_STACK" Bundle.steD A U U.heap ∧ vx_Zq Bundle.tN "SUPPRESSED_SENTINEL" Bundle.listD A U U.heap
theorem tx_face : ∀ w ∈ tx_w, w.faceAtom = true ∧ w.onTables = true := by decide +kernel
theorem tx_wm {s U : State} (hvm : s.vm.Alike U.vm) (h : ∀ w ∈ tx_w, ∀ a, w.before a s = true) : ∀ w ∈ tx_w, ∀ a, w.before a U = true := by
  intro w hw a
  obtain ⟨h1, h2⟩ := tx_face w hw
  exact va_tabs (u := s.setVm U.vm) (A := a) h2 rfl (Cond.faceAtom_setVm hvm w h1 (h w hw a))
theorem tx_U.use {s U : State} {H : Heap} {A B : Nat → Prop} (h : tx_U A s) (hvm : s.vm.Alike U.vm) (hU : U.heap = H) (hH : ∀ q : Nat, q < s.heap.size → ¬ A q → H[q]? = s.heap[q]?) (hBA : ∀ q, B q → A q) : tx_U B U := by
  obtain ⟨h0, h1, h2⟩ := h
  refine ⟨tx_wm hvm h0, ?_⟩
  rw [hU]
  exact ⟨((h1.kept hH).moved hvm).narrow hBA, ((h2.kept hH).moved hvm).narrow hBA⟩
theorem tx_in {args : Array Value} {s : State} (hts : ∀ w ∈ lw_gt, w.before args s = true) {ws : List Cond} (ps : List Nat) (hp : ws = ps.filterMap (fun i => lw_tbl[i]?)) (h : ws.all goodWord = true) : ∀ w ∈ ws, w.before args s = true := by
  intro w hw
  refine hts w (List.mem_filter.mpr ⟨?_, List.all_eq_true.mp h w hw⟩)
  rw [hp] at hw
  obtain ⟨i, -, hi⟩ := List.mem_filterMap.mp hw
  exact List.mem_of_getElem? hi
theorem tx_e1 : (tx_at 1).filter goodWord = [37, 184, 193, 197, 200, 202, 185, 186, 50, 51, 187, 192, 198, 214, 174, 215, 176, 216, 178, 188, 190, 180, 204, 205, 206, 207, 207, 208, 209, 210, 210, 211, 212, 185, 203, 163, 171, 172, 173, 175, 177, 179, 183, 182, 181].filterMap (fun i => lw_tbl[i]?) := by decide +kernel
theorem tx_e2 : (tx_at 2).filter goodWord = [37, 184, 193, 197, 200, 202, 185, 186, 50, 51, 187, 192, 198, 214, 174, 215, 176, 216, 178, 188, 190, 180, 235, 236, 237, 207, 207, 208, 209, 210, 210, 211, 212, 185, 234, 226, 228, 195, 229, 230, 231, 232, 183, 182, 233].filterMap (fun i => lw_tbl[i]?) := by decide +kernel
theorem tx_e3 : (tx_at 3).filter goodWord = [37, 184, 193, 197, 200, 202, 185, 186, 50, 51, 187, 192, 198, 214, 174, 215, 176, 216, 178, 188, 190, 180, 266, 267, 268, 207, 207, 208, 209, 210, 210, 211, 212, 185, 265, 257, 259, 196, 260, 261, 262, 263, 183, 182, 264].filterMap (fun i => lw_tbl[i]?) := by decide +kernel
theorem tx_g (k : Nat) : ((tx_at k).filter goodWord).all goodWord = true := List.all_eq_true.mpr (fun w hw => (List.mem_filter.mp hw).2)
theorem tx_b1 : ∀ w ∈ (tx_at 1).filter (fun w => !goodWord w), w ∈ tx_w := by decide +kernel
theorem tx_b2 : ∀ w ∈ (tx_at 2).filter (fun w => !goodWord w), w ∈ tx_w := by decide +kernel
theorem tx_b3 : ∀ w ∈ (tx_at 3).filter (fun w => !goodWord w), w ∈ tx_w := by decide +kernel
theorem tx_o1 : ∀ w ∈ Cond.classLink "TieredLocks" (tx_ik 1) (tx_n 1) :: Cond.initialized (tx_n 1) :: tx_at 1, vx_ot w = true := by decide +kernel
theorem tx_o2 : ∀ w ∈ Cond.classLink "TieredLocks" (tx_ik 2) (tx_n 2) :: Cond.initialized (tx_n 2) :: tx_at 2, vx_ot w = true := by decide +kernel
theorem tx_o3 : ∀ w ∈ Cond.classLink "TieredLocks" (tx_ik 3) (tx_n 3) :: Cond.initialized (tx_n 3) :: tx_at 3, vx_ot w = true := by decide +kernel
theorem tx_k1 : Cond.classLink "TieredLocks" (tx_ik 1) (tx_n 1) ∈ lw_gt ∧ Cond.initialized (tx_n 1) ∈ lw_gt := ⟨List.mem_filter.mpr ⟨List.mem_of_getElem? (i := 162) rfl, rfl⟩, List.mem_filter.mpr ⟨List.mem_of_getElem? (i := 40) rfl, rfl⟩⟩
theorem tx_k2 : Cond.classLink "TieredLocks" (tx_ik 2) (tx_n 2) ∈ lw_gt ∧ Cond.initialized (tx_n 2) ∈ lw_gt := ⟨List.mem_filter.mpr ⟨List.mem_of_getElem? (i := 225) rfl, rfl⟩, List.mem_filter.mpr ⟨List.mem_of_getElem? (i := 41) rfl, rfl⟩⟩
theorem tx_k3 : Cond.classLink "TieredLocks" (tx_ik 3) (tx_n 3) ∈ lw_gt ∧ Cond.initialized (tx_n 3) ∈ lw_gt := ⟨List.mem_filter.mpr ⟨List.mem_of_getElem? (i := 256) rfl, rfl⟩, List.mem_filter.mpr ⟨List.mem_of_getElem? (i := 43) rfl, rfl⟩⟩
/-- all words of a throw of the kind k -/
theorem tx_all {args : Array Value} {s : State} {A : Nat → Prop} (hts : ∀ w ∈ lw_gt, w.before args s = true) (hU : tx_U A s) {ix k : Nat} (h : ta_P.2.2.2.2 ix = some k) :
    (ix = tx_ik k ∧ (k = 1 ∨ k = 2 ∨ k = 3) ∧ Bundle.fit (tx_n k) = true) ∧ (Cond.classLink "TieredLocks" ix (tx_n k)).before args s = true ∧ (Cond.initialized (tx_n k)).before args s = true ∧ (∀ w ∈ tx_at k, w.before args s = true) ∧
      (∀ w ∈ Cond.classLink "TieredLocks" ix (tx_n k) :: Cond.initialized (tx_n k) :: tx_at k, vx_ot w = true) := by
  have hm : (ix, k) ∈ [(33, 1), (36, 2), (43, 3)] := tl_lk_mem _ _ _ h
  have hB : ∀ w ∈ tx_w, w.before args s = true := fun w hw => hU.1 w hw args
  rcases List.mem_cons.mp hm with e | hm
  · cases e
    exact ⟨⟨rfl, Or.inl rfl, by decide +kernel⟩, hts _ tx_k1.1, hts _ tx_k1.2, vx_hat (tx_in hts _ tx_e1 (tx_g 1)) tx_b1 hB, tx_o1⟩
  · rcases List.mem_cons.mp hm with e | hm
    · cases e
      exact ⟨⟨rfl, Or.inr (Or.inl rfl), by decide +kernel⟩, hts _ tx_k2.1, hts _ tx_k2.2, vx_hat (tx_in hts _ tx_e2 (tx_g 2)) tx_b2 hB, tx_o2⟩
    · cases List.mem_singleton.mp hm
      exact ⟨⟨rfl, Or.inr (Or.inr rfl), by decide +kernel⟩, hts _ tx_k3.1, hts _ tx_k3.2, vx_hat (tx_in hts _ tx_e3 (tx_g 3)) tx_b3 hB, tx_o3⟩
/-- at every 'new' of a method: dup, the constructor, athrow -/
def tx_th (j : Nat) : Prop := ∀ q ∈ (ta_P.1 j).1, ∀ k, q.2 = .new (tx_ik k) → (k = 1 ∨ k = 2 ∨ k = 3) → decode (ta_bs j) (q.1 + 3) = .ok (.dup, 1) ∧ decode (ta_bs j) (q.1 + 4) = .ok (.invokespecial (tx_ic k), 3) ∧ decode (ta_bs j) (q.1 + 7) = .ok (.athrow, 1)
def tx_thb (j : Nat) : Bool := (ta_P.1 j).1.all fun q => [1, 2, 3].all fun k => !decide (q.2 = .new (tx_ik k)) || (decide (decode (ta_bs j) (q.1 + 3) = .ok (.dup, 1)) && decide (decode (ta_bs j) (q.1 + 4) = .ok (.invokespecial (tx_ic k), 3)) && decide (decode (ta_bs j) (q.1 + 7) = .ok (.athrow, 1)))
theorem tx_thof {j : Nat} (h : tx_thb j = true) : tx_th j := by
  intro q hq k e hk
  have h1 := List.all_eq_true.mp (List.all_eq_true.mp h q hq) k (by rcases hk with rfl | rfl | rfl <;> simp)
  simp only [e, decide_true, Bool.not_true, Bool.false_or, Bool.and_eq_true, decide_eq_true_eq] at h1
  exact ⟨h1.1.1, h1.1.2, h1.2⟩
theorem tx_th2 : tx_th 2 := tx_thof (by decide +kernel)
theorem tx_th3 : tx_th 3 := tx_thof (by decide +kernel)
theorem tx_th4 : tx_th 4 := tx_thof (by decide +kernel)
theorem tx_th5 : tx_th 5 := tx_thof (by decide +kernel)
def tx_rm (d : Nat) : Room := { frames := d, cells := 1, slots := 6, locals := 40 * d }
section TXW
variable {l : Launch} {ci : Nat} {D : va_G} {cl : List vw_C} {o : Nat} {ad : Nat → Nat} {cA : Nat → ClassId}
def tx_Pc (ci : Nat) (D : va_G) (cl : List vw_C) (o : Nat) (ad : Nat → Nat) (cA : Nat → ClassId) (as : List tl_V) (w : tl_W) (sz : Nat) : Array Value → State → Prop :=
  va_Pc (as.map (tl_val o ad)) (fun U => U.heap.size = sz ∧ tl_B ta_P 4 ci [0, 1, 2, 3] D cl o ad cA w U ∧ tl_G true "TieredLocks" "TOGETHER" 6 ad w (tl_A o [0, 1, 2, 3] ad sz) U U.heap ∧ tx_U (tl_A o [0, 1, 2, 3] ad sz) U)
def tx_X (ci : Nat) (D : va_G) (cl : List vw_C) (o : Nat) (ad : Nat → Nat) (cA : Nat → ClassId) (w : tl_W) (Q : tl_Q) (sz : Nat) : String → State → State → Prop :=
  vx_X (fun u : Nat × tl_W => Q (.inr u.1) u.2 ∧ u.2 99 = w 99 ∧ (u.1 = 1 ∨ u.1 = 2 ∨ u.1 = 3) ∧ ∀ a b, tl_ir (u.2 a b)) (fun E u t => E = tx_n u.1 ∧ tl_B ta_P 4 ci [0, 1, 2, 3] D cl o ad cA u.2 t) (tl_A o [0, 1, 2, 3] ad sz)
theorem tx_blind {as : List tl_V} {w : tl_W} {sz : Nat} : FrameBlind (tx_Pc ci D cl o ad cA as w sz) := by
  intro a U g mk q
  obtain ⟨q0, q1, ⟨qP, qK, qD⟩, qG, q2⟩ := q
  refine ⟨q0, q1, ⟨qP, va_K.moved (u := U) (U := U.calling g mk a) (Vm.Alike.refl U.vm) qK, qD⟩, fun hs => ?_, ?_⟩
  · obtain ⟨g1, g2⟩ := qG hs
    exact ⟨va_Z.moved (u := U) (U := U.calling g mk a) (Vm.Alike.refl U.vm) g1, va_T.moved (u := U) (U := U.calling g mk a) (Vm.Alike.refl U.vm) g2⟩
  · exact tx_U.use (H := U.heap) q2 (U := U.calling g mk a) (Vm.Alike.refl U.vm) rfl (fun _ _ _ => rfl) (fun _ h => h)
set_option maxHeartbeats 4000000 in
set_option maxRecDepth 100000 in
theorem tx_sound (hl : l.stackTraces = false) (hc : cl[ci]? = some ("TieredLocks", ta_T, 4)) {d j : Nat} {as : List tl_V} {w : tl_W} {Q : tl_Q} {sz : Nat} (hd : 5 ≤ d) (hj : j < 50) (hth : tx_th j) (has : as.length ≤ (ta_P.1 j).2.1) (hasr : ∀ v ∈ as, tl_vr v) (hwr : ∀ a b, tl_ir (w a b)) (h : tl_C ta_P (d + 1) j as w Q) :
    vx_Met l (ta_nm j) (tl_ws ta_P ta_nm ta_bs lw_gt j) (tx_rm (d + 1)) (tx_Pc ci D cl o ad cA as w sz) (tl_Qc ta_P 4 ci [0, 1, 2, 3] D cl o ad cA w Q sz) (tx_X ci D cl o ad cA w Q sz) 1 6 (tl_A o [0, 1, 2, 3] ad sz) := by
  have F := ta_face
  refine vx_ofW (cc := ta_bs j) (maxL := (ta_P.1 j).2.1) (ret := (ta_P.1 j).2.2) (by rw [(F.2.1 j hj).1]; exact F.2.2.2.1.1) rfl ?_
  intro p e s m args below meth c s₁ B hml hex hv
  obtain ⟨rfl, hsz, ⟨hP, hK, hD⟩, hG, hU⟩ := hv
  subst hsz
  obtain ⟨n, hn⟩ := h
  have hts := atoms_spec (ws := tl_ws ta_P ta_nm ta_bs lw_gt j) B.pre
  have hown : s.vm.findClass "TieredLocks" = some m.cls := by rw [← (F.2.1 j hj).1]; exact findClass_of_methodNamed B.named
  have hl0 := lv_entry (as.map (tl_val o ad)) (n := (ta_P.1 j).2.1) (by rw [tl_sl]; exact has)
  rw [lg_entry_eq]
  generalize (lg_sl (as.map (tl_val o ad)) ++ List.replicate ((ta_P.1 j).2.1 - (lg_sl (as.map (tl_val o ad))).length) Slot.unset).toArray = ls at hl0 ⊢
  rw [tl_args] at hl0
  refine tl_walk F (R := tx_rm (d + 1)) (d := d) ⟨rfl, rfl⟩ B.exec B.bytes hml hown hts hj hc hK hG (tl_sound F hc d) ?_ ?_ n 0 (tl_en 0 as) [] w s.heap [] ls hn hl0 hP (tl_D hD) va_S.rf rfl (tl_en_r hasr 0) (fun v hv => by cases hv) hwr
  · intro r w' H locs pc ls' hq hP' hD' hS' h9 hwr' hr1 hr
    refine vx_ret (W.widen (Nat.zero_le _) (Nat.zero_le _) (k := 1) (n := 6) ?_)
    cases r with
    | none => exact W.vret B.exec B.bytes (B.returns.trans hr.2) (fun t ht hW => ⟨⟨none, w', rfl, hq, ⟨by rw [ht]; exact hP', va_K.moved hW.alike hK, hD'.weaken (fun _ _ _ _ => trivial)⟩, h9, hr1, hwr'⟩, hS'.F ht⟩) hS'.2.2 hr.1 B.notSynchronized
    | some x =>
      obtain ⟨h1, ty, h2, h3⟩ := hr
      exact W.zret B.exec B.bytes (B.returns.trans h2) (tl_nar h3) (fun t ht hW => ⟨⟨some x, w', rfl, hq, ⟨by rw [ht]; exact hP', va_K.moved hW.alike hK, hD'.weaken (fun _ _ _ _ => trivial)⟩, h9, hr1, hwr'⟩, hS'.F ht⟩) hS'.2.2 h1 B.notSynchronized
  · intro k w' H locs pc ix ls' hq hP' hD' hS' h9 hwr' hls hix hat hdg
    obtain ⟨⟨rfl, hk, hfit⟩, h1, h2, h3, h4⟩ := tx_all (fun w hw => hts w (List.mem_cons_of_mem _ hw)) hU hix
    obtain ⟨d3, d4, d7⟩ := hth _ (tl_at_mem _ _ _ hat) k rfl hk
    refine vx_throw0 B.exec B.bytes hl (own := "TieredLocks") (cls := tx_n k) (names := ["java/lang/RuntimeException", "java/lang/Exception"]) (ik := tx_ik k) (ic := tx_ic k) (A := tl_A o [0, 1, 2, 3] ad s.heap.size) hown hfit (by decide +kernel) h1 h2 h3 h4 hU.2.1 hU.2.2 hS' (hls.trans hml.symm) hdg d3 d4 d7
      (fun x hx => (hex x hx).elim) (by show 5 < d + 1; omega) (by show 0 + (13 * (2 + 1) + 42) ≤ 40 * (d + 1); omega) (Nat.le_refl 1) (Nat.le_refl 6) B.notSynchronized ?_ hS'.2.2 (Nat.le_refl _) (Nat.le_refl _)
    intro t hvm hz hq'
    refine ⟨(k, w'), ⟨hq, h9, hk, hwr'⟩, ⟨rfl, ?_, va_K.moved hvm hK, hD'.weaken (fun _ _ _ _ => trivial)⟩, Nat.le_trans hS'.1 hz, fun q h1 h2 => ?_⟩
    · exact va_P.kept hP' (fun i q hi => hq' q.1 (hP' i q hi).lt)
    · rw [hq' q (Nat.lt_of_lt_of_le h1 hS'.1)]
      exact hS'.2.1 q h1 h2
end TXW
