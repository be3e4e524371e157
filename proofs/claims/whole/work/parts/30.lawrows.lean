/-! 30.lawrows: calls at the law -/
/-! THE CLAIM OUT OF ONE WALK OF THE LAW'S BODY. Your part is whole_start (and what it stands on); all else here is the same for every law, but numbers. -/
def R_law : String := "TieredLocksLaw"
def lw_P (b : Addr) (xs : List Int32) (args : Array Value) (s : State) : Prop := args = #[.ref b] ∧ s.IntsAt b xs ∧ xs.length ≤ 2048 ∧ (Jvm.Cond.and given_1 narrow_1).before args s = true
def lw_Q (_ : Array Value) (s : State) (o : Outcome) (t : State) : Prop := o = .returned (some (.int 1)) ∧ Framed s o t [] 1046 9153
def lw_Z (below : List Frame) (a : Array Value) (s : State) : State → Prop := fun t => ∃ o, t.status = .running ∧ Ended t below o ∧ lw_Q a s o t
/-- the law's own end, with 1 on the stack, nothing written that was there before, its room as the claim has it -/
theorem lw_ret {p : Program} {l : Launch} {e : Env} {s : State} {m : MethodId} {below : List Frame} {meth : Method} {c : Code} {b : Nat} (hx : p.tables.exec = Jvm.exec) (hb : c.code = code) (hr : meth.sig.returnType = ret) (hlocks : meth.locks = false) {pc : Nat} {H : Heap} {ls : Array Slot} (hdg : decode code pc = .ok (.ireturn, 1)) : W p l e room_1 s m #[Value.ref b] below meth c H [] 1046 9153 (lw_Z below #[Value.ref b] s) (F0 m pc ls [.int 1]) := by
  intro T hT X
  obtain ⟨fs, hret, hrun, hended, hW, hframe⟩ := X.leave (v := some (.int 1)) (hlocks := hlocks) (fun h => by rw [hr] at h; cases h)
  have hmeth' : T.vm.method? m = some meth := X.method'
  refine ⟨T.setFrames fs, ?_, .returned (some (.int 1)), hrun, hended, rfl, ⟨_, rfl⟩, hW, hframe⟩
  jvm_step X.here [X.here.top, hx, hb, hdg, hmeth', hr, ret, narrow_b1]
  (try refine ⟨rfl, ?_⟩); (try refine ⟨rfl, ?_⟩)
  first | (intro acts; rw [hret _ acts rfl rfl rfl]) | rw [hret _ _ rfl rfl rfl]
  exact Steps.refl _
/-- what holds at the law's entry: the machine, the code, the tables' words (any of lw_tbl by 'hts w (by decide +kernel)'), the script of L ints xs at the cell b, what the Statement gives of the start (any of its parts by flat_of_before) -/
def lw_At (p : Program) (s : State) (m : MethodId) (meth : Method) (c : Code) (b L : Nat) (xs : Nat → Int32) : Prop :=
  p.tables.exec = Jvm.exec ∧ c.code = code ∧ meth.sig.returnType = ret ∧ c.maxLocals = 7 ∧ s.vm.findClass R_law = some m.cls ∧ (∀ w ∈ lw_tbl, w.before #[Value.ref b] s = true) ∧ va_X b L xs s s.heap ∧ b < s.heap.size ∧ meth.locks = false ∧ (Jvm.Cond.and given_1 narrow_1).before #[Value.ref b] s = true
def lb_cl : List vw_C := [("TieredLocks", ta_T, 4), ("TieredLocksModel", tb_T, 6)]
def lb_X (ox : Nat) (adx : Nat → Nat) : Nat → Prop := fun q => q = ox ∨ ∃ k, k ∈ [0, 1, 2, 3] ∧ q = adx k
def lb_M (om : Nat) (adm : Nat → Nat) : Nat → Prop := fun q => q = om ∨ ∃ k, k ∈ [0, 1, 2, 3, 4] ∧ q = adm k
def lb_N (s : State) : Nat → Prop := fun q => s.heap.size ≤ q
/-- the law's world: the class's object stands for σ, the reference's for σ', its field thrown is th, the long is z -/
def lb_H (D : va_G) (ox : Nat) (adx : Nat → Nat) (cAx : Nat → ClassId) (om : Nat) (adm : Nat → Nat) (cAm : Nat → ClassId) (ao : Nat) (cO : ClassId) (s : State) (σ σ' : tm_S) (th : Int) (z : Int64) (H : Heap) (locs : List Loc) : Prop :=
  ∃ (w v : tl_W) (f : Nat → Int64), (va_P D lb_cl (tl_ce ta_P 4 0 [0, 1, 2, 3] ox adx cAx w) H ∧ va_D (fun _ => True) (tl_ce ta_P 4 0 [0, 1, 2, 3] ox adx cAx w)) ∧ (va_P D lb_cl (tl_ce tb_P 6 1 [0, 1, 2, 3, 4] om adm cAm v) H ∧ va_D (fun _ => True) (tl_ce tb_P 6 1 [0, 1, 2, 3, 4] om adm cAm v)) ∧ tw_O D lb_cl ao cO f H ∧ va_S (lb_N s) s.heap H locs ∧ ((∀ a b, tl_ir (w a b)) ∧ ∀ a b, tl_ir (v a b)) ∧ (tm_RC w σ ∧ tm_RM v σ') ∧ v 5 0 = th ∧ f 0 = z
/-- what stays throughout the law -/
def lb_K (p : Program) (s : State) (m : MethodId) (meth : Method) (c : Code) (b L : Nat) (xs : Nat → Int32) (D : va_G) (ox : Nat) (adx : Nat → Nat) (cAx : Nat → ClassId) (om : Nat) (adm : Nat → Nat) (cAm : Nat → ClassId) (ao : Nat) (cO : ClassId) : Prop :=
  lw_At p s m meth c b L xs ∧ L ≤ 2048 ∧ (va_K D lb_cl ([0, 1, 2, 3].map fun k => (cAx k, FieldType.int)) s ∧ va_K D lb_cl ([0, 1, 2, 3, 4].map fun k => (cAm k, FieldType.int)) s ∧ va_K D lb_cl [(cO, .long)] s) ∧
  ((∀ w : tl_W, (∀ j, j < 6 → w 99 j = (tm_tb j : Int)) → tl_G true "TieredLocks" "TOGETHER" 6 adx w (lb_N s) s s.heap) ∧ tw_U (lb_N s) s) ∧
  (∀ q, lb_X ox adx q → s.heap.size ≤ q ∧ ¬ lb_M om adm q ∧ q ≠ ao) ∧ (∀ q, lb_M om adm q → s.heap.size ≤ q ∧ q ≠ ao) ∧ s.heap.size ≤ ao
theorem lb_gd {w : Cond} (h : w ∈ lw_gt) : w ∈ lw_tbl := (List.mem_filter.mp h).1
theorem lb_goodIn {P : tl_P} {nm : Nat → MethodName} {bs : Nat → ByteArray} {j : Nat} (h : Cond.code (nm j) (bs j) (P.1 j).2.1 (P.1 j).2.2 ∈ lw_gt) : GoodIn lw_tbl (tl_ws P nm bs lw_gt j) := by
  intro w hw
  rcases List.mem_cons.mp hw with rfl | hw
  · exact ⟨lb_gd h, lw_gt_good _ h⟩
  · exact ⟨lb_gd hw, lw_gt_good _ hw⟩
theorem lb_mem {P : tl_P} {N ci : Nat} {ks : List Nat} {o : Nat} {ad : Nat → Nat} {cA : Nat → ClassId} {w : tl_W} {i : Nat} {q : Nat × va_E} (hi : (tl_ce P N ci ks o ad cA w)[i]? = some q) : q.1 = o ∨ ∃ k, k ∈ ks ∧ q.1 = ad k := by
  have hq := List.mem_of_getElem? hi
  unfold tl_ce at hq
  rcases List.mem_cons.mp hq with rfl | hq
  · exact Or.inl rfl
  · obtain ⟨k, hk, rfl⟩ := List.mem_map.mp hq
    exact Or.inr ⟨k, hk, rfl⟩
section LBR
variable {p : Program} {l : Launch} {e : Env} {s : State} {m : MethodId} {below : List Frame} {meth : Method} {c : Code} {H : Heap} {locs : List Loc} {cells slots : Nat} {QQ : State → Prop} {b L : Nat} {xs : Nat → Int32}
variable {D : va_G} {ox : Nat} {adx : Nat → Nat} {cAx : Nat → ClassId} {om : Nat} {adm : Nat → Nat} {cAm : Nat → ClassId} {ao : Nat} {cO : ClassId}
section LBG
variable {P : tl_P} {N ci : Nat} {ks : List Nat} {sf : Bool} {n9 : Nat} {cn fn : String} {cl : List vw_C} {o : Nat} {ad : Nat → Nat} {cA : Nat → ClassId} {T : u_T} {ty0 : Nat → FieldType} {nM : Nat} {nm : Nat → MethodName} {bs : Nat → ByteArray} {sta : Nat → Bool}
theorem lb_callk {R : Room} {args : Array Value} {pc : Nat} {ls : Array Slot} {st0 rest : List Value} {a : Array Value} {w : tl_W} {Q : tl_Q} {sz : Nat} {A0 : Nat → Prop} {H0 : Heap}
    (hr : va_Run p l e R s m args below meth c H locs cells slots 0 0 (F0 m pc ls st0) rest (tl_Qc P N ci ks D cl o ad cA w Q sz a) (tl_A o ks ad sz)) (hS : va_S A0 H0 H locs) (hA : ∀ q, tl_A o ks ad sz q → A0 q)
    (kk : ∀ (r : Option Int) (w' : tl_W) (t : State) (H1 : Heap) (locs1 : List Loc), t.heap = H1 → Q (.inl r) w' → tl_B P N ci ks D cl o ad cA w' t → (∀ a b, tl_ir (w' a b)) → (∀ q : Nat, q < H.size → ¬ tl_A o ks ad sz q → H1[q]? = H[q]?) → va_S A0 H0 H1 locs1 → W p l e R s m args below meth c H1 locs1 cells slots QQ (F0 m (pc + 3) ls ((r.map (fun x => Value.int (Int32.ofInt x))).toList ++ rest))) :
    W p l e R s m args below meth c H locs cells slots QQ (F0 m pc ls st0) := by
  intro T hT X
  obtain ⟨v, st₀, t, T', L, h0, X', hL, e1, e2, ⟨⟨r, w', hv, hq, hb, h9, hr1, hr2⟩, hF⟩, st⟩ := hr T hT X
  cases hv
  obtain ⟨k1, k2, k3⟩ := vx_keep h0 e1 hS (fun q _ h => hA q h) hA hL hF
  obtain ⟨t2, a1, b1⟩ := kk r w' t T'.heap (locs ++ L) e1.symm hq hb hr2 k2 k3 T' rfl X'
  exact ⟨t2, st t2 a1, b1⟩
set_option maxHeartbeats 2000000 in
theorem lb_g (F : tl_face P N ks sf n9 cn fn T ty0 nM nm bs sta lw_gt) (hc : cl[ci]? = some (cn, T, N)) (C0 : lw_At p s m meth c b L xs) {w w' : tl_W} (hK : va_K D cl (ks.map fun k => (cA k, FieldType.int)) s) (hG : tl_G sf cn fn n9 ad w (lb_N s) s s.heap) (hP : va_P D cl (tl_ce P N ci ks o ad cA w) H) (hD : va_D (fun _ => True) (tl_ce P N ci ks o ad cA w)) (hS : va_S (lb_N s) s.heap H locs) (hA : ∀ q, (q = o ∨ ∃ k, k ∈ ks ∧ q = ad k) → s.heap.size ≤ q) (hwr : ∀ a b, tl_ir (w a b))
    {j ix n : Nat} {as : List Int} {r : Option Int} {pc : Nat} {ls : Array Slot} {rest : List Value} (hj : j < nM) (hn : as.length = n) (hml : n + 1 ≤ (P.1 j).2.1) (hw1 : Cond.methodLink "TieredLocksLaw" ix (nm j) ∈ lw_gt) (hw2 : Cond.instanceMethod (nm j) ∈ lw_gt) (hw3 : Cond.selects cn (nm j) (nm j) ∈ lw_gt) (hd : (parseMethodDescriptor (nm j).desc).map (fun d => d.parameters.length) = some n) (hasr : ∀ x ∈ as, tl_ir x)
    (hE : tl_Ev P 8 j (.inr 0 :: as.map .inl) w (.inl r) w') (hls : ls.size = 7) (h8 : (rest.map fun v => v.category).sum ≤ 8) (hdg : decode code pc = .ok (.invokevirtual ix, 3))
    (hfit : cells ≤ 1046 ∧ slots ≤ 9153)
    (kk : ∀ (H1 : Heap) (locs1 : List Loc), va_P D cl (tl_ce P N ci ks o ad cA w') H1 → va_D (fun _ => True) (tl_ce P N ci ks o ad cA w') → (∀ a b, tl_ir (w' a b)) → (∀ q : Nat, q < H.size → ¬ (q = o ∨ ∃ k, k ∈ ks ∧ q = ad k) → H1[q]? = H[q]?) → va_S (lb_N s) s.heap H1 locs1 → W p l e room_1 s m #[Value.ref b] below meth c H1 locs1 cells slots QQ (F0 m (pc + 3) ls ((r.map (fun x => Value.int (Int32.ofInt x))).toList ++ rest))) :
    W p l e room_1 s m #[Value.ref b] below meth c H locs cells slots QQ (F0 m pc ls ((as.map fun x => Value.int (Int32.ofInt x)).reverse ++ .ref o :: rest)) := by
  obtain ⟨f1, f2, f3, ⟨f4, f4a, f4b, f4c, f4d⟩, f5, f6, f7, f8, f9, f9a, f9b⟩ := F
  obtain ⟨hx, hb, hr0, hml7, hown, hts, hX, hbl, hlk, hgv⟩ := C0
  obtain ⟨hcls, hm20, hcw⟩ := f2 j hj
  have hg : ∀ w ∈ lw_gt, w.before #[Value.ref b] s = true := fun w hw => hts w (lb_gd hw)
  have hM := tl_sound (l := l) (D := D) (cl := cl) (o := o) (ad := ad) (cA := cA) ⟨f1, f2, f3, ⟨f4, f4a, f4b, f4c, f4d⟩, f5, f6, f7, f8, f9, f9a, f9b⟩ hc 8 j (.inr 0 :: as.map .inl) w (fun r9 w9 => r9 = .inl r ∧ w9 = w') H.size hj (by rw [List.length_cons, List.length_map, hn]; exact hml) (by
    intro v hv
    rcases List.mem_cons.mp hv with rfl | hv
    · trivial
    · obtain ⟨x, hx9, rfl⟩ := List.mem_map.mp hv
      exact hasr x hx9) hwr (fun k w9 h => by cases h.1) (hE _ ⟨rfl, rfl⟩)
  have hA' : ∀ q, tl_A o ks ad H.size q → lb_N s q := fun q h => h.elim (hA q) (fun z => Nat.le_trans hS.1 z)
  refine lb_callk (rest := rest) (va_runV (Ts := lw_tbl) (C := cn) (b := o) (As := as.map fun x => Value.int (Int32.ofInt x)) ⟨hx, hb, hml7, hown, hts⟩ hM
    ⟨callB_of n hts (lb_goodIn hcw) rfl rfl rfl (by rw [hcls]; exact hg _ f4c) (hg _ hw1) ⟨by rw [hcls]; exact f4a, by rw [hcls]; exact f4b, hd⟩ ⟨Nat.le_of_ble_eq_true rfl, by show 8 + ((P.1 j).2.1 + 11) + 40 * 8 ≤ 374; omega⟩, hg _ hw2, hg _ hw3⟩
    ⟨tl_blind, va_recv hK hP hc (q0 := 0) rfl, fun U hU hW => ⟨by rw [List.map_cons, List.map_map]; rfl, by rw [hU], ⟨by rw [hU]; exact hP, va_K.moved hW.alike hK, hD⟩, tl_G.use hG hW.alike hU hS.2.1 hA' rfl⟩⟩ rfl (by rw [List.length_map]; exact hn) hls rfl (lv_room h8) hdg ⟨hfit.1, hfit.2⟩) hS hA' (fun r9 w9 t H1 locs1 ht hq hB hr2 hkp hS1 => ?_)
  obtain ⟨e1, rfl⟩ := hq
  cases e1
  obtain ⟨hP1, -, hD1⟩ := hB
  rw [ht] at hP1
  exact kk H1 locs1 hP1 hD1 hr2 (fun q h1 h2 => hkp q h1 (fun z => z.elim h2 (fun z => by omega))) hS1
end LBG
/-- a call of the class that throws nothing -/
theorem lb_xq (K : lb_K p s m meth c b L xs D ox adx cAx om adm cAm ao cO) {σ σ' σ1 : tm_S} {th : Int} {z : Int64} (h : lb_H D ox adx cAx om adm cAm ao cO s σ σ' th z H locs)
    {j ix n : Nat} {as : List Int} {r : Option Int} {pc : Nat} {ls : Array Slot} {rest : List Value} (hj : j < 50) (hn : as.length = n) (hml : n + 1 ≤ (ta_P.1 j).2.1) (hw1 : Cond.methodLink "TieredLocksLaw" ix (ta_nm j) ∈ lw_gt) (hw2 : Cond.instanceMethod (ta_nm j) ∈ lw_gt) (hw3 : Cond.selects "TieredLocks" (ta_nm j) (ta_nm j) ∈ lw_gt) (hd : (parseMethodDescriptor (ta_nm j).desc).map (fun d => d.parameters.length) = some n) (hasr : ∀ x ∈ as, tl_ir x)
    (hE : ∀ w, tm_RC w σ → ∃ w', tl_Ev ta_P 8 j (.inr 0 :: as.map .inl) w (.inl r) w' ∧ tm_RC w' σ1) (hls : ls.size = 7) (h8 : (rest.map fun v => v.category).sum ≤ 8) (hdg : decode code pc = .ok (.invokevirtual ix, 3)) (hfit : cells ≤ 1046 ∧ slots ≤ 9153)
    (kk : ∀ (H1 : Heap) (locs1 : List Loc), lb_H D ox adx cAx om adm cAm ao cO s σ1 σ' th z H1 locs1 → W p l e room_1 s m #[Value.ref b] below meth c H1 locs1 cells slots QQ (F0 m (pc + 3) ls ((r.map (fun x => Value.int (Int32.ofInt x))).toList ++ rest))) :
    W p l e room_1 s m #[Value.ref b] below meth c H locs cells slots QQ (F0 m pc ls ((as.map fun x => Value.int (Int32.ofInt x)).reverse ++ .ref ox :: rest)) := by
  obtain ⟨C0, hL, ⟨kx, km, ko⟩, ⟨kG, kU⟩, dX, dM, dO⟩ := K
  obtain ⟨w, v, f, ⟨hP, hD⟩, ⟨hPm, hDm⟩, hO, hS, ⟨r1, r2⟩, ⟨hC, hM⟩, e1, e2⟩ := h
  obtain ⟨w', hEv, hC'⟩ := hE w hC
  refine lb_g ta_face (cl := lb_cl) (ci := 0) rfl C0 kx (kG w hC.2.2.2) hP hD hS (fun q hq => (dX q hq).1) r1 hj hn hml hw1 hw2 hw3 hd hasr hEv hls h8 hdg hfit (fun H1 locs1 hP1 hD1 hr1 hkp hS1 => ?_)
  refine kk H1 locs1 ⟨w', v, f, ⟨hP1, hD1⟩, ⟨va_P.kept hPm (fun i q hi => hkp q.1 (hPm i q hi).lt (fun z => (dX q.1 z).2.1 (lb_mem hi))), hDm⟩, va_P.kept hO (fun i q hi => hkp q.1 (hO i q hi).lt (fun z => ?_)), hS1, ⟨hr1, r2⟩, ⟨hC', hM⟩, e1, e2⟩
  rw [List.mem_singleton.mp (List.mem_of_getElem? hi)] at z
  exact (dX ao z).2.2 rfl
/-- a call of the reference -/
theorem lb_mq (K : lb_K p s m meth c b L xs D ox adx cAx om adm cAm ao cO) {σ σ' σ1 : tm_S} {th th1 : Int} {z : Int64} (h : lb_H D ox adx cAx om adm cAm ao cO s σ σ' th z H locs)
    {j ix n : Nat} {as : List Int} {r : Option Int} {pc : Nat} {ls : Array Slot} {rest : List Value} (hj : j < 30) (hn : as.length = n) (hml : n + 1 ≤ (tb_P.1 j).2.1) (hw1 : Cond.methodLink "TieredLocksLaw" ix (tb_nm j) ∈ lw_gt) (hw2 : Cond.instanceMethod (tb_nm j) ∈ lw_gt) (hw3 : Cond.selects "TieredLocksModel" (tb_nm j) (tb_nm j) ∈ lw_gt) (hd : (parseMethodDescriptor (tb_nm j).desc).map (fun d => d.parameters.length) = some n) (hasr : ∀ x ∈ as, tl_ir x)
    (hE : ∀ v, tm_RM v σ' → v 5 0 = th → ∃ v', tl_Ev tb_P 8 j (.inr 0 :: as.map .inl) v (.inl r) v' ∧ (tm_RM v' σ1 ∧ v' 5 0 = th1)) (hls : ls.size = 7) (h8 : (rest.map fun v => v.category).sum ≤ 8) (hdg : decode code pc = .ok (.invokevirtual ix, 3)) (hfit : cells ≤ 1046 ∧ slots ≤ 9153)
    (kk : ∀ (H1 : Heap) (locs1 : List Loc), lb_H D ox adx cAx om adm cAm ao cO s σ σ1 th1 z H1 locs1 → W p l e room_1 s m #[Value.ref b] below meth c H1 locs1 cells slots QQ (F0 m (pc + 3) ls ((r.map (fun x => Value.int (Int32.ofInt x))).toList ++ rest))) :
    W p l e room_1 s m #[Value.ref b] below meth c H locs cells slots QQ (F0 m pc ls ((as.map fun x => Value.int (Int32.ofInt x)).reverse ++ .ref om :: rest)) := by
  obtain ⟨C0, hL, ⟨kx, km, ko⟩, ⟨kG, kU⟩, dX, dM, dO⟩ := K
  obtain ⟨w, v, f, ⟨hP, hD⟩, ⟨hPm, hDm⟩, hO, hS, ⟨r1, r2⟩, ⟨hC, hM⟩, e1, e2⟩ := h
  obtain ⟨v', hEv, hM', e3⟩ := hE v hM e1
  refine lb_g tb_face (cl := lb_cl) (ci := 1) rfl C0 km (fun h => by cases h) hPm hDm hS (fun q hq => (dM q hq).1) r2 hj hn hml hw1 hw2 hw3 hd hasr hEv hls h8 hdg hfit (fun H1 locs1 hP1 hD1 hr1 hkp hS1 => ?_)
  refine kk H1 locs1 ⟨w, v', f, ⟨va_P.kept hP (fun i q hi => hkp q.1 (hP i q hi).lt (fun z => (dX q.1 (lb_mem hi)).2.1 z)), hD⟩, ⟨hP1, hD1⟩, va_P.kept hO (fun i q hi => hkp q.1 (hO i q hi).lt (fun z => ?_)), hS1, ⟨r1, hr1⟩, ⟨hC, hM'⟩, e3, e2⟩
  rw [List.mem_singleton.mp (List.mem_of_getElem? hi)] at z
  exact (dM ao z).2 rfl
def lb_rw : Room := { frames := 9, cells := 1, slots := 6, locals := 349 }
set_option maxHeartbeats 2000000 in
/-- a call of one of the law's own methods that catch -/
theorem lb_w (K : lb_K p s m meth c b L xs D ox adx cAx om adm cAm ao cO) {σ σ' σ1 : tm_S} {th : Int} {z : Int64} (h : lb_H D ox adx cAx om adm cAm ao cO s σ σ' th z H locs)
    {y : MethodName} {bytes : ByteArray} {ml : Nat} {hh : List (Nat × Nat × Nat × Nat)} {j ix n : Nat} {as : List Value} {ts : List tl_V} {Rr : tl_R} {pc : Nat} {ls : Array Slot} {rest : List Value} (hn : as.length = n) (hml : ml ≤ 6) (hyc : y.cls = "TieredLocksLaw") (hw0 : Cond.codeWith y bytes ml (some .int) hh ∈ lw_gt) (hw1 : Cond.methodLink "TieredLocksLaw" ix y ∈ lw_gt) (hw2 : Cond.static y ∈ lw_gt) (hw3 : Cond.initialized "TieredLocksLaw" ∈ lw_gt) (hd : (parseMethodDescriptor y.desc).map (fun d => d.parameters.length) = some n)
    (hE : ∀ w, tm_RC w σ → ∃ w', tl_Ev ta_P 8 j ts w Rr w' ∧ tm_RC w' σ1)
    (hM : ∀ (w w' : tl_W) (f : Nat → Int64) (sz : Nat), (∀ a b, tl_ir (w a b)) → tl_Ev ta_P 8 j ts w Rr w' → Met l y (Cond.codeWith y bytes ml (some .int) hh :: lw_gt) lb_rw (tw_Pc 0 D lb_cl ox adx cAx ao cO f as w sz) (tw_Qc 0 D lb_cl ox adx cAx ao cO Rr w' sz) 1 6 (tw_A ox adx ao sz))
    (hls : ls.size = 7) (h8 : (rest.map fun v => v.category).sum ≤ 8) (hdg : decode code pc = .ok (.invokestatic ix, 3)) (hfit : cells + 1 ≤ 1046 ∧ slots + 6 ≤ 9153)
    (kk : ∀ (H1 : Heap) (locs1 : List Loc) (z1 : Int64), (∀ x, Rr = .inl (some x) → z1 = (Int32.ofInt x).toInt64) → lb_H D ox adx cAx om adm cAm ao cO s σ1 σ' th z1 H1 locs1 → W p l e room_1 s m #[Value.ref b] below meth c H1 locs1 (cells + 1) (slots + 6) QQ (F0 m (pc + 3) ls (.int (tw_k Rr) :: rest))) :
    W p l e room_1 s m #[Value.ref b] below meth c H locs cells slots QQ (F0 m pc ls (as.reverse ++ rest)) := by
  obtain ⟨⟨hx, hb, hr0, hml7, hown, hts, hX, hbl, hlk, hgv⟩, hL, ⟨kx, km, ko⟩, ⟨kG, kU⟩, dX, dM, dO⟩ := K
  obtain ⟨w, v, f, ⟨hP, hD⟩, ⟨hPm, hDm⟩, hO, hS, ⟨r1, r2⟩, ⟨hC, hRM⟩, e1, e2⟩ := h
  obtain ⟨w', hEv, hC'⟩ := hE w hC
  have hM0 := hM w w' f H.size r1 hEv
  have hA' : ∀ q, tw_A ox adx ao H.size q → lb_N s q := fun q h => h.elim (fun z => z.elim (fun z => (dX q z).1) (fun z => Nat.le_trans hS.1 z)) (fun z => by rw [z]; exact dO)
  have hGI : GoodIn lw_tbl (va_wsS "TieredLocksLaw" ix y (Cond.codeWith y bytes ml (some .int) hh :: lw_gt)) := by
    intro w9 hw9
    have hin : w9 ∈ lw_gt := by
      rcases List.mem_append.mp hw9 with h9 | h9
      · rcases List.mem_cons.mp h9 with rfl | h9
        · exact hw1
        · rcases List.mem_cons.mp h9 with rfl | h9
          · exact hw2
          · rw [List.mem_singleton.mp h9, hyc]; exact hw3
      · rcases List.mem_cons.mp h9 with rfl | h9
        · exact hw0
        · exact h9
    exact ⟨lb_gd hin, lw_gt_good _ hin⟩
  have hr := vx_runSW (l := l) (e := e) (below := below) (meth := meth) (H := H) (locs := locs) (cells := cells) (slots := slots) (R := room_1) (g := F0 m pc ls (as.reverse ++ rest)) (As := as) (rest := rest) (own := "TieredLocksLaw") (index := ix) (Ts := lw_tbl) ⟨hx, hb, hml7, hown, hts⟩ hM0
    (vx_cwSW n hts hGI rfl rfl rfl ⟨by rw [hyc]; decide, by rw [hyc]; decide, hd⟩ ⟨Nat.le_of_ble_eq_true rfl, by show 8 + (ml + 11) + 349 ≤ 374; omega⟩)
    ⟨tw_blind, fun U hU hW => ⟨rfl, by rw [hU], ⟨by rw [hU]; exact hP, va_K.moved hW.alike kx, hD⟩, tl_G.use (kG w hC.2.2.2) hW.alike hU hS.2.1 hA' rfl, tw_U.use kU hW.alike hU hS.2.1 hA', by rw [hU]; exact hO, va_K.moved hW.alike ko⟩⟩ rfl hn hls rfl (lv_room h8) hdg ⟨hfit.1, hfit.2⟩
  intro T hT X
  obtain ⟨v9, st₀, t, T', L9, h0, X', hL9, e3, e4, ⟨⟨hv, hB, hir, f', hf', hO'⟩, hF⟩, st⟩ := hr T hT X
  cases hv
  obtain ⟨k1, k2, k3⟩ := vx_keep h0 e3 hS (fun q _ h => hA' q h) hA' hL9 hF
  obtain ⟨hP1, -, hD1⟩ := hB
  have hPm1 : va_P D lb_cl (tl_ce tb_P 6 1 [0, 1, 2, 3, 4] om adm cAm v) T'.heap := by
    refine va_P.kept hPm (fun i q hi => k2 q.1 (hPm i q hi).lt (fun z => ?_))
    rcases z with (z | z) | z
    · exact (dX q.1 z).2.1 (lb_mem hi)
    · exact absurd (hPm i q hi).lt (by omega)
    · exact (dM q.1 (lb_mem hi)).2 z
  obtain ⟨t2, a1, b1⟩ := kk T'.heap (locs ++ L9) (f' 0) hf' ⟨w', v, f', ⟨by rw [e3]; exact hP1, hD1⟩, ⟨hPm1, hDm⟩, by rw [e3]; exact hO', k3, ⟨hir, r2⟩, ⟨hC', hRM⟩, e1, rfl⟩ T' rfl X'
  exact ⟨t2, st t2 a1, b1⟩
end LBR
