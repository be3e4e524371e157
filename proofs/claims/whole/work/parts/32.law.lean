/-! 32.law: the loop, the beginning, the claim -/
theorem le_d0 : decode code 0 = .ok (.new 8, 3) := by decide +kernel
theorem le_d3 : decode code 3 = .ok (.dup, 1) := by decide +kernel
theorem le_d4 : decode code 4 = .ok (.invokespecial 31, 3) := by decide +kernel
theorem le_d7 : decode code 7 = .ok (.astore_n 1, 1) := by decide +kernel
theorem le_d8 : decode code 8 = .ok (.new 32, 3) := by decide +kernel
theorem le_d11 : decode code 11 = .ok (.dup, 1) := by decide +kernel
theorem le_d12 : decode code 12 = .ok (.invokespecial 34, 3) := by decide +kernel
theorem le_d15 : decode code 15 = .ok (.astore_n 2, 1) := by decide +kernel
theorem le_d16 : decode code 16 = .ok (.iconst 1, 1) := by decide +kernel
theorem le_d17 : decode code 17 = .ok (.newarray .long, 2) := by decide +kernel
theorem le_d19 : decode code 19 = .ok (.astore_n 3, 1) := by decide +kernel
theorem le_d20 : decode code 20 = .ok (.iconst 0, 1) := by decide +kernel
theorem le_d21 : decode code 21 = .ok (.istore 4, 2) := by decide +kernel
theorem le_d23 : decode code 23 = .ok (.iload 4, 2) := by decide +kernel
theorem le_d25 : decode code 25 = .ok (.aload_n 0, 1) := by decide +kernel
theorem le_d26 : decode code 26 = .ok (.arraylength, 1) := by decide +kernel
theorem le_d27 : decode code 27 = .ok (.iconst 4, 1) := by decide +kernel
theorem le_d28 : decode code 28 = .ok (.isub, 1) := by decide +kernel
theorem le_d29 : decode code 29 = .ok (.if_icmp .gt 553, 3) := by decide +kernel
theorem le_d32 : decode code 32 = .ok (.aload_n 0, 1) := by decide +kernel
theorem le_d33 : decode code 33 = .ok (.iload 4, 2) := by decide +kernel
theorem le_d35 : decode code 35 = .ok (.iaload, 1) := by decide +kernel
theorem le_d36 : decode code 36 = .ok (.bipush 15, 2) := by decide +kernel
theorem le_d38 : decode code 38 = .ok (.iand, 1) := by decide +kernel
theorem le_d39 : decode code 39 = .ok (.tableswitch 537 0 11 #[61, 74, 154, 202, 270, 326, 363, 388, 413, 450, 475, 512], 61) := by decide +kernel
theorem le_d576 : decode code 576 = .ok (.iinc 4 4, 3) := by decide +kernel
theorem le_d579 : decode code 579 = .ok (.goto (-556), 3) := by decide +kernel
theorem le_d582 : decode code 582 = .ok (.iconst 1, 1) := by decide +kernel
theorem le_d583 : decode code 583 = .ok (.ireturn, 1) := by decide +kernel
theorem le_len {L i : Nat} (hL : L ≤ 2048) (hi : i ≤ L + 3) (h : ¬ (Int32.ofNat L - 4 < nI i)) : i + 4 ≤ L := by
  have e1 : Int32.ofNat L - 4 = Int32.ofInt ((L : Int) - 4) := by
    rw [Int32.ofInt_sub, tl_nI]; rfl
  have e2 : nI i = Int32.ofInt (i : Int) := (tl_nI i).symm
  rw [e1, e2, tl_ltI ⟨by omega, by omega⟩ ⟨by omega, by omega⟩] at h
  omega
section LEL
variable {p : Program} {l : Launch} {e : Env} {s : State} {m : MethodId} {below : List Frame} {meth : Method} {c : Code} {b L : Nat} {xs : Nat → Int32}
variable {D : va_G} {ox : Nat} {adx : Nat → Nat} {cAx : Nat → ClassId} {om : Nat} {adm : Nat → Nat} {cAm : Nat → ClassId} {ao : Nat} {cO : ClassId}
set_option maxHeartbeats 4000000 in
theorem le_loop (hl9 : l.stackTraces = false) (K : lb_K p s m meth c b L xs D ox adx cAx om adm cAm ao cO) : ∀ (n i cells slots : Nat) (σ : tm_S) (th : Int) (z : Int64) (H : Heap) (locs : List Loc) (ls : Array Slot), L ≤ i + 4 * n + 3 → i ≤ L + 3 → tm_I σ → lb_H D ox adx cAx om adm cAm ao cO s σ σ th z H locs → lv_has ls 7 [(0, .ref b), (1, .ref ox), (2, .ref om), (3, .ref ao), (4, .int (nI i))] → cells + n ≤ 1046 → slots + 6 * n ≤ 9153 →
    W p l e room_1 s m #[Value.ref b] below meth c H locs cells slots (lw_Z below #[Value.ref b] s) (F0 m 23 ls []) := by
  have K0 := K
  obtain ⟨⟨hx, hb, hr0, hml7, hown, hts, hX, hbl, hlk, hgv⟩, hL, -⟩ := K0
  have hNb : ¬ lb_N s b := fun h9 => absurd hbl (Nat.not_lt.mpr h9)
  intro n
  induction n with
  | zero =>
    intro i cells slots σ th z H locs ls hn hi hI h hl hc hs
    have h0 := h
    obtain ⟨w, v, f, -, -, -, hS, -⟩ := h0
    refine lv_iload hx hb le_d23 (lv_at hl 4 rfl) ?_
    refine lv_aload_n hx hb le_d25 rfl (lv_at hl 0 rfl) ?_
    refine va_slen hx hb hX hbl hNb hS le_d26 ?_
    refine lv_iconst (v := 4) hx hb le_d27 (by decide) ?_
    refine lv_isub hx hb le_d28 ?_
    refine lv_icmp_gt hx hb le_d29 (tgt := 582) (by decide) (fun _ => ?_) (fun q => absurd (le_len hL hi q) (by omega))
    refine lv_iconst (v := 1) hx hb le_d582 (by decide) ?_
    exact va_forget (fun q hq => hS.2.2 q hq) (W.widen (k := 1046) (n := 9153) (by omega) (by omega) (lw_ret hx hb hr0 hlk le_d583))
  | succ n ih =>
    intro i cells slots σ th z H locs ls hn hi hI h hl hc hs
    have h0 := h
    obtain ⟨w, v, f, -, -, -, hS, -⟩ := h0
    refine lv_iload hx hb le_d23 (lv_at hl 4 rfl) ?_
    refine lv_aload_n hx hb le_d25 rfl (lv_at hl 0 rfl) ?_
    refine va_slen hx hb hX hbl hNb hS le_d26 ?_
    refine lv_iconst (v := 4) hx hb le_d27 (by decide) ?_
    refine lv_isub hx hb le_d28 ?_
    refine lv_icmp_gt hx hb le_d29 (tgt := 582) (by decide) (fun _ => ?_) (fun q => ?_)
    · refine lv_iconst (v := 1) hx hb le_d582 (by decide) ?_
      exact va_forget (fun q hq => hS.2.2 q hq) (W.widen (k := 1046) (n := 9153) (by omega) (by omega) (lw_ret hx hb hr0 hlk le_d583))
    have hi4 := le_len hL hi q
    clear q
    have next : ∀ (σ1 : tm_S) (th1 : Int) (z1 : Int64) (H1 : Heap) (locs1 : List Loc) (ls1 : Array Slot), tm_I σ1 → lb_H D ox adx cAx om adm cAm ao cO s σ1 σ1 th1 z1 H1 locs1 → lv_has ls1 7 [(0, .ref b), (1, .ref ox), (2, .ref om), (3, .ref ao), (4, .int (nI i))] → W p l e room_1 s m #[Value.ref b] below meth c H1 locs1 (cells + 1) (slots + 6) (lw_Z below #[Value.ref b] s) (F0 m 576 ls1 []) := by
      intro σ1 th1 z1 H1 locs1 ls1 hI1 h1 hl1
      refine lv_iinc hx hb le_d576 hl1 (k := 4) (v := nI (i + 4)) rfl (nI_add i 4) (by decide) rfl (fun ls2 hl2 => ?_)
      refine lv_goto hx hb le_d579 (tgt := 23) (by decide) ?_
      exact ih (i + 4) (cells + 1) (slots + 6) σ1 th1 z1 H1 locs1 ls2 (by omega) (by omega) hI1 h1 (lv_sub hl2 [1, 2, 3, 4, 0] rfl) (by omega) (by omega)
    have hf : cells + 1 ≤ 1046 ∧ slots + 6 ≤ 9153 := ⟨by omega, by omega⟩
    refine lv_aload_n hx hb le_d32 rfl (lv_at hl 0 rfl) ?_
    refine lv_iload hx hb le_d33 (lv_at hl 4 rfl) ?_
    refine va_sld hx hb hX hbl hNb hS (vp_in_nI (by omega) (by omega)) le_d35 ?_
    refine lv_bipush (v := 15) hx hb le_d36 (by decide) ?_
    refine lv_iand hx hb le_d38 ?_
    refine lv_topi (fun y _ => ?_)
    by_cases e0 : y.toInt = 0
    · exact lv_tableIn hx hb le_d39 (tgt := 100) (by omega) (by omega) (by rw [e0]; rfl) (by decide) (lb_c0 hl9 K hI h hi4 hl hf next)
    by_cases e1 : y.toInt = 1
    · exact lv_tableIn hx hb le_d39 (tgt := 113) (by omega) (by omega) (by rw [e1]; rfl) (by decide) (lb_c1 hl9 K hI h hi4 hl hf next)
    by_cases e2 : y.toInt = 2
    · exact lv_tableIn hx hb le_d39 (tgt := 193) (by omega) (by omega) (by rw [e2]; rfl) (by decide) (lb_c2 hl9 K hI h hi4 hl hf next)
    by_cases e3 : y.toInt = 3
    · exact lv_tableIn hx hb le_d39 (tgt := 241) (by omega) (by omega) (by rw [e3]; rfl) (by decide) (lb_c3 hl9 K hI h hi4 hl hf next)
    by_cases e4 : y.toInt = 4
    · exact lv_tableIn hx hb le_d39 (tgt := 309) (by omega) (by omega) (by rw [e4]; rfl) (by decide) (lb_c4 hl9 K hI h hi4 hl hf next)
    by_cases e5 : y.toInt = 5
    · exact lv_tableIn hx hb le_d39 (tgt := 365) (by omega) (by omega) (by rw [e5]; rfl) (by decide) (lb_c5 hl9 K hI h hi4 hl hf next)
    by_cases e6 : y.toInt = 6
    · exact lv_tableIn hx hb le_d39 (tgt := 402) (by omega) (by omega) (by rw [e6]; rfl) (by decide) (lb_c6 hl9 K hI h hi4 hl hf next)
    by_cases e7 : y.toInt = 7
    · exact lv_tableIn hx hb le_d39 (tgt := 427) (by omega) (by omega) (by rw [e7]; rfl) (by decide) (lb_c7 hl9 K hI h hi4 hl hf next)
    by_cases e8 : y.toInt = 8
    · exact lv_tableIn hx hb le_d39 (tgt := 452) (by omega) (by omega) (by rw [e8]; rfl) (by decide) (lb_c8 hl9 K hI h hi4 hl hf next)
    by_cases e9 : y.toInt = 9
    · exact lv_tableIn hx hb le_d39 (tgt := 489) (by omega) (by omega) (by rw [e9]; rfl) (by decide) (lb_c9 hl9 K hI h hi4 hl hf next)
    by_cases e10 : y.toInt = 10
    · exact lv_tableIn hx hb le_d39 (tgt := 514) (by omega) (by omega) (by rw [e10]; rfl) (by decide) (lb_c10 hl9 K hI h hi4 hl hf next)
    by_cases e11 : y.toInt = 11
    · exact lv_tableIn hx hb le_d39 (tgt := 551) (by omega) (by omega) (by rw [e11]; rfl) (by decide) (lb_c11 hl9 K hI h hi4 hl hf next)
    refine lv_tableOut hx hb le_d39 (tgt := 576) (by omega) (by decide) ?_
    exact W.widen (k := cells + 1) (n := slots + 6) (by omega) (by omega) (next σ th z H locs ls hI h hl)
theorem tc_callk {R : Room} {args : Array Value} {H : Heap} {locs : List Loc} {cells slots mc ms : Nat} {QQ : State → Prop} {P : tl_P} {N ci : Nat} {ks : List Nat} {cl : List vw_C} {h0 t9 sz pc : Nat} {w : tl_W} {ls : Array Slot} {st0 rest : List Value} {a : Array Value} {A0 : Nat → Prop} {H0 : Heap}
    (hr : va_Run p l e R s m args below meth c H locs cells slots mc ms (F0 m pc ls st0) rest (tc_Q P N ci ks D cl h0 t9 w sz a) (tc_A h0 sz)) (hS : va_S A0 H0 H locs) (hA : ∀ q, tc_A h0 sz q → A0 q)
    (kk : ∀ (ad : Nat → Nat) (cA : Nat → ClassId) (H1 : Heap) (locs1 : List Loc), ad 99 = t9 → (∀ k ∈ ks, sz ≤ ad k) → va_P D cl (tl_ce P N ci ks h0 ad cA w) H1 → va_K D cl (ks.map fun k => (cA k, FieldType.int)) s → va_D (fun _ => True) (tl_ce P N ci ks h0 ad cA w) → H.size ≤ H1.size → (∀ q : Nat, q < H.size → ¬ tc_A h0 sz q → H1[q]? = H[q]?) → va_S A0 H0 H1 locs1 → W p l e R s m args below meth c H1 locs1 (cells + mc) (slots + ms) QQ (F0 m (pc + 3) ls rest)) :
    W p l e R s m args below meth c H locs cells slots QQ (F0 m pc ls st0) := by
  intro T hT X
  obtain ⟨v, st₀, t, T', L, h0, X', hL, e1, e2, ⟨⟨ad, cA, hv, h9, hk, hP, hK, hD⟩, hF⟩, st⟩ := hr T hT X
  cases hv
  obtain ⟨k1, k2, k3⟩ := vx_keep h0 e1 hS (fun q _ h => hA q h) hA hL hF
  have hvm : s.vm.Alike t.vm := by rw [← e2]; exact X'.warmed.alike
  obtain ⟨t2, a1, b1⟩ := kk ad cA T'.heap (locs ++ L) h9 hk (by rw [e1]; exact hP) (va_K.moved hvm.symm hK) hD k1 k2 k3 T' rfl X'
  exact ⟨t2, st t2 a1, b1⟩
end LEL
theorem le_of {P : tl_P} {N ci : Nat} {ks : List Nat} {o : Nat} {ad : Nat → Nat} {cA : Nat → ClassId} {w : tl_W} {q : Nat} (h : q = o ∨ ∃ k, k ∈ ks ∧ q = ad k) : ∃ (i : Nat) (x : va_E), (tl_ce P N ci ks o ad cA w)[i]? = some (q, x) := by
  rcases h with rfl | ⟨k, hk, rfl⟩
  · exact ⟨0, _, rfl⟩
  · obtain ⟨i, hi⟩ := List.getElem?_of_mem hk
    refine ⟨i + 1, (tl_ar P ad cA w k).2, ?_⟩
    show (ks.map (tl_ar P ad cA w))[i]? = _
    rw [List.getElem?_map, hi]; rfl
theorem le_app {A : Nat → Prop} {u v : va_W} (h1 : va_D A u) (h2 : va_D A v) (h : ∀ (i j : Nat) (x y : Nat × va_E), u[i]? = some x → v[j]? = some y → x.1 ≠ y.1) : va_D A (u ++ v) := by
  have hs : ∀ (i : Nat) (q : Nat × va_E), (u ++ v)[i]? = some q → (i < u.length ∧ u[i]? = some q) ∨ (u.length ≤ i ∧ v[i - u.length]? = some q) := by
    intro i q hi
    by_cases hlt : i < u.length
    · rw [List.getElem?_append_left hlt] at hi
      exact Or.inl ⟨hlt, hi⟩
    · rw [List.getElem?_append_right (by omega)] at hi
      exact Or.inr ⟨by omega, hi⟩
  refine ⟨fun i j x y hi hj e => ?_, fun i q hi => ?_⟩
  · rcases hs i x hi with ⟨a1, a2⟩ | ⟨a1, a2⟩
    · rcases hs j y hj with ⟨b1, b2⟩ | ⟨b1, b2⟩
      · exact h1.1 i j x y a2 b2 e
      · exact absurd e (h i _ x y a2 b2)
    · rcases hs j y hj with ⟨b1, b2⟩ | ⟨b1, b2⟩
      · exact absurd e.symm (h j _ y x b2 a2)
      · have := h2.1 _ _ x y a2 b2 e
        omega
  · rcases hs i q hi with ⟨a1, a2⟩ | ⟨a1, a2⟩
    · exact h1.2 i q a2
    · exact h2.2 _ q a2
/-- of a world behind another: addresses differ -/
theorem le_ap1 {A : Nat → Prop} {u : va_W} {a : Nat} {e : va_E} (h : va_D A (u ++ [(a, e)])) {i : Nat} {q : Nat × va_E} (hi : u[i]? = some q) : q.1 ≠ a := by
  intro he
  have hlt := (List.getElem?_eq_some_iff.mp hi).1
  have h1 := h.1 i u.length q (a, e) (by rw [List.getElem?_append_left hlt]; exact hi) (by rw [List.getElem?_append_right (Nat.le_refl _), Nat.sub_self]; rfl) he
  omega
theorem le_ap2 {A : Nat → Prop} {u : va_W} {a : Nat} {e : va_E} (h : va_D A (u ++ [(a, e)])) : A a := h.2 u.length (a, e) (by rw [List.getElem?_append_right (Nat.le_refl _), Nat.sub_self]; rfl)
theorem le_pl {D : va_G} {cl : List vw_C} {u v : va_W} {H : Heap} (h : va_P D cl (u ++ v) H) : va_P D cl u H := fun i q hi => h i q (by rw [List.getElem?_append_left (List.getElem?_eq_some_iff.mp hi).1]; exact hi)
theorem le_pr {D : va_G} {cl : List vw_C} {u v : va_W} {H : Heap} (h : va_P D cl (u ++ v) H) : va_P D cl v H := fun i q hi => h (u.length + i) q (by rw [List.getElem?_append_right (Nat.le_add_right _ _), Nat.add_sub_cancel_left]; exact hi)
def le_w0 : tl_W := fun k j => if k = 99 then (tm_tb j : Int) else 0
theorem le_w0z (k : Nat) (h : k ≠ 99) : le_w0 k = fun _ => 0 := by
  funext j
  show (if k = 99 then _ else _) = _
  rw [if_neg h]
theorem le_tb (j : Nat) : tm_tb j ≤ 63 := by
  unfold tm_tb
  split <;> omega
theorem le_w0r : ∀ a b, tl_ir (le_w0 a b) := by
  intro a b
  unfold le_w0
  split
  · have := le_tb b
    exact ⟨by omega, by omega⟩
  · exact tl_ir0
theorem le_RC : tm_RC le_w0 tm_0 := ⟨fun i _ => rfl, fun t _ => ⟨rfl, rfl⟩, (fun r _ k t h => by cases h), fun j _ => rfl⟩
theorem le_RM : tm_RM (fun _ _ => 0) tm_0 := ⟨fun i _ => rfl, fun t _ => ⟨rfl, rfl⟩, fun r _ => ⟨rfl, (fun k t h => by cases h)⟩⟩
theorem le_tw {w w' : tl_W} {t : Nat} {A : Nat → Prop} {U : State} {H : Heap} (h : va_T .int t 6 (fun j => .int (Int32.ofInt (w 99 j))) A U H) (e : ∀ j, j < 6 → w' 99 j = w 99 j) : va_T .int t 6 (fun j => .int (Int32.ofInt (w' 99 j))) A U H := by
  obtain ⟨cell, h1, h2, h3, h4, h5, h6, h7⟩ := h
  exact ⟨cell, h1, h2, h3, h4, h5, (fun j hj => by rw [h6 j hj]; show _ = some (Value.int (Int32.ofInt (w' 99 j))); rw [e j hj]), h7⟩
def le_tm : Term := .static "TieredLocks" "TOGETHER" "[I"
theorem le_el {args : Array Value} {s : State} (hs : ∀ c ∈ flatC (Jvm.Cond.and given_1 narrow_1), c.before args s = true) : ∀ j : Nat, j < 6 → (Term.elem le_tm (.int (Int32.ofNat j))).eval args s none [] s = some (.int (Int32.ofInt (le_w0 99 j))) := by
  intro j hj
  rcases (show j = 0 ∨ j = 1 ∨ j = 2 ∨ j = 3 ∨ j = 4 ∨ j = 5 by omega) with rfl | rfl | rfl | rfl | rfl | rfl
  · exact va_eqt (hs (.eq (.elem le_tm (.int 0)) (.int 63)) (by decide +kernel))
  · exact va_eqt (hs (.eq (.elem le_tm (.int 1)) (.int 31)) (by decide +kernel))
  · exact va_eqt (hs (.eq (.elem le_tm (.int 2)) (.int 7)) (by decide +kernel))
  · exact va_eqt (hs (.eq (.elem le_tm (.int 3)) (.int 11)) (by decide +kernel))
  · exact va_eqt (hs (.eq (.elem le_tm (.int 4)) (.int 3)) (by decide +kernel))
  · exact va_eqt (hs (.eq (.elem le_tm (.int 5)) (.int 1)) (by decide +kernel))
set_option maxRecDepth 100000 in
theorem le_txw : ∀ w ∈ tx_w, w ∈ lw_tbl := by
  intro w hw
  rcases List.mem_cons.mp hw with rfl | hw
  · exact List.mem_of_getElem? (i := 165) rfl
  rcases List.mem_cons.mp hw with rfl | hw
  · exact List.mem_of_getElem? (i := 167) rfl
  rcases List.mem_cons.mp hw with rfl | hw
  · exact List.mem_of_getElem? (i := 169) rfl
  rcases List.mem_cons.mp hw with rfl | hw
  · exact List.mem_of_getElem? (i := 164) rfl
  rcases List.mem_cons.mp hw with rfl | hw
  · exact List.mem_of_getElem? (i := 227) rfl
  rw [List.mem_singleton.mp hw]
  exact List.mem_of_getElem? (i := 258) rfl
theorem le_U {b : Nat} {s : State} (hts : ∀ w ∈ lw_tbl, w.before #[Value.ref b] s = true) (hs : ∀ c ∈ flatC (Jvm.Cond.and given_1 narrow_1), c.before #[Value.ref b] s = true) : tw_U (lb_N s) s := by
  have hA : ∀ a : Nat, a < s.heap.size → ¬ lb_N s a := fun a h1 h2 => absurd h1 (Nat.not_lt.mpr h2)
  refine ⟨⟨fun w hw a => va_tabs (tx_face w hw).2 rfl (hts w (le_txw w hw)), ?_, ?_⟩, va_Nc.of (hs _ (by decide +kernel)), va_Nc.of (hs _ (by decide +kernel)), va_Nc.of (hs _ (by decide +kernel))⟩
  · exact vx_Zqof (hts _ (List.mem_of_getElem? (i := 189) rfl)) (hts _ (List.mem_of_getElem? (i := 37) rfl)) (hs _ (by decide +kernel)) hA
  · exact vx_Zqof (hts _ (List.mem_of_getElem? (i := 191) rfl)) (hts _ (List.mem_of_getElem? (i := 37) rfl)) (hs _ (by decide +kernel)) hA
theorem le_ta_sub : ∀ w ∈ u_ws "TieredLocks" ta_T 4, w ∈ lw_tbl := fun w hw => lb_gd (ta_face.2.2.2.1.2.2.2.2 w hw)
theorem le_tb_sub : ∀ w ∈ u_ws "TieredLocksModel" tb_T 6, w ∈ lw_tbl := fun w hw => lb_gd (tb_face.2.2.2.1.2.2.2.2 w hw)
theorem le_w44 : Cond.classLink R_law 8 "TieredLocks" ∈ lw_tbl := List.mem_of_getElem? (i := 44) rfl
theorem le_w45 : Cond.instantiable "TieredLocks" 4 ∈ lw_tbl := List.mem_of_getElem? (i := 45) rfl
theorem le_w46 : Cond.methodLink R_law 31 (ta_nm 0) ∈ lw_tbl := List.mem_of_getElem? (i := 46) rfl
theorem le_w47 : Cond.instanceMethod (ta_nm 0) ∈ lw_tbl := List.mem_of_getElem? (i := 47) rfl
theorem le_w35 : Cond.initialized "TieredLocks" ∈ lw_tbl := List.mem_of_getElem? (i := 35) rfl
theorem le_w36 : Cond.initialized "TieredLocksModel" ∈ lw_tbl := List.mem_of_getElem? (i := 36) rfl
set_option maxRecDepth 100000 in
theorem le_w365 : Cond.classLink R_law 32 "TieredLocksModel" ∈ lw_tbl := List.mem_of_getElem? (i := 365) rfl
set_option maxRecDepth 100000 in
theorem le_w366 : Cond.instantiable "TieredLocksModel" 6 ∈ lw_tbl := List.mem_of_getElem? (i := 366) rfl
set_option maxRecDepth 100000 in
theorem le_w367 : Cond.methodLink R_law 34 (tb_nm 0) ∈ lw_tbl := List.mem_of_getElem? (i := 367) rfl
set_option maxRecDepth 100000 in
theorem le_w368 : Cond.instanceMethod (tb_nm 0) ∈ lw_tbl := List.mem_of_getElem? (i := 368) rfl
set_option maxRecDepth 100000 in
theorem le_w499 : Cond.arrayClass .long ∈ lw_tbl := List.mem_of_getElem? (i := 499) rfl
theorem le_w120 : Cond.laysStatic "TieredLocks" "TOGETHER" "[I" ∈ lw_tbl := List.mem_of_getElem? (i := 120) rfl
set_option maxHeartbeats 4000000 in
theorem whole_start {p : Program} {e : Env} {s : State} {m : MethodId} {below : List Frame} {meth : Method} {c : Code} (l : Launch) (hl9 : l.stackTraces = false) {b L : Nat} {xs : Nat → Int32} (hL : L ≤ 2048) (C0 : lw_At p s m meth c b L xs) : W p l e room_1 s m #[Value.ref b] below meth c s.heap [] 0 0 (lw_Z below #[Value.ref b] s) (entryFrame m ([Value.ref b] : List Value).toArray 7) := by
  have C1 := C0
  obtain ⟨hx, hb, hr0, hml7, hown, hts, hX, hbl, hlk, hgv⟩ := C1
  have hs := flat_of_before _ hgv
  have hNA : ∀ a : Nat, a < s.heap.size → ¬ lb_N s a := fun a h1 h2 => absurd h1 (Nat.not_lt.mpr h2)
  have hA : ∀ q : Nat, s.heap.size ≤ q → lb_N s q := fun q h => h
  obtain ⟨c0, i0, k0⟩ := u_known hts le_ta_sub (hts _ le_w45)
  obtain ⟨c1, i1, k1⟩ := u_known hts le_tb_sub (hts _ le_w366)
  obtain ⟨D, hD0⟩ : ∃ D : va_G, D = (fun k => bif Nat.beq k 0 then c0 else c1, fun k => bif Nat.beq k 0 then i0 else i1) := ⟨_, rfl⟩
  have hK : va_K D lb_cl [] s := by
    rw [hD0]
    refine ⟨fun k q hq => ?_, (fun k q hk => by cases hk)⟩
    match k, hq with
    | 0, hq => cases hq; exact k0
    | 1, hq => cases hq; exact k1
    | k + 2, hq => cases hq
  clear hD0
  obtain ⟨t9, ht9, hT9⟩ := va_Tof (tm := le_tm) (ty := .int) (N := 6) (f := fun j => .int (Int32.ofInt (le_w0 99 j))) (A := lb_N s) (by decide) (hs _ (by decide +kernel)) (va_eqt (hs (.eq (.length le_tm) (.int 6)) (by decide +kernel))) (le_el hs) hNA
  have hZ9 : va_Z "TieredLocks" "TOGETHER" "[I" (.ref t9) (lb_N s) s s.heap := va_Zof (hts _ le_w120) (hts _ le_w35) ht9 hNA
  have hU := le_U hts hs
  have hP : va_P D lb_cl [] s.heap := fun k q hk => by cases hk
  have hD : va_D (lb_N s) [] := ⟨(fun i j x y hi => by cases hi), (fun k q hk => by cases hk)⟩
  have hS : va_S (lb_N s) s.heap s.heap [] := va_S.rf
  have hl := lv_entry ([.ref b]) (n := 7) (Nat.le_of_ble_eq_true rfl)
  rw [lg_entry_eq]
  generalize (lg_sl ([.ref b]) ++ List.replicate (7 - (lg_sl ([.ref b])).length) Slot.unset).toArray = ls at hl ⊢
  have hl : lv_has ls 7 [(0, .ref b)] := hl
  refine va_new (ci := 0) (fs := [.null, .null, .null, .null]) (C := "TieredLocks") (T := ta_T) (N := 4) hx hb hts le_ta_sub ta_ty ta_face.2.2.2.2.2.2.2.2.2.1 hown (hts _ le_w44) (hts _ le_w45) (hts _ le_w35) hK hP hD hS hA rfl (fun j hj => by rcases (show j = 0 ∨ j = 1 ∨ j = 2 ∨ j = 3 by omega) with rfl | rfl | rfl | rfl <;> rfl) (Nat.le_of_ble_eq_true rfl) (Nat.le_of_ble_eq_true rfl) le_d0 (fun ox H1 hP1 hD1 hS1 => ?_)
  have hP1 : va_P D lb_cl [(ox, .inr (0, [.null, .null, .null, .null]))] H1 := hP1
  have hox : s.heap.size ≤ ox := hD1.2 0 _ rfl
  refine lv_dup hx hb le_d3 rfl ?_
  refine tc_callk (mc := 4) (ms := 296) (va_runI (As := []) (rest := [.ref ox]) ⟨hx, hb, hml7, hown, hts⟩ (ta_made l (cl := lb_cl) (ci := 0) (D := D) rfl ox t9 H1.size le_w0 (fun k hk => le_w0z k (by omega))) (cwI 0 hts (lb_goodIn (ta_face.2.1 0 (by decide)).2.2) rfl rfl rfl (hts _ le_w35) (hts _ le_w46) (hts _ le_w47) rfl (by decide +kernel) ⟨Nat.le_of_ble_eq_true rfl, Nat.le_of_ble_eq_true rfl⟩)
    ⟨fun a U g mk q => by obtain ⟨q0, q1, qP, qK⟩ := q; exact ⟨q0, q1, qP, va_K.moved (u := U) (U := U.calling g mk a) (Vm.Alike.refl U.vm) qK⟩, fun U hU9 hW => ⟨rfl, by rw [hU9], by rw [hU9]; exact hP1, va_K.moved hW.alike hK⟩⟩ rfl rfl hl.1 rfl (lv_room (Nat.le_of_ble_eq_true rfl)) le_d4 ⟨Nat.le_of_ble_eq_true rfl, Nat.le_of_ble_eq_true rfl⟩) hS1 (fun q h => h.elim (fun z => by rw [z]; exact hox) (fun z => Nat.le_trans hS1.1 z)) (fun adx cAx H2 locs2 h9 hkx hP2 hK2 hD2 hz2 hkp2 hS2 => ?_)
  have hX2 : ∀ q, lb_X ox adx q → s.heap.size ≤ q := fun q h => h.elim (fun z => by rw [z]; exact hox) (fun ⟨k, hk, z⟩ => by rw [z]; exact Nat.le_trans hS1.1 (hkx k hk))
  have hDx : va_D (lb_N s) (tl_ce ta_P 4 0 [0, 1, 2, 3] ox adx cAx le_w0) := ⟨hD2.1, fun i q hi => hX2 q.1 (lb_mem hi)⟩
  refine lv_astore_n hx hb le_d7 rfl hl (by decide) rfl (fun ls hl => ?_)
  have hl : lv_has ls 7 [(1, .ref ox), (0, .ref b)] := hl
  refine va_new (ci := 1) (fs := [.null, .null, .null, .null, .null, .int 0]) (C := "TieredLocksModel") (T := tb_T) (N := 6) hx hb hts le_tb_sub tb_ty tb_face.2.2.2.2.2.2.2.2.2.1 hown (hts _ le_w365) (hts _ le_w366) (hts _ le_w36) hK2 hP2 hDx hS2 hA rfl (fun j hj => by rcases (show j = 0 ∨ j = 1 ∨ j = 2 ∨ j = 3 ∨ j = 4 ∨ j = 5 by omega) with rfl | rfl | rfl | rfl | rfl | rfl <;> rfl) (Nat.le_of_ble_eq_true rfl) (Nat.le_of_ble_eq_true rfl) le_d8 (fun om H3 hP3 hD3 hS3 => ?_)
  have hom : s.heap.size ≤ om := le_ap2 hD3
  have hPx3 := le_pl hP3
  have hPm3 := le_pr hP3
  have hne : ∀ q, lb_X ox adx q → q ≠ om ∧ q < H3.size := fun q h => by
    obtain ⟨i, x, hi⟩ := le_of (P := ta_P) (N := 4) (ci := 0) (cA := cAx) (w := le_w0) h
    exact ⟨le_ap1 hD3 hi, (hPx3 i _ hi).lt⟩
  refine lv_dup hx hb le_d11 rfl ?_
  refine tc_callk (mc := 5) (ms := 594) (va_runI (As := []) (rest := [.ref om]) ⟨hx, hb, hml7, hown, hts⟩ (tb_made l (cl := lb_cl) (ci := 1) (D := D) rfl om 0 H3.size (fun _ _ => 0) (fun k hk => rfl)) (cwI 0 hts (lb_goodIn (tb_face.2.1 0 (by decide)).2.2) rfl rfl rfl (hts _ le_w36) (hts _ le_w367) (hts _ le_w368) rfl (by decide +kernel) ⟨Nat.le_of_ble_eq_true rfl, Nat.le_of_ble_eq_true rfl⟩)
    ⟨fun a U g mk q => by obtain ⟨q0, q1, qP, qK⟩ := q; exact ⟨q0, q1, qP, va_K.moved (u := U) (U := U.calling g mk a) (Vm.Alike.refl U.vm) qK⟩, fun U hU9 hW => ⟨rfl, by rw [hU9], by rw [hU9]; exact hPm3, va_K.moved hW.alike hK⟩⟩ rfl rfl hl.1 rfl (lv_room (Nat.le_of_ble_eq_true rfl)) le_d12 ⟨Nat.le_of_ble_eq_true rfl, Nat.le_of_ble_eq_true rfl⟩) hS3 (fun q h => h.elim (fun z => by rw [z]; exact hom) (fun z => Nat.le_trans hS3.1 z)) (fun adm cAm H4 locs4 _ hkm hP4 hK4 hD4 hz4 hkp4 hS4 => ?_)
  have hM4 : ∀ q, lb_M om adm q → s.heap.size ≤ q := fun q h => h.elim (fun z => by rw [z]; exact hom) (fun ⟨k, hk, z⟩ => by rw [z]; exact Nat.le_trans hS3.1 (hkm k hk))
  have hXM : ∀ q, lb_X ox adx q → ¬ lb_M om adm q := fun q h h2 => h2.elim (fun z => (hne q h).1 z) (fun ⟨k, hk, z⟩ => by
    have h3 := (hne q h).2
    have h4 := hkm k hk
    omega)
  have hPx4 : va_P D lb_cl (tl_ce ta_P 4 0 [0, 1, 2, 3] ox adx cAx le_w0) H4 := va_P.kept hPx3 (fun i q hi => hkp4 q.1 (hPx3 i q hi).lt (fun z => z.elim (fun z => (hne q.1 (lb_mem hi)).1 z) (fun z => absurd (hne q.1 (lb_mem hi)).2 (Nat.not_lt.mpr z))))
  have hDm : va_D (lb_N s) (tl_ce tb_P 6 1 [0, 1, 2, 3, 4] om adm cAm (fun _ _ => 0)) := ⟨hD4.1, fun i q hi => hM4 q.1 (lb_mem hi)⟩
  have hDall := le_app hDx hDm (fun i j x y hi hj e9 => hXM x.1 (lb_mem hi) (by rw [e9]; exact lb_mem hj))
  have hPall := va_P.app hPx4 hP4
  refine lv_astore_n hx hb le_d15 rfl hl (by decide) rfl (fun ls hl => ?_)
  have hl : lv_has ls 7 [(2, .ref om), (1, .ref ox), (0, .ref b)] := hl
  refine lv_iconst (v := 1) hx hb le_d16 (by decide) ?_
  refine va_newa (atype := .long) (ty := .long) (a0 := (1, .inr (.inl (fun _ => 0)))) hx hb (hts _ le_w499) rfl hK hPall hDall hS4 hA (fun cA => rfl) (by decide) (by decide) (by decide) (Nat.le_of_ble_eq_true rfl) (Nat.le_of_ble_eq_true rfl) le_d17 (fun ao cO H5 hK5 hP5 hD5 hS5 => ?_)
  have hao : s.heap.size ≤ ao := le_ap2 hD5
  have hPx5 := le_pl (le_pl hP5)
  have hPm5 := le_pr (le_pl hP5)
  have hO5 : tw_O D lb_cl ao cO (fun _ => 0) H5 := le_pr hP5
  have hXo : ∀ q, lb_X ox adx q → q ≠ ao := fun q h => by
    obtain ⟨i, x, hi⟩ := le_of (P := ta_P) (N := 4) (ci := 0) (cA := cAx) (w := le_w0) h
    exact le_ap1 hD5 (q := (q, x)) (i := i) (by rw [List.getElem?_append_left (List.getElem?_eq_some_iff.mp hi).1]; exact hi)
  have hMo : ∀ q, lb_M om adm q → q ≠ ao := fun q h => by
    obtain ⟨i, x, hi⟩ := le_of (P := tb_P) (N := 6) (ci := 1) (cA := cAm) (w := fun _ _ => 0) h
    exact le_ap1 hD5 (q := (q, x)) (i := (tl_ce ta_P 4 0 [0, 1, 2, 3] ox adx cAx le_w0).length + i) (by rw [List.getElem?_append_right (Nat.le_add_right _ _), Nat.add_sub_cancel_left]; exact hi)
  refine lv_astore_n hx hb le_d19 rfl hl (by decide) rfl (fun ls hl => ?_)
  have hl : lv_has ls 7 [(3, .ref ao), (2, .ref om), (1, .ref ox), (0, .ref b)] := hl
  refine lv_iconst (v := 0) hx hb le_d20 (by decide) ?_
  refine lv_istore hx hb le_d21 hl (by decide) rfl (fun ls hl => ?_)
  have hl : lv_has ls 7 [(4, .int (nI 0)), (3, .ref ao), (2, .ref om), (1, .ref ox), (0, .ref b)] := hl
  refine le_loop (D := D) (ox := ox) (adx := adx) (cAx := cAx) (om := om) (adm := adm) (cAm := cAm) (ao := ao) (cO := cO) hl9 ⟨C0, hL, ⟨hK2, hK4, hK5⟩, ⟨fun w hw _ => ⟨by rw [h9]; exact hZ9, by rw [h9]; exact le_tw hT9 hw⟩, hU⟩, fun q h => ⟨hX2 q h, hXM q h, hXo q h⟩, fun q h => ⟨hM4 q h, hMo q h⟩, hao⟩ 512 0 _ _ tm_0 0 0 H5 locs4 ls (by omega) (by omega) tm_0_I ⟨le_w0, fun _ _ => 0, fun _ => 0, ⟨hPx5, hD2⟩, ⟨hPm5, hD4⟩, hO5, hS5, ⟨le_w0r, fun _ _ => tl_ir0⟩, ⟨le_RC, le_RM⟩, rfl, rfl⟩ (lv_sub hl [4, 3, 2, 1, 0] rfl) (Nat.le_of_ble_eq_true rfl) (Nat.le_of_ble_eq_true rfl)
set_option maxHeartbeats 4000000 in
theorem lw_walk (l : Launch) (hl9 : l.stackTraces = false) (b : Addr) (xs : List Int32) : MetFree l x (headSpec (Jvm.Cond.code x code maxLocals ret :: tables_1) room_1) (lw_P b xs) (fun _ _ _ _ _ => True) lw_Q := by
  refine MetFree.of_bodyS (code := code) (maxLocals := maxLocals) (ret := ret) (by decide) ?_ ?_
  · intro args s m h hn
    obtain ⟨meth, c, h1, h2, h3, h4, h5, h6, -, -⟩ := Cond.code_spec hn (atoms_spec (ws := Jvm.Cond.code x code maxLocals ret :: tables_1) h _ List.mem_cons_self)
    exact ⟨meth, c, h1, h2, h3, h4, h5, h6⟩
  · intro p e s m args below meth c s₁ B hml0 hP _
    obtain ⟨rfl, hx, hbd, hgv⟩ := hP
    obtain ⟨scr, harrAt, hlist, hof, hsmall⟩ := hx
    obtain ⟨hcb, hkn, -, -⟩ := State.arrayAt?_spec harrAt
    have hown : s.vm.findClass R_law = some m.cls := findClass_of_methodNamed B.named
    have hts0 : ∀ c ∈ (Jvm.Cond.code x code maxLocals ret :: tables_1), c.before #[Value.ref b] s = true := atoms_spec (ws := Jvm.Cond.code x code maxLocals ret :: tables_1) B.pre
    have hts : ∀ w ∈ lw_tbl, w.before #[Value.ref b] s = true := k2_hts_sels lw_privs (fun w hw => hts0 w (List.mem_cons_of_mem _ hw)) lw_privs_ok
    have hml : c.maxLocals = 7 := B.maxLocals_eq (hts0 _ List.mem_cons_self)
    have X₀ : Stand p l e room_1 s m #[Value.ref b] below meth c s₁ [] 0 0 := Stand.of_body B
    have hh0 : s₁.heap = s.heap := by rw [B.state]; rfl
    have hsz : scr.slots.size = xs.length := by rw [← Array.length_toList, hlist, List.length_map]
    have hval : ∀ j : Nat, j < xs.length → scr.slots[j]? = some (.int (xs.getD j 0)) := fun j hj => by
      rw [← Array.getElem?_toList, hlist]
      simp [hj]
    have hbl : b < s.heap.size := (Array.getElem?_eq_some_iff.mp hcb).1
    have hX : va_X b xs.length (fun j => xs.getD j 0) s s.heap := ⟨scr, hcb, hof, hkn, hsz, hval⟩
    have K : W p l e room_1 s m #[Value.ref b] below meth c s₁.heap [] 0 0 (lw_Z below #[Value.ref b] s) (entryFrame m ([Value.ref b] : List Value).toArray 7) := by
      rw [hh0]
      exact whole_start l hl9 hbd ⟨B.exec, B.bytes, B.returns, hml, hown, hts, hX, hbl, B.notSynchronized, hgv⟩
    obtain ⟨t, a1, o, b1, b2, b3⟩ := K s₁ rfl X₀
    exact ⟨t, o, a1, b1, b2, b3⟩
theorem lw_pre_spec {args : Array Value} {s : State} (h : (Jvm.Cond.and given_1 narrow_1).before args s = true) (hr : rest_1_c.before args s = true) : ∃ (b : Addr) (xs : List Int32), lw_P b xs args s := by
  have hs := flat_of_before _ h
  have hq := flat_of_before _ hr
  have hc : (Cond.count 1).before args s = true := hs _ (by decide +kernel)
  have harr : (Cond.arrayOf (.arg 0) .int).before args s = true := hs _ (by decide +kernel)
  have hle : (Cond.le (.length (.arg 0)) (.int 2048)).before args s = true := hs _ (by decide +kernel)
  have hlen : (Cond.isInt (.length (.arg 0))).before args s = true := hq _ (by decide +kernel)
  have hall : (Cond.all (.arg 0) (.isInt (.elem (.arg 0) (.index 0)))).before args s = true := hq _ (by decide +kernel)
  obtain ⟨b, xs, hb, hx⟩ := State.ints_of_pre rfl harr hlen hall
  have hsm : xs.length < 2 ^ 31 := hx.choose_spec.2.2.2
  have hev : (Term.length (.arg 0)).eval args s none [] s = some (.int xs.length.toInt32) := hx.length_eval hb
  have hv := Cond.le_ints hev (show (Term.int 2048).eval args s none [] s = some (.int 2048) from rfl)
  have hd : xs.length.toInt32 ≤ 2048 := by
    simpa [Cond.before, Cond.holds, hv] using hle
  have hN : xs.length ≤ 2048 := (Int32.ofNat_le_ofNat hsm (by decide)).mp (show Int32.ofNat xs.length ≤ Int32.ofNat 2048 from hd)
  exact ⟨b, xs, Cond.one_arg hc (show args[0]? = some (.ref b) from hb), hx, hN, h⟩
theorem lw_comes (l : Launch) (hl9 : l.stackTraces = false) : Comes l x (Jvm.Cond.code x code maxLocals ret :: tables_1) room_1 (fun tb e args s => Calls_1 tb e args s ∧ rest_1 tb e args s ∧ Pre_1 tb e args s)
    (fun _ _ args s o t => lw_Q args s o t) := by
  intro p e ha hc hk s m args below hf hfit hheap happ hpre
  obtain ⟨b, xs, hP⟩ := lw_pre_spec hpre.2.2 hpre.2.1
  obtain ⟨k, o, h1, h2, h3, hQ⟩ := lw_walk l hl9 b xs p e ha hc hk s m args below hf ((Spec.applies_iff_loose hf).mp happ).1 hP trivial
  exact ⟨k, o, h1, h2, h3, hQ⟩
theorem lw_frame {s t : State} {o : Outcome} {args : Array Value} (h : Framed s o t [] 1046 9153) :
    Framed s o t (fieldLocs frame_1_writes args s ++ arrayLocs frame_1_arrays args s ++ staticLocs frame_1_statics s) 1046 9153 := h
theorem lw_limb (L : Cond) (hL : ∀ (args : Array Value) (s t : State), L.after args s (.returned (some (.int 1))) t = true) :
    ArmFor flags0 classFile x code maxLocals ret World_1 tables_1 room_1 Calls_1 rest_1 Pre_1
      (fun tb e a s o t => postC L tb e a s o t ∧ Framed s o t (fieldLocs frame_1_writes a s ++ arrayLocs frame_1_arrays a s ++ staticLocs frame_1_statics s) 1046 9153) := by
  intro l hfl _ _ p e ha hc hk s m args below hf hfit hheap happ hpre
  have hl9 : l.stackTraces = false := by
    unfold Launch.stackTraces
    rw [hfl]
    decide +kernel
  obtain ⟨k, o, h1, h2, h3, rfl, hF⟩ := lw_comes l hl9 p e ha hc hk s m args below hf hfit hheap happ hpre
  exact ⟨k, _, h1, h2, h3, hL args s _, lw_frame hF⟩
theorem i_vc : Claimed_1_1 ∧ Claimed_1_2 := ⟨lw_limb limb_1_1 (fun args s t => by simp [limb_1_1, Cond.after, Cond.holds, Cond.value]), lw_limb limb_1_2 (fun args s t => Cond.after_iff.mpr (by
  first | (rw [show limb_1_2 = Cond.eq .result (.int 1) from rfl, Cond.eq_ints (x := 1) (y := 1) rfl rfl]; simp; done) | (simp [limb_1_2, Cond.value, Term.eval]; done)))⟩
