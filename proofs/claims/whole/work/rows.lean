section
-- ===== PART A: goes FIRST, ahead of the names: the tables' words, and 'selects' of the private methods out of them =====
/-- a private method of a class that the tables say can be made, by its rows of tables_1 -/
def lw_okq (q : MethodName × Nat) : Prop := (q.1.cls ≠ "java/lang/invoke/MethodHandle" ∧ q.1.cls ≠ "java/lang/invoke/VarHandle") ∧ Cond.instantiable q.1.cls q.2 ∈ tables_1 ∧ Cond.privateMethod q.1 ∈ tables_1 ∧ Cond.instanceMethod q.1 ∈ tables_1
theorem lw_p0 : lw_okq (⟨"TieredLocks", "modeOf", "(II)I"⟩, 4) := ⟨⟨by decide +kernel, by decide +kernel⟩, List.mem_of_getElem? (i := 11) (by decide +kernel), List.mem_of_getElem? (i := 47) (by decide +kernel), List.mem_of_getElem? (i := 48) (by decide +kernel)⟩
theorem lw_p1 : lw_okq (⟨"TieredLocks", "standingAt", "(II)I"⟩, 4) := ⟨⟨by decide +kernel, by decide +kernel⟩, List.mem_of_getElem? (i := 11) (by decide +kernel), List.mem_of_getElem? (i := 63) (by decide +kernel), List.mem_of_getElem? (i := 64) (by decide +kernel)⟩
theorem lw_p2 : lw_okq (⟨"TieredLocks", "awaitedBy", "(I)I"⟩, 4) := ⟨⟨by decide +kernel, by decide +kernel⟩, List.mem_of_getElem? (i := 11) (by decide +kernel), List.mem_of_getElem? (i := 67) (by decide +kernel), List.mem_of_getElem? (i := 68) (by decide +kernel)⟩
theorem lw_p3 : lw_okq (⟨"TieredLocks", "blockersOf", "(I)I"⟩, 4) := ⟨⟨by decide +kernel, by decide +kernel⟩, List.mem_of_getElem? (i := 11) (by decide +kernel), List.mem_of_getElem? (i := 75) (by decide +kernel), List.mem_of_getElem? (i := 76) (by decide +kernel)⟩
theorem lw_p4 : lw_okq (⟨"TieredLocks", "blocks", "(III)Z"⟩, 4) := ⟨⟨by decide +kernel, by decide +kernel⟩, List.mem_of_getElem? (i := 11) (by decide +kernel), List.mem_of_getElem? (i := 79) (by decide +kernel), List.mem_of_getElem? (i := 80) (by decide +kernel)⟩
theorem lw_p5 : lw_okq (⟨"TieredLocks", "rightFromAbove", "(II)I"⟩, 4) := ⟨⟨by decide +kernel, by decide +kernel⟩, List.mem_of_getElem? (i := 11) (by decide +kernel), List.mem_of_getElem? (i := 98) (by decide +kernel), List.mem_of_getElem? (i := 99) (by decide +kernel)⟩
theorem lw_p6 : lw_okq (⟨"TieredLocks", "isHolder", "(II)Z"⟩, 4) := ⟨⟨by decide +kernel, by decide +kernel⟩, List.mem_of_getElem? (i := 11) (by decide +kernel), List.mem_of_getElem? (i := 112) (by decide +kernel), List.mem_of_getElem? (i := 113) (by decide +kernel)⟩
theorem lw_p7 : lw_okq (⟨"java/lang/Throwable", "fillInStackTrace", "(I)Ljava/lang/Throwable;"⟩, 6) := ⟨⟨by decide +kernel, by decide +kernel⟩, List.mem_of_getElem? (i := 167) (by decide +kernel), List.mem_of_getElem? (i := 165) (by decide +kernel), List.mem_of_getElem? (i := 166) (by decide +kernel)⟩
theorem lw_p8 : lw_okq (⟨"TieredLocks", "isAnnounced", "(III)Z"⟩, 4) := ⟨⟨by decide +kernel, by decide +kernel⟩, List.mem_of_getElem? (i := 11) (by decide +kernel), List.mem_of_getElem? (i := 207) (by decide +kernel), List.mem_of_getElem? (i := 208) (by decide +kernel)⟩
theorem lw_p9 : lw_okq (⟨"TieredLocks", "request", "(III)I"⟩, 4) := ⟨⟨by decide +kernel, by decide +kernel⟩, List.mem_of_getElem? (i := 11) (by decide +kernel), List.mem_of_getElem? (i := 238) (by decide +kernel), List.mem_of_getElem? (i := 239) (by decide +kernel)⟩
theorem lw_p10 : lw_okq (⟨"TieredLocks", "isCovered", "(III)Z"⟩, 4) := ⟨⟨by decide +kernel, by decide +kernel⟩, List.mem_of_getElem? (i := 11) (by decide +kernel), List.mem_of_getElem? (i := 242) (by decide +kernel), List.mem_of_getElem? (i := 243) (by decide +kernel)⟩
theorem lw_p11 : lw_okq (⟨"TieredLocks", "fitsOthers", "(III)Z"⟩, 4) := ⟨⟨by decide +kernel, by decide +kernel⟩, List.mem_of_getElem? (i := 11) (by decide +kernel), List.mem_of_getElem? (i := 246) (by decide +kernel), List.mem_of_getElem? (i := 247) (by decide +kernel)⟩
theorem lw_p12 : lw_okq (⟨"TieredLocks", "setMode", "(III)V"⟩, 4) := ⟨⟨by decide +kernel, by decide +kernel⟩, List.mem_of_getElem? (i := 11) (by decide +kernel), List.mem_of_getElem? (i := 250) (by decide +kernel), List.mem_of_getElem? (i := 251) (by decide +kernel)⟩
theorem lw_p13 : lw_okq (⟨"TieredLocks", "enterQueue", "(III)V"⟩, 4) := ⟨⟨by decide +kernel, by decide +kernel⟩, List.mem_of_getElem? (i := 11) (by decide +kernel), List.mem_of_getElem? (i := 254) (by decide +kernel), List.mem_of_getElem? (i := 255) (by decide +kernel)⟩
theorem lw_p14 : lw_okq (⟨"TieredLocks", "placeFor", "(II)I"⟩, 4) := ⟨⟨by decide +kernel, by decide +kernel⟩, List.mem_of_getElem? (i := 11) (by decide +kernel), List.mem_of_getElem? (i := 258) (by decide +kernel), List.mem_of_getElem? (i := 259) (by decide +kernel)⟩
theorem lw_p15 : lw_okq (⟨"TieredLocks", "shiftQueue", "(III)V"⟩, 4) := ⟨⟨by decide +kernel, by decide +kernel⟩, List.mem_of_getElem? (i := 11) (by decide +kernel), List.mem_of_getElem? (i := 262) (by decide +kernel), List.mem_of_getElem? (i := 263) (by decide +kernel)⟩
def lw_privs_1 : List (MethodName × Nat) := [(⟨"TieredLocks", "modeOf", "(II)I"⟩, 4), (⟨"TieredLocks", "standingAt", "(II)I"⟩, 4), (⟨"TieredLocks", "awaitedBy", "(I)I"⟩, 4), (⟨"TieredLocks", "blockersOf", "(I)I"⟩, 4), (⟨"TieredLocks", "blocks", "(III)Z"⟩, 4), (⟨"TieredLocks", "rightFromAbove", "(II)I"⟩, 4), (⟨"TieredLocks", "isHolder", "(II)Z"⟩, 4), (⟨"java/lang/Throwable", "fillInStackTrace", "(I)Ljava/lang/Throwable;"⟩, 6), (⟨"TieredLocks", "isAnnounced", "(III)Z"⟩, 4), (⟨"TieredLocks", "request", "(III)I"⟩, 4), (⟨"TieredLocks", "isCovered", "(III)Z"⟩, 4), (⟨"TieredLocks", "fitsOthers", "(III)Z"⟩, 4), (⟨"TieredLocks", "setMode", "(III)V"⟩, 4), (⟨"TieredLocks", "enterQueue", "(III)V"⟩, 4), (⟨"TieredLocks", "placeFor", "(II)I"⟩, 4), (⟨"TieredLocks", "shiftQueue", "(III)V"⟩, 4)]
theorem lw_r1 : ∀ q ∈ lw_privs_1, lw_okq q := List.forall_mem_cons.mpr ⟨lw_p0, List.forall_mem_cons.mpr ⟨lw_p1, List.forall_mem_cons.mpr ⟨lw_p2, List.forall_mem_cons.mpr ⟨lw_p3, List.forall_mem_cons.mpr ⟨lw_p4, List.forall_mem_cons.mpr ⟨lw_p5, List.forall_mem_cons.mpr ⟨lw_p6, List.forall_mem_cons.mpr ⟨lw_p7, List.forall_mem_cons.mpr ⟨lw_p8, List.forall_mem_cons.mpr ⟨lw_p9, List.forall_mem_cons.mpr ⟨lw_p10, List.forall_mem_cons.mpr ⟨lw_p11, List.forall_mem_cons.mpr ⟨lw_p12, List.forall_mem_cons.mpr ⟨lw_p13, List.forall_mem_cons.mpr ⟨lw_p14, List.forall_mem_cons.mpr ⟨lw_p15, fun _ h => absurd h List.not_mem_nil⟩⟩⟩⟩⟩⟩⟩⟩⟩⟩⟩⟩⟩⟩⟩⟩
theorem lw_p16 : lw_okq (⟨"TieredLocks", "isInCircle", "(I)Z"⟩, 4) := ⟨⟨by decide +kernel, by decide +kernel⟩, List.mem_of_getElem? (i := 11) (by decide +kernel), List.mem_of_getElem? (i := 266) (by decide +kernel), List.mem_of_getElem? (i := 267) (by decide +kernel)⟩
theorem lw_p17 : lw_okq (⟨"TieredLocks", "blockersOfAll", "(I)I"⟩, 4) := ⟨⟨by decide +kernel, by decide +kernel⟩, List.mem_of_getElem? (i := 11) (by decide +kernel), List.mem_of_getElem? (i := 270) (by decide +kernel), List.mem_of_getElem? (i := 271) (by decide +kernel)⟩
theorem lw_p18 : lw_okq (⟨"TieredLocks", "leaveQueue", "(I)V"⟩, 4) := ⟨⟨by decide +kernel, by decide +kernel⟩, List.mem_of_getElem? (i := 11) (by decide +kernel), List.mem_of_getElem? (i := 277) (by decide +kernel), List.mem_of_getElem? (i := 278) (by decide +kernel)⟩
theorem lw_p19 : lw_okq (⟨"TieredLocks", "holdsOnChild", "(II)Z"⟩, 4) := ⟨⟨by decide +kernel, by decide +kernel⟩, List.mem_of_getElem? (i := 11) (by decide +kernel), List.mem_of_getElem? (i := 288) (by decide +kernel), List.mem_of_getElem? (i := 289) (by decide +kernel)⟩
theorem lw_p20 : lw_okq (⟨"TieredLocks", "giveUp", "(II)I"⟩, 4) := ⟨⟨by decide +kernel, by decide +kernel⟩, List.mem_of_getElem? (i := 11) (by decide +kernel), List.mem_of_getElem? (i := 292) (by decide +kernel), List.mem_of_getElem? (i := 293) (by decide +kernel)⟩
theorem lw_p21 : lw_okq (⟨"TieredLocks", "serve", "(I)I"⟩, 4) := ⟨⟨by decide +kernel, by decide +kernel⟩, List.mem_of_getElem? (i := 11) (by decide +kernel), List.mem_of_getElem? (i := 296) (by decide +kernel), List.mem_of_getElem? (i := 297) (by decide +kernel)⟩
theorem lw_p22 : lw_okq (⟨"TieredLocks", "countBelow", "(II)I"⟩, 4) := ⟨⟨by decide +kernel, by decide +kernel⟩, List.mem_of_getElem? (i := 11) (by decide +kernel), List.mem_of_getElem? (i := 310) (by decide +kernel), List.mem_of_getElem? (i := 311) (by decide +kernel)⟩
theorem lw_p23 : lw_okq (⟨"TieredLocks", "writesWithin", "(II)Z"⟩, 4) := ⟨⟨by decide +kernel, by decide +kernel⟩, List.mem_of_getElem? (i := 11) (by decide +kernel), List.mem_of_getElem? (i := 317) (by decide +kernel), List.mem_of_getElem? (i := 318) (by decide +kernel)⟩
theorem lw_p24 : lw_okq (⟨"TieredLocks", "giveUpBelow", "(II)I"⟩, 4) := ⟨⟨by decide +kernel, by decide +kernel⟩, List.mem_of_getElem? (i := 11) (by decide +kernel), List.mem_of_getElem? (i := 321) (by decide +kernel), List.mem_of_getElem? (i := 322) (by decide +kernel)⟩
theorem lw_p25 : lw_okq (⟨"TieredLocksModel", "refuse", "(I)I"⟩, 6) := ⟨⟨by decide +kernel, by decide +kernel⟩, List.mem_of_getElem? (i := 332) (by decide +kernel), List.mem_of_getElem? (i := 375) (by decide +kernel), List.mem_of_getElem? (i := 376) (by decide +kernel)⟩
theorem lw_p26 : lw_okq (⟨"TieredLocksModel", "isCovered", "(III)Z"⟩, 6) := ⟨⟨by decide +kernel, by decide +kernel⟩, List.mem_of_getElem? (i := 332) (by decide +kernel), List.mem_of_getElem? (i := 388) (by decide +kernel), List.mem_of_getElem? (i := 389) (by decide +kernel)⟩
theorem lw_p27 : lw_okq (⟨"TieredLocksModel", "ask", "(III)I"⟩, 6) := ⟨⟨by decide +kernel, by decide +kernel⟩, List.mem_of_getElem? (i := 332) (by decide +kernel), List.mem_of_getElem? (i := 392) (by decide +kernel), List.mem_of_getElem? (i := 393) (by decide +kernel)⟩
theorem lw_p28 : lw_okq (⟨"TieredLocksModel", "fits", "(III)Z"⟩, 6) := ⟨⟨by decide +kernel, by decide +kernel⟩, List.mem_of_getElem? (i := 332) (by decide +kernel), List.mem_of_getElem? (i := 396) (by decide +kernel), List.mem_of_getElem? (i := 397) (by decide +kernel)⟩
theorem lw_p29 : lw_okq (⟨"TieredLocksModel", "isRound", "(I)Z"⟩, 6) := ⟨⟨by decide +kernel, by decide +kernel⟩, List.mem_of_getElem? (i := 332) (by decide +kernel), List.mem_of_getElem? (i := 403) (by decide +kernel), List.mem_of_getElem? (i := 404) (by decide +kernel)⟩
theorem lw_p30 : lw_okq (⟨"TieredLocksModel", "waits", "(I)I"⟩, 6) := ⟨⟨by decide +kernel, by decide +kernel⟩, List.mem_of_getElem? (i := 332) (by decide +kernel), List.mem_of_getElem? (i := 407) (by decide +kernel), List.mem_of_getElem? (i := 408) (by decide +kernel)⟩
theorem lw_p31 : lw_okq (⟨"TieredLocksModel", "placeOf", "(II)I"⟩, 6) := ⟨⟨by decide +kernel, by decide +kernel⟩, List.mem_of_getElem? (i := 332) (by decide +kernel), List.mem_of_getElem? (i := 411) (by decide +kernel), List.mem_of_getElem? (i := 412) (by decide +kernel)⟩
def lw_privs_2 : List (MethodName × Nat) := [(⟨"TieredLocks", "isInCircle", "(I)Z"⟩, 4), (⟨"TieredLocks", "blockersOfAll", "(I)I"⟩, 4), (⟨"TieredLocks", "leaveQueue", "(I)V"⟩, 4), (⟨"TieredLocks", "holdsOnChild", "(II)Z"⟩, 4), (⟨"TieredLocks", "giveUp", "(II)I"⟩, 4), (⟨"TieredLocks", "serve", "(I)I"⟩, 4), (⟨"TieredLocks", "countBelow", "(II)I"⟩, 4), (⟨"TieredLocks", "writesWithin", "(II)Z"⟩, 4), (⟨"TieredLocks", "giveUpBelow", "(II)I"⟩, 4), (⟨"TieredLocksModel", "refuse", "(I)I"⟩, 6), (⟨"TieredLocksModel", "isCovered", "(III)Z"⟩, 6), (⟨"TieredLocksModel", "ask", "(III)I"⟩, 6), (⟨"TieredLocksModel", "fits", "(III)Z"⟩, 6), (⟨"TieredLocksModel", "isRound", "(I)Z"⟩, 6), (⟨"TieredLocksModel", "waits", "(I)I"⟩, 6), (⟨"TieredLocksModel", "placeOf", "(II)I"⟩, 6)]
theorem lw_r2 : ∀ q ∈ lw_privs_2, lw_okq q := List.forall_mem_cons.mpr ⟨lw_p16, List.forall_mem_cons.mpr ⟨lw_p17, List.forall_mem_cons.mpr ⟨lw_p18, List.forall_mem_cons.mpr ⟨lw_p19, List.forall_mem_cons.mpr ⟨lw_p20, List.forall_mem_cons.mpr ⟨lw_p21, List.forall_mem_cons.mpr ⟨lw_p22, List.forall_mem_cons.mpr ⟨lw_p23, List.forall_mem_cons.mpr ⟨lw_p24, List.forall_mem_cons.mpr ⟨lw_p25, List.forall_mem_cons.mpr ⟨lw_p26, List.forall_mem_cons.mpr ⟨lw_p27, List.forall_mem_cons.mpr ⟨lw_p28, List.forall_mem_cons.mpr ⟨lw_p29, List.forall_mem_cons.mpr ⟨lw_p30, List.forall_mem_cons.mpr ⟨lw_p31, fun _ h => absurd h List.not_mem_nil⟩⟩⟩⟩⟩⟩⟩⟩⟩⟩⟩⟩⟩⟩⟩⟩
theorem lw_p32 : lw_okq (⟨"TieredLocksModel", "leave", "(II)V"⟩, 6) := ⟨⟨by decide +kernel, by decide +kernel⟩, List.mem_of_getElem? (i := 332) (by decide +kernel), List.mem_of_getElem? (i := 415) (by decide +kernel), List.mem_of_getElem? (i := 416) (by decide +kernel)⟩
theorem lw_p33 : lw_okq (⟨"TieredLocksModel", "serve", "(I)I"⟩, 6) := ⟨⟨by decide +kernel, by decide +kernel⟩, List.mem_of_getElem? (i := 332) (by decide +kernel), List.mem_of_getElem? (i := 423) (by decide +kernel), List.mem_of_getElem? (i := 424) (by decide +kernel)⟩
def lw_privs_3 : List (MethodName × Nat) := [(⟨"TieredLocksModel", "leave", "(II)V"⟩, 6), (⟨"TieredLocksModel", "serve", "(I)I"⟩, 6)]
theorem lw_r3 : ∀ q ∈ lw_privs_3, lw_okq q := List.forall_mem_cons.mpr ⟨lw_p32, List.forall_mem_cons.mpr ⟨lw_p33, fun _ h => absurd h List.not_mem_nil⟩⟩
def lw_privs : List (MethodName × Nat) := lw_privs_1 ++ (lw_privs_2 ++ (lw_privs_3))
def lw_tbl : List Cond := k2_sels lw_privs ++ tables_1
theorem lw_privs_ok : ∀ q ∈ lw_privs, lw_okq q := by
  show ∀ q ∈ lw_privs_1 ++ (lw_privs_2 ++ (lw_privs_3)), lw_okq q
  exact List.forall_mem_append.mpr ⟨lw_r1, List.forall_mem_append.mpr ⟨lw_r2, lw_r3⟩⟩
end
section
/-! ===== BEGIN words of one list among another's, by their places ===== -/
theorem goodIn_r {big : List Cond} (ws : List Cond) (ps : List Nat) (hp : ws = ps.filterMap (fun i => big[i]?)) (h : ws.all goodWord = true) : GoodIn big ws := by
  intro w hw
  have h1 := List.all_eq_true.mp h w hw
  rw [hp] at hw
  obtain ⟨i, -, hi⟩ := List.mem_filterMap.mp hw
  have hm : w ∈ big := by first | exact List.mem_of_getElem? hi | exact List.getElem?_mem hi
  exact ⟨hm, good_of_word h1⟩
theorem goodIn_app {big a b : List Cond} (ha : GoodIn big a) (hb : GoodIn big b) : GoodIn big (a ++ b) := fun w h => (List.mem_append.mp h).elim (ha w) (hb w)
theorem goodIn_ca {big a b : List Cond} {c : Cond} (ha : GoodIn big (c :: a)) (hb : GoodIn big b) : GoodIn big (c :: (a ++ b)) := fun w h => (List.mem_cons.mp h).elim (fun e => ha w (List.mem_cons.mpr (Or.inl e))) (fun h => (List.mem_append.mp h).elim (fun h => ha w (List.mem_cons.mpr (Or.inr h))) (hb w))
theorem goodIn_sub {big ws : List Cond} (hm : ∀ w ∈ ws, w ∈ big) (h : ws.all goodWord = true) : GoodIn big ws := fun w hw => ⟨hm w hw, good_of_word (List.all_eq_true.mp h w hw)⟩
/-! ===== END ===== -/

/-! ===== BEGIN exceptions that leave a method, and their catching by the caller (launches without stack traces) ===== -/
section VXA
/-! The laws vx_back, vx_callV, vx_callS, vx_callSW, vx_throw0, vx_throwS follow proofs of the library, with one case more: JvmDerived/Free/Laws.lean (Back.of_free), Shelf42/LK1.lean (callV, callS), Shelf/KitTraced.lean (throwNew0V, throwNewS). -/
/-- where a method has thrown q: the class by its name, the cell, what was written, the world -/
def vx_T (XC : String → State → State → Prop) (st : State) (q : Addr) (t : State) (mc ms : Nat) (free : Addr → Prop) : Prop :=
  ∃ (E : String) (ce : Cell) (L : List Loc), XC E st t ∧ t.heap[q]? = some ce ∧ ce.vm = .none ∧ st.vm.findClass E = some ce.cls ∧ st.WarmedH t.vm ∧ st.sameButNew ({ t with vm := st.vm } : State) L mc ms ∧ ∀ z ∈ L, free z.base
def vx_Q (Qc : Array Value → State → Outcome → State → Prop) (XC : String → State → State → Prop) (mc ms : Nat) (free : Addr → Prop) : Array Value → State → Outcome → State → Prop := fun a st o t =>
  (Qc a st o t ∧ ∃ L, FrameEnd st o t L mc ms ∧ ∀ q ∈ L, free q.base) ∨ ∃ q, o = .threw q ∧ vx_T XC st q t mc ms free
/-- a callee that returns or throws -/
def vx_Met (l : Launch) (y : MethodName) (ws : List Cond) (rm : Room) (Pc : Array Value → State → Prop) (Qc : Array Value → State → Outcome → State → Prop) (XC : String → State → State → Prop) (mc ms : Nat) (free : Addr → Prop) : Prop :=
  MetFree l y (headSpec ws rm) Pc (fun _ _ _ _ _ => True) (vx_Q Qc XC mc ms free)
def vx_Post (XC : String → State → State → Prop) (mc ms : Nat) (free : Addr → Prop) : Pt → Array Value → Addr → Pt → Prop := fun A a q B =>
  ∃ (g : JFrame) (mk : MethodId) (t : State) (L : List Loc) (E : String) (ce : Cell), B.U.heap = t.heap ∧ B.U.vm = t.vm ∧ XC E (A.U.calling g mk a) t ∧ t.heap[q]? = some ce ∧ ce.vm = .none ∧ A.U.vm.findClass E = some ce.cls ∧ B.locs = A.locs ++ L ∧ (∀ z ∈ L, free z.base) ∧ B.cells = A.cells + mc ∧ B.slots = A.slots + ms
def vx_Back (l : Launch) (R : Room) (p : Program) (e : Env) (below : List Frame) (s : State) (sargs : Array Value) (y : MethodName) (len W9 : Nat)
    (Pre : Pt → Array Value → Prop) (Post : Pt → Array Value → Option Value → Pt → Prop) (PostX : Pt → Array Value → Addr → Pt → Prop) : Prop :=
  ∀ (m : MethodId) (meth : Method) (c : Code) (A : Pt) (g : JFrame) (ig : Instr) (mk : MethodId) (a : Array Value),
    Stand p l e R s m sargs below meth c A.U A.locs A.cells A.slots → g.method = m → g.locals.size = c.maxLocals → decode c.code g.pc = .ok (ig, len) →
    2 * g.monitorRoom + (g.stack.map fun v => v.category).sum ≤ W9 → A.U.methodNamed? y = some mk → Pre A a →
    (∃ (v : Option Value) (B : Pt), Stand p l e R s m sargs below meth c B.U B.locs B.cells B.slots ∧ Post A a v B ∧
      Steps p.tables e below (doInvoke e (A.U.setTop g) [] mk a).1 (B.U.setTop { g with pc := g.pc + len, stack := v.toList ++ g.stack })) ∨
    (∃ (q : Addr) (B : Pt), Stand p l e R s m sargs below meth c B.U B.locs B.cells B.slots ∧ PostX A a q B ∧
      Steps p.tables e below (doInvoke e (A.U.setTop g) [] mk a).1 ((B.U.setTop g).pushFrame (.throwing q)))
section Payer
variable {l : Launch} {R : Room} {p : Program} {e : Env} {below : List Frame} {s : State} {sargs : Array Value} {y : MethodName} {len W9 : Nat}
theorem vx_back {ws : List Cond} {rm : Room} {Pc : Array Value → State → Prop} {Qc : Array Value → State → Outcome → State → Prop} {XC : String → State → State → Prop} {mc ms : Nat} {free : Addr → Prop} {bytes : ByteArray} {maxL : Nat} {ret : Option FieldType}
    (hM : vx_Met l y ws rm Pc Qc XC mc ms free) (hblind : FrameBlind Pc) (hrc : rm.cells = mc) (hrs : rm.slots = ms)
    (hframes : rm.frames + 1 ≤ R.frames) (hlocals : W9 + (maxL + 11) + rm.locals ≤ R.locals)
    (hws : ∀ w ∈ ws, ∀ a' U, s.WarmedH U.vm → w.before a' U = true) (hcode : Cond.code y bytes maxL ret ∈ ws) (hinit : ∀ a' U, s.WarmedH U.vm → (Cond.initialized y.cls).before a' U = true) :
    vx_Back l R p e below s sargs y len W9 (PreOf R mc ms Pc) (PostOf Qc mc ms free) (vx_Post XC mc ms free) := by
  intro m meth c A g ig mk a X hg hsize hdg hW hn hp
  have h1 : (headSpec ws rm).pre.before a A.U = true := atoms_intro fun w hw => hws w hw _ _ X.warmed
  have h2 : (Cond.code y bytes maxL ret).before a A.U = true := hws _ hcode _ _ X.warmed
  have h3 : (Cond.initialized y.cls).before a A.U = true := hinit _ _ X.warmed
  have h4 : A.cells + (headSpec ws rm).room.cells ≤ R.cells := by rw [show (headSpec ws rm).room.cells = mc from hrc]; exact hp.1
  have h5 : A.slots + (headSpec ws rm).room.slots ≤ R.slots := by rw [show (headSpec ws rm).room.slots = ms from hrs]; exact hp.2.1
  have hPc : Pc a (A.U.calling g mk a) := hblind _ _ _ _ hp.2.2
  obtain ⟨U, Ls, c0, s0⟩ := A
  dsimp only [Pt.U, Pt.locs, Pt.cells, Pt.slots] at h1 h2 h3 h4 h5 X hn hPc ⊢
  obtain ⟨methY, cY, hmY, hcY, -, hlY, -, -, -, -⟩ := Cond.code_spec hn h2
  obtain ⟨kY, hkY, -⟩ := className_of_methodNamed hn
  have hinitY : kY.init = .initialized := Cond.initialized_spec (findClass_of_methodNamed hn) hkY h3
  have h : At U g.method c below := by rw [hg]; exact X.here
  have hlocals9 : W9 + (maxL + 11) + (headSpec ws rm).room.locals ≤ R.locals := hlocals
  have happ : (headSpec ws rm).appliesLoose y e.platform (U.calling g mk a) = true :=
    Spec.appliesLoose_calling (g := g) h hdg hn hkY hinitY
      (X.room_calling (g := g) (R' := (headSpec ws rm).room) hsize hmY hcY hframes (by rw [hlY]; omega) h4 h5) h1
  obtain ⟨mid, hmid⟩ := h.above
  have hfr : (U.setTop g).frames = (.java g :: mid) ++ below := by rw [State.frames_setTop' g h.top, hmid]; rfl
  obtain ⟨o, s₂, hsteps, -, hend, hq⟩ := Steps.callFree hM p X.admits X.cas X.clock (acts := []) hfr happ hPc trivial
  have hq' : vx_Q Qc XC mc ms free a (U.calling g mk a) o s₂ := hq
  rw [State.frames_setTop' g h.top] at hend
  obtain ⟨g₀, hg0⟩ := Option.isSome_iff_exists.mp h.top
  obtain ⟨r, hr⟩ := State.topJava?_eq_some.mp hg0
  have hr' : (({ U with heap := s₂.heap, slotsUsed := s₂.slotsUsed } : State).setVm s₂.vm).frames = .java g₀ :: r := hr
  rcases hq' with ⟨hqc, L, hfe, hL⟩ | ⟨q, rfl, E, ce, L, hx, hce, hcv, hcl, hW₂, hsm, hL⟩
  · obtain ⟨⟨v, rfl⟩, hW₂, e2, q2, q3, q4, q5, q6⟩ := id hfe
    have e3 : s₂ = ({ (U.calling g mk a).setFrames s₂.frames with heap := s₂.heap, slotsUsed := s₂.slotsUsed } : State).setVm s₂.vm := by
      have : s₂ = ({ s₂ with vm := (U.calling g mk a).vm } : State).setVm s₂.vm := rfl
      rw [e2] at this
      exact this
    obtain ⟨c₂, i₂, len₂, hc₂, hd₂, hf₂⟩ := hend
    have hW' : U.WarmedH s₂.vm := hW₂
    have hcc : c₂ = c := by
      have h1 : s₂.code? g.method = U.code? g.method := by
        rw [State.code?_eq, State.code?_eq, hW'.alike.method?]
      exact Option.some.inj (hc₂.symm.trans (h1.trans h.code))
    subst hcc
    have hlen : len₂ = len := by rw [hdg] at hd₂; cases hd₂; rfl
    subst hlen
    have hs₂ : s₂ = (({ U with heap := s₂.heap, slotsUsed := s₂.slotsUsed } : State).setVm s₂.vm).setTop { g with pc := g.pc + len₂, stack := v.toList ++ g.stack } := by
      refine e3.trans ?_
      rw [hf₂, State.calling_eq h.top, State.setFrames_setFrames, State.setTop_of_frames _ hr', hr]
      rfl
    have hsame : U.sameButNew ({ U with heap := s₂.heap, slotsUsed := s₂.slotsUsed } : State) L mc ms := by
      refine ⟨?_, q2, q3, q4, q5, q6⟩
      obtain ⟨t, ht, -⟩ := State.frames_cons hr
      show ({ U with heap := s₂.heap, slotsUsed := s₂.slotsUsed } : State) = { U.setFrames U.frames with heap := s₂.heap, slotsUsed := s₂.slotsUsed }
      rw [State.setFrames_self ht]
    subst hg
    refine Or.inl ⟨v, ⟨(({ U with heap := s₂.heap, slotsUsed := s₂.slotsUsed } : State).setVm s₂.vm), Ls ++ L, c0 + mc, s0 + ms⟩,
      ⟨X.admits, X.cas, X.clock, X.frames, X.room, X.hears, X.method, X.code, (X.here.setHeapUsed s₂.heap s₂.slotsUsed).setVm hW'.alike, X.tail, State.WarmedH.trans X.warmed hW', X.limits, X.bytes, X.same.trans (hsame.setVm s.vm)⟩,
      ⟨g, mk, s₂, L, rfl, rfl, hqc, rfl, hL, rfl, rfl⟩, ?_⟩
    show Steps p.tables e below _ ((({ U with heap := s₂.heap, slotsUsed := s₂.slotsUsed } : State).setVm s₂.vm).setTop { g with pc := g.pc + len₂, stack := v.toList ++ g.stack })
    rw [← hs₂]
    exact hsteps
  · obtain ⟨e2, q2, q3, q4, q5, q6⟩ := id hsm
    have e3 : s₂ = ({ (U.calling g mk a).setFrames s₂.frames with heap := s₂.heap, slotsUsed := s₂.slotsUsed } : State).setVm s₂.vm := by
      have : s₂ = ({ s₂ with vm := (U.calling g mk a).vm } : State).setVm s₂.vm := rfl
      rw [e2] at this
      exact this
    have hf₂ : s₂.frames = .throwing q :: .java g :: U.frames.tail := hend
    have hW' : U.WarmedH s₂.vm := hW₂
    have hs₂ : s₂ = ((({ U with heap := s₂.heap, slotsUsed := s₂.slotsUsed } : State).setVm s₂.vm).setTop g).pushFrame (.throwing q) := by
      refine e3.trans ?_
      rw [hf₂, State.calling_eq h.top, State.setFrames_setFrames, State.pushFrame, State.frames_setTop _ hr', State.setTop_of_frames _ hr', State.setFrames_setFrames, hr]
      rfl
    have hsame : U.sameButNew ({ U with heap := s₂.heap, slotsUsed := s₂.slotsUsed } : State) L mc ms := by
      refine ⟨?_, q2, q3, q4, q5, q6⟩
      obtain ⟨t, ht, -⟩ := State.frames_cons hr
      show ({ U with heap := s₂.heap, slotsUsed := s₂.slotsUsed } : State) = { U.setFrames U.frames with heap := s₂.heap, slotsUsed := s₂.slotsUsed }
      rw [State.setFrames_self ht]
    subst hg
    refine Or.inr ⟨q, ⟨(({ U with heap := s₂.heap, slotsUsed := s₂.slotsUsed } : State).setVm s₂.vm), Ls ++ L, c0 + mc, s0 + ms⟩,
      ⟨X.admits, X.cas, X.clock, X.frames, X.room, X.hears, X.method, X.code, (X.here.setHeapUsed s₂.heap s₂.slotsUsed).setVm hW'.alike, X.tail, State.WarmedH.trans X.warmed hW', X.limits, X.bytes, X.same.trans (hsame.setVm s.vm)⟩,
      ⟨g, mk, s₂, L, E, ce, rfl, rfl, hx, hce, hcv, hcl, rfl, hL, rfl, rfl⟩, ?_⟩
    show Steps p.tables e below _ (((({ U with heap := s₂.heap, slotsUsed := s₂.slotsUsed } : State).setVm s₂.vm).setTop g).pushFrame (.throwing q))
    rw [← hs₂]
    exact hsteps
end Payer
section Calls
variable {p : Program} {l : Launch} {e : Env} {R : Room} {s : State} {m : MethodId} {args : Array Value} {below : List Frame} {meth : Method} {c : Code} {T : State} {locs : List Loc} {cells slots : Nat}
theorem vx_callV (X : Stand p l e R s m args below meth c T locs cells slots) (hexec : p.tables.exec = Jvm.exec) {own C : String} {index : Nat} {y : MethodName} {bytes : ByteArray} {maxL : Nat} {ret : Option FieldType}
    (hown : s.vm.findClass own = some m.cls) (hlink : (Cond.methodLink own index y).before args s = true) (hinst : (Cond.instanceMethod y).before args s = true) (hsel : (Cond.selects C y y).before args s = true)
    (hcode : (Cond.code y bytes maxL ret).before args s = true) (hy : y.cls ≠ "java/lang/invoke/MethodHandle" ∧ y.cls ≠ "java/lang/invoke/VarHandle")
    {W9 : Nat} {Pre : Pt → Array Value → Prop} {Post : Pt → Array Value → Option Value → Pt → Prop} {PostX : Pt → Array Value → Addr → Pt → Prop} (hK : vx_Back l R p e below s args y 3 W9 Pre Post PostX)
    {b : Addr} {cellB : Cell} (hcell : T.heap[b]? = some cellB) (hobj : cellB.vm.isStatics = false) (hcls : s.vm.findClass C = some cellB.cls)
    {g : JFrame} (hg : g.method = m) (hsize : g.locals.size = c.maxLocals) {argsL rest : List Value} (hlen : ∀ sig, parseMethodDescriptor y.desc = some sig → argsL.length = sig.parameters.length)
    (hstack : g.stack = argsL.reverse ++ .ref b :: rest) (hW : 2 * g.monitorRoom + (rest.map fun v => v.category).sum ≤ W9) (hdg : decode c.code g.pc = .ok (.invokevirtual index, 3))
    (hpre : ∀ vm₁, s.WarmedH vm₁ → Pre ⟨T.setVm vm₁, locs, cells, slots⟩ (Value.ref b :: argsL).toArray) :
    (∃ (v : Option Value) (vm₁ : Vm) (B : Pt), s.WarmedH vm₁ ∧ Stand p l e R s m args below meth c B.U B.locs B.cells B.slots ∧ Post ⟨T.setVm vm₁, locs, cells, slots⟩ (Value.ref b :: argsL).toArray v B ∧
      ∀ target, Steps p.tables e below (B.U.setTop { g with pc := g.pc + 3, stack := v.toList ++ rest }) target → Steps p.tables e below (T.setTop g) target) ∨
    (∃ (q : Addr) (vm₁ : Vm) (B : Pt), s.WarmedH vm₁ ∧ Stand p l e R s m args below meth c B.U B.locs B.cells B.slots ∧ PostX ⟨T.setVm vm₁, locs, cells, slots⟩ (Value.ref b :: argsL).toArray q B ∧
      Steps p.tables e below (T.setTop g) ((B.U.setTop { g with stack := rest }).pushFrame (.throwing q))) := by
  obtain ⟨mk, methM, hnamed, hmethM, hstM, habM⟩ := Cond.instanceMethod_spec hinst
  obtain ⟨methM', cM, hmethM', -, -, -, -, -, -, hsigM⟩ := Cond.code_spec hnamed hcode
  cases hmethM.symm.trans hmethM'
  obtain ⟨c2, r2, m2, q1, q2, q3, q4, kP, hkP, hkPi⟩ := Cond.selects_spec hsel
  cases hcls.symm.trans q1
  cases (State.methodFound?_of_named hnamed hy).symm.trans q2
  cases hnamed.symm.trans q3
  have hselP : selectMethod e.platform s.vm cellB.cls mk = .method mk := by rw [Launch.admits_selectMethod X.admits]; exact q4
  obtain ⟨vm₁, X₁, hstep₁⟩ := X.invokevirtual hexec hown hlink hnamed hmethM hstM hkP hkPi hy (a := b) (cell := cellB) hcell
    (fun z h => by rw [h] at hobj; cases hobj) hselP hmethM habM hkP hkPi (g := g) hg (argsL := argsL) (rest := rest) (hlen _ hsigM) hstack hdg
  rcases hK m meth c ⟨T.setVm vm₁, locs, cells, slots⟩ { g with stack := rest } (.invokevirtual index) mk (Value.ref b :: argsL).toArray X₁ hg hsize hdg hW (X₁.named hnamed) (hpre vm₁ X₁.warmed) with ⟨v, B, X', hpost, hsteps⟩ | ⟨q, B, X', hpost, hsteps⟩
  · exact Or.inl ⟨v, vm₁, B, X₁.warmed, X', hpost, fun target h => hstep₁ _ fun acts => by rw [doInvoke_state]; exact hsteps.trans h⟩
  · exact Or.inr ⟨q, vm₁, B, X₁.warmed, X', hpost, hstep₁ _ fun acts => by rw [doInvoke_state]; exact hsteps⟩
theorem vx_callS (X : Stand p l e R s m args below meth c T locs cells slots) (hexec : p.tables.exec = Jvm.exec) {own : String} {index : Nat} {y : MethodName} {bytes : ByteArray} {maxL : Nat} {ret : Option FieldType}
    (hown : s.vm.findClass own = some m.cls) (hlink : (Cond.methodLink own index y).before args s = true) (hstat : (Cond.static y).before args s = true) (hinit : (Cond.initialized y.cls).before args s = true)
    (hcode : (Cond.code y bytes maxL ret).before args s = true) (hy : y.cls ≠ "java/lang/invoke/MethodHandle" ∧ y.cls ≠ "java/lang/invoke/VarHandle")
    {W9 : Nat} {Pre : Pt → Array Value → Prop} {Post : Pt → Array Value → Option Value → Pt → Prop} {PostX : Pt → Array Value → Addr → Pt → Prop} (hK : vx_Back l R p e below s args y 3 W9 Pre Post PostX)
    {g : JFrame} (hg : g.method = m) (hsize : g.locals.size = c.maxLocals) {argsL rest : List Value} (hlen : ∀ sig, parseMethodDescriptor y.desc = some sig → argsL.length = sig.parameters.length)
    (hstack : g.stack = argsL.reverse ++ rest) (hW : 2 * g.monitorRoom + (rest.map fun v => v.category).sum ≤ W9) (hdg : decode c.code g.pc = .ok (.invokestatic index, 3))
    (hpre : ∀ vm₁, s.WarmedH vm₁ → Pre ⟨T.setVm vm₁, locs, cells, slots⟩ argsL.toArray) :
    (∃ (v : Option Value) (vm₁ : Vm) (B : Pt), s.WarmedH vm₁ ∧ Stand p l e R s m args below meth c B.U B.locs B.cells B.slots ∧ Post ⟨T.setVm vm₁, locs, cells, slots⟩ argsL.toArray v B ∧
      ∀ target, Steps p.tables e below (B.U.setTop { g with pc := g.pc + 3, stack := v.toList ++ rest }) target → Steps p.tables e below (T.setTop g) target) ∨
    (∃ (q : Addr) (vm₁ : Vm) (B : Pt), s.WarmedH vm₁ ∧ Stand p l e R s m args below meth c B.U B.locs B.cells B.slots ∧ PostX ⟨T.setVm vm₁, locs, cells, slots⟩ argsL.toArray q B ∧
      Steps p.tables e below (T.setTop g) ((B.U.setTop { g with stack := rest }).pushFrame (.throwing q))) := by
  obtain ⟨mk, hnamed⟩ := Cond.code_named hcode
  obtain ⟨methM, cM, hmethM, -, -, -, -, -, -, hsigM⟩ := Cond.code_spec hnamed hcode
  have hstatic : methM.isStatic = true := Cond.static_spec hnamed hmethM hstat
  obtain ⟨kP, hkP, -⟩ := className_of_methodNamed hnamed
  have hinitP : kP.init = .initialized := Cond.initialized_spec (findClass_of_methodNamed hnamed) hkP hinit
  obtain ⟨vm₁, X₁, hstep₁⟩ := X.invokestatic hexec hown hlink hnamed hmethM hstatic hkP hinitP hy (g := g) hg (argsL := argsL) (rest := rest) (hlen _ hsigM) hstack hdg
  rcases hK m meth c ⟨T.setVm vm₁, locs, cells, slots⟩ { g with stack := rest } (.invokestatic index) mk argsL.toArray X₁ hg hsize hdg hW (X₁.named hnamed) (hpre vm₁ X₁.warmed) with ⟨v, B, X', hpost, hsteps⟩ | ⟨q, B, X', hpost, hsteps⟩
  · exact Or.inl ⟨v, vm₁, B, X₁.warmed, X', hpost, fun target h => hstep₁ _ fun acts => by rw [doInvoke_state]; exact hsteps.trans h⟩
  · exact Or.inr ⟨q, vm₁, B, X₁.warmed, X', hpost, hstep₁ _ fun acts => by rw [doInvoke_state]; exact hsteps⟩
end Calls
theorem vx_cls {s : State} {T : State} {vm₁ : Vm} {E : String} {k : ClassId} (hW : s.WarmedH vm₁) (h : (T.setVm vm₁).vm.findClass E = some k) : s.vm.findClass E = some k := by
  have h1 : vm₁.findClass E = some k := h
  rw [hW.alike.findClass] at h1
  exact h1
/-- the method's frame g, with q thrown over it -/
def vx_W (p : Program) (l : Launch) (e : Env) (R : Room) (s : State) (m : MethodId) (args : Array Value) (below : List Frame) (meth : Method) (c : Code) (H : Heap) (locs : List Loc) (cells slots : Nat) (Q : State → Prop) (g : JFrame) (q : Addr) : Prop :=
  ∀ T : State, T.heap = H → Stand p l e R s m args below meth c T locs cells slots → ∃ t, Steps p.tables e below ((T.setTop g).pushFrame (.throwing q)) t ∧ Q t
def vx_Run (p : Program) (l : Launch) (e : Env) (R : Room) (s : State) (m : MethodId) (args : Array Value) (below : List Frame) (meth : Method) (c : Code) (H : Heap) (locs : List Loc) (cells slots mc ms : Nat) (g : JFrame) (rest : List Value) (Qa : State → Outcome → State → Prop) (XC : String → State → State → Prop) (free : Addr → Prop) : Prop :=
  ∀ T : State, T.heap = H → Stand p l e R s m args below meth c T locs cells slots →
    (∃ (v : Option Value) (st₀ t T' : State) (L : List Loc), st₀.heap = H ∧ Stand p l e R s m args below meth c T' (locs ++ L) (cells + mc) (slots + ms) ∧ (∀ q ∈ L, free q.base) ∧ T'.heap = t.heap ∧ T'.vm = t.vm ∧ Qa st₀ (.returned v) t ∧
      Goes p e below T g T' { g with pc := g.pc + 3, stack := v.toList ++ rest }) ∨
    (∃ (q : Addr) (st₀ t T' : State) (L : List Loc) (E : String) (ce : Cell), st₀.heap = H ∧ Stand p l e R s m args below meth c T' (locs ++ L) (cells + mc) (slots + ms) ∧ (∀ z ∈ L, free z.base) ∧ T'.heap = t.heap ∧ T'.vm = t.vm ∧ XC E st₀ t ∧ t.heap[q]? = some ce ∧ ce.vm = .none ∧ s.vm.findClass E = some ce.cls ∧
      Steps p.tables e below (T.setTop g) ((T'.setTop { g with stack := rest }).pushFrame (.throwing q)))
def vx_X {S : Type} (px : S → Prop) (B : String → S → State → Prop) (A : Nat → Prop) : String → State → State → Prop := fun E st t => ∃ u : S, px u ∧ B E u t ∧ va_F A st t
section Runs
variable {p : Program} {l : Launch} {e : Env} {R : Room} {s : State} {m : MethodId} {args : Array Value} {below : List Frame} {meth : Method} {c : Code} {H : Heap} {locs : List Loc} {cells slots : Nat}
variable {y : MethodName} {bytes cc : ByteArray} {maxL nL mc ms n index : Nat} {ret : Option FieldType} {ws : List Cond} {rm : Room} {Pc : Array Value → State → Prop} {Qc : Array Value → State → Outcome → State → Prop} {XC : String → State → State → Prop} {free : Addr → Prop} {Ts : List Cond} {own C : String} {b : Addr} {As rest : List Value} {g : JFrame}
theorem vx_callBack (cb : CallB R s args own index y bytes maxL ret ws rm mc ms n) (hM : vx_Met l y ws rm Pc Qc XC mc ms free) (hbl : FrameBlind Pc) : vx_Back l R p e below s args y 3 8 (PreOf R mc ms Pc) (PostOf Qc mc ms free) (vx_Post XC mc ms free) := by
  obtain ⟨hrc, hrs, hfr, hlo, hws, hcw, -, hini, -⟩ := cb
  exact vx_back (bytes := bytes) (maxL := maxL) (ret := ret) hM hbl hrc hrs hfr hlo hws hcw (fun a' U hW => word_at hW (Or.inl (by first | rfl | simp [Cond.onTables, Cond.keeps, Cond.steady])) hini)
theorem vx_runV (S : CallFix p m c cc nL s args Ts own) (hM : vx_Met l y ws rm Pc Qc XC mc ms free) (cw : CallW R s args own C index y bytes maxL ret ws rm mc ms n) (hp : PreV s H C b Pc As)
    (hg : g.method = m) (hn : As.length = n) (hsize : g.locals.size = nL) (hstack : g.stack = As.reverse ++ .ref b :: rest) (hW : 2 * g.monitorRoom + (rest.map fun v => v.category).sum ≤ 8) (hdg : decode cc g.pc = .ok (.invokevirtual index, 3)) (hf : cells + mc ≤ R.cells ∧ slots + ms ≤ R.slots) :
    vx_Run p l e R s m args below meth c H locs cells slots mc ms g rest (Qc (Value.ref b :: As).toArray) XC free := by
  have hK : vx_Back l R p e below s args y 3 8 (PreOf R mc ms Pc) (PostOf Qc mc ms free) (vx_Post XC mc ms free) := vx_callBack cw.1 hM hp.1
  obtain ⟨⟨-, -, -, -, -, -, hcode, -, hy, hlen, hl⟩, hin, hse⟩ := cw
  obtain ⟨hx, hb, hml, ho, -⟩ := S
  obtain ⟨-, ⟨cellB, hcB, hoB, hclB⟩, hPc⟩ := hp
  intro T hT X
  rcases vx_callV X hx (C := C) (bytes := bytes) (maxL := maxL) (ret := ret) ho hl hin hse hcode hy hK (by rw [hT]; exact hcB) hoB hclB hg (hsize.trans hml.symm) (argsL := As) (rest := rest) (fun sig h => hn.trans (hlen sig h)) hstack hW (by rw [hb]; exact hdg)
    (fun vm₁ hW₁ => ⟨hf.1, hf.2, hPc (T.setVm vm₁) hT hW₁⟩) with ⟨v, vm₁, ⟨U', l2, c2, s2⟩, hW₁, X', ⟨g', mk, t, L, e1, e2, hq, h1, hL, h2, h3⟩, st⟩ | ⟨q, vm₁, ⟨U', l2, c2, s2⟩, hW₁, X', ⟨g', mk, t, L, E, ce, e1, e2, hq, hce, hcv, hcl, h1, hL, h2, h3⟩, st⟩
  · dsimp only [Pt.U, Pt.locs, Pt.cells, Pt.slots] at X' e1 e2 h1 h2 h3 st
    subst h1; subst h2; subst h3
    exact Or.inl ⟨v, (T.setVm vm₁).calling g' mk (Value.ref b :: As).toArray, t, U', L, hT, X', hL, e1, e2, hq, st⟩
  · dsimp only [Pt.U, Pt.locs, Pt.cells, Pt.slots] at X' e1 e2 h1 h2 h3 st hcl
    subst h1; subst h2; subst h3
    exact Or.inr ⟨q, (T.setVm vm₁).calling g' mk (Value.ref b :: As).toArray, t, U', L, E, ce, hT, X', hL, e1, e2, hq, hce, hcv, vx_cls hW₁ hcl, st⟩
theorem vx_runS (S : CallFix p m c cc nL s args Ts own) (hM : vx_Met l y ws rm Pc Qc XC mc ms free) (cw : CallB R s args own index y bytes maxL ret ws rm mc ms n ∧ (Cond.static y).before args s = true) (hp : PreS s H Pc As)
    (hg : g.method = m) (hn : As.length = n) (hsize : g.locals.size = nL) (hstack : g.stack = As.reverse ++ rest) (hW : 2 * g.monitorRoom + (rest.map fun v => v.category).sum ≤ 8) (hdg : decode cc g.pc = .ok (.invokestatic index, 3)) (hf : cells + mc ≤ R.cells ∧ slots + ms ≤ R.slots) :
    vx_Run p l e R s m args below meth c H locs cells slots mc ms g rest (Qc As.toArray) XC free := by
  have hK : vx_Back l R p e below s args y 3 8 (PreOf R mc ms Pc) (PostOf Qc mc ms free) (vx_Post XC mc ms free) := vx_callBack cw.1 hM hp.1
  obtain ⟨⟨-, -, -, -, -, -, hcode, hini, hy, hlen, hl⟩, hstt⟩ := cw
  obtain ⟨hx, hb, hml, ho, -⟩ := S
  intro T hT X
  rcases vx_callS X hx (bytes := bytes) (maxL := maxL) (ret := ret) ho hl hstt hini hcode hy hK hg (hsize.trans hml.symm) (argsL := As) (rest := rest) (fun sig h => hn.trans (hlen sig h)) hstack hW (by rw [hb]; exact hdg)
    (fun vm₁ hW₁ => ⟨hf.1, hf.2, hp.2 (T.setVm vm₁) hT hW₁⟩) with ⟨v, vm₁, ⟨U', l2, c2, s2⟩, hW₁, X', ⟨g', mk, t, L, e1, e2, hq, h1, hL, h2, h3⟩, st⟩ | ⟨q, vm₁, ⟨U', l2, c2, s2⟩, hW₁, X', ⟨g', mk, t, L, E, ce, e1, e2, hq, hce, hcv, hcl, h1, hL, h2, h3⟩, st⟩
  · dsimp only [Pt.U, Pt.locs, Pt.cells, Pt.slots] at X' e1 e2 h1 h2 h3 st
    subst h1; subst h2; subst h3
    exact Or.inl ⟨v, (T.setVm vm₁).calling g' mk As.toArray, t, U', L, hT, X', hL, e1, e2, hq, st⟩
  · dsimp only [Pt.U, Pt.locs, Pt.cells, Pt.slots] at X' e1 e2 h1 h2 h3 st hcl
    subst h1; subst h2; subst h3
    exact Or.inr ⟨q, (T.setVm vm₁).calling g' mk As.toArray, t, U', L, E, ce, hT, X', hL, e1, e2, hq, hce, hcv, vx_cls hW₁ hcl, st⟩
end Runs
section Rows
variable {p : Program} {l : Launch} {e : Env} {R : Room} {s : State} {m : MethodId} {args : Array Value} {below : List Frame} {meth : Method} {c : Code} {H : Heap} {locs : List Loc} {cells slots : Nat} {Q : State → Prop}
variable {mc ms : Nat} {free : Addr → Prop} {A0 A1 : Nat → Prop} {H0 : Heap} {a : Array Value} {pc : Nat} {ls : Array Slot} {st0 rest : List Value}
theorem vx_keep {st₀ t T' : State} {L : List Loc} (h0 : st₀.heap = H) (e1 : T'.heap = t.heap) (hS : va_S A0 H0 H locs) (hA : ∀ q, q < H.size → A1 q → A0 q) (hf : ∀ q, free q → A0 q) (hL : ∀ q ∈ L, free q.base) (hF : va_F A1 st₀ t) :
    H.size ≤ T'.heap.size ∧ (∀ q : Nat, q < H.size → ¬ A1 q → T'.heap[q]? = H[q]?) ∧ va_S A0 H0 T'.heap (locs ++ L) := by
  obtain ⟨hz, hk⟩ := hF
  rw [h0] at hz hk
  exact ⟨by rw [e1]; exact hz, fun q h1 h2 => by rw [e1]; exact hk q h1 h2,
    ⟨Nat.le_trans hS.1 (by rw [e1]; exact hz), fun q h1 h2 => by rw [e1, hk q (Nat.lt_of_lt_of_le h1 hS.1) (fun z => h2 (hA q (Nat.lt_of_lt_of_le h1 hS.1) z))]; exact hS.2.1 q h1 h2, fun q hq => by
      rcases List.mem_append.mp hq with h | h
      · exact hS.2.2 q h
      · exact hf _ (hL q h)⟩⟩
theorem vx_calli {S SX : Type} {post : Int32 → S → Prop} {px : SX → Prop} {B : S → State → Prop} {BX : String → SX → State → Prop} {AX : Nat → Prop} (hr : vx_Run p l e R s m args below meth c H locs cells slots mc ms (F0 m pc ls st0) rest (va_Qi post B A1 a) (vx_X px BX AX) free) (hS : va_S A0 H0 H locs) (hA : ∀ q, q < H.size → A1 q → A0 q) (hf : ∀ q, free q → A0 q) (hAX : ∀ q, q < H.size → AX q → A0 q)
    (kx : ∀ (E : String) (ce : Cell) (q9 : Addr) (u : SX) (t : State) (H1 : Heap) (locs1 : List Loc), t.heap = H1 → s.vm.Alike t.vm → px u → BX E u t → H.size ≤ H1.size → (∀ q : Nat, q < H.size → ¬ AX q → H1[q]? = H[q]?) → va_S A0 H0 H1 locs1 → H1[q9]? = some ce → ce.vm = .none → s.vm.findClass E = some ce.cls → vx_W p l e R s m args below meth c H1 locs1 (cells + mc) (slots + ms) Q (F0 m pc ls rest) q9)
    (kk : ∀ (r : Int32) (u : S) (t : State) (H1 : Heap) (locs1 : List Loc), t.heap = H1 → s.vm.Alike t.vm → post r u → B u t → H.size ≤ H1.size → (∀ q : Nat, q < H.size → ¬ A1 q → H1[q]? = H[q]?) → va_S A0 H0 H1 locs1 → W p l e R s m args below meth c H1 locs1 (cells + mc) (slots + ms) Q (F0 m (pc + 3) ls (.int r :: rest))) : W p l e R s m args below meth c H locs cells slots Q (F0 m pc ls st0) := by
  intro T hT X
  rcases hr T hT X with ⟨v, st₀, t, T', L, h0, X', hL, e1, e2, ⟨⟨r, u, hv, hp, hb⟩, hF⟩, st⟩ | ⟨q, st₀, t, T', L, E, ce, h0, X', hL, e1, e2, ⟨u, hp, hb, hF⟩, hce, hcv, hcl, st⟩
  · cases hv
    obtain ⟨k1, k2, k3⟩ := vx_keep h0 e1 hS hA hf hL hF
    obtain ⟨t2, a1, b1⟩ := kk r u t T'.heap (locs ++ L) e1.symm (by rw [← e2]; exact X'.warmed.alike) hp hb k1 k2 k3 T' rfl X'
    exact ⟨t2, st t2 a1, b1⟩
  · obtain ⟨k1, k2, k3⟩ := vx_keep h0 e1 hS hAX hf hL hF
    obtain ⟨t2, a1, b1⟩ := kx E ce q u t T'.heap (locs ++ L) e1.symm (by rw [← e2]; exact X'.warmed.alike) hp hb k1 k2 k3 (by rw [e1]; exact hce) hcv hcl T' rfl X'
    exact ⟨t2, st.trans a1, b1⟩
theorem vx_calll {S SX : Type} {post : Int64 → S → Prop} {px : SX → Prop} {B : S → State → Prop} {BX : String → SX → State → Prop} {AX : Nat → Prop} (hr : vx_Run p l e R s m args below meth c H locs cells slots mc ms (F0 m pc ls st0) rest (va_Ql post B A1 a) (vx_X px BX AX) free) (hS : va_S A0 H0 H locs) (hA : ∀ q, q < H.size → A1 q → A0 q) (hf : ∀ q, free q → A0 q) (hAX : ∀ q, q < H.size → AX q → A0 q)
    (kx : ∀ (E : String) (ce : Cell) (q9 : Addr) (u : SX) (t : State) (H1 : Heap) (locs1 : List Loc), t.heap = H1 → s.vm.Alike t.vm → px u → BX E u t → H.size ≤ H1.size → (∀ q : Nat, q < H.size → ¬ AX q → H1[q]? = H[q]?) → va_S A0 H0 H1 locs1 → H1[q9]? = some ce → ce.vm = .none → s.vm.findClass E = some ce.cls → vx_W p l e R s m args below meth c H1 locs1 (cells + mc) (slots + ms) Q (F0 m pc ls rest) q9)
    (kk : ∀ (r : Int64) (u : S) (t : State) (H1 : Heap) (locs1 : List Loc), t.heap = H1 → s.vm.Alike t.vm → post r u → B u t → H.size ≤ H1.size → (∀ q : Nat, q < H.size → ¬ A1 q → H1[q]? = H[q]?) → va_S A0 H0 H1 locs1 → W p l e R s m args below meth c H1 locs1 (cells + mc) (slots + ms) Q (F0 m (pc + 3) ls (.long r :: rest))) : W p l e R s m args below meth c H locs cells slots Q (F0 m pc ls st0) := by
  intro T hT X
  rcases hr T hT X with ⟨v, st₀, t, T', L, h0, X', hL, e1, e2, ⟨⟨r, u, hv, hp, hb⟩, hF⟩, st⟩ | ⟨q, st₀, t, T', L, E, ce, h0, X', hL, e1, e2, ⟨u, hp, hb, hF⟩, hce, hcv, hcl, st⟩
  · cases hv
    obtain ⟨k1, k2, k3⟩ := vx_keep h0 e1 hS hA hf hL hF
    obtain ⟨t2, a1, b1⟩ := kk r u t T'.heap (locs ++ L) e1.symm (by rw [← e2]; exact X'.warmed.alike) hp hb k1 k2 k3 T' rfl X'
    exact ⟨t2, st t2 a1, b1⟩
  · obtain ⟨k1, k2, k3⟩ := vx_keep h0 e1 hS hAX hf hL hF
    obtain ⟨t2, a1, b1⟩ := kx E ce q u t T'.heap (locs ++ L) e1.symm (by rw [← e2]; exact X'.warmed.alike) hp hb k1 k2 k3 (by rw [e1]; exact hce) hcv hcl T' rfl X'
    exact ⟨t2, st.trans a1, b1⟩
theorem vx_callf {S SX : Type} {post : UInt32 → S → Prop} {px : SX → Prop} {B : S → State → Prop} {BX : String → SX → State → Prop} {AX : Nat → Prop} (hr : vx_Run p l e R s m args below meth c H locs cells slots mc ms (F0 m pc ls st0) rest (va_Qf post B A1 a) (vx_X px BX AX) free) (hS : va_S A0 H0 H locs) (hA : ∀ q, q < H.size → A1 q → A0 q) (hf : ∀ q, free q → A0 q) (hAX : ∀ q, q < H.size → AX q → A0 q)
    (kx : ∀ (E : String) (ce : Cell) (q9 : Addr) (u : SX) (t : State) (H1 : Heap) (locs1 : List Loc), t.heap = H1 → s.vm.Alike t.vm → px u → BX E u t → H.size ≤ H1.size → (∀ q : Nat, q < H.size → ¬ AX q → H1[q]? = H[q]?) → va_S A0 H0 H1 locs1 → H1[q9]? = some ce → ce.vm = .none → s.vm.findClass E = some ce.cls → vx_W p l e R s m args below meth c H1 locs1 (cells + mc) (slots + ms) Q (F0 m pc ls rest) q9)
    (kk : ∀ (r : UInt32) (u : S) (t : State) (H1 : Heap) (locs1 : List Loc), t.heap = H1 → s.vm.Alike t.vm → post r u → B u t → H.size ≤ H1.size → (∀ q : Nat, q < H.size → ¬ A1 q → H1[q]? = H[q]?) → va_S A0 H0 H1 locs1 → W p l e R s m args below meth c H1 locs1 (cells + mc) (slots + ms) Q (F0 m (pc + 3) ls (.float r :: rest))) : W p l e R s m args below meth c H locs cells slots Q (F0 m pc ls st0) := by
  intro T hT X
  rcases hr T hT X with ⟨v, st₀, t, T', L, h0, X', hL, e1, e2, ⟨⟨r, u, hv, hp, hb⟩, hF⟩, st⟩ | ⟨q, st₀, t, T', L, E, ce, h0, X', hL, e1, e2, ⟨u, hp, hb, hF⟩, hce, hcv, hcl, st⟩
  · cases hv
    obtain ⟨k1, k2, k3⟩ := vx_keep h0 e1 hS hA hf hL hF
    obtain ⟨t2, a1, b1⟩ := kk r u t T'.heap (locs ++ L) e1.symm (by rw [← e2]; exact X'.warmed.alike) hp hb k1 k2 k3 T' rfl X'
    exact ⟨t2, st t2 a1, b1⟩
  · obtain ⟨k1, k2, k3⟩ := vx_keep h0 e1 hS hAX hf hL hF
    obtain ⟨t2, a1, b1⟩ := kx E ce q u t T'.heap (locs ++ L) e1.symm (by rw [← e2]; exact X'.warmed.alike) hp hb k1 k2 k3 (by rw [e1]; exact hce) hcv hcl T' rfl X'
    exact ⟨t2, st.trans a1, b1⟩
theorem vx_calld {S SX : Type} {post : UInt64 → S → Prop} {px : SX → Prop} {B : S → State → Prop} {BX : String → SX → State → Prop} {AX : Nat → Prop} (hr : vx_Run p l e R s m args below meth c H locs cells slots mc ms (F0 m pc ls st0) rest (va_Qd post B A1 a) (vx_X px BX AX) free) (hS : va_S A0 H0 H locs) (hA : ∀ q, q < H.size → A1 q → A0 q) (hf : ∀ q, free q → A0 q) (hAX : ∀ q, q < H.size → AX q → A0 q)
    (kx : ∀ (E : String) (ce : Cell) (q9 : Addr) (u : SX) (t : State) (H1 : Heap) (locs1 : List Loc), t.heap = H1 → s.vm.Alike t.vm → px u → BX E u t → H.size ≤ H1.size → (∀ q : Nat, q < H.size → ¬ AX q → H1[q]? = H[q]?) → va_S A0 H0 H1 locs1 → H1[q9]? = some ce → ce.vm = .none → s.vm.findClass E = some ce.cls → vx_W p l e R s m args below meth c H1 locs1 (cells + mc) (slots + ms) Q (F0 m pc ls rest) q9)
    (kk : ∀ (r : UInt64) (u : S) (t : State) (H1 : Heap) (locs1 : List Loc), t.heap = H1 → s.vm.Alike t.vm → post r u → B u t → H.size ≤ H1.size → (∀ q : Nat, q < H.size → ¬ A1 q → H1[q]? = H[q]?) → va_S A0 H0 H1 locs1 → W p l e R s m args below meth c H1 locs1 (cells + mc) (slots + ms) Q (F0 m (pc + 3) ls (.double r :: rest))) : W p l e R s m args below meth c H locs cells slots Q (F0 m pc ls st0) := by
  intro T hT X
  rcases hr T hT X with ⟨v, st₀, t, T', L, h0, X', hL, e1, e2, ⟨⟨r, u, hv, hp, hb⟩, hF⟩, st⟩ | ⟨q, st₀, t, T', L, E, ce, h0, X', hL, e1, e2, ⟨u, hp, hb, hF⟩, hce, hcv, hcl, st⟩
  · cases hv
    obtain ⟨k1, k2, k3⟩ := vx_keep h0 e1 hS hA hf hL hF
    obtain ⟨t2, a1, b1⟩ := kk r u t T'.heap (locs ++ L) e1.symm (by rw [← e2]; exact X'.warmed.alike) hp hb k1 k2 k3 T' rfl X'
    exact ⟨t2, st t2 a1, b1⟩
  · obtain ⟨k1, k2, k3⟩ := vx_keep h0 e1 hS hAX hf hL hF
    obtain ⟨t2, a1, b1⟩ := kx E ce q u t T'.heap (locs ++ L) e1.symm (by rw [← e2]; exact X'.warmed.alike) hp hb k1 k2 k3 (by rw [e1]; exact hce) hcv hcl T' rfl X'
    exact ⟨t2, st.trans a1, b1⟩
theorem vx_callv {S SX : Type} {post : S → Prop} {px : SX → Prop} {B : S → State → Prop} {BX : String → SX → State → Prop} {AX : Nat → Prop} (hr : vx_Run p l e R s m args below meth c H locs cells slots mc ms (F0 m pc ls st0) rest (va_Qv post B A1 a) (vx_X px BX AX) free) (hS : va_S A0 H0 H locs) (hA : ∀ q, q < H.size → A1 q → A0 q) (hf : ∀ q, free q → A0 q) (hAX : ∀ q, q < H.size → AX q → A0 q)
    (kx : ∀ (E : String) (ce : Cell) (q9 : Addr) (u : SX) (t : State) (H1 : Heap) (locs1 : List Loc), t.heap = H1 → s.vm.Alike t.vm → px u → BX E u t → H.size ≤ H1.size → (∀ q : Nat, q < H.size → ¬ AX q → H1[q]? = H[q]?) → va_S A0 H0 H1 locs1 → H1[q9]? = some ce → ce.vm = .none → s.vm.findClass E = some ce.cls → vx_W p l e R s m args below meth c H1 locs1 (cells + mc) (slots + ms) Q (F0 m pc ls rest) q9)
    (kk : ∀ (u : S) (t : State) (H1 : Heap) (locs1 : List Loc), t.heap = H1 → s.vm.Alike t.vm → post u → B u t → H.size ≤ H1.size → (∀ q : Nat, q < H.size → ¬ A1 q → H1[q]? = H[q]?) → va_S A0 H0 H1 locs1 → W p l e R s m args below meth c H1 locs1 (cells + mc) (slots + ms) Q (F0 m (pc + 3) ls (rest))) : W p l e R s m args below meth c H locs cells slots Q (F0 m pc ls st0) := by
  intro T hT X
  rcases hr T hT X with ⟨v, st₀, t, T', L, h0, X', hL, e1, e2, ⟨⟨u, hv, hp, hb⟩, hF⟩, st⟩ | ⟨q, st₀, t, T', L, E, ce, h0, X', hL, e1, e2, ⟨u, hp, hb, hF⟩, hce, hcv, hcl, st⟩
  · cases hv
    obtain ⟨k1, k2, k3⟩ := vx_keep h0 e1 hS hA hf hL hF
    obtain ⟨t2, a1, b1⟩ := kk u t T'.heap (locs ++ L) e1.symm (by rw [← e2]; exact X'.warmed.alike) hp hb k1 k2 k3 T' rfl X'
    exact ⟨t2, st t2 a1, b1⟩
  · obtain ⟨k1, k2, k3⟩ := vx_keep h0 e1 hS hAX hf hL hF
    obtain ⟨t2, a1, b1⟩ := kx E ce q u t T'.heap (locs ++ L) e1.symm (by rw [← e2]; exact X'.warmed.alike) hp hb k1 k2 k3 (by rw [e1]; exact hce) hcv hcl T' rfl X'
    exact ⟨t2, st.trans a1, b1⟩
/-- caught by the row x of this method's table; the rows ahead don't take it -/
theorem vx_catch {own name : String} {E : String} {ce : Cell} {q : Addr} (hown : s.vm.findClass own = some m.cls) (pre : List ExceptionTableEntry) (x : ExceptionTableEntry) (suf : List ExceptionTableEntry) (hsplit : c.exceptionTable.toList = pre ++ x :: suf)
    (hpass : ∀ z ∈ pre, covers z pc = false ∨ (z.catchType ≠ 0 ∧ ∃ nm : String, (Cond.classLink own z.catchType nm).before args s = true ∧ va_Nc E nm s)) (hx : covers x pc = true) (h0 : x.catchType ≠ 0)
    (hlink : (Cond.classLink own x.catchType name).before args s = true) (hcast : (Cond.castable E name).before args s = true) (hcell : H[q]? = some ce) (hv : ce.vm = .none) (hcl : s.vm.findClass E = some ce.cls)
    (kk : W p l e R s m args below meth c H locs cells slots Q (F0 m x.handlerPc ls [.ref q])) : vx_W p l e R s m args below meth c H locs cells slots Q (F0 m pc ls rest) q := by
  intro T hT X
  have hpl : e.platform.magicAccessors = ({} : Platform).magicAccessors := by rw [X.admits.platform]
  obtain ⟨c3, c4, hc3, hc4, hasg⟩ := Cond.castable_spec hcast
  cases Option.some.inj (hc3.symm.trans hcl)
  obtain ⟨c5, hc5, hcl5⟩ := Cond.classLink_spec hown hlink e.platform hpl
  cases Option.some.inj (hc4.symm.trans hc5)
  obtain ⟨vm', X', st⟩ := X.thenCaughtThrough q (g := F0 m pc ls rest) rfl (Steps.refl _) (by rw [hT]; exact hcell) (by rw [hv]; rfl) (by obtain ⟨k9, h9, -⟩ := Vm.findClass_spec hcl; exact ⟨k9, h9⟩) pre x suf hsplit
    (fun z hz => by
      rcases hpass z hz with h | ⟨hz0, nm, hl1, hn1⟩
      · exact Or.inl h
      · obtain ⟨c6, hc6, hcl6⟩ := Cond.classLink_spec hown hl1 e.platform hpl
        obtain ⟨a8, b8, h1, h2, h3⟩ := hn1
        cases Option.some.inj (h1.symm.trans hcl)
        cases Option.some.inj (h2.symm.trans hc6)
        exact Or.inr ⟨hz0, _, hcl6, h3⟩) hx (Or.inr ⟨h0, c4, hcl5, hasg⟩)
  obtain ⟨t, a1, b1⟩ := kk (T.setVm vm') hT X'
  exact ⟨t, st.trans a1, b1⟩
end Rows
section Ends
variable {p : Program} {l : Launch} {e : Env} {R : Room} {s : State} {m : MethodId} {args : Array Value} {below : List Frame} {meth : Method} {c : Code} {H : Heap} {locs : List Loc} {cells slots : Nat} {Q : State → Prop}
variable {mc ms : Nat} {free : Addr → Prop} {A0 A1 : Nat → Prop} {H0 : Heap} {a : Array Value} {ls : Array Slot} {st0 rest : List Value}
variable {Qc : Array Value → State → Outcome → State → Prop} {XC : String → State → State → Prop}
/-- what a body that may throw owes at its end -/
def vx_MQ (below : List Frame) (Qc : Array Value → State → Outcome → State → Prop) (XC : String → State → State → Prop) (a : Array Value) (s : State) (mc ms : Nat) (free : Addr → Prop) : State → Prop := fun t =>
  ∃ o, t.status = .running ∧ Ended t below o ∧ vx_Q Qc XC mc ms free a s o t
theorem vx_ret {g : JFrame} {mc ms : Nat} (k : W p l e R s m args below meth c H locs cells slots (MQ below Qc args s mc ms free) g) : W p l e R s m args below meth c H locs cells slots (vx_MQ below Qc XC args s mc ms free) g := by
  intro T hT X
  obtain ⟨t, a1, o, b1, b2, b3, b4⟩ := k T hT X
  exact ⟨t, a1, o, b1, b2, Or.inl ⟨b3, b4⟩⟩
/-- not caught here: it goes on to the caller -/
theorem vx_widen {g : JFrame} {q : Addr} {k n : Nat} (h1 : cells ≤ k) (h2 : slots ≤ n) (kk : vx_W p l e R s m args below meth c H locs k n Q g q) : vx_W p l e R s m args below meth c H locs cells slots Q g q := fun T hT X => kk T hT (stand_widen X h1 h2)
theorem vx_out {pc : Nat} {E : String} {ce : Cell} {q : Addr} {mc ms : Nat} (hout : ∀ x ∈ c.exceptionTable.toList, covers x pc = false) (hlocks : meth.locks = false) (hcell : H[q]? = some ce) (hv : ce.vm = .none) (hcl : s.vm.findClass E = some ce.cls)
    (hx : ∀ t : State, t.heap = H → s.vm.Alike t.vm → XC E s t) (hf : ∀ z ∈ locs, free z.base) (hc : cells ≤ mc) (hs : slots ≤ ms) :
    vx_W p l e R s m args below meth c H locs cells slots (vx_MQ below Qc XC args s mc ms free) (F0 m pc ls rest) q := by
  intro T hT X
  obtain ⟨st1, hrun, hend, hW, hsm⟩ := X.leaveThrown q (g := F0 m pc ls rest) rfl rfl rfl hout hlocks
  have hcell9 : (T.setFrames (.throwing q :: below)).heap[q]? = some ce := by
    show T.heap[q]? = some ce
    rw [hT]; exact hcell
  exact ⟨_, st1, .threw q, hrun, hend, Or.inr ⟨q, rfl, E, ce, locs, hx _ hT hW.alike, hcell9, hv, hcl, hW, hsm.mono hc hs, hf⟩⟩
theorem vx_frame {U : State} {k n : Nat} (h : s.sameButNew ({ U with vm := s.vm } : State) locs k n) : s.heap.size ≤ U.heap.size ∧ ∀ q : Nat, q < s.heap.size → (∀ z ∈ locs, z.base ≠ q) → U.heap[q]? = s.heap[q]? := by
  obtain ⟨-, h2, -, -, -, h6⟩ := h
  refine ⟨h2, fun q hq hz => ?_⟩
  obtain ⟨c9, e1, e2, e3, e4⟩ := h6 q _ (Array.getElem?_eq_getElem hq)
  have hs : c9.slots = (s.heap[q]).slots := Array.ext_getElem? fun i => e4 i fun hm => hz _ hm rfl
  have h9 : c9 = s.heap[q] := by
    rw [hs] at e2
    exact e2
  have e5 : U.heap[q]? = some c9 := e1
  rw [e5, h9, Array.getElem?_eq_getElem hq]
/-- the words of a throw but the four that speak of the heap -/
def vx_no (w : Cond) : Bool := decide (w ≠ .isRef (.static Bundle.tN "UNASSIGNED_STACK" Bundle.steD)) && decide (w ≠ .isRef (.static Bundle.tN "SUPPRESSED_SENTINEL" Bundle.listD)) && decide (w ≠ .laysStatic Bundle.tN "UNASSIGNED_STACK" Bundle.steD) && decide (w ≠ .laysStatic Bundle.tN "SUPPRESSED_SENTINEL" Bundle.listD)
def vx_at0 (own : String) (ic : Nat) (X : String) (names : List String) : List Cond := (Bundle.ownAtoms0 own ic X names).filter vx_no
def vx_atS (own : String) (ic : Nat) (X : String) (names : List String) : List Cond := (Bundle.ownAtoms own ic X names).filter vx_no
/-- a word that the tables alone decide, or a good one -/
def vx_ot (w : Cond) : Bool := w.onTables || goodWord w
theorem vx_ot_at {args a' : Array Value} {s U : State} {w : Cond} (hW : s.WarmedH U.vm) (hvm : s.vm = U.vm) (hg : vx_ot w = true) (h : w.before args s = true) : w.before a' U = true := by
  simp only [vx_ot, Bool.or_eq_true] at hg
  rcases hg with hg | hg
  · exact va_tabs hg hvm h
  · exact word_at hW (good_of_word hg) h
/-- a list's words: the good ones out of the method's own list, the others by premises of their own -/
theorem vx_hat {args : Array Value} {s : State} {L B : List Cond} (h1 : ∀ w ∈ L.filter goodWord, w.before args s = true) (h2 : ∀ w ∈ L.filter (fun w => !goodWord w), w ∈ B) (h3 : ∀ w ∈ B, w.before args s = true) : ∀ w ∈ L, w.before args s = true := by
  intro w hw
  by_cases g : goodWord w = true
  · exact h1 w (List.mem_filter.mpr ⟨hw, g⟩)
  · refine h3 w (h2 w (List.mem_filter.mpr ⟨hw, ?_⟩))
    show (!goodWord w) = true
    cases hgw : goodWord w
    · rfl
    · exact absurd hgw g
theorem vx_c {args : Array Value} {s : State} {w : Cond} {B : List Cond} (h : w.before args s = true) (t : ∀ w ∈ B, w.before args s = true) : ∀ w' ∈ w :: B, w'.before args s = true := fun w' h' => (List.mem_cons.mp h').elim (fun e => by rw [e]; exact h) (t w')
theorem vx_n {args : Array Value} {s : State} : ∀ w ∈ ([] : List Cond), w.before args s = true := fun _ h => nomatch h
theorem vx_own {args : Array Value} {s : State} {L : List Cond} (h1 : ∀ w ∈ L.filter vx_no, w.before args s = true)
    (hU : (Cond.isRef (.static Bundle.tN "UNASSIGNED_STACK" Bundle.steD)).before args s = true) (hN : (Cond.isRef (.static Bundle.tN "SUPPRESSED_SENTINEL" Bundle.listD)).before args s = true)
    (lU : (Cond.laysStatic Bundle.tN "UNASSIGNED_STACK" Bundle.steD).before args s = true) (lN : (Cond.laysStatic Bundle.tN "SUPPRESSED_SENTINEL" Bundle.listD).before args s = true) : ∀ w ∈ L, w.before args s = true := by
  intro w hw
  by_cases e1 : w = .isRef (.static Bundle.tN "UNASSIGNED_STACK" Bundle.steD)
  · rw [e1]; exact hU
  · by_cases e2 : w = .isRef (.static Bundle.tN "SUPPRESSED_SENTINEL" Bundle.listD)
    · rw [e2]; exact hN
    · by_cases e3 : w = .laysStatic Bundle.tN "UNASSIGNED_STACK" Bundle.steD
      · rw [e3]; exact lU
      · by_cases e4 : w = .laysStatic Bundle.tN "SUPPRESSED_SENTINEL" Bundle.listD
        · rw [e4]; exact lN
        · exact h1 w (List.mem_filter.mpr ⟨hw, by unfold vx_no; rw [decide_eq_true e1, decide_eq_true e2, decide_eq_true e3, decide_eq_true e4]; rfl⟩)
/-- where a static field lies, its class's statics cell in H -/
def vx_L (C n d : String) (A : Nat → Prop) (U : State) (H : Heap) : Prop := ∃ (c : ClassId) (k : Class) (i : Nat) (f : Field) (a : Nat) (cell : Cell), U.vm.findClass C = some c ∧ U.fieldFound? C n d = some (c, k, i, f) ∧ f.isStatic = true ∧ k.statics = some a ∧ H[a]? = some cell ∧ cell.vm.isStatics = true ∧ cell.cls = c ∧ f.slot < cell.slots.size ∧ k.staticTypes[f.slot]? = some f.type ∧ ¬ A a
theorem vx_L.moved {C n d : String} {A : Nat → Prop} {u U : State} {H : Heap} (hvm : u.vm.Alike U.vm) (h : vx_L C n d A u H) : vx_L C n d A U H := by
  obtain ⟨c, k, i, f, a, cell, h1, h2, h3, h4, h5, h6, h7, h8, h9, h10⟩ := h
  obtain ⟨k', hi', he⟩ := State.fieldFound?_setVm hvm h2
  exact ⟨c, k', i, f, a, cell, by rw [hvm.findClass]; exact h1, hi', h3, by rw [he]; exact h4, h5, h6, h7, h8, by rw [he]; exact h9, h10⟩
theorem vx_L.kept {C n d : String} {A : Nat → Prop} {U : State} {H H1 : Heap} (h : vx_L C n d A U H) (hq : ∀ a : Nat, a < H.size → ¬ A a → H1[a]? = H[a]?) : vx_L C n d A U H1 := by
  obtain ⟨c, k, i, f, a, cell, h1, h2, h3, h4, h5, h6, h7, h8, h9, h10⟩ := h
  exact ⟨c, k, i, f, a, cell, h1, h2, h3, h4, by rw [hq a (Array.getElem?_eq_some_iff.mp h5).1 h10]; exact h5, h6, h7, h8, h9, h10⟩
theorem vx_L.narrow {C n d : String} {A B : Nat → Prop} {U : State} {H : Heap} (h : vx_L C n d A U H) (hAB : ∀ q, B q → A q) : vx_L C n d B U H := by
  obtain ⟨c, k, i, f, a, cell, h1, h2, h3, h4, h5, h6, h7, h8, h9, h10⟩ := h
  exact ⟨c, k, i, f, a, cell, h1, h2, h3, h4, h5, h6, h7, h8, h9, fun z => h10 (hAB _ z)⟩
theorem vx_L.word {C n d : String} {A : Nat → Prop} {s : State} {args : Array Value} (h : vx_L C n d A s s.heap) : (Cond.laysStatic C n d).before args s = true := by
  obtain ⟨c, k, i, f, a, cell, h1, h2, h3, h4, h5, h6, h7, h8, h9, -⟩ := h
  show (Cond.laysStatic C n d).holds args s none s [] = true
  exact Cond.laysStatic_of h1 h2 h3 h4 h5 h6 h7 h8 h9
/-- .. and what it holds: null or some reference -/
def vx_Zq (C n d : String) (A : Nat → Prop) (U : State) (H : Heap) : Prop := va_Zq C n d A U H ∧ vx_L C n d A U H
theorem vx_Zq.moved {C n d : String} {A : Nat → Prop} {u U : State} {H : Heap} (hvm : u.vm.Alike U.vm) (h : vx_Zq C n d A u H) : vx_Zq C n d A U H := ⟨va_Zq.moved hvm h.1, vx_L.moved hvm h.2⟩
theorem vx_Zq.kept {C n d : String} {A : Nat → Prop} {U : State} {H H1 : Heap} (h : vx_Zq C n d A U H) (hq : ∀ a : Nat, a < H.size → ¬ A a → H1[a]? = H[a]?) : vx_Zq C n d A U H1 := ⟨va_Zq.kept h.1 hq, vx_L.kept h.2 hq⟩
theorem vx_Zq.narrow {C n d : String} {A B : Nat → Prop} {U : State} {H : Heap} (h : vx_Zq C n d A U H) (hAB : ∀ q, B q → A q) : vx_Zq C n d B U H := ⟨va_Zq.narrow h.1 hAB, vx_L.narrow h.2 hAB⟩
theorem vx_Zqof {args : Array Value} {s : State} {C n d : String} {A : Nat → Prop} (hl : (Cond.laysStatic C n d).before args s = true) (hini : (Cond.initialized C).before args s = true) (h : (Cond.isRef (.static C n d)).before args s = true) (hA : ∀ a : Nat, a < s.heap.size → ¬ A a) : vx_Zq C n d A s s.heap := by
  refine ⟨va_Zqof hl hini h hA, ?_⟩
  obtain ⟨c, k, i, f, a, cell, h1, h2, h3, h4, h5, h6, h7, h8, h9⟩ := Cond.laysStatic_spec hl
  exact ⟨c, k, i, f, a, cell, h1, h2, h3, h4, h5, h6, h7, h8, h9, hA a (Array.getElem?_eq_some_iff.mp h5).1⟩
theorem vx_isRef {C n d : String} {v : Value} {A : Nat → Prop} {s : State} {args : Array Value} (h : va_Z C n d v A s s.heap) (hv : v.isRef = true) : (Cond.isRef (.static C n d)).before args s = true := by
  obtain ⟨cf, kf, fi, f, a, cell, h1, h2, h3, h4, h5, h6, h7, -⟩ := h
  have he : (Term.static C n d).eval args s none [] s = some v := by
    simp [Term.eval, State.fieldNamed?, h1, h2, h4, h5, h6, h7]
  simp only [Cond.before, Cond.holds, Cond.value, he]
  cases v <;> simp_all [Value.isRef]
theorem vx_isRefq {C n d : String} {A : Nat → Prop} {s : State} {args : Array Value} (h : va_Zq C n d A s s.heap) : (Cond.isRef (.static C n d)).before args s = true := by
  rcases h with h | ⟨t, h⟩
  · exact vx_isRef h rfl
  · exact vx_isRef h rfl
/-- the same frame, seen from here: as if the method were called anew in this heap -/
theorem vx_rebase {T : State} (X : Stand p l e R s m args below meth c T locs cells slots) {R' : Room} (hf : R'.frames ≤ R.frames) (hl : R'.locals ≤ R.locals) (hc : cells + R'.cells ≤ R.cells) (hs : slots + R'.slots ≤ R.slots) :
    Stand p l e R' ((T.setVm s.vm).setFrames (.invoking m args :: below)) m args below meth c T [] 0 0 := by
  have htop : (T.setVm s.vm).topJava?.isSome := X.here.top
  have hF : ((T.setVm s.vm).setFrames (.invoking m args :: below)).frames = .invoking m args :: below := State.frames_setFrames _ (State.cur_lt_of_top htop)
  obtain ⟨g₀, hg0⟩ := Option.isSome_iff_exists.mp htop
  obtain ⟨r, hr⟩ := State.topJava?_eq_some.mp hg0
  have hl9 : e.platform.stackLimits (T.setVm s.vm).me = e.platform.stackLimits s.me := X.limits
  have hb9 : (T.setVm s.vm).me.stackBytes = s.me.stackBytes := X.bytes
  refine ⟨X.admits, X.cas, X.clock, hF, ?_, X.hears, X.method, X.code, X.here, X.tail, X.warmed, ?_, ?_, ?_⟩
  · have h := X.room
    have hU : ((T.setVm s.vm).setFrames (.invoking m args :: below)).localsInUse = s.localsInUse := by
      rw [State.localsInUse_invoking hF (meth := meth) (c := c) X.method X.code, State.localsInUse_invoking X.frames X.method X.code]
    simp only [State.hasRoom, Bool.and_eq_true, decide_eq_true_eq] at h ⊢
    obtain ⟨⟨⟨⟨h1, h2, h3, h4, h5, h6⟩, h7⟩, h8⟩, h9⟩ := h
    rw [X.frames, List.length_cons] at h2 h3
    have q1 := X.heapSize
    have q2 := X.used
    simp only [hF, hU, List.length_cons, State.stackLimits_setFrames, State.stackBytes_setFrames, hl9, hb9]
    refine ⟨⟨⟨⟨by omega, by omega, by omega, by omega, by omega, h6⟩, ?_⟩, ?_⟩, X.book⟩
    · show T.heap.size + R'.cells ≤ e.platform.maxCells
      omega
    · show T.slotsUsed + R'.slots ≤ e.platform.maxSlots
      omega
  · rw [State.stackLimits_setFrames]; rfl
  · rw [State.stackBytes_setFrames]; rfl
  · refine ⟨?_, Nat.le_refl _, Nat.le_refl _, ?_, ?_, fun a c9 h9 => ⟨c9, h9, rfl, rfl, fun _ _ => rfl⟩⟩
    · obtain ⟨t, ht, -⟩ := State.frames_cons hr
      show T.setVm s.vm = { ((T.setVm s.vm).setFrames (.invoking m args :: below)).setFrames (T.setVm s.vm).frames with heap := T.heap, slotsUsed := T.slotsUsed }
      rw [State.setFrames_setFrames, State.setFrames_self ht]
      rfl
    · show T.slotsUsed = T.slotsUsed + ((T.heap.toList.drop T.heap.size).map (·.slots.size)).sum
      rw [List.drop_eq_nil_of_le (Nat.le_of_eq Array.length_toList)]
      rfl
    · show ((T.heap.toList.drop T.heap.size).map (·.slots.size)).sum ≤ 0
      rw [List.drop_eq_nil_of_le (Nat.le_of_eq Array.length_toList)]
      exact Nat.le_refl _
/-- 'throw new E()': new; dup; invokespecial; athrow -/
theorem vx_throw0 {cc : ByteArray} {pc : Nat} (hexec : p.tables.exec = Jvm.exec) (hb : c.code = cc) (hl : l.stackTraces = false) {own cls : String} {names : List String} {ik ic mc ms : Nat} {A : Nat → Prop}
    (hown : s.vm.findClass own = some m.cls) (hcls : Bundle.fit cls = true) (hnames : ∀ n ∈ names, Bundle.fit n = true)
    (hk : (Cond.classLink own ik cls).before args s = true) (hini : (Cond.initialized cls).before args s = true) (hat : ∀ w ∈ vx_at0 own ic cls names, w.before args s = true)
    (hgood : ∀ w ∈ Cond.classLink own ik cls :: Cond.initialized cls :: vx_at0 own ic cls names, vx_ot w = true)
    (hU : vx_Zq Bundle.tN "UNASSIGNED_STACK" Bundle.steD A s s.heap) (hN : vx_Zq Bundle.tN "SUPPRESSED_SENTINEL" Bundle.listD A s s.heap) (hS : va_S A s.heap H locs) (hsize : ls.size = c.maxLocals)
    (d0 : decode cc pc = .ok (.new ik, 3)) (d3 : decode cc (pc + 3) = .ok (.dup, 1)) (d4 : decode cc (pc + 4) = .ok (.invokespecial ic, 3)) (d7 : decode cc (pc + 7) = .ok (.athrow, 1))
    (hout : ∀ x ∈ c.exceptionTable.toList, covers x (pc + 7) = false)
    (hRframes : names.length + 3 < R.frames) (hRlocals : (rest.map fun v => v.category).sum + (13 * (names.length + 1) + 42) ≤ R.locals) (hRcells : cells + 1 ≤ R.cells) (hRslots : slots + 6 ≤ R.slots) (hlocks : meth.locks = false)
    (hx : ∀ t : State, s.vm.Alike t.vm → H.size ≤ t.heap.size → (∀ q : Nat, q < H.size → t.heap[q]? = H[q]?) → XC cls s t)
    (hf : ∀ z ∈ locs, free z.base) (hc : cells + 1 ≤ mc) (hs : slots + 6 ≤ ms) :
    W p l e R s m args below meth c H locs cells slots (vx_MQ below Qc XC args s mc ms free) (F0 m pc ls rest) := by
  intro T hT X
  have htr : e.platform.stackTraces = false := (show e.platform.stackTraces = l.stackTraces by rw [X.admits.platform]).trans hl
  have Y := vx_rebase X (R' := { frames := R.frames, locals := R.locals, cells := 1, slots := 6 }) (Nat.le_refl _) (Nat.le_refl _) hRcells hRslots
  obtain ⟨s', hA⟩ : ∃ z, z = (T.setVm s.vm).setFrames (.invoking m args :: below) := ⟨_, rfl⟩
  rw [← hA] at Y
  have hvm : s'.vm = s.vm := by rw [hA]; rfl
  have hhp : s'.heap = H := by rw [hA]; exact hT
  have hW0 : s.WarmedH s'.vm := by rw [hvm]; exact State.WarmedH.refl s
  have hat' : ∀ w ∈ vx_at0 own ic cls names, w.before args s' = true := fun w hw => vx_ot_at hW0 hvm.symm (hgood w (List.mem_cons_of_mem _ (List.mem_cons_of_mem _ hw))) (hat w hw)
  have hk' : (Cond.classLink own ik cls).before args s' = true := vx_ot_at hW0 hvm.symm (hgood _ List.mem_cons_self) hk
  have hini' : (Cond.initialized cls).before args s' = true := vx_ot_at hW0 hvm.symm (hgood _ (List.mem_cons_of_mem _ List.mem_cons_self)) hini
  have hU' : vx_Zq Bundle.tN "UNASSIGNED_STACK" Bundle.steD A s' s'.heap := by rw [hhp]; exact vx_Zq.moved hW0.alike (hU.kept hS.2.1)
  have hN' : vx_Zq Bundle.tN "SUPPRESSED_SENTINEL" Bundle.listD A s' s'.heap := by rw [hhp]; exact vx_Zq.moved hW0.alike (hN.kept hS.2.1)
  have h : ∀ w ∈ Bundle.ownAtoms0 own ic cls names, w.before args s' = true := vx_own hat' (vx_isRefq hU'.1) (vx_isRefq hN'.1) hU'.2.word hN'.2.word
  have hown' : s'.vm.findClass own = some m.cls := by rw [hvm]; exact hown
  have hins : (Cond.instantiable cls 6).before args s' = true := h _ (by simp [Bundle.ownAtoms0])
  obtain ⟨vm₁, cX, kX, hfX, hkX, -, -, X₁, st1⟩ := Y.newCold hexec (own := own) (C := cls) (index := ik) (n := 6) hown' hk' hins hini'
    (g := F0 m pc ls rest) rfl (by rw [hb]; exact d0) (Nat.le_refl _) (Nat.le_refl _)
  generalize hT1 : (T.setVm vm₁).pushCell { cls := cX, slots := kX.instanceTypes.map defaultValue, vm := .none } = T1 at X₁ st1
  have hcat : (Value.ref T.heap.size).category = 1 := rfl
  have hcellA : T1.heap[T.heap.size]? = some (freshCell cX kX) := by rw [← hT1]; exact State.heap_pushCell_size _ _
  have d3' : decode c.code (pc + 3) = .ok (.dup, 1) := by rw [hb]; exact d3
  obtain ⟨U, hsteps, hrun, hend, hW, hsame, ce, hce, hO⟩ := X₁.ctorThrow0 hexec htr (own := own) (cls := cls) (names := names) (ic := ic) hown' hcls hnames h (fun x hx => nomatch hx) hfX hkX hcellA (by rw [hhp, hT]; exact Nat.le_refl _)
    (g := { method := m, pc := pc + 4, locals := ls, stack := .ref T.heap.size :: .ref T.heap.size :: rest, locked := none }) rfl hsize rfl rfl (rest := rest) rfl
    (by rw [hb]; exact d4) (by rw [hb]; exact d7) hout hRframes (by simp only [List.map_cons, List.sum_cons, hcat]; omega) hlocks
  obtain ⟨f1, f2⟩ := vx_frame hsame
  rw [hhp] at f1 f2
  have hWs : s.WarmedH U.vm := State.WarmedH.trans hW0 hW
  have hcl : s.vm.findClass cls = some ce.cls := by
    have h9 := hO.cls
    rw [hvm] at h9
    exact h9
  have hall : s.sameButNew ({ U with vm := s.vm } : State) locs mc ms := by
    subst hA
    obtain ⟨e1, e2⟩ := hsame
    rw [State.setFrames_setFrames] at e1
    have h2 : (T.setVm s.vm).sameButNew ({ U with vm := s.vm } : State) [] (0 + 1) (0 + 6) := ⟨e1, e2⟩
    have h3 := X.same.trans h2
    rw [List.append_nil] at h3
    exact h3.mono hc hs
  refine ⟨U, ?_, .threw T.heap.size, hrun, hend, Or.inr ⟨T.heap.size, rfl, cls, ce, locs, hx U hWs.alike f1 (fun q hq => f2 q hq (fun z hz => nomatch hz)), hce, hO.vm, hcl, hWs, hall, hf⟩⟩
  refine st1 _ ?_
  show Steps p.tables e below (T1.setTop { method := m, pc := pc + 3, locals := ls, stack := .ref T.heap.size :: rest, locked := none }) _
  jvm_step X₁.here [X₁.here.top, hexec, d3', Value.category]
  exact hsteps
/-- 'throw new E("text")': new; dup; ldc; invokespecial; athrow -/
theorem vx_throwS {cc : ByteArray} {pc : Nat} (hexec : p.tables.exec = Jvm.exec) (hb : c.code = cc) (hl : l.stackTraces = false) {own cls text : String} {names : List String} {ik is ic mc ms sa : Nat} {A : Nat → Prop}
    (hown : s.vm.findClass own = some m.cls) (hcls : Bundle.fit cls = true) (hnames : ∀ n ∈ names, Bundle.fit n = true)
    (hk : (Cond.classLink own ik cls).before args s = true) (hini : (Cond.initialized cls).before args s = true) (hstr : vk_R own is text sa s) (hat : ∀ w ∈ vx_atS own ic cls names, w.before args s = true)
    (hgood : ∀ w ∈ Cond.classLink own ik cls :: Cond.initialized cls :: vx_atS own ic cls names, vx_ot w = true)
    (hU : vx_Zq Bundle.tN "UNASSIGNED_STACK" Bundle.steD A s s.heap) (hN : vx_Zq Bundle.tN "SUPPRESSED_SENTINEL" Bundle.listD A s s.heap) (hS : va_S A s.heap H locs) (hsize : ls.size = c.maxLocals)
    (d0 : decode cc pc = .ok (.new ik, 3)) (d3 : decode cc (pc + 3) = .ok (.dup, 1)) (d4 : decode cc (pc + 4) = .ok (.ldc is, 2)) (d6 : decode cc (pc + 6) = .ok (.invokespecial ic, 3)) (d9 : decode cc (pc + 9) = .ok (.athrow, 1))
    (hout : ∀ x ∈ c.exceptionTable.toList, covers x (pc + 9) = false)
    (hRframes : names.length + 3 < R.frames) (hRlocals : (rest.map fun v => v.category).sum + (13 * (names.length + 1) + 43) ≤ R.locals) (hRcells : cells + 1 ≤ R.cells) (hRslots : slots + 6 ≤ R.slots) (hlocks : meth.locks = false)
    (hx : ∀ t : State, s.vm.Alike t.vm → H.size ≤ t.heap.size → (∀ q : Nat, q < H.size → t.heap[q]? = H[q]?) → XC cls s t)
    (hf : ∀ z ∈ locs, free z.base) (hc : cells + 1 ≤ mc) (hs : slots + 6 ≤ ms) :
    W p l e R s m args below meth c H locs cells slots (vx_MQ below Qc XC args s mc ms free) (F0 m pc ls rest) := by
  intro T hT X
  have htr : e.platform.stackTraces = false := (show e.platform.stackTraces = l.stackTraces by rw [X.admits.platform]).trans hl
  have Y := vx_rebase X (R' := { frames := R.frames, locals := R.locals, cells := 1, slots := 6 }) (Nat.le_refl _) (Nat.le_refl _) hRcells hRslots
  obtain ⟨s', hA⟩ : ∃ z, z = (T.setVm s.vm).setFrames (.invoking m args :: below) := ⟨_, rfl⟩
  rw [← hA] at Y
  have hvm : s'.vm = s.vm := by rw [hA]; rfl
  have hhp : s'.heap = H := by rw [hA]; exact hT
  have hW0 : s.WarmedH s'.vm := by rw [hvm]; exact State.WarmedH.refl s
  have hat' : ∀ w ∈ vx_atS own ic cls names, w.before args s' = true := fun w hw => vx_ot_at hW0 hvm.symm (hgood w (List.mem_cons_of_mem _ (List.mem_cons_of_mem _ hw))) (hat w hw)
  have hk' : (Cond.classLink own ik cls).before args s' = true := vx_ot_at hW0 hvm.symm (hgood _ List.mem_cons_self) hk
  have hini' : (Cond.initialized cls).before args s' = true := vx_ot_at hW0 hvm.symm (hgood _ (List.mem_cons_of_mem _ List.mem_cons_self)) hini
  have hU' : vx_Zq Bundle.tN "UNASSIGNED_STACK" Bundle.steD A s' s'.heap := by rw [hhp]; exact vx_Zq.moved hW0.alike (hU.kept hS.2.1)
  have hN' : vx_Zq Bundle.tN "SUPPRESSED_SENTINEL" Bundle.listD A s' s'.heap := by rw [hhp]; exact vx_Zq.moved hW0.alike (hN.kept hS.2.1)
  have h : ∀ w ∈ Bundle.ownAtoms own ic cls names, w.before args s' = true := vx_own hat' (vx_isRefq hU'.1) (vx_isRefq hN'.1) hU'.2.word hN'.2.word
  have hown' : s'.vm.findClass own = some m.cls := by rw [hvm]; exact hown
  have hins : (Cond.instantiable cls 6).before args s' = true := h _ (by simp [Bundle.ownAtoms])
  obtain ⟨vm₁, cX, kX, hfX, hkX, -, -, X₁, st1⟩ := Y.newCold hexec (own := own) (C := cls) (index := ik) (n := 6) hown' hk' hins hini'
    (g := F0 m pc ls rest) rfl (by rw [hb]; exact d0) (Nat.le_refl _) (Nat.le_refl _)
  generalize hT1 : (T.setVm vm₁).pushCell { cls := cX, slots := kX.instanceTypes.map defaultValue, vm := .none } = T1 at X₁ st1
  have hcat : (Value.ref T.heap.size).category = 1 := rfl
  have hcellA : T1.heap[T.heap.size]? = some (freshCell cX kX) := by rw [← hT1]; exact State.heap_pushCell_size _ _
  have d3' : decode c.code (pc + 3) = .ok (.dup, 1) := by rw [hb]; exact d3
  have d4' : decode c.code (pc + 4) = .ok (.ldc is, 2) := by rw [hb]; exact d4
  have hstr' : vk_R own is text sa s' := vk_R.warm hW0 hstr
  obtain ⟨U, hsteps, hrun, hend, hW, hsame, ce, hce, hO⟩ := X₁.ctorThrowS hexec htr (own := own) (cls := cls) (names := names) (ic := ic) hown' hcls hnames h (fun x hx => nomatch hx) hfX hkX hcellA (by rw [hhp, hT]; exact Nat.le_refl _) (msg := .ref sa) rfl
    (g := { method := m, pc := pc + 6, locals := ls, stack := .ref sa :: .ref T.heap.size :: .ref T.heap.size :: rest, locked := none }) rfl hsize rfl rfl (rest := rest) rfl
    (by rw [hb]; exact d6) (by rw [hb]; exact d9) hout hRframes (by simp only [List.map_cons, List.sum_cons, hcat]; omega) hlocks
  obtain ⟨f1, f2⟩ := vx_frame hsame
  rw [hhp] at f1 f2
  have hWs : s.WarmedH U.vm := State.WarmedH.trans hW0 hW
  have hcl : s.vm.findClass cls = some ce.cls := by
    have h9 := hO.cls
    rw [hvm] at h9
    exact h9
  have hall : s.sameButNew ({ U with vm := s.vm } : State) locs mc ms := by
    subst hA
    obtain ⟨e1, e2⟩ := hsame
    rw [State.setFrames_setFrames] at e1
    have h2 : (T.setVm s.vm).sameButNew ({ U with vm := s.vm } : State) [] (0 + 1) (0 + 6) := ⟨e1, e2⟩
    have h3 := X.same.trans h2
    rw [List.append_nil] at h3
    exact h3.mono hc hs
  refine ⟨U, ?_, .threw T.heap.size, hrun, hend, Or.inr ⟨T.heap.size, rfl, cls, ce, locs, hx U hWs.alike f1 (fun q hq => f2 q hq (fun z hz => nomatch hz)), hce, hO.vm, hcl, hWs, hall, hf⟩⟩
  refine st1 _ ?_
  show Steps p.tables e below (T1.setTop { method := m, pc := pc + 3, locals := ls, stack := .ref T.heap.size :: rest, locked := none }) _
  jvm_step X₁.here [X₁.here.top, hexec, d3', Value.category]
  exact X₁.ldcString hexec (own := own) (text := text) (index := is) (a := sa) hown' hstr'.1 hstr'.2
    (g := { method := m, pc := pc + 4, locals := ls, stack := .ref T.heap.size :: .ref T.heap.size :: rest, locked := none }) rfl d4' _ hsteps
/-- 'throw new E("text")', the text by a wide index -/
theorem vx_throwSW {cc : ByteArray} {pc : Nat} (hexec : p.tables.exec = Jvm.exec) (hb : c.code = cc) (hl : l.stackTraces = false) {own cls text : String} {names : List String} {ik is ic mc ms sa : Nat} {A : Nat → Prop}
    (hown : s.vm.findClass own = some m.cls) (hcls : Bundle.fit cls = true) (hnames : ∀ n ∈ names, Bundle.fit n = true)
    (hk : (Cond.classLink own ik cls).before args s = true) (hini : (Cond.initialized cls).before args s = true) (hstr : vk_R own is text sa s) (hat : ∀ w ∈ vx_atS own ic cls names, w.before args s = true)
    (hgood : ∀ w ∈ Cond.classLink own ik cls :: Cond.initialized cls :: vx_atS own ic cls names, vx_ot w = true)
    (hU : vx_Zq Bundle.tN "UNASSIGNED_STACK" Bundle.steD A s s.heap) (hN : vx_Zq Bundle.tN "SUPPRESSED_SENTINEL" Bundle.listD A s s.heap) (hS : va_S A s.heap H locs) (hsize : ls.size = c.maxLocals)
    (d0 : decode cc pc = .ok (.new ik, 3)) (d3 : decode cc (pc + 3) = .ok (.dup, 1)) (d4 : decode cc (pc + 4) = .ok (.ldc_w is, 3)) (d7 : decode cc (pc + 7) = .ok (.invokespecial ic, 3)) (d10 : decode cc (pc + 10) = .ok (.athrow, 1))
    (hout : ∀ x ∈ c.exceptionTable.toList, covers x (pc + 10) = false)
    (hRframes : names.length + 3 < R.frames) (hRlocals : (rest.map fun v => v.category).sum + (13 * (names.length + 1) + 43) ≤ R.locals) (hRcells : cells + 1 ≤ R.cells) (hRslots : slots + 6 ≤ R.slots) (hlocks : meth.locks = false)
    (hx : ∀ t : State, s.vm.Alike t.vm → H.size ≤ t.heap.size → (∀ q : Nat, q < H.size → t.heap[q]? = H[q]?) → XC cls s t)
    (hf : ∀ z ∈ locs, free z.base) (hc : cells + 1 ≤ mc) (hs : slots + 6 ≤ ms) :
    W p l e R s m args below meth c H locs cells slots (vx_MQ below Qc XC args s mc ms free) (F0 m pc ls rest) := by
  intro T hT X
  have htr : e.platform.stackTraces = false := (show e.platform.stackTraces = l.stackTraces by rw [X.admits.platform]).trans hl
  have Y := vx_rebase X (R' := { frames := R.frames, locals := R.locals, cells := 1, slots := 6 }) (Nat.le_refl _) (Nat.le_refl _) hRcells hRslots
  obtain ⟨s', hA⟩ : ∃ z, z = (T.setVm s.vm).setFrames (.invoking m args :: below) := ⟨_, rfl⟩
  rw [← hA] at Y
  have hvm : s'.vm = s.vm := by rw [hA]; rfl
  have hhp : s'.heap = H := by rw [hA]; exact hT
  have hW0 : s.WarmedH s'.vm := by rw [hvm]; exact State.WarmedH.refl s
  have hat' : ∀ w ∈ vx_atS own ic cls names, w.before args s' = true := fun w hw => vx_ot_at hW0 hvm.symm (hgood w (List.mem_cons_of_mem _ (List.mem_cons_of_mem _ hw))) (hat w hw)
  have hk' : (Cond.classLink own ik cls).before args s' = true := vx_ot_at hW0 hvm.symm (hgood _ List.mem_cons_self) hk
  have hini' : (Cond.initialized cls).before args s' = true := vx_ot_at hW0 hvm.symm (hgood _ (List.mem_cons_of_mem _ List.mem_cons_self)) hini
  have hU' : vx_Zq Bundle.tN "UNASSIGNED_STACK" Bundle.steD A s' s'.heap := by rw [hhp]; exact vx_Zq.moved hW0.alike (hU.kept hS.2.1)
  have hN' : vx_Zq Bundle.tN "SUPPRESSED_SENTINEL" Bundle.listD A s' s'.heap := by rw [hhp]; exact vx_Zq.moved hW0.alike (hN.kept hS.2.1)
  have h : ∀ w ∈ Bundle.ownAtoms own ic cls names, w.before args s' = true := vx_own hat' (vx_isRefq hU'.1) (vx_isRefq hN'.1) hU'.2.word hN'.2.word
  have hown' : s'.vm.findClass own = some m.cls := by rw [hvm]; exact hown
  have hins : (Cond.instantiable cls 6).before args s' = true := h _ (by simp [Bundle.ownAtoms])
  obtain ⟨vm₁, cX, kX, hfX, hkX, -, -, X₁, st1⟩ := Y.newCold hexec (own := own) (C := cls) (index := ik) (n := 6) hown' hk' hins hini'
    (g := F0 m pc ls rest) rfl (by rw [hb]; exact d0) (Nat.le_refl _) (Nat.le_refl _)
  generalize hT1 : (T.setVm vm₁).pushCell { cls := cX, slots := kX.instanceTypes.map defaultValue, vm := .none } = T1 at X₁ st1
  have hcat : (Value.ref T.heap.size).category = 1 := rfl
  have hcellA : T1.heap[T.heap.size]? = some (freshCell cX kX) := by rw [← hT1]; exact State.heap_pushCell_size _ _
  have d3' : decode c.code (pc + 3) = .ok (.dup, 1) := by rw [hb]; exact d3
  have d4' : decode c.code (pc + 4) = .ok (.ldc_w is, 3) := by rw [hb]; exact d4
  have hstr' : vk_R own is text sa s' := vk_R.warm hW0 hstr
  obtain ⟨U, hsteps, hrun, hend, hW, hsame, ce, hce, hO⟩ := X₁.ctorThrowS hexec htr (own := own) (cls := cls) (names := names) (ic := ic) hown' hcls hnames h (fun x hx => nomatch hx) hfX hkX hcellA (by rw [hhp, hT]; exact Nat.le_refl _) (msg := .ref sa) rfl
    (g := { method := m, pc := pc + 7, locals := ls, stack := .ref sa :: .ref T.heap.size :: .ref T.heap.size :: rest, locked := none }) rfl hsize rfl rfl (rest := rest) rfl
    (by rw [hb]; exact d7) (by rw [hb]; exact d10) hout hRframes (by simp only [List.map_cons, List.sum_cons, hcat]; omega) hlocks
  obtain ⟨f1, f2⟩ := vx_frame hsame
  rw [hhp] at f1 f2
  have hWs : s.WarmedH U.vm := State.WarmedH.trans hW0 hW
  have hcl : s.vm.findClass cls = some ce.cls := by
    have h9 := hO.cls
    rw [hvm] at h9
    exact h9
  have hall : s.sameButNew ({ U with vm := s.vm } : State) locs mc ms := by
    subst hA
    obtain ⟨e1, e2⟩ := hsame
    rw [State.setFrames_setFrames] at e1
    have h2 : (T.setVm s.vm).sameButNew ({ U with vm := s.vm } : State) [] (0 + 1) (0 + 6) := ⟨e1, e2⟩
    have h3 := X.same.trans h2
    rw [List.append_nil] at h3
    exact h3.mono hc hs
  refine ⟨U, ?_, .threw T.heap.size, hrun, hend, Or.inr ⟨T.heap.size, rfl, cls, ce, locs, hx U hWs.alike f1 (fun q hq => f2 q hq (fun z hz => nomatch hz)), hce, hO.vm, hcl, hWs, hall, hf⟩⟩
  refine st1 _ ?_
  show Steps p.tables e below (T1.setTop { method := m, pc := pc + 3, locals := ls, stack := .ref T.heap.size :: rest, locked := none }) _
  jvm_step X₁.here [X₁.here.top, hexec, d3', Value.category]
  exact X₁.ldcStringW hexec (own := own) (text := text) (index := is) (a := sa) hown' hstr'.1 hstr'.2
    (g := { method := m, pc := pc + 4, locals := ls, stack := .ref T.heap.size :: .ref T.heap.size :: rest, locked := none }) rfl d4' _ hsteps
end Ends
section Bodies
variable {l : Launch}
theorem vx_ofW {y : MethodName} {ws ws' : List Cond} {rm : Room} {Pc : Array Value → State → Prop} {Qc : Array Value → State → Outcome → State → Prop} {XC : String → State → State → Prop} {mc ms : Nat} {free : Addr → Prop} {cc : ByteArray} {maxL : Nat} {ret : Option FieldType}
    (hy : plainName y.cls = true) (hw : ws = Cond.code y cc maxL ret :: ws')
    (body : ∀ p e s m args below meth c s₁, BodyLoose p l y (headSpec ws rm) cc maxL ret e s m args below meth c s₁ → c.maxLocals = maxL → (∀ x ∈ c.exceptionTable.toList, False) → Pc args s →
      W p l e (headSpec ws rm).room s m args below meth c s.heap [] 0 0 (vx_MQ below Qc XC args s mc ms free) (entryFrame m args maxL)) : vx_Met l y ws rm Pc Qc XC mc ms free := by
  refine MetFree.of_bodyS (code := cc) (maxLocals := maxL) (ret := ret) hy ?_ ?_
  · intro args s m h hn
    obtain ⟨meth, c, h1, h2, h3, h4, h5, h6, -, -⟩ := Cond.code_spec hn (atoms_spec (ws := ws) h _ (by rw [hw]; exact List.mem_cons_self))
    exact ⟨meth, c, h1, h2, h3, h4, h5, h6⟩
  · intro p e s m args below meth c s₁ B hml hP _
    have hh0 : s₁.heap = s.heap := by rw [B.state]; rfl
    have ht : ∀ x ∈ c.exceptionTable.toList, False := by
      obtain ⟨meth9, c9, h1, h2, -, -, -, -, h7, -⟩ := Cond.code_spec B.named (atoms_spec (ws := ws) B.pre _ (by rw [hw]; exact List.mem_cons_self))
      cases Option.some.inj (h1.symm.trans B.method)
      cases Option.some.inj (h2.symm.trans (Stand.of_body B).code)
      intro x hx
      rw [Array.isEmpty_iff.mp h7] at hx
      cases hx
    obtain ⟨t, a1, o, b1, b2, b3⟩ := body p e s m args below meth c s₁ B hml ht hP s₁ hh0 (Stand.of_body B)
    exact ⟨t, o, a1, b1, b2, b3⟩
/-- the table of a body with handlers -/
theorem vx_table {p : Program} {x y : MethodName} {S : Spec} {cc bytes : ByteArray} {maxL maxL' : Nat} {ret ret' : Option FieldType} {e : Env} {s s₁ : State} {m : MethodId} {args : Array Value} {below : List Frame} {meth : Method} {c : Code} {hh : List (Nat × Nat × Nat × Nat)}
    (B : BodyLoose p l y S cc maxL ret e s m args below meth c s₁) (h : (Cond.codeWith y bytes maxL' ret' hh).before args s = true) : c.exceptionTable.toList = tableOf hh := by
  obtain ⟨m9, meth9, c9, hn9, h1, h2, -, -, h6, -⟩ := Cond.codeWith_spec h
  cases Option.some.inj (hn9.symm.trans B.named)
  cases Option.some.inj (h1.symm.trans B.method)
  cases Option.some.inj (h2.symm.trans (Stand.of_body B).code)
  rw [← h6, table_eq]
end Bodies
end VXA
/-! ===== END ===== -/
/-! ===== BEGIN a static call of a method with an exception table ===== -/
section VXS
variable {p : Program} {l : Launch} {e : Env} {R : Room} {s : State} {m : MethodId} {args : Array Value} {below : List Frame} {meth : Method} {c : Code} {T : State} {H : Heap} {locs : List Loc} {cells slots : Nat}
abbrev vx_CSW (R : Room) (s : State) (args : Array Value) (own : String) (index : Nat) (y : MethodName) (bytes : ByteArray) (maxL : Nat) (ret : Option FieldType) (hh : List (Nat × Nat × Nat × Nat)) (ws : List Cond) (rm : Room) (mc ms n : Nat) : Prop :=
  (rm.cells = mc ∧ rm.slots = ms ∧ rm.frames + 1 ≤ R.frames ∧ 8 + (maxL + 11) + rm.locals ≤ R.locals ∧ (∀ w ∈ ws, ∀ (a' : Array Value) (U : State), s.WarmedH U.vm → w.before a' U = true) ∧ Cond.codeWith y bytes maxL ret hh ∈ ws) ∧
  (Cond.codeWith y bytes maxL ret hh).before args s = true ∧ (Cond.initialized y.cls).before args s = true ∧ (y.cls ≠ "java/lang/invoke/MethodHandle" ∧ y.cls ≠ "java/lang/invoke/VarHandle") ∧
  (∀ sig, parseMethodDescriptor y.desc = some sig → n = sig.parameters.length) ∧ (Cond.methodLink own index y).before args s = true ∧ (Cond.static y).before args s = true
theorem vx_cwSW {own : String} {index maxL mc ms : Nat} {y : MethodName} {bytes : ByteArray} {ret : Option FieldType} {hh : List (Nat × Nat × Nat × Nat)} {Ts ws ws' : List Cond} {rm : Room} (n : Nat) (ht : ∀ w ∈ Ts, w.before args s = true) (hT : GoodIn Ts (va_wsS own index y ws)) (hw : ws = Cond.codeWith y bytes maxL ret hh :: ws') (hrc : rm.cells = mc) (hrs : rm.slots = ms)
    (hd : y.cls ≠ "java/lang/invoke/MethodHandle" ∧ y.cls ≠ "java/lang/invoke/VarHandle" ∧ (parseMethodDescriptor y.desc).map (fun d => d.parameters.length) = some n) (hR : rm.frames + 1 ≤ R.frames ∧ 8 + (maxL + 11) + rm.locals ≤ R.locals) :
    vx_CSW R s args own index y bytes maxL ret hh ws rm mc ms n := by
  have ok : ∀ w ∈ va_wsS own index y ws, w.before args s = true := fun w h => ht w (hT w h).1
  have hG : GoodIn Ts ws := fun w h => hT w (by unfold va_wsS; exact List.mem_append_right _ h)
  have hc : Cond.codeWith y bytes maxL ret hh ∈ ws := by rw [hw]; exact List.mem_cons_self
  refine ⟨⟨hrc, hrs, hR.1, hR.2, pay_in ht hG, hc⟩, ht _ (hG _ hc).1, ok _ (by simp [va_wsS]), ⟨hd.1, hd.2.1⟩, fun sig h => ?_, ok _ (by simp [va_wsS]), ok _ (by simp [va_wsS])⟩
  have h2 := hd.2.2
  rw [h] at h2
  exact (Option.some.inj h2).symm
theorem vx_callSW (X : Stand p l e R s m args below meth c T locs cells slots) (hexec : p.tables.exec = Jvm.exec) {own : String} {index : Nat} {y : MethodName} {bytes : ByteArray} {maxL : Nat} {ret : Option FieldType} {hh : List (Nat × Nat × Nat × Nat)}
    (hown : s.vm.findClass own = some m.cls) (hlink : (Cond.methodLink own index y).before args s = true) (hstat : (Cond.static y).before args s = true) (hinit : (Cond.initialized y.cls).before args s = true)
    (hcode : (Cond.codeWith y bytes maxL ret hh).before args s = true) (hy : y.cls ≠ "java/lang/invoke/MethodHandle" ∧ y.cls ≠ "java/lang/invoke/VarHandle")
    {W9 : Nat} {Pre : Pt → Array Value → Prop} {Post : Pt → Array Value → Option Value → Pt → Prop} (hK : Back l R p e below s args y 3 W9 Pre Post)
    {g : JFrame} (hg : g.method = m) (hsize : g.locals.size = c.maxLocals) {argsL rest : List Value} (hlen : ∀ sig, parseMethodDescriptor y.desc = some sig → argsL.length = sig.parameters.length)
    (hstack : g.stack = argsL.reverse ++ rest) (hW : 2 * g.monitorRoom + (rest.map fun v => v.category).sum ≤ W9) (hdg : decode c.code g.pc = .ok (.invokestatic index, 3))
    (hpre : ∀ vm₁, s.WarmedH vm₁ → Pre ⟨T.setVm vm₁, locs, cells, slots⟩ argsL.toArray) :
    ∃ (v : Option Value) (vm₁ : Vm) (B : Pt), s.WarmedH vm₁ ∧ Stand p l e R s m args below meth c B.U B.locs B.cells B.slots ∧ Post ⟨T.setVm vm₁, locs, cells, slots⟩ argsL.toArray v B ∧
      ∀ target, Steps p.tables e below (B.U.setTop { g with pc := g.pc + 3, stack := v.toList ++ rest }) target → Steps p.tables e below (T.setTop g) target := by
  obtain ⟨mk, methM, cM, hnamed, hmethM, -, -, -, -, -, -, hsigM⟩ := Cond.codeWith_spec hcode
  have hstatic : methM.isStatic = true := Cond.static_spec hnamed hmethM hstat
  obtain ⟨kP, hkP, -⟩ := className_of_methodNamed hnamed
  have hinitP : kP.init = .initialized := Cond.initialized_spec (findClass_of_methodNamed hnamed) hkP hinit
  obtain ⟨vm₁, X₁, hstep₁⟩ := X.invokestatic hexec hown hlink hnamed hmethM hstatic hkP hinitP hy (g := g) hg (argsL := argsL) (rest := rest) (hlen _ hsigM) hstack hdg
  obtain ⟨v, B, X', hpost, hsteps⟩ := hK m meth c ⟨T.setVm vm₁, locs, cells, slots⟩ { g with stack := rest } (.invokestatic index) mk argsL.toArray X₁ hg hsize hdg hW (X₁.named hnamed) (hpre vm₁ X₁.warmed)
  exact ⟨v, vm₁, B, X₁.warmed, X', hpost, fun target h => hstep₁ _ fun acts => by rw [doInvoke_state]; exact hsteps.trans h⟩
theorem vx_runSW {y : MethodName} {bytes cc : ByteArray} {maxL nL mc ms n index : Nat} {ret : Option FieldType} {hh : List (Nat × Nat × Nat × Nat)} {ws : List Cond} {rm : Room} {Pc : Array Value → State → Prop} {Qc : Array Value → State → Outcome → State → Prop} {free : Addr → Prop} {Ts : List Cond} {own : String} {As rest : List Value} {g : JFrame}
    (S : CallFix p m c cc nL s args Ts own) (hM : Met l y ws rm Pc Qc mc ms free) (cw : vx_CSW R s args own index y bytes maxL ret hh ws rm mc ms n) (hp : PreS s H Pc As)
    (hg : g.method = m) (hn : As.length = n) (hsize : g.locals.size = nL) (hstack : g.stack = As.reverse ++ rest) (hW : 2 * g.monitorRoom + (rest.map fun v => v.category).sum ≤ 8) (hdg : decode cc g.pc = .ok (.invokestatic index, 3)) (hf : cells + mc ≤ R.cells ∧ slots + ms ≤ R.slots) :
    va_Run p l e R s m args below meth c H locs cells slots mc ms g rest (Qc As.toArray) (free) := by
  obtain ⟨⟨hrc, hrs, hfr, hlo, hws, hcw⟩, hcode, hini, hy, hlen, hl, hstt⟩ := cw
  have hK : Back l R p e below s args y 3 8 (PreOf R mc ms Pc) (PostOf Qc mc ms free) := va_backW (hh := hh) (bytes := bytes) (maxL := maxL) (ret := ret) hM hp.1 hrc hrs hfr hlo hws hcw (fun a' U hW => word_at hW (Or.inl (by first | rfl | simp [Cond.onTables, Cond.keeps, Cond.steady])) hini)
  obtain ⟨hx, hb, hml, ho, -⟩ := S
  intro T hT X
  obtain ⟨v, vm₁, ⟨U', l2, c2, s2⟩, hW₁, X', ⟨g', mk, t, L, e1, e2, hq, h1, hL, h2, h3⟩, st⟩ := vx_callSW X hx (hh := hh) (bytes := bytes) (maxL := maxL) (ret := ret) ho hl hstt hini hcode hy hK hg (hsize.trans hml.symm) (argsL := As) (rest := rest) (fun sig h => hn.trans (hlen sig h)) hstack hW (by rw [hb]; exact hdg)
    (fun vm₁ hW₁ => ⟨hf.1, hf.2, hp.2 (T.setVm vm₁) hT hW₁⟩)
  dsimp only [Pt.U, Pt.locs, Pt.cells, Pt.slots] at X' e1 e2 h1 h2 h3 st
  subst h1; subst h2; subst h3
  exact ⟨v, (T.setVm vm₁).calling g' mk As.toArray, t, U', L, hT, X', hL, e1, e2, hq, st⟩
/-- not caught here, past rows that name other classes: it goes on to the caller -/
theorem vx_outP {p : Program} {l : Launch} {e : Env} {R : Room} {s : State} {m : MethodId} {args : Array Value} {below : List Frame} {meth : Method} {c : Code} {H : Heap} {locs : List Loc} {cells slots : Nat} {free : Addr → Prop} {ls : Array Slot} {rest : List Value} {Qc : Array Value → State → Outcome → State → Prop} {XC : String → State → State → Prop}
    {pc : Nat} {own E : String} {ce : Cell} {q : Addr} {mc ms : Nat} (hown : s.vm.findClass own = some m.cls) (hlocks : meth.locks = false)
    (hpass : ∀ z ∈ c.exceptionTable.toList, covers z pc = false ∨ (z.catchType ≠ 0 ∧ ∃ nm : String, (Cond.classLink own z.catchType nm).before args s = true ∧ va_Nc E nm s)) (hcell : H[q]? = some ce) (hv : ce.vm = .none) (hcl : s.vm.findClass E = some ce.cls)
    (hx : ∀ t : State, t.heap = H → s.vm.Alike t.vm → XC E s t) (hf : ∀ z ∈ locs, free z.base) (hc : cells ≤ mc) (hs : slots ≤ ms) :
    vx_W p l e R s m args below meth c H locs cells slots (vx_MQ below Qc XC args s mc ms free) (F0 m pc ls rest) q := by
  intro T hT X
  have hpl : e.platform.magicAccessors = ({} : Platform).magicAccessors := by rw [X.admits.platform]
  obtain ⟨vm', hW', X', st⟩ := X.outThrough hlocks q (g := F0 m pc ls rest) rfl rfl rfl (cell := ce) (by rw [hT]; exact hcell) (by rw [hv]; rfl)
    (by obtain ⟨k9, h9, -⟩ := Vm.findClass_spec hcl; exact ⟨k9, h9⟩) (fun z hz => by
      rcases hpass z hz with h | ⟨hz0, nm, hl1, hn1⟩
      · exact Or.inl h
      · obtain ⟨c6, hc6, hcl6⟩ := Cond.classLink_spec hown hl1 e.platform hpl
        obtain ⟨a8, b8, h1, h2, h3⟩ := hn1
        cases Option.some.inj (h1.symm.trans hcl)
        cases Option.some.inj (h2.symm.trans hc6)
        exact Or.inr ⟨hz0, _, hcl6, h3⟩)
  obtain ⟨g₀, hfr⟩ := X'.frames_eq
  have hcell9 : ((T.setVm vm').setFrames (.throwing q :: below)).heap[q]? = some ce := by
    show T.heap[q]? = some ce
    rw [hT]; exact hcell
  have hend : Ended ((T.setVm vm').setFrames (.throwing q :: below)) below (.threw q) := State.frames_setFrames _ (State.cur_lt_of_frames hfr)
  refine ⟨(T.setVm vm').setFrames (.throwing q :: below), ?_, .threw q, X'.here.running, hend, Or.inr ⟨q, rfl, E, ce, locs, hx _ hT (X'.ends _).1.alike, hcell9, hv, hcl, (X'.ends _).1, (X'.ends _).2.mono hc hs, hf⟩⟩
  rw [X.pushThrowing_eq]
  exact st
/-- a thing of a world lies in the heap -/
theorem vx_lt {D : va_G} {cl : List vw_C} {ws : va_W} {H1 : Heap} (h : va_P D cl ws H1) {k : Nat} {q : Nat × va_E} (hk : ws[k]? = some q) : q.1 < H1.size := (h k q hk).lt
end VXS
/-! ===== END ===== -/
/-! ===== BEGIN methods with a table of their own: called by a name, returning or throwing ===== -/
section VXH
/-! vx_backW, vx_callVX, vx_callSX, vx_callVW, vx_runVW, vx_runVX, vx_runSX, vx_ofWH follow the same proofs as their sisters above (Free/Laws.lean, Shelf42/LK1.lean); vx_outP calls Shelf42/NT130.lean (outThrough). -/
section
variable {l : Launch} {R : Room} {p : Program} {e : Env} {below : List Frame} {s : State} {sargs : Array Value} {y : MethodName} {len W9 : Nat}
theorem vx_backW {ws : List Cond} {rm : Room} {Pc : Array Value → State → Prop} {Qc : Array Value → State → Outcome → State → Prop} {XC : String → State → State → Prop} {mc ms : Nat} {free : Addr → Prop} {bytes : ByteArray} {maxL : Nat} {ret : Option FieldType} {hh : List (Nat × Nat × Nat × Nat)}
    (hM : vx_Met l y ws rm Pc Qc XC mc ms free) (hblind : FrameBlind Pc) (hrc : rm.cells = mc) (hrs : rm.slots = ms)
    (hframes : rm.frames + 1 ≤ R.frames) (hlocals : W9 + (maxL + 11) + rm.locals ≤ R.locals)
    (hws : ∀ w ∈ ws, ∀ a' U, s.WarmedH U.vm → w.before a' U = true) (hcode : Cond.codeWith y bytes maxL ret hh ∈ ws) (hinit : ∀ a' U, s.WarmedH U.vm → (Cond.initialized y.cls).before a' U = true) :
    vx_Back l R p e below s sargs y len W9 (PreOf R mc ms Pc) (PostOf Qc mc ms free) (vx_Post XC mc ms free) := by
  intro m meth c A g ig mk a X hg hsize hdg hW hn hp
  have h1 : (headSpec ws rm).pre.before a A.U = true := atoms_intro fun w hw => hws w hw _ _ X.warmed
  have h2 : (Cond.codeWith y bytes maxL ret hh).before a A.U = true := hws _ hcode _ _ X.warmed
  have h3 : (Cond.initialized y.cls).before a A.U = true := hinit _ _ X.warmed
  have h4 : A.cells + (headSpec ws rm).room.cells ≤ R.cells := by rw [show (headSpec ws rm).room.cells = mc from hrc]; exact hp.1
  have h5 : A.slots + (headSpec ws rm).room.slots ≤ R.slots := by rw [show (headSpec ws rm).room.slots = ms from hrs]; exact hp.2.1
  have hPc : Pc a (A.U.calling g mk a) := hblind _ _ _ _ hp.2.2
  obtain ⟨U, Ls, c0, s0⟩ := A
  dsimp only [Pt.U, Pt.locs, Pt.cells, Pt.slots] at h1 h2 h3 h4 h5 X hn hPc ⊢
  obtain ⟨m9, methY, cY, hn9, hmY, hcY, -, hlY, -⟩ := Cond.codeWith_spec h2
  cases Option.some.inj (hn9.symm.trans hn)
  obtain ⟨kY, hkY, -⟩ := className_of_methodNamed hn
  have hinitY : kY.init = .initialized := Cond.initialized_spec (findClass_of_methodNamed hn) hkY h3
  have h : At U g.method c below := by rw [hg]; exact X.here
  have hlocals9 : W9 + (maxL + 11) + (headSpec ws rm).room.locals ≤ R.locals := hlocals
  have happ : (headSpec ws rm).appliesLoose y e.platform (U.calling g mk a) = true :=
    Spec.appliesLoose_calling (g := g) h hdg hn hkY hinitY
      (X.room_calling (g := g) (R' := (headSpec ws rm).room) hsize hmY hcY hframes (by rw [hlY]; omega) h4 h5) h1
  obtain ⟨mid, hmid⟩ := h.above
  have hfr : (U.setTop g).frames = (.java g :: mid) ++ below := by rw [State.frames_setTop' g h.top, hmid]; rfl
  obtain ⟨o, s₂, hsteps, -, hend, hq⟩ := Steps.callFree hM p X.admits X.cas X.clock (acts := []) hfr happ hPc trivial
  have hq' : vx_Q Qc XC mc ms free a (U.calling g mk a) o s₂ := hq
  rw [State.frames_setTop' g h.top] at hend
  obtain ⟨g₀, hg0⟩ := Option.isSome_iff_exists.mp h.top
  obtain ⟨r, hr⟩ := State.topJava?_eq_some.mp hg0
  have hr' : (({ U with heap := s₂.heap, slotsUsed := s₂.slotsUsed } : State).setVm s₂.vm).frames = .java g₀ :: r := hr
  rcases hq' with ⟨hqc, L, hfe, hL⟩ | ⟨q, rfl, E, ce, L, hx, hce, hcv, hcl, hW₂, hsm, hL⟩
  · obtain ⟨⟨v, rfl⟩, hW₂, e2, q2, q3, q4, q5, q6⟩ := id hfe
    have e3 : s₂ = ({ (U.calling g mk a).setFrames s₂.frames with heap := s₂.heap, slotsUsed := s₂.slotsUsed } : State).setVm s₂.vm := by
      have : s₂ = ({ s₂ with vm := (U.calling g mk a).vm } : State).setVm s₂.vm := rfl
      rw [e2] at this
      exact this
    obtain ⟨c₂, i₂, len₂, hc₂, hd₂, hf₂⟩ := hend
    have hW' : U.WarmedH s₂.vm := hW₂
    have hcc : c₂ = c := by
      have h1 : s₂.code? g.method = U.code? g.method := by
        rw [State.code?_eq, State.code?_eq, hW'.alike.method?]
      exact Option.some.inj (hc₂.symm.trans (h1.trans h.code))
    subst hcc
    have hlen : len₂ = len := by rw [hdg] at hd₂; cases hd₂; rfl
    subst hlen
    have hs₂ : s₂ = (({ U with heap := s₂.heap, slotsUsed := s₂.slotsUsed } : State).setVm s₂.vm).setTop { g with pc := g.pc + len₂, stack := v.toList ++ g.stack } := by
      refine e3.trans ?_
      rw [hf₂, State.calling_eq h.top, State.setFrames_setFrames, State.setTop_of_frames _ hr', hr]
      rfl
    have hsame : U.sameButNew ({ U with heap := s₂.heap, slotsUsed := s₂.slotsUsed } : State) L mc ms := by
      refine ⟨?_, q2, q3, q4, q5, q6⟩
      obtain ⟨t, ht, -⟩ := State.frames_cons hr
      show ({ U with heap := s₂.heap, slotsUsed := s₂.slotsUsed } : State) = { U.setFrames U.frames with heap := s₂.heap, slotsUsed := s₂.slotsUsed }
      rw [State.setFrames_self ht]
    subst hg
    refine Or.inl ⟨v, ⟨(({ U with heap := s₂.heap, slotsUsed := s₂.slotsUsed } : State).setVm s₂.vm), Ls ++ L, c0 + mc, s0 + ms⟩,
      ⟨X.admits, X.cas, X.clock, X.frames, X.room, X.hears, X.method, X.code, (X.here.setHeapUsed s₂.heap s₂.slotsUsed).setVm hW'.alike, X.tail, State.WarmedH.trans X.warmed hW', X.limits, X.bytes, X.same.trans (hsame.setVm s.vm)⟩,
      ⟨g, mk, s₂, L, rfl, rfl, hqc, rfl, hL, rfl, rfl⟩, ?_⟩
    show Steps p.tables e below _ ((({ U with heap := s₂.heap, slotsUsed := s₂.slotsUsed } : State).setVm s₂.vm).setTop { g with pc := g.pc + len₂, stack := v.toList ++ g.stack })
    rw [← hs₂]
    exact hsteps
  · obtain ⟨e2, q2, q3, q4, q5, q6⟩ := id hsm
    have e3 : s₂ = ({ (U.calling g mk a).setFrames s₂.frames with heap := s₂.heap, slotsUsed := s₂.slotsUsed } : State).setVm s₂.vm := by
      have : s₂ = ({ s₂ with vm := (U.calling g mk a).vm } : State).setVm s₂.vm := rfl
      rw [e2] at this
      exact this
    have hf₂ : s₂.frames = .throwing q :: .java g :: U.frames.tail := hend
    have hW' : U.WarmedH s₂.vm := hW₂
    have hs₂ : s₂ = ((({ U with heap := s₂.heap, slotsUsed := s₂.slotsUsed } : State).setVm s₂.vm).setTop g).pushFrame (.throwing q) := by
      refine e3.trans ?_
      rw [hf₂, State.calling_eq h.top, State.setFrames_setFrames, State.pushFrame, State.frames_setTop _ hr', State.setTop_of_frames _ hr', State.setFrames_setFrames, hr]
      rfl
    have hsame : U.sameButNew ({ U with heap := s₂.heap, slotsUsed := s₂.slotsUsed } : State) L mc ms := by
      refine ⟨?_, q2, q3, q4, q5, q6⟩
      obtain ⟨t, ht, -⟩ := State.frames_cons hr
      show ({ U with heap := s₂.heap, slotsUsed := s₂.slotsUsed } : State) = { U.setFrames U.frames with heap := s₂.heap, slotsUsed := s₂.slotsUsed }
      rw [State.setFrames_self ht]
    subst hg
    refine Or.inr ⟨q, ⟨(({ U with heap := s₂.heap, slotsUsed := s₂.slotsUsed } : State).setVm s₂.vm), Ls ++ L, c0 + mc, s0 + ms⟩,
      ⟨X.admits, X.cas, X.clock, X.frames, X.room, X.hears, X.method, X.code, (X.here.setHeapUsed s₂.heap s₂.slotsUsed).setVm hW'.alike, X.tail, State.WarmedH.trans X.warmed hW', X.limits, X.bytes, X.same.trans (hsame.setVm s.vm)⟩,
      ⟨g, mk, s₂, L, E, ce, rfl, rfl, hx, hce, hcv, hcl, rfl, hL, rfl, rfl⟩, ?_⟩
    show Steps p.tables e below _ (((({ U with heap := s₂.heap, slotsUsed := s₂.slotsUsed } : State).setVm s₂.vm).setTop g).pushFrame (.throwing q))
    rw [← hs₂]
    exact hsteps
end
variable {p : Program} {l : Launch} {e : Env} {R : Room} {s : State} {m : MethodId} {args : Array Value} {below : List Frame} {meth : Method} {c : Code} {T : State} {H : Heap} {locs : List Loc} {cells slots : Nat}
theorem vx_callVX (X : Stand p l e R s m args below meth c T locs cells slots) (hexec : p.tables.exec = Jvm.exec) {own C : String} {index : Nat} {y : MethodName} {bytes : ByteArray} {maxL : Nat} {ret : Option FieldType} {hh : List (Nat × Nat × Nat × Nat)}
    (hown : s.vm.findClass own = some m.cls) (hlink : (Cond.methodLink own index y).before args s = true) (hinst : (Cond.instanceMethod y).before args s = true) (hsel : (Cond.selects C y y).before args s = true)
    (hcode : (Cond.codeWith y bytes maxL ret hh).before args s = true) (hy : y.cls ≠ "java/lang/invoke/MethodHandle" ∧ y.cls ≠ "java/lang/invoke/VarHandle")
    {W9 : Nat} {Pre : Pt → Array Value → Prop} {Post : Pt → Array Value → Option Value → Pt → Prop} {PostX : Pt → Array Value → Addr → Pt → Prop} (hK : vx_Back l R p e below s args y 3 W9 Pre Post PostX)
    {b : Addr} {cellB : Cell} (hcell : T.heap[b]? = some cellB) (hobj : cellB.vm.isStatics = false) (hcls : s.vm.findClass C = some cellB.cls)
    {g : JFrame} (hg : g.method = m) (hsize : g.locals.size = c.maxLocals) {argsL rest : List Value} (hlen : ∀ sig, parseMethodDescriptor y.desc = some sig → argsL.length = sig.parameters.length)
    (hstack : g.stack = argsL.reverse ++ .ref b :: rest) (hW : 2 * g.monitorRoom + (rest.map fun v => v.category).sum ≤ W9) (hdg : decode c.code g.pc = .ok (.invokevirtual index, 3))
    (hpre : ∀ vm₁, s.WarmedH vm₁ → Pre ⟨T.setVm vm₁, locs, cells, slots⟩ (Value.ref b :: argsL).toArray) :
    (∃ (v : Option Value) (vm₁ : Vm) (B : Pt), s.WarmedH vm₁ ∧ Stand p l e R s m args below meth c B.U B.locs B.cells B.slots ∧ Post ⟨T.setVm vm₁, locs, cells, slots⟩ (Value.ref b :: argsL).toArray v B ∧
      ∀ target, Steps p.tables e below (B.U.setTop { g with pc := g.pc + 3, stack := v.toList ++ rest }) target → Steps p.tables e below (T.setTop g) target) ∨
    (∃ (q : Addr) (vm₁ : Vm) (B : Pt), s.WarmedH vm₁ ∧ Stand p l e R s m args below meth c B.U B.locs B.cells B.slots ∧ PostX ⟨T.setVm vm₁, locs, cells, slots⟩ (Value.ref b :: argsL).toArray q B ∧
      Steps p.tables e below (T.setTop g) ((B.U.setTop { g with stack := rest }).pushFrame (.throwing q))) := by
  obtain ⟨mk, methM, hnamed, hmethM, hstM, habM⟩ := Cond.instanceMethod_spec hinst
  obtain ⟨m8, methM', cM, hn8, hmethM', -, -, -, -, -, -, hsigM⟩ := Cond.codeWith_spec hcode
  cases Option.some.inj (hn8.symm.trans hnamed)
  cases hmethM.symm.trans hmethM'
  obtain ⟨c2, r2, m2, q1, q2, q3, q4, kP, hkP, hkPi⟩ := Cond.selects_spec hsel
  cases hcls.symm.trans q1
  cases (State.methodFound?_of_named hnamed hy).symm.trans q2
  cases hnamed.symm.trans q3
  have hselP : selectMethod e.platform s.vm cellB.cls mk = .method mk := by rw [Launch.admits_selectMethod X.admits]; exact q4
  obtain ⟨vm₁, X₁, hstep₁⟩ := X.invokevirtual hexec hown hlink hnamed hmethM hstM hkP hkPi hy (a := b) (cell := cellB) hcell
    (fun z h => by rw [h] at hobj; cases hobj) hselP hmethM habM hkP hkPi (g := g) hg (argsL := argsL) (rest := rest) (hlen _ hsigM) hstack hdg
  rcases hK m meth c ⟨T.setVm vm₁, locs, cells, slots⟩ { g with stack := rest } (.invokevirtual index) mk (Value.ref b :: argsL).toArray X₁ hg hsize hdg hW (X₁.named hnamed) (hpre vm₁ X₁.warmed) with ⟨v, B, X', hpost, hsteps⟩ | ⟨q, B, X', hpost, hsteps⟩
  · exact Or.inl ⟨v, vm₁, B, X₁.warmed, X', hpost, fun target h => hstep₁ _ fun acts => by rw [doInvoke_state]; exact hsteps.trans h⟩
  · exact Or.inr ⟨q, vm₁, B, X₁.warmed, X', hpost, hstep₁ _ fun acts => by rw [doInvoke_state]; exact hsteps⟩
theorem vx_callSX (X : Stand p l e R s m args below meth c T locs cells slots) (hexec : p.tables.exec = Jvm.exec) {own : String} {index : Nat} {y : MethodName} {bytes : ByteArray} {maxL : Nat} {ret : Option FieldType} {hh : List (Nat × Nat × Nat × Nat)}
    (hown : s.vm.findClass own = some m.cls) (hlink : (Cond.methodLink own index y).before args s = true) (hstat : (Cond.static y).before args s = true) (hinit : (Cond.initialized y.cls).before args s = true)
    (hcode : (Cond.codeWith y bytes maxL ret hh).before args s = true) (hy : y.cls ≠ "java/lang/invoke/MethodHandle" ∧ y.cls ≠ "java/lang/invoke/VarHandle")
    {W9 : Nat} {Pre : Pt → Array Value → Prop} {Post : Pt → Array Value → Option Value → Pt → Prop} {PostX : Pt → Array Value → Addr → Pt → Prop} (hK : vx_Back l R p e below s args y 3 W9 Pre Post PostX)
    {g : JFrame} (hg : g.method = m) (hsize : g.locals.size = c.maxLocals) {argsL rest : List Value} (hlen : ∀ sig, parseMethodDescriptor y.desc = some sig → argsL.length = sig.parameters.length)
    (hstack : g.stack = argsL.reverse ++ rest) (hW : 2 * g.monitorRoom + (rest.map fun v => v.category).sum ≤ W9) (hdg : decode c.code g.pc = .ok (.invokestatic index, 3))
    (hpre : ∀ vm₁, s.WarmedH vm₁ → Pre ⟨T.setVm vm₁, locs, cells, slots⟩ argsL.toArray) :
    (∃ (v : Option Value) (vm₁ : Vm) (B : Pt), s.WarmedH vm₁ ∧ Stand p l e R s m args below meth c B.U B.locs B.cells B.slots ∧ Post ⟨T.setVm vm₁, locs, cells, slots⟩ argsL.toArray v B ∧
      ∀ target, Steps p.tables e below (B.U.setTop { g with pc := g.pc + 3, stack := v.toList ++ rest }) target → Steps p.tables e below (T.setTop g) target) ∨
    (∃ (q : Addr) (vm₁ : Vm) (B : Pt), s.WarmedH vm₁ ∧ Stand p l e R s m args below meth c B.U B.locs B.cells B.slots ∧ PostX ⟨T.setVm vm₁, locs, cells, slots⟩ argsL.toArray q B ∧
      Steps p.tables e below (T.setTop g) ((B.U.setTop { g with stack := rest }).pushFrame (.throwing q))) := by
  obtain ⟨mk, methM, cM, hnamed, hmethM, -, -, -, -, -, -, hsigM⟩ := Cond.codeWith_spec hcode
  have hstatic : methM.isStatic = true := Cond.static_spec hnamed hmethM hstat
  obtain ⟨kP, hkP, -⟩ := className_of_methodNamed hnamed
  have hinitP : kP.init = .initialized := Cond.initialized_spec (findClass_of_methodNamed hnamed) hkP hinit
  obtain ⟨vm₁, X₁, hstep₁⟩ := X.invokestatic hexec hown hlink hnamed hmethM hstatic hkP hinitP hy (g := g) hg (argsL := argsL) (rest := rest) (hlen _ hsigM) hstack hdg
  rcases hK m meth c ⟨T.setVm vm₁, locs, cells, slots⟩ { g with stack := rest } (.invokestatic index) mk argsL.toArray X₁ hg hsize hdg hW (X₁.named hnamed) (hpre vm₁ X₁.warmed) with ⟨v, B, X', hpost, hsteps⟩ | ⟨q, B, X', hpost, hsteps⟩
  · exact Or.inl ⟨v, vm₁, B, X₁.warmed, X', hpost, fun target h => hstep₁ _ fun acts => by rw [doInvoke_state]; exact hsteps.trans h⟩
  · exact Or.inr ⟨q, vm₁, B, X₁.warmed, X', hpost, hstep₁ _ fun acts => by rw [doInvoke_state]; exact hsteps⟩
theorem vx_callVW (X : Stand p l e R s m args below meth c T locs cells slots) (hexec : p.tables.exec = Jvm.exec) {own C : String} {index : Nat} {y : MethodName} {bytes : ByteArray} {maxL : Nat} {ret : Option FieldType} {hh : List (Nat × Nat × Nat × Nat)}
    (hown : s.vm.findClass own = some m.cls) (hlink : (Cond.methodLink own index y).before args s = true) (hinst : (Cond.instanceMethod y).before args s = true) (hsel : (Cond.selects C y y).before args s = true)
    (hcode : (Cond.codeWith y bytes maxL ret hh).before args s = true) (hy : y.cls ≠ "java/lang/invoke/MethodHandle" ∧ y.cls ≠ "java/lang/invoke/VarHandle")
    {W9 : Nat} {Pre : Pt → Array Value → Prop} {Post : Pt → Array Value → Option Value → Pt → Prop} (hK : Back l R p e below s args y 3 W9 Pre Post)
    {b : Addr} {cellB : Cell} (hcell : T.heap[b]? = some cellB) (hobj : cellB.vm.isStatics = false) (hcls : s.vm.findClass C = some cellB.cls)
    {g : JFrame} (hg : g.method = m) (hsize : g.locals.size = c.maxLocals) {argsL rest : List Value} (hlen : ∀ sig, parseMethodDescriptor y.desc = some sig → argsL.length = sig.parameters.length)
    (hstack : g.stack = argsL.reverse ++ .ref b :: rest) (hW : 2 * g.monitorRoom + (rest.map fun v => v.category).sum ≤ W9) (hdg : decode c.code g.pc = .ok (.invokevirtual index, 3))
    (hpre : ∀ vm₁, s.WarmedH vm₁ → Pre ⟨T.setVm vm₁, locs, cells, slots⟩ (Value.ref b :: argsL).toArray) :
    ∃ (v : Option Value) (vm₁ : Vm) (B : Pt), s.WarmedH vm₁ ∧ Stand p l e R s m args below meth c B.U B.locs B.cells B.slots ∧ Post ⟨T.setVm vm₁, locs, cells, slots⟩ (Value.ref b :: argsL).toArray v B ∧
      ∀ target, Steps p.tables e below (B.U.setTop { g with pc := g.pc + 3, stack := v.toList ++ rest }) target → Steps p.tables e below (T.setTop g) target := by
  obtain ⟨mk, methM, hnamed, hmethM, hstM, habM⟩ := Cond.instanceMethod_spec hinst
  obtain ⟨m8, methM', cM, hn8, hmethM', -, -, -, -, -, -, hsigM⟩ := Cond.codeWith_spec hcode
  cases Option.some.inj (hn8.symm.trans hnamed)
  cases hmethM.symm.trans hmethM'
  obtain ⟨c2, r2, m2, q1, q2, q3, q4, kP, hkP, hkPi⟩ := Cond.selects_spec hsel
  cases hcls.symm.trans q1
  cases (State.methodFound?_of_named hnamed hy).symm.trans q2
  cases hnamed.symm.trans q3
  have hselP : selectMethod e.platform s.vm cellB.cls mk = .method mk := by rw [Launch.admits_selectMethod X.admits]; exact q4
  obtain ⟨vm₁, X₁, hstep₁⟩ := X.invokevirtual hexec hown hlink hnamed hmethM hstM hkP hkPi hy (a := b) (cell := cellB) hcell
    (fun z h => by rw [h] at hobj; cases hobj) hselP hmethM habM hkP hkPi (g := g) hg (argsL := argsL) (rest := rest) (hlen _ hsigM) hstack hdg
  obtain ⟨v, B, X', hpost, hsteps⟩ := hK m meth c ⟨T.setVm vm₁, locs, cells, slots⟩ { g with stack := rest } (.invokevirtual index) mk (Value.ref b :: argsL).toArray X₁ hg hsize hdg hW (X₁.named hnamed) (hpre vm₁ X₁.warmed)
  exact ⟨v, vm₁, B, X₁.warmed, X', hpost, fun target h => hstep₁ _ fun acts => by rw [doInvoke_state]; exact hsteps.trans h⟩
abbrev vx_CVW (R : Room) (s : State) (args : Array Value) (own C : String) (index : Nat) (y : MethodName) (bytes : ByteArray) (maxL : Nat) (ret : Option FieldType) (hh : List (Nat × Nat × Nat × Nat)) (ws : List Cond) (rm : Room) (mc ms n : Nat) : Prop :=
  (rm.cells = mc ∧ rm.slots = ms ∧ rm.frames + 1 ≤ R.frames ∧ 8 + (maxL + 11) + rm.locals ≤ R.locals ∧ (∀ w ∈ ws, ∀ (a' : Array Value) (U : State), s.WarmedH U.vm → w.before a' U = true) ∧ Cond.codeWith y bytes maxL ret hh ∈ ws) ∧
  (Cond.codeWith y bytes maxL ret hh).before args s = true ∧ (Cond.initialized y.cls).before args s = true ∧ (y.cls ≠ "java/lang/invoke/MethodHandle" ∧ y.cls ≠ "java/lang/invoke/VarHandle") ∧
  (∀ sig, parseMethodDescriptor y.desc = some sig → n = sig.parameters.length) ∧ (Cond.methodLink own index y).before args s = true ∧ (Cond.instanceMethod y).before args s = true ∧ (Cond.selects C y y).before args s = true
theorem vx_cwVW {own C : String} {index maxL mc ms : Nat} {y : MethodName} {bytes : ByteArray} {ret : Option FieldType} {hh : List (Nat × Nat × Nat × Nat)} {Ts ws ws' : List Cond} {rm : Room} (n : Nat) (ht : ∀ w ∈ Ts, w.before args s = true) (hT : GoodIn Ts (wsV own index C y ws)) (hw : ws = Cond.codeWith y bytes maxL ret hh :: ws') (hrc : rm.cells = mc) (hrs : rm.slots = ms)
    (hd : y.cls = C ∧ y.cls ≠ "java/lang/invoke/MethodHandle" ∧ y.cls ≠ "java/lang/invoke/VarHandle" ∧ (parseMethodDescriptor y.desc).map (fun d => d.parameters.length) = some n) (hR : rm.frames + 1 ≤ R.frames ∧ 8 + (maxL + 11) + rm.locals ≤ R.locals) :
    vx_CVW R s args own C index y bytes maxL ret hh ws rm mc ms n := by
  obtain ⟨hC, hd⟩ := hd
  subst hC
  have ok : ∀ w ∈ wsV own index y.cls y ws, w.before args s = true := fun w h => ht w (hT w h).1
  have hG : GoodIn Ts ws := fun w h => hT w (by unfold wsV; exact List.mem_append_right _ h)
  have hc : Cond.codeWith y bytes maxL ret hh ∈ ws := by rw [hw]; exact List.mem_cons_self
  refine ⟨⟨hrc, hrs, hR.1, hR.2, pay_in ht hG, hc⟩, ht _ (hG _ hc).1, ok _ (by simp [wsV]), ⟨hd.1, hd.2.1⟩, fun sig h => ?_, ok _ (by simp [wsV]), ok _ (by simp [wsV]), ok _ (by simp [wsV])⟩
  have h2 := hd.2.2
  rw [h] at h2
  exact (Option.some.inj h2).symm
theorem vx_runVW {y : MethodName} {bytes cc : ByteArray} {maxL nL mc ms n index : Nat} {ret : Option FieldType} {hh : List (Nat × Nat × Nat × Nat)} {ws : List Cond} {rm : Room} {Pc : Array Value → State → Prop} {Qc : Array Value → State → Outcome → State → Prop} {free : Addr → Prop} {Ts : List Cond} {own C : String} {b : Addr} {As rest : List Value} {g : JFrame}
    (S : CallFix p m c cc nL s args Ts own) (hM : Met l y ws rm Pc Qc mc ms free) (cw : vx_CVW R s args own C index y bytes maxL ret hh ws rm mc ms n) (hp : PreV s H C b Pc As)
    (hg : g.method = m) (hn : As.length = n) (hsize : g.locals.size = nL) (hstack : g.stack = As.reverse ++ .ref b :: rest) (hW : 2 * g.monitorRoom + (rest.map fun v => v.category).sum ≤ 8) (hdg : decode cc g.pc = .ok (.invokevirtual index, 3)) (hf : cells + mc ≤ R.cells ∧ slots + ms ≤ R.slots) :
    va_Run p l e R s m args below meth c H locs cells slots mc ms g rest (Qc (Value.ref b :: As).toArray) free := by
  obtain ⟨⟨hrc, hrs, hfr, hlo, hws, hcw⟩, hcode, hini, hy, hlen, hl, hin, hse⟩ := cw
  have hK : Back l R p e below s args y 3 8 (PreOf R mc ms Pc) (PostOf Qc mc ms free) := va_backW (hh := hh) (bytes := bytes) (maxL := maxL) (ret := ret) hM hp.1 hrc hrs hfr hlo hws hcw (fun a' U hW => word_at hW (Or.inl (by first | rfl | simp [Cond.onTables, Cond.keeps, Cond.steady])) hini)
  obtain ⟨hx, hb, hml, ho, -⟩ := S
  obtain ⟨-, ⟨cellB, hcB, hoB, hclB⟩, hPc⟩ := hp
  intro T hT X
  obtain ⟨v, vm₁, ⟨U', l2, c2, s2⟩, hW₁, X', ⟨g', mk, t, L, e1, e2, hq, h1, hL, h2, h3⟩, st⟩ := vx_callVW X hx (C := C) (hh := hh) (bytes := bytes) (maxL := maxL) (ret := ret) ho hl hin hse hcode hy hK (by rw [hT]; exact hcB) hoB hclB hg (hsize.trans hml.symm) (argsL := As) (rest := rest) (fun sig h => hn.trans (hlen sig h)) hstack hW (by rw [hb]; exact hdg)
    (fun vm₁ hW₁ => ⟨hf.1, hf.2, hPc (T.setVm vm₁) hT hW₁⟩)
  dsimp only [Pt.U, Pt.locs, Pt.cells, Pt.slots] at X' e1 e2 h1 h2 h3 st
  subst h1; subst h2; subst h3
  exact ⟨v, (T.setVm vm₁).calling g' mk (Value.ref b :: As).toArray, t, U', L, hT, X', hL, e1, e2, hq, st⟩
section
variable {y : MethodName} {bytes cc : ByteArray} {maxL nL mc ms n index : Nat} {ret : Option FieldType} {ws : List Cond} {rm : Room} {Pc : Array Value → State → Prop} {Qc : Array Value → State → Outcome → State → Prop} {XC : String → State → State → Prop} {free : Addr → Prop} {Ts : List Cond} {own C : String} {b : Addr} {As rest : List Value} {g : JFrame}
theorem vx_runVX {hh : List (Nat × Nat × Nat × Nat)} (S : CallFix p m c cc nL s args Ts own) (hM : vx_Met l y ws rm Pc Qc XC mc ms free) (cw : vx_CVW R s args own C index y bytes maxL ret hh ws rm mc ms n) (hp : PreV s H C b Pc As)
    (hg : g.method = m) (hn : As.length = n) (hsize : g.locals.size = nL) (hstack : g.stack = As.reverse ++ .ref b :: rest) (hW : 2 * g.monitorRoom + (rest.map fun v => v.category).sum ≤ 8) (hdg : decode cc g.pc = .ok (.invokevirtual index, 3)) (hf : cells + mc ≤ R.cells ∧ slots + ms ≤ R.slots) :
    vx_Run p l e R s m args below meth c H locs cells slots mc ms g rest (Qc (Value.ref b :: As).toArray) XC free := by
  obtain ⟨⟨hrc, hrs, hfr, hlo, hws, hcw⟩, hcode, hini, hy, hlen, hl, hin, hse⟩ := cw
  have hK : vx_Back l R p e below s args y 3 8 (PreOf R mc ms Pc) (PostOf Qc mc ms free) (vx_Post XC mc ms free) := vx_backW (hh := hh) (bytes := bytes) (maxL := maxL) (ret := ret) hM hp.1 hrc hrs hfr hlo hws hcw (fun a' U hW => word_at hW (Or.inl (by first | rfl | simp [Cond.onTables, Cond.keeps, Cond.steady])) hini)
  obtain ⟨hx, hb, hml, ho, -⟩ := S
  obtain ⟨-, ⟨cellB, hcB, hoB, hclB⟩, hPc⟩ := hp
  intro T hT X
  rcases vx_callVX X hx (C := C) (hh := hh) (bytes := bytes) (maxL := maxL) (ret := ret) ho hl hin hse hcode hy hK (by rw [hT]; exact hcB) hoB hclB hg (hsize.trans hml.symm) (argsL := As) (rest := rest) (fun sig h => hn.trans (hlen sig h)) hstack hW (by rw [hb]; exact hdg)
    (fun vm₁ hW₁ => ⟨hf.1, hf.2, hPc (T.setVm vm₁) hT hW₁⟩) with ⟨v, vm₁, ⟨U', l2, c2, s2⟩, hW₁, X', ⟨g', mk, t, L, e1, e2, hq, h1, hL, h2, h3⟩, st⟩ | ⟨q, vm₁, ⟨U', l2, c2, s2⟩, hW₁, X', ⟨g', mk, t, L, E, ce, e1, e2, hq, hce, hcv, hcl, h1, hL, h2, h3⟩, st⟩
  · dsimp only [Pt.U, Pt.locs, Pt.cells, Pt.slots] at X' e1 e2 h1 h2 h3 st
    subst h1; subst h2; subst h3
    exact Or.inl ⟨v, (T.setVm vm₁).calling g' mk (Value.ref b :: As).toArray, t, U', L, hT, X', hL, e1, e2, hq, st⟩
  · dsimp only [Pt.U, Pt.locs, Pt.cells, Pt.slots] at X' e1 e2 h1 h2 h3 st hcl
    subst h1; subst h2; subst h3
    exact Or.inr ⟨q, (T.setVm vm₁).calling g' mk (Value.ref b :: As).toArray, t, U', L, E, ce, hT, X', hL, e1, e2, hq, hce, hcv, vx_cls hW₁ hcl, st⟩
theorem vx_runSX {hh : List (Nat × Nat × Nat × Nat)} (S : CallFix p m c cc nL s args Ts own) (hM : vx_Met l y ws rm Pc Qc XC mc ms free) (cw : vx_CSW R s args own index y bytes maxL ret hh ws rm mc ms n) (hp : PreS s H Pc As)
    (hg : g.method = m) (hn : As.length = n) (hsize : g.locals.size = nL) (hstack : g.stack = As.reverse ++ rest) (hW : 2 * g.monitorRoom + (rest.map fun v => v.category).sum ≤ 8) (hdg : decode cc g.pc = .ok (.invokestatic index, 3)) (hf : cells + mc ≤ R.cells ∧ slots + ms ≤ R.slots) :
    vx_Run p l e R s m args below meth c H locs cells slots mc ms g rest (Qc As.toArray) XC free := by
  obtain ⟨⟨hrc, hrs, hfr, hlo, hws, hcw⟩, hcode, hini, hy, hlen, hl, hstt⟩ := cw
  have hK : vx_Back l R p e below s args y 3 8 (PreOf R mc ms Pc) (PostOf Qc mc ms free) (vx_Post XC mc ms free) := vx_backW (hh := hh) (bytes := bytes) (maxL := maxL) (ret := ret) hM hp.1 hrc hrs hfr hlo hws hcw (fun a' U hW => word_at hW (Or.inl (by first | rfl | simp [Cond.onTables, Cond.keeps, Cond.steady])) hini)
  obtain ⟨hx, hb, hml, ho, -⟩ := S
  intro T hT X
  rcases vx_callSX X hx (hh := hh) (bytes := bytes) (maxL := maxL) (ret := ret) ho hl hstt hini hcode hy hK hg (hsize.trans hml.symm) (argsL := As) (rest := rest) (fun sig h => hn.trans (hlen sig h)) hstack hW (by rw [hb]; exact hdg)
    (fun vm₁ hW₁ => ⟨hf.1, hf.2, hp.2 (T.setVm vm₁) hT hW₁⟩) with ⟨v, vm₁, ⟨U', l2, c2, s2⟩, hW₁, X', ⟨g', mk, t, L, e1, e2, hq, h1, hL, h2, h3⟩, st⟩ | ⟨q, vm₁, ⟨U', l2, c2, s2⟩, hW₁, X', ⟨g', mk, t, L, E, ce, e1, e2, hq, hce, hcv, hcl, h1, hL, h2, h3⟩, st⟩
  · dsimp only [Pt.U, Pt.locs, Pt.cells, Pt.slots] at X' e1 e2 h1 h2 h3 st
    subst h1; subst h2; subst h3
    exact Or.inl ⟨v, (T.setVm vm₁).calling g' mk As.toArray, t, U', L, hT, X', hL, e1, e2, hq, st⟩
  · dsimp only [Pt.U, Pt.locs, Pt.cells, Pt.slots] at X' e1 e2 h1 h2 h3 st hcl
    subst h1; subst h2; subst h3
    exact Or.inr ⟨q, (T.setVm vm₁).calling g' mk As.toArray, t, U', L, E, ce, hT, X', hL, e1, e2, hq, hce, hcv, vx_cls hW₁ hcl, st⟩
end
end VXH
theorem vx_ofWH {l : Launch} {y : MethodName} {ws ws' : List Cond} {rm : Room} {Pc : Array Value → State → Prop} {Qc : Array Value → State → Outcome → State → Prop} {XC : String → State → State → Prop} {mc ms : Nat} {free : Addr → Prop} {cc : ByteArray} {maxL : Nat} {ret : Option FieldType} {hh : List (Nat × Nat × Nat × Nat)}
    (hy : plainName y.cls = true) (hw : ws = Cond.codeWith y cc maxL ret hh :: ws')
    (body : ∀ p e s m args below meth c s₁, BodyLoose p l y (headSpec ws rm) cc maxL ret e s m args below meth c s₁ → c.maxLocals = maxL → Pc args s →
      W p l e (headSpec ws rm).room s m args below meth c s.heap [] 0 0 (vx_MQ below Qc XC args s mc ms free) (entryFrame m args maxL)) : vx_Met l y ws rm Pc Qc XC mc ms free := by
  refine MetFree.of_bodyS (code := cc) (maxLocals := maxL) (ret := ret) hy ?_ ?_
  · intro args s m h hn
    obtain ⟨m9, meth, c, hn9, h1, h2, h3, h4, -, h5, h6, -⟩ := Cond.codeWith_spec (atoms_spec (ws := ws) h _ (by rw [hw]; exact List.mem_cons_self))
    cases hn.symm.trans hn9
    exact ⟨meth, c, h1, h2, h3, h4, h5, h6⟩
  · intro p e s m args below meth c s₁ B hml hP _
    have hh0 : s₁.heap = s.heap := by rw [B.state]; rfl
    obtain ⟨t, a1, o, b1, b2, b3⟩ := body p e s m args below meth c s₁ B hml hP s₁ hh0 (Stand.of_body B)
    exact ⟨t, o, a1, b1, b2, b3⟩
/-! ===== END ===== -/
end
section
/-! 02.machine: a small machine of our own over the class's fields (int fields and int arrays): its judgement, and rows to walk it -/
abbrev tl_V : Type := Int ⊕ Nat
abbrev tl_W : Type := Nat → Nat → Int
abbrev tl_R : Type := Option Int ⊕ Nat
abbrev tl_L : Type := List (Nat × tl_V)
abbrev tl_Q : Type := tl_R → tl_W → Prop
def tl_set (w : tl_W) (k j : Nat) (x : Int) : tl_W := fun a => if a = k then va_up (w k) j x else w a
/-- method number: rows, locals, type of the answer; pool number: field; field: length of its array; pool number: method and how many values it takes off the stack; pool number: kind of exception -/
abbrev tl_P : Type := (Nat → List (Nat × Instr) × Nat × Option FieldType) × (Nat → Option Nat) × (Nat → Option Nat) × (Nat → Option (Nat × Nat)) × (Nat → Option Nat)
def tl_at : List (Nat × Instr) → Nat → Option Instr
  | [], _ => none
  | q :: l, pc => bif Nat.beq q.1 pc then some q.2 else tl_at l pc
def tl_get : tl_L → Nat → Option tl_V
  | [], _ => none
  | q :: l, i => bif Nat.beq q.1 i then some q.2 else tl_get l i
def tl_put (L : tl_L) (i : Nat) (v : tl_V) : tl_L := bif L.any (fun q => Nat.beq q.1 i) then L.map (fun q => bif Nat.beq q.1 i then (i, v) else q) else L ++ [(i, v)]
def tl_lk : List (Nat × Nat) → Nat → Option Nat
  | [], _ => none
  | q :: l, i => bif Nat.beq q.1 i then some q.2 else tl_lk l i
def tl_lk2 : List (Nat × Nat × Nat) → Nat → Option (Nat × Nat)
  | [], _ => none
  | q :: l, i => bif Nat.beq q.1 i then some q.2 else tl_lk2 l i
def tl_to (pc : Nat) (off : Int) : Nat := ((pc : Int) + off).toNat
def tl_ldi (v : Option tl_V) (k : Int → Prop) : Prop := match v with
  | some (.inl x) => k x
  | _ => False
def tl_lda (v : Option tl_V) (k : Nat → Prop) : Prop := match v with
  | some (.inr a) => k a
  | _ => False
def tl_st1 (st : List tl_V) (k : Int → List tl_V → Prop) : Prop := match st with
  | .inl x :: r => k x r
  | _ => False
def tl_st2 (st : List tl_V) (k : Int → Int → List tl_V → Prop) : Prop := match st with
  | .inl y :: .inl x :: r => k x y r
  | _ => False
def tl_sta (st : List tl_V) (k : Nat → List tl_V → Prop) : Prop := match st with
  | .inr a :: r => k a r
  | _ => False
def tl_any1 (st : List tl_V) (k : tl_V → List tl_V → Prop) : Prop := match st with
  | v :: r => k v r
  | _ => False
def tl_some {α : Type} (x : Option α) (k : α → Prop) : Prop := match x with
  | some v => k v
  | none => False
def tl_br (c a b : Prop) : Prop := (c → a) ∧ (¬ c → b)
def tl_res (K : List tl_V → tl_W → Prop) (st : List tl_V) : tl_Q := fun r w => match r with
  | .inl (some x) => K (.inl x :: st) w
  | .inl none => K st w
  | .inr _ => False
def tl_cl (C : Nat → List tl_V → tl_W → tl_Q → Prop) (K : List tl_V → tl_W → Prop) (st : List tl_V) (j n : Nat) (w : tl_W) : Prop :=
  n ≤ st.length ∧ (st.drop n).length ≤ 8 ∧ C j (st.take n).reverse w (tl_res K (st.drop n))
def tl_w (P : tl_P) (j : Nat) (C : Nat → List tl_V → tl_W → tl_Q → Prop) (K : Nat → tl_L → List tl_V → tl_W → Prop) (Q : tl_Q) (i : Instr) (pc : Nat) (L : tl_L) (st : List tl_V) (w : tl_W) : Prop :=
  match i with
  | .iconst n => K (pc + 1) L (.inl (n) :: st) w
  | .bipush n => K (pc + 2) L (.inl (n) :: st) w
  | .sipush n => K (pc + 3) L (.inl (n) :: st) w
  | .iload_n k => tl_ldi (tl_get L k) (fun x => K (pc + 1) L (.inl x :: st) w)
  | .iload k => tl_ldi (tl_get L k) (fun x => K (pc + 2) L (.inl x :: st) w)
  | .aload_n k => tl_lda (tl_get L k) (fun a => K (pc + 1) L (.inr a :: st) w)
  | .istore_n k => tl_st1 st (fun x r => K (pc + 1) (tl_put L k (.inl x)) r w)
  | .istore k => tl_st1 st (fun x r => K (pc + 2) (tl_put L k (.inl x)) r w)
  | .iinc k n => tl_ldi (tl_get L k) (fun x => (-2147483648 ≤ x + n ∧ x + n < 2147483648) ∧ K (pc + 3) (tl_put L k (.inl (x + n))) st w)
  | .iadd => tl_st2 st (fun x y r => (-2147483648 ≤ x + y ∧ x + y < 2147483648) ∧ K (pc + 1) L (.inl (x + y) :: r) w)
  | .isub => tl_st2 st (fun x y r => (-2147483648 ≤ x - y ∧ x - y < 2147483648) ∧ K (pc + 1) L (.inl (x - y) :: r) w)
  | .imul => tl_st2 st (fun x y r => (-2147483648 ≤ x * y ∧ x * y < 2147483648) ∧ K (pc + 1) L (.inl (x * y) :: r) w)
  | .iand => tl_st2 st (fun x y r => ∃ a b : Nat, x = a ∧ y = b ∧ K (pc + 1) L (.inl ((a &&& b : Nat) : Int) :: r) w)
  | .ior => tl_st2 st (fun x y r => ∃ a b : Nat, x = a ∧ y = b ∧ K (pc + 1) L (.inl ((a ||| b : Nat) : Int) :: r) w)
  | .idiv => tl_st2 st (fun x y r => ∃ a b : Nat, x = a ∧ y = b ∧ 0 < b ∧ K (pc + 1) L (.inl ((a / b : Nat) : Int) :: r) w)
  | .ishl => tl_st2 st (fun x y r => ∃ a b : Nat, x = a ∧ y = b ∧ b < 32 ∧ a * 2 ^ b < 2147483648 ∧ K (pc + 1) L (.inl ((a * 2 ^ b : Nat) : Int) :: r) w)
  | .ishr => tl_st2 st (fun x y r => ∃ a b : Nat, x = a ∧ y = b ∧ b < 32 ∧ K (pc + 1) L (.inl ((a / 2 ^ b : Nat) : Int) :: r) w)
  | .dup => tl_any1 st (fun v r => K (pc + 1) L (v :: v :: r) w)
  | .dup2 => tl_any1 st (fun a r => tl_any1 r (fun b r' => K (pc + 1) L (a :: b :: a :: b :: r') w))
  | .pop => tl_any1 st (fun _ r => K (pc + 1) L r w)
  | .ifCond .eq off => tl_st1 st (fun x r => tl_br (x = 0) (K (tl_to pc off) L r w) (K (pc + 3) L r w))
  | .ifCond .ne off => tl_st1 st (fun x r => tl_br (¬ x = 0) (K (tl_to pc off) L r w) (K (pc + 3) L r w))
  | .ifCond .lt off => tl_st1 st (fun x r => tl_br (x < 0) (K (tl_to pc off) L r w) (K (pc + 3) L r w))
  | .ifCond .ge off => tl_st1 st (fun x r => tl_br (0 ≤ x) (K (tl_to pc off) L r w) (K (pc + 3) L r w))
  | .ifCond .gt off => tl_st1 st (fun x r => tl_br (0 < x) (K (tl_to pc off) L r w) (K (pc + 3) L r w))
  | .ifCond .le off => tl_st1 st (fun x r => tl_br (x ≤ 0) (K (tl_to pc off) L r w) (K (pc + 3) L r w))
  | .if_icmp .eq off => tl_st2 st (fun x y r => tl_br (x = y) (K (tl_to pc off) L r w) (K (pc + 3) L r w))
  | .if_icmp .ne off => tl_st2 st (fun x y r => tl_br (¬ x = y) (K (tl_to pc off) L r w) (K (pc + 3) L r w))
  | .if_icmp .lt off => tl_st2 st (fun x y r => tl_br (x < y) (K (tl_to pc off) L r w) (K (pc + 3) L r w))
  | .if_icmp .ge off => tl_st2 st (fun x y r => tl_br (y ≤ x) (K (tl_to pc off) L r w) (K (pc + 3) L r w))
  | .if_icmp .gt off => tl_st2 st (fun x y r => tl_br (y < x) (K (tl_to pc off) L r w) (K (pc + 3) L r w))
  | .if_icmp .le off => tl_st2 st (fun x y r => tl_br (x ≤ y) (K (tl_to pc off) L r w) (K (pc + 3) L r w))
  | .goto off => K (tl_to pc off) L st w
  | .getfield ix => tl_sta st (fun a r => a = 0 ∧ tl_some (P.2.1 ix) (fun k => k < 99 ∧ match P.2.2.1 k with
      | some _ => K (pc + 3) L (.inr (k + 1) :: r) w
      | none => K (pc + 3) L (.inl (w k 0) :: r) w))
  | .putfield ix => tl_st1 st (fun x r => tl_sta r (fun a r' => a = 0 ∧ tl_some (P.2.1 ix) (fun k => k < 99 ∧ P.2.2.1 k = none ∧ K (pc + 3) L r' (tl_set w k 0 x))))
  | .getstatic ix => P.2.1 ix = some 99 ∧ K (pc + 3) L (.inr 100 :: st) w
  | .iaload => tl_st1 st (fun x r => tl_sta r (fun a r' => ∃ k b n : Nat, a = k + 1 ∧ x = (b : Int) ∧ P.2.2.1 k = some n ∧ b < n ∧ K (pc + 1) L (.inl (w k b) :: r') w))
  | .iastore => tl_st2 st (fun i x r => tl_sta r (fun a r' => ∃ k b n : Nat, a = k + 1 ∧ k ≠ 99 ∧ i = (b : Int) ∧ P.2.2.1 k = some n ∧ b < n ∧ K (pc + 1) L r' (tl_set w k b x)))
  | .invokestatic ix => tl_some (P.2.2.2.1 ix) (fun q => bif Nat.beq q.1 1000 then tl_st2 st (fun x y r => r.length ≤ 8 ∧ K (pc + 3) L (.inl (max x y) :: r) w)
      else bif Nat.beq q.1 1001 then tl_st2 st (fun x y r => r.length ≤ 8 ∧ K (pc + 3) L (.inl (min x y) :: r) w)
      else tl_cl C (fun st' w' => K (pc + 3) L st' w') st q.1 q.2 w)
  | .invokevirtual ix => tl_some (P.2.2.2.1 ix) (fun q => (st.take q.2).getLast? = some (.inr 0) ∧ tl_cl C (fun st' w' => K (pc + 3) L st' w') st q.1 q.2 w)
  | .ireturn => tl_st1 st (fun x r => r = [] ∧ tl_some (P.1 j).2.2 (fun ty => ty = .int ∨ ((x = 0 ∨ x = 1) ∧ ty = .boolean)) ∧ Q (.inl (some x)) w)
  | .return_ => st = [] ∧ (P.1 j).2.2 = none ∧ Q (.inl none) w
  | .new ix => st = [] ∧ tl_some (P.2.2.2.2 ix) (fun k => Q (.inr k) w)
  | _ => False
def tl_wp (P : tl_P) (C : Nat → List tl_V → tl_W → tl_Q → Prop) (j : Nat) (Q : tl_Q) : Nat → Nat → tl_L → List tl_V → tl_W → Prop
  | 0, _, _, _, _ => False
  | n + 1, pc, L, st, w => tl_some (tl_at (P.1 j).1 pc) (fun i => tl_w P j C (tl_wp P C j Q n) Q i pc L st w)
def tl_en : Nat → List tl_V → tl_L
  | _, [] => []
  | i, v :: l => (i, v) :: tl_en (i + 1) l
/-- a call of method j at depth d, values as, world w: it ends, and Q holds of its end -/
def tl_C (P : tl_P) : Nat → Nat → List tl_V → tl_W → tl_Q → Prop
  | 0, _, _, _, _ => False
  | d + 1, j, as, w, Q => ∃ n, tl_wp P (tl_C P d) j Q n 0 (tl_en 0 as) [] w
/-- the walk from a point within method j; its callees at depth d -/
def tl_E (P : tl_P) (d j pc : Nat) (L : tl_L) (st : List tl_V) (w : tl_W) (Q : tl_Q) : Prop := ∃ n, tl_wp P (tl_C P d) j Q n pc L st w
/-- the call ends with just this answer and this world -/
def tl_Ev (P : tl_P) (d j : Nat) (as : List tl_V) (w : tl_W) (r : tl_R) (w' : tl_W) : Prop := ∀ Q : tl_Q, Q r w' → tl_C P d j as w Q
section TLR
variable {P : tl_P} {d j pc : Nat} {L : tl_L} {st : List tl_V} {w : tl_W} {Q : tl_Q}
theorem tl_start {as : List tl_V} {r : tl_R} {w' : tl_W} (h : ∀ Q : tl_Q, Q r w' → tl_E P d j 0 (tl_en 0 as) [] w Q) : tl_Ev P (d + 1) j as w r w' := fun Q hq => h Q hq
theorem tl_go (k : Nat) (pc' : Nat) (L' : tl_L) (st' : List tl_V) (w' : tl_W) (h : ∀ n, tl_wp P (tl_C P d) j Q n pc' L' st' w' → tl_wp P (tl_C P d) j Q (n + k) pc L st w) (kk : tl_E P d j pc' L' st' w' Q) : tl_E P d j pc L st w Q := by
  obtain ⟨n, hn⟩ := kk
  exact ⟨n + k, h n hn⟩
theorem tl_one {i : Instr} (hc : tl_at (P.1 j).1 pc = some i) (h : ∃ n, tl_w P j (tl_C P d) (tl_wp P (tl_C P d) j Q n) Q i pc L st w) : tl_E P d j pc L st w Q := by
  obtain ⟨n, hn⟩ := h
  refine ⟨n + 1, ?_⟩
  show tl_some (tl_at (P.1 j).1 pc) _
  rw [hc]
  exact hn
theorem tl_ald (b n : Nat) {k : Nat} {x : Int} {r : List tl_V} (hc : tl_at (P.1 j).1 pc = some .iaload) (hx : x = (b : Int)) (hn : P.2.2.1 k = some n) (hb : b < n) (kk : tl_E P d j (pc + 1) L (.inl (w k b) :: r) w Q) : tl_E P d j pc L (.inl x :: .inr (k + 1) :: r) w Q := by
  obtain ⟨m, hm⟩ := kk
  exact tl_one hc ⟨m, k, b, n, rfl, hx, hn, hb, hm⟩
theorem tl_ast (b n : Nat) {k : Nat} {i x : Int} {r : List tl_V} (hc : tl_at (P.1 j).1 pc = some .iastore) (hk : k ≠ 99) (hx : i = (b : Int)) (hn : P.2.2.1 k = some n) (hb : b < n) (kk : tl_E P d j (pc + 1) L r (tl_set w k b x) Q) : tl_E P d j pc L (.inl x :: .inl i :: .inr (k + 1) :: r) w Q := by
  obtain ⟨m, hm⟩ := kk
  exact tl_one hc ⟨m, k, b, n, rfl, hk, hx, hn, hb, hm⟩
theorem tl_callS {ix j' n : Nat} {as rest : List tl_V} {v : Option Int} {w' : tl_W} (hc : tl_at (P.1 j).1 pc = some (.invokestatic ix)) (hm : P.2.2.2.1 ix = some (j', n)) (h0 : Nat.beq j' 1000 = false) (h1 : Nat.beq j' 1001 = false) (hE : tl_Ev P d j' as w (.inl v) w') (hn : n ≤ st.length) (ha : (st.take n).reverse = as) (hr : st.drop n = rest) (h8 : rest.length ≤ 8)
    (kk : tl_E P d j (pc + 3) L (v.toList.map .inl ++ rest) w' Q) : tl_E P d j pc L st w Q := by
  obtain ⟨m, hm'⟩ := kk
  refine tl_one hc ⟨m, ?_⟩
  show tl_some (P.2.2.2.1 ix) _
  rw [hm]
  show bif Nat.beq j' 1000 then _ else bif Nat.beq j' 1001 then _ else _
  rw [h0, h1]
  refine ⟨hn, by rw [hr]; exact h8, ?_⟩
  rw [ha, hr]
  apply hE
  cases v with
  | none => exact hm'
  | some x => exact hm'
theorem tl_callV {ix j' n : Nat} {as rest : List tl_V} {v : Option Int} {w' : tl_W} (hc : tl_at (P.1 j).1 pc = some (.invokevirtual ix)) (hm : P.2.2.2.1 ix = some (j', n)) (hE : tl_Ev P d j' as w (.inl v) w') (hn : n ≤ st.length) (hl : (st.take n).getLast? = some (.inr 0)) (ha : (st.take n).reverse = as) (hr : st.drop n = rest) (h8 : rest.length ≤ 8)
    (kk : tl_E P d j (pc + 3) L (v.toList.map .inl ++ rest) w' Q) : tl_E P d j pc L st w Q := by
  obtain ⟨m, hm'⟩ := kk
  refine tl_one hc ⟨m, ?_⟩
  show tl_some (P.2.2.2.1 ix) _
  rw [hm]
  refine ⟨hl, hn, by rw [hr]; exact h8, ?_⟩
  rw [ha, hr]
  apply hE
  cases v with
  | none => exact hm'
  | some x => exact hm'
/-- a branch: which one instruction it is, is said by h -/
theorem tl_if (c : Prop) (pt pf : Nat) (L' : tl_L) (st' : List tl_V) (h : ∀ n, tl_br c (tl_wp P (tl_C P d) j Q n pt L' st' w) (tl_wp P (tl_C P d) j Q n pf L' st' w) → tl_wp P (tl_C P d) j Q (n + 1) pc L st w) (kt : c → tl_E P d j pt L' st' w Q) (kf : ¬ c → tl_E P d j pf L' st' w Q) : tl_E P d j pc L st w Q := by
  by_cases hc : c
  · obtain ⟨n, hn⟩ := kt hc
    exact ⟨n + 1, h n ⟨fun _ => hn, fun q => absurd hc q⟩⟩
  · obtain ⟨n, hn⟩ := kf hc
    exact ⟨n + 1, h n ⟨fun q => absurd q hc, fun _ => hn⟩⟩
/-- a value on the stack gets another name -/
theorem tl_eq {st' : List tl_V} (h : st = st') (kk : tl_E P d j pc L st' w Q) : tl_E P d j pc L st w Q := h ▸ kk
theorem tl_top {x y : Int} {r : List tl_V} (h : x = y) (kk : tl_E P d j pc L (.inl y :: r) w Q) : tl_E P d j pc L (.inl x :: r) w Q := h ▸ kk
theorem tl_loc {L' : tl_L} (h : L = L') (kk : tl_E P d j pc L' st w Q) : tl_E P d j pc L st w Q := h ▸ kk
theorem tl_wld {w' : tl_W} (h : w = w') (kk : tl_E P d j pc L st w' Q) : tl_E P d j pc L st w Q := h ▸ kk
theorem tl_end (h : ∀ n, tl_wp P (tl_C P d) j Q (n + 1) pc L st w) : tl_E P d j pc L st w Q := ⟨1, h 0⟩
end TLR
end
section
/-! 03.sound: what the small machine says, the machine does -/
def tl_val (o : Nat) (ad : Nat → Nat) : tl_V → Value
  | .inl x => .int (Int32.ofInt x)
  | .inr 0 => .ref o
  | .inr (k + 1) => .ref (ad k)
theorem tl_val_cat (o : Nat) (ad : Nat → Nat) (v : tl_V) : (tl_val o ad v).category = 1 := by
  rcases v with x | a
  · rfl
  · cases a <;> rfl
def tl_lm (o : Nat) (ad : Nat → Nat) (L : tl_L) : List (Nat × Value) := L.map (fun q => (q.1, tl_val o ad q.2))
theorem tl_at_mem : ∀ (l : List (Nat × Instr)) (pc : Nat) (i : Instr), tl_at l pc = some i → (pc, i) ∈ l
  | [], _, _, h => by cases h
  | q :: l, pc, i, h => by
    unfold tl_at at h
    cases hb : Nat.beq q.1 pc with
    | true =>
      rw [hb] at h
      have e1 : q.1 = pc := Nat.eq_of_beq_eq_true hb
      have e2 : q.2 = i := Option.some.inj h
      subst e1; subst e2
      exact List.mem_cons_self
    | false =>
      rw [hb] at h
      exact List.mem_cons_of_mem _ (tl_at_mem l pc i h)
theorem tl_get_mem : ∀ (L : tl_L) (i : Nat) (v : tl_V), tl_get L i = some v → (i, v) ∈ L
  | [], _, _, h => by cases h
  | q :: l, i, v, h => by
    unfold tl_get at h
    cases hb : Nat.beq q.1 i with
    | true =>
      rw [hb] at h
      have e1 : q.1 = i := Nat.eq_of_beq_eq_true hb
      have e2 : q.2 = v := Option.some.inj h
      subst e1; subst e2
      exact List.mem_cons_self
    | false =>
      rw [hb] at h
      exact List.mem_cons_of_mem _ (tl_get_mem l i v h)
theorem tl_put_mem {L : tl_L} {i : Nat} {v : tl_V} {q : Nat × tl_V} (h : q ∈ tl_put L i v) : q = (i, v) ∨ (q ∈ L ∧ q.1 ≠ i) := by
  unfold tl_put at h
  cases ha : L.any (fun q => Nat.beq q.1 i) with
  | true =>
    rw [ha] at h
    obtain ⟨a, h1, h2⟩ := List.mem_map.mp h
    cases hb : Nat.beq a.1 i with
    | true =>
      rw [hb] at h2
      exact Or.inl h2.symm
    | false =>
      rw [hb] at h2
      have e : a = q := h2
      subst e
      exact Or.inr ⟨h1, Nat.ne_of_beq_eq_false hb⟩
  | false =>
    rw [ha] at h
    rcases List.mem_append.mp h with h | h
    · refine Or.inr ⟨h, fun e => ?_⟩
      have h3 : L.any (fun q => Nat.beq q.1 i) = true := List.any_eq_true.mpr ⟨q, h, by rw [e]; exact Nat.beq_refl i⟩
      rw [ha] at h3
      cases h3
    · exact Or.inl (List.mem_singleton.mp h)
theorem tl_has_get {o : Nat} {ad : Nat → Nat} {ls : Array Slot} {nL : Nat} {L : tl_L} {i : Nat} {v : tl_V} (h : lv_has ls nL (tl_lm o ad L)) (hg : tl_get L i = some v) : ls[i]? = some (.val (tl_val o ad v)) :=
  h.2.2 (i, tl_val o ad v) (List.mem_map.mpr ⟨(i, v), tl_get_mem L i v hg, rfl⟩)
theorem tl_has_plc {o : Nat} {ad : Nat → Nat} {L : tl_L} {i : Nat} {v : tl_V} (hg : tl_get L i = some v) : ∃ k : Nat, (tl_lm o ad L)[k]? = some (i, tl_val o ad v) :=
  List.getElem?_of_mem (List.mem_map.mpr ⟨(i, v), tl_get_mem L i v hg, rfl⟩)
theorem tl_has_put {o : Nat} {ad : Nat → Nat} {ls : Array Slot} {nL : Nat} {L : tl_L} {i : Nat} {v : tl_V} (h : lv_has ls nL ((i, tl_val o ad v) :: (tl_lm o ad L).filter (fun q => !(q.1 == i) && !(q.1 + 1 == i && q.2.category == 2)))) : lv_has ls nL (tl_lm o ad (tl_put L i v)) := by
  refine ⟨h.1, h.2.1, fun q hq => ?_⟩
  obtain ⟨a, ha, rfl⟩ := List.mem_map.mp hq
  rcases tl_put_mem ha with rfl | ⟨h1, h2⟩
  · exact h.2.2 _ List.mem_cons_self
  · refine h.2.2 _ (List.mem_cons_of_mem _ (List.mem_filter.mpr ⟨List.mem_map.mpr ⟨a, h1, rfl⟩, ?_⟩))
    show (!(a.1 == i) && !(a.1 + 1 == i && (tl_val o ad a.2).category == 2)) = true
    rw [tl_val_cat]
    simp [h2]
theorem tl_ldi_s {v : Option tl_V} {k : Int → Prop} (h : tl_ldi v k) : ∃ x, v = some (.inl x) ∧ k x := by
  rcases v with _ | (x | a)
  · exact h.elim
  · exact ⟨x, rfl, h⟩
  · exact h.elim
theorem tl_lda_s {v : Option tl_V} {k : Nat → Prop} (h : tl_lda v k) : ∃ a, v = some (.inr a) ∧ k a := by
  rcases v with _ | (x | a)
  · exact h.elim
  · exact h.elim
  · exact ⟨a, rfl, h⟩
theorem tl_st1_s {st : List tl_V} {k : Int → List tl_V → Prop} (h : tl_st1 st k) : ∃ x r, st = .inl x :: r ∧ k x r := by
  rcases st with _ | ⟨(x | a), r⟩
  · exact h.elim
  · exact ⟨x, r, rfl, h⟩
  · exact h.elim
theorem tl_st2_s {st : List tl_V} {k : Int → Int → List tl_V → Prop} (h : tl_st2 st k) : ∃ x y r, st = .inl y :: .inl x :: r ∧ k x y r := by
  rcases st with _ | ⟨(y | a), _ | ⟨(x | b), r⟩⟩
  · exact h.elim
  · exact h.elim
  · exact ⟨x, y, r, rfl, h⟩
  · exact h.elim
  · exact h.elim
  · exact h.elim
  · exact h.elim
theorem tl_sta_s {st : List tl_V} {k : Nat → List tl_V → Prop} (h : tl_sta st k) : ∃ a r, st = .inr a :: r ∧ k a r := by
  rcases st with _ | ⟨(x | a), r⟩
  · exact h.elim
  · exact h.elim
  · exact ⟨a, r, rfl, h⟩
theorem tl_any1_s {st : List tl_V} {k : tl_V → List tl_V → Prop} (h : tl_any1 st k) : ∃ v r, st = v :: r ∧ k v r := by
  rcases st with _ | ⟨v, r⟩
  · exact h.elim
  · exact ⟨v, r, rfl, h⟩
theorem tl_some_s {α : Type} {x : Option α} {k : α → Prop} (h : tl_some x k) : ∃ v, x = some v ∧ k v := by
  rcases x with _ | v
  · exact h.elim
  · exact ⟨v, rfl, h⟩
/-- the world's cells: the object, its arrays -/
def tl_fs (N : Nat) (ks : List Nat) (ad : Nat → Nat) (w : tl_W) : List Value := (List.range N).map (fun k => if k ∈ ks then Value.ref (ad k) else .int (Int32.ofInt (w k 0)))
def tl_ar (P : tl_P) (ad : Nat → Nat) (cA : Nat → ClassId) (w : tl_W) (k : Nat) : Nat × va_E := (ad k, .inl (cA k, (P.2.2.1 k).getD 0, .inl (fun a => Int32.ofInt (w k a))))
def tl_ce (P : tl_P) (N ci : Nat) (ks : List Nat) (o : Nat) (ad : Nat → Nat) (cA : Nat → ClassId) (w : tl_W) : va_W := (o, .inr (ci, tl_fs N ks ad w)) :: ks.map (tl_ar P ad cA w)
theorem tl_fs_at {N : Nat} {ks : List Nat} {ad : Nat → Nat} {w : tl_W} {k : Nat} (hk : k < N) : (tl_fs N ks ad w)[k]? = some (if k ∈ ks then Value.ref (ad k) else .int (Int32.ofInt (w k 0))) := by
  unfold tl_fs
  rw [List.getElem?_map, List.getElem?_range hk]
  rfl
theorem tl_fs_len {N : Nat} {ks : List Nat} {ad : Nat → Nat} {w : tl_W} : (tl_fs N ks ad w).length = N := by
  unfold tl_fs
  rw [List.length_map, List.length_range]
theorem tl_ce_arr {P : tl_P} {N ci : Nat} {ks : List Nat} {o : Nat} {ad : Nat → Nat} {cA : Nat → ClassId} {w : tl_W} {i k n : Nat} (h : ks[i]? = some k) (hn : P.2.2.1 k = some n) : (tl_ce P N ci ks o ad cA w)[i + 1]? = some (ad k, .inl (cA k, n, .inl (fun a => Int32.ofInt (w k a)))) := by
  show (ks.map (tl_ar P ad cA w))[i]? = _
  rw [List.getElem?_map, h]
  show some (tl_ar P ad cA w k) = _
  unfold tl_ar
  rw [hn]
  rfl
theorem tl_ce_set {P : tl_P} {N ci : Nat} {ks : List Nat} {o : Nat} {ad : Nat → Nat} {cA : Nat → ClassId} {w : tl_W} {i k n b : Nat} {x : Int} (hnd : va_nd ks = true) (h : ks[i]? = some k) (hn : P.2.2.1 k = some n) :
    (tl_ce P N ci ks o ad cA w).set (i + 1) (ad k, .inl (cA k, n, .inl (upd (fun a => Int32.ofInt (w k a)) b (Int32.ofInt x)))) = tl_ce P N ci ks o ad cA (tl_set w k b x) := by
  have hk : k ∈ ks := List.mem_of_getElem? h
  have h1 : tl_fs N ks ad (tl_set w k b x) = tl_fs N ks ad w := by
    unfold tl_fs
    apply List.map_congr_left
    intro k' _
    by_cases hm : k' ∈ ks
    · rw [if_pos hm, if_pos hm]
    · rw [if_neg hm, if_neg hm]
      have hne : k' ≠ k := fun e => hm (e ▸ hk)
      unfold tl_set
      rw [if_neg hne]
  unfold tl_ce
  rw [h1, List.set_cons_succ]
  congr 1
  apply List.ext_getElem?
  intro m
  rw [List.getElem?_set]
  by_cases hm : i = m
  · subst hm
    have hlt : i < (ks.map (tl_ar P ad cA w)).length := by rw [List.length_map]; exact (List.getElem?_eq_some_iff.mp h).1
    rw [if_pos rfl, if_pos hlt, List.getElem?_map, h]
    show _ = some (tl_ar P ad cA (tl_set w k b x) k)
    unfold tl_ar
    rw [hn]
    have e : upd (fun a => Int32.ofInt (w k a)) b (Int32.ofInt x) = fun a => Int32.ofInt (tl_set w k b x k a) := by
      funext a
      unfold tl_set upd va_up
      rw [if_pos rfl]
      by_cases hab : a = b
      · rw [if_pos hab, if_pos hab]
      · rw [if_neg hab, if_neg hab]
    rw [e]
    rfl
  · rw [if_neg hm, List.getElem?_map, List.getElem?_map]
    cases hq : ks[m]? with
    | none => rfl
    | some k' =>
      have hne : k' ≠ k := fun e => hm (va_nd_inj ks hnd i m k h (e ▸ hq))
      show some (tl_ar P ad cA w k') = some (tl_ar P ad cA (tl_set w k b x) k')
      unfold tl_ar tl_set
      rw [if_neg hne]
theorem tl_ce_put {P : tl_P} {N ci : Nat} {ks : List Nat} {o : Nat} {ad : Nat → Nat} {cA : Nat → ClassId} {w : tl_W} {k : Nat} {x : Int} (hk : k < N) (hks : k ∉ ks) :
    (tl_ce P N ci ks o ad cA w).set 0 (o, .inr (ci, (tl_fs N ks ad w).set k (.int (Int32.ofInt x)))) = tl_ce P N ci ks o ad cA (tl_set w k 0 x) := by
  have h1 : (tl_fs N ks ad w).set k (.int (Int32.ofInt x)) = tl_fs N ks ad (tl_set w k 0 x) := by
    apply List.ext_getElem?
    intro m
    rw [List.getElem?_set]
    by_cases hm : k = m
    · subst hm
      rw [if_pos rfl, if_pos (by rw [tl_fs_len]; exact hk), tl_fs_at hk, if_neg hks]
      unfold tl_set va_up
      rw [if_pos rfl, if_pos rfl]
    · rw [if_neg hm]
      by_cases hlt : m < N
      · have e1 : tl_set w k 0 x m = w m := by
          unfold tl_set
          exact if_neg (fun e => hm e.symm)
        rw [tl_fs_at hlt, tl_fs_at hlt, e1]
      · rw [List.getElem?_eq_none (by rw [tl_fs_len]; omega), List.getElem?_eq_none (by rw [tl_fs_len]; omega)]
  unfold tl_ce
  rw [List.set_cons_zero, h1]
  congr 1
  apply List.map_congr_left
  intro k' hk'
  have hne : k' ≠ k := fun e => hks (e ▸ hk')
  unfold tl_ar tl_set
  rw [if_neg hne]
def tl_A (o : Nat) (ks : List Nat) (ad : Nat → Nat) (sz : Nat) : Nat → Prop := fun q => (q = o ∨ ∃ k, k ∈ ks ∧ q = ad k) ∨ sz ≤ q
theorem tl_A_mono {o : Nat} {ks : List Nat} {ad : Nat → Nat} {a b : Nat} (h : a ≤ b) : ∀ q, tl_A o ks ad b q → tl_A o ks ad a q := fun q hq => hq.elim Or.inl (fun z => Or.inr (Nat.le_trans h z))
theorem tl_D {P : tl_P} {N ci : Nat} {ks : List Nat} {o : Nat} {ad : Nat → Nat} {cA : Nat → ClassId} {w : tl_W} {B : Nat → Prop} {sz : Nat} (h : va_D B (tl_ce P N ci ks o ad cA w)) : va_D (tl_A o ks ad sz) (tl_ce P N ci ks o ad cA w) := by
  refine ⟨h.1, fun m q hm => ?_⟩
  have hq := List.mem_of_getElem? hm
  unfold tl_ce at hq
  rcases List.mem_cons.mp hq with rfl | hq
  · exact Or.inl (Or.inl rfl)
  · obtain ⟨k, hk, rfl⟩ := List.mem_map.mp hq
    exact Or.inl (Or.inr ⟨k, hk, rfl⟩)
def tl_G (sf : Bool) (cn fn : String) (n9 : Nat) (ad : Nat → Nat) (w : tl_W) (A : Nat → Prop) (U : State) (H : Heap) : Prop := sf = true → va_Z cn fn "[I" (.ref (ad 99)) A U H ∧ va_T .int (ad 99) n9 (fun j => .int (Int32.ofInt (w 99 j))) A U H
def tl_len : Instr → Nat
  | .bipush _ => 2
  | .sipush _ => 3
  | .iload _ => 2
  | .istore _ => 2
  | .iinc _ _ => 3
  | .ifCond _ _ => 3
  | .if_icmp _ _ => 3
  | .goto _ => 3
  | .getfield _ => 3
  | .putfield _ => 3
  | .getstatic _ => 3
  | .invokestatic _ => 3
  | .invokevirtual _ => 3
  | .invokespecial _ => 3
  | .new _ => 3
  | _ => 1
def tl_ok (P : tl_P) (sta : Nat → Bool) (nL pc : Nat) : Instr → Bool
  | .iconst n => decide (-2147483648 ≤ n) && decide (n < 2147483648)
  | .bipush n => decide ((Int8.ofInt n).toInt32 = Int32.ofInt n) && (decide (-2147483648 ≤ n) && decide (n < 2147483648))
  | .sipush n => decide ((Int16.ofInt n).toInt32 = Int32.ofInt n) && (decide (-2147483648 ≤ n) && decide (n < 2147483648))
  | .istore_n k => decide ((k : Nat) < nL)
  | .istore k => decide (k < nL)
  | .iinc k _ => decide (k < nL)
  | .ifCond _ off => decide (0 ≤ (pc : Int) + off)
  | .if_icmp _ off => decide (0 ≤ (pc : Int) + off)
  | .goto off => decide (0 ≤ (pc : Int) + off)
  | .invokestatic ix => match P.2.2.2.1 ix with
    | some q => Nat.beq q.1 1000 || (Nat.beq q.1 1001 || (decide (q.1 < 1000) && sta q.1))
    | none => true
  | .invokevirtual ix => match P.2.2.2.1 ix with
    | some q => decide (q.1 < 1000) && !sta q.1
    | none => true
  | _ => true
theorem tl_to_eq {pc : Nat} {off : Int} (h : 0 ≤ (pc : Int) + off) : (pc : Int) + off = ((tl_to pc off : Nat) : Int) := by
  unfold tl_to
  omega
theorem tl_sum (o : Nat) (ad : Nat → Nat) (r : List tl_V) : ((r.map (tl_val o ad)).map fun v => v.category).sum = r.length := by
  induction r with
  | nil => rfl
  | cons a r ih =>
    simp only [List.map_cons, List.sum_cons, List.length_cons, tl_val_cat]
    rw [ih]
    omega
theorem tl_sl (o : Nat) (ad : Nat → Nat) (as : List tl_V) : (lg_sl (as.map (tl_val o ad))).length = as.length := by
  induction as with
  | nil => rfl
  | cons a r ih =>
    have e : lg_sl ((a :: r).map (tl_val o ad)) = Slot.val (tl_val o ad a) :: lg_sl (r.map (tl_val o ad)) := by
      unfold lg_sl
      rw [List.map_cons, List.flatMap_cons, if_neg (by rw [tl_val_cat]; decide)]
      rfl
    rw [e, List.length_cons, List.length_cons, ih]
theorem tl_args (o : Nat) (ad : Nat → Nat) (as : List tl_V) : ∀ i : Nat, lv_args i (as.map (tl_val o ad)) = tl_lm o ad (tl_en i as) := by
  induction as with
  | nil => intro i; rfl
  | cons a r ih =>
    intro i
    show (i, tl_val o ad a) :: lv_args (if (tl_val o ad a).category = 2 then i + 2 else i + 1) (r.map (tl_val o ad)) = (i, tl_val o ad a) :: tl_lm o ad (tl_en (i + 1) r)
    rw [if_neg (by rw [tl_val_cat]; decide), ih (i + 1)]
/-- numbers -/
def tl_ir (x : Int) : Prop := -2147483648 ≤ x ∧ x < 2147483648
def tl_vr : tl_V → Prop
  | .inl x => tl_ir x
  | .inr _ => True
theorem tl_ti {x : Int} (h : tl_ir x) : (Int32.ofInt x).toInt = x := Int32.toInt_ofInt_of_le (by have := h.1; omega) (by have := h.2; omega)
theorem tl_eqI {x y : Int} (hx : tl_ir x) (hy : tl_ir y) : Int32.ofInt x = Int32.ofInt y ↔ x = y := by
  rw [← Int32.toInt_inj, tl_ti hx, tl_ti hy]
theorem tl_ltI {x y : Int} (hx : tl_ir x) (hy : tl_ir y) : Int32.ofInt x < Int32.ofInt y ↔ x < y := by
  rw [Int32.lt_iff_toInt_lt, tl_ti hx, tl_ti hy]
theorem tl_leI {x y : Int} (hx : tl_ir x) (hy : tl_ir y) : Int32.ofInt x ≤ Int32.ofInt y ↔ x ≤ y := by
  rw [Int32.le_iff_toInt_le, tl_ti hx, tl_ti hy]
theorem tl_z : (0 : Int32) = Int32.ofInt 0 := rfl
theorem tl_ir0 : tl_ir 0 := ⟨by decide, by decide⟩
theorem tl_nI (b : Nat) : Int32.ofInt (b : Int) = nI b := Int32.ofInt_eq_ofNat
theorem tl_or (a b : Nat) : Int32.ofInt (a : Int) ||| Int32.ofInt (b : Int) = Int32.ofInt ((a ||| b : Nat) : Int) := by
  rw [tl_nI, tl_nI, tl_nI]
  apply Int32.toBitVec.inj
  show BitVec.ofNat 32 a ||| BitVec.ofNat 32 b = BitVec.ofNat 32 (a ||| b)
  rw [BitVec.ofNat_or]
theorem tl_and (a b : Nat) : Int32.ofInt (a : Int) &&& Int32.ofInt (b : Int) = Int32.ofInt ((a &&& b : Nat) : Int) := by
  rw [tl_nI, tl_nI, tl_nI]
  apply Int32.toBitVec.inj
  show BitVec.ofNat 32 a &&& BitVec.ofNat 32 b = BitVec.ofNat 32 (a &&& b)
  rw [BitVec.ofNat_and]
theorem tl_sm : ∀ n, n < 32 → ((nI n &&& 31).toBitVec.smod 32).toNat = n := by decide +kernel
theorem tl_shl {a b : Nat} (hb : b < 32) (h : a * 2 ^ b < 2147483648) : Int32.ofInt (a : Int) <<< (Int32.ofInt (b : Int) &&& 31) = Int32.ofInt ((a * 2 ^ b : Nat) : Int) := by
  rw [tl_nI, tl_nI, tl_nI]
  exact pk_shlN _ b (tl_sm b hb) (by omega)
theorem tl_shr {a b : Nat} (ha : a < 2147483648) (hb : b < 32) : Int32.ofInt (a : Int) >>> (Int32.ofInt (b : Int) &&& 31) = Int32.ofInt ((a / 2 ^ b : Nat) : Int) := by
  rw [tl_nI, tl_nI, tl_nI]
  exact pk_shrN (by omega) _ b (tl_sm b hb)
theorem tl_dv {a b : Nat} (ha : a < 2147483648) (h0 : 0 < b) (hb : b < 2147483648) : Int32.ofInt (a : Int) / Int32.ofInt (b : Int) = Int32.ofInt ((a / b : Nat) : Int) := by
  rw [tl_nI, tl_nI, tl_nI]
  exact pk_div (by omega) h0 (by omega)
theorem tl_mx {x y : Int} (hx : tl_ir x) (hy : tl_ir y) : (if Int32.ofInt x < Int32.ofInt y then Int32.ofInt y else Int32.ofInt x) = Int32.ofInt (max x y) := by
  by_cases h : x < y
  · rw [if_pos ((tl_ltI hx hy).mpr h), Int.max_eq_right (by omega)]
  · rw [if_neg (fun q => h ((tl_ltI hx hy).mp q)), Int.max_eq_left (by omega)]
theorem tl_mn {x y : Int} (hx : tl_ir x) (hy : tl_ir y) : (if Int32.ofInt y < Int32.ofInt x then Int32.ofInt y else Int32.ofInt x) = Int32.ofInt (min x y) := by
  by_cases h : y < x
  · rw [if_pos ((tl_ltI hy hx).mpr h), Int.min_eq_right (by omega)]
  · rw [if_neg (fun q => h ((tl_ltI hy hx).mp q)), Int.min_eq_left (by omega)]
theorem tl_ra {a : Nat} (h : tl_ir (a : Int)) : a < 2147483648 := by have := h.2; omega
theorem tl_cons {v : tl_V} {r : List tl_V} (h : ∀ x ∈ v :: r, tl_vr x) : tl_vr v ∧ ∀ x ∈ r, tl_vr x := ⟨h v List.mem_cons_self, fun x hx => h x (List.mem_cons_of_mem _ hx)⟩
theorem tl_push {v : tl_V} {r : List tl_V} (h1 : tl_vr v) (h2 : ∀ x ∈ r, tl_vr x) : ∀ x ∈ v :: r, tl_vr x := by
  intro x hx
  rcases List.mem_cons.mp hx with rfl | hx
  · exact h1
  · exact h2 x hx
theorem tl_put_r {L : tl_L} {i : Nat} {v : tl_V} (h : ∀ q ∈ L, tl_vr q.2) (hv : tl_vr v) : ∀ q ∈ tl_put L i v, tl_vr q.2 := by
  intro q hq
  rcases tl_put_mem hq with rfl | ⟨h1, _⟩
  · exact hv
  · exact h q h1
theorem tl_set_r {w : tl_W} {k j : Nat} {x : Int} (h : ∀ a b, tl_ir (w a b)) (hx : tl_ir x) : ∀ a b, tl_ir (tl_set w k j x a b) := by
  intro a b
  unfold tl_set va_up
  by_cases h1 : a = k
  · rw [if_pos h1]
    by_cases h2 : b = j
    · rw [if_pos h2]; exact hx
    · rw [if_neg h2]; exact h k b
  · rw [if_neg h1]; exact h a b
theorem tl_en_r {as : List tl_V} (h : ∀ v ∈ as, tl_vr v) : ∀ i, ∀ q ∈ tl_en i as, tl_vr q.2 := by
  induction as with
  | nil => intro i q hq; cases hq
  | cons a r ih =>
    intro i q hq
    rcases List.mem_cons.mp hq with rfl | hq
    · exact h a List.mem_cons_self
    · exact ih (fun v hv => h v (List.mem_cons_of_mem _ hv)) (i + 1) q hq
theorem tl_orb {a b : Nat} (ha : a < 2147483648) (hb : b < 2147483648) : a ||| b < 2147483648 := Nat.or_lt_two_pow (n := 31) ha hb
theorem tl_andb {a b : Nat} (ha : a < 2147483648) : a &&& b < 2147483648 := Nat.lt_of_le_of_lt Nat.and_le_left ha
theorem tl_divb {a b : Nat} (ha : a < 2147483648) : a / b < 2147483648 := Nat.lt_of_le_of_lt (Nat.div_le_self a b) ha
theorem tl_irn {a : Nat} (h : a < 2147483648) : tl_ir (a : Int) := ⟨by omega, by omega⟩
end
section
/-! 04.walk: the walk of the small machine is a walk of the machine; contracts out of it -/
def tl_ws (P : tl_P) (nm : Nat → MethodName) (bs : Nat → ByteArray) (WS : List Cond) (j : Nat) : List Cond := Cond.code (nm j) (bs j) (P.1 j).2.1 (P.1 j).2.2 :: WS
def tl_rm (d : Nat) : Room := { frames := d, cells := 0, slots := 0, locals := 40 * d }
/-- what is asked of the numbers and words of a class: every row of it is decided -/
def tl_face (P : tl_P) (N : Nat) (ks : List Nat) (sf : Bool) (n9 : Nat) (cn fn : String) (T : u_T) (ty0 : Nat → FieldType) (nM : Nat) (nm : Nat → MethodName) (bs : Nat → ByteArray) (sta : Nat → Bool) (WS : List Cond) : Prop :=
  (∀ j, j < nM → ∀ q ∈ (P.1 j).1, decode (bs j) q.1 = .ok (q.2, tl_len q.2) ∧ tl_ok P sta (P.1 j).2.1 q.1 q.2 = true) ∧
  (∀ j, j < nM → (nm j).cls = cn ∧ (P.1 j).2.1 ≤ 20 ∧ Cond.code (nm j) (bs j) (P.1 j).2.1 (P.1 j).2.2 ∈ WS) ∧
  (∀ w ∈ WS, (w.onTables && w.keeps) = true ∨ ∃ ty, w = .arrayClass ty) ∧
  (plainName cn = true ∧ cn ≠ "java/lang/invoke/MethodHandle" ∧ cn ≠ "java/lang/invoke/VarHandle" ∧ Cond.initialized cn ∈ WS ∧ ∀ w ∈ u_ws cn T N, w ∈ WS) ∧
  (∀ k, k < N → (T k).1 = cn ∧ (k ∈ ks ↔ (P.2.2.1 k).isSome = true) ∧ (P.2.2.1 k = none → (T k).2.2.2 = false ∧ parseFieldDescriptor (T k).2.2.1 = some .int)) ∧
  (∀ k n, P.2.2.1 k = some n → n < 2 ^ 31 ∧ (k ∈ ks ∨ (k = 99 ∧ sf = true ∧ n = n9))) ∧
  (∀ ix k, P.2.1 ix = some k → (k < 99 → k < N ∧ Cond.fieldLink cn ix cn (T k).2.1 (T k).2.2.1 ∈ WS) ∧ (k = 99 → sf = true ∧ Cond.fieldLink cn ix cn fn "[I" ∈ WS)) ∧
  (∀ ix q, P.2.2.2.1 ix = some q →
    (q.1 < 1000 → q.1 < nM ∧ q.2 ≤ (P.1 q.1).2.1 ∧ Cond.methodLink cn ix (nm q.1) ∈ WS ∧
      (sta q.1 = true → Cond.static (nm q.1) ∈ WS ∧ (parseMethodDescriptor (nm q.1).desc).map (fun d => d.parameters.length) = some q.2) ∧
      (sta q.1 = false → Cond.instanceMethod (nm q.1) ∈ WS ∧ Cond.selects cn (nm q.1) (nm q.1) ∈ WS ∧ (parseMethodDescriptor (nm q.1).desc).map (fun d => d.parameters.length) = some (q.2 - 1))) ∧
    (q.1 = 1000 → Cond.methodLink cn ix Lib.Math.max.name ∈ WS ∧ Cond.static Lib.Math.max.name ∈ WS ∧ Cond.initialized "java/lang/Math" ∈ WS ∧ Cond.code Lib.Math.max.name Lib.Math.max.code 2 (some .int) ∈ WS) ∧
    (q.1 = 1001 → Cond.methodLink cn ix Lib.Math.min.name ∈ WS ∧ Cond.static Lib.Math.min.name ∈ WS ∧ Cond.initialized "java/lang/Math" ∈ WS ∧ Cond.code Lib.Math.min.name Lib.Math.min.code 2 (some .int) ∈ WS)) ∧
  (va_nd ks = true ∧ (∀ k, k < N → parseFieldDescriptor (T k).2.2.1 = some (ty0 k)) ∧ (∀ a, a < N → ∀ b, b < N → a ≠ b → (T a).2.1 ≠ (T b).2.1))
/-- the world at an object -/
def tl_B (P : tl_P) (N ci : Nat) (ks : List Nat) (D : va_G) (cl : List vw_C) (o : Nat) (ad : Nat → Nat) (cA : Nat → ClassId) (w : tl_W) (U : State) : Prop :=
  va_P D cl (tl_ce P N ci ks o ad cA w) U.heap ∧ va_K D cl (ks.map fun k => (cA k, FieldType.int)) U ∧ va_D (fun _ => True) (tl_ce P N ci ks o ad cA w)
def tl_Pc (P : tl_P) (N ci : Nat) (ks : List Nat) (sf : Bool) (n9 : Nat) (cn fn : String) (D : va_G) (cl : List vw_C) (o : Nat) (ad : Nat → Nat) (cA : Nat → ClassId) (as : List tl_V) (w : tl_W) (sz : Nat) : Array Value → State → Prop :=
  va_Pc (as.map (tl_val o ad)) (fun U => U.heap.size = sz ∧ tl_B P N ci ks D cl o ad cA w U ∧ tl_G sf cn fn n9 ad w (tl_A o ks ad sz) U U.heap)
def tl_Qc (P : tl_P) (N ci : Nat) (ks : List Nat) (D : va_G) (cl : List vw_C) (o : Nat) (ad : Nat → Nat) (cA : Nat → ClassId) (w : tl_W) (Q : tl_Q) (sz : Nat) : Array Value → State → Outcome → State → Prop :=
  fun _ st oc t => (∃ (r : Option Int) (w' : tl_W), oc = .returned (r.map (fun x => Value.int (Int32.ofInt x))) ∧ Q (.inl r) w' ∧ tl_B P N ci ks D cl o ad cA w' t ∧ w' 99 = w 99 ∧ (∀ x, r = some x → tl_ir x) ∧ ∀ a b, tl_ir (w' a b)) ∧ va_F (tl_A o ks ad sz) st t
theorem tl_G.use {sf : Bool} {cn fn : String} {n9 : Nat} {ad : Nat → Nat} {w w' : tl_W} {A B : Nat → Prop} {s U : State} {H : Heap} (h : tl_G sf cn fn n9 ad w A s s.heap) (hvm : s.vm.Alike U.vm) (hU : U.heap = H) (hH : ∀ q : Nat, q < s.heap.size → ¬ A q → H[q]? = s.heap[q]?) (hBA : ∀ q, B q → A q) (hw : w' 99 = w 99) : tl_G sf cn fn n9 ad w' B U U.heap := by
  intro hs
  obtain ⟨h1, h2⟩ := h hs
  rw [hU, hw]
  exact ⟨((h1.kept hH).moved hvm).narrow hBA, ((h2.kept hH).moved hvm).narrow hBA⟩
section TLW
variable {p : Program} {l : Launch} {e : Env} {R : Room} {s : State} {m : MethodId} {args : Array Value} {below : List Frame} {meth : Method} {c : Code} {H : Heap} {locs : List Loc} {QQ : State → Prop}
variable {P : tl_P} {N ci : Nat} {ks : List Nat} {sf : Bool} {n9 : Nat} {cn fn : String} {D : va_G} {cl : List vw_C} {o : Nat} {ad : Nat → Nat} {cA : Nat → ClassId} {T : u_T} {ty0 : Nat → FieldType} {nM : Nat} {nm : Nat → MethodName} {bs : Nat → ByteArray} {sta : Nat → Bool} {WS : List Cond}
theorem tl_callk {pc : Nat} {ls : Array Slot} {st0 rest : List Value} {a : Array Value} {w : tl_W} {Q : tl_Q} {sz : Nat} {A0 : Nat → Prop} {H0 : Heap}
    (hr : va_Run p l e R s m args below meth c H locs 0 0 0 0 (F0 m pc ls st0) rest (tl_Qc P N ci ks D cl o ad cA w Q sz a) (tl_A o ks ad sz)) (hS : va_S A0 H0 H locs) (hA : ∀ q, tl_A o ks ad sz q → A0 q)
    (kk : ∀ (r : Option Int) (w' : tl_W) (t : State) (H1 : Heap) (locs1 : List Loc), t.heap = H1 → s.vm.Alike t.vm → Q (.inl r) w' → tl_B P N ci ks D cl o ad cA w' t → w' 99 = w 99 → (∀ x, r = some x → tl_ir x) → (∀ a b, tl_ir (w' a b)) → va_S A0 H0 H1 locs1 → W p l e R s m args below meth c H1 locs1 0 0 QQ (F0 m (pc + 3) ls ((r.map (fun x => Value.int (Int32.ofInt x))).toList ++ rest))) :
    W p l e R s m args below meth c H locs 0 0 QQ (F0 m pc ls st0) := by
  intro T hT X
  obtain ⟨v, st₀, t, T', L, h0, X', hL, e1, e2, ⟨⟨r, w', hv, hq, hb, h9, hr1, hr2⟩, hz, hk⟩, st⟩ := hr T hT X
  cases hv
  rw [h0] at hz hk
  obtain ⟨t2, a1, b1⟩ := kk r w' t T'.heap (locs ++ L) e1.symm (by rw [← e2]; exact X'.warmed.alike) hq hb h9 hr1 hr2
    ⟨Nat.le_trans hS.1 (by rw [e1]; exact hz), fun q h1 h2 => by rw [e1, hk q (Nat.lt_of_lt_of_le h1 hS.1) (fun z => h2 (hA q z))]; exact hS.2.1 q h1 h2, fun q hq => by
      rcases List.mem_append.mp hq with h | h
      · exact hS.2.2 q h
      · exact hA _ (hL q h)⟩ T' rfl X'
  exact ⟨t2, st t2 a1, b1⟩
theorem tl_blind {as : List tl_V} {w : tl_W} {sz : Nat} : FrameBlind (tl_Pc P N ci ks sf n9 cn fn D cl o ad cA as w sz) := by
  intro a U g mk q
  obtain ⟨q0, q1, ⟨qP, qK, qD⟩, qG⟩ := q
  refine ⟨q0, q1, ⟨qP, va_K.moved (u := U) (U := U.calling g mk a) (Vm.Alike.refl U.vm) qK, qD⟩, fun hs => ?_⟩
  obtain ⟨g1, g2⟩ := qG hs
  exact ⟨va_Z.moved (u := U) (U := U.calling g mk a) (Vm.Alike.refl U.vm) g1, va_T.moved (u := U) (U := U.calling g mk a) (Vm.Alike.refl U.vm) g2⟩
theorem tl_good (hW : ∀ w ∈ WS, (w.onTables && w.keeps) = true ∨ ∃ ty, w = .arrayClass ty) {j j' : Nat} (hc : Cond.code (nm j') (bs j') (P.1 j').2.1 (P.1 j').2.2 ∈ WS) : GoodIn (tl_ws P nm bs WS j) (tl_ws P nm bs WS j') := by
  intro w hw
  rcases List.mem_cons.mp hw with rfl | hw
  · exact ⟨List.mem_cons_of_mem _ hc, hW _ hc⟩
  · exact ⟨List.mem_cons_of_mem _ hw, hW _ hw⟩
set_option maxHeartbeats 4000000 in
set_option maxRecDepth 100000 in
theorem tl_walk (F : tl_face P N ks sf n9 cn fn T ty0 nM nm bs sta WS) {d j : Nat} {Q : tl_Q} {w0 : tl_W} (hR : R.frames = d + 1 ∧ R.locals = 40 * (d + 1)) (hx : p.tables.exec = Jvm.exec) (hb : c.code = bs j) (hml : c.maxLocals = (P.1 j).2.1) (hown : s.vm.findClass cn = some m.cls) (hts : ∀ w ∈ tl_ws P nm bs WS j, w.before args s = true)
    (hj : j < nM) (hc : cl[ci]? = some (cn, T, N)) (hK : va_K D cl (ks.map fun k => (cA k, FieldType.int)) s) (hG : tl_G sf cn fn n9 ad w0 (tl_A o ks ad s.heap.size) s s.heap)
    (hM : ∀ (j' : Nat) (as : List tl_V) (w : tl_W) (Q' : tl_Q) (sz : Nat), j' < nM → as.length ≤ (P.1 j').2.1 → (∀ v ∈ as, tl_vr v) → (∀ a b, tl_ir (w a b)) → (∀ k w', ¬ Q' (.inr k) w') → tl_C P d j' as w Q' → Met l (nm j') (tl_ws P nm bs WS j') (tl_rm d) (tl_Pc P N ci ks sf n9 cn fn D cl o ad cA as w sz) (tl_Qc P N ci ks D cl o ad cA w Q' sz) 0 0 (tl_A o ks ad sz))
    (hret : ∀ (r : Option Int) (w' : tl_W) (H : Heap) (locs : List Loc) (pc : Nat) (ls : Array Slot), Q (.inl r) w' → va_P D cl (tl_ce P N ci ks o ad cA w') H → va_D (tl_A o ks ad s.heap.size) (tl_ce P N ci ks o ad cA w') → va_S (tl_A o ks ad s.heap.size) s.heap H locs → w' 99 = w0 99 → (∀ a b, tl_ir (w' a b)) → (∀ x, r = some x → tl_ir x) →
      (match r with
        | some x => decode (bs j) pc = .ok (.ireturn, 1) ∧ ∃ ty, (P.1 j).2.2 = some ty ∧ (ty = .int ∨ ((x = 0 ∨ x = 1) ∧ ty = .boolean))
        | none => decode (bs j) pc = .ok (.return_, 1) ∧ (P.1 j).2.2 = none) → W p l e R s m args below meth c H locs 0 0 QQ (F0 m pc ls ((r.map (fun x => Value.int (Int32.ofInt x))).toList)))
    (hthr : ∀ (k : Nat) (w' : tl_W) (H : Heap) (locs : List Loc) (pc ix : Nat) (ls : Array Slot), Q (.inr k) w' → va_P D cl (tl_ce P N ci ks o ad cA w') H → va_D (tl_A o ks ad s.heap.size) (tl_ce P N ci ks o ad cA w') → va_S (tl_A o ks ad s.heap.size) s.heap H locs → w' 99 = w0 99 → (∀ a b, tl_ir (w' a b)) →
      ls.size = (P.1 j).2.1 → P.2.2.2.2 ix = some k → tl_at (P.1 j).1 pc = some (.new ix) → decode (bs j) pc = .ok (.new ix, 3) → W p l e R s m args below meth c H locs 0 0 QQ (F0 m pc ls [])) :
    ∀ (n pc : Nat) (L : tl_L) (st : List tl_V) (w : tl_W) (H : Heap) (locs : List Loc) (ls : Array Slot), tl_wp P (tl_C P d) j Q n pc L st w → lv_has ls (P.1 j).2.1 (tl_lm o ad L) → va_P D cl (tl_ce P N ci ks o ad cA w) H → va_D (tl_A o ks ad s.heap.size) (tl_ce P N ci ks o ad cA w) → va_S (tl_A o ks ad s.heap.size) s.heap H locs → w 99 = w0 99 → (∀ q ∈ L, tl_vr q.2) → (∀ v ∈ st, tl_vr v) → (∀ a b, tl_ir (w a b)) →
      W p l e R s m args below meth c H locs 0 0 QQ (F0 m pc ls (st.map (tl_val o ad))) := by
  obtain ⟨f1, f2, f3, ⟨f4, f4a, f4b, f4c, f4d⟩, f5, f6, f7, f8, f9, f9a, f9b⟩ := F
  have hin : ∀ w ∈ WS, w.before args s = true := fun w hw => hts w (List.mem_cons_of_mem _ hw)
  have hsub : ∀ w ∈ u_ws cn T N, w ∈ tl_ws P nm bs WS j := fun w hw => List.mem_cons_of_mem _ (f4d w hw)
  intro n
  induction n with
  | zero => intro pc L st w H locs ls h; exact h.elim
  | succ n ih =>
    intro pc L st w H locs ls h hl hP hD hS h99 hLr hsr hwr
    obtain ⟨i, hi, h⟩ := tl_some_s h
    obtain ⟨hdg, hok⟩ := f1 j hj _ (tl_at_mem _ _ _ hi)
    cases i with
    | iconst k =>
      have hok := (Bool.and_eq_true _ _).mp hok
      have hr : tl_ir k := ⟨of_decide_eq_true hok.1, of_decide_eq_true hok.2⟩
      exact lv_iconst hx hb hdg rfl (ih (pc + 1) L (.inl k :: st) w H locs ls h hl hP hD hS h99 hLr (tl_push (v := .inl k) hr hsr) hwr)
    | bipush k =>
      have hok := (Bool.and_eq_true _ _).mp hok
      have hok2 := (Bool.and_eq_true _ _).mp hok.2
      have hr : tl_ir k := ⟨of_decide_eq_true hok2.1, of_decide_eq_true hok2.2⟩
      exact lv_bipush hx hb hdg (of_decide_eq_true hok.1) (ih (pc + 2) L (.inl k :: st) w H locs ls h hl hP hD hS h99 hLr (tl_push (v := .inl k) hr hsr) hwr)
    | sipush k =>
      have hok := (Bool.and_eq_true _ _).mp hok
      have hok2 := (Bool.and_eq_true _ _).mp hok.2
      have hr : tl_ir k := ⟨of_decide_eq_true hok2.1, of_decide_eq_true hok2.2⟩
      exact lv_sipush hx hb hdg (of_decide_eq_true hok.1) (ih (pc + 3) L (.inl k :: st) w H locs ls h hl hP hD hS h99 hLr (tl_push (v := .inl k) hr hsr) hwr)
    | iload_n k =>
      obtain ⟨x, hg, h⟩ := tl_ldi_s h
      exact lv_iload_n hx hb hdg rfl (tl_has_get hl hg) (ih (pc + 1) L (.inl x :: st) w H locs ls h hl hP hD hS h99 hLr (tl_push (hLr _ (tl_get_mem _ _ _ hg)) hsr) hwr)
    | iload k =>
      obtain ⟨x, hg, h⟩ := tl_ldi_s h
      exact lv_iload hx hb hdg (tl_has_get hl hg) (ih (pc + 2) L (.inl x :: st) w H locs ls h hl hP hD hS h99 hLr (tl_push (hLr _ (tl_get_mem _ _ _ hg)) hsr) hwr)
    | aload_n k =>
      obtain ⟨a, hg, h⟩ := tl_lda_s h
      cases a with
      | zero => exact lv_aload_n hx hb hdg rfl (tl_has_get hl hg) (ih (pc + 1) L (.inr 0 :: st) w H locs ls h hl hP hD hS h99 hLr (tl_push (v := .inr 0) trivial hsr) hwr)
      | succ a => exact lv_aload_n hx hb hdg rfl (tl_has_get hl hg) (ih (pc + 1) L (.inr (a + 1) :: st) w H locs ls h hl hP hD hS h99 hLr (tl_push (v := .inr (a + 1)) trivial hsr) hwr)
    | istore_n k =>
      obtain ⟨x, r, rfl, h⟩ := tl_st1_s h
      obtain ⟨hv, hsr⟩ := tl_cons hsr
      exact lv_istore_n hx hb hdg rfl hl (of_decide_eq_true hok) rfl (fun ls' hl' => ih (pc + 1) (tl_put L k (.inl x)) r w H locs ls' h (tl_has_put (v := .inl x) hl') hP hD hS h99 (tl_put_r hLr hv) hsr hwr)
    | istore k =>
      obtain ⟨x, r, rfl, h⟩ := tl_st1_s h
      obtain ⟨hv, hsr⟩ := tl_cons hsr
      exact lv_istore hx hb hdg hl (of_decide_eq_true hok) rfl (fun ls' hl' => ih (pc + 2) (tl_put L k (.inl x)) r w H locs ls' h (tl_has_put (v := .inl x) hl') hP hD hS h99 (tl_put_r hLr hv) hsr hwr)
    | iinc k a =>
      obtain ⟨x, hg, hr, h⟩ := tl_ldi_s h
      obtain ⟨kp, hkp⟩ := tl_has_plc (o := o) (ad := ad) hg
      exact lv_iinc hx hb hdg hl hkp (v := Int32.ofInt (x + a)) (Int32.ofInt_add x a).symm (of_decide_eq_true hok) rfl (fun ls' hl' => ih (pc + 3) (tl_put L k (.inl (x + a))) st w H locs ls' h (tl_has_put (v := .inl (x + a)) hl') hP hD hS h99 (tl_put_r (v := .inl (x + a)) hLr hr) hsr hwr)
    | iadd =>
      obtain ⟨x, y, r, rfl, hr, h⟩ := tl_st2_s h
      obtain ⟨_, hsr⟩ := tl_cons hsr
      obtain ⟨_, hsr⟩ := tl_cons hsr
      refine lv_iadd hx hb hdg ?_
      rw [← Int32.ofInt_add]
      exact ih (pc + 1) L (.inl (x + y) :: r) w H locs ls h hl hP hD hS h99 hLr (tl_push (v := .inl (x + y)) hr hsr) hwr
    | isub =>
      obtain ⟨x, y, r, rfl, hr, h⟩ := tl_st2_s h
      obtain ⟨_, hsr⟩ := tl_cons hsr
      obtain ⟨_, hsr⟩ := tl_cons hsr
      refine lv_isub hx hb hdg ?_
      rw [← Int32.ofInt_sub]
      exact ih (pc + 1) L (.inl (x - y) :: r) w H locs ls h hl hP hD hS h99 hLr (tl_push (v := .inl (x - y)) hr hsr) hwr
    | imul =>
      obtain ⟨x, y, r, rfl, hr, h⟩ := tl_st2_s h
      obtain ⟨_, hsr⟩ := tl_cons hsr
      obtain ⟨_, hsr⟩ := tl_cons hsr
      refine lv_imul hx hb hdg ?_
      rw [← Int32.ofInt_mul]
      exact ih (pc + 1) L (.inl (x * y) :: r) w H locs ls h hl hP hD hS h99 hLr (tl_push (v := .inl (x * y)) hr hsr) hwr
    | iand =>
      obtain ⟨x, y, r, rfl, a, b, rfl, rfl, h'⟩ := tl_st2_s h
      obtain ⟨hvy, hsr⟩ := tl_cons hsr
      obtain ⟨hvx, hsr⟩ := tl_cons hsr
      have ha := tl_ra hvx
      have hb' := tl_ra hvy
      refine lv_iand hx hb hdg ?_
      rw [tl_and]
      exact ih (pc + 1) L (.inl ((a &&& b : Nat) : Int) :: r) w H locs ls h' hl hP hD hS h99 hLr (tl_push (v := .inl ((a &&& b : Nat) : Int)) (tl_irn (tl_andb ha)) hsr) hwr
    | ior =>
      obtain ⟨x, y, r, rfl, a, b, rfl, rfl, h'⟩ := tl_st2_s h
      obtain ⟨hvy, hsr⟩ := tl_cons hsr
      obtain ⟨hvx, hsr⟩ := tl_cons hsr
      have ha := tl_ra hvx
      have hb' := tl_ra hvy
      refine lv_ior hx hb hdg ?_
      rw [tl_or]
      exact ih (pc + 1) L (.inl ((a ||| b : Nat) : Int) :: r) w H locs ls h' hl hP hD hS h99 hLr (tl_push (v := .inl ((a ||| b : Nat) : Int)) (tl_irn (tl_orb ha hb')) hsr) hwr
    | idiv =>
      obtain ⟨x, y, r, rfl, a, b, rfl, rfl, h0, h'⟩ := tl_st2_s h
      obtain ⟨hvy, hsr⟩ := tl_cons hsr
      obtain ⟨hvx, hsr⟩ := tl_cons hsr
      have ha := tl_ra hvx
      have hb' := tl_ra hvy
      refine lv_idiv hx hb hdg (fun q => by rw [tl_z] at q; have := (tl_eqI hvy tl_ir0).mp q; omega) ?_
      rw [tl_dv ha h0 hb']
      exact ih (pc + 1) L (.inl ((a / b : Nat) : Int) :: r) w H locs ls h' hl hP hD hS h99 hLr (tl_push (v := .inl ((a / b : Nat) : Int)) (tl_irn (tl_divb ha)) hsr) hwr
    | ishl =>
      obtain ⟨x, y, r, rfl, a, b, rfl, rfl, h0, h1, h'⟩ := tl_st2_s h
      obtain ⟨hvy, hsr⟩ := tl_cons hsr
      obtain ⟨hvx, hsr⟩ := tl_cons hsr
      have ha := tl_ra hvx
      have hb' := tl_ra hvy
      refine lv_ishl hx hb hdg ?_
      rw [tl_shl h0 h1]
      exact ih (pc + 1) L (.inl ((a * 2 ^ b : Nat) : Int) :: r) w H locs ls h' hl hP hD hS h99 hLr (tl_push (v := .inl ((a * 2 ^ b : Nat) : Int)) (tl_irn (h1)) hsr) hwr
    | ishr =>
      obtain ⟨x, y, r, rfl, a, b, rfl, rfl, h0, h'⟩ := tl_st2_s h
      obtain ⟨hvy, hsr⟩ := tl_cons hsr
      obtain ⟨hvx, hsr⟩ := tl_cons hsr
      have ha := tl_ra hvx
      have hb' := tl_ra hvy
      refine lv_ishr hx hb hdg ?_
      rw [tl_shr ha h0]
      exact ih (pc + 1) L (.inl ((a / 2 ^ b : Nat) : Int) :: r) w H locs ls h' hl hP hD hS h99 hLr (tl_push (v := .inl ((a / 2 ^ b : Nat) : Int)) (tl_irn (tl_divb ha)) hsr) hwr
    | dup =>
      obtain ⟨v, r, rfl, h⟩ := tl_any1_s h
      obtain ⟨hv, hsr'⟩ := tl_cons hsr
      exact lv_dup hx hb hdg (tl_val_cat o ad v) (ih (pc + 1) L (v :: v :: r) w H locs ls h hl hP hD hS h99 hLr (tl_push hv hsr) hwr)
    | dup2 =>
      obtain ⟨a, r, rfl, h⟩ := tl_any1_s h
      obtain ⟨b, r, rfl, h⟩ := tl_any1_s h
      obtain ⟨hva, hsr'⟩ := tl_cons hsr
      obtain ⟨hvb, _⟩ := tl_cons hsr'
      exact lv_dup2_11 hx hb hdg (tl_val_cat o ad a) (tl_val_cat o ad b) (ih (pc + 1) L (a :: b :: a :: b :: r) w H locs ls h hl hP hD hS h99 hLr (tl_push hva (tl_push hvb hsr)) hwr)
    | pop =>
      obtain ⟨v, r, rfl, h⟩ := tl_any1_s h
      exact lv_pop hx hb hdg (tl_val_cat o ad v) (ih (pc + 1) L r w H locs ls h hl hP hD hS h99 hLr (tl_cons hsr).2 hwr)
    | ifCond cd off =>
      have ht := tl_to_eq (of_decide_eq_true hok)
      cases cd with
      | eq =>
        obtain ⟨x, r, rfl, h⟩ := tl_st1_s h
        obtain ⟨hv, hsr⟩ := tl_cons hsr
        have hiff := tl_eqI hv tl_ir0
        exact lv_if_eq hx hb hdg ht (fun q => ih (tl_to pc off) L r w H locs ls (h.1 (hiff.mp q)) hl hP hD hS h99 hLr hsr hwr) (fun q => ih (pc + 3) L r w H locs ls (h.2 (fun z => q (hiff.mpr z))) hl hP hD hS h99 hLr hsr hwr)
      | ne =>
        obtain ⟨x, r, rfl, h⟩ := tl_st1_s h
        obtain ⟨hv, hsr⟩ := tl_cons hsr
        have hiff := not_congr (tl_eqI hv tl_ir0)
        have heq := tl_eqI hv tl_ir0
        exact lv_if_ne hx hb hdg ht (fun q => ih (tl_to pc off) L r w H locs ls (h.1 (hiff.mp q)) hl hP hD hS h99 hLr hsr hwr) (fun q => ih (pc + 3) L r w H locs ls (h.2 (fun z => z (heq.mp q))) hl hP hD hS h99 hLr hsr hwr)
      | lt =>
        obtain ⟨x, r, rfl, h⟩ := tl_st1_s h
        obtain ⟨hv, hsr⟩ := tl_cons hsr
        have hiff := tl_ltI hv tl_ir0
        exact lv_if_lt hx hb hdg ht (fun q => ih (tl_to pc off) L r w H locs ls (h.1 (hiff.mp q)) hl hP hD hS h99 hLr hsr hwr) (fun q => ih (pc + 3) L r w H locs ls (h.2 (fun z => q (hiff.mpr z))) hl hP hD hS h99 hLr hsr hwr)
      | ge =>
        obtain ⟨x, r, rfl, h⟩ := tl_st1_s h
        obtain ⟨hv, hsr⟩ := tl_cons hsr
        have hiff := tl_leI tl_ir0 hv
        exact lv_if_ge hx hb hdg ht (fun q => ih (tl_to pc off) L r w H locs ls (h.1 (hiff.mp q)) hl hP hD hS h99 hLr hsr hwr) (fun q => ih (pc + 3) L r w H locs ls (h.2 (fun z => q (hiff.mpr z))) hl hP hD hS h99 hLr hsr hwr)
      | gt =>
        obtain ⟨x, r, rfl, h⟩ := tl_st1_s h
        obtain ⟨hv, hsr⟩ := tl_cons hsr
        have hiff := tl_ltI tl_ir0 hv
        exact lv_if_gt hx hb hdg ht (fun q => ih (tl_to pc off) L r w H locs ls (h.1 (hiff.mp q)) hl hP hD hS h99 hLr hsr hwr) (fun q => ih (pc + 3) L r w H locs ls (h.2 (fun z => q (hiff.mpr z))) hl hP hD hS h99 hLr hsr hwr)
      | le =>
        obtain ⟨x, r, rfl, h⟩ := tl_st1_s h
        obtain ⟨hv, hsr⟩ := tl_cons hsr
        have hiff := tl_leI hv tl_ir0
        exact lv_if_le hx hb hdg ht (fun q => ih (tl_to pc off) L r w H locs ls (h.1 (hiff.mp q)) hl hP hD hS h99 hLr hsr hwr) (fun q => ih (pc + 3) L r w H locs ls (h.2 (fun z => q (hiff.mpr z))) hl hP hD hS h99 hLr hsr hwr)
    | if_icmp cd off =>
      have ht := tl_to_eq (of_decide_eq_true hok)
      cases cd with
      | eq =>
        obtain ⟨x, y, r, rfl, h⟩ := tl_st2_s h
        obtain ⟨hvy, hsr⟩ := tl_cons hsr
        obtain ⟨hvx, hsr⟩ := tl_cons hsr
        have hiff := tl_eqI hvx hvy
        exact lv_icmp_eq hx hb hdg ht (fun q => ih (tl_to pc off) L r w H locs ls (h.1 (hiff.mp q)) hl hP hD hS h99 hLr hsr hwr) (fun q => ih (pc + 3) L r w H locs ls (h.2 (fun z => q (hiff.mpr z))) hl hP hD hS h99 hLr hsr hwr)
      | ne =>
        obtain ⟨x, y, r, rfl, h⟩ := tl_st2_s h
        obtain ⟨hvy, hsr⟩ := tl_cons hsr
        obtain ⟨hvx, hsr⟩ := tl_cons hsr
        have hiff := not_congr (tl_eqI hvx hvy)
        have heq := tl_eqI hvx hvy
        exact lv_icmp_ne hx hb hdg ht (fun q => ih (tl_to pc off) L r w H locs ls (h.1 (hiff.mp q)) hl hP hD hS h99 hLr hsr hwr) (fun q => ih (pc + 3) L r w H locs ls (h.2 (fun z => z (heq.mp q))) hl hP hD hS h99 hLr hsr hwr)
      | lt =>
        obtain ⟨x, y, r, rfl, h⟩ := tl_st2_s h
        obtain ⟨hvy, hsr⟩ := tl_cons hsr
        obtain ⟨hvx, hsr⟩ := tl_cons hsr
        have hiff := tl_ltI hvx hvy
        exact lv_icmp_lt hx hb hdg ht (fun q => ih (tl_to pc off) L r w H locs ls (h.1 (hiff.mp q)) hl hP hD hS h99 hLr hsr hwr) (fun q => ih (pc + 3) L r w H locs ls (h.2 (fun z => q (hiff.mpr z))) hl hP hD hS h99 hLr hsr hwr)
      | ge =>
        obtain ⟨x, y, r, rfl, h⟩ := tl_st2_s h
        obtain ⟨hvy, hsr⟩ := tl_cons hsr
        obtain ⟨hvx, hsr⟩ := tl_cons hsr
        have hiff := tl_leI hvy hvx
        exact lv_icmp_ge hx hb hdg ht (fun q => ih (tl_to pc off) L r w H locs ls (h.1 (hiff.mp q)) hl hP hD hS h99 hLr hsr hwr) (fun q => ih (pc + 3) L r w H locs ls (h.2 (fun z => q (hiff.mpr z))) hl hP hD hS h99 hLr hsr hwr)
      | gt =>
        obtain ⟨x, y, r, rfl, h⟩ := tl_st2_s h
        obtain ⟨hvy, hsr⟩ := tl_cons hsr
        obtain ⟨hvx, hsr⟩ := tl_cons hsr
        have hiff := tl_ltI hvy hvx
        exact lv_icmp_gt hx hb hdg ht (fun q => ih (tl_to pc off) L r w H locs ls (h.1 (hiff.mp q)) hl hP hD hS h99 hLr hsr hwr) (fun q => ih (pc + 3) L r w H locs ls (h.2 (fun z => q (hiff.mpr z))) hl hP hD hS h99 hLr hsr hwr)
      | le =>
        obtain ⟨x, y, r, rfl, h⟩ := tl_st2_s h
        obtain ⟨hvy, hsr⟩ := tl_cons hsr
        obtain ⟨hvx, hsr⟩ := tl_cons hsr
        have hiff := tl_leI hvx hvy
        exact lv_icmp_le hx hb hdg ht (fun q => ih (tl_to pc off) L r w H locs ls (h.1 (hiff.mp q)) hl hP hD hS h99 hLr hsr hwr) (fun q => ih (pc + 3) L r w H locs ls (h.2 (fun z => q (hiff.mpr z))) hl hP hD hS h99 hLr hsr hwr)
    | goto off => exact lv_goto hx hb hdg (tl_to_eq (of_decide_eq_true hok)) (ih (tl_to pc off) L st w H locs ls h hl hP hD hS h99 hLr hsr hwr)
    | getfield ix =>
      obtain ⟨a, r, rfl, rfl, h1⟩ := tl_sta_s h
      clear h
      obtain ⟨k, hk, h9, h⟩ := tl_some_s h1
      obtain ⟨_, hsr⟩ := tl_cons hsr
      obtain ⟨hkN, hlk⟩ := (f7 ix k hk).1 h9
      obtain ⟨g1, g2, g3⟩ := f5 k hkN
      have hfa := tl_fs_at (ks := ks) (ad := ad) (w := w) hkN
      cases hv : P.2.2.1 k with
      | some z =>
        rw [hv] at h
        rw [if_pos (g2.mpr (by rw [hv]; rfl))] at hfa
        exact va_get hx hb hts hsub hown hK hP 0 rfl hc k hkN (hin _ hlk) (fun x hx' => by rw [g1] at hx'; exact hx') hfa hdg (ih (pc + 3) L (.inr (k + 1) :: r) w H locs ls h hl hP hD hS h99 hLr (tl_push (v := .inr (k + 1)) trivial hsr) hwr)
      | none =>
        rw [hv] at h
        rw [if_neg (fun q => by have := g2.mp q; rw [hv] at this; cases this)] at hfa
        exact va_get hx hb hts hsub hown hK hP 0 rfl hc k hkN (hin _ hlk) (fun x hx' => by rw [g1] at hx'; exact hx') hfa hdg (ih (pc + 3) L (.inl (w k 0) :: r) w H locs ls h hl hP hD hS h99 hLr (tl_push (v := .inl (w k 0)) (hwr k 0) hsr) hwr)
    | putfield ix =>
      obtain ⟨x, r, rfl, h⟩ := tl_st1_s h
      obtain ⟨a, r, rfl, rfl, h1⟩ := tl_sta_s h
      clear h
      obtain ⟨k, hk, h9, hv, h⟩ := tl_some_s h1
      obtain ⟨hvx, hsr⟩ := tl_cons hsr
      obtain ⟨_, hsr⟩ := tl_cons hsr
      obtain ⟨hkN, hlk⟩ := (f7 ix k hk).1 h9
      obtain ⟨g1, g2, g3⟩ := f5 k hkN
      obtain ⟨g4, g5⟩ := g3 hv
      have hks : k ∉ ks := fun q => by have := g2.mp q; rw [hv] at this; cases this
      refine va_put hx hb hts hsub ty0 f9a f9b hown hK hP hD hS 0 rfl hc k hkN (hin _ hlk) (fun x hx' => by rw [g1] at hx'; exact hx') g4 g5 rfl rfl (by rw [tl_fs_len]; exact hkN) hdg (fun H1 locs1 hP1 hD1 hS1 => ?_)
      have e1 : (tl_ce P N ci ks o ad cA w).set 0 (o, .inr (ci, (tl_fs N ks ad w).set k (tl_val o ad (.inl x)))) = tl_ce P N ci ks o ad cA (tl_set w k 0 x) := tl_ce_put hkN hks
      rw [e1] at hP1 hD1
      refine ih (pc + 3) L r (tl_set w k 0 x) H1 locs1 ls h hl hP1 hD1 hS1 ?_ hLr hsr (tl_set_r hwr hvx)
      unfold tl_set
      rw [if_neg (by omega)]
      exact h99
    | getstatic ix =>
      obtain ⟨hk, h⟩ := h
      obtain ⟨hsf, hlk⟩ := (f7 ix 99 hk).2 rfl
      obtain ⟨hZ, -⟩ := hG hsf
      exact va_gets hx hb hZ hS hown (hin _ hlk) (fun x hx' => hx') hdg (ih (pc + 3) L (.inr 100 :: st) w H locs ls h hl hP hD hS h99 hLr (tl_push (v := .inr 100) trivial hsr) hwr)
    | iaload =>
      obtain ⟨x, r, rfl, h⟩ := tl_st1_s h
      obtain ⟨a, r, rfl, k, b, n', rfl, rfl, hn, hbn, h1⟩ := tl_sta_s h
      clear h
      have h := h1
      obtain ⟨_, hsr1⟩ := tl_cons hsr
      obtain ⟨_, hsr2⟩ := tl_cons hsr1
      clear hsr hsr1
      have hsr := hsr2
      obtain ⟨hn31, hkk⟩ := f6 k n' hn
      have hin' : vp_in (nI b) n' := vp_in_nI hbn hn31
      have hcl : (nI b).toNatClampNeg = b := nI_clamp (Nat.lt_trans hbn hn31)
      have eb : tl_val o ad (.inl (b : Int)) = .int (nI b) := by show Value.int (Int32.ofInt (b : Int)) = _; rw [tl_nI]
      show W p l e R s m args below meth c H locs 0 0 QQ (F0 m pc ls (tl_val o ad (.inl (b : Int)) :: .ref (ad k) :: r.map (tl_val o ad)))
      rw [eb]
      rcases hkk with hkk | ⟨rfl, hsf, rfl⟩
      · obtain ⟨q0, hq0⟩ := List.getElem?_of_mem hkk
        have hty : (ks.map fun k => (cA k, FieldType.int))[q0]? = some (cA k, FieldType.int) := by rw [List.getElem?_map, hq0]; rfl
        refine va_iald hx hb hK hP (q0 + 1) q0 (tl_ce_arr hq0 hn) hty hin' hdg ?_
        rw [hcl]
        exact ih (pc + 1) L (.inl (w k b) :: r) w H locs ls h hl hP hD hS h99 hLr (tl_push (v := .inl (w k b)) (hwr k b) hsr) hwr
      · obtain ⟨-, hT⟩ := hG hsf
        exact va_ti hx hb hT hS hin' (v := .int (Int32.ofInt (w 99 b))) (by rw [hcl, h99]) hdg (ih (pc + 1) L (.inl (w 99 b) :: r) w H locs ls h hl hP hD hS h99 hLr (tl_push (v := .inl (w 99 b)) (hwr 99 b) hsr) hwr)
    | iastore =>
      obtain ⟨i', x, r, rfl, h⟩ := tl_st2_s h
      obtain ⟨a, r, rfl, k, b, n', rfl, h9, rfl, hn, hbn, h1⟩ := tl_sta_s h
      clear h
      have h := h1
      obtain ⟨hvx, hsr⟩ := tl_cons hsr
      obtain ⟨_, hsr⟩ := tl_cons hsr
      obtain ⟨_, hsr⟩ := tl_cons hsr
      obtain ⟨hn31, hkk⟩ := f6 k n' hn
      have hin' : vp_in (nI b) n' := vp_in_nI hbn hn31
      have hcl : (nI b).toNatClampNeg = b := nI_clamp (Nat.lt_trans hbn hn31)
      have eb : tl_val o ad (.inl (b : Int)) = .int (nI b) := by show Value.int (Int32.ofInt (b : Int)) = _; rw [tl_nI]
      show W p l e R s m args below meth c H locs 0 0 QQ (F0 m pc ls (.int (Int32.ofInt x) :: tl_val o ad (.inl (b : Int)) :: .ref (ad k) :: r.map (tl_val o ad)))
      rw [eb]
      rcases hkk with hkk | ⟨h99', -⟩
      · obtain ⟨q0, hq0⟩ := List.getElem?_of_mem hkk
        have hty : (ks.map fun k => (cA k, FieldType.int))[q0]? = some (cA k, FieldType.int) := by rw [List.getElem?_map, hq0]; rfl
        refine va_iast hx hb hK hP hD hS (q0 + 1) q0 (tl_ce_arr hq0 hn) hty hin' hdg (fun H1 locs1 hP1 hD1 hS1 => ?_)
        rw [hcl, tl_ce_set f9 hq0 hn] at hP1 hD1
        refine ih (pc + 1) L r (tl_set w k b x) H1 locs1 ls h hl hP1 hD1 hS1 ?_ hLr hsr (tl_set_r hwr hvx)
        unfold tl_set
        rw [if_neg (fun e => h9 e.symm)]
        exact h99
      · exact absurd h99' h9
    | invokestatic ix =>
      obtain ⟨q, hq, h⟩ := tl_some_s h
      obtain ⟨g1, g2, g3⟩ := f8 ix q hq
      cases h0 : Nat.beq q.1 1000 with
      | true =>
        rw [h0] at h
        obtain ⟨x, y, r, rfl, h8, h⟩ := tl_st2_s h
        obtain ⟨hvy, hsr⟩ := tl_cons hsr
        obtain ⟨hvx, hsr⟩ := tl_cons hsr
        obtain ⟨k1, k2, k3, k4⟩ := g2 (Nat.eq_of_beq_eq_true h0)
        refine va_mmax hx hb (by rw [hml]; exact hl.1.symm) hown (hin _ k1) (hin _ k2) (hin _ k3) (hin _ k4) (by rw [hR.1]; omega) (by rw [tl_sum, hR.2]; omega) (Nat.zero_le _) (Nat.zero_le _) hdg ?_
        rw [tl_mx hvx hvy]
        exact ih (pc + 3) L (.inl (max x y) :: r) w H locs ls h hl hP hD hS h99 hLr (tl_push (v := .inl (max x y)) (by have h1 := hvx; have h2 := hvy; exact ⟨by have := h1.1; have := h2.1; omega, by have := h1.2; have := h2.2; omega⟩) hsr) hwr
      | false =>
        rw [h0] at h
        cases h1 : Nat.beq q.1 1001 with
        | true =>
          rw [h1] at h
          obtain ⟨x, y, r, rfl, h8, h⟩ := tl_st2_s h
          obtain ⟨hvy, hsr⟩ := tl_cons hsr
          obtain ⟨hvx, hsr⟩ := tl_cons hsr
          obtain ⟨k1, k2, k3, k4⟩ := g3 (Nat.eq_of_beq_eq_true h1)
          refine va_mmin hx hb (by rw [hml]; exact hl.1.symm) hown (hin _ k1) (hin _ k2) (hin _ k3) (hin _ k4) (by rw [hR.1]; omega) (by rw [tl_sum, hR.2]; omega) (Nat.zero_le _) (Nat.zero_le _) hdg ?_
          rw [tl_mn hvx hvy]
          exact ih (pc + 3) L (.inl (min x y) :: r) w H locs ls h hl hP hD hS h99 hLr (tl_push (v := .inl (min x y)) (by have h1 := hvx; have h2 := hvy; exact ⟨by have := h1.1; have := h2.1; omega, by have := h1.2; have := h2.2; omega⟩) hsr) hwr
        | false =>
          rw [h1] at h
          obtain ⟨hn, h8, h⟩ := h
          have hdr : ∀ v ∈ st.drop q.2, tl_vr v := fun v hv => hsr v (List.mem_of_mem_drop hv)
          simp only [tl_ok, hq, h0, h1, Bool.false_or, Bool.and_eq_true, decide_eq_true_eq] at hok
          obtain ⟨k1, k2, k3, k4, k5⟩ := g1 hok.1
          obtain ⟨k6, k7⟩ := k4 hok.2
          obtain ⟨hcls, hm20, hcw⟩ := f2 q.1 k1
          have hMc := hM q.1 (st.take q.2).reverse w _ H.size k1 (by rw [List.length_reverse, List.length_take]; omega) (fun v hv => hsr v (List.mem_of_mem_take (List.mem_reverse.mp hv))) hwr (fun _ _ z => z) h
          refine tl_callk (rest := (st.drop q.2).map (tl_val o ad)) (va_runS (Ts := tl_ws P nm bs WS j) (As := (st.take q.2).reverse.map (tl_val o ad)) ⟨hx, hb, hml, hown, hts⟩ hMc
            ⟨callB_of q.2 hts (tl_good f3 hcw) rfl rfl rfl (by rw [hcls]; exact hin _ f4c) (hin _ k3) ⟨by rw [hcls]; exact f4a, by rw [hcls]; exact f4b, k7⟩ ⟨by rw [hR.1]; exact Nat.le_refl _, by show 8 + ((P.1 q.1).2.1 + 11) + 40 * d ≤ R.locals; rw [hR.2]; omega⟩, hin _ k6⟩
            ⟨tl_blind, fun U hU hW => ⟨rfl, by rw [hU], ⟨by rw [hU]; exact hP, va_K.moved hW.alike hK, hD.weaken (fun _ _ _ _ => trivial)⟩, tl_G.use hG hW.alike hU hS.2.1 (tl_A_mono hS.1) h99⟩⟩ rfl ?_ hl.1 ?_ (lv_room (by rw [tl_sum]; exact h8)) hdg ⟨Nat.zero_le _, Nat.zero_le _⟩) hS (tl_A_mono hS.1) (fun r w' t H1 locs1 ht hvm hq' hB h9 hr1 hr2 hS1 => ?_)
          · rw [List.length_map, List.length_reverse, List.length_take]; omega
          · show st.map (tl_val o ad) = _
            rw [List.map_reverse, List.reverse_reverse, ← List.map_append, List.take_append_drop]
          · obtain ⟨hP1, hK1, hD1⟩ := hB
            rw [ht] at hP1
            cases r with
            | none => exact ih (pc + 3) L (st.drop q.2) w' H1 locs1 ls hq' hl hP1 (tl_D hD1) hS1 (h9.trans h99) hLr hdr hr2
            | some x => exact ih (pc + 3) L (.inl x :: st.drop q.2) w' H1 locs1 ls hq' hl hP1 (tl_D hD1) hS1 (h9.trans h99) hLr (tl_push (v := .inl x) (hr1 x rfl) hdr) hr2
    | invokevirtual ix =>
      obtain ⟨q, hq, hlast, hn, h8, h⟩ := tl_some_s h
      have hdr : ∀ v ∈ st.drop q.2, tl_vr v := fun v hv => hsr v (List.mem_of_mem_drop hv)
      obtain ⟨g1, g2, g3⟩ := f8 ix q hq
      simp only [tl_ok, hq, Bool.and_eq_true, Bool.not_eq_true', decide_eq_true_eq] at hok
      obtain ⟨k1, k2, k3, k4, k5⟩ := g1 hok.1
      obtain ⟨k6, k7, k8⟩ := k5 hok.2
      obtain ⟨hcls, hm20, hcw⟩ := f2 q.1 k1
      obtain ⟨ys, hys⟩ := List.getLast?_eq_some_iff.mp hlast
      have has : (st.take q.2).reverse = .inr 0 :: ys.reverse := by rw [hys, List.reverse_append]; rfl
      have hlen : ys.length + 1 = q.2 := by
        have h1 := congrArg List.length hys
        rw [List.length_take, List.length_append, List.length_singleton] at h1
        omega
      have e : st = ys ++ (.inr 0 :: st.drop q.2) := by
        have h1 := List.take_append_drop q.2 st
        rw [hys, List.append_assoc] at h1
        exact h1.symm
      have hst : st.map (tl_val o ad) = (ys.reverse.map (tl_val o ad)).reverse ++ Value.ref o :: (st.drop q.2).map (tl_val o ad) := by
        have h1 := congrArg (List.map (tl_val o ad)) e
        rw [h1, List.map_append, List.map_reverse, List.reverse_reverse]
        rfl
      have hasr : ∀ v ∈ (.inr 0 :: ys.reverse : List tl_V), tl_vr v := by
        rw [← has]
        exact fun v hv => hsr v (List.mem_of_mem_take (List.mem_reverse.mp hv))
      rw [has] at h
      have hMc := hM q.1 (.inr 0 :: ys.reverse) w _ H.size k1 (by rw [List.length_cons, List.length_reverse]; omega) hasr hwr (fun _ _ z => z) h
      refine tl_callk (rest := (st.drop q.2).map (tl_val o ad)) (va_runV (Ts := tl_ws P nm bs WS j) (C := cn) (b := o) (As := ys.reverse.map (tl_val o ad)) ⟨hx, hb, hml, hown, hts⟩ hMc
        ⟨callB_of (q.2 - 1) hts (tl_good f3 hcw) rfl rfl rfl (by rw [hcls]; exact hin _ f4c) (hin _ k3) ⟨by rw [hcls]; exact f4a, by rw [hcls]; exact f4b, k8⟩ ⟨by rw [hR.1]; exact Nat.le_refl _, by show 8 + ((P.1 q.1).2.1 + 11) + 40 * d ≤ R.locals; rw [hR.2]; omega⟩, hin _ k6, hin _ k7⟩
        ⟨tl_blind, va_recv hK hP hc (q0 := 0) rfl, fun U hU hW => ⟨rfl, by rw [hU], ⟨by rw [hU]; exact hP, va_K.moved hW.alike hK, hD.weaken (fun _ _ _ _ => trivial)⟩, tl_G.use hG hW.alike hU hS.2.1 (tl_A_mono hS.1) h99⟩⟩ rfl ?_ hl.1 hst (lv_room (by rw [tl_sum]; exact h8)) hdg ⟨Nat.zero_le _, Nat.zero_le _⟩) hS (tl_A_mono hS.1) (fun r w' t H1 locs1 ht hvm hq' hB h9 hr1 hr2 hS1 => ?_)
      · rw [List.length_map, List.length_reverse]; omega
      · obtain ⟨hP1, hK1, hD1⟩ := hB
        rw [ht] at hP1
        cases r with
        | none => exact ih (pc + 3) L (st.drop q.2) w' H1 locs1 ls hq' hl hP1 (tl_D hD1) hS1 (h9.trans h99) hLr hdr hr2
        | some x => exact ih (pc + 3) L (.inl x :: st.drop q.2) w' H1 locs1 ls hq' hl hP1 (tl_D hD1) hS1 (h9.trans h99) hLr (tl_push (v := .inl x) (hr1 x rfl) hdr) hr2
    | ireturn =>
      obtain ⟨x, r, rfl, rfl, hty, h1⟩ := tl_st1_s h
      clear h
      have h := h1
      obtain ⟨ty, e1, e2⟩ := tl_some_s hty
      exact hret (some x) w H locs pc ls h hP hD hS h99 hwr (fun y hy => by cases hy; exact (tl_cons hsr).1) ⟨hdg, ty, e1, e2⟩
    | return_ =>
      obtain ⟨rfl, e1, h1⟩ := h
      exact hret none w H locs pc ls h1 hP hD hS h99 hwr (fun y hy => by cases hy) ⟨hdg, e1⟩
    | new ix =>
      obtain ⟨rfl, h1⟩ := h
      obtain ⟨k, hk, h2⟩ := tl_some_s h1
      exact hthr k w H locs pc ix ls h2 hP hD hS h99 hwr hl.1 hk hi hdg
    | _ => exact h.elim
theorem tl_nar {x : Int} {ty : FieldType} (h : ty = .int ∨ ((x = 0 ∨ x = 1) ∧ ty = .boolean)) : narrow ty (.int (Int32.ofInt x)) = .int (Int32.ofInt x) := by
  rcases h with rfl | ⟨rfl | rfl, rfl⟩
  · rfl
  · rfl
  · rfl
set_option maxHeartbeats 4000000 in
set_option maxRecDepth 100000 in
/-- contracts of methods that throw nothing -/
theorem tl_sound (F : tl_face P N ks sf n9 cn fn T ty0 nM nm bs sta WS) (hc : cl[ci]? = some (cn, T, N)) : ∀ (d j : Nat) (as : List tl_V) (w : tl_W) (Q : tl_Q) (sz : Nat), j < nM → as.length ≤ (P.1 j).2.1 → (∀ v ∈ as, tl_vr v) → (∀ a b, tl_ir (w a b)) → (∀ k w', ¬ Q (.inr k) w') → tl_C P d j as w Q →
    Met l (nm j) (tl_ws P nm bs WS j) (tl_rm d) (tl_Pc P N ci ks sf n9 cn fn D cl o ad cA as w sz) (tl_Qc P N ci ks D cl o ad cA w Q sz) 0 0 (tl_A o ks ad sz) := by
  intro d
  induction d with
  | zero => intro j as w Q sz _ _ _ _ _ h; exact h.elim
  | succ d ihd =>
    intro j as w Q sz hj has hasr hwr hQ h
    refine Met.ofW (cc := bs j) (maxL := (P.1 j).2.1) (ret := (P.1 j).2.2) (by rw [(F.2.1 j hj).1]; exact F.2.2.2.1.1) rfl ?_
    intro p e s m args below meth c s₁ B hml hv
    obtain ⟨rfl, hsz, ⟨hP, hK, hD⟩, hG⟩ := hv
    subst hsz
    obtain ⟨n, hn⟩ := h
    have hts := atoms_spec (ws := tl_ws P nm bs WS j) B.pre
    have hown : s.vm.findClass cn = some m.cls := by rw [← (F.2.1 j hj).1]; exact findClass_of_methodNamed B.named
    have hl := lv_entry (as.map (tl_val o ad)) (n := (P.1 j).2.1) (by rw [tl_sl]; exact has)
    rw [lg_entry_eq]
    generalize (lg_sl (as.map (tl_val o ad)) ++ List.replicate ((P.1 j).2.1 - (lg_sl (as.map (tl_val o ad))).length) Slot.unset).toArray = ls at hl ⊢
    rw [tl_args] at hl
    refine tl_walk F (R := tl_rm (d + 1)) ⟨rfl, rfl⟩ B.exec B.bytes hml hown hts hj hc hK hG ihd ?_ ?_ n 0 (tl_en 0 as) [] w s.heap [] ls hn hl hP (tl_D hD) va_S.rf rfl (tl_en_r hasr 0) (fun v hv => by cases hv) hwr
    · intro r w' H locs pc ls' hq hP' hD' hS' h9 hwr' hr1 hr
      cases r with
      | none => exact W.vret B.exec B.bytes (B.returns.trans hr.2) (fun t ht hW => ⟨⟨none, w', rfl, hq, ⟨by rw [ht]; exact hP', va_K.moved hW.alike hK, hD'.weaken (fun _ _ _ _ => trivial)⟩, h9, hr1, hwr'⟩, hS'.F ht⟩) hS'.2.2 hr.1 B.notSynchronized
      | some x =>
        obtain ⟨h1, ty, h2, h3⟩ := hr
        exact W.zret B.exec B.bytes (B.returns.trans h2) (tl_nar h3) (fun t ht hW => ⟨⟨some x, w', rfl, hq, ⟨by rw [ht]; exact hP', va_K.moved hW.alike hK, hD'.weaken (fun _ _ _ _ => trivial)⟩, h9, hr1, hwr'⟩, hS'.F ht⟩) hS'.2.2 h1 B.notSynchronized
    · intro k w' H locs pc ix ls' hq
      exact absurd hq (hQ k w')
end TLW
end
section
/-! 06.names: printed by names.py: every method of the class (ta_) and of the reference (tb_) for the small machine; words by their places among lw_tbl -/
def lw_gt : List Cond := lw_tbl.filter goodWord
theorem lw_gt_good : ∀ w ∈ lw_gt, (w.onTables && w.keeps) = true ∨ ∃ ty, w = .arrayClass ty := fun w hw => good_of_word (List.mem_filter.mp hw).2
def ta_R : String := "TieredLocks"
def ta_T : u_T := fun k => match k with
  | 0 => ("TieredLocks", "modes", "[I", true)
  | 1 => ("TieredLocks", "situations", "[I", true)
  | 2 => ("TieredLocks", "wishes", "[I", true)
  | _ => ("TieredLocks", "places", "[I", true)
def ta_ty : Nat → FieldType := fun k => match k with
  | 0 => .array .int
  | 1 => .array .int
  | 2 => .array .int
  | _ => .array .int
/-- <init>()V -/
def ta_c0 : List (Nat × Instr) := []
/-- begin()I -/
def ta_c1 : List (Nat × Instr) := [(0, .iconst 0), (1, .istore_n 1), (2, .iload_n 1), (3, .bipush 8), (5, .if_icmp .ge (27)), (8, .aload_n 0), (9, .getfield 13), (12, .iload_n 1), (13, .iaload), (14, .ifCond .ne (12)), (17, .aload_n 0), (18, .getfield 13), (21, .iload_n 1), (22, .iconst 1), (23, .iastore), (24, .iload_n 1), (25, .ireturn), (26, .iinc 1 (1)), (29, .goto (-27)), (32, .iconst (-1)), (33, .ireturn)]
/-- lock(III)I -/
def ta_c2 : List (Nat × Instr) := [(0, .iload_n 1), (1, .invokestatic 22), (4, .ifCond .eq (18)), (7, .iload_n 2), (8, .invokestatic 26), (11, .ifCond .eq (11)), (14, .iload_n 2), (15, .iload_n 3), (16, .invokestatic 29), (19, .ifCond .ne (11)), (22, .new 33), (25, .dup), (26, .invokespecial 35), (29, .athrow), (30, .aload_n 0), (31, .getfield 13), (34, .iload_n 1), (35, .iaload), (36, .iconst 1), (37, .if_icmp .eq (11)), (40, .new 36), (43, .dup), (44, .invokespecial 38), (47, .athrow), (48, .aload_n 0), (49, .iload_n 1), (50, .iload_n 2), (51, .iload_n 3), (52, .invokevirtual 39), (55, .ifCond .ne (11)), (58, .new 43), (61, .dup), (62, .invokespecial 45), (65, .athrow), (66, .aload_n 0), (67, .iload_n 1), (68, .iload_n 2), (69, .iload_n 3), (70, .invokevirtual 46), (73, .ireturn)]
/-- unlock(II)V -/
def ta_c3 : List (Nat × Instr) := [(0, .iload_n 1), (1, .invokestatic 22), (4, .ifCond .eq (10)), (7, .iload_n 2), (8, .invokestatic 26), (11, .ifCond .ne (11)), (14, .new 33), (17, .dup), (18, .invokespecial 35), (21, .athrow), (22, .aload_n 0), (23, .getfield 13), (26, .iload_n 1), (27, .iaload), (28, .iconst 1), (29, .if_icmp .ne (12)), (32, .aload_n 0), (33, .iload_n 1), (34, .iload_n 2), (35, .invokevirtual 50), (38, .ifCond .ne (11)), (41, .new 36), (44, .dup), (45, .invokespecial 38), (48, .athrow), (49, .aload_n 0), (50, .iload_n 1), (51, .iload_n 2), (52, .invokevirtual 53), (55, .ifCond .eq (11)), (58, .new 43), (61, .dup), (62, .invokespecial 45), (65, .athrow), (66, .aload_n 0), (67, .iload_n 1), (68, .iload_n 2), (69, .invokevirtual 56), (72, .pop), (73, .return_)]
/-- escalate(II)I -/
def ta_c4 : List (Nat × Instr) := [(0, .iload_n 1), (1, .invokestatic 22), (4, .ifCond .eq (10)), (7, .iload_n 2), (8, .invokestatic 60), (11, .ifCond .ne (11)), (14, .new 33), (17, .dup), (18, .invokespecial 35), (21, .athrow), (22, .aload_n 0), (23, .getfield 13), (26, .iload_n 1), (27, .iaload), (28, .iconst 1), (29, .if_icmp .eq (11)), (32, .new 36), (35, .dup), (36, .invokespecial 38), (39, .athrow), (40, .aload_n 0), (41, .iload_n 1), (42, .iload_n 2), (43, .invokevirtual 63), (46, .ifCond .ne (5)), (49, .iconst 0), (50, .ireturn), (51, .aload_n 0), (52, .iload_n 1), (53, .iload_n 2), (54, .invokevirtual 66), (57, .ifCond .eq (7)), (60, .iconst 5), (61, .goto (4)), (64, .iconst 3), (65, .aload_n 0), (66, .iload_n 1), (67, .iload_n 2), (68, .invokevirtual 69), (71, .invokestatic 72), (74, .istore_n 3), (75, .aload_n 0), (76, .iload_n 1), (77, .iload_n 2), (78, .iload_n 3), (79, .invokevirtual 75), (82, .ifCond .ne (5)), (85, .iconst (-1)), (86, .ireturn), (87, .aload_n 0), (88, .iload_n 1), (89, .iload_n 2), (90, .iload_n 3), (91, .invokevirtual 78), (94, .aload_n 0), (95, .iload_n 1), (96, .iload_n 2), (97, .invokevirtual 82), (100, .istore 4), (102, .aload_n 0), (103, .iload_n 2), (104, .invokevirtual 85), (107, .pop), (108, .iload 4), (110, .ireturn)]
/-- end(I)I -/
def ta_c5 : List (Nat × Instr) := [(0, .iload_n 1), (1, .invokestatic 22), (4, .ifCond .ne (11)), (7, .new 33), (10, .dup), (11, .invokespecial 35), (14, .athrow), (15, .aload_n 0), (16, .getfield 13), (19, .iload_n 1), (20, .iaload), (21, .ifCond .ne (11)), (24, .new 36), (27, .dup), (28, .invokespecial 38), (31, .athrow), (32, .aload_n 0), (33, .iload_n 1), (34, .invokevirtual 89), (37, .istore_n 2), (38, .iload_n 2), (39, .iconst (-1)), (40, .if_icmp .eq (8)), (43, .aload_n 0), (44, .iload_n 1), (45, .invokevirtual 92), (48, .aload_n 0), (49, .getfield 13), (52, .iload_n 1), (53, .iconst 0), (54, .iastore), (55, .iconst 0), (56, .istore_n 3), (57, .bipush 33), (59, .istore 4), (61, .iload 4), (63, .ifCond .lt (35)), (66, .aload_n 0), (67, .iload_n 1), (68, .iload 4), (70, .invokevirtual 50), (73, .ifCond .ne (9)), (76, .iload 4), (78, .iload_n 2), (79, .if_icmp .ne (13)), (82, .iload_n 3), (83, .aload_n 0), (84, .iload_n 1), (85, .iload 4), (87, .invokevirtual 56), (90, .iadd), (91, .istore_n 3), (92, .iinc 4 (-1)), (95, .goto (-34)), (98, .iload_n 3), (99, .ireturn)]
/-- held(II)I -/
def ta_c6 : List (Nat × Instr) := [(0, .iload_n 1), (1, .invokestatic 22), (4, .ifCond .eq (19)), (7, .iload_n 2), (8, .invokestatic 26), (11, .ifCond .eq (12)), (14, .aload_n 0), (15, .iload_n 1), (16, .iload_n 2), (17, .invokevirtual 69), (20, .goto (4)), (23, .iconst (-1)), (24, .ireturn)]
/-- state(I)I -/
def ta_c7 : List (Nat × Instr) := [(0, .iload_n 1), (1, .invokestatic 22), (4, .ifCond .eq (12)), (7, .aload_n 0), (8, .getfield 13), (11, .iload_n 1), (12, .iaload), (13, .goto (4)), (16, .iconst (-1)), (17, .ireturn)]
/-- wanted(I)I -/
def ta_c8 : List (Nat × Instr) := [(0, .iload_n 1), (1, .invokestatic 22), (4, .ifCond .eq (12)), (7, .aload_n 0), (8, .getfield 16), (11, .iload_n 1), (12, .iaload), (13, .goto (4)), (16, .iconst (-1)), (17, .ireturn)]
/-- queue(II)I -/
def ta_c9 : List (Nat × Instr) := [(0, .iload_n 1), (1, .invokestatic 26), (4, .ifCond .eq (12)), (7, .aload_n 0), (8, .iload_n 1), (9, .iload_n 2), (10, .invokevirtual 96), (13, .goto (4)), (16, .iconst (-1)), (17, .ireturn)]
/-- waitsFor(I)I -/
def ta_c10 : List (Nat × Instr) := [(0, .iload_n 1), (1, .invokestatic 22), (4, .ifCond .eq (11)), (7, .aload_n 0), (8, .iload_n 1), (9, .invokevirtual 99), (12, .goto (4)), (15, .iconst (-1)), (16, .ireturn)]
/-- access(II)I -/
def ta_c11 : List (Nat × Instr) := [(0, .iload_n 1), (1, .invokestatic 22), (4, .ifCond .eq (17)), (7, .iload_n 2), (8, .invokestatic 26), (11, .ifCond .eq (10)), (14, .iload_n 2), (15, .invokestatic 102), (18, .ifCond .ne (5)), (21, .iconst (-1)), (22, .ireturn), (23, .aload_n 0), (24, .iload_n 1), (25, .iload_n 2), (26, .invokevirtual 69), (29, .invokestatic 105), (32, .aload_n 0), (33, .iload_n 1), (34, .iload_n 2), (35, .invokevirtual 108), (38, .invokestatic 111), (41, .ireturn)]
/-- locks(I)I -/
def ta_c12 : List (Nat × Instr) := [(0, .iload_n 1), (1, .invokestatic 22), (4, .ifCond .ne (5)), (7, .iconst (-1)), (8, .ireturn), (9, .iconst 0), (10, .istore_n 2), (11, .iconst 0), (12, .istore_n 3), (13, .iload_n 3), (14, .bipush 34), (16, .if_icmp .ge (21)), (19, .aload_n 0), (20, .iload_n 1), (21, .iload_n 3), (22, .invokevirtual 50), (25, .ifCond .eq (6)), (28, .iinc 2 (1)), (31, .iinc 3 (1)), (34, .goto (-21)), (37, .iload_n 2), (38, .ireturn)]
/-- isTransaction(I)Z -/
def ta_c13 : List (Nat × Instr) := [(0, .iload_n 0), (1, .ifCond .lt (13)), (4, .iload_n 0), (5, .bipush 8), (7, .if_icmp .ge (7)), (10, .iconst 1), (11, .goto (4)), (14, .iconst 0), (15, .ireturn)]
/-- isResource(I)Z -/
def ta_c14 : List (Nat × Instr) := [(0, .iload_n 0), (1, .ifCond .lt (13)), (4, .iload_n 0), (5, .bipush 34), (7, .if_icmp .ge (7)), (10, .iconst 1), (11, .goto (4)), (14, .iconst 0), (15, .ireturn)]
/-- isRow(I)Z -/
def ta_c15 : List (Nat × Instr) := [(0, .iload_n 0), (1, .bipush 10), (3, .if_icmp .lt (7)), (6, .iconst 1), (7, .goto (4)), (10, .iconst 0), (11, .ireturn)]
/-- isTableOrPage(I)Z -/
def ta_c16 : List (Nat × Instr) := [(0, .iload_n 0), (1, .iconst 1), (2, .if_icmp .lt (13)), (5, .iload_n 0), (6, .bipush 10), (8, .if_icmp .ge (7)), (11, .iconst 1), (12, .goto (4)), (15, .iconst 0), (16, .ireturn)]
/-- parentOf(I)I -/
def ta_c17 : List (Nat × Instr) := [(0, .iload_n 0), (1, .ifCond .ne (5)), (4, .iconst (-1)), (5, .ireturn), (6, .iload_n 0), (7, .iconst 4), (8, .if_icmp .ge (5)), (11, .iconst 0), (12, .ireturn), (13, .iload_n 0), (14, .bipush 10), (16, .if_icmp .ge (11)), (19, .iconst 1), (20, .iload_n 0), (21, .iconst 4), (22, .isub), (23, .iconst 2), (24, .idiv), (25, .iadd), (26, .ireturn), (27, .iconst 4), (28, .iload_n 0), (29, .bipush 10), (31, .isub), (32, .iconst 4), (33, .idiv), (34, .iadd), (35, .ireturn)]
/-- isBelow(II)Z -/
def ta_c18 : List (Nat × Instr) := [(0, .iload_n 0), (1, .invokestatic 116), (4, .istore_n 2), (5, .iconst 0), (6, .istore_n 3), (7, .iload_n 3), (8, .iconst 3), (9, .if_icmp .ge (26)), (12, .iload_n 2), (13, .iconst (-1)), (14, .if_icmp .eq (21)), (17, .iload_n 2), (18, .iload_n 1), (19, .if_icmp .ne (5)), (22, .iconst 1), (23, .ireturn), (24, .iload_n 2), (25, .invokestatic 116), (28, .istore_n 2), (29, .iinc 3 (1)), (32, .goto (-25)), (35, .iconst 0), (36, .ireturn)]
/-- goTogether(II)Z -/
def ta_c19 : List (Nat × Instr) := [(0, .getstatic 119), (3, .iload_n 0), (4, .iaload), (5, .iload_n 1), (6, .ishr), (7, .iconst 1), (8, .iand), (9, .iconst 1), (10, .if_icmp .ne (7)), (13, .iconst 1), (14, .goto (4)), (17, .iconst 0), (18, .ireturn)]
/-- join(II)I -/
def ta_c20 : List (Nat × Instr) := [(0, .iload_n 0), (1, .iload_n 1), (2, .invokestatic 122), (5, .istore_n 2), (6, .iload_n 0), (7, .iload_n 1), (8, .invokestatic 111), (11, .istore_n 3), (12, .iload_n 2), (13, .iconst 2), (14, .if_icmp .ne (12)), (17, .iload_n 3), (18, .iconst 3), (19, .if_icmp .ne (7)), (22, .iconst 4), (23, .goto (4)), (26, .iload_n 3), (27, .ireturn)]
/-- covers(II)Z -/
def ta_c21 : List (Nat × Instr) := [(0, .iload_n 0), (1, .iload_n 1), (2, .invokestatic 72), (5, .iload_n 0), (6, .if_icmp .ne (7)), (9, .iconst 1), (10, .goto (4)), (13, .iconst 0), (14, .ireturn)]
/-- onlyReads(I)Z -/
def ta_c22 : List (Nat × Instr) := [(0, .iload_n 0), (1, .iconst 1), (2, .if_icmp .eq (8)), (5, .iload_n 0), (6, .iconst 3), (7, .if_icmp .ne (7)), (10, .iconst 1), (11, .goto (4)), (14, .iconst 0), (15, .ireturn)]
/-- canBeAsked(II)Z -/
def ta_c23 : List (Nat × Instr) := [(0, .iload_n 0), (1, .invokestatic 102), (4, .ifCond .eq (21)), (7, .iload_n 1), (8, .iconst 3), (9, .if_icmp .eq (8)), (12, .iload_n 1), (13, .iconst 5), (14, .if_icmp .ne (7)), (17, .iconst 1), (18, .goto (22)), (21, .iconst 0), (22, .goto (18)), (25, .iload_n 1), (26, .iconst 1), (27, .if_icmp .lt (12)), (30, .iload_n 1), (31, .iconst 5), (32, .if_icmp .gt (7)), (35, .iconst 1), (36, .goto (4)), (39, .iconst 0), (40, .ireturn)]
/-- rightBy(I)I -/
def ta_c24 : List (Nat × Instr) := [(0, .iload_n 0), (1, .iconst 5), (2, .if_icmp .ne (5)), (5, .iconst 2), (6, .ireturn), (7, .iload_n 0), (8, .iconst 3), (9, .if_icmp .eq (8)), (12, .iload_n 0), (13, .iconst 4), (14, .if_icmp .ne (7)), (17, .iconst 1), (18, .goto (4)), (21, .iconst 0), (22, .ireturn)]
/-- modeOf(II)I -/
def ta_c25 : List (Nat × Instr) := [(0, .aload_n 0), (1, .getfield 9), (4, .iload_n 1), (5, .bipush 34), (7, .imul), (8, .iload_n 2), (9, .iadd), (10, .iaload), (11, .ireturn)]
/-- setMode(III)V -/
def ta_c26 : List (Nat × Instr) := [(0, .aload_n 0), (1, .getfield 9), (4, .iload_n 1), (5, .bipush 34), (7, .imul), (8, .iload_n 2), (9, .iadd), (10, .iload_n 3), (11, .iastore), (12, .return_)]
/-- isHolder(II)Z -/
def ta_c27 : List (Nat × Instr) := [(0, .aload_n 0), (1, .iload_n 1), (2, .iload_n 2), (3, .invokevirtual 69), (6, .ifCond .eq (7)), (9, .iconst 1), (10, .goto (4)), (13, .iconst 0), (14, .ireturn)]
/-- holdsOnChild(II)Z -/
def ta_c28 : List (Nat × Instr) := [(0, .iload_n 2), (1, .iconst 1), (2, .iadd), (3, .istore_n 3), (4, .iload_n 3), (5, .bipush 34), (7, .if_icmp .ge (28)), (10, .iload_n 3), (11, .invokestatic 116), (14, .iload_n 2), (15, .if_icmp .ne (14)), (18, .aload_n 0), (19, .iload_n 1), (20, .iload_n 3), (21, .invokevirtual 50), (24, .ifCond .eq (5)), (27, .iconst 1), (28, .ireturn), (29, .iinc 3 (1)), (32, .goto (-28)), (35, .iconst 0), (36, .ireturn)]
/-- fitsOthers(III)Z -/
def ta_c29 : List (Nat × Instr) := [(0, .iconst 0), (1, .istore 4), (3, .iload 4), (5, .bipush 8), (7, .if_icmp .ge (31)), (10, .iload 4), (12, .iload_n 1), (13, .if_icmp .eq (19)), (16, .iload_n 3), (17, .aload_n 0), (18, .iload 4), (20, .iload_n 2), (21, .invokevirtual 69), (24, .invokestatic 125), (27, .ifCond .ne (5)), (30, .iconst 0), (31, .ireturn), (32, .iinc 4 (1)), (35, .goto (-32)), (38, .iconst 1), (39, .ireturn)]
/-- rightFromAbove(II)I -/
def ta_c30 : List (Nat × Instr) := [(0, .iconst 0), (1, .istore_n 3), (2, .iload_n 2), (3, .invokestatic 116), (6, .istore 4), (8, .iconst 0), (9, .istore 5), (11, .iload 5), (13, .iconst 3), (14, .if_icmp .ge (37)), (17, .iload 4), (19, .iconst (-1)), (20, .if_icmp .eq (31)), (23, .iload_n 3), (24, .aload_n 0), (25, .iload_n 1), (26, .iload 4), (28, .invokevirtual 69), (31, .invokestatic 105), (34, .invokestatic 111), (37, .istore_n 3), (38, .iload 4), (40, .invokestatic 116), (43, .istore 4), (45, .iinc 5 (1)), (48, .goto (-37)), (51, .iload_n 3), (52, .ireturn)]
/-- giveUp(II)I -/
def ta_c31 : List (Nat × Instr) := [(0, .aload_n 0), (1, .iload_n 1), (2, .iload_n 2), (3, .iconst 0), (4, .invokevirtual 78), (7, .aload_n 0), (8, .iload_n 2), (9, .invokevirtual 85), (12, .ireturn)]
/-- isAnnounced(III)Z -/
def ta_c32 : List (Nat × Instr) := [(0, .iload_n 2), (1, .invokestatic 116), (4, .istore 4), (6, .iload 4), (8, .iconst (-1)), (9, .if_icmp .eq (28)), (12, .aload_n 0), (13, .iload_n 1), (14, .iload 4), (16, .invokevirtual 69), (19, .iload_n 3), (20, .invokestatic 128), (23, .ifCond .eq (7)), (26, .iconst 1), (27, .goto (4)), (30, .iconst 2), (31, .invokestatic 131), (34, .ifCond .eq (7)), (37, .iconst 1), (38, .goto (4)), (41, .iconst 0), (42, .ireturn)]
/-- isCovered(III)Z -/
def ta_c33 : List (Nat × Instr) := [(0, .aload_n 0), (1, .iload_n 1), (2, .iload_n 2), (3, .invokevirtual 108), (6, .iload_n 3), (7, .invokestatic 128), (10, .ifCond .eq (7)), (13, .iconst 1), (14, .goto (4)), (17, .iconst 2), (18, .if_icmp .lt (7)), (21, .iconst 1), (22, .goto (4)), (25, .iconst 0), (26, .ireturn)]
/-- request(III)I -/
def ta_c34 : List (Nat × Instr) := [(0, .aload_n 0), (1, .iload_n 1), (2, .iload_n 2), (3, .iload_n 3), (4, .invokevirtual 134), (7, .ifCond .eq (5)), (10, .iconst 2), (11, .ireturn), (12, .iload_n 3), (13, .aload_n 0), (14, .iload_n 1), (15, .iload_n 2), (16, .invokevirtual 69), (19, .invokestatic 72), (22, .istore 4), (24, .iload 4), (26, .aload_n 0), (27, .iload_n 1), (28, .iload_n 2), (29, .invokevirtual 69), (32, .if_icmp .ne (5)), (35, .iconst 3), (36, .ireturn), (37, .aload_n 0), (38, .iload_n 1), (39, .iload_n 2), (40, .iload 4), (42, .invokevirtual 75), (45, .ifCond .eq (32)), (48, .aload_n 0), (49, .iload_n 1), (50, .iload_n 2), (51, .invokevirtual 50), (54, .ifCond .ne (13)), (57, .aload_n 0), (58, .iload_n 2), (59, .iconst 0), (60, .invokevirtual 96), (63, .iconst (-1)), (64, .if_icmp .ne (13)), (67, .aload_n 0), (68, .iload_n 1), (69, .iload_n 2), (70, .iload 4), (72, .invokevirtual 78), (75, .iconst 1), (76, .ireturn), (77, .aload_n 0), (78, .iload_n 1), (79, .iload_n 2), (80, .iload 4), (82, .invokevirtual 137), (85, .aload_n 0), (86, .iload_n 1), (87, .invokevirtual 140), (90, .ifCond .eq (10)), (93, .aload_n 0), (94, .iload_n 1), (95, .invokevirtual 92), (98, .iconst 4), (99, .ireturn), (100, .iconst 0), (101, .ireturn)]
/-- awaitedBy(I)I -/
def ta_c35 : List (Nat × Instr) := [(0, .aload_n 0), (1, .getfield 13), (4, .iload_n 1), (5, .iaload), (6, .iconst 2), (7, .if_icmp .lt (14)), (10, .aload_n 0), (11, .getfield 13), (14, .iload_n 1), (15, .iaload), (16, .iconst 2), (17, .isub), (18, .goto (4)), (21, .iconst (-1)), (22, .ireturn)]
/-- standingAt(II)I -/
def ta_c36 : List (Nat × Instr) := [(0, .iconst 0), (1, .istore_n 3), (2, .iload_n 3), (3, .bipush 8), (5, .if_icmp .ge (30)), (8, .aload_n 0), (9, .iload_n 3), (10, .invokevirtual 89), (13, .iload_n 1), (14, .if_icmp .ne (15)), (17, .aload_n 0), (18, .getfield 19), (21, .iload_n 3), (22, .iaload), (23, .iload_n 2), (24, .if_icmp .ne (5)), (27, .iload_n 3), (28, .ireturn), (29, .iinc 3 (1)), (32, .goto (-30)), (35, .iconst (-1)), (36, .ireturn)]
/-- enterQueue(III)V -/
def ta_c37 : List (Nat × Instr) := [(0, .aload_n 0), (1, .iload_n 1), (2, .iload_n 2), (3, .invokevirtual 143), (6, .istore 4), (8, .aload_n 0), (9, .iload_n 2), (10, .iload 4), (12, .iconst 1), (13, .invokevirtual 146), (16, .aload_n 0), (17, .getfield 13), (20, .iload_n 1), (21, .iconst 2), (22, .iload_n 2), (23, .iadd), (24, .iastore), (25, .aload_n 0), (26, .getfield 16), (29, .iload_n 1), (30, .iload_n 3), (31, .iastore), (32, .aload_n 0), (33, .getfield 19), (36, .iload_n 1), (37, .iload 4), (39, .iastore), (40, .return_)]
/-- leaveQueue(I)V -/
def ta_c38 : List (Nat × Instr) := [(0, .aload_n 0), (1, .iload_n 1), (2, .invokevirtual 89), (5, .istore_n 2), (6, .aload_n 0), (7, .getfield 13), (10, .iload_n 1), (11, .iconst 1), (12, .iastore), (13, .aload_n 0), (14, .getfield 16), (17, .iload_n 1), (18, .iconst 0), (19, .iastore), (20, .aload_n 0), (21, .iload_n 2), (22, .aload_n 0), (23, .getfield 19), (26, .iload_n 1), (27, .iaload), (28, .iconst (-1)), (29, .invokevirtual 146), (32, .return_)]
/-- placeFor(II)I -/
def ta_c39 : List (Nat × Instr) := [(0, .iconst 0), (1, .istore_n 3), (2, .iconst 0), (3, .istore 4), (5, .iload 4), (7, .bipush 8), (9, .if_icmp .ge (41)), (12, .aload_n 0), (13, .iload 4), (15, .invokevirtual 89), (18, .iload_n 2), (19, .if_icmp .ne (25)), (22, .aload_n 0), (23, .iload 4), (25, .iload_n 2), (26, .invokevirtual 50), (29, .ifCond .ne (12)), (32, .aload_n 0), (33, .iload_n 1), (34, .iload_n 2), (35, .invokevirtual 50), (38, .ifCond .ne (6)), (41, .iinc 3 (1)), (44, .iinc 4 (1)), (47, .goto (-42)), (50, .iload_n 3), (51, .ireturn)]
/-- shiftQueue(III)V -/
def ta_c40 : List (Nat × Instr) := [(0, .iconst 0), (1, .istore 4), (3, .iload 4), (5, .bipush 8), (7, .if_icmp .ge (41)), (10, .aload_n 0), (11, .iload 4), (13, .invokevirtual 89), (16, .iload_n 1), (17, .if_icmp .ne (25)), (20, .aload_n 0), (21, .getfield 19), (24, .iload 4), (26, .iaload), (27, .iload_n 2), (28, .if_icmp .lt (14)), (31, .aload_n 0), (32, .getfield 19), (35, .iload 4), (37, .dup2), (38, .iaload), (39, .iload_n 3), (40, .iadd), (41, .iastore), (42, .iinc 4 (1)), (45, .goto (-42)), (48, .return_)]
/-- serve(I)I -/
def ta_c41 : List (Nat × Instr) := [(0, .iconst 0), (1, .istore_n 2), (2, .iload_n 2), (3, .bipush 8), (5, .if_icmp .ge (55)), (8, .aload_n 0), (9, .iload_n 1), (10, .iconst 0), (11, .invokevirtual 96), (14, .istore_n 3), (15, .iload_n 3), (16, .iconst (-1)), (17, .if_icmp .eq (18)), (20, .aload_n 0), (21, .iload_n 3), (22, .iload_n 1), (23, .aload_n 0), (24, .getfield 16), (27, .iload_n 3), (28, .iaload), (29, .invokevirtual 75), (32, .ifCond .ne (5)), (35, .iload_n 2), (36, .ireturn), (37, .aload_n 0), (38, .iload_n 3), (39, .iload_n 1), (40, .aload_n 0), (41, .getfield 16), (44, .iload_n 3), (45, .iaload), (46, .invokevirtual 78), (49, .aload_n 0), (50, .iload_n 3), (51, .invokevirtual 92), (54, .iinc 2 (1)), (57, .goto (-55)), (60, .bipush 8), (62, .ireturn)]
/-- blockersOf(I)I -/
def ta_c42 : List (Nat × Instr) := [(0, .aload_n 0), (1, .iload_n 1), (2, .invokevirtual 89), (5, .istore_n 2), (6, .iload_n 2), (7, .iconst (-1)), (8, .if_icmp .ne (5)), (11, .iconst 0), (12, .ireturn), (13, .iconst 0), (14, .istore_n 3), (15, .iconst 0), (16, .istore 4), (18, .iload 4), (20, .bipush 8), (22, .if_icmp .ge (33)), (25, .iload 4), (27, .iload_n 1), (28, .if_icmp .eq (21)), (31, .aload_n 0), (32, .iload 4), (34, .iload_n 1), (35, .iload_n 2), (36, .invokevirtual 149), (39, .ifCond .eq (10)), (42, .iload_n 3), (43, .iconst 1), (44, .iload 4), (46, .ishl), (47, .ior), (48, .istore_n 3), (49, .iinc 4 (1)), (52, .goto (-34)), (55, .iload_n 3), (56, .ireturn)]
/-- blocks(III)Z -/
def ta_c43 : List (Nat × Instr) := [(0, .aload_n 0), (1, .iload_n 1), (2, .iload_n 3), (3, .invokevirtual 69), (6, .aload_n 0), (7, .getfield 16), (10, .iload_n 2), (11, .iaload), (12, .invokestatic 125), (15, .ifCond .eq (27)), (18, .aload_n 0), (19, .iload_n 1), (20, .invokevirtual 89), (23, .iload_n 3), (24, .if_icmp .ne (22)), (27, .aload_n 0), (28, .getfield 19), (31, .iload_n 1), (32, .iaload), (33, .aload_n 0), (34, .getfield 19), (37, .iload_n 2), (38, .iaload), (39, .if_icmp .ge (7)), (42, .iconst 1), (43, .goto (4)), (46, .iconst 0), (47, .ireturn)]
/-- isInCircle(I)Z -/
def ta_c44 : List (Nat × Instr) := [(0, .aload_n 0), (1, .iload_n 1), (2, .invokevirtual 99), (5, .istore_n 2), (6, .iconst 0), (7, .istore_n 3), (8, .iload_n 3), (9, .bipush 8), (11, .if_icmp .ge (17)), (14, .iload_n 2), (15, .aload_n 0), (16, .iload_n 2), (17, .invokevirtual 152), (20, .ior), (21, .istore_n 2), (22, .iinc 3 (1)), (25, .goto (-17)), (28, .iload_n 2), (29, .iload_n 1), (30, .invokestatic 155), (33, .ireturn)]
/-- blockersOfAll(I)I -/
def ta_c45 : List (Nat × Instr) := [(0, .iconst 0), (1, .istore_n 2), (2, .iconst 0), (3, .istore_n 3), (4, .iload_n 3), (5, .bipush 8), (7, .if_icmp .ge (25)), (10, .iload_n 1), (11, .iload_n 3), (12, .invokestatic 155), (15, .ifCond .eq (11)), (18, .iload_n 2), (19, .aload_n 0), (20, .iload_n 3), (21, .invokevirtual 99), (24, .ior), (25, .istore_n 2), (26, .iinc 3 (1)), (29, .goto (-25)), (32, .iload_n 2), (33, .ireturn)]
/-- contains(II)Z -/
def ta_c46 : List (Nat × Instr) := [(0, .iload_n 0), (1, .iload_n 1), (2, .ishr), (3, .iconst 1), (4, .iand), (5, .iconst 1), (6, .if_icmp .ne (7)), (9, .iconst 1), (10, .goto (4)), (13, .iconst 0), (14, .ireturn)]
/-- countBelow(II)I -/
def ta_c47 : List (Nat × Instr) := [(0, .iconst 0), (1, .istore_n 3), (2, .iload_n 2), (3, .iconst 1), (4, .iadd), (5, .istore 4), (7, .iload 4), (9, .bipush 34), (11, .if_icmp .ge (31)), (14, .iload 4), (16, .iload_n 2), (17, .invokestatic 158), (20, .ifCond .eq (16)), (23, .aload_n 0), (24, .iload_n 1), (25, .iload 4), (27, .invokevirtual 50), (30, .ifCond .eq (6)), (33, .iinc 3 (1)), (36, .iinc 4 (1)), (39, .goto (-32)), (42, .iload_n 3), (43, .ireturn)]
/-- writesWithin(II)Z -/
def ta_c48 : List (Nat × Instr) := [(0, .iload_n 2), (1, .istore_n 3), (2, .iload_n 3), (3, .bipush 34), (5, .if_icmp .ge (37)), (8, .iload_n 3), (9, .iload_n 2), (10, .if_icmp .eq (11)), (13, .iload_n 3), (14, .iload_n 2), (15, .invokestatic 158), (18, .ifCond .eq (18)), (21, .aload_n 0), (22, .iload_n 1), (23, .iload_n 3), (24, .invokevirtual 69), (27, .iconst 2), (28, .invokestatic 131), (31, .ifCond .eq (5)), (34, .iconst 1), (35, .ireturn), (36, .iinc 3 (1)), (39, .goto (-37)), (42, .iconst 0), (43, .ireturn)]
/-- giveUpBelow(II)I -/
def ta_c49 : List (Nat × Instr) := [(0, .iconst 0), (1, .istore_n 3), (2, .bipush 33), (4, .istore 4), (6, .iload 4), (8, .iload_n 2), (9, .if_icmp .le (39)), (12, .iload 4), (14, .iload_n 2), (15, .invokestatic 158), (18, .ifCond .eq (24)), (21, .aload_n 0), (22, .iload_n 1), (23, .iload 4), (25, .invokevirtual 50), (28, .ifCond .eq (14)), (31, .aload_n 0), (32, .iload_n 1), (33, .iload 4), (35, .invokevirtual 56), (38, .pop), (39, .iinc 3 (1)), (42, .iinc 4 (-1)), (45, .goto (-39)), (48, .iload_n 3), (49, .ireturn)]
def ta_cs : List (List (Nat × Instr) × Nat × Option FieldType) := [(ta_c0, 1, none), (ta_c1, 2, some .int), (ta_c2, 4, some .int), (ta_c3, 3, none), (ta_c4, 5, some .int), (ta_c5, 5, some .int), (ta_c6, 3, some .int), (ta_c7, 2, some .int), (ta_c8, 2, some .int), (ta_c9, 3, some .int), (ta_c10, 2, some .int), (ta_c11, 3, some .int), (ta_c12, 4, some .int), (ta_c13, 1, some .boolean), (ta_c14, 1, some .boolean), (ta_c15, 1, some .boolean), (ta_c16, 1, some .boolean), (ta_c17, 1, some .int), (ta_c18, 4, some .boolean), (ta_c19, 2, some .boolean), (ta_c20, 4, some .int), (ta_c21, 2, some .boolean), (ta_c22, 1, some .boolean), (ta_c23, 2, some .boolean), (ta_c24, 1, some .int), (ta_c25, 3, some .int), (ta_c26, 4, none), (ta_c27, 3, some .boolean), (ta_c28, 4, some .boolean), (ta_c29, 5, some .boolean), (ta_c30, 6, some .int), (ta_c31, 3, some .int), (ta_c32, 5, some .boolean), (ta_c33, 4, some .boolean), (ta_c34, 5, some .int), (ta_c35, 2, some .int), (ta_c36, 4, some .int), (ta_c37, 5, none), (ta_c38, 3, none), (ta_c39, 5, some .int), (ta_c40, 5, none), (ta_c41, 4, some .int), (ta_c42, 5, some .int), (ta_c43, 4, some .boolean), (ta_c44, 4, some .boolean), (ta_c45, 4, some .int), (ta_c46, 2, some .boolean), (ta_c47, 5, some .int), (ta_c48, 4, some .boolean), (ta_c49, 5, some .int)]
def ta_nms : List MethodName := [⟨"TieredLocks", "<init>", "()V"⟩, ⟨"TieredLocks", "begin", "()I"⟩, ⟨"TieredLocks", "lock", "(III)I"⟩, ⟨"TieredLocks", "unlock", "(II)V"⟩, ⟨"TieredLocks", "escalate", "(II)I"⟩, ⟨"TieredLocks", "end", "(I)I"⟩, ⟨"TieredLocks", "held", "(II)I"⟩, ⟨"TieredLocks", "state", "(I)I"⟩, ⟨"TieredLocks", "wanted", "(I)I"⟩, ⟨"TieredLocks", "queue", "(II)I"⟩, ⟨"TieredLocks", "waitsFor", "(I)I"⟩, ⟨"TieredLocks", "access", "(II)I"⟩, ⟨"TieredLocks", "locks", "(I)I"⟩, ⟨"TieredLocks", "isTransaction", "(I)Z"⟩, ⟨"TieredLocks", "isResource", "(I)Z"⟩, ⟨"TieredLocks", "isRow", "(I)Z"⟩, ⟨"TieredLocks", "isTableOrPage", "(I)Z"⟩, ⟨"TieredLocks", "parentOf", "(I)I"⟩, ⟨"TieredLocks", "isBelow", "(II)Z"⟩, ⟨"TieredLocks", "goTogether", "(II)Z"⟩, ⟨"TieredLocks", "join", "(II)I"⟩, ⟨"TieredLocks", "covers", "(II)Z"⟩, ⟨"TieredLocks", "onlyReads", "(I)Z"⟩, ⟨"TieredLocks", "canBeAsked", "(II)Z"⟩, ⟨"TieredLocks", "rightBy", "(I)I"⟩, ⟨"TieredLocks", "modeOf", "(II)I"⟩, ⟨"TieredLocks", "setMode", "(III)V"⟩, ⟨"TieredLocks", "isHolder", "(II)Z"⟩, ⟨"TieredLocks", "holdsOnChild", "(II)Z"⟩, ⟨"TieredLocks", "fitsOthers", "(III)Z"⟩, ⟨"TieredLocks", "rightFromAbove", "(II)I"⟩, ⟨"TieredLocks", "giveUp", "(II)I"⟩, ⟨"TieredLocks", "isAnnounced", "(III)Z"⟩, ⟨"TieredLocks", "isCovered", "(III)Z"⟩, ⟨"TieredLocks", "request", "(III)I"⟩, ⟨"TieredLocks", "awaitedBy", "(I)I"⟩, ⟨"TieredLocks", "standingAt", "(II)I"⟩, ⟨"TieredLocks", "enterQueue", "(III)V"⟩, ⟨"TieredLocks", "leaveQueue", "(I)V"⟩, ⟨"TieredLocks", "placeFor", "(II)I"⟩, ⟨"TieredLocks", "shiftQueue", "(III)V"⟩, ⟨"TieredLocks", "serve", "(I)I"⟩, ⟨"TieredLocks", "blockersOf", "(I)I"⟩, ⟨"TieredLocks", "blocks", "(III)Z"⟩, ⟨"TieredLocks", "isInCircle", "(I)Z"⟩, ⟨"TieredLocks", "blockersOfAll", "(I)I"⟩, ⟨"TieredLocks", "contains", "(II)Z"⟩, ⟨"TieredLocks", "countBelow", "(II)I"⟩, ⟨"TieredLocks", "writesWithin", "(II)Z"⟩, ⟨"TieredLocks", "giveUpBelow", "(II)I"⟩]
def ta_bss : List ByteArray := [prog_1_method_1_code, prog_1_method_2_code, prog_1_method_3_code, prog_1_method_4_code, prog_1_method_5_code, prog_1_method_6_code, prog_1_method_7_code, prog_1_method_8_code, prog_1_method_9_code, prog_1_method_10_code, prog_1_method_11_code, prog_1_method_12_code, prog_1_method_13_code, prog_1_method_14_code, prog_1_method_15_code, prog_1_method_16_code, prog_1_method_17_code, prog_1_method_18_code, prog_1_method_19_code, prog_1_method_20_code, prog_1_method_21_code, prog_1_method_22_code, prog_1_method_23_code, prog_1_method_24_code, prog_1_method_25_code, prog_1_method_26_code, prog_1_method_27_code, prog_1_method_28_code, prog_1_method_29_code, prog_1_method_30_code, prog_1_method_31_code, prog_1_method_32_code, prog_1_method_33_code, prog_1_method_34_code, prog_1_method_35_code, prog_1_method_36_code, prog_1_method_37_code, prog_1_method_38_code, prog_1_method_39_code, prog_1_method_40_code, prog_1_method_41_code, prog_1_method_42_code, prog_1_method_43_code, prog_1_method_44_code, prog_1_method_45_code, prog_1_method_46_code, prog_1_method_47_code, prog_1_method_48_code, prog_1_method_49_code, prog_1_method_50_code]
def ta_sts : List Bool := [false, false, false, false, false, false, false, false, false, false, false, false, false, true, true, true, true, true, true, true, true, true, true, true, true, false, false, false, false, false, false, false, false, false, false, false, false, false, false, false, false, false, false, false, false, false, true, false, false, false]
def ta_nm (j : Nat) : MethodName := ta_nms.getD j ⟨"", "", ""⟩
def ta_bs (j : Nat) : ByteArray := ta_bss.getD j ⟨#[]⟩
def ta_sta (j : Nat) : Bool := ta_sts.getD j false
def ta_fl : List (Nat × Nat) := [(9, 0), (13, 1), (16, 2), (19, 3), (119, 99)]
def ta_ln : List (Nat × Nat) := [(0, 272), (1, 8), (2, 8), (3, 8), (99, 6)]
def ta_mt : List (Nat × Nat × Nat) := [(22, 13, 1), (26, 14, 1), (29, 23, 2), (39, 32, 4), (46, 34, 4), (50, 27, 3), (53, 28, 3), (56, 31, 3), (60, 16, 1), (63, 47, 3), (66, 48, 3), (69, 25, 3), (72, 20, 2), (75, 29, 4), (78, 26, 4), (82, 49, 3), (85, 41, 2), (89, 35, 2), (92, 38, 2), (96, 36, 3), (99, 42, 2), (102, 15, 1), (105, 24, 1), (108, 30, 3), (111, 1000, 2), (116, 17, 1), (122, 1001, 2), (125, 19, 2), (128, 22, 1), (131, 21, 2), (134, 33, 4), (137, 37, 4), (140, 44, 2), (143, 39, 3), (146, 40, 4), (149, 43, 4), (152, 45, 2), (155, 46, 2), (158, 18, 2)]
def ta_ex : List (Nat × Nat) := [(33, 1), (36, 2), (43, 3)]
def ta_P : tl_P := (fun j => ta_cs.getD j ([], 0, none), tl_lk ta_fl, tl_lk ta_ln, tl_lk2 ta_mt, tl_lk ta_ex)
theorem ta_d0 : (ta_c0.all fun q => decide (decode prog_1_method_1_code q.1 = .ok (q.2, tl_len q.2)) && tl_ok ta_P ta_sta 1 q.1 q.2) = true := by decide +kernel
theorem ta_d1 : (ta_c1.all fun q => decide (decode prog_1_method_2_code q.1 = .ok (q.2, tl_len q.2)) && tl_ok ta_P ta_sta 2 q.1 q.2) = true := by decide +kernel
theorem ta_d2 : (ta_c2.all fun q => decide (decode prog_1_method_3_code q.1 = .ok (q.2, tl_len q.2)) && tl_ok ta_P ta_sta 4 q.1 q.2) = true := by decide +kernel
theorem ta_d3 : (ta_c3.all fun q => decide (decode prog_1_method_4_code q.1 = .ok (q.2, tl_len q.2)) && tl_ok ta_P ta_sta 3 q.1 q.2) = true := by decide +kernel
theorem ta_d4 : (ta_c4.all fun q => decide (decode prog_1_method_5_code q.1 = .ok (q.2, tl_len q.2)) && tl_ok ta_P ta_sta 5 q.1 q.2) = true := by decide +kernel
theorem ta_d5 : (ta_c5.all fun q => decide (decode prog_1_method_6_code q.1 = .ok (q.2, tl_len q.2)) && tl_ok ta_P ta_sta 5 q.1 q.2) = true := by decide +kernel
theorem ta_d6 : (ta_c6.all fun q => decide (decode prog_1_method_7_code q.1 = .ok (q.2, tl_len q.2)) && tl_ok ta_P ta_sta 3 q.1 q.2) = true := by decide +kernel
theorem ta_d7 : (ta_c7.all fun q => decide (decode prog_1_method_8_code q.1 = .ok (q.2, tl_len q.2)) && tl_ok ta_P ta_sta 2 q.1 q.2) = true := by decide +kernel
theorem ta_d8 : (ta_c8.all fun q => decide (decode prog_1_method_9_code q.1 = .ok (q.2, tl_len q.2)) && tl_ok ta_P ta_sta 2 q.1 q.2) = true := by decide +kernel
theorem ta_d9 : (ta_c9.all fun q => decide (decode prog_1_method_10_code q.1 = .ok (q.2, tl_len q.2)) && tl_ok ta_P ta_sta 3 q.1 q.2) = true := by decide +kernel
theorem ta_d10 : (ta_c10.all fun q => decide (decode prog_1_method_11_code q.1 = .ok (q.2, tl_len q.2)) && tl_ok ta_P ta_sta 2 q.1 q.2) = true := by decide +kernel
theorem ta_d11 : (ta_c11.all fun q => decide (decode prog_1_method_12_code q.1 = .ok (q.2, tl_len q.2)) && tl_ok ta_P ta_sta 3 q.1 q.2) = true := by decide +kernel
theorem ta_d12 : (ta_c12.all fun q => decide (decode prog_1_method_13_code q.1 = .ok (q.2, tl_len q.2)) && tl_ok ta_P ta_sta 4 q.1 q.2) = true := by decide +kernel
theorem ta_d13 : (ta_c13.all fun q => decide (decode prog_1_method_14_code q.1 = .ok (q.2, tl_len q.2)) && tl_ok ta_P ta_sta 1 q.1 q.2) = true := by decide +kernel
theorem ta_d14 : (ta_c14.all fun q => decide (decode prog_1_method_15_code q.1 = .ok (q.2, tl_len q.2)) && tl_ok ta_P ta_sta 1 q.1 q.2) = true := by decide +kernel
theorem ta_d15 : (ta_c15.all fun q => decide (decode prog_1_method_16_code q.1 = .ok (q.2, tl_len q.2)) && tl_ok ta_P ta_sta 1 q.1 q.2) = true := by decide +kernel
theorem ta_d16 : (ta_c16.all fun q => decide (decode prog_1_method_17_code q.1 = .ok (q.2, tl_len q.2)) && tl_ok ta_P ta_sta 1 q.1 q.2) = true := by decide +kernel
theorem ta_d17 : (ta_c17.all fun q => decide (decode prog_1_method_18_code q.1 = .ok (q.2, tl_len q.2)) && tl_ok ta_P ta_sta 1 q.1 q.2) = true := by decide +kernel
theorem ta_d18 : (ta_c18.all fun q => decide (decode prog_1_method_19_code q.1 = .ok (q.2, tl_len q.2)) && tl_ok ta_P ta_sta 4 q.1 q.2) = true := by decide +kernel
theorem ta_d19 : (ta_c19.all fun q => decide (decode prog_1_method_20_code q.1 = .ok (q.2, tl_len q.2)) && tl_ok ta_P ta_sta 2 q.1 q.2) = true := by decide +kernel
theorem ta_d20 : (ta_c20.all fun q => decide (decode prog_1_method_21_code q.1 = .ok (q.2, tl_len q.2)) && tl_ok ta_P ta_sta 4 q.1 q.2) = true := by decide +kernel
theorem ta_d21 : (ta_c21.all fun q => decide (decode prog_1_method_22_code q.1 = .ok (q.2, tl_len q.2)) && tl_ok ta_P ta_sta 2 q.1 q.2) = true := by decide +kernel
theorem ta_d22 : (ta_c22.all fun q => decide (decode prog_1_method_23_code q.1 = .ok (q.2, tl_len q.2)) && tl_ok ta_P ta_sta 1 q.1 q.2) = true := by decide +kernel
theorem ta_d23 : (ta_c23.all fun q => decide (decode prog_1_method_24_code q.1 = .ok (q.2, tl_len q.2)) && tl_ok ta_P ta_sta 2 q.1 q.2) = true := by decide +kernel
theorem ta_d24 : (ta_c24.all fun q => decide (decode prog_1_method_25_code q.1 = .ok (q.2, tl_len q.2)) && tl_ok ta_P ta_sta 1 q.1 q.2) = true := by decide +kernel
theorem ta_d25 : (ta_c25.all fun q => decide (decode prog_1_method_26_code q.1 = .ok (q.2, tl_len q.2)) && tl_ok ta_P ta_sta 3 q.1 q.2) = true := by decide +kernel
theorem ta_d26 : (ta_c26.all fun q => decide (decode prog_1_method_27_code q.1 = .ok (q.2, tl_len q.2)) && tl_ok ta_P ta_sta 4 q.1 q.2) = true := by decide +kernel
theorem ta_d27 : (ta_c27.all fun q => decide (decode prog_1_method_28_code q.1 = .ok (q.2, tl_len q.2)) && tl_ok ta_P ta_sta 3 q.1 q.2) = true := by decide +kernel
theorem ta_d28 : (ta_c28.all fun q => decide (decode prog_1_method_29_code q.1 = .ok (q.2, tl_len q.2)) && tl_ok ta_P ta_sta 4 q.1 q.2) = true := by decide +kernel
theorem ta_d29 : (ta_c29.all fun q => decide (decode prog_1_method_30_code q.1 = .ok (q.2, tl_len q.2)) && tl_ok ta_P ta_sta 5 q.1 q.2) = true := by decide +kernel
theorem ta_d30 : (ta_c30.all fun q => decide (decode prog_1_method_31_code q.1 = .ok (q.2, tl_len q.2)) && tl_ok ta_P ta_sta 6 q.1 q.2) = true := by decide +kernel
theorem ta_d31 : (ta_c31.all fun q => decide (decode prog_1_method_32_code q.1 = .ok (q.2, tl_len q.2)) && tl_ok ta_P ta_sta 3 q.1 q.2) = true := by decide +kernel
theorem ta_d32 : (ta_c32.all fun q => decide (decode prog_1_method_33_code q.1 = .ok (q.2, tl_len q.2)) && tl_ok ta_P ta_sta 5 q.1 q.2) = true := by decide +kernel
theorem ta_d33 : (ta_c33.all fun q => decide (decode prog_1_method_34_code q.1 = .ok (q.2, tl_len q.2)) && tl_ok ta_P ta_sta 4 q.1 q.2) = true := by decide +kernel
theorem ta_d34 : (ta_c34.all fun q => decide (decode prog_1_method_35_code q.1 = .ok (q.2, tl_len q.2)) && tl_ok ta_P ta_sta 5 q.1 q.2) = true := by decide +kernel
theorem ta_d35 : (ta_c35.all fun q => decide (decode prog_1_method_36_code q.1 = .ok (q.2, tl_len q.2)) && tl_ok ta_P ta_sta 2 q.1 q.2) = true := by decide +kernel
theorem ta_d36 : (ta_c36.all fun q => decide (decode prog_1_method_37_code q.1 = .ok (q.2, tl_len q.2)) && tl_ok ta_P ta_sta 4 q.1 q.2) = true := by decide +kernel
theorem ta_d37 : (ta_c37.all fun q => decide (decode prog_1_method_38_code q.1 = .ok (q.2, tl_len q.2)) && tl_ok ta_P ta_sta 5 q.1 q.2) = true := by decide +kernel
theorem ta_d38 : (ta_c38.all fun q => decide (decode prog_1_method_39_code q.1 = .ok (q.2, tl_len q.2)) && tl_ok ta_P ta_sta 3 q.1 q.2) = true := by decide +kernel
theorem ta_d39 : (ta_c39.all fun q => decide (decode prog_1_method_40_code q.1 = .ok (q.2, tl_len q.2)) && tl_ok ta_P ta_sta 5 q.1 q.2) = true := by decide +kernel
theorem ta_d40 : (ta_c40.all fun q => decide (decode prog_1_method_41_code q.1 = .ok (q.2, tl_len q.2)) && tl_ok ta_P ta_sta 5 q.1 q.2) = true := by decide +kernel
theorem ta_d41 : (ta_c41.all fun q => decide (decode prog_1_method_42_code q.1 = .ok (q.2, tl_len q.2)) && tl_ok ta_P ta_sta 4 q.1 q.2) = true := by decide +kernel
theorem ta_d42 : (ta_c42.all fun q => decide (decode prog_1_method_43_code q.1 = .ok (q.2, tl_len q.2)) && tl_ok ta_P ta_sta 5 q.1 q.2) = true := by decide +kernel
theorem ta_d43 : (ta_c43.all fun q => decide (decode prog_1_method_44_code q.1 = .ok (q.2, tl_len q.2)) && tl_ok ta_P ta_sta 4 q.1 q.2) = true := by decide +kernel
theorem ta_d44 : (ta_c44.all fun q => decide (decode prog_1_method_45_code q.1 = .ok (q.2, tl_len q.2)) && tl_ok ta_P ta_sta 4 q.1 q.2) = true := by decide +kernel
theorem ta_d45 : (ta_c45.all fun q => decide (decode prog_1_method_46_code q.1 = .ok (q.2, tl_len q.2)) && tl_ok ta_P ta_sta 4 q.1 q.2) = true := by decide +kernel
theorem ta_d46 : (ta_c46.all fun q => decide (decode prog_1_method_47_code q.1 = .ok (q.2, tl_len q.2)) && tl_ok ta_P ta_sta 2 q.1 q.2) = true := by decide +kernel
theorem ta_d47 : (ta_c47.all fun q => decide (decode prog_1_method_48_code q.1 = .ok (q.2, tl_len q.2)) && tl_ok ta_P ta_sta 5 q.1 q.2) = true := by decide +kernel
theorem ta_d48 : (ta_c48.all fun q => decide (decode prog_1_method_49_code q.1 = .ok (q.2, tl_len q.2)) && tl_ok ta_P ta_sta 4 q.1 q.2) = true := by decide +kernel
theorem ta_d49 : (ta_c49.all fun q => decide (decode prog_1_method_50_code q.1 = .ok (q.2, tl_len q.2)) && tl_ok ta_P ta_sta 5 q.1 q.2) = true := by decide +kernel
set_option maxRecDepth 20000 in
theorem ta_w0 : Cond.code (ta_nm 0) (ta_bs 0) 1 (none) ∈ lw_gt := List.mem_filter.mpr ⟨List.mem_of_getElem? (i := 48) rfl, rfl⟩
set_option maxRecDepth 20000 in
theorem ta_w1 : Cond.code (ta_nm 1) (ta_bs 1) 2 (some .int) ∈ lw_gt := List.mem_filter.mpr ⟨List.mem_of_getElem? (i := 69) rfl, rfl⟩
set_option maxRecDepth 20000 in
theorem ta_w2 : Cond.code (ta_nm 2) (ta_bs 2) 4 (some .int) ∈ lw_gt := List.mem_filter.mpr ⟨List.mem_of_getElem? (i := 158) rfl, rfl⟩
set_option maxRecDepth 20000 in
theorem ta_w3 : Cond.code (ta_nm 3) (ta_bs 3) 3 (none) ∈ lw_gt := List.mem_filter.mpr ⟨List.mem_of_getElem? (i := 320) rfl, rfl⟩
set_option maxRecDepth 20000 in
theorem ta_w4 : Cond.code (ta_nm 4) (ta_bs 4) 5 (some .int) ∈ lw_gt := List.mem_filter.mpr ⟨List.mem_of_getElem? (i := 339) rfl, rfl⟩
set_option maxRecDepth 20000 in
theorem ta_w5 : Cond.code (ta_nm 5) (ta_bs 5) 5 (some .int) ∈ lw_gt := List.mem_filter.mpr ⟨List.mem_of_getElem? (i := 364) rfl, rfl⟩
set_option maxRecDepth 20000 in
theorem ta_w6 : Cond.code (ta_nm 6) (ta_bs 6) 3 (some .int) ∈ lw_gt := List.mem_filter.mpr ⟨List.mem_of_getElem? (i := 73) rfl, rfl⟩
set_option maxRecDepth 20000 in
theorem ta_w7 : Cond.code (ta_nm 7) (ta_bs 7) 2 (some .int) ∈ lw_gt := List.mem_filter.mpr ⟨List.mem_of_getElem? (i := 87) rfl, rfl⟩
set_option maxRecDepth 20000 in
theorem ta_w8 : Cond.code (ta_nm 8) (ta_bs 8) 2 (some .int) ∈ lw_gt := List.mem_filter.mpr ⟨List.mem_of_getElem? (i := 91) rfl, rfl⟩
set_option maxRecDepth 20000 in
theorem ta_w9 : Cond.code (ta_nm 9) (ta_bs 9) 3 (some .int) ∈ lw_gt := List.mem_filter.mpr ⟨List.mem_of_getElem? (i := 95) rfl, rfl⟩
set_option maxRecDepth 20000 in
theorem ta_w10 : Cond.code (ta_nm 10) (ta_bs 10) 2 (some .int) ∈ lw_gt := List.mem_filter.mpr ⟨List.mem_of_getElem? (i := 107) rfl, rfl⟩
set_option maxRecDepth 20000 in
theorem ta_w11 : Cond.code (ta_nm 11) (ta_bs 11) 3 (some .int) ∈ lw_gt := List.mem_filter.mpr ⟨List.mem_of_getElem? (i := 124) rfl, rfl⟩
set_option maxRecDepth 20000 in
theorem ta_w12 : Cond.code (ta_nm 12) (ta_bs 12) 4 (some .int) ∈ lw_gt := List.mem_filter.mpr ⟨List.mem_of_getElem? (i := 144) rfl, rfl⟩
set_option maxRecDepth 20000 in
theorem ta_w13 : Cond.code (ta_nm 13) (ta_bs 13) 1 (some .boolean) ∈ lw_gt := List.mem_filter.mpr ⟨List.mem_of_getElem? (i := 76) rfl, rfl⟩
set_option maxRecDepth 20000 in
theorem ta_w14 : Cond.code (ta_nm 14) (ta_bs 14) 1 (some .boolean) ∈ lw_gt := List.mem_filter.mpr ⟨List.mem_of_getElem? (i := 79) rfl, rfl⟩
set_option maxRecDepth 20000 in
theorem ta_w15 : Cond.code (ta_nm 15) (ta_bs 15) 1 (some .boolean) ∈ lw_gt := List.mem_filter.mpr ⟨List.mem_of_getElem? (i := 127) rfl, rfl⟩
set_option maxRecDepth 20000 in
theorem ta_w16 : Cond.code (ta_nm 16) (ta_bs 16) 1 (some .boolean) ∈ lw_gt := List.mem_filter.mpr ⟨List.mem_of_getElem? (i := 342) rfl, rfl⟩
set_option maxRecDepth 20000 in
theorem ta_w17 : Cond.code (ta_nm 17) (ta_bs 17) 1 (some .int) ∈ lw_gt := List.mem_filter.mpr ⟨List.mem_of_getElem? (i := 137) rfl, rfl⟩
set_option maxRecDepth 20000 in
theorem ta_w18 : Cond.code (ta_nm 18) (ta_bs 18) 4 (some .boolean) ∈ lw_gt := List.mem_filter.mpr ⟨List.mem_of_getElem? (i := 349) rfl, rfl⟩
set_option maxRecDepth 20000 in
theorem ta_w19 : Cond.code (ta_nm 19) (ta_bs 19) 2 (some .boolean) ∈ lw_gt := List.mem_filter.mpr ⟨List.mem_of_getElem? (i := 118) rfl, rfl⟩
set_option maxRecDepth 20000 in
theorem ta_w20 : Cond.code (ta_nm 20) (ta_bs 20) 4 (some .int) ∈ lw_gt := List.mem_filter.mpr ⟨List.mem_of_getElem? (i := 252) rfl, rfl⟩
set_option maxRecDepth 20000 in
theorem ta_w21 : Cond.code (ta_nm 21) (ta_bs 21) 2 (some .boolean) ∈ lw_gt := List.mem_filter.mpr ⟨List.mem_of_getElem? (i := 249) rfl, rfl⟩
set_option maxRecDepth 20000 in
theorem ta_w22 : Cond.code (ta_nm 22) (ta_bs 22) 1 (some .boolean) ∈ lw_gt := List.mem_filter.mpr ⟨List.mem_of_getElem? (i := 246) rfl, rfl⟩
set_option maxRecDepth 20000 in
theorem ta_w23 : Cond.code (ta_nm 23) (ta_bs 23) 2 (some .boolean) ∈ lw_gt := List.mem_filter.mpr ⟨List.mem_of_getElem? (i := 161) rfl, rfl⟩
set_option maxRecDepth 20000 in
theorem ta_w24 : Cond.code (ta_nm 24) (ta_bs 24) 1 (some .int) ∈ lw_gt := List.mem_filter.mpr ⟨List.mem_of_getElem? (i := 130) rfl, rfl⟩
set_option maxRecDepth 20000 in
theorem ta_w25 : Cond.code (ta_nm 25) (ta_bs 25) 3 (some .int) ∈ lw_gt := List.mem_filter.mpr ⟨List.mem_of_getElem? (i := 83) rfl, rfl⟩
set_option maxRecDepth 20000 in
theorem ta_w26 : Cond.code (ta_nm 26) (ta_bs 26) 4 (none) ∈ lw_gt := List.mem_filter.mpr ⟨List.mem_of_getElem? (i := 286) rfl, rfl⟩
set_option maxRecDepth 20000 in
theorem ta_w27 : Cond.code (ta_nm 27) (ta_bs 27) 3 (some .boolean) ∈ lw_gt := List.mem_filter.mpr ⟨List.mem_of_getElem? (i := 148) rfl, rfl⟩
set_option maxRecDepth 20000 in
theorem ta_w28 : Cond.code (ta_nm 28) (ta_bs 28) 4 (some .boolean) ∈ lw_gt := List.mem_filter.mpr ⟨List.mem_of_getElem? (i := 324) rfl, rfl⟩
set_option maxRecDepth 20000 in
theorem ta_w29 : Cond.code (ta_nm 29) (ta_bs 29) 5 (some .boolean) ∈ lw_gt := List.mem_filter.mpr ⟨List.mem_of_getElem? (i := 282) rfl, rfl⟩
set_option maxRecDepth 20000 in
theorem ta_w30 : Cond.code (ta_nm 30) (ta_bs 30) 6 (some .int) ∈ lw_gt := List.mem_filter.mpr ⟨List.mem_of_getElem? (i := 134) rfl, rfl⟩
set_option maxRecDepth 20000 in
theorem ta_w31 : Cond.code (ta_nm 31) (ta_bs 31) 3 (some .int) ∈ lw_gt := List.mem_filter.mpr ⟨List.mem_of_getElem? (i := 328) rfl, rfl⟩
set_option maxRecDepth 20000 in
theorem ta_w32 : Cond.code (ta_nm 32) (ta_bs 32) 5 (some .boolean) ∈ lw_gt := List.mem_filter.mpr ⟨List.mem_of_getElem? (i := 243) rfl, rfl⟩
set_option maxRecDepth 20000 in
theorem ta_w33 : Cond.code (ta_nm 33) (ta_bs 33) 4 (some .boolean) ∈ lw_gt := List.mem_filter.mpr ⟨List.mem_of_getElem? (i := 278) rfl, rfl⟩
set_option maxRecDepth 20000 in
theorem ta_w34 : Cond.code (ta_nm 34) (ta_bs 34) 5 (some .int) ∈ lw_gt := List.mem_filter.mpr ⟨List.mem_of_getElem? (i := 274) rfl, rfl⟩
set_option maxRecDepth 20000 in
theorem ta_w35 : Cond.code (ta_nm 35) (ta_bs 35) 2 (some .int) ∈ lw_gt := List.mem_filter.mpr ⟨List.mem_of_getElem? (i := 103) rfl, rfl⟩
set_option maxRecDepth 20000 in
theorem ta_w36 : Cond.code (ta_nm 36) (ta_bs 36) 4 (some .int) ∈ lw_gt := List.mem_filter.mpr ⟨List.mem_of_getElem? (i := 99) rfl, rfl⟩
set_option maxRecDepth 20000 in
theorem ta_w37 : Cond.code (ta_nm 37) (ta_bs 37) 5 (none) ∈ lw_gt := List.mem_filter.mpr ⟨List.mem_of_getElem? (i := 290) rfl, rfl⟩
set_option maxRecDepth 20000 in
theorem ta_w38 : Cond.code (ta_nm 38) (ta_bs 38) 3 (none) ∈ lw_gt := List.mem_filter.mpr ⟨List.mem_of_getElem? (i := 313) rfl, rfl⟩
set_option maxRecDepth 20000 in
theorem ta_w39 : Cond.code (ta_nm 39) (ta_bs 39) 5 (some .int) ∈ lw_gt := List.mem_filter.mpr ⟨List.mem_of_getElem? (i := 294) rfl, rfl⟩
set_option maxRecDepth 20000 in
theorem ta_w40 : Cond.code (ta_nm 40) (ta_bs 40) 5 (none) ∈ lw_gt := List.mem_filter.mpr ⟨List.mem_of_getElem? (i := 298) rfl, rfl⟩
set_option maxRecDepth 20000 in
theorem ta_w41 : Cond.code (ta_nm 41) (ta_bs 41) 4 (some .int) ∈ lw_gt := List.mem_filter.mpr ⟨List.mem_of_getElem? (i := 332) rfl, rfl⟩
set_option maxRecDepth 20000 in
theorem ta_w42 : Cond.code (ta_nm 42) (ta_bs 42) 5 (some .int) ∈ lw_gt := List.mem_filter.mpr ⟨List.mem_of_getElem? (i := 111) rfl, rfl⟩
set_option maxRecDepth 20000 in
theorem ta_w43 : Cond.code (ta_nm 43) (ta_bs 43) 4 (some .boolean) ∈ lw_gt := List.mem_filter.mpr ⟨List.mem_of_getElem? (i := 115) rfl, rfl⟩
set_option maxRecDepth 20000 in
theorem ta_w44 : Cond.code (ta_nm 44) (ta_bs 44) 4 (some .boolean) ∈ lw_gt := List.mem_filter.mpr ⟨List.mem_of_getElem? (i := 302) rfl, rfl⟩
set_option maxRecDepth 20000 in
theorem ta_w45 : Cond.code (ta_nm 45) (ta_bs 45) 4 (some .int) ∈ lw_gt := List.mem_filter.mpr ⟨List.mem_of_getElem? (i := 306) rfl, rfl⟩
set_option maxRecDepth 20000 in
theorem ta_w46 : Cond.code (ta_nm 46) (ta_bs 46) 2 (some .boolean) ∈ lw_gt := List.mem_filter.mpr ⟨List.mem_of_getElem? (i := 309) rfl, rfl⟩
set_option maxRecDepth 20000 in
theorem ta_w47 : Cond.code (ta_nm 47) (ta_bs 47) 5 (some .int) ∈ lw_gt := List.mem_filter.mpr ⟨List.mem_of_getElem? (i := 346) rfl, rfl⟩
set_option maxRecDepth 20000 in
theorem ta_w48 : Cond.code (ta_nm 48) (ta_bs 48) 4 (some .boolean) ∈ lw_gt := List.mem_filter.mpr ⟨List.mem_of_getElem? (i := 353) rfl, rfl⟩
set_option maxRecDepth 20000 in
theorem ta_w49 : Cond.code (ta_nm 49) (ta_bs 49) 5 (some .int) ∈ lw_gt := List.mem_filter.mpr ⟨List.mem_of_getElem? (i := 357) rfl, rfl⟩
def ta_wl : List Cond := [.initialized "TieredLocks", .laysFinal "TieredLocks" "TieredLocks" "modes" "[I", .laysFinal "TieredLocks" "TieredLocks" "situations" "[I", .laysFinal "TieredLocks" "TieredLocks" "wishes" "[I", .laysFinal "TieredLocks" "TieredLocks" "places" "[I", .fieldLink "TieredLocks" 9 "TieredLocks" "modes" "[I", .fieldLink "TieredLocks" 13 "TieredLocks" "situations" "[I", .fieldLink "TieredLocks" 16 "TieredLocks" "wishes" "[I", .fieldLink "TieredLocks" 19 "TieredLocks" "places" "[I", .fieldLink "TieredLocks" 119 "TieredLocks" "TOGETHER" "[I", .methodLink "TieredLocks" 22 (ta_nm 13), .methodLink "TieredLocks" 26 (ta_nm 14), .methodLink "TieredLocks" 29 (ta_nm 23), .methodLink "TieredLocks" 39 (ta_nm 32), .methodLink "TieredLocks" 46 (ta_nm 34), .methodLink "TieredLocks" 50 (ta_nm 27), .methodLink "TieredLocks" 53 (ta_nm 28), .methodLink "TieredLocks" 56 (ta_nm 31), .methodLink "TieredLocks" 60 (ta_nm 16), .methodLink "TieredLocks" 63 (ta_nm 47), .methodLink "TieredLocks" 66 (ta_nm 48), .methodLink "TieredLocks" 69 (ta_nm 25), .methodLink "TieredLocks" 72 (ta_nm 20), .methodLink "TieredLocks" 75 (ta_nm 29), .methodLink "TieredLocks" 78 (ta_nm 26), .methodLink "TieredLocks" 82 (ta_nm 49), .methodLink "TieredLocks" 85 (ta_nm 41), .methodLink "TieredLocks" 89 (ta_nm 35), .methodLink "TieredLocks" 92 (ta_nm 38), .methodLink "TieredLocks" 96 (ta_nm 36), .methodLink "TieredLocks" 99 (ta_nm 42), .methodLink "TieredLocks" 102 (ta_nm 15), .methodLink "TieredLocks" 105 (ta_nm 24), .methodLink "TieredLocks" 108 (ta_nm 30), .methodLink "TieredLocks" 111 Lib.Math.max.name, .methodLink "TieredLocks" 116 (ta_nm 17), .methodLink "TieredLocks" 122 Lib.Math.min.name, .methodLink "TieredLocks" 125 (ta_nm 19), .methodLink "TieredLocks" 128 (ta_nm 22), .methodLink "TieredLocks" 131 (ta_nm 21), .methodLink "TieredLocks" 134 (ta_nm 33), .methodLink "TieredLocks" 137 (ta_nm 37), .methodLink "TieredLocks" 140 (ta_nm 44), .methodLink "TieredLocks" 143 (ta_nm 39), .methodLink "TieredLocks" 146 (ta_nm 40), .methodLink "TieredLocks" 149 (ta_nm 43), .methodLink "TieredLocks" 152 (ta_nm 45), .methodLink "TieredLocks" 155 (ta_nm 46), .methodLink "TieredLocks" 158 (ta_nm 18), .static (ta_nm 13), .static (ta_nm 14), .static (ta_nm 15), .static (ta_nm 16), .static (ta_nm 17), .static (ta_nm 18), .static (ta_nm 19), .static (ta_nm 20), .static (ta_nm 21), .static (ta_nm 22), .static (ta_nm 23), .static (ta_nm 24), .instanceMethod (ta_nm 25), .instanceMethod (ta_nm 26), .instanceMethod (ta_nm 27), .instanceMethod (ta_nm 28), .instanceMethod (ta_nm 29), .instanceMethod (ta_nm 30), .instanceMethod (ta_nm 31), .instanceMethod (ta_nm 32), .instanceMethod (ta_nm 33), .instanceMethod (ta_nm 34), .instanceMethod (ta_nm 35), .instanceMethod (ta_nm 36), .instanceMethod (ta_nm 37), .instanceMethod (ta_nm 38), .instanceMethod (ta_nm 39), .instanceMethod (ta_nm 40), .instanceMethod (ta_nm 41), .instanceMethod (ta_nm 42), .instanceMethod (ta_nm 43), .instanceMethod (ta_nm 44), .instanceMethod (ta_nm 45), .static (ta_nm 46), .instanceMethod (ta_nm 47), .instanceMethod (ta_nm 48), .instanceMethod (ta_nm 49), .selects "TieredLocks" (ta_nm 25) (ta_nm 25), .selects "TieredLocks" (ta_nm 26) (ta_nm 26), .selects "TieredLocks" (ta_nm 27) (ta_nm 27), .selects "TieredLocks" (ta_nm 28) (ta_nm 28), .selects "TieredLocks" (ta_nm 29) (ta_nm 29), .selects "TieredLocks" (ta_nm 30) (ta_nm 30), .selects "TieredLocks" (ta_nm 31) (ta_nm 31), .selects "TieredLocks" (ta_nm 32) (ta_nm 32), .selects "TieredLocks" (ta_nm 33) (ta_nm 33), .selects "TieredLocks" (ta_nm 34) (ta_nm 34), .selects "TieredLocks" (ta_nm 35) (ta_nm 35), .selects "TieredLocks" (ta_nm 36) (ta_nm 36), .selects "TieredLocks" (ta_nm 37) (ta_nm 37), .selects "TieredLocks" (ta_nm 38) (ta_nm 38), .selects "TieredLocks" (ta_nm 39) (ta_nm 39), .selects "TieredLocks" (ta_nm 40) (ta_nm 40), .selects "TieredLocks" (ta_nm 41) (ta_nm 41), .selects "TieredLocks" (ta_nm 42) (ta_nm 42), .selects "TieredLocks" (ta_nm 43) (ta_nm 43), .selects "TieredLocks" (ta_nm 44) (ta_nm 44), .selects "TieredLocks" (ta_nm 45) (ta_nm 45), .selects "TieredLocks" (ta_nm 47) (ta_nm 47), .selects "TieredLocks" (ta_nm 48) (ta_nm 48), .selects "TieredLocks" (ta_nm 49) (ta_nm 49), .static Lib.Math.max.name, .static Lib.Math.min.name, .initialized "java/lang/Math"]
theorem ta_wl_ok : ta_wl = [35, 56, 58, 60, 62, 52, 53, 54, 55, 119, 74, 77, 159, 240, 271, 145, 321, 325, 340, 343, 350, 80, 250, 279, 283, 354, 329, 100, 310, 96, 108, 125, 128, 131, 138, 135, 253, 116, 244, 247, 275, 287, 299, 291, 295, 112, 303, 307, 347, 75, 78, 126, 341, 136, 348, 117, 251, 248, 245, 160, 129, 82, 285, 147, 323, 281, 133, 327, 242, 277, 273, 102, 98, 289, 312, 293, 297, 331, 110, 114, 301, 305, 308, 345, 352, 356, 0, 12, 6, 19, 11, 5, 20, 8, 10, 9, 2, 1, 13, 18, 14, 15, 21, 3, 4, 16, 17, 22, 23, 24, 139, 254, 42].filterMap (fun i => lw_tbl[i]?) := by decide +kernel
theorem ta_wl_g : ta_wl.all goodWord = true := by decide +kernel
theorem ta_wl_in : ∀ w ∈ ta_wl, w ∈ lw_gt := by
  intro w hw
  have h1 := List.all_eq_true.mp ta_wl_g w hw
  rw [ta_wl_ok] at hw
  obtain ⟨i, -, hi⟩ := List.mem_filterMap.mp hw
  exact List.mem_filter.mpr ⟨List.mem_of_getElem? hi, h1⟩
def tb_R : String := "TieredLocksModel"
def tb_T : u_T := fun k => match k with
  | 0 => ("TieredLocksModel", "held", "[I", true)
  | 1 => ("TieredLocksModel", "state", "[I", true)
  | 2 => ("TieredLocksModel", "wanted", "[I", true)
  | 3 => ("TieredLocksModel", "queue", "[I", true)
  | 4 => ("TieredLocksModel", "length", "[I", true)
  | _ => ("TieredLocksModel", "thrown", "I", false)
def tb_ty : Nat → FieldType := fun k => match k with
  | 0 => .array .int
  | 1 => .array .int
  | 2 => .array .int
  | 3 => .array .int
  | 4 => .array .int
  | _ => .int
/-- <init>()V -/
def tb_c0 : List (Nat × Instr) := []
/-- thrown()I -/
def tb_c1 : List (Nat × Instr) := [(0, .aload_n 0), (1, .getfield 25), (4, .ireturn)]
/-- refuse(I)I -/
def tb_c2 : List (Nat × Instr) := [(0, .aload_n 0), (1, .iload_n 1), (2, .putfield 25), (5, .iconst 0), (6, .ireturn)]
/-- parentOf(I)I -/
def tb_c3 : List (Nat × Instr) := [(0, .iload_n 0), (1, .bipush 9), (3, .if_icmp .le (14)), (6, .iconst 4), (7, .iload_n 0), (8, .bipush 10), (10, .isub), (11, .iconst 4), (12, .idiv), (13, .iadd), (14, .goto (27)), (17, .iload_n 0), (18, .iconst 3), (19, .if_icmp .le (13)), (22, .iconst 1), (23, .iload_n 0), (24, .iconst 4), (25, .isub), (26, .iconst 2), (27, .idiv), (28, .iadd), (29, .goto (12)), (32, .iload_n 0), (33, .ifCond .le (7)), (36, .iconst 0), (37, .goto (4)), (40, .iconst (-1)), (41, .ireturn)]
/-- isBelow(II)Z -/
def tb_c4 : List (Nat × Instr) := [(0, .iload_n 0), (1, .invokestatic 29), (4, .istore_n 2), (5, .iload_n 2), (6, .ifCond .lt (16)), (9, .iload_n 2), (10, .iload_n 1), (11, .if_icmp .eq (11)), (14, .iload_n 2), (15, .invokestatic 29), (18, .istore_n 2), (19, .goto (-14)), (22, .iload_n 2), (23, .iload_n 1), (24, .if_icmp .ne (7)), (27, .iconst 1), (28, .goto (4)), (31, .iconst 0), (32, .ireturn)]
/-- goTogether(II)Z -/
def tb_c5 : List (Nat × Instr) := [(0, .iload_n 0), (1, .iload_n 1), (2, .if_icmp .ge (7)), (5, .iload_n 0), (6, .goto (4)), (9, .iload_n 1), (10, .istore_n 2), (11, .iload_n 0), (12, .iload_n 1), (13, .if_icmp .ge (7)), (16, .iload_n 1), (17, .goto (4)), (20, .iload_n 0), (21, .istore_n 3), (22, .iload_n 2), (23, .ifCond .eq (28)), (26, .iload_n 2), (27, .iconst 1), (28, .if_icmp .ne (8)), (31, .iload_n 3), (32, .iconst 5), (33, .if_icmp .lt (18)), (36, .iload_n 2), (37, .iload_n 3), (38, .if_icmp .ne (17)), (41, .iload_n 2), (42, .iconst 2), (43, .if_icmp .eq (8)), (46, .iload_n 2), (47, .iconst 3), (48, .if_icmp .ne (7)), (51, .iconst 1), (52, .goto (4)), (55, .iconst 0), (56, .ireturn)]
/-- join(II)I -/
def tb_c6 : List (Nat × Instr) := [(0, .iload_n 0), (1, .iload_n 1), (2, .if_icmp .ge (7)), (5, .iload_n 0), (6, .goto (4)), (9, .iload_n 1), (10, .istore_n 2), (11, .iload_n 0), (12, .iload_n 1), (13, .if_icmp .ge (7)), (16, .iload_n 1), (17, .goto (4)), (20, .iload_n 0), (21, .istore_n 3), (22, .iload_n 2), (23, .iconst 2), (24, .if_icmp .ne (12)), (27, .iload_n 3), (28, .iconst 3), (29, .if_icmp .ne (7)), (32, .iconst 4), (33, .goto (4)), (36, .iload_n 3), (37, .ireturn)]
/-- covers(II)Z -/
def tb_c7 : List (Nat × Instr) := [(0, .iload_n 0), (1, .iload_n 1), (2, .invokestatic 33), (5, .iload_n 0), (6, .if_icmp .ne (7)), (9, .iconst 1), (10, .goto (4)), (13, .iconst 0), (14, .ireturn)]
/-- isTransaction(I)Z -/
def tb_c8 : List (Nat × Instr) := [(0, .iload_n 0), (1, .ifCond .lt (13)), (4, .iload_n 0), (5, .bipush 8), (7, .if_icmp .ge (7)), (10, .iconst 1), (11, .goto (4)), (14, .iconst 0), (15, .ireturn)]
/-- isResource(I)Z -/
def tb_c9 : List (Nat × Instr) := [(0, .iload_n 0), (1, .ifCond .lt (13)), (4, .iload_n 0), (5, .bipush 34), (7, .if_icmp .ge (7)), (10, .iconst 1), (11, .goto (4)), (14, .iconst 0), (15, .ireturn)]
/-- fits(III)Z -/
def tb_c10 : List (Nat × Instr) := [(0, .iconst 1), (1, .istore 4), (3, .iconst 0), (4, .istore 5), (6, .iload 5), (8, .bipush 8), (10, .if_icmp .ge (46)), (13, .iload 4), (15, .ifCond .eq (32)), (18, .iload 5), (20, .iload_n 1), (21, .if_icmp .eq (22)), (24, .iload_n 3), (25, .aload_n 0), (26, .getfield 7), (29, .bipush 34), (31, .iload 5), (33, .imul), (34, .iload_n 2), (35, .iadd), (36, .iaload), (37, .invokestatic 37), (40, .ifCond .eq (7)), (43, .iconst 1), (44, .goto (4)), (47, .iconst 0), (48, .istore 4), (50, .iinc 5 (1)), (53, .goto (-47)), (56, .iload 4), (58, .ireturn)]
/-- leave(II)V -/
def tb_c11 : List (Nat × Instr) := [(0, .aload_n 0), (1, .getfield 22), (4, .iload_n 1), (5, .dup2), (6, .iaload), (7, .iconst 1), (8, .isub), (9, .iastore), (10, .iload_n 2), (11, .istore_n 3), (12, .iload_n 3), (13, .aload_n 0), (14, .getfield 22), (17, .iload_n 1), (18, .iaload), (19, .if_icmp .ge (33)), (22, .aload_n 0), (23, .getfield 19), (26, .bipush 8), (28, .iload_n 1), (29, .imul), (30, .iload_n 3), (31, .iadd), (32, .aload_n 0), (33, .getfield 19), (36, .bipush 8), (38, .iload_n 1), (39, .imul), (40, .iload_n 3), (41, .iadd), (42, .iconst 1), (43, .iadd), (44, .iaload), (45, .iastore), (46, .iinc 3 (1)), (49, .goto (-37)), (52, .return_)]
/-- serve(I)I -/
def tb_c12 : List (Nat × Instr) := [(0, .iconst 0), (1, .istore_n 2), (2, .aload_n 0), (3, .getfield 22), (6, .iload_n 1), (7, .iaload), (8, .ifCond .le (87)), (11, .aload_n 0), (12, .aload_n 0), (13, .getfield 19), (16, .bipush 8), (18, .iload_n 1), (19, .imul), (20, .iaload), (21, .iload_n 1), (22, .aload_n 0), (23, .getfield 16), (26, .aload_n 0), (27, .getfield 19), (30, .bipush 8), (32, .iload_n 1), (33, .imul), (34, .iaload), (35, .iaload), (36, .invokevirtual 41), (39, .ifCond .eq (56)), (42, .aload_n 0), (43, .getfield 19), (46, .bipush 8), (48, .iload_n 1), (49, .imul), (50, .iaload), (51, .istore_n 3), (52, .aload_n 0), (53, .getfield 7), (56, .bipush 34), (58, .iload_n 3), (59, .imul), (60, .iload_n 1), (61, .iadd), (62, .aload_n 0), (63, .getfield 16), (66, .iload_n 3), (67, .iaload), (68, .iastore), (69, .aload_n 0), (70, .getfield 16), (73, .iload_n 3), (74, .iconst 0), (75, .iastore), (76, .aload_n 0), (77, .getfield 13), (80, .iload_n 3), (81, .iconst 1), (82, .iastore), (83, .aload_n 0), (84, .iload_n 1), (85, .iconst 0), (86, .invokevirtual 45), (89, .iinc 2 (1)), (92, .goto (-90)), (95, .iload_n 2), (96, .ireturn)]
/-- placeOf(II)I -/
def tb_c13 : List (Nat × Instr) := [(0, .iconst 0), (1, .istore_n 3), (2, .iload_n 3), (3, .aload_n 0), (4, .getfield 22), (7, .iload_n 2), (8, .iaload), (9, .if_icmp .ge (24)), (12, .aload_n 0), (13, .getfield 19), (16, .bipush 8), (18, .iload_n 2), (19, .imul), (20, .iload_n 3), (21, .iadd), (22, .iaload), (23, .iload_n 1), (24, .if_icmp .eq (9)), (27, .iinc 3 (1)), (30, .goto (-28)), (33, .iload_n 3), (34, .ireturn)]
/-- waits(I)I -/
def tb_c14 : List (Nat × Instr) := [(0, .aload_n 0), (1, .getfield 13), (4, .iload_n 1), (5, .iaload), (6, .iconst 2), (7, .if_icmp .ge (5)), (10, .iconst 0), (11, .ireturn), (12, .aload_n 0), (13, .getfield 13), (16, .iload_n 1), (17, .iaload), (18, .iconst 2), (19, .isub), (20, .istore_n 2), (21, .iconst 0), (22, .istore_n 3), (23, .iconst 0), (24, .istore 4), (26, .iload 4), (28, .bipush 8), (30, .if_icmp .ge (50)), (33, .iload 4), (35, .iload_n 1), (36, .if_icmp .eq (36)), (39, .aload_n 0), (40, .getfield 16), (43, .iload_n 1), (44, .iaload), (45, .aload_n 0), (46, .getfield 7), (49, .bipush 34), (51, .iload 4), (53, .imul), (54, .iload_n 2), (55, .iadd), (56, .iaload), (57, .invokestatic 37), (60, .ifCond .ne (12)), (63, .iload_n 3), (64, .iconst 1), (65, .iload 4), (67, .ishl), (68, .ior), (69, .goto (4)), (72, .iload_n 3), (73, .istore_n 3), (74, .iinc 4 (1)), (77, .goto (-51)), (80, .iconst 0), (81, .istore 4), (83, .iload 4), (85, .aload_n 0), (86, .iload_n 1), (87, .iload_n 2), (88, .invokevirtual 49), (91, .if_icmp .ge (26)), (94, .iload_n 3), (95, .iconst 1), (96, .aload_n 0), (97, .getfield 19), (100, .bipush 8), (102, .iload_n 2), (103, .imul), (104, .iload 4), (106, .iadd), (107, .iaload), (108, .ishl), (109, .ior), (110, .istore_n 3), (111, .iinc 4 (1)), (114, .goto (-31)), (117, .iload_n 3), (118, .ireturn)]
/-- isRound(I)Z -/
def tb_c15 : List (Nat × Instr) := [(0, .aload_n 0), (1, .iload_n 1), (2, .invokevirtual 52), (5, .istore_n 2), (6, .iconst 0), (7, .istore_n 3), (8, .iload_n 3), (9, .bipush 8), (11, .if_icmp .ge (48)), (14, .iconst 0), (15, .istore 4), (17, .iload 4), (19, .bipush 8), (21, .if_icmp .ge (32)), (24, .iload_n 2), (25, .iload 4), (27, .ishr), (28, .iconst 1), (29, .iand), (30, .iconst 1), (31, .if_icmp .ne (14)), (34, .iload_n 2), (35, .aload_n 0), (36, .iload 4), (38, .invokevirtual 52), (41, .ior), (42, .goto (4)), (45, .iload_n 2), (46, .istore_n 2), (47, .iinc 4 (1)), (50, .goto (-33)), (53, .iinc 3 (1)), (56, .goto (-48)), (59, .iload_n 2), (60, .iload_n 1), (61, .ishr), (62, .iconst 1), (63, .iand), (64, .iconst 1), (65, .if_icmp .ne (7)), (68, .iconst 1), (69, .goto (4)), (72, .iconst 0), (73, .ireturn)]
/-- begin()I -/
def tb_c16 : List (Nat × Instr) := [(0, .aload_n 0), (1, .iconst 0), (2, .putfield 25), (5, .iconst 0), (6, .istore_n 1), (7, .iload_n 1), (8, .bipush 8), (10, .if_icmp .ge (27)), (13, .aload_n 0), (14, .getfield 13), (17, .iload_n 1), (18, .iaload), (19, .ifCond .ne (12)), (22, .aload_n 0), (23, .getfield 13), (26, .iload_n 1), (27, .iconst 1), (28, .iastore), (29, .iload_n 1), (30, .ireturn), (31, .iinc 1 (1)), (34, .goto (-27)), (37, .iconst (-1)), (38, .ireturn)]
/-- isCovered(III)Z -/
def tb_c17 : List (Nat × Instr) := [(0, .iconst 0), (1, .istore 4), (3, .iload_n 2), (4, .invokestatic 29), (7, .istore 5), (9, .iload 5), (11, .ifCond .lt (67)), (14, .aload_n 0), (15, .getfield 7), (18, .bipush 34), (20, .iload_n 1), (21, .imul), (22, .iload 5), (24, .iadd), (25, .iaload), (26, .istore 6), (28, .iload 4), (30, .ifCond .ne (31)), (33, .iload 6), (35, .iconst 5), (36, .if_icmp .eq (25)), (39, .iload 6), (41, .iconst 3), (42, .if_icmp .eq (9)), (45, .iload 6), (47, .iconst 4), (48, .if_icmp .ne (17)), (51, .iload_n 3), (52, .iconst 1), (53, .if_icmp .eq (8)), (56, .iload_n 3), (57, .iconst 3), (58, .if_icmp .ne (7)), (61, .iconst 1), (62, .goto (4)), (65, .iconst 0), (66, .istore 4), (68, .iload 5), (70, .invokestatic 29), (73, .istore 5), (75, .goto (-66)), (78, .iload 4), (80, .ireturn)]
/-- ask(III)I -/
def tb_c18 : List (Nat × Instr) := [(0, .aload_n 0), (1, .getfield 7), (4, .bipush 34), (6, .iload_n 1), (7, .imul), (8, .iload_n 2), (9, .iadd), (10, .iaload), (11, .istore 4), (13, .aload_n 0), (14, .iload_n 1), (15, .iload_n 2), (16, .iload_n 3), (17, .invokevirtual 41), (20, .ifCond .eq (31)), (23, .iload 4), (25, .ifCond .gt (12)), (28, .aload_n 0), (29, .getfield 22), (32, .iload_n 2), (33, .iaload), (34, .ifCond .ne (17)), (37, .aload_n 0), (38, .getfield 7), (41, .bipush 34), (43, .iload_n 1), (44, .imul), (45, .iload_n 2), (46, .iadd), (47, .iload_n 3), (48, .iastore), (49, .iconst 1), (50, .ireturn), (51, .aload_n 0), (52, .getfield 22), (55, .iload_n 2), (56, .iaload), (57, .istore 5), (59, .iload 4), (61, .ifCond .le (41)), (64, .iload 5), (66, .ifCond .le (36)), (69, .aload_n 0), (70, .getfield 7), (73, .bipush 34), (75, .aload_n 0), (76, .getfield 19), (79, .bipush 8), (81, .iload_n 2), (82, .imul), (83, .iload 5), (85, .iadd), (86, .iconst 1), (87, .isub), (88, .iaload), (89, .imul), (90, .iload_n 2), (91, .iadd), (92, .iaload), (93, .ifCond .ne (9)), (96, .iinc 5 (-1)), (99, .goto (-40)), (102, .aload_n 0), (103, .getfield 22), (106, .iload_n 2), (107, .iaload), (108, .istore 6), (110, .iload 6), (112, .iload 5), (114, .if_icmp .le (35)), (117, .aload_n 0), (118, .getfield 19), (121, .bipush 8), (123, .iload_n 2), (124, .imul), (125, .iload 6), (127, .iadd), (128, .aload_n 0), (129, .getfield 19), (132, .bipush 8), (134, .iload_n 2), (135, .imul), (136, .iload 6), (138, .iadd), (139, .iconst 1), (140, .isub), (141, .iaload), (142, .iastore), (143, .iinc 6 (-1)), (146, .goto (-36)), (149, .aload_n 0), (150, .getfield 19), (153, .bipush 8), (155, .iload_n 2), (156, .imul), (157, .iload 5), (159, .iadd), (160, .iload_n 1), (161, .iastore), (162, .aload_n 0), (163, .getfield 22), (166, .iload_n 2), (167, .dup2), (168, .iaload), (169, .iconst 1), (170, .iadd), (171, .iastore), (172, .aload_n 0), (173, .getfield 13), (176, .iload_n 1), (177, .iconst 2), (178, .iload_n 2), (179, .iadd), (180, .iastore), (181, .aload_n 0), (182, .getfield 16), (185, .iload_n 1), (186, .iload_n 3), (187, .iastore), (188, .aload_n 0), (189, .iload_n 1), (190, .invokevirtual 55), (193, .ifCond .ne (5)), (196, .iconst 0), (197, .ireturn), (198, .aload_n 0), (199, .iload_n 2), (200, .iload 5), (202, .invokevirtual 45), (205, .aload_n 0), (206, .getfield 13), (209, .iload_n 1), (210, .iconst 1), (211, .iastore), (212, .aload_n 0), (213, .getfield 16), (216, .iload_n 1), (217, .iconst 0), (218, .iastore), (219, .iconst 4), (220, .ireturn)]
/-- lock(III)I -/
def tb_c19 : List (Nat × Instr) := [(0, .aload_n 0), (1, .iconst 0), (2, .putfield 25), (5, .iload_n 1), (6, .invokestatic 59), (9, .ifCond .eq (36)), (12, .iload_n 2), (13, .invokestatic 62), (16, .ifCond .eq (29)), (19, .iload_n 3), (20, .iconst 1), (21, .if_icmp .lt (24)), (24, .iload_n 3), (25, .iconst 5), (26, .if_icmp .gt (19)), (29, .iload_n 2), (30, .bipush 9), (32, .if_icmp .le (19)), (35, .iload_n 3), (36, .iconst 3), (37, .if_icmp .eq (14)), (40, .iload_n 3), (41, .iconst 5), (42, .if_icmp .eq (9)), (45, .aload_n 0), (46, .iconst 1), (47, .invokevirtual 65), (50, .ireturn), (51, .aload_n 0), (52, .getfield 13), (55, .iload_n 1), (56, .iaload), (57, .iconst 1), (58, .if_icmp .eq (9)), (61, .aload_n 0), (62, .iconst 2), (63, .invokevirtual 65), (66, .ireturn), (67, .iload_n 2), (68, .ifCond .le (44)), (71, .aload_n 0), (72, .getfield 7), (75, .bipush 34), (77, .iload_n 1), (78, .imul), (79, .iload_n 2), (80, .invokestatic 29), (83, .iadd), (84, .iaload), (85, .iload_n 3), (86, .iconst 1), (87, .if_icmp .eq (8)), (90, .iload_n 3), (91, .iconst 3), (92, .if_icmp .ne (7)), (95, .iconst 1), (96, .goto (4)), (99, .iconst 2), (100, .invokestatic 68), (103, .ifCond .ne (9)), (106, .aload_n 0), (107, .iconst 3), (108, .invokevirtual 65), (111, .ireturn), (112, .aload_n 0), (113, .iload_n 1), (114, .iload_n 2), (115, .iload_n 3), (116, .invokevirtual 71), (119, .ifCond .eq (5)), (122, .iconst 2), (123, .ireturn), (124, .aload_n 0), (125, .getfield 7), (128, .bipush 34), (130, .iload_n 1), (131, .imul), (132, .iload_n 2), (133, .iadd), (134, .iaload), (135, .istore 4), (137, .iload 4), (139, .iload_n 3), (140, .invokestatic 68), (143, .ifCond .eq (7)), (146, .iconst 3), (147, .goto (15)), (150, .aload_n 0), (151, .iload_n 1), (152, .iload_n 2), (153, .iload 4), (155, .iload_n 3), (156, .invokestatic 33), (159, .invokevirtual 74), (162, .ireturn)]
/-- unlock(II)V -/
def tb_c20 : List (Nat × Instr) := [(0, .aload_n 0), (1, .iconst 0), (2, .putfield 25), (5, .iload_n 1), (6, .invokestatic 59), (9, .ifCond .eq (10)), (12, .iload_n 2), (13, .invokestatic 62), (16, .ifCond .ne (9)), (19, .aload_n 0), (20, .iconst 1), (21, .putfield 25), (24, .return_), (25, .aload_n 0), (26, .getfield 13), (29, .iload_n 1), (30, .iaload), (31, .iconst 1), (32, .if_icmp .ne (17)), (35, .aload_n 0), (36, .getfield 7), (39, .bipush 34), (41, .iload_n 1), (42, .imul), (43, .iload_n 2), (44, .iadd), (45, .iaload), (46, .ifCond .ne (9)), (49, .aload_n 0), (50, .iconst 2), (51, .putfield 25), (54, .return_), (55, .iconst 0), (56, .istore_n 3), (57, .iload_n 3), (58, .bipush 34), (60, .if_icmp .ge (37)), (63, .iload_n 3), (64, .invokestatic 29), (67, .iload_n 2), (68, .if_icmp .ne (23)), (71, .aload_n 0), (72, .getfield 7), (75, .bipush 34), (77, .iload_n 1), (78, .imul), (79, .iload_n 3), (80, .iadd), (81, .iaload), (82, .ifCond .le (9)), (85, .aload_n 0), (86, .iconst 3), (87, .putfield 25), (90, .return_), (91, .iinc 3 (1)), (94, .goto (-37)), (97, .aload_n 0), (98, .getfield 7), (101, .bipush 34), (103, .iload_n 1), (104, .imul), (105, .iload_n 2), (106, .iadd), (107, .iconst 0), (108, .iastore), (109, .aload_n 0), (110, .iload_n 2), (111, .invokevirtual 78), (114, .istore_n 3), (115, .return_)]
/-- escalate(II)I -/
def tb_c21 : List (Nat × Instr) := [(0, .aload_n 0), (1, .iconst 0), (2, .putfield 25), (5, .iload_n 1), (6, .invokestatic 59), (9, .ifCond .eq (14)), (12, .iload_n 2), (13, .iconst 1), (14, .if_icmp .lt (9)), (17, .iload_n 2), (18, .bipush 9), (20, .if_icmp .le (9)), (23, .aload_n 0), (24, .iconst 1), (25, .invokevirtual 65), (28, .ireturn), (29, .aload_n 0), (30, .getfield 13), (33, .iload_n 1), (34, .iaload), (35, .iconst 1), (36, .if_icmp .eq (9)), (39, .aload_n 0), (40, .iconst 2), (41, .invokevirtual 65), (44, .ireturn), (45, .aload_n 0), (46, .getfield 7), (49, .bipush 34), (51, .iload_n 1), (52, .imul), (53, .iload_n 2), (54, .iadd), (55, .iaload), (56, .istore_n 3), (57, .iload_n 3), (58, .iconst 2), (59, .if_icmp .eq (13)), (62, .iload_n 3), (63, .iconst 4), (64, .if_icmp .eq (8)), (67, .iload_n 3), (68, .iconst 5), (69, .if_icmp .ne (7)), (72, .iconst 1), (73, .goto (4)), (76, .iconst 0), (77, .istore 4), (79, .iconst 0), (80, .istore 5), (82, .iconst 0), (83, .istore 6), (85, .iload 6), (87, .bipush 34), (89, .if_icmp .ge (82)), (92, .iload 6), (94, .iload_n 2), (95, .invokestatic 81), (98, .ifCond .eq (18)), (101, .aload_n 0), (102, .getfield 7), (105, .bipush 34), (107, .iload_n 1), (108, .imul), (109, .iload 6), (111, .iadd), (112, .iaload), (113, .goto (4)), (116, .iconst 0), (117, .istore 7), (119, .iload 7), (121, .ifCond .le (10)), (124, .iload 5), (126, .iconst 1), (127, .iadd), (128, .goto (5)), (131, .iload 5), (133, .istore 5), (135, .iload 4), (137, .ifCond .ne (21)), (140, .iload 7), (142, .iconst 2), (143, .if_icmp .eq (15)), (146, .iload 7), (148, .iconst 4), (149, .if_icmp .eq (9)), (152, .iload 7), (154, .iconst 5), (155, .if_icmp .ne (7)), (158, .iconst 1), (159, .goto (4)), (162, .iconst 0), (163, .istore 4), (165, .iinc 6 (1)), (168, .goto (-83)), (171, .iload_n 3), (172, .iload 4), (174, .ifCond .eq (7)), (177, .iconst 5), (178, .goto (4)), (181, .iconst 3), (182, .invokestatic 33), (185, .istore 6), (187, .iload 5), (189, .ifCond .ne (5)), (192, .iconst 0), (193, .ireturn), (194, .aload_n 0), (195, .iload_n 1), (196, .iload_n 2), (197, .iload 6), (199, .invokevirtual 41), (202, .ifCond .ne (5)), (205, .iconst (-1)), (206, .ireturn), (207, .aload_n 0), (208, .getfield 7), (211, .bipush 34), (213, .iload_n 1), (214, .imul), (215, .iload_n 2), (216, .iadd), (217, .iload 6), (219, .iastore), (220, .iconst 0), (221, .istore 7), (223, .iconst 0), (224, .istore 8), (226, .iload 8), (228, .iconst 2), (229, .if_icmp .ge (67)), (232, .bipush 33), (234, .istore 9), (236, .iload 9), (238, .ifCond .lt (52)), (241, .iload 9), (243, .iload_n 2), (244, .invokestatic 81), (247, .ifCond .eq (37)), (250, .aload_n 0), (251, .getfield 7), (254, .bipush 34), (256, .iload_n 1), (257, .imul), (258, .iload 9), (260, .iadd), (261, .iconst 0), (262, .iastore), (263, .iload 8), (265, .ifCond .ne (8)), (268, .iload 7), (270, .goto (12)), (273, .iload 7), (275, .aload_n 0), (276, .iload 9), (278, .invokevirtual 78), (281, .iadd), (282, .istore 7), (284, .iinc 9 (-1)), (287, .goto (-51)), (290, .iinc 8 (1)), (293, .goto (-67)), (296, .iload 7), (298, .aload_n 0), (299, .iload_n 2), (300, .invokevirtual 78), (303, .iadd), (304, .istore 7), (306, .iload 5), (308, .ireturn)]
/-- end(I)I -/
def tb_c22 : List (Nat × Instr) := [(0, .aload_n 0), (1, .iconst 0), (2, .putfield 25), (5, .iload_n 1), (6, .invokestatic 59), (9, .ifCond .ne (9)), (12, .aload_n 0), (13, .iconst 1), (14, .invokevirtual 65), (17, .ireturn), (18, .aload_n 0), (19, .getfield 13), (22, .iload_n 1), (23, .iaload), (24, .ifCond .ne (9)), (27, .aload_n 0), (28, .iconst 2), (29, .invokevirtual 65), (32, .ireturn), (33, .aload_n 0), (34, .getfield 13), (37, .iload_n 1), (38, .iaload), (39, .iconst 2), (40, .isub), (41, .istore_n 2), (42, .iload_n 2), (43, .ifCond .lt (14)), (46, .aload_n 0), (47, .iload_n 2), (48, .aload_n 0), (49, .iload_n 1), (50, .iload_n 2), (51, .invokevirtual 49), (54, .invokevirtual 45), (57, .aload_n 0), (58, .getfield 13), (61, .iload_n 1), (62, .iconst 0), (63, .iastore), (64, .aload_n 0), (65, .getfield 16), (68, .iload_n 1), (69, .iconst 0), (70, .iastore), (71, .iconst 0), (72, .istore_n 3), (73, .bipush 33), (75, .istore 4), (77, .iload 4), (79, .ifCond .lt (52)), (82, .iload 4), (84, .iload_n 2), (85, .if_icmp .eq (18)), (88, .aload_n 0), (89, .getfield 7), (92, .bipush 34), (94, .iload_n 1), (95, .imul), (96, .iload 4), (98, .iadd), (99, .iaload), (100, .ifCond .le (25)), (103, .aload_n 0), (104, .getfield 7), (107, .bipush 34), (109, .iload_n 1), (110, .imul), (111, .iload 4), (113, .iadd), (114, .iconst 0), (115, .iastore), (116, .iload_n 3), (117, .aload_n 0), (118, .iload 4), (120, .invokevirtual 78), (123, .iadd), (124, .istore_n 3), (125, .iinc 4 (-1)), (128, .goto (-51)), (131, .iload_n 3), (132, .ireturn)]
/-- held(II)I -/
def tb_c23 : List (Nat × Instr) := [(0, .aload_n 0), (1, .iconst 0), (2, .putfield 25), (5, .iload_n 1), (6, .invokestatic 59), (9, .ifCond .eq (24)), (12, .iload_n 2), (13, .invokestatic 62), (16, .ifCond .eq (17)), (19, .aload_n 0), (20, .getfield 7), (23, .bipush 34), (25, .iload_n 1), (26, .imul), (27, .iload_n 2), (28, .iadd), (29, .iaload), (30, .goto (4)), (33, .iconst (-1)), (34, .ireturn)]
/-- state(I)I -/
def tb_c24 : List (Nat × Instr) := [(0, .aload_n 0), (1, .iconst 0), (2, .putfield 25), (5, .iload_n 1), (6, .invokestatic 59), (9, .ifCond .eq (12)), (12, .aload_n 0), (13, .getfield 13), (16, .iload_n 1), (17, .iaload), (18, .goto (4)), (21, .iconst (-1)), (22, .ireturn)]
/-- wanted(I)I -/
def tb_c25 : List (Nat × Instr) := [(0, .aload_n 0), (1, .iconst 0), (2, .putfield 25), (5, .iload_n 1), (6, .invokestatic 59), (9, .ifCond .eq (12)), (12, .aload_n 0), (13, .getfield 16), (16, .iload_n 1), (17, .iaload), (18, .goto (4)), (21, .iconst (-1)), (22, .ireturn)]
/-- queue(II)I -/
def tb_c26 : List (Nat × Instr) := [(0, .aload_n 0), (1, .iconst 0), (2, .putfield 25), (5, .iload_n 1), (6, .invokestatic 62), (9, .ifCond .eq (31)), (12, .iload_n 2), (13, .ifCond .lt (27)), (16, .iload_n 2), (17, .aload_n 0), (18, .getfield 22), (21, .iload_n 1), (22, .iaload), (23, .if_icmp .ge (17)), (26, .aload_n 0), (27, .getfield 19), (30, .bipush 8), (32, .iload_n 1), (33, .imul), (34, .iload_n 2), (35, .iadd), (36, .iaload), (37, .goto (4)), (40, .iconst (-1)), (41, .ireturn)]
/-- waitsFor(I)I -/
def tb_c27 : List (Nat × Instr) := [(0, .aload_n 0), (1, .iconst 0), (2, .putfield 25), (5, .iload_n 1), (6, .invokestatic 59), (9, .ifCond .eq (11)), (12, .aload_n 0), (13, .iload_n 1), (14, .invokevirtual 52), (17, .goto (4)), (20, .iconst (-1)), (21, .ireturn)]
/-- access(II)I -/
def tb_c28 : List (Nat × Instr) := [(0, .aload_n 0), (1, .iconst 0), (2, .putfield 25), (5, .iload_n 1), (6, .invokestatic 59), (9, .ifCond .eq (15)), (12, .iload_n 2), (13, .bipush 10), (15, .if_icmp .lt (9)), (18, .iload_n 2), (19, .bipush 33), (21, .if_icmp .le (5)), (24, .iconst (-1)), (25, .ireturn), (26, .iconst 0), (27, .istore_n 3), (28, .iconst 0), (29, .istore 4), (31, .iload_n 2), (32, .istore 5), (34, .iload 5), (36, .ifCond .lt (67)), (39, .aload_n 0), (40, .getfield 7), (43, .bipush 34), (45, .iload_n 1), (46, .imul), (47, .iload 5), (49, .iadd), (50, .iaload), (51, .istore 6), (53, .iload_n 3), (54, .ifCond .ne (9)), (57, .iload 6), (59, .iconst 5), (60, .if_icmp .ne (7)), (63, .iconst 1), (64, .goto (4)), (67, .iconst 0), (68, .istore_n 3), (69, .iload 4), (71, .ifCond .ne (15)), (74, .iload 6), (76, .iconst 3), (77, .if_icmp .eq (9)), (80, .iload 6), (82, .iconst 4), (83, .if_icmp .ne (7)), (86, .iconst 1), (87, .goto (4)), (90, .iconst 0), (91, .istore 4), (93, .iload 5), (95, .invokestatic 29), (98, .istore 5), (100, .goto (-66)), (103, .iload_n 3), (104, .ifCond .eq (7)), (107, .iconst 2), (108, .goto (13)), (111, .iload 4), (113, .ifCond .eq (7)), (116, .iconst 1), (117, .goto (4)), (120, .iconst 0), (121, .ireturn)]
/-- locks(I)I -/
def tb_c29 : List (Nat × Instr) := [(0, .aload_n 0), (1, .iconst 0), (2, .putfield 25), (5, .iload_n 1), (6, .invokestatic 59), (9, .ifCond .ne (5)), (12, .iconst (-1)), (13, .ireturn), (14, .iconst 0), (15, .istore_n 2), (16, .iconst 0), (17, .istore_n 3), (18, .iload_n 3), (19, .bipush 34), (21, .if_icmp .ge (31)), (24, .aload_n 0), (25, .getfield 7), (28, .bipush 34), (30, .iload_n 1), (31, .imul), (32, .iload_n 3), (33, .iadd), (34, .iaload), (35, .ifCond .le (9)), (38, .iload_n 2), (39, .iconst 1), (40, .iadd), (41, .goto (4)), (44, .iload_n 2), (45, .istore_n 2), (46, .iinc 3 (1)), (49, .goto (-31)), (52, .iload_n 2), (53, .ireturn)]
def tb_cs : List (List (Nat × Instr) × Nat × Option FieldType) := [(tb_c0, 1, none), (tb_c1, 1, some .int), (tb_c2, 2, some .int), (tb_c3, 1, some .int), (tb_c4, 3, some .boolean), (tb_c5, 4, some .boolean), (tb_c6, 4, some .int), (tb_c7, 2, some .boolean), (tb_c8, 1, some .boolean), (tb_c9, 1, some .boolean), (tb_c10, 6, some .boolean), (tb_c11, 4, none), (tb_c12, 4, some .int), (tb_c13, 4, some .int), (tb_c14, 5, some .int), (tb_c15, 5, some .boolean), (tb_c16, 2, some .int), (tb_c17, 7, some .boolean), (tb_c18, 7, some .int), (tb_c19, 5, some .int), (tb_c20, 4, none), (tb_c21, 10, some .int), (tb_c22, 5, some .int), (tb_c23, 3, some .int), (tb_c24, 2, some .int), (tb_c25, 2, some .int), (tb_c26, 3, some .int), (tb_c27, 2, some .int), (tb_c28, 7, some .int), (tb_c29, 4, some .int)]
def tb_nms : List MethodName := [⟨"TieredLocksModel", "<init>", "()V"⟩, ⟨"TieredLocksModel", "thrown", "()I"⟩, ⟨"TieredLocksModel", "refuse", "(I)I"⟩, ⟨"TieredLocksModel", "parentOf", "(I)I"⟩, ⟨"TieredLocksModel", "isBelow", "(II)Z"⟩, ⟨"TieredLocksModel", "goTogether", "(II)Z"⟩, ⟨"TieredLocksModel", "join", "(II)I"⟩, ⟨"TieredLocksModel", "covers", "(II)Z"⟩, ⟨"TieredLocksModel", "isTransaction", "(I)Z"⟩, ⟨"TieredLocksModel", "isResource", "(I)Z"⟩, ⟨"TieredLocksModel", "fits", "(III)Z"⟩, ⟨"TieredLocksModel", "leave", "(II)V"⟩, ⟨"TieredLocksModel", "serve", "(I)I"⟩, ⟨"TieredLocksModel", "placeOf", "(II)I"⟩, ⟨"TieredLocksModel", "waits", "(I)I"⟩, ⟨"TieredLocksModel", "isRound", "(I)Z"⟩, ⟨"TieredLocksModel", "begin", "()I"⟩, ⟨"TieredLocksModel", "isCovered", "(III)Z"⟩, ⟨"TieredLocksModel", "ask", "(III)I"⟩, ⟨"TieredLocksModel", "lock", "(III)I"⟩, ⟨"TieredLocksModel", "unlock", "(II)V"⟩, ⟨"TieredLocksModel", "escalate", "(II)I"⟩, ⟨"TieredLocksModel", "end", "(I)I"⟩, ⟨"TieredLocksModel", "held", "(II)I"⟩, ⟨"TieredLocksModel", "state", "(I)I"⟩, ⟨"TieredLocksModel", "wanted", "(I)I"⟩, ⟨"TieredLocksModel", "queue", "(II)I"⟩, ⟨"TieredLocksModel", "waitsFor", "(I)I"⟩, ⟨"TieredLocksModel", "access", "(II)I"⟩, ⟨"TieredLocksModel", "locks", "(I)I"⟩]
def tb_bss : List ByteArray := [prog_3_method_1_code, prog_3_method_2_code, prog_3_method_3_code, prog_3_method_4_code, prog_3_method_5_code, prog_3_method_6_code, prog_3_method_7_code, prog_3_method_8_code, prog_3_method_9_code, prog_3_method_10_code, prog_3_method_11_code, prog_3_method_12_code, prog_3_method_13_code, prog_3_method_14_code, prog_3_method_15_code, prog_3_method_16_code, prog_3_method_17_code, prog_3_method_18_code, prog_3_method_19_code, prog_3_method_20_code, prog_3_method_21_code, prog_3_method_22_code, prog_3_method_23_code, prog_3_method_24_code, prog_3_method_25_code, prog_3_method_26_code, prog_3_method_27_code, prog_3_method_28_code, prog_3_method_29_code, prog_3_method_30_code]
def tb_sts : List Bool := [false, false, false, true, true, true, true, true, true, true, false, false, false, false, false, false, false, false, false, false, false, false, false, false, false, false, false, false, false, false]
def tb_nm (j : Nat) : MethodName := tb_nms.getD j ⟨"", "", ""⟩
def tb_bs (j : Nat) : ByteArray := tb_bss.getD j ⟨#[]⟩
def tb_sta (j : Nat) : Bool := tb_sts.getD j false
def tb_fl : List (Nat × Nat) := [(7, 0), (13, 1), (16, 2), (19, 3), (22, 4), (25, 5)]
def tb_ln : List (Nat × Nat) := [(0, 272), (1, 8), (2, 8), (3, 272), (4, 34)]
def tb_mt : List (Nat × Nat × Nat) := [(29, 3, 1), (33, 6, 2), (37, 5, 2), (41, 10, 4), (45, 11, 3), (49, 13, 3), (52, 14, 2), (55, 15, 2), (59, 8, 1), (62, 9, 1), (65, 2, 2), (68, 7, 2), (71, 17, 4), (74, 18, 4), (78, 12, 2), (81, 4, 2)]
def tb_ex : List (Nat × Nat) := []
def tb_P : tl_P := (fun j => tb_cs.getD j ([], 0, none), tl_lk tb_fl, tl_lk tb_ln, tl_lk2 tb_mt, tl_lk tb_ex)
theorem tb_d0 : (tb_c0.all fun q => decide (decode prog_3_method_1_code q.1 = .ok (q.2, tl_len q.2)) && tl_ok tb_P tb_sta 1 q.1 q.2) = true := by decide +kernel
theorem tb_d1 : (tb_c1.all fun q => decide (decode prog_3_method_2_code q.1 = .ok (q.2, tl_len q.2)) && tl_ok tb_P tb_sta 1 q.1 q.2) = true := by decide +kernel
theorem tb_d2 : (tb_c2.all fun q => decide (decode prog_3_method_3_code q.1 = .ok (q.2, tl_len q.2)) && tl_ok tb_P tb_sta 2 q.1 q.2) = true := by decide +kernel
theorem tb_d3 : (tb_c3.all fun q => decide (decode prog_3_method_4_code q.1 = .ok (q.2, tl_len q.2)) && tl_ok tb_P tb_sta 1 q.1 q.2) = true := by decide +kernel
theorem tb_d4 : (tb_c4.all fun q => decide (decode prog_3_method_5_code q.1 = .ok (q.2, tl_len q.2)) && tl_ok tb_P tb_sta 3 q.1 q.2) = true := by decide +kernel
theorem tb_d5 : (tb_c5.all fun q => decide (decode prog_3_method_6_code q.1 = .ok (q.2, tl_len q.2)) && tl_ok tb_P tb_sta 4 q.1 q.2) = true := by decide +kernel
theorem tb_d6 : (tb_c6.all fun q => decide (decode prog_3_method_7_code q.1 = .ok (q.2, tl_len q.2)) && tl_ok tb_P tb_sta 4 q.1 q.2) = true := by decide +kernel
theorem tb_d7 : (tb_c7.all fun q => decide (decode prog_3_method_8_code q.1 = .ok (q.2, tl_len q.2)) && tl_ok tb_P tb_sta 2 q.1 q.2) = true := by decide +kernel
theorem tb_d8 : (tb_c8.all fun q => decide (decode prog_3_method_9_code q.1 = .ok (q.2, tl_len q.2)) && tl_ok tb_P tb_sta 1 q.1 q.2) = true := by decide +kernel
theorem tb_d9 : (tb_c9.all fun q => decide (decode prog_3_method_10_code q.1 = .ok (q.2, tl_len q.2)) && tl_ok tb_P tb_sta 1 q.1 q.2) = true := by decide +kernel
theorem tb_d10 : (tb_c10.all fun q => decide (decode prog_3_method_11_code q.1 = .ok (q.2, tl_len q.2)) && tl_ok tb_P tb_sta 6 q.1 q.2) = true := by decide +kernel
theorem tb_d11 : (tb_c11.all fun q => decide (decode prog_3_method_12_code q.1 = .ok (q.2, tl_len q.2)) && tl_ok tb_P tb_sta 4 q.1 q.2) = true := by decide +kernel
theorem tb_d12 : (tb_c12.all fun q => decide (decode prog_3_method_13_code q.1 = .ok (q.2, tl_len q.2)) && tl_ok tb_P tb_sta 4 q.1 q.2) = true := by decide +kernel
theorem tb_d13 : (tb_c13.all fun q => decide (decode prog_3_method_14_code q.1 = .ok (q.2, tl_len q.2)) && tl_ok tb_P tb_sta 4 q.1 q.2) = true := by decide +kernel
theorem tb_d14 : (tb_c14.all fun q => decide (decode prog_3_method_15_code q.1 = .ok (q.2, tl_len q.2)) && tl_ok tb_P tb_sta 5 q.1 q.2) = true := by decide +kernel
theorem tb_d15 : (tb_c15.all fun q => decide (decode prog_3_method_16_code q.1 = .ok (q.2, tl_len q.2)) && tl_ok tb_P tb_sta 5 q.1 q.2) = true := by decide +kernel
theorem tb_d16 : (tb_c16.all fun q => decide (decode prog_3_method_17_code q.1 = .ok (q.2, tl_len q.2)) && tl_ok tb_P tb_sta 2 q.1 q.2) = true := by decide +kernel
theorem tb_d17 : (tb_c17.all fun q => decide (decode prog_3_method_18_code q.1 = .ok (q.2, tl_len q.2)) && tl_ok tb_P tb_sta 7 q.1 q.2) = true := by decide +kernel
theorem tb_d18 : (tb_c18.all fun q => decide (decode prog_3_method_19_code q.1 = .ok (q.2, tl_len q.2)) && tl_ok tb_P tb_sta 7 q.1 q.2) = true := by decide +kernel
theorem tb_d19 : (tb_c19.all fun q => decide (decode prog_3_method_20_code q.1 = .ok (q.2, tl_len q.2)) && tl_ok tb_P tb_sta 5 q.1 q.2) = true := by decide +kernel
theorem tb_d20 : (tb_c20.all fun q => decide (decode prog_3_method_21_code q.1 = .ok (q.2, tl_len q.2)) && tl_ok tb_P tb_sta 4 q.1 q.2) = true := by decide +kernel
theorem tb_d21 : (tb_c21.all fun q => decide (decode prog_3_method_22_code q.1 = .ok (q.2, tl_len q.2)) && tl_ok tb_P tb_sta 10 q.1 q.2) = true := by decide +kernel
theorem tb_d22 : (tb_c22.all fun q => decide (decode prog_3_method_23_code q.1 = .ok (q.2, tl_len q.2)) && tl_ok tb_P tb_sta 5 q.1 q.2) = true := by decide +kernel
theorem tb_d23 : (tb_c23.all fun q => decide (decode prog_3_method_24_code q.1 = .ok (q.2, tl_len q.2)) && tl_ok tb_P tb_sta 3 q.1 q.2) = true := by decide +kernel
theorem tb_d24 : (tb_c24.all fun q => decide (decode prog_3_method_25_code q.1 = .ok (q.2, tl_len q.2)) && tl_ok tb_P tb_sta 2 q.1 q.2) = true := by decide +kernel
theorem tb_d25 : (tb_c25.all fun q => decide (decode prog_3_method_26_code q.1 = .ok (q.2, tl_len q.2)) && tl_ok tb_P tb_sta 2 q.1 q.2) = true := by decide +kernel
theorem tb_d26 : (tb_c26.all fun q => decide (decode prog_3_method_27_code q.1 = .ok (q.2, tl_len q.2)) && tl_ok tb_P tb_sta 3 q.1 q.2) = true := by decide +kernel
theorem tb_d27 : (tb_c27.all fun q => decide (decode prog_3_method_28_code q.1 = .ok (q.2, tl_len q.2)) && tl_ok tb_P tb_sta 2 q.1 q.2) = true := by decide +kernel
theorem tb_d28 : (tb_c28.all fun q => decide (decode prog_3_method_29_code q.1 = .ok (q.2, tl_len q.2)) && tl_ok tb_P tb_sta 7 q.1 q.2) = true := by decide +kernel
theorem tb_d29 : (tb_c29.all fun q => decide (decode prog_3_method_30_code q.1 = .ok (q.2, tl_len q.2)) && tl_ok tb_P tb_sta 4 q.1 q.2) = true := by decide +kernel
set_option maxRecDepth 20000 in
theorem tb_w0 : Cond.code (tb_nm 0) (tb_bs 0) 1 (none) ∈ lw_gt := List.mem_filter.mpr ⟨List.mem_of_getElem? (i := 369) rfl, rfl⟩
set_option maxRecDepth 20000 in
theorem tb_w1 : Cond.code (tb_nm 1) (tb_bs 1) 1 (some .int) ∈ lw_gt := List.mem_filter.mpr ⟨List.mem_of_getElem? (i := 393) rfl, rfl⟩
set_option maxRecDepth 20000 in
theorem tb_w2 : Cond.code (tb_nm 2) (tb_bs 2) 2 (some .int) ∈ lw_gt := List.mem_filter.mpr ⟨List.mem_of_getElem? (i := 411) rfl, rfl⟩
set_option maxRecDepth 20000 in
theorem tb_w3 : Cond.code (tb_nm 3) (tb_bs 3) 1 (some .int) ∈ lw_gt := List.mem_filter.mpr ⟨List.mem_of_getElem? (i := 414) rfl, rfl⟩
set_option maxRecDepth 20000 in
theorem tb_w4 : Cond.code (tb_nm 4) (tb_bs 4) 3 (some .boolean) ∈ lw_gt := List.mem_filter.mpr ⟨List.mem_of_getElem? (i := 466) rfl, rfl⟩
set_option maxRecDepth 20000 in
theorem tb_w5 : Cond.code (tb_nm 5) (tb_bs 5) 4 (some .boolean) ∈ lw_gt := List.mem_filter.mpr ⟨List.mem_of_getElem? (i := 435) rfl, rfl⟩
set_option maxRecDepth 20000 in
theorem tb_w6 : Cond.code (tb_nm 6) (tb_bs 6) 4 (some .int) ∈ lw_gt := List.mem_filter.mpr ⟨List.mem_of_getElem? (i := 420) rfl, rfl⟩
set_option maxRecDepth 20000 in
theorem tb_w7 : Cond.code (tb_nm 7) (tb_bs 7) 2 (some .boolean) ∈ lw_gt := List.mem_filter.mpr ⟨List.mem_of_getElem? (i := 417) rfl, rfl⟩
set_option maxRecDepth 20000 in
theorem tb_w8 : Cond.code (tb_nm 8) (tb_bs 8) 1 (some .boolean) ∈ lw_gt := List.mem_filter.mpr ⟨List.mem_of_getElem? (i := 404) rfl, rfl⟩
set_option maxRecDepth 20000 in
theorem tb_w9 : Cond.code (tb_nm 9) (tb_bs 9) 1 (some .boolean) ∈ lw_gt := List.mem_filter.mpr ⟨List.mem_of_getElem? (i := 407) rfl, rfl⟩
set_option maxRecDepth 20000 in
theorem tb_w10 : Cond.code (tb_nm 10) (tb_bs 10) 6 (some .boolean) ∈ lw_gt := List.mem_filter.mpr ⟨List.mem_of_getElem? (i := 432) rfl, rfl⟩
set_option maxRecDepth 20000 in
theorem tb_w11 : Cond.code (tb_nm 11) (tb_bs 11) 4 (none) ∈ lw_gt := List.mem_filter.mpr ⟨List.mem_of_getElem? (i := 451) rfl, rfl⟩
set_option maxRecDepth 20000 in
theorem tb_w12 : Cond.code (tb_nm 12) (tb_bs 12) 4 (some .int) ∈ lw_gt := List.mem_filter.mpr ⟨List.mem_of_getElem? (i := 459) rfl, rfl⟩
set_option maxRecDepth 20000 in
theorem tb_w13 : Cond.code (tb_nm 13) (tb_bs 13) 4 (some .int) ∈ lw_gt := List.mem_filter.mpr ⟨List.mem_of_getElem? (i := 447) rfl, rfl⟩
set_option maxRecDepth 20000 in
theorem tb_w14 : Cond.code (tb_nm 14) (tb_bs 14) 5 (some .int) ∈ lw_gt := List.mem_filter.mpr ⟨List.mem_of_getElem? (i := 443) rfl, rfl⟩
set_option maxRecDepth 20000 in
theorem tb_w15 : Cond.code (tb_nm 15) (tb_bs 15) 5 (some .boolean) ∈ lw_gt := List.mem_filter.mpr ⟨List.mem_of_getElem? (i := 439) rfl, rfl⟩
set_option maxRecDepth 20000 in
theorem tb_w16 : Cond.code (tb_nm 16) (tb_bs 16) 2 (some .int) ∈ lw_gt := List.mem_filter.mpr ⟨List.mem_of_getElem? (i := 397) rfl, rfl⟩
set_option maxRecDepth 20000 in
theorem tb_w17 : Cond.code (tb_nm 17) (tb_bs 17) 7 (some .boolean) ∈ lw_gt := List.mem_filter.mpr ⟨List.mem_of_getElem? (i := 424) rfl, rfl⟩
set_option maxRecDepth 20000 in
theorem tb_w18 : Cond.code (tb_nm 18) (tb_bs 18) 7 (some .int) ∈ lw_gt := List.mem_filter.mpr ⟨List.mem_of_getElem? (i := 428) rfl, rfl⟩
set_option maxRecDepth 20000 in
theorem tb_w19 : Cond.code (tb_nm 19) (tb_bs 19) 5 (some .int) ∈ lw_gt := List.mem_filter.mpr ⟨List.mem_of_getElem? (i := 401) rfl, rfl⟩
set_option maxRecDepth 20000 in
theorem tb_w20 : Cond.code (tb_nm 20) (tb_bs 20) 4 (none) ∈ lw_gt := List.mem_filter.mpr ⟨List.mem_of_getElem? (i := 455) rfl, rfl⟩
set_option maxRecDepth 20000 in
theorem tb_w21 : Cond.code (tb_nm 21) (tb_bs 21) 10 (some .int) ∈ lw_gt := List.mem_filter.mpr ⟨List.mem_of_getElem? (i := 463) rfl, rfl⟩
set_option maxRecDepth 20000 in
theorem tb_w22 : Cond.code (tb_nm 22) (tb_bs 22) 5 (some .int) ∈ lw_gt := List.mem_filter.mpr ⟨List.mem_of_getElem? (i := 470) rfl, rfl⟩
set_option maxRecDepth 20000 in
theorem tb_w23 : Cond.code (tb_nm 23) (tb_bs 23) 3 (some .int) ∈ lw_gt := List.mem_filter.mpr ⟨List.mem_of_getElem? (i := 474) rfl, rfl⟩
set_option maxRecDepth 20000 in
theorem tb_w24 : Cond.code (tb_nm 24) (tb_bs 24) 2 (some .int) ∈ lw_gt := List.mem_filter.mpr ⟨List.mem_of_getElem? (i := 478) rfl, rfl⟩
set_option maxRecDepth 20000 in
theorem tb_w25 : Cond.code (tb_nm 25) (tb_bs 25) 2 (some .int) ∈ lw_gt := List.mem_filter.mpr ⟨List.mem_of_getElem? (i := 482) rfl, rfl⟩
set_option maxRecDepth 20000 in
theorem tb_w26 : Cond.code (tb_nm 26) (tb_bs 26) 3 (some .int) ∈ lw_gt := List.mem_filter.mpr ⟨List.mem_of_getElem? (i := 486) rfl, rfl⟩
set_option maxRecDepth 20000 in
theorem tb_w27 : Cond.code (tb_nm 27) (tb_bs 27) 2 (some .int) ∈ lw_gt := List.mem_filter.mpr ⟨List.mem_of_getElem? (i := 490) rfl, rfl⟩
set_option maxRecDepth 20000 in
theorem tb_w28 : Cond.code (tb_nm 28) (tb_bs 28) 7 (some .int) ∈ lw_gt := List.mem_filter.mpr ⟨List.mem_of_getElem? (i := 494) rfl, rfl⟩
set_option maxRecDepth 20000 in
theorem tb_w29 : Cond.code (tb_nm 29) (tb_bs 29) 4 (some .int) ∈ lw_gt := List.mem_filter.mpr ⟨List.mem_of_getElem? (i := 498) rfl, rfl⟩
def tb_wl : List Cond := [.initialized "TieredLocksModel", .laysFinal "TieredLocksModel" "TieredLocksModel" "held" "[I", .laysFinal "TieredLocksModel" "TieredLocksModel" "state" "[I", .laysFinal "TieredLocksModel" "TieredLocksModel" "wanted" "[I", .laysFinal "TieredLocksModel" "TieredLocksModel" "queue" "[I", .laysFinal "TieredLocksModel" "TieredLocksModel" "length" "[I", .lays "TieredLocksModel" "TieredLocksModel" "thrown" "I", .fieldLink "TieredLocksModel" 7 "TieredLocksModel" "held" "[I", .fieldLink "TieredLocksModel" 13 "TieredLocksModel" "state" "[I", .fieldLink "TieredLocksModel" 16 "TieredLocksModel" "wanted" "[I", .fieldLink "TieredLocksModel" 19 "TieredLocksModel" "queue" "[I", .fieldLink "TieredLocksModel" 22 "TieredLocksModel" "length" "[I", .fieldLink "TieredLocksModel" 25 "TieredLocksModel" "thrown" "I", .methodLink "TieredLocksModel" 29 (tb_nm 3), .methodLink "TieredLocksModel" 33 (tb_nm 6), .methodLink "TieredLocksModel" 37 (tb_nm 5), .methodLink "TieredLocksModel" 41 (tb_nm 10), .methodLink "TieredLocksModel" 45 (tb_nm 11), .methodLink "TieredLocksModel" 49 (tb_nm 13), .methodLink "TieredLocksModel" 52 (tb_nm 14), .methodLink "TieredLocksModel" 55 (tb_nm 15), .methodLink "TieredLocksModel" 59 (tb_nm 8), .methodLink "TieredLocksModel" 62 (tb_nm 9), .methodLink "TieredLocksModel" 65 (tb_nm 2), .methodLink "TieredLocksModel" 68 (tb_nm 7), .methodLink "TieredLocksModel" 71 (tb_nm 17), .methodLink "TieredLocksModel" 74 (tb_nm 18), .methodLink "TieredLocksModel" 78 (tb_nm 12), .methodLink "TieredLocksModel" 81 (tb_nm 4), .instanceMethod (tb_nm 2), .static (tb_nm 3), .static (tb_nm 4), .static (tb_nm 5), .static (tb_nm 6), .static (tb_nm 7), .static (tb_nm 8), .static (tb_nm 9), .instanceMethod (tb_nm 10), .instanceMethod (tb_nm 11), .instanceMethod (tb_nm 12), .instanceMethod (tb_nm 13), .instanceMethod (tb_nm 14), .instanceMethod (tb_nm 15), .instanceMethod (tb_nm 17), .instanceMethod (tb_nm 18), .selects "TieredLocksModel" (tb_nm 2) (tb_nm 2), .selects "TieredLocksModel" (tb_nm 10) (tb_nm 10), .selects "TieredLocksModel" (tb_nm 11) (tb_nm 11), .selects "TieredLocksModel" (tb_nm 12) (tb_nm 12), .selects "TieredLocksModel" (tb_nm 13) (tb_nm 13), .selects "TieredLocksModel" (tb_nm 14) (tb_nm 14), .selects "TieredLocksModel" (tb_nm 15) (tb_nm 15), .selects "TieredLocksModel" (tb_nm 17) (tb_nm 17), .selects "TieredLocksModel" (tb_nm 18) (tb_nm 18)]
theorem tb_wl_ok : tb_wl = [36, 379, 381, 383, 385, 387, 377, 372, 373, 374, 375, 376, 371, 412, 418, 433, 429, 448, 444, 440, 436, 402, 405, 408, 415, 421, 425, 456, 464, 410, 413, 465, 434, 419, 416, 403, 406, 431, 450, 458, 446, 442, 438, 423, 427, 25, 28, 32, 33, 31, 30, 29, 26, 27].filterMap (fun i => lw_tbl[i]?) := by decide +kernel
theorem tb_wl_g : tb_wl.all goodWord = true := by decide +kernel
theorem tb_wl_in : ∀ w ∈ tb_wl, w ∈ lw_gt := by
  intro w hw
  have h1 := List.all_eq_true.mp tb_wl_g w hw
  rw [tb_wl_ok] at hw
  obtain ⟨i, -, hi⟩ := List.mem_filterMap.mp hw
  exact List.mem_filter.mpr ⟨List.mem_of_getElem? hi, h1⟩
theorem tl_chk {P : tl_P} {sta : Nat → Bool} {nL : Nat} {b : ByteArray} {rows : List (Nat × Instr)} (h : (rows.all fun q => decide (decode b q.1 = .ok (q.2, tl_len q.2)) && tl_ok P sta nL q.1 q.2) = true) : ∀ q ∈ rows, decode b q.1 = .ok (q.2, tl_len q.2) ∧ tl_ok P sta nL q.1 q.2 = true := by
  intro q hq
  have h1 := List.all_eq_true.mp h q hq
  rw [Bool.and_eq_true] at h1
  exact ⟨of_decide_eq_true h1.1, h1.2⟩
theorem tl_lk_mem : ∀ (l : List (Nat × Nat)) (i v : Nat), tl_lk l i = some v → (i, v) ∈ l
  | [], _, _, h => by cases h
  | q :: l, i, v, h => by
    unfold tl_lk at h
    cases hb : Nat.beq q.1 i with
    | true =>
      rw [hb] at h
      have e1 : q.1 = i := Nat.eq_of_beq_eq_true hb
      have e2 : q.2 = v := Option.some.inj h
      subst e1; subst e2
      exact List.mem_cons_self
    | false =>
      rw [hb] at h
      exact List.mem_cons_of_mem _ (tl_lk_mem l i v h)
theorem tl_lk2_mem : ∀ (l : List (Nat × Nat × Nat)) (i : Nat) (v : Nat × Nat), tl_lk2 l i = some v → (i, v) ∈ l
  | [], _, _, h => by cases h
  | q :: l, i, v, h => by
    unfold tl_lk2 at h
    cases hb : Nat.beq q.1 i with
    | true =>
      rw [hb] at h
      have e1 : q.1 = i := Nat.eq_of_beq_eq_true hb
      have e2 : q.2 = v := Option.some.inj h
      subst e1; subst e2
      exact List.mem_cons_self
    | false =>
      rw [hb] at h
      exact List.mem_cons_of_mem _ (tl_lk2_mem l i v h)
set_option maxRecDepth 20000 in
theorem tl_mmax : Cond.code Lib.Math.max.name Lib.Math.max.code 2 (some .int) ∈ lw_gt := List.mem_filter.mpr ⟨List.mem_of_getElem? (i := 140) (by decide +kernel), rfl⟩
set_option maxRecDepth 20000 in
theorem tl_mmin : Cond.code Lib.Math.min.name Lib.Math.min.code 2 (some .int) ∈ lw_gt := List.mem_filter.mpr ⟨List.mem_of_getElem? (i := 255) (by decide +kernel), rfl⟩
set_option maxRecDepth 20000 in
theorem ta_f1 : ∀ j, j < 50 → ∀ q ∈ (ta_P.1 j).1, decode (ta_bs j) q.1 = .ok (q.2, tl_len q.2) ∧ tl_ok ta_P ta_sta (ta_P.1 j).2.1 q.1 q.2 = true
  | 0, _ => tl_chk ta_d0
  | 1, _ => tl_chk ta_d1
  | 2, _ => tl_chk ta_d2
  | 3, _ => tl_chk ta_d3
  | 4, _ => tl_chk ta_d4
  | 5, _ => tl_chk ta_d5
  | 6, _ => tl_chk ta_d6
  | 7, _ => tl_chk ta_d7
  | 8, _ => tl_chk ta_d8
  | 9, _ => tl_chk ta_d9
  | 10, _ => tl_chk ta_d10
  | 11, _ => tl_chk ta_d11
  | 12, _ => tl_chk ta_d12
  | 13, _ => tl_chk ta_d13
  | 14, _ => tl_chk ta_d14
  | 15, _ => tl_chk ta_d15
  | 16, _ => tl_chk ta_d16
  | 17, _ => tl_chk ta_d17
  | 18, _ => tl_chk ta_d18
  | 19, _ => tl_chk ta_d19
  | 20, _ => tl_chk ta_d20
  | 21, _ => tl_chk ta_d21
  | 22, _ => tl_chk ta_d22
  | 23, _ => tl_chk ta_d23
  | 24, _ => tl_chk ta_d24
  | 25, _ => tl_chk ta_d25
  | 26, _ => tl_chk ta_d26
  | 27, _ => tl_chk ta_d27
  | 28, _ => tl_chk ta_d28
  | 29, _ => tl_chk ta_d29
  | 30, _ => tl_chk ta_d30
  | 31, _ => tl_chk ta_d31
  | 32, _ => tl_chk ta_d32
  | 33, _ => tl_chk ta_d33
  | 34, _ => tl_chk ta_d34
  | 35, _ => tl_chk ta_d35
  | 36, _ => tl_chk ta_d36
  | 37, _ => tl_chk ta_d37
  | 38, _ => tl_chk ta_d38
  | 39, _ => tl_chk ta_d39
  | 40, _ => tl_chk ta_d40
  | 41, _ => tl_chk ta_d41
  | 42, _ => tl_chk ta_d42
  | 43, _ => tl_chk ta_d43
  | 44, _ => tl_chk ta_d44
  | 45, _ => tl_chk ta_d45
  | 46, _ => tl_chk ta_d46
  | 47, _ => tl_chk ta_d47
  | 48, _ => tl_chk ta_d48
  | 49, _ => tl_chk ta_d49
  | n + 50, h => absurd h (by omega)
set_option maxRecDepth 20000 in
theorem ta_f2 : ∀ j, j < 50 → (ta_nm j).cls = "TieredLocks" ∧ (ta_P.1 j).2.1 ≤ 20 ∧ Cond.code (ta_nm j) (ta_bs j) (ta_P.1 j).2.1 (ta_P.1 j).2.2 ∈ lw_gt
  | 0, _ => ⟨rfl, Nat.le_of_ble_eq_true rfl, ta_w0⟩
  | 1, _ => ⟨rfl, Nat.le_of_ble_eq_true rfl, ta_w1⟩
  | 2, _ => ⟨rfl, Nat.le_of_ble_eq_true rfl, ta_w2⟩
  | 3, _ => ⟨rfl, Nat.le_of_ble_eq_true rfl, ta_w3⟩
  | 4, _ => ⟨rfl, Nat.le_of_ble_eq_true rfl, ta_w4⟩
  | 5, _ => ⟨rfl, Nat.le_of_ble_eq_true rfl, ta_w5⟩
  | 6, _ => ⟨rfl, Nat.le_of_ble_eq_true rfl, ta_w6⟩
  | 7, _ => ⟨rfl, Nat.le_of_ble_eq_true rfl, ta_w7⟩
  | 8, _ => ⟨rfl, Nat.le_of_ble_eq_true rfl, ta_w8⟩
  | 9, _ => ⟨rfl, Nat.le_of_ble_eq_true rfl, ta_w9⟩
  | 10, _ => ⟨rfl, Nat.le_of_ble_eq_true rfl, ta_w10⟩
  | 11, _ => ⟨rfl, Nat.le_of_ble_eq_true rfl, ta_w11⟩
  | 12, _ => ⟨rfl, Nat.le_of_ble_eq_true rfl, ta_w12⟩
  | 13, _ => ⟨rfl, Nat.le_of_ble_eq_true rfl, ta_w13⟩
  | 14, _ => ⟨rfl, Nat.le_of_ble_eq_true rfl, ta_w14⟩
  | 15, _ => ⟨rfl, Nat.le_of_ble_eq_true rfl, ta_w15⟩
  | 16, _ => ⟨rfl, Nat.le_of_ble_eq_true rfl, ta_w16⟩
  | 17, _ => ⟨rfl, Nat.le_of_ble_eq_true rfl, ta_w17⟩
  | 18, _ => ⟨rfl, Nat.le_of_ble_eq_true rfl, ta_w18⟩
  | 19, _ => ⟨rfl, Nat.le_of_ble_eq_true rfl, ta_w19⟩
  | 20, _ => ⟨rfl, Nat.le_of_ble_eq_true rfl, ta_w20⟩
  | 21, _ => ⟨rfl, Nat.le_of_ble_eq_true rfl, ta_w21⟩
  | 22, _ => ⟨rfl, Nat.le_of_ble_eq_true rfl, ta_w22⟩
  | 23, _ => ⟨rfl, Nat.le_of_ble_eq_true rfl, ta_w23⟩
  | 24, _ => ⟨rfl, Nat.le_of_ble_eq_true rfl, ta_w24⟩
  | 25, _ => ⟨rfl, Nat.le_of_ble_eq_true rfl, ta_w25⟩
  | 26, _ => ⟨rfl, Nat.le_of_ble_eq_true rfl, ta_w26⟩
  | 27, _ => ⟨rfl, Nat.le_of_ble_eq_true rfl, ta_w27⟩
  | 28, _ => ⟨rfl, Nat.le_of_ble_eq_true rfl, ta_w28⟩
  | 29, _ => ⟨rfl, Nat.le_of_ble_eq_true rfl, ta_w29⟩
  | 30, _ => ⟨rfl, Nat.le_of_ble_eq_true rfl, ta_w30⟩
  | 31, _ => ⟨rfl, Nat.le_of_ble_eq_true rfl, ta_w31⟩
  | 32, _ => ⟨rfl, Nat.le_of_ble_eq_true rfl, ta_w32⟩
  | 33, _ => ⟨rfl, Nat.le_of_ble_eq_true rfl, ta_w33⟩
  | 34, _ => ⟨rfl, Nat.le_of_ble_eq_true rfl, ta_w34⟩
  | 35, _ => ⟨rfl, Nat.le_of_ble_eq_true rfl, ta_w35⟩
  | 36, _ => ⟨rfl, Nat.le_of_ble_eq_true rfl, ta_w36⟩
  | 37, _ => ⟨rfl, Nat.le_of_ble_eq_true rfl, ta_w37⟩
  | 38, _ => ⟨rfl, Nat.le_of_ble_eq_true rfl, ta_w38⟩
  | 39, _ => ⟨rfl, Nat.le_of_ble_eq_true rfl, ta_w39⟩
  | 40, _ => ⟨rfl, Nat.le_of_ble_eq_true rfl, ta_w40⟩
  | 41, _ => ⟨rfl, Nat.le_of_ble_eq_true rfl, ta_w41⟩
  | 42, _ => ⟨rfl, Nat.le_of_ble_eq_true rfl, ta_w42⟩
  | 43, _ => ⟨rfl, Nat.le_of_ble_eq_true rfl, ta_w43⟩
  | 44, _ => ⟨rfl, Nat.le_of_ble_eq_true rfl, ta_w44⟩
  | 45, _ => ⟨rfl, Nat.le_of_ble_eq_true rfl, ta_w45⟩
  | 46, _ => ⟨rfl, Nat.le_of_ble_eq_true rfl, ta_w46⟩
  | 47, _ => ⟨rfl, Nat.le_of_ble_eq_true rfl, ta_w47⟩
  | 48, _ => ⟨rfl, Nat.le_of_ble_eq_true rfl, ta_w48⟩
  | 49, _ => ⟨rfl, Nat.le_of_ble_eq_true rfl, ta_w49⟩
  | n + 50, h => absurd h (by omega)
theorem ta_f4 : ∀ w ∈ u_ws "TieredLocks" ta_T 4, w ∈ lw_gt := by
  have e : u_ws "TieredLocks" ta_T 4 = [1, 2, 3, 4].filterMap (fun i => ta_wl[i]?) := by decide +kernel
  intro w hw
  rw [e] at hw
  obtain ⟨i, -, hi⟩ := List.mem_filterMap.mp hw
  exact ta_wl_in w (List.mem_of_getElem? hi)
theorem ta_f5 : ∀ k, k < 4 → (ta_T k).1 = "TieredLocks" ∧ (k ∈ [0, 1, 2, 3] ↔ (ta_P.2.2.1 k).isSome = true) ∧ (ta_P.2.2.1 k = none → (ta_T k).2.2.2 = false ∧ parseFieldDescriptor (ta_T k).2.2.1 = some .int) := by decide +kernel
theorem ta_f6 : ∀ q ∈ ta_ln, q.2 < 2 ^ 31 ∧ (q.1 ∈ [0, 1, 2, 3] ∨ (q.1 = 99 ∧ true = true ∧ q.2 = 6)) := by decide +kernel
theorem ta_f7 : ∀ q ∈ ta_fl, (q.2 < 99 → q.2 < 4 ∧ Cond.fieldLink "TieredLocks" q.1 "TieredLocks" (ta_T q.2).2.1 (ta_T q.2).2.2.1 ∈ ta_wl) ∧ (q.2 = 99 → true = true ∧ Cond.fieldLink "TieredLocks" q.1 "TieredLocks" "TOGETHER" "[I" ∈ ta_wl) := by decide +kernel
theorem ta_f8a : ∀ q ∈ ta_mt, q.2.1 < 1000 → q.2.1 < 50 ∧ q.2.2 ≤ (ta_P.1 q.2.1).2.1 ∧ Cond.methodLink "TieredLocks" q.1 (ta_nm q.2.1) ∈ ta_wl := by decide +kernel
theorem ta_f8b : ∀ q ∈ ta_mt, q.2.1 < 1000 → ta_sta q.2.1 = true → Cond.static (ta_nm q.2.1) ∈ ta_wl ∧ (parseMethodDescriptor (ta_nm q.2.1).desc).map (fun d => d.parameters.length) = some q.2.2 := by decide +kernel
theorem ta_f8c : ∀ q ∈ ta_mt, q.2.1 < 1000 → ta_sta q.2.1 = false → Cond.instanceMethod (ta_nm q.2.1) ∈ ta_wl ∧ Cond.selects "TieredLocks" (ta_nm q.2.1) (ta_nm q.2.1) ∈ ta_wl ∧ (parseMethodDescriptor (ta_nm q.2.1).desc).map (fun d => d.parameters.length) = some (q.2.2 - 1) := by decide +kernel
theorem ta_f8d : ∀ q ∈ ta_mt, q.2.1 = 1000 → Cond.methodLink "TieredLocks" q.1 Lib.Math.max.name ∈ ta_wl ∧ Cond.static Lib.Math.max.name ∈ ta_wl ∧ Cond.initialized "java/lang/Math" ∈ ta_wl := by decide +kernel
theorem ta_f8e : ∀ q ∈ ta_mt, q.2.1 = 1001 → Cond.methodLink "TieredLocks" q.1 Lib.Math.min.name ∈ ta_wl ∧ Cond.static Lib.Math.min.name ∈ ta_wl ∧ Cond.initialized "java/lang/Math" ∈ ta_wl := by decide +kernel
theorem ta_face : tl_face ta_P 4 [0, 1, 2, 3] true 6 "TieredLocks" "TOGETHER" ta_T ta_ty 50 ta_nm ta_bs ta_sta lw_gt := by
  refine ⟨ta_f1, ta_f2, lw_gt_good, ⟨by decide, by decide, by decide, ta_wl_in _ (List.mem_of_getElem? (i := 0) rfl), ta_f4⟩, ta_f5, fun k n h => ta_f6 _ (tl_lk_mem _ _ _ h), fun ix k h => ?_, fun ix q h => ?_, by decide, by decide +kernel, by decide +kernel⟩
  · have h1 := ta_f7 _ (tl_lk_mem _ _ _ h)
    exact ⟨fun z => ⟨(h1.1 z).1, ta_wl_in _ (h1.1 z).2⟩, fun z => ⟨(h1.2 z).1, ta_wl_in _ (h1.2 z).2⟩⟩
  · have hm := tl_lk2_mem _ _ _ h
    refine ⟨fun z => ?_, fun z => ?_, fun z => ?_⟩
    · obtain ⟨k1, k2, k3⟩ := ta_f8a _ hm z
      have k4 := ta_f8b _ hm z
      have k5 := ta_f8c _ hm z
      exact ⟨k1, k2, ta_wl_in _ k3, fun y => ⟨ta_wl_in _ (k4 y).1, (k4 y).2⟩, fun y => ⟨ta_wl_in _ (k5 y).1, ta_wl_in _ (k5 y).2.1, (k5 y).2.2⟩⟩
    · obtain ⟨k1, k2, k3⟩ := ta_f8d _ hm z
      exact ⟨ta_wl_in _ k1, ta_wl_in _ k2, ta_wl_in _ k3, tl_mmax⟩
    · obtain ⟨k1, k2, k3⟩ := ta_f8e _ hm z
      exact ⟨ta_wl_in _ k1, ta_wl_in _ k2, ta_wl_in _ k3, tl_mmin⟩
set_option maxRecDepth 20000 in
theorem tb_f1 : ∀ j, j < 30 → ∀ q ∈ (tb_P.1 j).1, decode (tb_bs j) q.1 = .ok (q.2, tl_len q.2) ∧ tl_ok tb_P tb_sta (tb_P.1 j).2.1 q.1 q.2 = true
  | 0, _ => tl_chk tb_d0
  | 1, _ => tl_chk tb_d1
  | 2, _ => tl_chk tb_d2
  | 3, _ => tl_chk tb_d3
  | 4, _ => tl_chk tb_d4
  | 5, _ => tl_chk tb_d5
  | 6, _ => tl_chk tb_d6
  | 7, _ => tl_chk tb_d7
  | 8, _ => tl_chk tb_d8
  | 9, _ => tl_chk tb_d9
  | 10, _ => tl_chk tb_d10
  | 11, _ => tl_chk tb_d11
  | 12, _ => tl_chk tb_d12
  | 13, _ => tl_chk tb_d13
  | 14, _ => tl_chk tb_d14
  | 15, _ => tl_chk tb_d15
  | 16, _ => tl_chk tb_d16
  | 17, _ => tl_chk tb_d17
  | 18, _ => tl_chk tb_d18
  | 19, _ => tl_chk tb_d19
  | 20, _ => tl_chk tb_d20
  | 21, _ => tl_chk tb_d21
  | 22, _ => tl_chk tb_d22
  | 23, _ => tl_chk tb_d23
  | 24, _ => tl_chk tb_d24
  | 25, _ => tl_chk tb_d25
  | 26, _ => tl_chk tb_d26
  | 27, _ => tl_chk tb_d27
  | 28, _ => tl_chk tb_d28
  | 29, _ => tl_chk tb_d29
  | n + 30, h => absurd h (by omega)
set_option maxRecDepth 20000 in
theorem tb_f2 : ∀ j, j < 30 → (tb_nm j).cls = "TieredLocksModel" ∧ (tb_P.1 j).2.1 ≤ 20 ∧ Cond.code (tb_nm j) (tb_bs j) (tb_P.1 j).2.1 (tb_P.1 j).2.2 ∈ lw_gt
  | 0, _ => ⟨rfl, Nat.le_of_ble_eq_true rfl, tb_w0⟩
  | 1, _ => ⟨rfl, Nat.le_of_ble_eq_true rfl, tb_w1⟩
  | 2, _ => ⟨rfl, Nat.le_of_ble_eq_true rfl, tb_w2⟩
  | 3, _ => ⟨rfl, Nat.le_of_ble_eq_true rfl, tb_w3⟩
  | 4, _ => ⟨rfl, Nat.le_of_ble_eq_true rfl, tb_w4⟩
  | 5, _ => ⟨rfl, Nat.le_of_ble_eq_true rfl, tb_w5⟩
  | 6, _ => ⟨rfl, Nat.le_of_ble_eq_true rfl, tb_w6⟩
  | 7, _ => ⟨rfl, Nat.le_of_ble_eq_true rfl, tb_w7⟩
  | 8, _ => ⟨rfl, Nat.le_of_ble_eq_true rfl, tb_w8⟩
  | 9, _ => ⟨rfl, Nat.le_of_ble_eq_true rfl, tb_w9⟩
  | 10, _ => ⟨rfl, Nat.le_of_ble_eq_true rfl, tb_w10⟩
  | 11, _ => ⟨rfl, Nat.le_of_ble_eq_true rfl, tb_w11⟩
  | 12, _ => ⟨rfl, Nat.le_of_ble_eq_true rfl, tb_w12⟩
  | 13, _ => ⟨rfl, Nat.le_of_ble_eq_true rfl, tb_w13⟩
  | 14, _ => ⟨rfl, Nat.le_of_ble_eq_true rfl, tb_w14⟩
  | 15, _ => ⟨rfl, Nat.le_of_ble_eq_true rfl, tb_w15⟩
  | 16, _ => ⟨rfl, Nat.le_of_ble_eq_true rfl, tb_w16⟩
  | 17, _ => ⟨rfl, Nat.le_of_ble_eq_true rfl, tb_w17⟩
  | 18, _ => ⟨rfl, Nat.le_of_ble_eq_true rfl, tb_w18⟩
  | 19, _ => ⟨rfl, Nat.le_of_ble_eq_true rfl, tb_w19⟩
  | 20, _ => ⟨rfl, Nat.le_of_ble_eq_true rfl, tb_w20⟩
  | 21, _ => ⟨rfl, Nat.le_of_ble_eq_true rfl, tb_w21⟩
  | 22, _ => ⟨rfl, Nat.le_of_ble_eq_true rfl, tb_w22⟩
  | 23, _ => ⟨rfl, Nat.le_of_ble_eq_true rfl, tb_w23⟩
  | 24, _ => ⟨rfl, Nat.le_of_ble_eq_true rfl, tb_w24⟩
  | 25, _ => ⟨rfl, Nat.le_of_ble_eq_true rfl, tb_w25⟩
  | 26, _ => ⟨rfl, Nat.le_of_ble_eq_true rfl, tb_w26⟩
  | 27, _ => ⟨rfl, Nat.le_of_ble_eq_true rfl, tb_w27⟩
  | 28, _ => ⟨rfl, Nat.le_of_ble_eq_true rfl, tb_w28⟩
  | 29, _ => ⟨rfl, Nat.le_of_ble_eq_true rfl, tb_w29⟩
  | n + 30, h => absurd h (by omega)
theorem tb_f4 : ∀ w ∈ u_ws "TieredLocksModel" tb_T 6, w ∈ lw_gt := by
  have e : u_ws "TieredLocksModel" tb_T 6 = [1, 2, 3, 4, 5, 6].filterMap (fun i => tb_wl[i]?) := by decide +kernel
  intro w hw
  rw [e] at hw
  obtain ⟨i, -, hi⟩ := List.mem_filterMap.mp hw
  exact tb_wl_in w (List.mem_of_getElem? hi)
theorem tb_f5 : ∀ k, k < 6 → (tb_T k).1 = "TieredLocksModel" ∧ (k ∈ [0, 1, 2, 3, 4] ↔ (tb_P.2.2.1 k).isSome = true) ∧ (tb_P.2.2.1 k = none → (tb_T k).2.2.2 = false ∧ parseFieldDescriptor (tb_T k).2.2.1 = some .int) := by decide +kernel
theorem tb_f6 : ∀ q ∈ tb_ln, q.2 < 2 ^ 31 ∧ (q.1 ∈ [0, 1, 2, 3, 4] ∨ (q.1 = 99 ∧ false = true ∧ q.2 = 6)) := by decide +kernel
theorem tb_f7 : ∀ q ∈ tb_fl, (q.2 < 99 → q.2 < 6 ∧ Cond.fieldLink "TieredLocksModel" q.1 "TieredLocksModel" (tb_T q.2).2.1 (tb_T q.2).2.2.1 ∈ tb_wl) ∧ (q.2 = 99 → false = true ∧ Cond.fieldLink "TieredLocksModel" q.1 "TieredLocksModel" "TOGETHER" "[I" ∈ tb_wl) := by decide +kernel
theorem tb_f8a : ∀ q ∈ tb_mt, q.2.1 < 1000 → q.2.1 < 30 ∧ q.2.2 ≤ (tb_P.1 q.2.1).2.1 ∧ Cond.methodLink "TieredLocksModel" q.1 (tb_nm q.2.1) ∈ tb_wl := by decide +kernel
theorem tb_f8b : ∀ q ∈ tb_mt, q.2.1 < 1000 → tb_sta q.2.1 = true → Cond.static (tb_nm q.2.1) ∈ tb_wl ∧ (parseMethodDescriptor (tb_nm q.2.1).desc).map (fun d => d.parameters.length) = some q.2.2 := by decide +kernel
theorem tb_f8c : ∀ q ∈ tb_mt, q.2.1 < 1000 → tb_sta q.2.1 = false → Cond.instanceMethod (tb_nm q.2.1) ∈ tb_wl ∧ Cond.selects "TieredLocksModel" (tb_nm q.2.1) (tb_nm q.2.1) ∈ tb_wl ∧ (parseMethodDescriptor (tb_nm q.2.1).desc).map (fun d => d.parameters.length) = some (q.2.2 - 1) := by decide +kernel
theorem tb_f8d : ∀ q ∈ tb_mt, q.2.1 = 1000 → Cond.methodLink "TieredLocksModel" q.1 Lib.Math.max.name ∈ tb_wl ∧ Cond.static Lib.Math.max.name ∈ tb_wl ∧ Cond.initialized "java/lang/Math" ∈ tb_wl := by decide +kernel
theorem tb_f8e : ∀ q ∈ tb_mt, q.2.1 = 1001 → Cond.methodLink "TieredLocksModel" q.1 Lib.Math.min.name ∈ tb_wl ∧ Cond.static Lib.Math.min.name ∈ tb_wl ∧ Cond.initialized "java/lang/Math" ∈ tb_wl := by decide +kernel
theorem tb_face : tl_face tb_P 6 [0, 1, 2, 3, 4] false 6 "TieredLocksModel" "TOGETHER" tb_T tb_ty 30 tb_nm tb_bs tb_sta lw_gt := by
  refine ⟨tb_f1, tb_f2, lw_gt_good, ⟨by decide, by decide, by decide, tb_wl_in _ (List.mem_of_getElem? (i := 0) rfl), tb_f4⟩, tb_f5, fun k n h => tb_f6 _ (tl_lk_mem _ _ _ h), fun ix k h => ?_, fun ix q h => ?_, by decide, by decide +kernel, by decide +kernel⟩
  · have h1 := tb_f7 _ (tl_lk_mem _ _ _ h)
    exact ⟨fun z => ⟨(h1.1 z).1, tb_wl_in _ (h1.1 z).2⟩, fun z => ⟨(h1.2 z).1, tb_wl_in _ (h1.2 z).2⟩⟩
  · have hm := tl_lk2_mem _ _ _ h
    refine ⟨fun z => ?_, fun z => ?_, fun z => ?_⟩
    · obtain ⟨k1, k2, k3⟩ := tb_f8a _ hm z
      have k4 := tb_f8b _ hm z
      have k5 := tb_f8c _ hm z
      exact ⟨k1, k2, tb_wl_in _ k3, fun y => ⟨tb_wl_in _ (k4 y).1, (k4 y).2⟩, fun y => ⟨tb_wl_in _ (k5 y).1, tb_wl_in _ (k5 y).2.1, (k5 y).2.2⟩⟩
    · obtain ⟨k1, k2, k3⟩ := tb_f8d _ hm z
      exact ⟨tb_wl_in _ k1, tb_wl_in _ k2, tb_wl_in _ k3, tl_mmax⟩
    · obtain ⟨k1, k2, k3⟩ := tb_f8e _ hm z
      exact ⟨tb_wl_in _ k1, tb_wl_in _ k2, tb_wl_in _ k3, tl_mmin⟩
end
section
/-! 05.math: the state as mathematics: modes at 34 t + r, situations, wishes, queues -/
abbrev tm_S : Type := (Nat → Nat) × (Nat → Nat) × (Nat → Nat) × (Nat → List Nat)
def tm_b (b : Bool) : Int := bif b then 1 else 0
def tm_pn (r : Nat) : Nat := if r < 4 then 0 else if r < 10 then 1 + (r - 4) / 2 else 4 + (r - 10) / 4
def tm_pI (r : Nat) : Int := if r = 0 then -1 else (tm_pn r : Int)
def tm_an : Nat → Nat → List Nat
  | 0, _ => []
  | n + 1, r => if r = 0 then [] else tm_pn r :: tm_an n (tm_pn r)
def tm_bl (low r : Nat) : Bool := (tm_an 3 low).contains r
def tm_tog (a b : Nat) : Bool := (min a b == 0) || ((min a b == 1 && decide (max a b < 5)) || (min a b == max a b && (min a b == 2 || min a b == 3)))
def tm_jn (a b : Nat) : Nat := if min a b = 2 ∧ max a b = 3 then 4 else max a b
def tm_cov (a b : Nat) : Bool := tm_jn a b == a
def tm_rd (m : Nat) : Bool := m == 1 || m == 3
def tm_rt (m : Nat) : Nat := if m = 5 then 2 else if m = 3 ∨ m = 4 then 1 else 0
def tm_fits (M : Nat → Nat) (t r m : Nat) : Bool := (List.range 8).all fun u => u == t || tm_tog m (M (34 * u + r))
theorem tm_tog_c (a b : Nat) : tm_tog a b = tm_tog b a := by
  unfold tm_tog
  rw [Nat.min_comm a b, Nat.max_comm a b]
theorem tm_jn_c (a b : Nat) : tm_jn a b = tm_jn b a := by
  unfold tm_jn
  rw [Nat.min_comm a b, Nat.max_comm a b]
theorem tm_jn5 {a b : Nat} (ha : a ≤ 5) (hb : b ≤ 5) : tm_jn a b ≤ 5 := by
  unfold tm_jn
  split <;> omega
/-- what doesn't go with a mode doesn't go with more -/
theorem tm_tog_up : ∀ m, m < 6 → ∀ a, a < 6 → ∀ b, b < 6 → tm_tog m a = false → tm_tog m (tm_jn a b) = false := by decide +kernel
theorem tm_fits_f {M : Nat → Nat} {t r m : Nat} : tm_fits M t r m = false ↔ ∃ u, u < 8 ∧ u ≠ t ∧ tm_tog m (M (34 * u + r)) = false := by
  unfold tm_fits
  rw [← Bool.not_eq_true, List.all_eq_true]
  constructor
  · intro h
    refine Classical.byContradiction fun hn => h fun u hu => ?_
    have hu8 := List.mem_range.mp hu
    by_cases hut : u = t
    · simp [hut]
    · cases hg : tm_tog m (M (34 * u + r)) with
      | true => simp
      | false => exact absurd ⟨u, hu8, hut, hg⟩ hn
  · rintro ⟨u, h1, h2, h3⟩ h
    have := h u (List.mem_range.mpr h1)
    simp [h2, h3] at this
/-- at most n numbers below n -/
theorem tm_pig : ∀ (n : Nat) (l : List Nat), l.Nodup → (∀ x ∈ l, x < n) → l.length ≤ n := by
  intro n
  induction n with
  | zero =>
    intro l _ h
    cases l with
    | nil => exact Nat.le_refl _
    | cons a l => exact absurd (h a List.mem_cons_self) (Nat.not_lt_zero _)
  | succ n ih =>
    intro l hd h
    by_cases hm : n ∈ l
    · have h1 := List.length_erase_of_mem hm
      have h2 := ih (l.erase n) (hd.erase n) (fun x hx => by
        have h3 := (hd.mem_erase_iff).mp hx
        have h4 := h x h3.2
        omega)
      omega
    · have := ih l hd (fun x hx => by
        have h4 := h x hx
        have h5 : x ≠ n := fun e => hm (e ▸ hx)
        omega)
      omega
/-- the parts of the invariant that hold at every moment -/
def tm_J (σ : tm_S) : Prop :=
  (∀ i, i < 272 → σ.1 i ≤ 5) ∧ (∀ t, t < 8 → σ.2.1 t ≤ 35 ∧ σ.2.2.1 t ≤ 5 ∧ (σ.2.1 t < 2 → σ.2.2.1 t = 0)) ∧
  ∀ r, r < 34 → (σ.2.2.2 r).Nodup ∧ (∀ t, t ∈ σ.2.2.2 r ↔ t < 8 ∧ σ.2.1 t = r + 2) ∧ (σ.2.2.2 r).Pairwise (fun a b => σ.1 (34 * b + r) ≠ 0 → σ.1 (34 * a + r) ≠ 0)
/-- the first one of the queue of r does not fit -/
def tm_H (σ : tm_S) (r : Nat) : Prop := ∀ t l, σ.2.2.2 r = t :: l → tm_fits σ.1 t r (σ.2.2.1 t) = false
def tm_I (σ : tm_S) : Prop := tm_J σ ∧ ∀ r, r < 34 → tm_H σ r
theorem tm_len {σ : tm_S} (h : tm_J σ) {r : Nat} (hr : r < 34) : (σ.2.2.2 r).length ≤ 8 :=
  tm_pig 8 _ (h.2.2 r hr).1 (fun x hx => (((h.2.2 r hr).2.1 x).mp hx).1)
/-- t is let in at r; l: the others of the queue -/
def tm_gr (σ : tm_S) (r t : Nat) (l : List Nat) : tm_S := (va_up σ.1 (34 * t + r) (σ.2.2.1 t), va_up σ.2.1 t 1, va_up σ.2.2.1 t 0, va_up σ.2.2.2 r l)
def tm_sv : Nat → tm_S → Nat → Nat × tm_S
  | 0, σ, _ => (0, σ)
  | n + 1, σ, r => match σ.2.2.2 r with
    | [] => (0, σ)
    | t :: l => if tm_fits σ.1 t r (σ.2.2.1 t) = true then ((tm_sv n (tm_gr σ r t l) r).1 + 1, (tm_sv n (tm_gr σ r t l) r).2) else (0, σ)
def tm_serve (σ : tm_S) (r : Nat) : Nat × tm_S := tm_sv 8 σ r
theorem va_up_s {α : Type} (f : Nat → α) (k : Nat) (v : α) : va_up f k v k = v := by unfold va_up; rw [if_pos rfl]
theorem va_up_n {α : Type} (f : Nat → α) {k j : Nat} (v : α) (h : j ≠ k) : va_up f k v j = f j := by unfold va_up; rw [if_neg h]
theorem tm_col {t u r c : Nat} (hr : r < 34) (hc : c < 34) (h : 34 * u + c = 34 * t + r) : u = t ∧ c = r := by omega
theorem tm_gr_J {σ : tm_S} (h : tm_J σ) {r t : Nat} {l : List Nat} (hr : r < 34) (hq : σ.2.2.2 r = t :: l) : tm_J (tm_gr σ r t l) := by
  obtain ⟨h1, h2, h3⟩ := h
  obtain ⟨n1, n2, n3⟩ := h3 r hr
  rw [hq] at n1 n2 n3
  obtain ⟨ht8, hts⟩ := (n2 t).mp List.mem_cons_self
  have htl : t ∉ l := (List.nodup_cons.mp n1).1
  refine ⟨fun i hi => ?_, fun u hu => ?_, fun c hc => ?_⟩
  · show va_up σ.1 (34 * t + r) (σ.2.2.1 t) i ≤ 5
    by_cases hi' : i = 34 * t + r
    · rw [hi', va_up_s]; exact (h2 t ht8).2.1
    · rw [va_up_n _ _ hi']; exact h1 i hi
  · show va_up σ.2.1 t 1 u ≤ 35 ∧ va_up σ.2.2.1 t 0 u ≤ 5 ∧ (va_up σ.2.1 t 1 u < 2 → va_up σ.2.2.1 t 0 u = 0)
    by_cases hu' : u = t
    · rw [hu', va_up_s, va_up_s]; exact ⟨by omega, by omega, fun _ => rfl⟩
    · rw [va_up_n _ _ hu', va_up_n _ _ hu']; exact h2 u hu
  · show (va_up σ.2.2.2 r l c).Nodup ∧ (∀ u, u ∈ va_up σ.2.2.2 r l c ↔ u < 8 ∧ va_up σ.2.1 t 1 u = c + 2) ∧ (va_up σ.2.2.2 r l c).Pairwise (fun a b => va_up σ.1 (34 * t + r) (σ.2.2.1 t) (34 * b + c) ≠ 0 → va_up σ.1 (34 * t + r) (σ.2.2.1 t) (34 * a + c) ≠ 0)
    by_cases hcr : c = r
    · subst hcr
      rw [va_up_s]
      refine ⟨(List.nodup_cons.mp n1).2, fun u => ?_, ?_⟩
      · by_cases hut : u = t
        · subst hut
          rw [va_up_s]
          exact ⟨fun q => absurd q htl, fun q => by omega⟩
        · rw [va_up_n _ _ hut, ← n2 u]
          exact ⟨fun q => List.mem_cons_of_mem _ q, fun q => (List.mem_cons.mp q).resolve_left hut⟩
      · refine List.Pairwise.imp_of_mem ?_ (List.pairwise_cons.mp n3).2
        intro a b ha hb hab
        have e1 : a ≠ t := fun e => htl (e ▸ ha)
        have e2 : b ≠ t := fun e => htl (e ▸ hb)
        rw [va_up_n _ _ (by omega), va_up_n _ _ (by omega)]
        exact hab
    · rw [va_up_n _ _ hcr]
      obtain ⟨m1, m2, m3⟩ := h3 c hc
      refine ⟨m1, fun u => ?_, ?_⟩
      · by_cases hut : u = t
        · subst hut
          rw [va_up_s, m2 u]
          exact ⟨fun q => by omega, fun q => by omega⟩
        · rw [va_up_n _ _ hut]
          exact m2 u
      · refine m3.imp ?_
        intro a b hab
        rw [va_up_n _ _ (by omega), va_up_n _ _ (by omega)]
        exact hab
/-- serving r: the invariant stays; r's first one does not fit any more; other columns and queues, and those who wait elsewhere, stay -/
theorem tm_sv_J : ∀ (n : Nat) (σ : tm_S) (r : Nat), r < 34 → tm_J σ → tm_J (tm_sv n σ r).2 ∧ ((σ.2.2.2 r).length ≤ n → tm_H (tm_sv n σ r).2 r) ∧ (tm_sv n σ r).1 ≤ n ∧
    (∀ u c, c < 34 → c ≠ r → (tm_sv n σ r).2.1 (34 * u + c) = σ.1 (34 * u + c)) ∧ (∀ c, c ≠ r → (tm_sv n σ r).2.2.2.2 c = σ.2.2.2 c) ∧
    (∀ u, σ.2.1 u ≠ r + 2 → (tm_sv n σ r).2.2.1 u = σ.2.1 u ∧ (tm_sv n σ r).2.2.2.1 u = σ.2.2.1 u) := by
  intro n
  induction n with
  | zero =>
    intro σ r hr h
    refine ⟨h, fun hl => ?_, Nat.le_refl _, fun _ _ _ _ => rfl, fun _ _ => rfl, fun _ _ => ⟨rfl, rfl⟩⟩
    intro t l hq
    have hq : σ.2.2.2 r = t :: l := hq
    rw [hq] at hl
    simp at hl
  | succ n ih =>
    intro σ r hr h
    cases hq : σ.2.2.2 r with
    | nil =>
      have e : tm_sv (n + 1) σ r = (0, σ) := by unfold tm_sv; rw [hq]
      rw [e]
      refine ⟨h, fun _ t l hq' => ?_, Nat.zero_le _, fun _ _ _ _ => rfl, fun _ _ => rfl, fun _ _ => ⟨rfl, rfl⟩⟩
      have hq' : σ.2.2.2 r = t :: l := hq'
      rw [hq] at hq'
      cases hq'
    | cons t l =>
      by_cases hf : tm_fits σ.1 t r (σ.2.2.1 t) = true
      · have e : tm_sv (n + 1) σ r = ((tm_sv n (tm_gr σ r t l) r).1 + 1, (tm_sv n (tm_gr σ r t l) r).2) := by
          show (match σ.2.2.2 r with
            | [] => (0, σ)
            | t :: l => if tm_fits σ.1 t r (σ.2.2.1 t) = true then ((tm_sv n (tm_gr σ r t l) r).1 + 1, (tm_sv n (tm_gr σ r t l) r).2) else (0, σ)) = _
          rw [hq]
          exact if_pos hf
        have hts : t < 8 ∧ σ.2.1 t = r + 2 := ((h.2.2 r hr).2.1 t).mp (by rw [hq]; exact List.mem_cons_self)
        obtain ⟨i1, i2, i3, i4, i5, i6⟩ := ih (tm_gr σ r t l) r hr (tm_gr_J h hr hq)
        rw [e]
        refine ⟨i1, fun hl => i2 ?_, Nat.succ_le_succ i3, fun u c hc hcr => ?_, fun c hcr => ?_, fun u hu => ?_⟩
        · show (va_up σ.2.2.2 r l r).length ≤ n
          rw [va_up_s]
          simpa using hl
        · have e4 := i4 u c hc hcr
          refine e4.trans ?_
          show va_up σ.1 (34 * t + r) (σ.2.2.1 t) (34 * u + c) = _
          rw [va_up_n _ _ (by omega)]
        · refine (i5 c hcr).trans ?_
          show va_up σ.2.2.2 r l c = _
          rw [va_up_n _ _ hcr]
        · have hut : u ≠ t := fun e' => hu (e' ▸ hts.2)
          have e6 := i6 u (by show va_up σ.2.1 t 1 u ≠ r + 2; rw [va_up_n _ _ hut]; exact hu)
          refine ⟨e6.1.trans ?_, e6.2.trans ?_⟩
          · show va_up σ.2.1 t 1 u = _
            rw [va_up_n _ _ hut]
          · show va_up σ.2.2.1 t 0 u = _
            rw [va_up_n _ _ hut]
      · have e : tm_sv (n + 1) σ r = (0, σ) := by
          show (match σ.2.2.2 r with
            | [] => (0, σ)
            | t :: l => if tm_fits σ.1 t r (σ.2.2.1 t) = true then ((tm_sv n (tm_gr σ r t l) r).1 + 1, (tm_sv n (tm_gr σ r t l) r).2) else (0, σ)) = _
          rw [hq]
          exact if_neg hf
        rw [e]
        refine ⟨h, fun _ t' l' hq' => ?_, Nat.zero_le _, fun _ _ _ _ => rfl, fun _ _ => rfl, fun _ _ => ⟨rfl, rfl⟩⟩
        have hq' : σ.2.2.2 r = t' :: l' := hq'
        rw [hq] at hq'
        cases hq'
        exact Bool.not_eq_true _ ▸ hf
end
section
/-! 06.close: sets of transactions as sums of powers; eight rounds close them, whether a round looks at the set of its start or at the growing one -/
def tm_it (g : Nat → Nat) : Nat → Nat → Nat
  | 0, s => s
  | n + 1, s => g (tm_it g n s)
/-- what the members of s below n bring -/
def tm_all (f : Nat → Nat) (s : Nat) (n : Nat) : Nat := (List.range n).foldl (fun a u => bif s.testBit u then a ||| f u else a) 0
def tm_jac (f : Nat → Nat) (s : Nat) : Nat := s ||| tm_all f s 8
def tm_gsn (f : Nat → Nat) (s : Nat) (n : Nat) : Nat := (List.range n).foldl (fun a u => bif a.testBit u then a ||| f u else a) s
def tm_gs (f : Nat → Nat) (s : Nat) : Nat := tm_gsn f s 8
theorem tm_all_s (f : Nat → Nat) (s n : Nat) : tm_all f s (n + 1) = bif s.testBit n then tm_all f s n ||| f n else tm_all f s n := by
  unfold tm_all
  rw [List.range_succ, List.foldl_append]
  rfl
theorem tm_gsn_s (f : Nat → Nat) (s n : Nat) : tm_gsn f s (n + 1) = bif (tm_gsn f s n).testBit n then tm_gsn f s n ||| f n else tm_gsn f s n := by
  unfold tm_gsn
  rw [List.range_succ, List.foldl_append]
  rfl
theorem tm_all_t (f : Nat → Nat) (s w : Nat) : ∀ n, (tm_all f s n).testBit w = true ↔ ∃ u, u < n ∧ s.testBit u = true ∧ (f u).testBit w = true := by
  intro n
  induction n with
  | zero =>
    constructor
    · intro h
      have h : (0 : Nat).testBit w = true := h
      rw [Nat.zero_testBit] at h
      cases h
    · rintro ⟨u, h, _⟩
      omega
  | succ n ih =>
    rw [tm_all_s]
    cases hs : s.testBit n with
    | true =>
      show (tm_all f s n ||| f n).testBit w = true ↔ _
      rw [Nat.testBit_or, Bool.or_eq_true, ih]
      constructor
      · rintro (⟨u, h1, h2, h3⟩ | h)
        · exact ⟨u, by omega, h2, h3⟩
        · exact ⟨n, by omega, hs, h⟩
      · rintro ⟨u, h1, h2, h3⟩
        by_cases hu : u = n
        · subst hu; exact Or.inr h3
        · exact Or.inl ⟨u, by omega, h2, h3⟩
    | false =>
      show (tm_all f s n).testBit w = true ↔ _
      rw [ih]
      constructor
      · rintro ⟨u, h1, h2, h3⟩
        exact ⟨u, by omega, h2, h3⟩
      · rintro ⟨u, h1, h2, h3⟩
        have hu : u ≠ n := fun e => by rw [e, hs] at h2; cases h2
        exact ⟨u, by omega, h2, h3⟩
theorem tm_jac_t (f : Nat → Nat) (s w : Nat) : (tm_jac f s).testBit w = true ↔ s.testBit w = true ∨ ∃ u, u < 8 ∧ s.testBit u = true ∧ (f u).testBit w = true := by
  unfold tm_jac
  rw [Nat.testBit_or, Bool.or_eq_true, tm_all_t]
def tm_cl (f : Nat → Nat) (s : Nat) : Prop := ∀ v, v < 8 → s.testBit v = true → ∀ w, (f v).testBit w = true → s.testBit w = true
theorem tm_gsn_up (f : Nat → Nat) (s : Nat) : ∀ n, (∀ w, s.testBit w = true → (tm_gsn f s n).testBit w = true) ∧ (∀ u, u < n → s.testBit u = true → ∀ w, (f u).testBit w = true → (tm_gsn f s n).testBit w = true) := by
  intro n
  induction n with
  | zero => exact ⟨fun w h => h, fun u h => absurd h (Nat.not_lt_zero _)⟩
  | succ n ih =>
    rw [tm_gsn_s]
    cases hg : (tm_gsn f s n).testBit n with
    | true =>
      refine ⟨fun w h => ?_, fun u hu h w hw => ?_⟩
      · show (tm_gsn f s n ||| f n).testBit w = true
        rw [Nat.testBit_or, Bool.or_eq_true]
        exact Or.inl (ih.1 w h)
      · show (tm_gsn f s n ||| f n).testBit w = true
        rw [Nat.testBit_or, Bool.or_eq_true]
        by_cases he : u = n
        · subst he; exact Or.inr hw
        · exact Or.inl (ih.2 u (by omega) h w hw)
    | false =>
      refine ⟨fun w h => ih.1 w h, fun u hu h w hw => ?_⟩
      have hne : u ≠ n := fun e => by
        have := ih.1 u h
        rw [e, hg] at this
        cases this
      exact ih.2 u (by omega) h w hw
theorem tm_gsn_in (f : Nat → Nat) (s C : Nat) (hC : tm_cl f C) (hs : ∀ w, s.testBit w = true → C.testBit w = true) : ∀ n, n ≤ 8 → ∀ w, (tm_gsn f s n).testBit w = true → C.testBit w = true := by
  intro n
  induction n with
  | zero => exact fun _ w h => hs w h
  | succ n ih =>
    intro hn w h
    rw [tm_gsn_s] at h
    cases hg : (tm_gsn f s n).testBit n with
    | true =>
      rw [hg] at h
      have h : (tm_gsn f s n ||| f n).testBit w = true := h
      rw [Nat.testBit_or, Bool.or_eq_true] at h
      rcases h with h | h
      · exact ih (by omega) w h
      · exact hC n (by omega) (ih (by omega) n hg) w h
    | false =>
      rw [hg] at h
      exact ih (by omega) w h
def tm_cnt (s : Nat) : Nat := (s.testBit 0).toNat + (s.testBit 1).toNat + (s.testBit 2).toNat + (s.testBit 3).toNat + (s.testBit 4).toNat + (s.testBit 5).toNat + (s.testBit 6).toNat + (s.testBit 7).toNat
theorem tm_bit8 {x w : Nat} (hx : x < 256) (h : x.testBit w = true) : w < 8 := by
  refine Classical.byContradiction fun hn => ?_
  have h1 : x < 2 ^ w := Nat.lt_of_lt_of_le hx (show 2 ^ 8 ≤ 2 ^ w from Nat.pow_le_pow_right (by decide) (by omega))
  rw [Nat.testBit_lt_two_pow h1] at h
  cases h
theorem tm_cnt_up {s s' : Nat} (h : ∀ w, s.testBit w = true → s'.testBit w = true) {w : Nat} (hw : w < 8) (h1 : s'.testBit w = true) (h2 : s.testBit w = false) : tm_cnt s + 1 ≤ tm_cnt s' := by
  have key : ∀ i, (s.testBit i).toNat ≤ (s'.testBit i).toNat := by
    intro i
    cases hi : s.testBit i with
    | false => exact Nat.zero_le _
    | true => rw [h i hi]; exact Nat.le_refl _
  have kw : (s.testBit w).toNat + 1 ≤ (s'.testBit w).toNat := by rw [h1, h2]; exact Nat.le_refl _
  have k0 := key 0
  have k1 := key 1
  have k2 := key 2
  have k3 := key 3
  have k4 := key 4
  have k5 := key 5
  have k6 := key 6
  have k7 := key 7
  unfold tm_cnt
  have hc : w = 0 ∨ w = 1 ∨ w = 2 ∨ w = 3 ∨ w = 4 ∨ w = 5 ∨ w = 6 ∨ w = 7 := by omega
  rcases hc with rfl | rfl | rfl | rfl | rfl | rfl | rfl | rfl <;> omega
theorem tm_cnt_8 {s : Nat} (h : 8 ≤ tm_cnt s) {w : Nat} (hw : w < 8) : s.testBit w = true := by
  have key : ∀ i, (s.testBit i).toNat ≤ 1 := fun i => Bool.toNat_le _
  have k0 := key 0
  have k1 := key 1
  have k2 := key 2
  have k3 := key 3
  have k4 := key 4
  have k5 := key 5
  have k6 := key 6
  have k7 := key 7
  unfold tm_cnt at h
  have e : (s.testBit w).toNat = 1 := by
    have hc : w = 0 ∨ w = 1 ∨ w = 2 ∨ w = 3 ∨ w = 4 ∨ w = 5 ∨ w = 6 ∨ w = 7 := by omega
    rcases hc with rfl | rfl | rfl | rfl | rfl | rfl | rfl | rfl <;> omega
  cases hs : s.testBit w with
  | true => rfl
  | false => rw [hs] at e; cases e
theorem tm_jac_cl {f : Nat → Nat} {s : Nat} (h : tm_cl f s) : tm_cl f (tm_jac f s) := by
  have e : ∀ w, (tm_jac f s).testBit w = true → s.testBit w = true := by
    intro w hw
    rcases (tm_jac_t f s w).mp hw with hw | ⟨u, h1, h2, h3⟩
    · exact hw
    · exact h u h1 h2 w h3
  intro v hv hs w hw
  exact (tm_jac_t f s w).mpr (Or.inl (h v hv (e v hs) w hw))
theorem tm_jac_n {f : Nat → Nat} (hf : ∀ u, u < 8 → f u < 256) (s : Nat) : ∀ k, tm_cl f (tm_it (tm_jac f) k s) ∨ k ≤ tm_cnt (tm_it (tm_jac f) k s) := by
  intro k
  induction k with
  | zero => exact Or.inr (Nat.zero_le _)
  | succ k ih =>
    rcases ih with ih | ih
    · exact Or.inl (tm_jac_cl ih)
    · by_cases hc : tm_cl f (tm_it (tm_jac f) k s)
      · exact Or.inl (tm_jac_cl hc)
      · refine Or.inr ?_
        have hex : ∃ v w, v < 8 ∧ (tm_it (tm_jac f) k s).testBit v = true ∧ (f v).testBit w = true ∧ (tm_it (tm_jac f) k s).testBit w = false := by
          refine Classical.byContradiction fun hn => hc fun v hv hs w hw => ?_
          cases hb : (tm_it (tm_jac f) k s).testBit w with
          | true => rfl
          | false => exact absurd ⟨v, w, hv, hs, hw, hb⟩ hn
        obtain ⟨v, w, hv, hs, hw, hb⟩ := hex
        have := tm_cnt_up (s := tm_it (tm_jac f) k s) (s' := tm_jac f (tm_it (tm_jac f) k s)) (fun x hx => (tm_jac_t f _ x).mpr (Or.inl hx)) (tm_bit8 (hf v hv) hw) ((tm_jac_t f _ w).mpr (Or.inr ⟨v, hv, hs, hw⟩)) hb
        exact Nat.le_trans (Nat.succ_le_succ ih) this
theorem tm_jac_8 {f : Nat → Nat} (hf : ∀ u, u < 8 → f u < 256) (s : Nat) : tm_cl f (tm_it (tm_jac f) 8 s) := by
  rcases tm_jac_n hf s 8 with h | h
  · exact h
  · intro v hv _ w hw
    exact tm_cnt_8 h (tm_bit8 (hf v hv) hw)
theorem tm_it_up (f : Nat → Nat) (s : Nat) : ∀ k w, s.testBit w = true → (tm_it (tm_jac f) k s).testBit w = true := by
  intro k
  induction k with
  | zero => exact fun w h => h
  | succ k ih => exact fun w h => (tm_jac_t f _ w).mpr (Or.inl (ih w h))
theorem tm_it_le (f : Nat → Nat) (s : Nat) : ∀ k w, (tm_it (tm_jac f) k s).testBit w = true → (tm_it (tm_gs f) k s).testBit w = true := by
  intro k
  induction k with
  | zero => exact fun w h => h
  | succ k ih =>
    intro w h
    have hu := tm_gsn_up f (tm_it (tm_gs f) k s) 8
    rcases (tm_jac_t f _ w).mp h with h | ⟨u, h1, h2, h3⟩
    · exact hu.1 w (ih w h)
    · exact hu.2 u h1 (ih u h2) w h3
/-- both ways close alike -/
theorem tm_both {f : Nat → Nat} (hf : ∀ u, u < 8 → f u < 256) (s w : Nat) : (tm_it (tm_gs f) 8 s).testBit w = (tm_it (tm_jac f) 8 s).testBit w := by
  have hC := tm_jac_8 hf s
  have hin : ∀ k, ∀ x, (tm_it (tm_gs f) k s).testBit x = true → (tm_it (tm_jac f) 8 s).testBit x = true := by
    intro k
    induction k with
    | zero => exact fun x h => tm_it_up f s 8 x h
    | succ k ih => exact fun x h => tm_gsn_in f _ _ hC ih 8 (Nat.le_refl _) x h
  have h1 := tm_it_le f s 8 w
  have h2 := hin 8 w
  cases ha : (tm_it (tm_gs f) 8 s).testBit w with
  | true => exact (h2 ha).symm
  | false =>
    cases hb : (tm_it (tm_jac f) 8 s).testBit w with
    | false => rfl
    | true => rw [h1 hb] at ha; cases ha
theorem tm_or256 {a b : Nat} (ha : a < 256) (hb : b < 256) : a ||| b < 256 := Nat.or_lt_two_pow (n := 8) ha hb
theorem tm_all_256 {f : Nat → Nat} (hf : ∀ u, u < 8 → f u < 256) (s : Nat) : ∀ n, n ≤ 8 → tm_all f s n < 256 := by
  intro n
  induction n with
  | zero => exact fun _ => by show 0 < 256; decide
  | succ n ih =>
    intro hn
    rw [tm_all_s]
    cases s.testBit n with
    | true => exact tm_or256 (ih (by omega)) (hf n (by omega))
    | false => exact ih (by omega)
theorem tm_gsn_256 {f : Nat → Nat} (hf : ∀ u, u < 8 → f u < 256) {s : Nat} (hs : s < 256) : ∀ n, n ≤ 8 → tm_gsn f s n < 256 := by
  intro n
  induction n with
  | zero => exact fun _ => hs
  | succ n ih =>
    intro hn
    rw [tm_gsn_s]
    cases (tm_gsn f s n).testBit n with
    | true => exact tm_or256 (ih (by omega)) (hf n (by omega))
    | false => exact ih (by omega)
end
section
/-! 09.rows: more rows of the small machine -/
section TLR2
variable {P : tl_P} {d j pc : Nat} {L : tl_L} {st : List tl_V} {w : tl_W} {Q : tl_Q}
theorem tl_ift (c : Prop) (pt pf : Nat) (L' : tl_L) (st' : List tl_V) (h : ∀ n, tl_br c (tl_wp P (tl_C P d) j Q n pt L' st' w) (tl_wp P (tl_C P d) j Q n pf L' st' w) → tl_wp P (tl_C P d) j Q (n + 1) pc L st w) (hc : c) (kt : tl_E P d j pt L' st' w Q) : tl_E P d j pc L st w Q :=
  tl_if c pt pf L' st' h (fun _ => kt) (fun q => absurd hc q)
theorem tl_iff (c : Prop) (pt pf : Nat) (L' : tl_L) (st' : List tl_V) (h : ∀ n, tl_br c (tl_wp P (tl_C P d) j Q n pt L' st' w) (tl_wp P (tl_C P d) j Q n pf L' st' w) → tl_wp P (tl_C P d) j Q (n + 1) pc L st w) (hc : ¬ c) (kf : tl_E P d j pf L' st' w Q) : tl_E P d j pc L st w Q :=
  tl_if c pt pf L' st' h (fun q => absurd q hc) (fun _ => kf)
theorem tl_reti {x y : Int} (hc : tl_at (P.1 j).1 pc = some .ireturn) (hr : (P.1 j).2.2 = some .int) (hx : x = y) (hQ : Q (.inl (some y)) w) : tl_E P d j pc L [.inl x] w Q := by
  subst hx
  refine tl_one hc ⟨0, rfl, ?_, hQ⟩
  rw [hr]
  exact Or.inl rfl
theorem tl_retz {x y : Int} (hc : tl_at (P.1 j).1 pc = some .ireturn) (hr : (P.1 j).2.2 = some .boolean) (hx : x = y ∧ (y = 0 ∨ y = 1)) (hQ : Q (.inl (some y)) w) : tl_E P d j pc L [.inl x] w Q := by
  obtain ⟨hx, hy⟩ := hx
  subst hx
  refine tl_one hc ⟨0, rfl, ?_, hQ⟩
  rw [hr]
  exact Or.inr ⟨hy, rfl⟩
theorem tl_retv (hc : tl_at (P.1 j).1 pc = some .return_) (hr : (P.1 j).2.2 = none) (hQ : Q (.inl none) w) : tl_E P d j pc L [] w Q :=
  tl_one hc ⟨0, rfl, hr, hQ⟩
theorem tl_thr {ix k : Nat} (hc : tl_at (P.1 j).1 pc = some (.new ix)) (hk : P.2.2.2.2 ix = some k) (hQ : Q (.inr k) w) : tl_E P d j pc L [] w Q := by
  refine tl_one hc ⟨0, rfl, ?_⟩
  show tl_some (P.2.2.2.2 ix) _
  rw [hk]
  exact hQ
theorem tl_and2 {x y : Int} {r : List tl_V} (a b : Nat) (hc : tl_at (P.1 j).1 pc = some .iand) (hx : x = a) (hy : y = b) (kk : tl_E P d j (pc + 1) L (.inl ((a &&& b : Nat) : Int) :: r) w Q) : tl_E P d j pc L (.inl y :: .inl x :: r) w Q := by
  obtain ⟨m, hm⟩ := kk
  exact tl_one hc ⟨m, a, b, hx, hy, hm⟩
theorem tl_or2 {x y : Int} {r : List tl_V} (a b : Nat) (hc : tl_at (P.1 j).1 pc = some .ior) (hx : x = a) (hy : y = b) (kk : tl_E P d j (pc + 1) L (.inl ((a ||| b : Nat) : Int) :: r) w Q) : tl_E P d j pc L (.inl y :: .inl x :: r) w Q := by
  obtain ⟨m, hm⟩ := kk
  exact tl_one hc ⟨m, a, b, hx, hy, hm⟩
theorem tl_div2 {x y : Int} {r : List tl_V} (a b : Nat) (hc : tl_at (P.1 j).1 pc = some .idiv) (hx : x = a) (hy : y = b) (h0 : 0 < b) (kk : tl_E P d j (pc + 1) L (.inl ((a / b : Nat) : Int) :: r) w Q) : tl_E P d j pc L (.inl y :: .inl x :: r) w Q := by
  obtain ⟨m, hm⟩ := kk
  exact tl_one hc ⟨m, a, b, hx, hy, h0, hm⟩
theorem tl_shl2 {x y : Int} {r : List tl_V} (a b : Nat) (hc : tl_at (P.1 j).1 pc = some .ishl) (hx : x = a) (hy : y = b) (h0 : b < 32) (h1 : a * 2 ^ b < 2147483648) (kk : tl_E P d j (pc + 1) L (.inl ((a * 2 ^ b : Nat) : Int) :: r) w Q) : tl_E P d j pc L (.inl y :: .inl x :: r) w Q := by
  obtain ⟨m, hm⟩ := kk
  exact tl_one hc ⟨m, a, b, hx, hy, h0, h1, hm⟩
theorem tl_shr2 {x y : Int} {r : List tl_V} (a b : Nat) (hc : tl_at (P.1 j).1 pc = some .ishr) (hx : x = a) (hy : y = b) (h0 : b < 32) (kk : tl_E P d j (pc + 1) L (.inl ((a / 2 ^ b : Nat) : Int) :: r) w Q) : tl_E P d j pc L (.inl y :: .inl x :: r) w Q := by
  obtain ⟨m, hm⟩ := kk
  exact tl_one hc ⟨m, a, b, hx, hy, h0, hm⟩
theorem tm_b01 (b : Bool) : tm_b b = 0 ∨ tm_b b = 1 := by cases b; exact Or.inl rfl; exact Or.inr rfl
/-- a truth value as its number -/
theorem tm_b1 {b : Bool} (h : b = true) : (1 : Int) = tm_b b ∧ (tm_b b = 0 ∨ tm_b b = 1) := ⟨by rw [h]; rfl, tm_b01 b⟩
theorem tm_b0 {b : Bool} (h : b = false) : (0 : Int) = tm_b b ∧ (tm_b b = 0 ∨ tm_b b = 1) := ⟨by rw [h]; rfl, tm_b01 b⟩
theorem tm_bne {b : Bool} (h : ¬ tm_b b = 0) : b = true := by cases b; exact absurd rfl h; rfl
theorem tm_beq {b : Bool} (h : tm_b b = 0) : b = false := by cases b; rfl; cases h
end TLR2
end
section
/-! 10.small: the class's small methods, printed by a1.py -/
theorem ta_isT (d : Nat) (t : Int) (w : tl_W) : tl_Ev ta_P (d + 1) 13 [.inl t] w (.inl (some (tm_b (decide (0 ≤ t ∧ t < 8))))) w := by
  refine tl_start fun Q hQ => ?_
  refine tl_go 1 1 [(0, .inl t)] [.inl t] w (fun _ h => h) ?_
  refine tl_if (t < 0) 14 4 [(0, .inl t)] [] (fun _ h => h) (fun hc0 => ?_) (fun hc0 => ?_)
  · refine tl_go 1 15 [(0, .inl t)] [.inl 0] w (fun _ h => h) ?_
    exact tl_retz rfl rfl (tm_b0 (decide_eq_false (by omega))) (hQ)
  · refine tl_go 2 7 [(0, .inl t)] [.inl 8, .inl t] w (fun _ h => h) ?_
    refine tl_if (8 ≤ t) 14 10 [(0, .inl t)] [] (fun _ h => h) (fun hc1 => ?_) (fun hc1 => ?_)
    · refine tl_go 1 15 [(0, .inl t)] [.inl 0] w (fun _ h => h) ?_
      exact tl_retz rfl rfl (tm_b0 (decide_eq_false (by omega))) (hQ)
    · refine tl_go 2 15 [(0, .inl t)] [.inl 1] w (fun _ h => h) ?_
      exact tl_retz rfl rfl (tm_b1 (decide_eq_true (by omega))) (hQ)
theorem ta_isR (d : Nat) (r : Int) (w : tl_W) : tl_Ev ta_P (d + 1) 14 [.inl r] w (.inl (some (tm_b (decide (0 ≤ r ∧ r < 34))))) w := by
  refine tl_start fun Q hQ => ?_
  refine tl_go 1 1 [(0, .inl r)] [.inl r] w (fun _ h => h) ?_
  refine tl_if (r < 0) 14 4 [(0, .inl r)] [] (fun _ h => h) (fun hc0 => ?_) (fun hc0 => ?_)
  · refine tl_go 1 15 [(0, .inl r)] [.inl 0] w (fun _ h => h) ?_
    exact tl_retz rfl rfl (tm_b0 (decide_eq_false (by omega))) (hQ)
  · refine tl_go 2 7 [(0, .inl r)] [.inl 34, .inl r] w (fun _ h => h) ?_
    refine tl_if (34 ≤ r) 14 10 [(0, .inl r)] [] (fun _ h => h) (fun hc1 => ?_) (fun hc1 => ?_)
    · refine tl_go 1 15 [(0, .inl r)] [.inl 0] w (fun _ h => h) ?_
      exact tl_retz rfl rfl (tm_b0 (decide_eq_false (by omega))) (hQ)
    · refine tl_go 2 15 [(0, .inl r)] [.inl 1] w (fun _ h => h) ?_
      exact tl_retz rfl rfl (tm_b1 (decide_eq_true (by omega))) (hQ)
theorem ta_isRow (d : Nat) (r : Int) (w : tl_W) : tl_Ev ta_P (d + 1) 15 [.inl r] w (.inl (some (tm_b (decide (10 ≤ r))))) w := by
  refine tl_start fun Q hQ => ?_
  refine tl_go 2 3 [(0, .inl r)] [.inl 10, .inl r] w (fun _ h => h) ?_
  refine tl_if (r < 10) 10 6 [(0, .inl r)] [] (fun _ h => h) (fun hc0 => ?_) (fun hc0 => ?_)
  · refine tl_go 1 11 [(0, .inl r)] [.inl 0] w (fun _ h => h) ?_
    exact tl_retz rfl rfl (tm_b0 (decide_eq_false (by omega))) (hQ)
  · refine tl_go 2 11 [(0, .inl r)] [.inl 1] w (fun _ h => h) ?_
    exact tl_retz rfl rfl (tm_b1 (decide_eq_true (by omega))) (hQ)
theorem ta_isTP (d : Nat) (r : Int) (w : tl_W) : tl_Ev ta_P (d + 1) 16 [.inl r] w (.inl (some (tm_b (decide (1 ≤ r ∧ r < 10))))) w := by
  refine tl_start fun Q hQ => ?_
  refine tl_go 2 2 [(0, .inl r)] [.inl 1, .inl r] w (fun _ h => h) ?_
  refine tl_if (r < 1) 15 5 [(0, .inl r)] [] (fun _ h => h) (fun hc0 => ?_) (fun hc0 => ?_)
  · refine tl_go 1 16 [(0, .inl r)] [.inl 0] w (fun _ h => h) ?_
    exact tl_retz rfl rfl (tm_b0 (decide_eq_false (by omega))) (hQ)
  · refine tl_go 2 8 [(0, .inl r)] [.inl 10, .inl r] w (fun _ h => h) ?_
    refine tl_if (10 ≤ r) 15 11 [(0, .inl r)] [] (fun _ h => h) (fun hc1 => ?_) (fun hc1 => ?_)
    · refine tl_go 1 16 [(0, .inl r)] [.inl 0] w (fun _ h => h) ?_
      exact tl_retz rfl rfl (tm_b0 (decide_eq_false (by omega))) (hQ)
    · refine tl_go 2 16 [(0, .inl r)] [.inl 1] w (fun _ h => h) ?_
      exact tl_retz rfl rfl (tm_b1 (decide_eq_true (by omega))) (hQ)
theorem ta_rd (d : Nat) (m : Int) (w : tl_W) : tl_Ev ta_P (d + 1) 22 [.inl m] w (.inl (some (tm_b (decide (m = 1 ∨ m = 3))))) w := by
  refine tl_start fun Q hQ => ?_
  refine tl_go 2 2 [(0, .inl m)] [.inl 1, .inl m] w (fun _ h => h) ?_
  refine tl_if (m = 1) 10 5 [(0, .inl m)] [] (fun _ h => h) (fun hc0 => ?_) (fun hc0 => ?_)
  · refine tl_go 2 15 [(0, .inl m)] [.inl 1] w (fun _ h => h) ?_
    exact tl_retz rfl rfl (tm_b1 (decide_eq_true (by omega))) (hQ)
  · refine tl_go 2 7 [(0, .inl m)] [.inl 3, .inl m] w (fun _ h => h) ?_
    refine tl_if (¬ m = 3) 14 10 [(0, .inl m)] [] (fun _ h => h) (fun hc1 => ?_) (fun hc1 => ?_)
    · refine tl_go 1 15 [(0, .inl m)] [.inl 0] w (fun _ h => h) ?_
      exact tl_retz rfl rfl (tm_b0 (decide_eq_false (by omega))) (hQ)
    · refine tl_go 2 15 [(0, .inl m)] [.inl 1] w (fun _ h => h) ?_
      exact tl_retz rfl rfl (tm_b1 (decide_eq_true (by omega))) (hQ)
theorem ta_cba (d : Nat) (r m : Int) (w : tl_W) : tl_Ev ta_P (d + 2) 23 [.inl r, .inl m] w (.inl (some (tm_b (decide ((10 ≤ r ∧ (m = 3 ∨ m = 5)) ∨ (r < 10 ∧ 1 ≤ m ∧ m ≤ 5)))))) w := by
  refine tl_start fun Q hQ => ?_
  refine tl_go 1 1 [(0, .inl r), (1, .inl m)] [.inl r] w (fun _ h => h) ?_
  refine tl_callS (as := [.inl r]) (rest := []) (v := some (tm_b (decide (10 ≤ r)))) (w' := w) rfl rfl rfl rfl (ta_isRow d r w) (Nat.le_of_ble_eq_true rfl) rfl rfl (Nat.le_of_ble_eq_true rfl) ?_
  refine tl_if ((tm_b (decide (10 ≤ r))) = 0) 25 7 [(0, .inl r), (1, .inl m)] [] (fun _ h => h) (fun hc0 => ?_) (fun hc0 => ?_)
  · have hc0 := of_decide_eq_false (tm_beq hc0)
    refine tl_go 2 27 [(0, .inl r), (1, .inl m)] [.inl 1, .inl m] w (fun _ h => h) ?_
    refine tl_if (m < 1) 39 30 [(0, .inl r), (1, .inl m)] [] (fun _ h => h) (fun hc1 => ?_) (fun hc1 => ?_)
    · refine tl_go 1 40 [(0, .inl r), (1, .inl m)] [.inl 0] w (fun _ h => h) ?_
      exact tl_retz rfl rfl (tm_b0 (decide_eq_false (by omega))) (hQ)
    · refine tl_go 2 32 [(0, .inl r), (1, .inl m)] [.inl 5, .inl m] w (fun _ h => h) ?_
      refine tl_if (5 < m) 39 35 [(0, .inl r), (1, .inl m)] [] (fun _ h => h) (fun hc2 => ?_) (fun hc2 => ?_)
      · refine tl_go 1 40 [(0, .inl r), (1, .inl m)] [.inl 0] w (fun _ h => h) ?_
        exact tl_retz rfl rfl (tm_b0 (decide_eq_false (by omega))) (hQ)
      · refine tl_go 2 40 [(0, .inl r), (1, .inl m)] [.inl 1] w (fun _ h => h) ?_
        exact tl_retz rfl rfl (tm_b1 (decide_eq_true (by omega))) (hQ)
  · have hc0 := of_decide_eq_true (tm_bne hc0)
    refine tl_go 2 9 [(0, .inl r), (1, .inl m)] [.inl 3, .inl m] w (fun _ h => h) ?_
    refine tl_if (m = 3) 17 12 [(0, .inl r), (1, .inl m)] [] (fun _ h => h) (fun hc1 => ?_) (fun hc1 => ?_)
    · refine tl_go 2 40 [(0, .inl r), (1, .inl m)] [.inl 1] w (fun _ h => h) ?_
      exact tl_retz rfl rfl (tm_b1 (decide_eq_true (by omega))) (hQ)
    · refine tl_go 2 14 [(0, .inl r), (1, .inl m)] [.inl 5, .inl m] w (fun _ h => h) ?_
      refine tl_if (¬ m = 5) 21 17 [(0, .inl r), (1, .inl m)] [] (fun _ h => h) (fun hc2 => ?_) (fun hc2 => ?_)
      · refine tl_go 2 40 [(0, .inl r), (1, .inl m)] [.inl 0] w (fun _ h => h) ?_
        exact tl_retz rfl rfl (tm_b0 (decide_eq_false (by omega))) (hQ)
      · refine tl_go 2 40 [(0, .inl r), (1, .inl m)] [.inl 1] w (fun _ h => h) ?_
        exact tl_retz rfl rfl (tm_b1 (decide_eq_true (by omega))) (hQ)
theorem ta_par (d : Nat) (r : Nat) (hr : r < 34) (w : tl_W) : tl_Ev ta_P (d + 1) 17 [.inl ((r : Nat) : Int)] w (.inl (some (tm_pI r))) w := by
  refine tl_start fun Q hQ => ?_
  refine tl_go 1 1 [(0, .inl ((r : Nat) : Int))] [.inl ((r : Nat) : Int)] w (fun _ h => h) ?_
  refine tl_if (¬ ((r : Nat) : Int) = 0) 6 4 [(0, .inl ((r : Nat) : Int))] [] (fun _ h => h) (fun hc0 => ?_) (fun hc0 => ?_)
  · refine tl_go 2 8 [(0, .inl ((r : Nat) : Int))] [.inl 4, .inl ((r : Nat) : Int)] w (fun _ h => h) ?_
    refine tl_if (4 ≤ ((r : Nat) : Int)) 13 11 [(0, .inl ((r : Nat) : Int))] [] (fun _ h => h) (fun hc1 => ?_) (fun hc1 => ?_)
    · refine tl_go 2 16 [(0, .inl ((r : Nat) : Int))] [.inl 10, .inl ((r : Nat) : Int)] w (fun _ h => h) ?_
      refine tl_if (10 ≤ ((r : Nat) : Int)) 27 19 [(0, .inl ((r : Nat) : Int))] [] (fun _ h => h) (fun hc2 => ?_) (fun hc2 => ?_)
      · refine tl_go 5 33 [(0, .inl ((r : Nat) : Int))] [.inl 4, .inl (((r : Nat) : Int) - 10), .inl 4] w (fun _ h => And.intro (by omega) h) ?_
        refine tl_div2 (r - 10) 4 rfl (by omega) (by omega) (by decide) ?_
        refine tl_go 1 35 [(0, .inl ((r : Nat) : Int))] [.inl (4 + (((r - 10) / 4 : Nat) : Int))] w (fun _ h => And.intro (by omega) h) ?_
        exact tl_reti rfl rfl (by unfold tm_pI tm_pn; (repeat' split) <;> omega) (hQ)
      · refine tl_go 5 24 [(0, .inl ((r : Nat) : Int))] [.inl 2, .inl (((r : Nat) : Int) - 4), .inl 1] w (fun _ h => And.intro (by omega) h) ?_
        refine tl_div2 (r - 4) 2 rfl (by omega) (by omega) (by decide) ?_
        refine tl_go 1 26 [(0, .inl ((r : Nat) : Int))] [.inl (1 + (((r - 4) / 2 : Nat) : Int))] w (fun _ h => And.intro (by omega) h) ?_
        exact tl_reti rfl rfl (by unfold tm_pI tm_pn; (repeat' split) <;> omega) (hQ)
    · refine tl_go 1 12 [(0, .inl ((r : Nat) : Int))] [.inl 0] w (fun _ h => h) ?_
      exact tl_reti rfl rfl (by unfold tm_pI tm_pn; (repeat' split) <;> omega) (hQ)
  · refine tl_go 1 5 [(0, .inl ((r : Nat) : Int))] [.inl (-1)] w (fun _ h => h) ?_
    exact tl_reti rfl rfl (by unfold tm_pI tm_pn; (repeat' split) <;> omega) (hQ)
theorem ta_rt (d : Nat) (m : Nat) (w : tl_W) : tl_Ev ta_P (d + 1) 24 [.inl ((m : Nat) : Int)] w (.inl (some ((tm_rt m : Nat) : Int))) w := by
  refine tl_start fun Q hQ => ?_
  refine tl_go 2 2 [(0, .inl ((m : Nat) : Int))] [.inl 5, .inl ((m : Nat) : Int)] w (fun _ h => h) ?_
  refine tl_if (¬ ((m : Nat) : Int) = 5) 7 5 [(0, .inl ((m : Nat) : Int))] [] (fun _ h => h) (fun hc0 => ?_) (fun hc0 => ?_)
  · refine tl_go 2 9 [(0, .inl ((m : Nat) : Int))] [.inl 3, .inl ((m : Nat) : Int)] w (fun _ h => h) ?_
    refine tl_if (((m : Nat) : Int) = 3) 17 12 [(0, .inl ((m : Nat) : Int))] [] (fun _ h => h) (fun hc1 => ?_) (fun hc1 => ?_)
    · refine tl_go 2 22 [(0, .inl ((m : Nat) : Int))] [.inl 1] w (fun _ h => h) ?_
      exact tl_reti rfl rfl (by unfold tm_rt; (repeat' split) <;> omega) (hQ)
    · refine tl_go 2 14 [(0, .inl ((m : Nat) : Int))] [.inl 4, .inl ((m : Nat) : Int)] w (fun _ h => h) ?_
      refine tl_if (¬ ((m : Nat) : Int) = 4) 21 17 [(0, .inl ((m : Nat) : Int))] [] (fun _ h => h) (fun hc2 => ?_) (fun hc2 => ?_)
      · refine tl_go 1 22 [(0, .inl ((m : Nat) : Int))] [.inl 0] w (fun _ h => h) ?_
        exact tl_reti rfl rfl (by unfold tm_rt; (repeat' split) <;> omega) (hQ)
      · refine tl_go 2 22 [(0, .inl ((m : Nat) : Int))] [.inl 1] w (fun _ h => h) ?_
        exact tl_reti rfl rfl (by unfold tm_rt; (repeat' split) <;> omega) (hQ)
  · refine tl_go 1 6 [(0, .inl ((m : Nat) : Int))] [.inl 2] w (fun _ h => h) ?_
    exact tl_reti rfl rfl (by unfold tm_rt; (repeat' split) <;> omega) (hQ)
theorem ta_join (d : Nat) (a b : Nat) (w : tl_W) : tl_Ev ta_P (d + 1) 20 [.inl ((a : Nat) : Int), .inl ((b : Nat) : Int)] w (.inl (some ((tm_jn a b : Nat) : Int))) w := by
  refine tl_start fun Q hQ => ?_
  refine tl_go 2 2 [(0, .inl ((a : Nat) : Int)), (1, .inl ((b : Nat) : Int))] [.inl ((b : Nat) : Int), .inl ((a : Nat) : Int)] w (fun _ h => h) ?_
  refine tl_go 1 5 [(0, .inl ((a : Nat) : Int)), (1, .inl ((b : Nat) : Int))] [.inl (min ((a : Nat) : Int) ((b : Nat) : Int))] w (fun _ h => And.intro (Nat.le_of_ble_eq_true rfl) h) ?_
  refine tl_top (y := ((min a b : Nat) : Int)) (by omega) ?_
  refine tl_go 3 8 [(0, .inl ((a : Nat) : Int)), (1, .inl ((b : Nat) : Int)), (2, .inl ((min a b : Nat) : Int))] [.inl ((b : Nat) : Int), .inl ((a : Nat) : Int)] w (fun _ h => h) ?_
  refine tl_go 1 11 [(0, .inl ((a : Nat) : Int)), (1, .inl ((b : Nat) : Int)), (2, .inl ((min a b : Nat) : Int))] [.inl (max ((a : Nat) : Int) ((b : Nat) : Int))] w (fun _ h => And.intro (Nat.le_of_ble_eq_true rfl) h) ?_
  refine tl_top (y := ((max a b : Nat) : Int)) (by omega) ?_
  refine tl_go 3 14 [(0, .inl ((a : Nat) : Int)), (1, .inl ((b : Nat) : Int)), (2, .inl ((min a b : Nat) : Int)), (3, .inl ((max a b : Nat) : Int))] [.inl 2, .inl ((min a b : Nat) : Int)] w (fun _ h => h) ?_
  refine tl_if (¬ ((min a b : Nat) : Int) = 2) 26 17 [(0, .inl ((a : Nat) : Int)), (1, .inl ((b : Nat) : Int)), (2, .inl ((min a b : Nat) : Int)), (3, .inl ((max a b : Nat) : Int))] [] (fun _ h => h) (fun hc0 => ?_) (fun hc0 => ?_)
  · refine tl_go 1 27 [(0, .inl ((a : Nat) : Int)), (1, .inl ((b : Nat) : Int)), (2, .inl ((min a b : Nat) : Int)), (3, .inl ((max a b : Nat) : Int))] [.inl ((max a b : Nat) : Int)] w (fun _ h => h) ?_
    exact tl_reti rfl rfl (by unfold tm_jn; (repeat' split) <;> omega) (hQ)
  · refine tl_go 2 19 [(0, .inl ((a : Nat) : Int)), (1, .inl ((b : Nat) : Int)), (2, .inl ((min a b : Nat) : Int)), (3, .inl ((max a b : Nat) : Int))] [.inl 3, .inl ((max a b : Nat) : Int)] w (fun _ h => h) ?_
    refine tl_if (¬ ((max a b : Nat) : Int) = 3) 26 22 [(0, .inl ((a : Nat) : Int)), (1, .inl ((b : Nat) : Int)), (2, .inl ((min a b : Nat) : Int)), (3, .inl ((max a b : Nat) : Int))] [] (fun _ h => h) (fun hc1 => ?_) (fun hc1 => ?_)
    · refine tl_go 1 27 [(0, .inl ((a : Nat) : Int)), (1, .inl ((b : Nat) : Int)), (2, .inl ((min a b : Nat) : Int)), (3, .inl ((max a b : Nat) : Int))] [.inl ((max a b : Nat) : Int)] w (fun _ h => h) ?_
      exact tl_reti rfl rfl (by unfold tm_jn; (repeat' split) <;> omega) (hQ)
    · refine tl_go 2 27 [(0, .inl ((a : Nat) : Int)), (1, .inl ((b : Nat) : Int)), (2, .inl ((min a b : Nat) : Int)), (3, .inl ((max a b : Nat) : Int))] [.inl 4] w (fun _ h => h) ?_
      exact tl_reti rfl rfl (by unfold tm_jn; (repeat' split) <;> omega) (hQ)
theorem ta_cov (d : Nat) (a b : Nat) (w : tl_W) : tl_Ev ta_P (d + 2) 21 [.inl ((a : Nat) : Int), .inl ((b : Nat) : Int)] w (.inl (some (tm_b (decide (tm_jn a b = a))))) w := by
  refine tl_start fun Q hQ => ?_
  refine tl_go 2 2 [(0, .inl ((a : Nat) : Int)), (1, .inl ((b : Nat) : Int))] [.inl ((b : Nat) : Int), .inl ((a : Nat) : Int)] w (fun _ h => h) ?_
  refine tl_callS (as := [.inl ((a : Nat) : Int), .inl ((b : Nat) : Int)]) (rest := []) (v := some ((tm_jn a b : Nat) : Int)) (w' := w) rfl rfl rfl rfl (ta_join d a b w) (Nat.le_of_ble_eq_true rfl) rfl rfl (Nat.le_of_ble_eq_true rfl) ?_
  refine tl_go 1 6 [(0, .inl ((a : Nat) : Int)), (1, .inl ((b : Nat) : Int))] [.inl ((a : Nat) : Int), .inl ((tm_jn a b : Nat) : Int)] w (fun _ h => h) ?_
  refine tl_if (¬ ((tm_jn a b : Nat) : Int) = ((a : Nat) : Int)) 13 9 [(0, .inl ((a : Nat) : Int)), (1, .inl ((b : Nat) : Int))] [] (fun _ h => h) (fun hc0 => ?_) (fun hc0 => ?_)
  · refine tl_go 1 14 [(0, .inl ((a : Nat) : Int)), (1, .inl ((b : Nat) : Int))] [.inl 0] w (fun _ h => h) ?_
    exact tl_retz rfl rfl (tm_b0 (decide_eq_false (by omega))) (hQ)
  · refine tl_go 2 14 [(0, .inl ((a : Nat) : Int)), (1, .inl ((b : Nat) : Int))] [.inl 1] w (fun _ h => h) ?_
    exact tl_retz rfl rfl (tm_b1 (decide_eq_true (by omega))) (hQ)
theorem ta_mo (d : Nat) (t r : Nat) (ht : t < 8) (hr : r < 34) (w : tl_W) {x : Int} (hx : w 0 (34 * t + r) = x) : tl_Ev ta_P (d + 1) 25 [.inr 0, .inl ((t : Nat) : Int), .inl ((r : Nat) : Int)] w (.inl (some x)) w := by
  refine tl_start fun Q hQ => ?_
  refine tl_go 7 10 [(0, .inr 0), (1, .inl ((t : Nat) : Int)), (2, .inl ((r : Nat) : Int))] [.inl ((((t : Nat) : Int) * 34) + ((r : Nat) : Int)), .inr 1] w (fun _ h => And.intro rfl (And.intro (by decide) (And.intro (by omega) (And.intro (by omega) h)))) ?_
  refine tl_ald (34 * t + r) 272 (k := 0) rfl (by omega) rfl (by omega) ?_
  exact tl_reti rfl rfl (hx) (hQ)
theorem ta_sm (d : Nat) (t r : Nat) (ht : t < 8) (hr : r < 34) (x : Int) (w : tl_W) : tl_Ev ta_P (d + 1) 26 [.inr 0, .inl ((t : Nat) : Int), .inl ((r : Nat) : Int), .inl x] w (.inl (none)) (tl_set w 0 (34 * t + r) x) := by
  refine tl_start fun Q hQ => ?_
  refine tl_go 8 11 [(0, .inr 0), (1, .inl ((t : Nat) : Int)), (2, .inl ((r : Nat) : Int)), (3, .inl x)] [.inl x, .inl ((((t : Nat) : Int) * 34) + ((r : Nat) : Int)), .inr 1] w (fun _ h => And.intro rfl (And.intro (by decide) (And.intro (by omega) (And.intro (by omega) h)))) ?_
  refine tl_ast (34 * t + r) 272 (k := 0) rfl (by decide) (by omega) rfl (by omega) ?_
  exact tl_retv rfl rfl (hQ)
theorem ta_ih (d : Nat) (t r : Nat) (ht : t < 8) (hr : r < 34) (w : tl_W) {x : Nat} (hx : w 0 (34 * t + r) = x) : tl_Ev ta_P (d + 2) 27 [.inr 0, .inl ((t : Nat) : Int), .inl ((r : Nat) : Int)] w (.inl (some (tm_b (decide (x ≠ 0))))) w := by
  refine tl_start fun Q hQ => ?_
  refine tl_go 3 3 [(0, .inr 0), (1, .inl ((t : Nat) : Int)), (2, .inl ((r : Nat) : Int))] [.inl ((r : Nat) : Int), .inl ((t : Nat) : Int), .inr 0] w (fun _ h => h) ?_
  refine tl_callV (as := [.inr 0, .inl ((t : Nat) : Int), .inl ((r : Nat) : Int)]) (rest := []) (v := some ((x : Nat) : Int)) (w' := w) rfl rfl (ta_mo d t r ht hr w hx) (Nat.le_of_ble_eq_true rfl) rfl rfl rfl (Nat.le_of_ble_eq_true rfl) ?_
  refine tl_if (((x : Nat) : Int) = 0) 13 9 [(0, .inr 0), (1, .inl ((t : Nat) : Int)), (2, .inl ((r : Nat) : Int))] [] (fun _ h => h) (fun hc0 => ?_) (fun hc0 => ?_)
  · refine tl_go 1 14 [(0, .inr 0), (1, .inl ((t : Nat) : Int)), (2, .inl ((r : Nat) : Int))] [.inl 0] w (fun _ h => h) ?_
    exact tl_retz rfl rfl (tm_b0 (decide_eq_false (by omega))) (hQ)
  · refine tl_go 2 14 [(0, .inr 0), (1, .inl ((t : Nat) : Int)), (2, .inl ((r : Nat) : Int))] [.inl 1] w (fun _ h => h) ?_
    exact tl_retz rfl rfl (tm_b1 (decide_eq_true (by omega))) (hQ)
theorem ta_con (d : Nat) (s t : Nat) (ht : t < 32) (w : tl_W) : tl_Ev ta_P (d + 1) 46 [.inl ((s : Nat) : Int), .inl ((t : Nat) : Int)] w (.inl (some (tm_b (decide (s.testBit t = true))))) w := by
  refine tl_start fun Q hQ => ?_
  refine tl_go 2 2 [(0, .inl ((s : Nat) : Int)), (1, .inl ((t : Nat) : Int))] [.inl ((t : Nat) : Int), .inl ((s : Nat) : Int)] w (fun _ h => h) ?_
  refine tl_shr2 s t rfl rfl rfl ht ?_
  refine tl_go 1 4 [(0, .inl ((s : Nat) : Int)), (1, .inl ((t : Nat) : Int))] [.inl 1, .inl ((s / 2 ^ t : Nat) : Int)] w (fun _ h => h) ?_
  refine tl_and2 (s / 2 ^ t) 1 rfl rfl rfl ?_
  refine tl_top (y := ((s / 2 ^ t % 2 : Nat) : Int)) (by rw [Nat.and_one_is_mod]) ?_
  have hb : s.testBit t = decide (s / 2 ^ t % 2 = 1) := Nat.testBit_eq_decide_div_mod_eq
  refine tl_go 1 6 [(0, .inl ((s : Nat) : Int)), (1, .inl ((t : Nat) : Int))] [.inl 1, .inl ((s / 2 ^ t % 2 : Nat) : Int)] w (fun _ h => h) ?_
  refine tl_if (¬ ((s / 2 ^ t % 2 : Nat) : Int) = 1) 13 9 [(0, .inl ((s : Nat) : Int)), (1, .inl ((t : Nat) : Int))] [] (fun _ h => h) (fun hc0 => ?_) (fun hc0 => ?_)
  · refine tl_go 1 14 [(0, .inl ((s : Nat) : Int)), (1, .inl ((t : Nat) : Int))] [.inl 0] w (fun _ h => h) ?_
    exact tl_retz rfl rfl (tm_b0 (decide_eq_false (by rw [hb]; intro q; have := of_decide_eq_true q; omega))) (hQ)
  · refine tl_go 2 14 [(0, .inl ((s : Nat) : Int)), (1, .inl ((t : Nat) : Int))] [.inl 1] w (fun _ h => h) ?_
    exact tl_retz rfl rfl (tm_b1 (decide_eq_true (by rw [hb]; exact decide_eq_true (by omega)))) (hQ)
def tm_aw (x : Nat) : Int := if x < 2 then -1 else (x : Int) - 2
theorem ta_aw (d : Nat) (t : Nat) (ht : t < 8) (w : tl_W) {x : Nat} (hx : w 1 t = x) (hx5 : x ≤ 35) : tl_Ev ta_P (d + 1) 35 [.inr 0, .inl ((t : Nat) : Int)] w (.inl (some (tm_aw x))) w := by
  refine tl_start fun Q hQ => ?_
  refine tl_go 3 5 [(0, .inr 0), (1, .inl ((t : Nat) : Int))] [.inl ((t : Nat) : Int), .inr 2] w (fun _ h => And.intro rfl (And.intro (by decide) (h))) ?_
  refine tl_ald (t) 8 (k := 1) rfl (by omega) rfl (by omega) ?_
  refine tl_top (y := ((x : Nat) : Int)) (hx) ?_
  refine tl_go 1 7 [(0, .inr 0), (1, .inl ((t : Nat) : Int))] [.inl 2, .inl ((x : Nat) : Int)] w (fun _ h => h) ?_
  refine tl_if (((x : Nat) : Int) < 2) 21 10 [(0, .inr 0), (1, .inl ((t : Nat) : Int))] [] (fun _ h => h) (fun hc => ?_) (fun hc => ?_)
  · refine tl_go 1 22 [(0, .inr 0), (1, .inl ((t : Nat) : Int))] [.inl (-1)] w (fun _ h => h) ?_
    exact tl_reti rfl rfl (by unfold tm_aw; split <;> omega) (hQ)
  · refine tl_go 3 15 [(0, .inr 0), (1, .inl ((t : Nat) : Int))] [.inl ((t : Nat) : Int), .inr 2] w (fun _ h => And.intro rfl (And.intro (by decide) (h))) ?_
    refine tl_ald (t) 8 (k := 1) rfl (by omega) rfl (by omega) ?_
    refine tl_top (y := ((x : Nat) : Int)) (hx) ?_
    refine tl_go 3 22 [(0, .inr 0), (1, .inl ((t : Nat) : Int))] [.inl (((x : Nat) : Int) - 2)] w (fun _ h => And.intro (by omega) h) ?_
    exact tl_reti rfl rfl (by unfold tm_aw; split <;> omega) (hQ)
def tm_tb : Nat → Nat
  | 0 => 63
  | 1 => 31
  | 2 => 7
  | 3 => 11
  | 4 => 3
  | _ => 1
theorem tm_tb_t : ∀ a, a < 6 → ∀ b, b < 6 → (tm_tb a / 2 ^ b &&& 1 = 1 ↔ tm_tog a b = true) := by decide +kernel
theorem ta_tog (d : Nat) (a b : Nat) (ha : a ≤ 5) (hb : b ≤ 5) (w : tl_W) (hT : ∀ j, j < 6 → w 99 j = (tm_tb j : Int)) : tl_Ev ta_P (d + 1) 19 [.inl ((a : Nat) : Int), .inl ((b : Nat) : Int)] w (.inl (some (tm_b (decide (tm_tog a b = true))))) w := by
  refine tl_start fun Q hQ => ?_
  refine tl_go 2 4 [(0, .inl ((a : Nat) : Int)), (1, .inl ((b : Nat) : Int))] [.inl ((a : Nat) : Int), .inr 100] w (fun _ h => And.intro rfl (h)) ?_
  refine tl_ald (a) 6 (k := 99) rfl (by omega) rfl (by omega) ?_
  refine tl_top (y := ((tm_tb a : Nat) : Int)) (hT a (by omega)) ?_
  refine tl_go 1 6 [(0, .inl ((a : Nat) : Int)), (1, .inl ((b : Nat) : Int))] [.inl ((b : Nat) : Int), .inl ((tm_tb a : Nat) : Int)] w (fun _ h => h) ?_
  refine tl_shr2 (tm_tb a) b rfl rfl rfl (by omega) ?_
  refine tl_go 1 8 [(0, .inl ((a : Nat) : Int)), (1, .inl ((b : Nat) : Int))] [.inl 1, .inl ((tm_tb a / 2 ^ b : Nat) : Int)] w (fun _ h => h) ?_
  refine tl_and2 (tm_tb a / 2 ^ b) 1 rfl rfl rfl ?_
  have hb := tm_tb_t a (by omega) b (by omega)
  refine tl_go 1 10 [(0, .inl ((a : Nat) : Int)), (1, .inl ((b : Nat) : Int))] [.inl 1, .inl ((tm_tb a / 2 ^ b &&& 1 : Nat) : Int)] w (fun _ h => h) ?_
  refine tl_if (¬ ((tm_tb a / 2 ^ b &&& 1 : Nat) : Int) = 1) 17 13 [(0, .inl ((a : Nat) : Int)), (1, .inl ((b : Nat) : Int))] [] (fun _ h => h) (fun hc0 => ?_) (fun hc0 => ?_)
  · refine tl_go 1 18 [(0, .inl ((a : Nat) : Int)), (1, .inl ((b : Nat) : Int))] [.inl 0] w (fun _ h => h) ?_
    exact tl_retz rfl rfl (tm_b0 (decide_eq_false (fun q => hc0 (by rw [hb.mpr q]; rfl)))) (hQ)
  · refine tl_go 2 18 [(0, .inl ((a : Nat) : Int)), (1, .inl ((b : Nat) : Int))] [.inl 1] w (fun _ h => h) ?_
    exact tl_retz rfl rfl (tm_b1 (decide_eq_true (hb.mp (by omega)))) (hQ)
end
section
/-! 11.reads: the class's methods that read in loops, printed by a2.py -/
theorem tm_range_all (p : Nat → Bool) (i : Nat) : (List.range (i + 1)).all p = ((List.range i).all p && p i) := by
  rw [List.range_succ, List.all_append]
  simp
theorem tm_all_8 {p : Nat → Bool} {i n : Nat} (hi : i < n) (h : p i = false) : (List.range n).all p = false := by
  rw [← Bool.not_eq_true, List.all_eq_true]
  intro q
  have := q i (List.mem_range.mpr hi)
  rw [h] at this
  cases this

theorem ta_fit (d : Nat) (t r m : Nat) (ht : t < 8) (hr : r < 34) (hm : m ≤ 5) {M : Nat → Nat} (w : tl_W) (hM : ∀ i, i < 272 → w 0 i = (M i : Int)) (hM5 : ∀ i, i < 272 → M i ≤ 5) (hT : ∀ j, j < 6 → w 99 j = (tm_tb j : Int)) : tl_Ev ta_P (d + 2) 29 [.inr 0, .inl ((t : Nat) : Int), .inl ((r : Nat) : Int), .inl ((m : Nat) : Int)] w (.inl (some (tm_b (decide (tm_fits M t r m = true))))) w := by
  refine tl_start fun Q hQ => ?_
  refine tl_go 2 3 [(0, .inr 0), (1, .inl ((t : Nat) : Int)), (2, .inl ((r : Nat) : Int)), (3, .inl ((m : Nat) : Int)), (4, .inl 0)] [] w (fun _ h => h) ?_
  have loop : ∀ k i : Nat, i + k = 8 → (List.range i).all (fun u => u == t || tm_tog m (M (34 * u + r))) = true → tl_E ta_P (d + 1) 29 3 [(0, .inr 0), (1, .inl (t : Int)), (2, .inl (r : Int)), (3, .inl (m : Int)), (4, .inl (i : Int))] [] w Q := by
    intro k
    induction k with
    | zero =>
      intro i hi hall
      have hall8 : tm_fits M t r m = true := by rw [show i = 8 by omega] at hall; exact hall
      refine tl_go 2 7 [(0, .inr 0), (1, .inl ((t : Nat) : Int)), (2, .inl ((r : Nat) : Int)), (3, .inl ((m : Nat) : Int)), (4, .inl ((i : Nat) : Int))] [.inl 8, .inl ((i : Nat) : Int)] w (fun _ h => h) ?_
      refine tl_ift (8 ≤ ((i : Nat) : Int)) 38 10 [(0, .inr 0), (1, .inl ((t : Nat) : Int)), (2, .inl ((r : Nat) : Int)), (3, .inl ((m : Nat) : Int)), (4, .inl ((i : Nat) : Int))] [] (fun _ h => h) (by omega) ?_
      refine tl_go 1 39 [(0, .inr 0), (1, .inl ((t : Nat) : Int)), (2, .inl ((r : Nat) : Int)), (3, .inl ((m : Nat) : Int)), (4, .inl ((i : Nat) : Int))] [.inl 1] w (fun _ h => h) ?_
      exact tl_retz rfl rfl (tm_b1 (decide_eq_true hall8)) (hQ)
    | succ k ih =>
      intro i hi hall
      refine tl_go 2 7 [(0, .inr 0), (1, .inl ((t : Nat) : Int)), (2, .inl ((r : Nat) : Int)), (3, .inl ((m : Nat) : Int)), (4, .inl ((i : Nat) : Int))] [.inl 8, .inl ((i : Nat) : Int)] w (fun _ h => h) ?_
      refine tl_iff (8 ≤ ((i : Nat) : Int)) 38 10 [(0, .inr 0), (1, .inl ((t : Nat) : Int)), (2, .inl ((r : Nat) : Int)), (3, .inl ((m : Nat) : Int)), (4, .inl ((i : Nat) : Int))] [] (fun _ h => h) (by omega) ?_
      refine tl_go 2 13 [(0, .inr 0), (1, .inl ((t : Nat) : Int)), (2, .inl ((r : Nat) : Int)), (3, .inl ((m : Nat) : Int)), (4, .inl ((i : Nat) : Int))] [.inl ((t : Nat) : Int), .inl ((i : Nat) : Int)] w (fun _ h => h) ?_
      refine tl_if (((i : Nat) : Int) = ((t : Nat) : Int)) 32 16 [(0, .inr 0), (1, .inl ((t : Nat) : Int)), (2, .inl ((r : Nat) : Int)), (3, .inl ((m : Nat) : Int)), (4, .inl ((i : Nat) : Int))] [] (fun _ h => h) (fun hc => ?_) (fun hc => ?_)
      · refine tl_go 2 3 [(0, .inr 0), (1, .inl ((t : Nat) : Int)), (2, .inl ((r : Nat) : Int)), (3, .inl ((m : Nat) : Int)), (4, .inl (((i : Nat) : Int) + 1))] [] w (fun _ h => And.intro (by omega) h) ?_
        exact ih (i + 1) (by omega) (by rw [tm_range_all, hall, show i = t by omega]; simp)
      · refine tl_go 4 21 [(0, .inr 0), (1, .inl ((t : Nat) : Int)), (2, .inl ((r : Nat) : Int)), (3, .inl ((m : Nat) : Int)), (4, .inl ((i : Nat) : Int))] [.inl ((r : Nat) : Int), .inl ((i : Nat) : Int), .inr 0, .inl ((m : Nat) : Int)] w (fun _ h => h) ?_
        refine tl_callV (as := [.inr 0, .inl ((i : Nat) : Int), .inl ((r : Nat) : Int)]) (rest := [.inl ((m : Nat) : Int)]) (v := some ((M (34 * i + r) : Nat) : Int)) (w' := w) rfl rfl (ta_mo d i r (by omega) hr w (hM _ (by omega))) (Nat.le_of_ble_eq_true rfl) rfl rfl rfl (Nat.le_of_ble_eq_true rfl) ?_
        refine tl_callS (as := [.inl ((m : Nat) : Int), .inl ((M (34 * i + r) : Nat) : Int)]) (rest := []) (v := some (tm_b (decide (tm_tog m (M (34 * i + r)) = true)))) (w' := w) rfl rfl rfl rfl (ta_tog d m (M (34 * i + r)) hm (hM5 _ (by omega)) w hT) (Nat.le_of_ble_eq_true rfl) rfl rfl (Nat.le_of_ble_eq_true rfl) ?_
        refine tl_if (¬ (tm_b (decide (tm_tog m (M (34 * i + r)) = true))) = 0) 32 30 [(0, .inr 0), (1, .inl ((t : Nat) : Int)), (2, .inl ((r : Nat) : Int)), (3, .inl ((m : Nat) : Int)), (4, .inl ((i : Nat) : Int))] [] (fun _ h => h) (fun hg => ?_) (fun hg => ?_)
        · have hg := of_decide_eq_true (tm_bne hg)
          refine tl_go 2 3 [(0, .inr 0), (1, .inl ((t : Nat) : Int)), (2, .inl ((r : Nat) : Int)), (3, .inl ((m : Nat) : Int)), (4, .inl (((i : Nat) : Int) + 1))] [] w (fun _ h => And.intro (by omega) h) ?_
          exact ih (i + 1) (by omega) (by rw [tm_range_all, hall, hg]; simp)
        · have hg := of_decide_eq_false (tm_beq (Classical.not_not.mp hg))
          refine tl_go 1 31 [(0, .inr 0), (1, .inl ((t : Nat) : Int)), (2, .inl ((r : Nat) : Int)), (3, .inl ((m : Nat) : Int)), (4, .inl ((i : Nat) : Int))] [.inl 0] w (fun _ h => h) ?_
          exact tl_retz rfl rfl (tm_b0 (decide_eq_false (by unfold tm_fits; rw [tm_all_8 (i := i) (by omega) (by rw [Bool.not_eq_true] at hg; rw [hg]; simp; omega)]; decide))) (hQ)
  exact loop 8 0 rfl rfl
def tm_sa (q : List Nat) (p : Int) : Int := if p < 0 then -1 else match q[p.toNat]? with
  | some t => (t : Int)
  | none => -1
/-- who waits at r, by the two arrays -/
def tm_at3 (w : tl_W) (σ : tm_S) : Prop := (∀ t, t < 8 → w 1 t = (σ.2.1 t : Int)) ∧ (∀ r, r < 34 → ∀ k t : Nat, (σ.2.2.2 r)[k]? = some t → w 3 t = (k : Int))
theorem tm_at3_iff {w : tl_W} {σ : tm_S} (hJ : tm_J σ) (h : tm_at3 w σ) {r t : Nat} (hr : r < 34) (ht : t < 8) (p : Int) : (tm_aw (σ.2.1 t) = r ∧ w 3 t = p) ↔ ∃ k : Nat, p = k ∧ (σ.2.2.2 r)[k]? = some t := by
  constructor
  · rintro ⟨h1, h2⟩
    have hs : σ.2.1 t = r + 2 := by unfold tm_aw at h1; split at h1 <;> omega
    obtain ⟨k, hk⟩ := List.getElem?_of_mem (((hJ.2.2 r hr).2.1 t).mpr ⟨ht, hs⟩)
    exact ⟨k, by rw [← h2, h.2 r hr k t hk], hk⟩
  · rintro ⟨k, rfl, hk⟩
    have hs := ((hJ.2.2 r hr).2.1 t).mp (List.mem_of_getElem? hk)
    refine ⟨?_, h.2 r hr k t hk⟩
    rw [hs.2]
    unfold tm_aw
    split <;> omega
theorem tm_sa_some {q : List Nat} {p : Int} {k t : Nat} (hp : p = k) (hk : q[k]? = some t) : tm_sa q p = t := by
  subst hp
  unfold tm_sa
  rw [if_neg (by omega), Int.toNat_natCast, hk]
theorem tm_sa_none {q : List Nat} {p : Int} (h : ∀ t k : Nat, p = k → q[k]? ≠ some t) : tm_sa q p = -1 := by
  unfold tm_sa
  by_cases hp : p < 0
  · rw [if_pos hp]
  · rw [if_neg hp]
    cases hq : q[p.toNat]? with
    | none => rfl
    | some t => exact absurd hq (h t p.toNat (by omega))

theorem ta_sa (d : Nat) (r : Nat) (p : Int) (hr : r < 34) {σ : tm_S} (w : tl_W) (hJ : tm_J σ) (h3 : tm_at3 w σ) : tl_Ev ta_P (d + 2) 36 [.inr 0, .inl ((r : Nat) : Int), .inl p] w (.inl (some (tm_sa (σ.2.2.2 r) p))) w := by
  refine tl_start fun Q hQ => ?_
  refine tl_go 2 2 [(0, .inr 0), (1, .inl ((r : Nat) : Int)), (2, .inl p), (3, .inl 0)] [] w (fun _ h => h) ?_
  have loop : ∀ k i : Nat, i + k = 8 → (∀ u, u < i → ¬ (tm_aw (σ.2.1 u) = r ∧ w 3 u = p)) → tl_E ta_P (d + 1) 36 2 [(0, .inr 0), (1, .inl (r : Int)), (2, .inl p), (3, .inl (i : Int))] [] w Q := by
    intro k
    induction k with
    | zero =>
      intro i hi hall
      refine tl_go 2 5 [(0, .inr 0), (1, .inl ((r : Nat) : Int)), (2, .inl p), (3, .inl ((i : Nat) : Int))] [.inl 8, .inl ((i : Nat) : Int)] w (fun _ h => h) ?_
      refine tl_ift (8 ≤ ((i : Nat) : Int)) 35 8 [(0, .inr 0), (1, .inl ((r : Nat) : Int)), (2, .inl p), (3, .inl ((i : Nat) : Int))] [] (fun _ h => h) (by omega) ?_
      refine tl_go 1 36 [(0, .inr 0), (1, .inl ((r : Nat) : Int)), (2, .inl p), (3, .inl ((i : Nat) : Int))] [.inl (-1)] w (fun _ h => h) ?_
      exact tl_reti rfl rfl ((tm_sa_none (fun u k hp hk => hall u (by have := (((hJ.2.2 r hr).2.1 u).mp (List.mem_of_getElem? hk)).1; omega) ((tm_at3_iff hJ h3 hr (((hJ.2.2 r hr).2.1 u).mp (List.mem_of_getElem? hk)).1 p).mpr ⟨k, hp, hk⟩))).symm) (hQ)
    | succ k ih =>
      intro i hi hall
      refine tl_go 2 5 [(0, .inr 0), (1, .inl ((r : Nat) : Int)), (2, .inl p), (3, .inl ((i : Nat) : Int))] [.inl 8, .inl ((i : Nat) : Int)] w (fun _ h => h) ?_
      refine tl_iff (8 ≤ ((i : Nat) : Int)) 35 8 [(0, .inr 0), (1, .inl ((r : Nat) : Int)), (2, .inl p), (3, .inl ((i : Nat) : Int))] [] (fun _ h => h) (by omega) ?_
      refine tl_go 2 10 [(0, .inr 0), (1, .inl ((r : Nat) : Int)), (2, .inl p), (3, .inl ((i : Nat) : Int))] [.inl ((i : Nat) : Int), .inr 0] w (fun _ h => h) ?_
      refine tl_callV (as := [.inr 0, .inl ((i : Nat) : Int)]) (rest := []) (v := some (tm_aw (σ.2.1 i))) (w' := w) rfl rfl (ta_aw d i (by omega) w (h3.1 i (by omega)) (hJ.2.1 i (by omega)).1) (Nat.le_of_ble_eq_true rfl) rfl rfl rfl (Nat.le_of_ble_eq_true rfl) ?_
      refine tl_go 1 14 [(0, .inr 0), (1, .inl ((r : Nat) : Int)), (2, .inl p), (3, .inl ((i : Nat) : Int))] [.inl ((r : Nat) : Int), .inl (tm_aw (σ.2.1 i))] w (fun _ h => h) ?_
      refine tl_if (¬ (tm_aw (σ.2.1 i)) = ((r : Nat) : Int)) 29 17 [(0, .inr 0), (1, .inl ((r : Nat) : Int)), (2, .inl p), (3, .inl ((i : Nat) : Int))] [] (fun _ h => h) (fun hc => ?_) (fun hc => ?_)
      · refine tl_go 2 2 [(0, .inr 0), (1, .inl ((r : Nat) : Int)), (2, .inl p), (3, .inl (((i : Nat) : Int) + 1))] [] w (fun _ h => And.intro (by omega) h) ?_
        refine ih (i + 1) (by omega) (fun u hu => ?_)
        by_cases hui : u = i
        · rw [hui]; exact fun q => hc q.1
        · exact hall u (by omega)
      · refine tl_go 3 22 [(0, .inr 0), (1, .inl ((r : Nat) : Int)), (2, .inl p), (3, .inl ((i : Nat) : Int))] [.inl ((i : Nat) : Int), .inr 4] w (fun _ h => And.intro rfl (And.intro (by decide) (h))) ?_
        refine tl_ald (i) 8 (k := 3) rfl (by omega) rfl (by omega) ?_
        refine tl_go 1 24 [(0, .inr 0), (1, .inl ((r : Nat) : Int)), (2, .inl p), (3, .inl ((i : Nat) : Int))] [.inl p, .inl (w 3 (i))] w (fun _ h => h) ?_
        refine tl_if (¬ (w 3 (i)) = p) 29 27 [(0, .inr 0), (1, .inl ((r : Nat) : Int)), (2, .inl p), (3, .inl ((i : Nat) : Int))] [] (fun _ h => h) (fun hg => ?_) (fun hg => ?_)
        · refine tl_go 2 2 [(0, .inr 0), (1, .inl ((r : Nat) : Int)), (2, .inl p), (3, .inl (((i : Nat) : Int) + 1))] [] w (fun _ h => And.intro (by omega) h) ?_
          refine ih (i + 1) (by omega) (fun u hu => ?_)
          by_cases hui : u = i
          · rw [hui]; exact fun q => hg q.2
          · exact hall u (by omega)
        · obtain ⟨k9, hk9, hk8⟩ := (tm_at3_iff hJ h3 hr (by omega) p).mp ⟨Classical.not_not.mp hc, Classical.not_not.mp hg⟩
          refine tl_go 1 28 [(0, .inr 0), (1, .inl ((r : Nat) : Int)), (2, .inl p), (3, .inl ((i : Nat) : Int))] [.inl ((i : Nat) : Int)] w (fun _ h => h) ?_
          exact tl_reti rfl rfl ((tm_sa_some hk9 hk8).symm) (hQ)
  exact loop 8 0 rfl (fun u hu => absurd hu (Nat.not_lt_zero _))
end
section
/-! 12.tree: the class's questions on the tree of resources, printed by a3.py -/
theorem tm_pn_lt {r : Nat} (h : r ≠ 0) : tm_pn r < r := by
  unfold tm_pn
  (repeat' split) <;> omega
theorem tm_pI_p {r : Nat} (h : r ≠ 0) : tm_pI r = (tm_pn r : Int) := by
  unfold tm_pI
  exact if_neg h
theorem tm_pI_0 : tm_pI 0 = -1 := rfl
theorem tm_an_s (n r : Nat) : tm_an (n + 1) r = if r = 0 then [] else tm_pn r :: tm_an n (tm_pn r) := rfl
def tm_rfa (M : Nat → Nat) (t : Nat) (l : List Nat) (a : Nat) : Nat := l.foldl (fun a p => max a (tm_rt (M (34 * t + p)))) a
def tm_hc (M : Nat → Nat) (t r : Nat) : Bool := (List.range 34).any (fun c => decide (tm_pI c = (r : Int)) && decide (M (34 * t + c) ≠ 0))
def tm_cb (M : Nat → Nat) (t r i : Nat) : Nat := (List.range i).countP (fun c => tm_bl c r && decide (M (34 * t + c) ≠ 0))
def tm_wr (m : Nat) : Bool := m == 2 || (m == 4 || m == 5)
def tm_ww (M : Nat → Nat) (t r : Nat) : Bool := (List.range 34).any (fun c => (c == r || tm_bl c r) && tm_wr (M (34 * t + c)))
theorem tm_wr_c : ∀ m, m < 6 → (tm_jn m 2 = m ↔ tm_wr m = true) := by decide +kernel
theorem tm_bl_lt : ∀ c, c < 34 → ∀ r, r < 34 → tm_bl c r = true → r < c := by decide +kernel
theorem tm_any_t {p : Nat → Bool} {i n : Nat} (hi : i < n) (h : p i = true) : (List.range n).any p = true := List.any_eq_true.mpr ⟨i, List.mem_range.mpr hi, h⟩
theorem tm_any_f {p : Nat → Bool} {n : Nat} (h : ∀ i, i < n → p i = false) : (List.range n).any p = false := by
  rw [← Bool.not_eq_true, List.any_eq_true]
  rintro ⟨i, hi, hp⟩
  rw [h i (List.mem_range.mp hi)] at hp
  cases hp

theorem ta_bl (d : Nat) (low r : Nat) (hl : low < 34) (hr : r < 34) (w : tl_W) : tl_Ev ta_P (d + 2) 18 [.inl ((low : Nat) : Int), .inl ((r : Nat) : Int)] w (.inl (some (tm_b (decide (tm_bl low r = true))))) w := by
  refine tl_start fun Q hQ => ?_
  refine tl_go 1 1 [(0, .inl ((low : Nat) : Int)), (1, .inl ((r : Nat) : Int))] [.inl ((low : Nat) : Int)] w (fun _ h => h) ?_
  refine tl_callS (as := [.inl ((low : Nat) : Int)]) (rest := []) (v := some (tm_pI low)) (w' := w) rfl rfl rfl rfl (ta_par d low hl w) (Nat.le_of_ble_eq_true rfl) rfl rfl (Nat.le_of_ble_eq_true rfl) ?_
  refine tl_go 3 7 [(0, .inl ((low : Nat) : Int)), (1, .inl ((r : Nat) : Int)), (2, .inl (tm_pI low)), (3, .inl 0)] [] w (fun _ h => h) ?_
  have loop : ∀ n lev cur : Nat, lev + n = 3 → cur < 34 → tm_bl low r = (tm_an n cur).contains r → tl_E ta_P (d + 1) 18 7 [(0, .inl (low : Int)), (1, .inl (r : Int)), (2, .inl (tm_pI cur)), (3, .inl (lev : Int))] [] w Q := by
    intro n
    induction n with
    | zero =>
      intro lev cur hi hcur hq
      refine tl_go 2 9 [(0, .inl ((low : Nat) : Int)), (1, .inl ((r : Nat) : Int)), (2, .inl (tm_pI cur)), (3, .inl ((lev : Nat) : Int))] [.inl 3, .inl ((lev : Nat) : Int)] w (fun _ h => h) ?_
      refine tl_ift (3 ≤ ((lev : Nat) : Int)) 35 12 [(0, .inl ((low : Nat) : Int)), (1, .inl ((r : Nat) : Int)), (2, .inl (tm_pI cur)), (3, .inl ((lev : Nat) : Int))] [] (fun _ h => h) (by omega) ?_
      refine tl_go 1 36 [(0, .inl ((low : Nat) : Int)), (1, .inl ((r : Nat) : Int)), (2, .inl (tm_pI cur)), (3, .inl ((lev : Nat) : Int))] [.inl 0] w (fun _ h => h) ?_
      exact tl_retz rfl rfl (tm_b0 (decide_eq_false (by rw [hq]; simp [tm_an]))) (hQ)
    | succ n ih =>
      intro lev cur hi hcur hq
      refine tl_go 2 9 [(0, .inl ((low : Nat) : Int)), (1, .inl ((r : Nat) : Int)), (2, .inl (tm_pI cur)), (3, .inl ((lev : Nat) : Int))] [.inl 3, .inl ((lev : Nat) : Int)] w (fun _ h => h) ?_
      refine tl_iff (3 ≤ ((lev : Nat) : Int)) 35 12 [(0, .inl ((low : Nat) : Int)), (1, .inl ((r : Nat) : Int)), (2, .inl (tm_pI cur)), (3, .inl ((lev : Nat) : Int))] [] (fun _ h => h) (by omega) ?_
      refine tl_go 2 14 [(0, .inl ((low : Nat) : Int)), (1, .inl ((r : Nat) : Int)), (2, .inl (tm_pI cur)), (3, .inl ((lev : Nat) : Int))] [.inl (-1), .inl (tm_pI cur)] w (fun _ h => h) ?_
      refine tl_if ((tm_pI cur) = (-1)) 35 17 [(0, .inl ((low : Nat) : Int)), (1, .inl ((r : Nat) : Int)), (2, .inl (tm_pI cur)), (3, .inl ((lev : Nat) : Int))] [] (fun _ h => h) (fun hc => ?_) (fun hc => ?_)
      · have h0 : cur = 0 := by unfold tm_pI at hc; split at hc <;> omega
        refine tl_go 1 36 [(0, .inl ((low : Nat) : Int)), (1, .inl ((r : Nat) : Int)), (2, .inl (tm_pI cur)), (3, .inl ((lev : Nat) : Int))] [.inl 0] w (fun _ h => h) ?_
        exact tl_retz rfl rfl (tm_b0 (decide_eq_false (by rw [hq, h0]; simp [tm_an]))) (hQ)
      · have h0 : cur ≠ 0 := fun e => hc (by rw [e]; rfl)
        have hlt := tm_pn_lt h0
        refine tl_loc (L' := [(0, .inl ((low : Nat) : Int)), (1, .inl ((r : Nat) : Int)), (2, .inl ((tm_pn cur : Nat) : Int)), (3, .inl ((lev : Nat) : Int))]) (by rw [tm_pI_p h0]) ?_
        refine tl_go 2 19 [(0, .inl ((low : Nat) : Int)), (1, .inl ((r : Nat) : Int)), (2, .inl ((tm_pn cur : Nat) : Int)), (3, .inl ((lev : Nat) : Int))] [.inl ((r : Nat) : Int), .inl ((tm_pn cur : Nat) : Int)] w (fun _ h => h) ?_
        refine tl_if (¬ ((tm_pn cur : Nat) : Int) = ((r : Nat) : Int)) 24 22 [(0, .inl ((low : Nat) : Int)), (1, .inl ((r : Nat) : Int)), (2, .inl ((tm_pn cur : Nat) : Int)), (3, .inl ((lev : Nat) : Int))] [] (fun _ h => h) (fun hg => ?_) (fun hg => ?_)
        · refine tl_go 1 25 [(0, .inl ((low : Nat) : Int)), (1, .inl ((r : Nat) : Int)), (2, .inl ((tm_pn cur : Nat) : Int)), (3, .inl ((lev : Nat) : Int))] [.inl ((tm_pn cur : Nat) : Int)] w (fun _ h => h) ?_
          refine tl_callS (as := [.inl ((tm_pn cur : Nat) : Int)]) (rest := []) (v := some (tm_pI (tm_pn cur))) (w' := w) rfl rfl rfl rfl (ta_par d (tm_pn cur) (by omega) w) (Nat.le_of_ble_eq_true rfl) rfl rfl (Nat.le_of_ble_eq_true rfl) ?_
          refine tl_go 3 7 [(0, .inl ((low : Nat) : Int)), (1, .inl ((r : Nat) : Int)), (2, .inl (tm_pI (tm_pn cur))), (3, .inl (((lev : Nat) : Int) + 1))] [] w (fun _ h => And.intro (by omega) h) ?_
          refine ih (lev + 1) (tm_pn cur) (by omega) (by omega) ?_
          have hne : (r == tm_pn cur) = false := by simp; omega
          rw [hq, tm_an_s, if_neg h0, List.contains_cons, hne, Bool.false_or]
        · refine tl_go 1 23 [(0, .inl ((low : Nat) : Int)), (1, .inl ((r : Nat) : Int)), (2, .inl ((tm_pn cur : Nat) : Int)), (3, .inl ((lev : Nat) : Int))] [.inl 1] w (fun _ h => h) ?_
          have hne : (r == tm_pn cur) = true := by simp; omega
          exact tl_retz rfl rfl (tm_b1 (decide_eq_true (by rw [hq]; unfold tm_an; rw [if_neg h0, List.contains_cons, hne]; rfl))) (hQ)
  exact loop 3 0 low rfl hl rfl
theorem ta_rfa (d : Nat) (t r : Nat) (ht : t < 8) (hr : r < 34) {M : Nat → Nat} (w : tl_W) (hM : ∀ i, i < 272 → w 0 i = (M i : Int)) (hM5 : ∀ i, i < 272 → M i ≤ 5) : tl_Ev ta_P (d + 2) 30 [.inr 0, .inl ((t : Nat) : Int), .inl ((r : Nat) : Int)] w (.inl (some ((tm_rfa M t (tm_an 3 r) 0 : Nat) : Int))) w := by
  refine tl_start fun Q hQ => ?_
  refine tl_go 3 3 [(0, .inr 0), (1, .inl ((t : Nat) : Int)), (2, .inl ((r : Nat) : Int)), (3, .inl 0)] [.inl ((r : Nat) : Int)] w (fun _ h => h) ?_
  refine tl_callS (as := [.inl ((r : Nat) : Int)]) (rest := []) (v := some (tm_pI r)) (w' := w) rfl rfl rfl rfl (ta_par d r hr w) (Nat.le_of_ble_eq_true rfl) rfl rfl (Nat.le_of_ble_eq_true rfl) ?_
  refine tl_go 3 11 [(0, .inr 0), (1, .inl ((t : Nat) : Int)), (2, .inl ((r : Nat) : Int)), (3, .inl 0), (4, .inl (tm_pI r)), (5, .inl 0)] [] w (fun _ h => h) ?_
  have loop : ∀ n lev cur acc : Nat, lev + n = 3 → cur < 34 → acc ≤ 2 → tm_rfa M t (tm_an 3 r) 0 = tm_rfa M t (tm_an n cur) acc → tl_E ta_P (d + 1) 30 11 [(0, .inr 0), (1, .inl (t : Int)), (2, .inl (r : Int)), (3, .inl (acc : Int)), (4, .inl (tm_pI cur)), (5, .inl (lev : Int))] [] w Q := by
    intro n
    induction n with
    | zero =>
      intro lev cur acc hi hcur ha hq
      refine tl_go 2 14 [(0, .inr 0), (1, .inl ((t : Nat) : Int)), (2, .inl ((r : Nat) : Int)), (3, .inl ((acc : Nat) : Int)), (4, .inl (tm_pI cur)), (5, .inl ((lev : Nat) : Int))] [.inl 3, .inl ((lev : Nat) : Int)] w (fun _ h => h) ?_
      refine tl_ift (3 ≤ ((lev : Nat) : Int)) 51 17 [(0, .inr 0), (1, .inl ((t : Nat) : Int)), (2, .inl ((r : Nat) : Int)), (3, .inl ((acc : Nat) : Int)), (4, .inl (tm_pI cur)), (5, .inl ((lev : Nat) : Int))] [] (fun _ h => h) (by omega) ?_
      refine tl_go 1 52 [(0, .inr 0), (1, .inl ((t : Nat) : Int)), (2, .inl ((r : Nat) : Int)), (3, .inl ((acc : Nat) : Int)), (4, .inl (tm_pI cur)), (5, .inl ((lev : Nat) : Int))] [.inl ((acc : Nat) : Int)] w (fun _ h => h) ?_
      exact tl_reti rfl rfl (by rw [hq]; rfl) (hQ)
    | succ n ih =>
      intro lev cur acc hi hcur ha hq
      refine tl_go 2 14 [(0, .inr 0), (1, .inl ((t : Nat) : Int)), (2, .inl ((r : Nat) : Int)), (3, .inl ((acc : Nat) : Int)), (4, .inl (tm_pI cur)), (5, .inl ((lev : Nat) : Int))] [.inl 3, .inl ((lev : Nat) : Int)] w (fun _ h => h) ?_
      refine tl_iff (3 ≤ ((lev : Nat) : Int)) 51 17 [(0, .inr 0), (1, .inl ((t : Nat) : Int)), (2, .inl ((r : Nat) : Int)), (3, .inl ((acc : Nat) : Int)), (4, .inl (tm_pI cur)), (5, .inl ((lev : Nat) : Int))] [] (fun _ h => h) (by omega) ?_
      refine tl_go 2 20 [(0, .inr 0), (1, .inl ((t : Nat) : Int)), (2, .inl ((r : Nat) : Int)), (3, .inl ((acc : Nat) : Int)), (4, .inl (tm_pI cur)), (5, .inl ((lev : Nat) : Int))] [.inl (-1), .inl (tm_pI cur)] w (fun _ h => h) ?_
      refine tl_if ((tm_pI cur) = (-1)) 51 23 [(0, .inr 0), (1, .inl ((t : Nat) : Int)), (2, .inl ((r : Nat) : Int)), (3, .inl ((acc : Nat) : Int)), (4, .inl (tm_pI cur)), (5, .inl ((lev : Nat) : Int))] [] (fun _ h => h) (fun hc => ?_) (fun hc => ?_)
      · have h0 : cur = 0 := by unfold tm_pI at hc; split at hc <;> omega
        refine tl_go 1 52 [(0, .inr 0), (1, .inl ((t : Nat) : Int)), (2, .inl ((r : Nat) : Int)), (3, .inl ((acc : Nat) : Int)), (4, .inl (tm_pI cur)), (5, .inl ((lev : Nat) : Int))] [.inl ((acc : Nat) : Int)] w (fun _ h => h) ?_
        exact tl_reti rfl rfl (by rw [hq, h0]; rfl) (hQ)
      · have h0 : cur ≠ 0 := fun e => hc (by rw [e]; rfl)
        have hlt := tm_pn_lt h0
        refine tl_loc (L' := [(0, .inr 0), (1, .inl ((t : Nat) : Int)), (2, .inl ((r : Nat) : Int)), (3, .inl ((acc : Nat) : Int)), (4, .inl ((tm_pn cur : Nat) : Int)), (5, .inl ((lev : Nat) : Int))]) (by rw [tm_pI_p h0]) ?_
        refine tl_go 4 28 [(0, .inr 0), (1, .inl ((t : Nat) : Int)), (2, .inl ((r : Nat) : Int)), (3, .inl ((acc : Nat) : Int)), (4, .inl ((tm_pn cur : Nat) : Int)), (5, .inl ((lev : Nat) : Int))] [.inl ((tm_pn cur : Nat) : Int), .inl ((t : Nat) : Int), .inr 0, .inl ((acc : Nat) : Int)] w (fun _ h => h) ?_
        refine tl_callV (as := [.inr 0, .inl ((t : Nat) : Int), .inl ((tm_pn cur : Nat) : Int)]) (rest := [.inl ((acc : Nat) : Int)]) (v := some ((M (34 * t + tm_pn cur) : Nat) : Int)) (w' := w) rfl rfl (ta_mo d t (tm_pn cur) ht (by omega) w (hM _ (by omega))) (Nat.le_of_ble_eq_true rfl) rfl rfl rfl (Nat.le_of_ble_eq_true rfl) ?_
        refine tl_callS (as := [.inl ((M (34 * t + tm_pn cur) : Nat) : Int)]) (rest := [.inl ((acc : Nat) : Int)]) (v := some ((tm_rt (M (34 * t + tm_pn cur)) : Nat) : Int)) (w' := w) rfl rfl rfl rfl (ta_rt d (M (34 * t + tm_pn cur)) w) (Nat.le_of_ble_eq_true rfl) rfl rfl (Nat.le_of_ble_eq_true rfl) ?_
        refine tl_go 1 37 [(0, .inr 0), (1, .inl ((t : Nat) : Int)), (2, .inl ((r : Nat) : Int)), (3, .inl ((acc : Nat) : Int)), (4, .inl ((tm_pn cur : Nat) : Int)), (5, .inl ((lev : Nat) : Int))] [.inl (max ((acc : Nat) : Int) ((tm_rt (M (34 * t + tm_pn cur)) : Nat) : Int))] w (fun _ h => And.intro (Nat.le_of_ble_eq_true rfl) h) ?_
        refine tl_top (y := ((max acc (tm_rt (M (34 * t + tm_pn cur))) : Nat) : Int)) (by omega) ?_
        refine tl_go 2 40 [(0, .inr 0), (1, .inl ((t : Nat) : Int)), (2, .inl ((r : Nat) : Int)), (3, .inl ((max acc (tm_rt (M (34 * t + tm_pn cur))) : Nat) : Int)), (4, .inl ((tm_pn cur : Nat) : Int)), (5, .inl ((lev : Nat) : Int))] [.inl ((tm_pn cur : Nat) : Int)] w (fun _ h => h) ?_
        refine tl_callS (as := [.inl ((tm_pn cur : Nat) : Int)]) (rest := []) (v := some (tm_pI (tm_pn cur))) (w' := w) rfl rfl rfl rfl (ta_par d (tm_pn cur) (by omega) w) (Nat.le_of_ble_eq_true rfl) rfl rfl (Nat.le_of_ble_eq_true rfl) ?_
        refine tl_go 3 11 [(0, .inr 0), (1, .inl ((t : Nat) : Int)), (2, .inl ((r : Nat) : Int)), (3, .inl ((max acc (tm_rt (M (34 * t + tm_pn cur))) : Nat) : Int)), (4, .inl (tm_pI (tm_pn cur))), (5, .inl (((lev : Nat) : Int) + 1))] [] w (fun _ h => And.intro (by omega) h) ?_
        refine ih (lev + 1) (tm_pn cur) _ (by omega) (by omega) ?_ ?_
        · have : tm_rt (M (34 * t + tm_pn cur)) ≤ 2 := by unfold tm_rt; (repeat' split) <;> omega
          omega
        · rw [hq]
          show tm_rfa M t (if cur = 0 then [] else tm_pn cur :: tm_an n (tm_pn cur)) acc = _
          rw [if_neg h0]
          rfl
  exact loop 3 0 r 0 rfl hr (by omega) rfl
theorem ta_hc (d : Nat) (t r : Nat) (ht : t < 8) (hr : r < 34) {M : Nat → Nat} (w : tl_W) (hM : ∀ i, i < 272 → w 0 i = (M i : Int)) (hM5 : ∀ i, i < 272 → M i ≤ 5) : tl_Ev ta_P (d + 3) 28 [.inr 0, .inl ((t : Nat) : Int), .inl ((r : Nat) : Int)] w (.inl (some (tm_b (decide (tm_hc M t r = true))))) w := by
  refine tl_start fun Q hQ => ?_
  refine tl_go 4 4 [(0, .inr 0), (1, .inl ((t : Nat) : Int)), (2, .inl ((r : Nat) : Int)), (3, .inl (((r : Nat) : Int) + 1))] [] w (fun _ h => And.intro (by omega) h) ?_
  have loop : ∀ k i : Nat, i + k = 34 → (∀ c, c < i → ¬ (tm_pI c = (r : Int) ∧ M (34 * t + c) ≠ 0)) → tl_E ta_P (d + 2) 28 4 [(0, .inr 0), (1, .inl (t : Int)), (2, .inl (r : Int)), (3, .inl (i : Int))] [] w Q := by
    intro k
    induction k with
    | zero =>
      intro i hi hall
      refine tl_go 2 7 [(0, .inr 0), (1, .inl ((t : Nat) : Int)), (2, .inl ((r : Nat) : Int)), (3, .inl ((i : Nat) : Int))] [.inl 34, .inl ((i : Nat) : Int)] w (fun _ h => h) ?_
      refine tl_ift (34 ≤ ((i : Nat) : Int)) 35 10 [(0, .inr 0), (1, .inl ((t : Nat) : Int)), (2, .inl ((r : Nat) : Int)), (3, .inl ((i : Nat) : Int))] [] (fun _ h => h) (by omega) ?_
      refine tl_go 1 36 [(0, .inr 0), (1, .inl ((t : Nat) : Int)), (2, .inl ((r : Nat) : Int)), (3, .inl ((i : Nat) : Int))] [.inl 0] w (fun _ h => h) ?_
      exact tl_retz rfl rfl (tm_b0 (decide_eq_false (by unfold tm_hc; rw [tm_any_f (fun c hc => by rw [← Bool.not_eq_true, Bool.and_eq_true, decide_eq_true_eq, decide_eq_true_eq]; exact hall c (by omega))]; decide))) (hQ)
    | succ k ih =>
      intro i hi hall
      refine tl_go 2 7 [(0, .inr 0), (1, .inl ((t : Nat) : Int)), (2, .inl ((r : Nat) : Int)), (3, .inl ((i : Nat) : Int))] [.inl 34, .inl ((i : Nat) : Int)] w (fun _ h => h) ?_
      refine tl_iff (34 ≤ ((i : Nat) : Int)) 35 10 [(0, .inr 0), (1, .inl ((t : Nat) : Int)), (2, .inl ((r : Nat) : Int)), (3, .inl ((i : Nat) : Int))] [] (fun _ h => h) (by omega) ?_
      refine tl_go 1 11 [(0, .inr 0), (1, .inl ((t : Nat) : Int)), (2, .inl ((r : Nat) : Int)), (3, .inl ((i : Nat) : Int))] [.inl ((i : Nat) : Int)] w (fun _ h => h) ?_
      refine tl_callS (as := [.inl ((i : Nat) : Int)]) (rest := []) (v := some (tm_pI i)) (w' := w) rfl rfl rfl rfl (ta_par (d + 1) i (by omega) w) (Nat.le_of_ble_eq_true rfl) rfl rfl (Nat.le_of_ble_eq_true rfl) ?_
      refine tl_go 1 15 [(0, .inr 0), (1, .inl ((t : Nat) : Int)), (2, .inl ((r : Nat) : Int)), (3, .inl ((i : Nat) : Int))] [.inl ((r : Nat) : Int), .inl (tm_pI i)] w (fun _ h => h) ?_
      refine tl_if (¬ (tm_pI i) = ((r : Nat) : Int)) 29 18 [(0, .inr 0), (1, .inl ((t : Nat) : Int)), (2, .inl ((r : Nat) : Int)), (3, .inl ((i : Nat) : Int))] [] (fun _ h => h) (fun hc => ?_) (fun hc => ?_)
      · refine tl_go 2 4 [(0, .inr 0), (1, .inl ((t : Nat) : Int)), (2, .inl ((r : Nat) : Int)), (3, .inl (((i : Nat) : Int) + 1))] [] w (fun _ h => And.intro (by omega) h) ?_
        refine ih (i + 1) (by omega) (fun c hc9 => ?_)
        by_cases e : c = i
        · rw [e]; exact fun q => hc q.1
        · exact hall c (by omega)
      · refine tl_go 3 21 [(0, .inr 0), (1, .inl ((t : Nat) : Int)), (2, .inl ((r : Nat) : Int)), (3, .inl ((i : Nat) : Int))] [.inl ((i : Nat) : Int), .inl ((t : Nat) : Int), .inr 0] w (fun _ h => h) ?_
        refine tl_callV (as := [.inr 0, .inl ((t : Nat) : Int), .inl ((i : Nat) : Int)]) (rest := []) (v := some (tm_b (decide (M (34 * t + i) ≠ 0)))) (w' := w) rfl rfl (ta_ih d t i ht (by omega) w (hM _ (by omega))) (Nat.le_of_ble_eq_true rfl) rfl rfl rfl (Nat.le_of_ble_eq_true rfl) ?_
        refine tl_if ((tm_b (decide (M (34 * t + i) ≠ 0))) = 0) 29 27 [(0, .inr 0), (1, .inl ((t : Nat) : Int)), (2, .inl ((r : Nat) : Int)), (3, .inl ((i : Nat) : Int))] [] (fun _ h => h) (fun hg => ?_) (fun hg => ?_)
        · have hg := of_decide_eq_false (tm_beq hg)
          refine tl_go 2 4 [(0, .inr 0), (1, .inl ((t : Nat) : Int)), (2, .inl ((r : Nat) : Int)), (3, .inl (((i : Nat) : Int) + 1))] [] w (fun _ h => And.intro (by omega) h) ?_
          refine ih (i + 1) (by omega) (fun c hc9 => ?_)
          by_cases e : c = i
          · rw [e]; exact fun q => hg q.2
          · exact hall c (by omega)
        · have hg := of_decide_eq_true (tm_bne hg)
          refine tl_go 1 28 [(0, .inr 0), (1, .inl ((t : Nat) : Int)), (2, .inl ((r : Nat) : Int)), (3, .inl ((i : Nat) : Int))] [.inl 1] w (fun _ h => h) ?_
          exact tl_retz rfl rfl (tm_b1 (decide_eq_true (tm_any_t (i := i) (by omega) (by rw [Bool.and_eq_true, decide_eq_true_eq, decide_eq_true_eq]; exact ⟨Classical.not_not.mp hc, hg⟩)))) (hQ)
  refine loop (33 - r) (r + 1) (by omega) (fun c hc q => ?_)
  have h1 := q.1
  by_cases h0 : c = 0
  · rw [h0] at h1; unfold tm_pI at h1; simp at h1
  · rw [tm_pI_p h0] at h1; have := tm_pn_lt h0; omega
theorem tm_cb_s (M : Nat → Nat) (t r i : Nat) : tm_cb M t r (i + 1) = tm_cb M t r i + (if tm_bl i r = true ∧ M (34 * t + i) ≠ 0 then 1 else 0) := by
  unfold tm_cb
  rw [List.range_succ, List.countP_append, List.countP_singleton]
  by_cases h : tm_bl i r = true ∧ M (34 * t + i) ≠ 0
  · rw [if_pos h, if_pos (by rw [Bool.and_eq_true, decide_eq_true_eq]; exact h)]
  · rw [if_neg h, if_neg (by rw [Bool.and_eq_true, decide_eq_true_eq]; exact h)]
theorem tm_cb_0 (M : Nat → Nat) (t : Nat) {r : Nat} (hr : r < 34) : ∀ i, i ≤ r + 1 → tm_cb M t r i = 0 := by
  intro i
  induction i with
  | zero => exact fun _ => rfl
  | succ i ih =>
    intro hi
    rw [tm_cb_s, ih (by omega), if_neg]
    rintro ⟨h1, _⟩
    have := tm_bl_lt i (by omega) r hr h1
    omega
theorem tm_cb_le (M : Nat → Nat) (t r : Nat) : ∀ i, tm_cb M t r i ≤ i := by
  intro i
  unfold tm_cb
  exact Nat.le_trans (List.countP_le_length) (by rw [List.length_range]; exact Nat.le_refl _)

theorem ta_cb (d : Nat) (t r : Nat) (ht : t < 8) (hr : r < 34) {M : Nat → Nat} (w : tl_W) (hM : ∀ i, i < 272 → w 0 i = (M i : Int)) (hM5 : ∀ i, i < 272 → M i ≤ 5) : tl_Ev ta_P (d + 3) 47 [.inr 0, .inl ((t : Nat) : Int), .inl ((r : Nat) : Int)] w (.inl (some ((tm_cb M t r 34 : Nat) : Int))) w := by
  refine tl_start fun Q hQ => ?_
  refine tl_go 6 7 [(0, .inr 0), (1, .inl ((t : Nat) : Int)), (2, .inl ((r : Nat) : Int)), (3, .inl 0), (4, .inl (((r : Nat) : Int) + 1))] [] w (fun _ h => And.intro (by omega) h) ?_
  have loop : ∀ k i : Nat, i + k = 34 → tl_E ta_P (d + 2) 47 7 [(0, .inr 0), (1, .inl (t : Int)), (2, .inl (r : Int)), (3, .inl ((tm_cb M t r i : Nat) : Int)), (4, .inl (i : Int))] [] w Q := by
    intro k
    induction k with
    | zero =>
      intro i hi
      refine tl_go 2 11 [(0, .inr 0), (1, .inl ((t : Nat) : Int)), (2, .inl ((r : Nat) : Int)), (3, .inl ((tm_cb M t r i : Nat) : Int)), (4, .inl ((i : Nat) : Int))] [.inl 34, .inl ((i : Nat) : Int)] w (fun _ h => h) ?_
      refine tl_ift (34 ≤ ((i : Nat) : Int)) 42 14 [(0, .inr 0), (1, .inl ((t : Nat) : Int)), (2, .inl ((r : Nat) : Int)), (3, .inl ((tm_cb M t r i : Nat) : Int)), (4, .inl ((i : Nat) : Int))] [] (fun _ h => h) (by omega) ?_
      refine tl_go 1 43 [(0, .inr 0), (1, .inl ((t : Nat) : Int)), (2, .inl ((r : Nat) : Int)), (3, .inl ((tm_cb M t r i : Nat) : Int)), (4, .inl ((i : Nat) : Int))] [.inl ((tm_cb M t r i : Nat) : Int)] w (fun _ h => h) ?_
      exact tl_reti rfl rfl (by rw [show i = 34 by omega]) (hQ)
    | succ k ih =>
      intro i hi
      have hle := tm_cb_le M t r i
      refine tl_go 2 11 [(0, .inr 0), (1, .inl ((t : Nat) : Int)), (2, .inl ((r : Nat) : Int)), (3, .inl ((tm_cb M t r i : Nat) : Int)), (4, .inl ((i : Nat) : Int))] [.inl 34, .inl ((i : Nat) : Int)] w (fun _ h => h) ?_
      refine tl_iff (34 ≤ ((i : Nat) : Int)) 42 14 [(0, .inr 0), (1, .inl ((t : Nat) : Int)), (2, .inl ((r : Nat) : Int)), (3, .inl ((tm_cb M t r i : Nat) : Int)), (4, .inl ((i : Nat) : Int))] [] (fun _ h => h) (by omega) ?_
      refine tl_go 2 17 [(0, .inr 0), (1, .inl ((t : Nat) : Int)), (2, .inl ((r : Nat) : Int)), (3, .inl ((tm_cb M t r i : Nat) : Int)), (4, .inl ((i : Nat) : Int))] [.inl ((r : Nat) : Int), .inl ((i : Nat) : Int)] w (fun _ h => h) ?_
      refine tl_callS (as := [.inl ((i : Nat) : Int), .inl ((r : Nat) : Int)]) (rest := []) (v := some (tm_b (decide (tm_bl i r = true)))) (w' := w) rfl rfl rfl rfl (ta_bl d i r (by omega) hr w) (Nat.le_of_ble_eq_true rfl) rfl rfl (Nat.le_of_ble_eq_true rfl) ?_
      refine tl_if ((tm_b (decide (tm_bl i r = true))) = 0) 36 23 [(0, .inr 0), (1, .inl ((t : Nat) : Int)), (2, .inl ((r : Nat) : Int)), (3, .inl ((tm_cb M t r i : Nat) : Int)), (4, .inl ((i : Nat) : Int))] [] (fun _ h => h) (fun hc => ?_) (fun hc => ?_)
      · have hc := of_decide_eq_false (tm_beq hc)
        have e1 : tm_cb M t r (i + 1) = tm_cb M t r i + 0 := by rw [tm_cb_s, if_neg (fun q => hc q.1)]
        refine tl_go 2 7 [(0, .inr 0), (1, .inl ((t : Nat) : Int)), (2, .inl ((r : Nat) : Int)), (3, .inl ((tm_cb M t r i : Nat) : Int)), (4, .inl (((i : Nat) : Int) + 1))] [] w (fun _ h => And.intro (by omega) h) ?_
        have h9 := ih (i + 1) (by omega)
        rw [e1] at h9
        exact h9
      · have hc := of_decide_eq_true (tm_bne hc)
        refine tl_go 3 27 [(0, .inr 0), (1, .inl ((t : Nat) : Int)), (2, .inl ((r : Nat) : Int)), (3, .inl ((tm_cb M t r i : Nat) : Int)), (4, .inl ((i : Nat) : Int))] [.inl ((i : Nat) : Int), .inl ((t : Nat) : Int), .inr 0] w (fun _ h => h) ?_
        refine tl_callV (as := [.inr 0, .inl ((t : Nat) : Int), .inl ((i : Nat) : Int)]) (rest := []) (v := some (tm_b (decide (M (34 * t + i) ≠ 0)))) (w' := w) rfl rfl (ta_ih d t i ht (by omega) w (hM _ (by omega))) (Nat.le_of_ble_eq_true rfl) rfl rfl rfl (Nat.le_of_ble_eq_true rfl) ?_
        refine tl_if ((tm_b (decide (M (34 * t + i) ≠ 0))) = 0) 36 33 [(0, .inr 0), (1, .inl ((t : Nat) : Int)), (2, .inl ((r : Nat) : Int)), (3, .inl ((tm_cb M t r i : Nat) : Int)), (4, .inl ((i : Nat) : Int))] [] (fun _ h => h) (fun hg => ?_) (fun hg => ?_)
        · have hg := of_decide_eq_false (tm_beq hg)
          have e1 : tm_cb M t r (i + 1) = tm_cb M t r i + 0 := by rw [tm_cb_s, if_neg (fun q => hg q.2)]
          refine tl_go 2 7 [(0, .inr 0), (1, .inl ((t : Nat) : Int)), (2, .inl ((r : Nat) : Int)), (3, .inl ((tm_cb M t r i : Nat) : Int)), (4, .inl (((i : Nat) : Int) + 1))] [] w (fun _ h => And.intro (by omega) h) ?_
          have h9 := ih (i + 1) (by omega)
          rw [e1] at h9
          exact h9
        · have hg := of_decide_eq_true (tm_bne hg)
          have e1 : tm_cb M t r (i + 1) = tm_cb M t r i + 1 := by rw [tm_cb_s, if_pos (⟨hc, hg⟩)]
          refine tl_go 3 7 [(0, .inr 0), (1, .inl ((t : Nat) : Int)), (2, .inl ((r : Nat) : Int)), (3, .inl (((tm_cb M t r i : Nat) : Int) + 1)), (4, .inl (((i : Nat) : Int) + 1))] [] w (fun _ h => And.intro (by omega) (And.intro (by omega) h)) ?_
          have h9 := ih (i + 1) (by omega)
          rw [e1] at h9
          exact h9
  have h9 := loop (33 - r) (r + 1) (by omega)
  rw [tm_cb_0 M t hr (r + 1) (Nat.le_refl _)] at h9
  exact h9
theorem ta_ww (d : Nat) (t r : Nat) (ht : t < 8) (hr : r < 34) {M : Nat → Nat} (w : tl_W) (hM : ∀ i, i < 272 → w 0 i = (M i : Int)) (hM5 : ∀ i, i < 272 → M i ≤ 5) : tl_Ev ta_P (d + 3) 48 [.inr 0, .inl ((t : Nat) : Int), .inl ((r : Nat) : Int)] w (.inl (some (tm_b (decide (tm_ww M t r = true))))) w := by
  refine tl_start fun Q hQ => ?_
  refine tl_go 2 2 [(0, .inr 0), (1, .inl ((t : Nat) : Int)), (2, .inl ((r : Nat) : Int)), (3, .inl ((r : Nat) : Int))] [] w (fun _ h => h) ?_
  have loop : ∀ k i : Nat, i + k = 34 → (∀ c, c < i → ¬ ((c = r ∨ tm_bl c r = true) ∧ tm_wr (M (34 * t + c)) = true)) → tl_E ta_P (d + 2) 48 2 [(0, .inr 0), (1, .inl (t : Int)), (2, .inl (r : Int)), (3, .inl (i : Int))] [] w Q := by
    intro k
    induction k with
    | zero =>
      intro i hi hall
      refine tl_go 2 5 [(0, .inr 0), (1, .inl ((t : Nat) : Int)), (2, .inl ((r : Nat) : Int)), (3, .inl ((i : Nat) : Int))] [.inl 34, .inl ((i : Nat) : Int)] w (fun _ h => h) ?_
      refine tl_ift (34 ≤ ((i : Nat) : Int)) 42 8 [(0, .inr 0), (1, .inl ((t : Nat) : Int)), (2, .inl ((r : Nat) : Int)), (3, .inl ((i : Nat) : Int))] [] (fun _ h => h) (by omega) ?_
      refine tl_go 1 43 [(0, .inr 0), (1, .inl ((t : Nat) : Int)), (2, .inl ((r : Nat) : Int)), (3, .inl ((i : Nat) : Int))] [.inl 0] w (fun _ h => h) ?_
      exact tl_retz rfl rfl (tm_b0 (decide_eq_false (by unfold tm_ww; rw [tm_any_f (fun c hc => by rw [← Bool.not_eq_true, Bool.and_eq_true, Bool.or_eq_true, beq_iff_eq]; exact hall c (by omega))]; decide))) (hQ)
    | succ k ih =>
      intro i hi hall
      have hwr := tm_wr_c (M (34 * t + i)) (by have := hM5 (34 * t + i) (by omega); omega)
      refine tl_go 2 5 [(0, .inr 0), (1, .inl ((t : Nat) : Int)), (2, .inl ((r : Nat) : Int)), (3, .inl ((i : Nat) : Int))] [.inl 34, .inl ((i : Nat) : Int)] w (fun _ h => h) ?_
      refine tl_iff (34 ≤ ((i : Nat) : Int)) 42 8 [(0, .inr 0), (1, .inl ((t : Nat) : Int)), (2, .inl ((r : Nat) : Int)), (3, .inl ((i : Nat) : Int))] [] (fun _ h => h) (by omega) ?_
      refine tl_go 2 10 [(0, .inr 0), (1, .inl ((t : Nat) : Int)), (2, .inl ((r : Nat) : Int)), (3, .inl ((i : Nat) : Int))] [.inl ((r : Nat) : Int), .inl ((i : Nat) : Int)] w (fun _ h => h) ?_
      refine tl_if (((i : Nat) : Int) = ((r : Nat) : Int)) 21 13 [(0, .inr 0), (1, .inl ((t : Nat) : Int)), (2, .inl ((r : Nat) : Int)), (3, .inl ((i : Nat) : Int))] [] (fun _ h => h) (fun hc => ?_) (fun hc => ?_)
      · have hc : i = r := by omega
        refine tl_go 3 24 [(0, .inr 0), (1, .inl ((t : Nat) : Int)), (2, .inl ((r : Nat) : Int)), (3, .inl ((i : Nat) : Int))] [.inl ((i : Nat) : Int), .inl ((t : Nat) : Int), .inr 0] w (fun _ h => h) ?_
        refine tl_callV (as := [.inr 0, .inl ((t : Nat) : Int), .inl ((i : Nat) : Int)]) (rest := []) (v := some ((M (34 * t + i) : Nat) : Int)) (w' := w) rfl rfl (ta_mo (d + 1) t i ht (by omega) w (hM _ (by omega))) (Nat.le_of_ble_eq_true rfl) rfl rfl rfl (Nat.le_of_ble_eq_true rfl) ?_
        refine tl_go 1 28 [(0, .inr 0), (1, .inl ((t : Nat) : Int)), (2, .inl ((r : Nat) : Int)), (3, .inl ((i : Nat) : Int))] [.inl 2, .inl ((M (34 * t + i) : Nat) : Int)] w (fun _ h => h) ?_
        refine tl_callS (as := [.inl ((M (34 * t + i) : Nat) : Int), .inl 2]) (rest := []) (v := some (tm_b (decide (tm_jn (M (34 * t + i)) 2 = M (34 * t + i))))) (w' := w) rfl rfl rfl rfl (ta_cov d (M (34 * t + i)) 2 w) (Nat.le_of_ble_eq_true rfl) rfl rfl (Nat.le_of_ble_eq_true rfl) ?_
        refine tl_if ((tm_b (decide (tm_jn (M (34 * t + i)) 2 = M (34 * t + i)))) = 0) 36 34 [(0, .inr 0), (1, .inl ((t : Nat) : Int)), (2, .inl ((r : Nat) : Int)), (3, .inl ((i : Nat) : Int))] [] (fun _ h => h) (fun hg => ?_) (fun hg => ?_)
        · have hg := of_decide_eq_false (tm_beq hg)
          refine tl_go 2 2 [(0, .inr 0), (1, .inl ((t : Nat) : Int)), (2, .inl ((r : Nat) : Int)), (3, .inl (((i : Nat) : Int) + 1))] [] w (fun _ h => And.intro (by omega) h) ?_
          refine ih (i + 1) (by omega) (fun c hc9 => ?_)
          by_cases e : c = i
          · rw [e]; exact fun q => hg (hwr.mpr q.2)
          · exact hall c (by omega)
        · have hg := of_decide_eq_true (tm_bne hg)
          refine tl_go 1 35 [(0, .inr 0), (1, .inl ((t : Nat) : Int)), (2, .inl ((r : Nat) : Int)), (3, .inl ((i : Nat) : Int))] [.inl 1] w (fun _ h => h) ?_
          exact tl_retz rfl rfl (tm_b1 (decide_eq_true (tm_any_t (i := i) (by omega) (by rw [Bool.and_eq_true, Bool.or_eq_true, beq_iff_eq]; exact ⟨Or.inl hc, hwr.mp hg⟩)))) (hQ)
      · refine tl_go 2 15 [(0, .inr 0), (1, .inl ((t : Nat) : Int)), (2, .inl ((r : Nat) : Int)), (3, .inl ((i : Nat) : Int))] [.inl ((r : Nat) : Int), .inl ((i : Nat) : Int)] w (fun _ h => h) ?_
        refine tl_callS (as := [.inl ((i : Nat) : Int), .inl ((r : Nat) : Int)]) (rest := []) (v := some (tm_b (decide (tm_bl i r = true)))) (w' := w) rfl rfl rfl rfl (ta_bl d i r (by omega) hr w) (Nat.le_of_ble_eq_true rfl) rfl rfl (Nat.le_of_ble_eq_true rfl) ?_
        refine tl_if ((tm_b (decide (tm_bl i r = true))) = 0) 36 21 [(0, .inr 0), (1, .inl ((t : Nat) : Int)), (2, .inl ((r : Nat) : Int)), (3, .inl ((i : Nat) : Int))] [] (fun _ h => h) (fun hb => ?_) (fun hb => ?_)
        · have hb := of_decide_eq_false (tm_beq hb)
          refine tl_go 2 2 [(0, .inr 0), (1, .inl ((t : Nat) : Int)), (2, .inl ((r : Nat) : Int)), (3, .inl (((i : Nat) : Int) + 1))] [] w (fun _ h => And.intro (by omega) h) ?_
          refine ih (i + 1) (by omega) (fun c hc9 => ?_)
          by_cases e : c = i
          · rw [e]; exact fun q => q.1.elim (fun z => hc (by rw [z])) hb
          · exact hall c (by omega)
        · have hb := of_decide_eq_true (tm_bne hb)
          refine tl_go 3 24 [(0, .inr 0), (1, .inl ((t : Nat) : Int)), (2, .inl ((r : Nat) : Int)), (3, .inl ((i : Nat) : Int))] [.inl ((i : Nat) : Int), .inl ((t : Nat) : Int), .inr 0] w (fun _ h => h) ?_
          refine tl_callV (as := [.inr 0, .inl ((t : Nat) : Int), .inl ((i : Nat) : Int)]) (rest := []) (v := some ((M (34 * t + i) : Nat) : Int)) (w' := w) rfl rfl (ta_mo (d + 1) t i ht (by omega) w (hM _ (by omega))) (Nat.le_of_ble_eq_true rfl) rfl rfl rfl (Nat.le_of_ble_eq_true rfl) ?_
          refine tl_go 1 28 [(0, .inr 0), (1, .inl ((t : Nat) : Int)), (2, .inl ((r : Nat) : Int)), (3, .inl ((i : Nat) : Int))] [.inl 2, .inl ((M (34 * t + i) : Nat) : Int)] w (fun _ h => h) ?_
          refine tl_callS (as := [.inl ((M (34 * t + i) : Nat) : Int), .inl 2]) (rest := []) (v := some (tm_b (decide (tm_jn (M (34 * t + i)) 2 = M (34 * t + i))))) (w' := w) rfl rfl rfl rfl (ta_cov d (M (34 * t + i)) 2 w) (Nat.le_of_ble_eq_true rfl) rfl rfl (Nat.le_of_ble_eq_true rfl) ?_
          refine tl_if ((tm_b (decide (tm_jn (M (34 * t + i)) 2 = M (34 * t + i)))) = 0) 36 34 [(0, .inr 0), (1, .inl ((t : Nat) : Int)), (2, .inl ((r : Nat) : Int)), (3, .inl ((i : Nat) : Int))] [] (fun _ h => h) (fun hg => ?_) (fun hg => ?_)
          · have hg := of_decide_eq_false (tm_beq hg)
            refine tl_go 2 2 [(0, .inr 0), (1, .inl ((t : Nat) : Int)), (2, .inl ((r : Nat) : Int)), (3, .inl (((i : Nat) : Int) + 1))] [] w (fun _ h => And.intro (by omega) h) ?_
            refine ih (i + 1) (by omega) (fun c hc9 => ?_)
            by_cases e : c = i
            · rw [e]; exact fun q => hg (hwr.mpr q.2)
            · exact hall c (by omega)
          · have hg := of_decide_eq_true (tm_bne hg)
            refine tl_go 1 35 [(0, .inr 0), (1, .inl ((t : Nat) : Int)), (2, .inl ((r : Nat) : Int)), (3, .inl ((i : Nat) : Int))] [.inl 1] w (fun _ h => h) ?_
            exact tl_retz rfl rfl (tm_b1 (decide_eq_true (tm_any_t (i := i) (by omega) (by rw [Bool.and_eq_true, Bool.or_eq_true, beq_iff_eq]; exact ⟨Or.inr hb, hwr.mp hg⟩)))) (hQ)
  refine loop (34 - r) r (by omega) (fun c hc q => ?_)
  rcases q.1 with h1 | h1
  · omega
  · have := tm_bl_lt c (by omega) r hr h1; omega
def tm_ann (M : Nat → Nat) (t r : Nat) (m : Int) : Bool := decide (r = 0) || tm_cov (M (34 * t + tm_pn r)) (if m = 1 ∨ m = 3 then 1 else 2)
theorem ta_ann (d : Nat) (t r : Nat) (m : Int) (ht : t < 8) (hr : r < 34) {M : Nat → Nat} (w : tl_W) (hM : ∀ i, i < 272 → w 0 i = (M i : Int)) (hM5 : ∀ i, i < 272 → M i ≤ 5) : tl_Ev ta_P (d + 3) 32 [.inr 0, .inl ((t : Nat) : Int), .inl ((r : Nat) : Int), .inl m] w (.inl (some (tm_b (decide (tm_ann M t r m = true))))) w := by
  refine tl_start fun Q hQ => ?_
  refine tl_go 1 1 [(0, .inr 0), (1, .inl ((t : Nat) : Int)), (2, .inl ((r : Nat) : Int)), (3, .inl m)] [.inl ((r : Nat) : Int)] w (fun _ h => h) ?_
  refine tl_callS (as := [.inl ((r : Nat) : Int)]) (rest := []) (v := some (tm_pI r)) (w' := w) rfl rfl rfl rfl (ta_par (d + 1) r hr w) (Nat.le_of_ble_eq_true rfl) rfl rfl (Nat.le_of_ble_eq_true rfl) ?_
  refine tl_go 3 9 [(0, .inr 0), (1, .inl ((t : Nat) : Int)), (2, .inl ((r : Nat) : Int)), (3, .inl m), (4, .inl (tm_pI r))] [.inl (-1), .inl (tm_pI r)] w (fun _ h => h) ?_
  refine tl_if ((tm_pI r) = (-1)) 37 12 [(0, .inr 0), (1, .inl ((t : Nat) : Int)), (2, .inl ((r : Nat) : Int)), (3, .inl m), (4, .inl (tm_pI r))] [] (fun _ h => h) (fun hc => ?_) (fun hc => ?_)
  · have h0 : r = 0 := by unfold tm_pI at hc; split at hc <;> omega
    refine tl_go 2 42 [(0, .inr 0), (1, .inl ((t : Nat) : Int)), (2, .inl ((r : Nat) : Int)), (3, .inl m), (4, .inl (tm_pI r))] [.inl 1] w (fun _ h => h) ?_
    exact tl_retz rfl rfl (tm_b1 (decide_eq_true (by unfold tm_ann; rw [h0]; rfl))) (hQ)
  · have h0 : r ≠ 0 := fun e => hc (by rw [e]; rfl)
    have hlt := tm_pn_lt h0
    refine tl_loc (L' := [(0, .inr 0), (1, .inl ((t : Nat) : Int)), (2, .inl ((r : Nat) : Int)), (3, .inl m), (4, .inl ((tm_pn r : Nat) : Int))]) (by rw [tm_pI_p h0]) ?_
    refine tl_go 3 16 [(0, .inr 0), (1, .inl ((t : Nat) : Int)), (2, .inl ((r : Nat) : Int)), (3, .inl m), (4, .inl ((tm_pn r : Nat) : Int))] [.inl ((tm_pn r : Nat) : Int), .inl ((t : Nat) : Int), .inr 0] w (fun _ h => h) ?_
    refine tl_callV (as := [.inr 0, .inl ((t : Nat) : Int), .inl ((tm_pn r : Nat) : Int)]) (rest := []) (v := some ((M (34 * t + tm_pn r) : Nat) : Int)) (w' := w) rfl rfl (ta_mo (d + 1) t (tm_pn r) ht (by omega) w (hM _ (by omega))) (Nat.le_of_ble_eq_true rfl) rfl rfl rfl (Nat.le_of_ble_eq_true rfl) ?_
    refine tl_go 1 20 [(0, .inr 0), (1, .inl ((t : Nat) : Int)), (2, .inl ((r : Nat) : Int)), (3, .inl m), (4, .inl ((tm_pn r : Nat) : Int))] [.inl m, .inl ((M (34 * t + tm_pn r) : Nat) : Int)] w (fun _ h => h) ?_
    refine tl_callS (as := [.inl m]) (rest := [.inl ((M (34 * t + tm_pn r) : Nat) : Int)]) (v := some (tm_b (decide (m = 1 ∨ m = 3)))) (w' := w) rfl rfl rfl rfl (ta_rd (d + 1) m w) (Nat.le_of_ble_eq_true rfl) rfl rfl (Nat.le_of_ble_eq_true rfl) ?_
    refine tl_if ((tm_b (decide (m = 1 ∨ m = 3))) = 0) 30 26 [(0, .inr 0), (1, .inl ((t : Nat) : Int)), (2, .inl ((r : Nat) : Int)), (3, .inl m), (4, .inl ((tm_pn r : Nat) : Int))] [.inl ((M (34 * t + tm_pn r) : Nat) : Int)] (fun _ h => h) (fun hg => ?_) (fun hg => ?_)
    · have hg := of_decide_eq_false (tm_beq hg)
      refine tl_go 1 31 [(0, .inr 0), (1, .inl ((t : Nat) : Int)), (2, .inl ((r : Nat) : Int)), (3, .inl m), (4, .inl ((tm_pn r : Nat) : Int))] [.inl 2, .inl ((M (34 * t + tm_pn r) : Nat) : Int)] w (fun _ h => h) ?_
      refine tl_top (y := ((2 : Nat) : Int)) (rfl) ?_
      refine tl_callS (as := [.inl ((M (34 * t + tm_pn r) : Nat) : Int), .inl ((2 : Nat) : Int)]) (rest := []) (v := some (tm_b (decide (tm_jn (M (34 * t + tm_pn r)) 2 = M (34 * t + tm_pn r))))) (w' := w) rfl rfl rfl rfl (ta_cov d (M (34 * t + tm_pn r)) 2 w) (Nat.le_of_ble_eq_true rfl) rfl rfl (Nat.le_of_ble_eq_true rfl) ?_
      have ea : tm_ann M t r m = tm_cov (M (34 * t + tm_pn r)) 2 := by unfold tm_ann; rw [if_neg hg, decide_eq_false h0, Bool.false_or]
      refine tl_if ((tm_b (decide (tm_jn (M (34 * t + tm_pn r)) 2 = M (34 * t + tm_pn r)))) = 0) 41 37 [(0, .inr 0), (1, .inl ((t : Nat) : Int)), (2, .inl ((r : Nat) : Int)), (3, .inl m), (4, .inl ((tm_pn r : Nat) : Int))] [] (fun _ h => h) (fun hk => ?_) (fun hk => ?_)
      · have hk := of_decide_eq_false (tm_beq hk)
        refine tl_go 1 42 [(0, .inr 0), (1, .inl ((t : Nat) : Int)), (2, .inl ((r : Nat) : Int)), (3, .inl m), (4, .inl ((tm_pn r : Nat) : Int))] [.inl 0] w (fun _ h => h) ?_
        exact tl_retz rfl rfl (tm_b0 (decide_eq_false (by rw [ea]; unfold tm_cov; rw [beq_iff_eq]; exact hk))) (hQ)
      · have hk := of_decide_eq_true (tm_bne hk)
        refine tl_go 2 42 [(0, .inr 0), (1, .inl ((t : Nat) : Int)), (2, .inl ((r : Nat) : Int)), (3, .inl m), (4, .inl ((tm_pn r : Nat) : Int))] [.inl 1] w (fun _ h => h) ?_
        exact tl_retz rfl rfl (tm_b1 (decide_eq_true (by rw [ea]; unfold tm_cov; rw [beq_iff_eq]; exact hk))) (hQ)
    · have hg := of_decide_eq_true (tm_bne hg)
      refine tl_go 2 31 [(0, .inr 0), (1, .inl ((t : Nat) : Int)), (2, .inl ((r : Nat) : Int)), (3, .inl m), (4, .inl ((tm_pn r : Nat) : Int))] [.inl 1, .inl ((M (34 * t + tm_pn r) : Nat) : Int)] w (fun _ h => h) ?_
      refine tl_top (y := ((1 : Nat) : Int)) (rfl) ?_
      refine tl_callS (as := [.inl ((M (34 * t + tm_pn r) : Nat) : Int), .inl ((1 : Nat) : Int)]) (rest := []) (v := some (tm_b (decide (tm_jn (M (34 * t + tm_pn r)) 1 = M (34 * t + tm_pn r))))) (w' := w) rfl rfl rfl rfl (ta_cov d (M (34 * t + tm_pn r)) 1 w) (Nat.le_of_ble_eq_true rfl) rfl rfl (Nat.le_of_ble_eq_true rfl) ?_
      have ea : tm_ann M t r m = tm_cov (M (34 * t + tm_pn r)) 1 := by unfold tm_ann; rw [if_pos hg, decide_eq_false h0, Bool.false_or]
      refine tl_if ((tm_b (decide (tm_jn (M (34 * t + tm_pn r)) 1 = M (34 * t + tm_pn r)))) = 0) 41 37 [(0, .inr 0), (1, .inl ((t : Nat) : Int)), (2, .inl ((r : Nat) : Int)), (3, .inl m), (4, .inl ((tm_pn r : Nat) : Int))] [] (fun _ h => h) (fun hk => ?_) (fun hk => ?_)
      · have hk := of_decide_eq_false (tm_beq hk)
        refine tl_go 1 42 [(0, .inr 0), (1, .inl ((t : Nat) : Int)), (2, .inl ((r : Nat) : Int)), (3, .inl m), (4, .inl ((tm_pn r : Nat) : Int))] [.inl 0] w (fun _ h => h) ?_
        exact tl_retz rfl rfl (tm_b0 (decide_eq_false (by rw [ea]; unfold tm_cov; rw [beq_iff_eq]; exact hk))) (hQ)
      · have hk := of_decide_eq_true (tm_bne hk)
        refine tl_go 2 42 [(0, .inr 0), (1, .inl ((t : Nat) : Int)), (2, .inl ((r : Nat) : Int)), (3, .inl m), (4, .inl ((tm_pn r : Nat) : Int))] [.inl 1] w (fun _ h => h) ?_
        exact tl_retz rfl rfl (tm_b1 (decide_eq_true (by rw [ea]; unfold tm_cov; rw [beq_iff_eq]; exact hk))) (hQ)
def tm_cvd (M : Nat → Nat) (t r : Nat) (m : Int) : Bool := decide ((if m = 1 ∨ m = 3 then 1 else 2) ≤ tm_rfa M t (tm_an 3 r) 0)
theorem ta_cvd (d : Nat) (t r : Nat) (m : Int) (ht : t < 8) (hr : r < 34) {M : Nat → Nat} (w : tl_W) (hM : ∀ i, i < 272 → w 0 i = (M i : Int)) (hM5 : ∀ i, i < 272 → M i ≤ 5) : tl_Ev ta_P (d + 3) 33 [.inr 0, .inl ((t : Nat) : Int), .inl ((r : Nat) : Int), .inl m] w (.inl (some (tm_b (decide (tm_cvd M t r m = true))))) w := by
  refine tl_start fun Q hQ => ?_
  refine tl_go 3 3 [(0, .inr 0), (1, .inl ((t : Nat) : Int)), (2, .inl ((r : Nat) : Int)), (3, .inl m)] [.inl ((r : Nat) : Int), .inl ((t : Nat) : Int), .inr 0] w (fun _ h => h) ?_
  refine tl_callV (as := [.inr 0, .inl ((t : Nat) : Int), .inl ((r : Nat) : Int)]) (rest := []) (v := some ((tm_rfa M t (tm_an 3 r) 0 : Nat) : Int)) (w' := w) rfl rfl (ta_rfa d t r ht hr w hM hM5) (Nat.le_of_ble_eq_true rfl) rfl rfl rfl (Nat.le_of_ble_eq_true rfl) ?_
  refine tl_go 1 7 [(0, .inr 0), (1, .inl ((t : Nat) : Int)), (2, .inl ((r : Nat) : Int)), (3, .inl m)] [.inl m, .inl ((tm_rfa M t (tm_an 3 r) 0 : Nat) : Int)] w (fun _ h => h) ?_
  refine tl_callS (as := [.inl m]) (rest := [.inl ((tm_rfa M t (tm_an 3 r) 0 : Nat) : Int)]) (v := some (tm_b (decide (m = 1 ∨ m = 3)))) (w' := w) rfl rfl rfl rfl (ta_rd (d + 1) m w) (Nat.le_of_ble_eq_true rfl) rfl rfl (Nat.le_of_ble_eq_true rfl) ?_
  refine tl_if ((tm_b (decide (m = 1 ∨ m = 3))) = 0) 17 13 [(0, .inr 0), (1, .inl ((t : Nat) : Int)), (2, .inl ((r : Nat) : Int)), (3, .inl m)] [.inl ((tm_rfa M t (tm_an 3 r) 0 : Nat) : Int)] (fun _ h => h) (fun hg => ?_) (fun hg => ?_)
  · have hg := of_decide_eq_false (tm_beq hg)
    refine tl_go 1 18 [(0, .inr 0), (1, .inl ((t : Nat) : Int)), (2, .inl ((r : Nat) : Int)), (3, .inl m)] [.inl 2, .inl ((tm_rfa M t (tm_an 3 r) 0 : Nat) : Int)] w (fun _ h => h) ?_
    refine tl_if (((tm_rfa M t (tm_an 3 r) 0 : Nat) : Int) < 2) 25 21 [(0, .inr 0), (1, .inl ((t : Nat) : Int)), (2, .inl ((r : Nat) : Int)), (3, .inl m)] [] (fun _ h => h) (fun hk => ?_) (fun hk => ?_)
    · refine tl_go 1 26 [(0, .inr 0), (1, .inl ((t : Nat) : Int)), (2, .inl ((r : Nat) : Int)), (3, .inl m)] [.inl 0] w (fun _ h => h) ?_
      exact tl_retz rfl rfl (tm_b0 (decide_eq_false (by unfold tm_cvd; rw [if_neg hg, decide_eq_true_eq]; omega))) (hQ)
    · refine tl_go 2 26 [(0, .inr 0), (1, .inl ((t : Nat) : Int)), (2, .inl ((r : Nat) : Int)), (3, .inl m)] [.inl 1] w (fun _ h => h) ?_
      exact tl_retz rfl rfl (tm_b1 (decide_eq_true (by unfold tm_cvd; rw [if_neg hg, decide_eq_true_eq]; omega))) (hQ)
  · have hg := of_decide_eq_true (tm_bne hg)
    refine tl_go 2 18 [(0, .inr 0), (1, .inl ((t : Nat) : Int)), (2, .inl ((r : Nat) : Int)), (3, .inl m)] [.inl 1, .inl ((tm_rfa M t (tm_an 3 r) 0 : Nat) : Int)] w (fun _ h => h) ?_
    refine tl_if (((tm_rfa M t (tm_an 3 r) 0 : Nat) : Int) < 1) 25 21 [(0, .inr 0), (1, .inl ((t : Nat) : Int)), (2, .inl ((r : Nat) : Int)), (3, .inl m)] [] (fun _ h => h) (fun hk => ?_) (fun hk => ?_)
    · refine tl_go 1 26 [(0, .inr 0), (1, .inl ((t : Nat) : Int)), (2, .inl ((r : Nat) : Int)), (3, .inl m)] [.inl 0] w (fun _ h => h) ?_
      exact tl_retz rfl rfl (tm_b0 (decide_eq_false (by unfold tm_cvd; rw [if_pos hg, decide_eq_true_eq]; omega))) (hQ)
    · refine tl_go 2 26 [(0, .inr 0), (1, .inl ((t : Nat) : Int)), (2, .inl ((r : Nat) : Int)), (3, .inl m)] [.inl 1] w (fun _ h => h) ?_
      exact tl_retz rfl rfl (tm_b1 (decide_eq_true (by unfold tm_cvd; rw [if_pos hg, decide_eq_true_eq]; omega))) (hQ)
end
section
/-! 13.det: the small machine has one end: what a call does can be named, printed by gen13.py -/
set_option maxHeartbeats 4000000 in
set_option maxRecDepth 100000 in
theorem tl_wp_det {P : tl_P} {C : Nat → List tl_V → tl_W → tl_Q → Prop} {j : Nat} (hC : ∀ (j' : Nat) (as : List tl_V) (w : tl_W) (Q : tl_Q), C j' as w Q → ∃ r w', Q r w' ∧ ∀ Q' : tl_Q, Q' r w' → C j' as w Q') :
    ∀ (n pc : Nat) (L : tl_L) (st : List tl_V) (w : tl_W) (Q : tl_Q), tl_wp P C j Q n pc L st w → ∃ r w', Q r w' ∧ ∀ Q' : tl_Q, Q' r w' → tl_wp P C j Q' n pc L st w := by
  intro n
  induction n with
  | zero => intro pc L st w Q h; exact h.elim
  | succ n ih =>
    intro pc L st w Q h
    obtain ⟨i, hi, h⟩ := tl_some_s h
    have mk : ∀ Q' : tl_Q, tl_w P j C (tl_wp P C j Q' n) Q' i pc L st w → tl_wp P C j Q' (n + 1) pc L st w := fun Q' h' => by
      show tl_some (tl_at (P.1 j).1 pc) _
      rw [hi]
      exact h'
    cases i with
    | iconst k =>
      obtain ⟨r0, w0, hq, hd⟩ := ih _ _ _ _ _ h
      exact ⟨r0, w0, hq, fun Q' hq' => mk Q' (hd Q' hq')⟩
    | bipush k =>
      obtain ⟨r0, w0, hq, hd⟩ := ih _ _ _ _ _ h
      exact ⟨r0, w0, hq, fun Q' hq' => mk Q' (hd Q' hq')⟩
    | sipush k =>
      obtain ⟨r0, w0, hq, hd⟩ := ih _ _ _ _ _ h
      exact ⟨r0, w0, hq, fun Q' hq' => mk Q' (hd Q' hq')⟩
    | goto off =>
      obtain ⟨r0, w0, hq, hd⟩ := ih _ _ _ _ _ h
      exact ⟨r0, w0, hq, fun Q' hq' => mk Q' (hd Q' hq')⟩
    | iload_n k =>
      obtain ⟨x, hg, h⟩ := tl_ldi_s h
      obtain ⟨r0, w0, hq, hd⟩ := ih _ _ _ _ _ h
      exact ⟨r0, w0, hq, fun Q' hq' => mk Q' (by show tl_ldi _ _; rw [hg]; exact hd Q' hq')⟩
    | iload k =>
      obtain ⟨x, hg, h⟩ := tl_ldi_s h
      obtain ⟨r0, w0, hq, hd⟩ := ih _ _ _ _ _ h
      exact ⟨r0, w0, hq, fun Q' hq' => mk Q' (by show tl_ldi _ _; rw [hg]; exact hd Q' hq')⟩
    | aload_n k =>
      obtain ⟨x, hg, h⟩ := tl_lda_s h
      obtain ⟨r0, w0, hq, hd⟩ := ih _ _ _ _ _ h
      exact ⟨r0, w0, hq, fun Q' hq' => mk Q' (by show tl_lda _ _; rw [hg]; exact hd Q' hq')⟩
    | iinc k a =>
      obtain ⟨x, hg, hr, h⟩ := tl_ldi_s h
      obtain ⟨r0, w0, hq, hd⟩ := ih _ _ _ _ _ h
      exact ⟨r0, w0, hq, fun Q' hq' => mk Q' (by show tl_ldi _ _; rw [hg]; exact ⟨hr, hd Q' hq'⟩)⟩
    | istore_n k =>
      obtain ⟨x, r, rfl, h⟩ := tl_st1_s h
      obtain ⟨r0, w0, hq, hd⟩ := ih _ _ _ _ _ h
      exact ⟨r0, w0, hq, fun Q' hq' => mk Q' (hd Q' hq')⟩
    | istore k =>
      obtain ⟨x, r, rfl, h⟩ := tl_st1_s h
      obtain ⟨r0, w0, hq, hd⟩ := ih _ _ _ _ _ h
      exact ⟨r0, w0, hq, fun Q' hq' => mk Q' (hd Q' hq')⟩
    | iadd =>
      obtain ⟨x, y, r, rfl, hr, h⟩ := tl_st2_s h
      obtain ⟨r0, w0, hq, hd⟩ := ih _ _ _ _ _ h
      exact ⟨r0, w0, hq, fun Q' hq' => mk Q' (⟨hr, hd Q' hq'⟩)⟩
    | isub =>
      obtain ⟨x, y, r, rfl, hr, h⟩ := tl_st2_s h
      obtain ⟨r0, w0, hq, hd⟩ := ih _ _ _ _ _ h
      exact ⟨r0, w0, hq, fun Q' hq' => mk Q' (⟨hr, hd Q' hq'⟩)⟩
    | imul =>
      obtain ⟨x, y, r, rfl, hr, h⟩ := tl_st2_s h
      obtain ⟨r0, w0, hq, hd⟩ := ih _ _ _ _ _ h
      exact ⟨r0, w0, hq, fun Q' hq' => mk Q' (⟨hr, hd Q' hq'⟩)⟩
    | iand =>
      obtain ⟨x, y, r, rfl, a, b, hx, hy, h'⟩ := tl_st2_s h
      obtain ⟨r0, w0, hq, hd⟩ := ih _ _ _ _ _ h'
      exact ⟨r0, w0, hq, fun Q' hq' => mk Q' ⟨a, b, hx, hy, hd Q' hq'⟩⟩
    | ior =>
      obtain ⟨x, y, r, rfl, a, b, hx, hy, h'⟩ := tl_st2_s h
      obtain ⟨r0, w0, hq, hd⟩ := ih _ _ _ _ _ h'
      exact ⟨r0, w0, hq, fun Q' hq' => mk Q' ⟨a, b, hx, hy, hd Q' hq'⟩⟩
    | idiv =>
      obtain ⟨x, y, r, rfl, a, b, hx, hy, h0, h'⟩ := tl_st2_s h
      obtain ⟨r0, w0, hq, hd⟩ := ih _ _ _ _ _ h'
      exact ⟨r0, w0, hq, fun Q' hq' => mk Q' ⟨a, b, hx, hy, h0, hd Q' hq'⟩⟩
    | ishl =>
      obtain ⟨x, y, r, rfl, a, b, hx, hy, h0, h1, h'⟩ := tl_st2_s h
      obtain ⟨r0, w0, hq, hd⟩ := ih _ _ _ _ _ h'
      exact ⟨r0, w0, hq, fun Q' hq' => mk Q' ⟨a, b, hx, hy, h0, h1, hd Q' hq'⟩⟩
    | ishr =>
      obtain ⟨x, y, r, rfl, a, b, hx, hy, h0, h'⟩ := tl_st2_s h
      obtain ⟨r0, w0, hq, hd⟩ := ih _ _ _ _ _ h'
      exact ⟨r0, w0, hq, fun Q' hq' => mk Q' ⟨a, b, hx, hy, h0, hd Q' hq'⟩⟩
    | dup =>
      obtain ⟨v, r, rfl, h⟩ := tl_any1_s h
      obtain ⟨r0, w0, hq, hd⟩ := ih _ _ _ _ _ h
      exact ⟨r0, w0, hq, fun Q' hq' => mk Q' (hd Q' hq')⟩
    | pop =>
      obtain ⟨v, r, rfl, h⟩ := tl_any1_s h
      obtain ⟨r0, w0, hq, hd⟩ := ih _ _ _ _ _ h
      exact ⟨r0, w0, hq, fun Q' hq' => mk Q' (hd Q' hq')⟩
    | dup2 =>
      obtain ⟨a, r, rfl, h1⟩ := tl_any1_s h
      obtain ⟨b, r', rfl, h2⟩ := tl_any1_s h1
      obtain ⟨r0, w0, hq, hd⟩ := ih _ _ _ _ _ h2
      exact ⟨r0, w0, hq, fun Q' hq' => mk Q' (hd Q' hq')⟩
    | ifCond cd off =>
      cases cd with
      | eq =>
        obtain ⟨x, r, rfl, h⟩ := tl_st1_s h
        by_cases hc : x = 0
        · obtain ⟨r0, w0, hq, hd⟩ := ih _ _ _ _ _ (h.1 hc)
          exact ⟨r0, w0, hq, fun Q' hq' => mk Q' ⟨fun _ => hd Q' hq', fun q => absurd hc q⟩⟩
        · obtain ⟨r0, w0, hq, hd⟩ := ih _ _ _ _ _ (h.2 hc)
          exact ⟨r0, w0, hq, fun Q' hq' => mk Q' ⟨fun q => absurd q hc, fun _ => hd Q' hq'⟩⟩
      | ne =>
        obtain ⟨x, r, rfl, h⟩ := tl_st1_s h
        by_cases hc : ¬ x = 0
        · obtain ⟨r0, w0, hq, hd⟩ := ih _ _ _ _ _ (h.1 hc)
          exact ⟨r0, w0, hq, fun Q' hq' => mk Q' ⟨fun _ => hd Q' hq', fun q => absurd hc q⟩⟩
        · obtain ⟨r0, w0, hq, hd⟩ := ih _ _ _ _ _ (h.2 hc)
          exact ⟨r0, w0, hq, fun Q' hq' => mk Q' ⟨fun q => absurd q hc, fun _ => hd Q' hq'⟩⟩
      | lt =>
        obtain ⟨x, r, rfl, h⟩ := tl_st1_s h
        by_cases hc : x < 0
        · obtain ⟨r0, w0, hq, hd⟩ := ih _ _ _ _ _ (h.1 hc)
          exact ⟨r0, w0, hq, fun Q' hq' => mk Q' ⟨fun _ => hd Q' hq', fun q => absurd hc q⟩⟩
        · obtain ⟨r0, w0, hq, hd⟩ := ih _ _ _ _ _ (h.2 hc)
          exact ⟨r0, w0, hq, fun Q' hq' => mk Q' ⟨fun q => absurd q hc, fun _ => hd Q' hq'⟩⟩
      | ge =>
        obtain ⟨x, r, rfl, h⟩ := tl_st1_s h
        by_cases hc : 0 ≤ x
        · obtain ⟨r0, w0, hq, hd⟩ := ih _ _ _ _ _ (h.1 hc)
          exact ⟨r0, w0, hq, fun Q' hq' => mk Q' ⟨fun _ => hd Q' hq', fun q => absurd hc q⟩⟩
        · obtain ⟨r0, w0, hq, hd⟩ := ih _ _ _ _ _ (h.2 hc)
          exact ⟨r0, w0, hq, fun Q' hq' => mk Q' ⟨fun q => absurd q hc, fun _ => hd Q' hq'⟩⟩
      | gt =>
        obtain ⟨x, r, rfl, h⟩ := tl_st1_s h
        by_cases hc : 0 < x
        · obtain ⟨r0, w0, hq, hd⟩ := ih _ _ _ _ _ (h.1 hc)
          exact ⟨r0, w0, hq, fun Q' hq' => mk Q' ⟨fun _ => hd Q' hq', fun q => absurd hc q⟩⟩
        · obtain ⟨r0, w0, hq, hd⟩ := ih _ _ _ _ _ (h.2 hc)
          exact ⟨r0, w0, hq, fun Q' hq' => mk Q' ⟨fun q => absurd q hc, fun _ => hd Q' hq'⟩⟩
      | le =>
        obtain ⟨x, r, rfl, h⟩ := tl_st1_s h
        by_cases hc : x ≤ 0
        · obtain ⟨r0, w0, hq, hd⟩ := ih _ _ _ _ _ (h.1 hc)
          exact ⟨r0, w0, hq, fun Q' hq' => mk Q' ⟨fun _ => hd Q' hq', fun q => absurd hc q⟩⟩
        · obtain ⟨r0, w0, hq, hd⟩ := ih _ _ _ _ _ (h.2 hc)
          exact ⟨r0, w0, hq, fun Q' hq' => mk Q' ⟨fun q => absurd q hc, fun _ => hd Q' hq'⟩⟩
    | if_icmp cd off =>
      cases cd with
      | eq =>
        obtain ⟨x, y, r, rfl, h⟩ := tl_st2_s h
        by_cases hc : x = y
        · obtain ⟨r0, w0, hq, hd⟩ := ih _ _ _ _ _ (h.1 hc)
          exact ⟨r0, w0, hq, fun Q' hq' => mk Q' ⟨fun _ => hd Q' hq', fun q => absurd hc q⟩⟩
        · obtain ⟨r0, w0, hq, hd⟩ := ih _ _ _ _ _ (h.2 hc)
          exact ⟨r0, w0, hq, fun Q' hq' => mk Q' ⟨fun q => absurd q hc, fun _ => hd Q' hq'⟩⟩
      | ne =>
        obtain ⟨x, y, r, rfl, h⟩ := tl_st2_s h
        by_cases hc : ¬ x = y
        · obtain ⟨r0, w0, hq, hd⟩ := ih _ _ _ _ _ (h.1 hc)
          exact ⟨r0, w0, hq, fun Q' hq' => mk Q' ⟨fun _ => hd Q' hq', fun q => absurd hc q⟩⟩
        · obtain ⟨r0, w0, hq, hd⟩ := ih _ _ _ _ _ (h.2 hc)
          exact ⟨r0, w0, hq, fun Q' hq' => mk Q' ⟨fun q => absurd q hc, fun _ => hd Q' hq'⟩⟩
      | lt =>
        obtain ⟨x, y, r, rfl, h⟩ := tl_st2_s h
        by_cases hc : x < y
        · obtain ⟨r0, w0, hq, hd⟩ := ih _ _ _ _ _ (h.1 hc)
          exact ⟨r0, w0, hq, fun Q' hq' => mk Q' ⟨fun _ => hd Q' hq', fun q => absurd hc q⟩⟩
        · obtain ⟨r0, w0, hq, hd⟩ := ih _ _ _ _ _ (h.2 hc)
          exact ⟨r0, w0, hq, fun Q' hq' => mk Q' ⟨fun q => absurd q hc, fun _ => hd Q' hq'⟩⟩
      | ge =>
        obtain ⟨x, y, r, rfl, h⟩ := tl_st2_s h
        by_cases hc : y ≤ x
        · obtain ⟨r0, w0, hq, hd⟩ := ih _ _ _ _ _ (h.1 hc)
          exact ⟨r0, w0, hq, fun Q' hq' => mk Q' ⟨fun _ => hd Q' hq', fun q => absurd hc q⟩⟩
        · obtain ⟨r0, w0, hq, hd⟩ := ih _ _ _ _ _ (h.2 hc)
          exact ⟨r0, w0, hq, fun Q' hq' => mk Q' ⟨fun q => absurd q hc, fun _ => hd Q' hq'⟩⟩
      | gt =>
        obtain ⟨x, y, r, rfl, h⟩ := tl_st2_s h
        by_cases hc : y < x
        · obtain ⟨r0, w0, hq, hd⟩ := ih _ _ _ _ _ (h.1 hc)
          exact ⟨r0, w0, hq, fun Q' hq' => mk Q' ⟨fun _ => hd Q' hq', fun q => absurd hc q⟩⟩
        · obtain ⟨r0, w0, hq, hd⟩ := ih _ _ _ _ _ (h.2 hc)
          exact ⟨r0, w0, hq, fun Q' hq' => mk Q' ⟨fun q => absurd q hc, fun _ => hd Q' hq'⟩⟩
      | le =>
        obtain ⟨x, y, r, rfl, h⟩ := tl_st2_s h
        by_cases hc : x ≤ y
        · obtain ⟨r0, w0, hq, hd⟩ := ih _ _ _ _ _ (h.1 hc)
          exact ⟨r0, w0, hq, fun Q' hq' => mk Q' ⟨fun _ => hd Q' hq', fun q => absurd hc q⟩⟩
        · obtain ⟨r0, w0, hq, hd⟩ := ih _ _ _ _ _ (h.2 hc)
          exact ⟨r0, w0, hq, fun Q' hq' => mk Q' ⟨fun q => absurd q hc, fun _ => hd Q' hq'⟩⟩
    | getfield ix =>
      obtain ⟨a, r, rfl, h0, h1⟩ := tl_sta_s h
      obtain ⟨k, hk, h9, h2⟩ := tl_some_s h1
      cases hv : P.2.2.1 k with
      | some z =>
        rw [hv] at h2
        obtain ⟨r0, w0, hq, hd⟩ := ih _ _ _ _ _ h2
        refine ⟨r0, w0, hq, fun Q' hq' => mk Q' ⟨h0, ?_⟩⟩
        rw [hk]
        refine ⟨h9, ?_⟩
        rw [hv]
        exact hd Q' hq'
      | none =>
        rw [hv] at h2
        obtain ⟨r0, w0, hq, hd⟩ := ih _ _ _ _ _ h2
        refine ⟨r0, w0, hq, fun Q' hq' => mk Q' ⟨h0, ?_⟩⟩
        rw [hk]
        refine ⟨h9, ?_⟩
        rw [hv]
        exact hd Q' hq'
    | putfield ix =>
      obtain ⟨x, r, rfl, h1⟩ := tl_st1_s h
      obtain ⟨a, r', rfl, h0, h2⟩ := tl_sta_s h1
      obtain ⟨k, hk, h9, hv, h3⟩ := tl_some_s h2
      obtain ⟨r0, w0, hq, hd⟩ := ih _ _ _ _ _ h3
      refine ⟨r0, w0, hq, fun Q' hq' => mk Q' ⟨h0, ?_⟩⟩
      rw [hk]
      exact ⟨h9, hv, hd Q' hq'⟩
    | getstatic ix =>
      obtain ⟨hk, h⟩ := h
      obtain ⟨r0, w0, hq, hd⟩ := ih _ _ _ _ _ h
      exact ⟨r0, w0, hq, fun Q' hq' => mk Q' ⟨hk, hd Q' hq'⟩⟩
    | iaload =>
      obtain ⟨x, r, rfl, h1⟩ := tl_st1_s h
      obtain ⟨a, r', rfl, k, b, n', e1, e2, e3, e4, h2⟩ := tl_sta_s h1
      obtain ⟨r0, w0, hq, hd⟩ := ih _ _ _ _ _ h2
      exact ⟨r0, w0, hq, fun Q' hq' => mk Q' ⟨k, b, n', e1, e2, e3, e4, hd Q' hq'⟩⟩
    | iastore =>
      obtain ⟨x, y, r, rfl, h1⟩ := tl_st2_s h
      obtain ⟨a, r', rfl, k, b, n', e1, e2, e3, e4, e5, h2⟩ := tl_sta_s h1
      obtain ⟨r0, w0, hq, hd⟩ := ih _ _ _ _ _ h2
      exact ⟨r0, w0, hq, fun Q' hq' => mk Q' ⟨k, b, n', e1, e2, e3, e4, e5, hd Q' hq'⟩⟩
    | invokestatic ix =>
      obtain ⟨q, hq0, h1⟩ := tl_some_s h
      cases h0 : Nat.beq q.1 1000 with
      | true =>
        rw [h0] at h1
        obtain ⟨x, y, r, rfl, h8, h2⟩ := tl_st2_s h1
        obtain ⟨r0, w0, hq, hd⟩ := ih _ _ _ _ _ h2
        refine ⟨r0, w0, hq, fun Q' hq' => mk Q' ?_⟩
        show tl_some _ _
        rw [hq0]
        show bif Nat.beq q.1 1000 then _ else _
        rw [h0]
        exact ⟨h8, hd Q' hq'⟩
      | false =>
        rw [h0] at h1
        cases h9 : Nat.beq q.1 1001 with
        | true =>
          rw [h9] at h1
          obtain ⟨x, y, r, rfl, h8, h2⟩ := tl_st2_s h1
          obtain ⟨r0, w0, hq, hd⟩ := ih _ _ _ _ _ h2
          refine ⟨r0, w0, hq, fun Q' hq' => mk Q' ?_⟩
          show tl_some _ _
          rw [hq0]
          show bif Nat.beq q.1 1000 then _ else bif Nat.beq q.1 1001 then _ else _
          rw [h0, h9]
          exact ⟨h8, hd Q' hq'⟩
        | false =>
          rw [h9] at h1
          obtain ⟨hn, h8, h2⟩ := h1
          obtain ⟨r1, w1, g1, g2⟩ := hC _ _ _ _ h2
          have fin : ∀ Q' : tl_Q, tl_res (fun st' w' => tl_wp P C j Q' n (pc + 3) L st' w') (st.drop q.2) r1 w1 → tl_wp P C j Q' (n + 1) pc L st w := fun Q' h' => mk Q' (by
            show tl_some _ _
            rw [hq0]
            show bif Nat.beq q.1 1000 then _ else bif Nat.beq q.1 1001 then _ else _
            rw [h0, h9]
            exact ⟨hn, h8, g2 _ h'⟩)
          rcases r1 with (_ | x) | k
          · obtain ⟨r0, w0, hq, hd⟩ := ih _ _ _ _ _ g1
            exact ⟨r0, w0, hq, fun Q' hq' => fin Q' (hd Q' hq')⟩
          · obtain ⟨r0, w0, hq, hd⟩ := ih _ _ _ _ _ g1
            exact ⟨r0, w0, hq, fun Q' hq' => fin Q' (hd Q' hq')⟩
          · exact g1.elim
    | invokevirtual ix =>
      obtain ⟨q, hq0, hlast, hn, h8, h2⟩ := tl_some_s h
      obtain ⟨r1, w1, g1, g2⟩ := hC _ _ _ _ h2
      have fin : ∀ Q' : tl_Q, tl_res (fun st' w' => tl_wp P C j Q' n (pc + 3) L st' w') (st.drop q.2) r1 w1 → tl_wp P C j Q' (n + 1) pc L st w := fun Q' h' => mk Q' (by
        show tl_some _ _
        rw [hq0]
        exact ⟨hlast, hn, h8, g2 _ h'⟩)
      rcases r1 with (_ | x) | k
      · obtain ⟨r0, w0, hq, hd⟩ := ih _ _ _ _ _ g1
        exact ⟨r0, w0, hq, fun Q' hq' => fin Q' (hd Q' hq')⟩
      · obtain ⟨r0, w0, hq, hd⟩ := ih _ _ _ _ _ g1
        exact ⟨r0, w0, hq, fun Q' hq' => fin Q' (hd Q' hq')⟩
      · exact g1.elim
    | ireturn =>
      obtain ⟨x, r, rfl, hr, hty, h1⟩ := tl_st1_s h
      exact ⟨_, _, h1, fun Q' hq' => mk Q' ⟨hr, hty, hq'⟩⟩
    | return_ =>
      obtain ⟨hr, hty, h1⟩ := h
      exact ⟨_, _, h1, fun Q' hq' => mk Q' ⟨hr, hty, hq'⟩⟩
    | new ix =>
      obtain ⟨hr, h1⟩ := h
      obtain ⟨k, hk, h2⟩ := tl_some_s h1
      exact ⟨_, _, h2, fun Q' hq' => mk Q' ⟨hr, by rw [hk]; exact hq'⟩⟩
    | _ => exact h.elim
theorem tl_C_det {P : tl_P} : ∀ (d j : Nat) (as : List tl_V) (w : tl_W) (Q : tl_Q), tl_C P d j as w Q → ∃ r w', Q r w' ∧ tl_Ev P d j as w r w' := by
  intro d
  induction d with
  | zero => intro j as w Q h; exact h.elim
  | succ d ih =>
    intro j as w Q h
    obtain ⟨n, hn⟩ := h
    obtain ⟨r, w', hq, hd⟩ := tl_wp_det ih n 0 _ _ _ _ hn
    exact ⟨r, w', hq, fun Q' hq' => ⟨n, hd Q' hq'⟩⟩
/-- a call that ends with the answer v in some world of this kind -/
theorem tl_exi {P : tl_P} {d j : Nat} {as : List tl_V} {w : tl_W} {v : tl_R} {post : tl_W → Prop} (h : ∀ Q : tl_Q, (∀ w', post w' → Q v w') → tl_E P d j 0 (tl_en 0 as) [] w Q) : ∃ w', tl_Ev P (d + 1) j as w v w' ∧ post w' := by
  obtain ⟨r, w', ⟨h1, h2⟩, h3⟩ := tl_C_det (P := P) (d + 1) j as w (fun r w' => r = v ∧ post w') (h (fun r w' => r = v ∧ post w') (fun w' hp => ⟨rfl, hp⟩))
  subst h1
  exact ⟨w', h3, h2⟩
end
section
/-! 14.queues: the class's queues, printed by a4.py -/
def tm_RC (w : tl_W) (σ : tm_S) : Prop := (∀ i, i < 272 → w 0 i = (σ.1 i : Int)) ∧ (∀ t, t < 8 → w 1 t = (σ.2.1 t : Int) ∧ w 2 t = (σ.2.2.1 t : Int)) ∧ (∀ r, r < 34 → ∀ k t : Nat, (σ.2.2.2 r)[k]? = some t → w 3 t = (k : Int)) ∧ (∀ j, j < 6 → w 99 j = (tm_tb j : Int))
/-- queues and situations belong together -/
def tm_K (σ : tm_S) : Prop := (∀ t, t < 8 → σ.2.1 t ≤ 35) ∧ ∀ r, r < 34 → (σ.2.2.2 r).Nodup ∧ ∀ t, t ∈ σ.2.2.2 r ↔ t < 8 ∧ σ.2.1 t = r + 2
theorem tm_J_K {σ : tm_S} (h : tm_J σ) : tm_K σ := ⟨fun t ht => (h.2.1 t ht).1, fun r hr => ⟨(h.2.2 r hr).1, (h.2.2 r hr).2.1⟩⟩
theorem tm_RC_3 {w : tl_W} {σ : tm_S} (h : tm_RC w σ) : tm_at3 w σ := ⟨fun t ht => (h.2.1 t ht).1, h.2.2.1⟩
theorem tm_K_len {σ : tm_S} (h : tm_K σ) {r : Nat} (hr : r < 34) : (σ.2.2.2 r).length ≤ 8 := tm_pig 8 _ (h.2 r hr).1 (fun x hx => (((h.2 r hr).2 x).mp hx).1)
theorem tm_K_lt {σ : tm_S} (h : tm_K σ) {r k t : Nat} (hr : r < 34) (hk : (σ.2.2.2 r)[k]? = some t) : k < 8 ∧ t < 8 ∧ σ.2.1 t = r + 2 := by
  have h1 := (List.getElem?_eq_some_iff.mp hk).1
  have h2 := tm_K_len h hr
  have h3 := ((h.2 r hr).2 t).mp (List.mem_of_getElem? hk)
  exact ⟨by omega, h3⟩
theorem tm_nd {l : List Nat} (h : l.Nodup) {i j a : Nat} (hi : l[i]? = some a) (hj : l[j]? = some a) : i = j := by
  have h1 := (List.getElem?_eq_some_iff.mp hi).1
  exact (List.getElem?_inj h1 h).mp (hi.trans hj.symm)
theorem tm_ix {l : List Nat} (h : l.Nodup) {k a : Nat} (hk : l[k]? = some a) : l.idxOf a = k := by
  have h1 : l.idxOf a < l.length := List.idxOf_lt_length_of_mem (List.mem_of_getElem? hk)
  have h2 : l[l.idxOf a]? = some a := by rw [List.getElem?_eq_getElem h1, List.getElem_idxOf h1]
  exact tm_nd h h2 hk
theorem tm_ix2 {l : List Nat} {a : Nat} (h : a ∈ l) : l[l.idxOf a]? = some a := by
  have h1 : l.idxOf a < l.length := List.idxOf_lt_length_of_mem h
  rw [List.getElem?_eq_getElem h1, List.getElem_idxOf h1]
def tm_shf (w : tl_W) (S : Nat → Nat) (r : Nat) (fr st : Int) (i : Nat) : tl_W := fun a => if a = 3 then (fun t => if t < i ∧ S t = r + 2 ∧ fr ≤ w 3 t then w 3 t + st else w 3 t) else w a
theorem tm_shf_0 (w : tl_W) (S : Nat → Nat) (r : Nat) (fr st : Int) : tm_shf w S r fr st 0 = w := by
  funext a t
  unfold tm_shf
  by_cases h : a = 3
  · rw [if_pos h, if_neg (by omega), h]
  · rw [if_neg h]
theorem tm_shf_n {w : tl_W} {S : Nat → Nat} {r : Nat} {fr st : Int} {i a : Nat} (h : a ≠ 3) : tm_shf w S r fr st i a = w a := by unfold tm_shf; exact if_neg h
theorem tm_shf_3 (w : tl_W) (S : Nat → Nat) (r : Nat) (fr st : Int) (i t : Nat) : tm_shf w S r fr st i 3 t = if t < i ∧ S t = r + 2 ∧ fr ≤ w 3 t then w 3 t + st else w 3 t := by unfold tm_shf; rw [if_pos rfl]
theorem tm_shf_y {w : tl_W} {S : Nat → Nat} {r : Nat} {fr st : Int} {i : Nat} (h : S i = r + 2 ∧ fr ≤ w 3 i) : tl_set (tm_shf w S r fr st i) 3 i (w 3 i + st) = tm_shf w S r fr st (i + 1) := by
  funext a t
  unfold tl_set
  by_cases ha : a = 3
  · rw [if_pos ha, ha, tm_shf_3]
    unfold va_up
    by_cases ht : t = i
    · rw [if_pos ht, ht, if_pos ⟨by omega, h⟩]
    · rw [if_neg ht, tm_shf_3]
      by_cases hc : t < i ∧ S t = r + 2 ∧ fr ≤ w 3 t
      · rw [if_pos hc, if_pos ⟨by omega, hc.2⟩]
      · rw [if_neg hc, if_neg (fun q => hc ⟨by omega, q.2⟩)]
  · rw [if_neg ha, tm_shf_n ha, tm_shf_n ha]
theorem tm_shf_x {w : tl_W} {S : Nat → Nat} {r : Nat} {fr st : Int} {i : Nat} (h : ¬ (S i = r + 2 ∧ fr ≤ w 3 i)) : tm_shf w S r fr st i = tm_shf w S r fr st (i + 1) := by
  funext a t
  by_cases ha : a = 3
  · rw [ha, tm_shf_3, tm_shf_3]
    by_cases hc : t < i ∧ S t = r + 2 ∧ fr ≤ w 3 t
    · rw [if_pos hc, if_pos ⟨by omega, hc.2⟩]
    · rw [if_neg hc, if_neg (fun q => ?_)]
      by_cases ht : t = i
      · exact h (ht ▸ q.2)
      · exact hc ⟨by omega, q.2⟩
  · rw [tm_shf_n ha, tm_shf_n ha]
theorem tm_aw_eq {x r : Nat} : tm_aw x = (r : Int) ↔ x = r + 2 := by
  unfold tm_aw
  split <;> omega

theorem ta_shf (d : Nat) (r : Nat) (fr st : Int) {S : Nat → Nat} (w : tl_W) (hS : ∀ t, t < 8 → w 1 t = (S t : Int)) (hS5 : ∀ t, t < 8 → S t ≤ 35) (h3 : ∀ t, t < 8 → S t = r + 2 → -8 ≤ w 3 t ∧ w 3 t ≤ 16) (hst : -1 ≤ st ∧ st ≤ 1) : tl_Ev ta_P (d + 2) 40 [.inr 0, .inl ((r : Nat) : Int), .inl fr, .inl st] w (.inl (none)) (tm_shf w S r fr st 8) := by
  refine tl_start fun Q hQ => ?_
  refine tl_go 2 3 [(0, .inr 0), (1, .inl ((r : Nat) : Int)), (2, .inl fr), (3, .inl st), (4, .inl 0)] [] w (fun _ h => h) ?_
  have loop : ∀ k i : Nat, i + k = 8 → tl_E ta_P (d + 1) 40 3 [(0, .inr 0), (1, .inl (r : Int)), (2, .inl fr), (3, .inl st), (4, .inl (i : Int))] [] (tm_shf w S r fr st i) Q := by
    intro k
    induction k with
    | zero =>
      intro i hi
      have hQ8 : Q (.inl none) (tm_shf w S r fr st i) := by rw [show i = 8 by omega]; exact hQ
      refine tl_go 2 7 [(0, .inr 0), (1, .inl ((r : Nat) : Int)), (2, .inl fr), (3, .inl st), (4, .inl ((i : Nat) : Int))] [.inl 8, .inl ((i : Nat) : Int)] (tm_shf w S r fr st i) (fun _ h => h) ?_
      refine tl_ift (8 ≤ ((i : Nat) : Int)) 48 10 [(0, .inr 0), (1, .inl ((r : Nat) : Int)), (2, .inl fr), (3, .inl st), (4, .inl ((i : Nat) : Int))] [] (fun _ h => h) (by omega) ?_
      exact tl_retv rfl rfl (hQ8)
    | succ k ih =>
      intro i hi
      refine tl_go 2 7 [(0, .inr 0), (1, .inl ((r : Nat) : Int)), (2, .inl fr), (3, .inl st), (4, .inl ((i : Nat) : Int))] [.inl 8, .inl ((i : Nat) : Int)] (tm_shf w S r fr st i) (fun _ h => h) ?_
      refine tl_iff (8 ≤ ((i : Nat) : Int)) 48 10 [(0, .inr 0), (1, .inl ((r : Nat) : Int)), (2, .inl fr), (3, .inl st), (4, .inl ((i : Nat) : Int))] [] (fun _ h => h) (by omega) ?_
      refine tl_go 2 13 [(0, .inr 0), (1, .inl ((r : Nat) : Int)), (2, .inl fr), (3, .inl st), (4, .inl ((i : Nat) : Int))] [.inl ((i : Nat) : Int), .inr 0] (tm_shf w S r fr st i) (fun _ h => h) ?_
      refine tl_callV (as := [.inr 0, .inl ((i : Nat) : Int)]) (rest := []) (v := some (tm_aw (S i))) (w' := (tm_shf w S r fr st i)) rfl rfl (ta_aw d i (by omega) _ (by rw [tm_shf_n (by decide)]; exact hS i (by omega)) (hS5 i (by omega))) (Nat.le_of_ble_eq_true rfl) rfl rfl rfl (Nat.le_of_ble_eq_true rfl) ?_
      refine tl_go 1 17 [(0, .inr 0), (1, .inl ((r : Nat) : Int)), (2, .inl fr), (3, .inl st), (4, .inl ((i : Nat) : Int))] [.inl ((r : Nat) : Int), .inl (tm_aw (S i))] (tm_shf w S r fr st i) (fun _ h => h) ?_
      refine tl_if (¬ (tm_aw (S i)) = ((r : Nat) : Int)) 42 20 [(0, .inr 0), (1, .inl ((r : Nat) : Int)), (2, .inl fr), (3, .inl st), (4, .inl ((i : Nat) : Int))] [] (fun _ h => h) (fun hc => ?_) (fun hc => ?_)
      · refine tl_go 2 3 [(0, .inr 0), (1, .inl ((r : Nat) : Int)), (2, .inl fr), (3, .inl st), (4, .inl (((i : Nat) : Int) + 1))] [] (tm_shf w S r fr st i) (fun _ h => And.intro (by omega) h) ?_
        have e9 := tm_shf_x (w := w) (S := S) (r := r) (fr := fr) (st := st) (i := i) (fun q => hc (tm_aw_eq.mpr q.1))
        rw [e9]
        exact ih (i + 1) (by omega)
      · have hc := tm_aw_eq.mp (Classical.not_not.mp hc)
        have e3 : tm_shf w S r fr st i 3 i = w 3 i := by rw [tm_shf_3, if_neg (by omega)]
        have hb := h3 i (by omega) hc
        refine tl_go 3 26 [(0, .inr 0), (1, .inl ((r : Nat) : Int)), (2, .inl fr), (3, .inl st), (4, .inl ((i : Nat) : Int))] [.inl ((i : Nat) : Int), .inr 4] (tm_shf w S r fr st i) (fun _ h => And.intro rfl (And.intro (by decide) (h))) ?_
        refine tl_ald (i) 8 (k := 3) rfl (by omega) rfl (by omega) ?_
        refine tl_top (y := (w 3 i)) (e3) ?_
        refine tl_go 1 28 [(0, .inr 0), (1, .inl ((r : Nat) : Int)), (2, .inl fr), (3, .inl st), (4, .inl ((i : Nat) : Int))] [.inl fr, .inl (w 3 i)] (tm_shf w S r fr st i) (fun _ h => h) ?_
        refine tl_if ((w 3 i) < fr) 42 31 [(0, .inr 0), (1, .inl ((r : Nat) : Int)), (2, .inl fr), (3, .inl st), (4, .inl ((i : Nat) : Int))] [] (fun _ h => h) (fun hg => ?_) (fun hg => ?_)
        · refine tl_go 2 3 [(0, .inr 0), (1, .inl ((r : Nat) : Int)), (2, .inl fr), (3, .inl st), (4, .inl (((i : Nat) : Int) + 1))] [] (tm_shf w S r fr st i) (fun _ h => And.intro (by omega) h) ?_
          have e9 := tm_shf_x (w := w) (S := S) (r := r) (fr := fr) (st := st) (i := i) (fun q => by have := q.2; omega)
          rw [e9]
          exact ih (i + 1) (by omega)
        · refine tl_go 4 38 [(0, .inr 0), (1, .inl ((r : Nat) : Int)), (2, .inl fr), (3, .inl st), (4, .inl ((i : Nat) : Int))] [.inl ((i : Nat) : Int), .inr 4, .inl ((i : Nat) : Int), .inr 4] (tm_shf w S r fr st i) (fun _ h => And.intro rfl (And.intro (by decide) (h))) ?_
          refine tl_ald (i) 8 (k := 3) rfl (by omega) rfl (by omega) ?_
          refine tl_top (y := (w 3 i)) (e3) ?_
          refine tl_go 2 41 [(0, .inr 0), (1, .inl ((r : Nat) : Int)), (2, .inl fr), (3, .inl st), (4, .inl ((i : Nat) : Int))] [.inl ((w 3 i) + st), .inl ((i : Nat) : Int), .inr 4] (tm_shf w S r fr st i) (fun _ h => And.intro (by omega) h) ?_
          refine tl_ast (i) 8 (k := 3) rfl (by decide) (by omega) rfl (by omega) ?_
          refine tl_wld (w' := (tm_shf w S r fr st (i + 1))) (tm_shf_y ⟨hc, by omega⟩) ?_
          refine tl_go 2 3 [(0, .inr 0), (1, .inl ((r : Nat) : Int)), (2, .inl fr), (3, .inl st), (4, .inl (((i : Nat) : Int) + 1))] [] (tm_shf w S r fr st (i + 1)) (fun _ h => And.intro (by omega) h) ?_
          exact ih (i + 1) (by omega)
  have h9 := loop 8 0 rfl
  rw [tm_shf_0] at h9
  exact h9
def tm_lv (σ : tm_S) (r t k : Nat) : tm_S := (σ.1, va_up σ.2.1 t 1, va_up σ.2.2.1 t 0, va_up σ.2.2.2 r ((σ.2.2.2 r).eraseIdx k))
theorem tl_set_o {w : tl_W} {k j a : Nat} {x : Int} (h : a ≠ k) : tl_set w k j x a = w a := by unfold tl_set; exact if_neg h
theorem tl_set_s (w : tl_W) (k j : Nat) (x : Int) : tl_set w k j x k = va_up (w k) j x := by unfold tl_set; exact if_pos rfl
theorem tm_lv_RC {w : tl_W} {σ : tm_S} (hK : tm_K σ) (hR : tm_RC w σ) {r t k : Nat} (hr : r < 34) (hk : (σ.2.2.2 r)[k]? = some t) : tm_RC (tm_shf (tl_set (tl_set w 1 t 1) 2 t 0) (va_up σ.2.1 t 1) r (w 3 t) (-1) 8) (tm_lv σ r t k) := by
  obtain ⟨hk8, ht8, hts⟩ := tm_K_lt hK hr hk
  have h3t := hR.2.2.1 r hr k t hk
  refine ⟨fun i hi => ?_, fun u hu => ⟨?_, ?_⟩, fun r' hr' k' t' hk' => ?_, fun j hj => ?_⟩
  · rw [tm_shf_n (by decide), tl_set_o (by decide), tl_set_o (by decide)]; exact hR.1 i hi
  · rw [tm_shf_n (by decide), tl_set_o (by decide), tl_set_s]
    show va_up (w 1) t 1 u = ((va_up σ.2.1 t 1 u : Nat) : Int)
    by_cases e : u = t
    · rw [e, va_up_s, va_up_s]; rfl
    · rw [va_up_n _ _ e, va_up_n _ _ e]; exact (hR.2.1 u hu).1
  · rw [tm_shf_n (by decide), tl_set_s, tl_set_o (by decide)]
    show va_up (w 2) t 0 u = ((va_up σ.2.2.1 t 0 u : Nat) : Int)
    by_cases e : u = t
    · rw [e, va_up_s, va_up_s]; rfl
    · rw [va_up_n _ _ e, va_up_n _ _ e]; exact (hR.2.1 u hu).2
  · have hk' : (va_up σ.2.2.2 r ((σ.2.2.2 r).eraseIdx k) r')[k']? = some t' := hk'
    have e0 : tl_set (tl_set w 1 t 1) 2 t 0 3 = w 3 := by rw [tl_set_o (by decide), tl_set_o (by decide)]
    rw [tm_shf_3, e0]
    by_cases er : r' = r
    · subst er
      rw [va_up_s] at hk'
      by_cases hlt : k' < k
      · rw [List.getElem?_eraseIdx_of_lt hlt] at hk'
        have e3 := hR.2.2.1 r' hr' k' t' hk'
        rw [if_neg (fun q => by have := q.2.2; omega)]
        exact e3
      · rw [List.getElem?_eraseIdx_of_ge (by omega)] at hk'
        have e3 := hR.2.2.1 r' hr' (k' + 1) t' hk'
        obtain ⟨_, ht', hs'⟩ := tm_K_lt hK hr' hk'
        have hne : t' ≠ t := fun e => by
          rw [e] at hk'
          have := tm_nd (hK.2 r' hr').1 hk' hk
          omega
        rw [if_pos ⟨ht', by rw [va_up_n _ _ hne]; exact hs', by omega⟩]
        omega
    · rw [va_up_n _ _ er] at hk'
      have e3 := hR.2.2.1 r' hr' k' t' hk'
      obtain ⟨_, ht', hs'⟩ := tm_K_lt hK hr' hk'
      have hne : t' ≠ t := fun e => by rw [e] at hs'; omega
      rw [if_neg (fun q => by have := q.2.1; rw [va_up_n _ _ hne] at this; omega)]
      exact e3
  · rw [tm_shf_n (by decide), tl_set_o (by decide), tl_set_o (by decide)]; exact hR.2.2.2 j hj

theorem ta_lv (d : Nat) {r t k : Nat} {σ : tm_S} (w : tl_W) (hK : tm_K σ) (hR : tm_RC w σ) (hr : r < 34) (hk : (σ.2.2.2 r)[k]? = some t) : tl_Ev ta_P (d + 3) 38 [.inr 0, .inl ((t : Nat) : Int)] w (.inl (none)) (tm_shf (tl_set (tl_set w 1 t 1) 2 t 0) (va_up σ.2.1 t 1) r (w 3 t) (-1) 8) := by
  refine tl_start fun Q hQ => ?_
  obtain ⟨hk8, ht8, hts⟩ := tm_K_lt hK hr hk
  refine tl_go 2 2 [(0, .inr 0), (1, .inl ((t : Nat) : Int))] [.inl ((t : Nat) : Int), .inr 0] w (fun _ h => h) ?_
  refine tl_callV (as := [.inr 0, .inl ((t : Nat) : Int)]) (rest := []) (v := some (tm_aw (σ.2.1 t))) (w' := w) rfl rfl (ta_aw (d + 1) t ht8 w (hR.2.1 t ht8).1 (hK.1 t ht8)) (Nat.le_of_ble_eq_true rfl) rfl rfl rfl (Nat.le_of_ble_eq_true rfl) ?_
  refine tl_top (y := ((r : Nat) : Int)) (tm_aw_eq.mpr hts) ?_
  refine tl_go 5 12 [(0, .inr 0), (1, .inl ((t : Nat) : Int)), (2, .inl ((r : Nat) : Int))] [.inl 1, .inl ((t : Nat) : Int), .inr 2] w (fun _ h => And.intro rfl (And.intro (by decide) (h))) ?_
  refine tl_ast (t) 8 (k := 1) rfl (by decide) (by omega) rfl (by omega) ?_
  refine tl_go 4 19 [(0, .inr 0), (1, .inl ((t : Nat) : Int)), (2, .inl ((r : Nat) : Int))] [.inl 0, .inl ((t : Nat) : Int), .inr 3] (tl_set w 1 (t) 1) (fun _ h => And.intro rfl (And.intro (by decide) (h))) ?_
  refine tl_ast (t) 8 (k := 2) rfl (by decide) (by omega) rfl (by omega) ?_
  refine tl_go 5 27 [(0, .inr 0), (1, .inl ((t : Nat) : Int)), (2, .inl ((r : Nat) : Int))] [.inl ((t : Nat) : Int), .inr 4, .inl ((r : Nat) : Int), .inr 0] (tl_set (tl_set w 1 (t) 1) 2 (t) 0) (fun _ h => And.intro rfl (And.intro (by decide) (h))) ?_
  refine tl_ald (t) 8 (k := 3) rfl (by omega) rfl (by omega) ?_
  refine tl_top (y := (w 3 t)) (by rw [tl_set_o (by decide), tl_set_o (by decide)]) ?_
  refine tl_go 1 29 [(0, .inr 0), (1, .inl ((t : Nat) : Int)), (2, .inl ((r : Nat) : Int))] [.inl (-1), .inl (w 3 t), .inl ((r : Nat) : Int), .inr 0] (tl_set (tl_set w 1 (t) 1) 2 (t) 0) (fun _ h => h) ?_
  refine tl_callV (as := [.inr 0, .inl ((r : Nat) : Int), .inl (w 3 t), .inl (-1)]) (rest := []) (v := none) (w' := (tm_shf (tl_set (tl_set w 1 t 1) 2 t 0) (va_up σ.2.1 t 1) r (w 3 t) (-1) 8)) rfl rfl (ta_shf d r (w 3 t) (-1) (S := va_up σ.2.1 t 1) _ ?_ ?_ ?_ (by omega)) (Nat.le_of_ble_eq_true rfl) rfl rfl rfl (Nat.le_of_ble_eq_true rfl) ?_
  · intro u hu
    rw [tl_set_o (by decide), tl_set_s]
    by_cases e : u = t
    · rw [e, va_up_s, va_up_s]; rfl
    · rw [va_up_n _ _ e, va_up_n _ _ e]; exact (hR.2.1 u hu).1
  · intro u hu
    by_cases e : u = t
    · rw [e, va_up_s]; omega
    · rw [va_up_n _ _ e]; exact hK.1 u hu
  · intro u hu hs
    have e : u ≠ t := fun e => by rw [e, va_up_s] at hs; omega
    rw [va_up_n _ _ e] at hs
    obtain ⟨k9, hk9⟩ := List.getElem?_of_mem (((hK.2 r hr).2 u).mpr ⟨hu, hs⟩)
    have h8 := tm_K_lt hK hr hk9
    rw [tl_set_o (by decide), tl_set_o (by decide), hR.2.2.1 r hr k9 u hk9]
    omega
  · exact tl_retv rfl rfl hQ
def tm_pl (σ : tm_S) (t r : Nat) : Nat := (σ.2.2.2 r).countP (fun u => decide (σ.1 (34 * u + r) ≠ 0) || decide (σ.1 (34 * t + r) = 0))
theorem tm_cq_1 (p : Nat → Bool) {a : Nat} {l : List Nat} (ha : a ∉ l) : ∀ n, (List.range n).countP (fun u => decide (u ∈ a :: l) && p u) = (List.range n).countP (fun u => decide (u ∈ l) && p u) + (if a < n ∧ p a = true then 1 else 0) := by
  intro n
  induction n with
  | zero => rfl
  | succ n ih =>
    rw [List.range_succ, List.countP_append, List.countP_append, ih, List.countP_singleton, List.countP_singleton]
    by_cases hn : n = a
    · subst hn
      have e1 : decide (n ∈ n :: l) = true := decide_eq_true List.mem_cons_self
      have e2 : decide (n ∈ l) = false := decide_eq_false ha
      rw [e1, e2]
      cases hp : p n with
      | true => simp
      | false => simp
    · have e1 : decide (n ∈ a :: l) = decide (n ∈ l) := by
        by_cases h : n ∈ l
        · rw [decide_eq_true h, decide_eq_true (List.mem_cons_of_mem _ h)]
        · rw [decide_eq_false h, decide_eq_false (fun q => (List.mem_cons.mp q).elim hn h)]
      have e2 : (a < n ∧ p a = true) ↔ (a < n + 1 ∧ p a = true) := ⟨fun q => ⟨by omega, q.2⟩, fun q => ⟨by omega, q.2⟩⟩
      rw [e1]
      by_cases hc : a < n ∧ p a = true
      · rw [if_pos hc, if_pos (e2.mp hc)]
        omega
      · rw [if_neg hc, if_neg (fun q => hc (e2.mpr q))]
        omega
theorem tm_cq (p : Nat → Bool) (n : Nat) : ∀ l : List Nat, l.Nodup → (∀ x ∈ l, x < n) → (List.range n).countP (fun u => decide (u ∈ l) && p u) = l.countP p := by
  intro l
  induction l with
  | nil =>
    intro _ _
    rw [List.countP_nil]
    apply List.countP_eq_zero.mpr
    intro a _
    simp
  | cons a l ih =>
    intro hd hl
    obtain ⟨h1, h2⟩ := List.nodup_cons.mp hd
    rw [tm_cq_1 p h1, ih h2 (fun x hx => hl x (List.mem_cons_of_mem _ hx)), List.countP_cons]
    by_cases hp : p a = true
    · rw [if_pos ⟨hl a List.mem_cons_self, hp⟩, if_pos hp]
    · rw [if_neg (fun q => hp q.2), if_neg hp]
def tm_pc (σ : tm_S) (t r i : Nat) : Nat := (List.range i).countP (fun u => decide (σ.2.1 u = r + 2) && (decide (σ.1 (34 * u + r) ≠ 0) || decide (σ.1 (34 * t + r) = 0)))
theorem tm_pc_s (σ : tm_S) (t r i : Nat) : tm_pc σ t r (i + 1) = tm_pc σ t r i + (if σ.2.1 i = r + 2 ∧ (σ.1 (34 * i + r) ≠ 0 ∨ σ.1 (34 * t + r) = 0) then 1 else 0) := by
  unfold tm_pc
  rw [List.range_succ, List.countP_append, List.countP_singleton]
  by_cases h : σ.2.1 i = r + 2 ∧ (σ.1 (34 * i + r) ≠ 0 ∨ σ.1 (34 * t + r) = 0)
  · rw [if_pos h, if_pos (by rw [Bool.and_eq_true, Bool.or_eq_true, decide_eq_true_eq, decide_eq_true_eq, decide_eq_true_eq]; exact h)]
  · rw [if_neg h, if_neg (by rw [Bool.and_eq_true, Bool.or_eq_true, decide_eq_true_eq, decide_eq_true_eq, decide_eq_true_eq]; exact h)]
theorem tm_pc_le (σ : tm_S) (t r i : Nat) : tm_pc σ t r i ≤ i := by
  unfold tm_pc
  exact Nat.le_trans (List.countP_le_length) (by rw [List.length_range]; exact Nat.le_refl _)
theorem tm_pc_8 {σ : tm_S} (hK : tm_K σ) {t r : Nat} (hr : r < 34) : tm_pc σ t r 8 = tm_pl σ t r := by
  unfold tm_pl
  rw [← tm_cq _ 8 (σ.2.2.2 r) (hK.2 r hr).1 (fun x hx => (((hK.2 r hr).2 x).mp hx).1)]
  unfold tm_pc
  apply List.countP_congr
  intro u hu
  have h8 := List.mem_range.mp hu
  have e : decide (σ.2.1 u = r + 2) = decide (u ∈ σ.2.2.2 r) := by
    by_cases h : u ∈ σ.2.2.2 r
    · rw [decide_eq_true h, decide_eq_true (((hK.2 r hr).2 u).mp h).2]
    · rw [decide_eq_false h, decide_eq_false (fun q => h (((hK.2 r hr).2 u).mpr ⟨h8, q⟩))]
  rw [e]

theorem ta_pl (d : Nat) (t r : Nat) {σ : tm_S} (w : tl_W) (hK : tm_K σ) (hR : tm_RC w σ) (ht : t < 8) (hr : r < 34) : tl_Ev ta_P (d + 3) 39 [.inr 0, .inl ((t : Nat) : Int), .inl ((r : Nat) : Int)] w (.inl (some ((tm_pl σ t r : Nat) : Int))) w := by
  refine tl_start fun Q hQ => ?_
  refine tl_go 4 5 [(0, .inr 0), (1, .inl ((t : Nat) : Int)), (2, .inl ((r : Nat) : Int)), (3, .inl 0), (4, .inl 0)] [] w (fun _ h => h) ?_
  have loop : ∀ k i : Nat, i + k = 8 → tl_E ta_P (d + 2) 39 5 [(0, .inr 0), (1, .inl (t : Int)), (2, .inl (r : Int)), (3, .inl ((tm_pc σ t r i : Nat) : Int)), (4, .inl (i : Int))] [] w Q := by
    intro k
    induction k with
    | zero =>
      intro i hi
      refine tl_go 2 9 [(0, .inr 0), (1, .inl ((t : Nat) : Int)), (2, .inl ((r : Nat) : Int)), (3, .inl ((tm_pc σ t r i : Nat) : Int)), (4, .inl ((i : Nat) : Int))] [.inl 8, .inl ((i : Nat) : Int)] w (fun _ h => h) ?_
      refine tl_ift (8 ≤ ((i : Nat) : Int)) 50 12 [(0, .inr 0), (1, .inl ((t : Nat) : Int)), (2, .inl ((r : Nat) : Int)), (3, .inl ((tm_pc σ t r i : Nat) : Int)), (4, .inl ((i : Nat) : Int))] [] (fun _ h => h) (by omega) ?_
      refine tl_go 1 51 [(0, .inr 0), (1, .inl ((t : Nat) : Int)), (2, .inl ((r : Nat) : Int)), (3, .inl ((tm_pc σ t r i : Nat) : Int)), (4, .inl ((i : Nat) : Int))] [.inl ((tm_pc σ t r i : Nat) : Int)] w (fun _ h => h) ?_
      exact tl_reti rfl rfl (by rw [show i = 8 by omega, tm_pc_8 hK hr]) (hQ)
    | succ k ih =>
      intro i hi
      have hle := tm_pc_le σ t r i
      refine tl_go 2 9 [(0, .inr 0), (1, .inl ((t : Nat) : Int)), (2, .inl ((r : Nat) : Int)), (3, .inl ((tm_pc σ t r i : Nat) : Int)), (4, .inl ((i : Nat) : Int))] [.inl 8, .inl ((i : Nat) : Int)] w (fun _ h => h) ?_
      refine tl_iff (8 ≤ ((i : Nat) : Int)) 50 12 [(0, .inr 0), (1, .inl ((t : Nat) : Int)), (2, .inl ((r : Nat) : Int)), (3, .inl ((tm_pc σ t r i : Nat) : Int)), (4, .inl ((i : Nat) : Int))] [] (fun _ h => h) (by omega) ?_
      refine tl_go 2 15 [(0, .inr 0), (1, .inl ((t : Nat) : Int)), (2, .inl ((r : Nat) : Int)), (3, .inl ((tm_pc σ t r i : Nat) : Int)), (4, .inl ((i : Nat) : Int))] [.inl ((i : Nat) : Int), .inr 0] w (fun _ h => h) ?_
      refine tl_callV (as := [.inr 0, .inl ((i : Nat) : Int)]) (rest := []) (v := some (tm_aw (σ.2.1 i))) (w' := w) rfl rfl (ta_aw (d + 1) i (by omega) w (hR.2.1 i (by omega)).1 (hK.1 i (by omega))) (Nat.le_of_ble_eq_true rfl) rfl rfl rfl (Nat.le_of_ble_eq_true rfl) ?_
      refine tl_go 1 19 [(0, .inr 0), (1, .inl ((t : Nat) : Int)), (2, .inl ((r : Nat) : Int)), (3, .inl ((tm_pc σ t r i : Nat) : Int)), (4, .inl ((i : Nat) : Int))] [.inl ((r : Nat) : Int), .inl (tm_aw (σ.2.1 i))] w (fun _ h => h) ?_
      refine tl_if (¬ (tm_aw (σ.2.1 i)) = ((r : Nat) : Int)) 44 22 [(0, .inr 0), (1, .inl ((t : Nat) : Int)), (2, .inl ((r : Nat) : Int)), (3, .inl ((tm_pc σ t r i : Nat) : Int)), (4, .inl ((i : Nat) : Int))] [] (fun _ h => h) (fun hc => ?_) (fun hc => ?_)
      · have e1 : tm_pc σ t r (i + 1) = tm_pc σ t r i + 0 := by rw [tm_pc_s, if_neg (fun q => hc (tm_aw_eq.mpr q.1))]
        refine tl_go 2 5 [(0, .inr 0), (1, .inl ((t : Nat) : Int)), (2, .inl ((r : Nat) : Int)), (3, .inl ((tm_pc σ t r i : Nat) : Int)), (4, .inl (((i : Nat) : Int) + 1))] [] w (fun _ h => And.intro (by omega) h) ?_
        have h9 := ih (i + 1) (by omega)
        rw [e1] at h9
        exact h9
      · have hc := tm_aw_eq.mp (Classical.not_not.mp hc)
        refine tl_go 3 26 [(0, .inr 0), (1, .inl ((t : Nat) : Int)), (2, .inl ((r : Nat) : Int)), (3, .inl ((tm_pc σ t r i : Nat) : Int)), (4, .inl ((i : Nat) : Int))] [.inl ((r : Nat) : Int), .inl ((i : Nat) : Int), .inr 0] w (fun _ h => h) ?_
        refine tl_callV (as := [.inr 0, .inl ((i : Nat) : Int), .inl ((r : Nat) : Int)]) (rest := []) (v := some (tm_b (decide (σ.1 (34 * i + r) ≠ 0)))) (w' := w) rfl rfl (ta_ih d i r (by omega) hr w (hR.1 _ (by omega))) (Nat.le_of_ble_eq_true rfl) rfl rfl rfl (Nat.le_of_ble_eq_true rfl) ?_
        refine tl_if (¬ (tm_b (decide (σ.1 (34 * i + r) ≠ 0))) = 0) 41 32 [(0, .inr 0), (1, .inl ((t : Nat) : Int)), (2, .inl ((r : Nat) : Int)), (3, .inl ((tm_pc σ t r i : Nat) : Int)), (4, .inl ((i : Nat) : Int))] [] (fun _ h => h) (fun hg => ?_) (fun hg => ?_)
        · have hg := of_decide_eq_true (tm_bne hg)
          have e1 : tm_pc σ t r (i + 1) = tm_pc σ t r i + 1 := by rw [tm_pc_s, if_pos (⟨hc, Or.inl hg⟩)]
          refine tl_go 3 5 [(0, .inr 0), (1, .inl ((t : Nat) : Int)), (2, .inl ((r : Nat) : Int)), (3, .inl (((tm_pc σ t r i : Nat) : Int) + 1)), (4, .inl (((i : Nat) : Int) + 1))] [] w (fun _ h => And.intro (by omega) (And.intro (by omega) h)) ?_
          have h9 := ih (i + 1) (by omega)
          rw [e1] at h9
          exact h9
        · have hg := of_decide_eq_false (tm_beq (Classical.not_not.mp hg))
          refine tl_go 3 35 [(0, .inr 0), (1, .inl ((t : Nat) : Int)), (2, .inl ((r : Nat) : Int)), (3, .inl ((tm_pc σ t r i : Nat) : Int)), (4, .inl ((i : Nat) : Int))] [.inl ((r : Nat) : Int), .inl ((t : Nat) : Int), .inr 0] w (fun _ h => h) ?_
          refine tl_callV (as := [.inr 0, .inl ((t : Nat) : Int), .inl ((r : Nat) : Int)]) (rest := []) (v := some (tm_b (decide (σ.1 (34 * t + r) ≠ 0)))) (w' := w) rfl rfl (ta_ih d t r ht hr w (hR.1 _ (by omega))) (Nat.le_of_ble_eq_true rfl) rfl rfl rfl (Nat.le_of_ble_eq_true rfl) ?_
          refine tl_if (¬ (tm_b (decide (σ.1 (34 * t + r) ≠ 0))) = 0) 44 41 [(0, .inr 0), (1, .inl ((t : Nat) : Int)), (2, .inl ((r : Nat) : Int)), (3, .inl ((tm_pc σ t r i : Nat) : Int)), (4, .inl ((i : Nat) : Int))] [] (fun _ h => h) (fun hh => ?_) (fun hh => ?_)
          · have hh := of_decide_eq_true (tm_bne hh)
            have e1 : tm_pc σ t r (i + 1) = tm_pc σ t r i + 0 := by rw [tm_pc_s, if_neg (fun q => q.2.elim hg hh)]
            refine tl_go 2 5 [(0, .inr 0), (1, .inl ((t : Nat) : Int)), (2, .inl ((r : Nat) : Int)), (3, .inl ((tm_pc σ t r i : Nat) : Int)), (4, .inl (((i : Nat) : Int) + 1))] [] w (fun _ h => And.intro (by omega) h) ?_
            have h9 := ih (i + 1) (by omega)
            rw [e1] at h9
            exact h9
          · have hh := of_decide_eq_false (tm_beq (Classical.not_not.mp hh))
            have e1 : tm_pc σ t r (i + 1) = tm_pc σ t r i + 1 := by rw [tm_pc_s, if_pos (⟨hc, Or.inr (Classical.not_not.mp hh)⟩)]
            refine tl_go 3 5 [(0, .inr 0), (1, .inl ((t : Nat) : Int)), (2, .inl ((r : Nat) : Int)), (3, .inl (((tm_pc σ t r i : Nat) : Int) + 1)), (4, .inl (((i : Nat) : Int) + 1))] [] w (fun _ h => And.intro (by omega) (And.intro (by omega) h)) ?_
            have h9 := ih (i + 1) (by omega)
            rw [e1] at h9
            exact h9
  exact loop 8 0 rfl
def tm_en (σ : tm_S) (r t m p : Nat) : tm_S := (σ.1, va_up σ.2.1 t (r + 2), va_up σ.2.2.1 t m, va_up σ.2.2.2 r ((σ.2.2.2 r).take p ++ t :: (σ.2.2.2 r).drop p))
theorem tm_ins {l : List Nat} {p t : Nat} (hp : p ≤ l.length) (k : Nat) : (l.take p ++ t :: l.drop p)[k]? = if k < p then l[k]? else if k = p then some t else l[k - 1]? := by
  rw [List.getElem?_append, List.length_take, Nat.min_eq_left hp]
  by_cases h : k < p
  · rw [if_pos h, if_pos h, List.getElem?_take_of_lt h]
  · rw [if_neg h, if_neg h]
    by_cases h2 : k = p
    · rw [if_pos h2, h2, Nat.sub_self]; rfl
    · rw [if_neg h2]
      obtain ⟨n, rfl⟩ : ∃ n, k = p + 1 + n := ⟨k - p - 1, by omega⟩
      rw [show p + 1 + n - p = n + 1 by omega, List.getElem?_cons_succ, List.getElem?_drop, show p + 1 + n - 1 = p + n by omega]
theorem tm_pl_le (σ : tm_S) (t r : Nat) : tm_pl σ t r ≤ (σ.2.2.2 r).length := List.countP_le_length
theorem tm_en_RC {w : tl_W} {σ : tm_S} (hK : tm_K σ) (hR : tm_RC w σ) {r t m p : Nat} (hr : r < 34) (ht : t < 8) (hs : σ.2.1 t < 2) (hp : p ≤ (σ.2.2.2 r).length) : tm_RC (tl_set (tl_set (tl_set (tm_shf w σ.2.1 r (p : Int) 1 8) 1 t ((r + 2 : Nat) : Int)) 2 t (m : Int)) 3 t (p : Int)) (tm_en σ r t m p) := by
  refine ⟨fun i hi => ?_, fun u hu => ⟨?_, ?_⟩, fun r' hr' k' t' hk' => ?_, fun j hj => ?_⟩
  · rw [tl_set_o (by decide), tl_set_o (by decide), tl_set_o (by decide), tm_shf_n (by decide)]; exact hR.1 i hi
  · rw [tl_set_o (by decide), tl_set_o (by decide), tl_set_s, tm_shf_n (by decide)]
    show va_up (w 1) t _ u = ((va_up σ.2.1 t (r + 2) u : Nat) : Int)
    by_cases e : u = t
    · rw [e, va_up_s, va_up_s]
    · rw [va_up_n _ _ e, va_up_n _ _ e]; exact (hR.2.1 u hu).1
  · rw [tl_set_o (by decide), tl_set_s, tl_set_o (by decide), tm_shf_n (by decide)]
    show va_up (w 2) t _ u = ((va_up σ.2.2.1 t m u : Nat) : Int)
    by_cases e : u = t
    · rw [e, va_up_s, va_up_s]
    · rw [va_up_n _ _ e, va_up_n _ _ e]; exact (hR.2.1 u hu).2
  · have hk' : (va_up σ.2.2.2 r ((σ.2.2.2 r).take p ++ t :: (σ.2.2.2 r).drop p) r')[k']? = some t' := hk'
    rw [tl_set_s, tl_set_o (by decide), tl_set_o (by decide)]
    have key : ∀ k9 : Nat, (σ.2.2.2 r')[k9]? = some t' → t' ≠ t ∧ t' < 8 ∧ σ.2.1 t' = r' + 2 ∧ w 3 t' = (k9 : Int) := fun k9 h9 => by
      obtain ⟨_, ht', hs'⟩ := tm_K_lt hK hr' h9
      exact ⟨fun e => by rw [e] at hs'; omega, ht', hs', hR.2.2.1 r' hr' k9 t' h9⟩
    by_cases er : r' = r
    · subst er
      rw [va_up_s, tm_ins hp] at hk'
      by_cases h1 : k' < p
      · rw [if_pos h1] at hk'
        obtain ⟨hne, ht', hs', e3⟩ := key k' hk'
        rw [va_up_n _ _ hne, tm_shf_3, if_neg (fun q => by have := q.2.2; omega)]
        exact e3
      · rw [if_neg h1] at hk'
        by_cases h2 : k' = p
        · rw [if_pos h2] at hk'
          cases hk'
          rw [va_up_s, h2]
        · rw [if_neg h2] at hk'
          obtain ⟨hne, ht', hs', e3⟩ := key (k' - 1) hk'
          rw [va_up_n _ _ hne, tm_shf_3, if_pos ⟨ht', hs', by omega⟩]
          omega
    · rw [va_up_n _ _ er] at hk'
      obtain ⟨hne, ht', hs', e3⟩ := key k' hk'
      rw [va_up_n _ _ hne, tm_shf_3, if_neg (fun q => by have := q.2.1; omega)]
      exact e3
  · rw [tl_set_o (by decide), tl_set_o (by decide), tl_set_o (by decide), tm_shf_n (by decide)]; exact hR.2.2.2 j hj

theorem ta_en (d : Nat) {r t : Nat} (m : Nat) {σ : tm_S} (w : tl_W) (hK : tm_K σ) (hR : tm_RC w σ) (hr : r < 34) (ht : t < 8) : tl_Ev ta_P (d + 4) 37 [.inr 0, .inl ((t : Nat) : Int), .inl ((r : Nat) : Int), .inl ((m : Nat) : Int)] w (.inl (none)) (tl_set (tl_set (tl_set (tm_shf w σ.2.1 r ((tm_pl σ t r : Nat) : Int) 1 8) 1 t ((r + 2 : Nat) : Int)) 2 t (m : Int)) 3 t ((tm_pl σ t r : Nat) : Int)) := by
  refine tl_start fun Q hQ => ?_
  have hlen := tm_K_len hK hr
  have hple := tm_pl_le σ t r
  refine tl_go 3 3 [(0, .inr 0), (1, .inl ((t : Nat) : Int)), (2, .inl ((r : Nat) : Int)), (3, .inl ((m : Nat) : Int))] [.inl ((r : Nat) : Int), .inl ((t : Nat) : Int), .inr 0] w (fun _ h => h) ?_
  refine tl_callV (as := [.inr 0, .inl ((t : Nat) : Int), .inl ((r : Nat) : Int)]) (rest := []) (v := some ((tm_pl σ t r : Nat) : Int)) (w' := w) rfl rfl (ta_pl d t r w hK hR ht hr) (Nat.le_of_ble_eq_true rfl) rfl rfl rfl (Nat.le_of_ble_eq_true rfl) ?_
  refine tl_go 5 13 [(0, .inr 0), (1, .inl ((t : Nat) : Int)), (2, .inl ((r : Nat) : Int)), (3, .inl ((m : Nat) : Int)), (4, .inl ((tm_pl σ t r : Nat) : Int))] [.inl 1, .inl ((tm_pl σ t r : Nat) : Int), .inl ((r : Nat) : Int), .inr 0] w (fun _ h => h) ?_
  refine tl_callV (as := [.inr 0, .inl ((r : Nat) : Int), .inl ((tm_pl σ t r : Nat) : Int), .inl 1]) (rest := []) (v := none) (w' := (tm_shf w σ.2.1 r ((tm_pl σ t r : Nat) : Int) 1 8)) rfl rfl (ta_shf (d + 1) r ((tm_pl σ t r : Nat) : Int) 1 (S := σ.2.1) w (fun u hu => (hR.2.1 u hu).1) hK.1 ?_ (by omega)) (Nat.le_of_ble_eq_true rfl) rfl rfl rfl (Nat.le_of_ble_eq_true rfl) ?_
  · intro u hu hs
    obtain ⟨k9, hk9⟩ := List.getElem?_of_mem (((hK.2 r hr).2 u).mpr ⟨hu, hs⟩)
    have h8 := tm_K_lt hK hr hk9
    rw [hR.2.2.1 r hr k9 u hk9]
    omega
  refine tl_go 6 24 [(0, .inr 0), (1, .inl ((t : Nat) : Int)), (2, .inl ((r : Nat) : Int)), (3, .inl ((m : Nat) : Int)), (4, .inl ((tm_pl σ t r : Nat) : Int))] [.inl (2 + ((r : Nat) : Int)), .inl ((t : Nat) : Int), .inr 2] (tm_shf w σ.2.1 r ((tm_pl σ t r : Nat) : Int) 1 8) (fun _ h => And.intro rfl (And.intro (by decide) (And.intro (by omega) h))) ?_
  refine tl_top (y := ((r + 2 : Nat) : Int)) (by omega) ?_
  refine tl_ast (t) 8 (k := 1) rfl (by decide) (by omega) rfl (by omega) ?_
  refine tl_go 4 31 [(0, .inr 0), (1, .inl ((t : Nat) : Int)), (2, .inl ((r : Nat) : Int)), (3, .inl ((m : Nat) : Int)), (4, .inl ((tm_pl σ t r : Nat) : Int))] [.inl ((m : Nat) : Int), .inl ((t : Nat) : Int), .inr 3] (tl_set (tm_shf w σ.2.1 r ((tm_pl σ t r : Nat) : Int) 1 8) 1 (t) ((r + 2 : Nat) : Int)) (fun _ h => And.intro rfl (And.intro (by decide) (h))) ?_
  refine tl_ast (t) 8 (k := 2) rfl (by decide) (by omega) rfl (by omega) ?_
  refine tl_go 4 39 [(0, .inr 0), (1, .inl ((t : Nat) : Int)), (2, .inl ((r : Nat) : Int)), (3, .inl ((m : Nat) : Int)), (4, .inl ((tm_pl σ t r : Nat) : Int))] [.inl ((tm_pl σ t r : Nat) : Int), .inl ((t : Nat) : Int), .inr 4] (tl_set (tl_set (tm_shf w σ.2.1 r ((tm_pl σ t r : Nat) : Int) 1 8) 1 (t) ((r + 2 : Nat) : Int)) 2 (t) ((m : Nat) : Int)) (fun _ h => And.intro rfl (And.intro (by decide) (h))) ?_
  refine tl_ast (t) 8 (k := 3) rfl (by decide) (by omega) rfl (by omega) ?_
  exact tl_retv rfl rfl (hQ)
end
section
/-! 15.serve: the class's blockers, circles and serving, printed by a5.py -/
def tm_msk (p : Nat → Bool) : Nat → Nat
  | 0 => 0
  | n + 1 => bif p n then tm_msk p n ||| 1 * 2 ^ n else tm_msk p n
theorem tm_msk_t (p : Nat → Bool) (w : Nat) : ∀ n, (tm_msk p n).testBit w = (decide (w < n) && p w) := by
  intro n
  induction n with
  | zero => show (0 : Nat).testBit w = _; rw [Nat.zero_testBit]; simp
  | succ n ih =>
    show (bif p n then tm_msk p n ||| 1 * 2 ^ n else tm_msk p n).testBit w = _
    cases hp : p n with
    | true =>
      show (tm_msk p n ||| 1 * 2 ^ n).testBit w = _
      rw [Nat.testBit_or, ih, Nat.one_mul, Nat.testBit_two_pow]
      by_cases hw : n = w
      · subst hw; rw [hp]; simp
      · rw [decide_eq_false hw, Bool.or_false]
        by_cases h : w < n
        · rw [decide_eq_true h, decide_eq_true (by omega)]
        · rw [decide_eq_false h, decide_eq_false (by omega)]
    | false =>
      show (tm_msk p n).testBit w = _
      rw [ih]
      by_cases hw : n = w
      · subst hw; rw [hp, Bool.and_false, Bool.and_false]
      · by_cases h : w < n
        · rw [decide_eq_true h, decide_eq_true (by omega)]
        · rw [decide_eq_false h, decide_eq_false (by omega)]
theorem tm_msk_lt (p : Nat → Bool) : ∀ n, tm_msk p n < 2 ^ n := by
  intro n
  induction n with
  | zero => show 0 < 1; decide
  | succ n ih =>
    have h1 : tm_msk p n < 2 ^ (n + 1) := Nat.lt_of_lt_of_le ih (Nat.pow_le_pow_right (by decide) (by omega))
    show (bif p n then tm_msk p n ||| 1 * 2 ^ n else tm_msk p n) < _
    cases p n with
    | true => exact Nat.or_lt_two_pow h1 (by rw [Nat.one_mul]; exact Nat.pow_lt_pow_right (by decide) (by omega))
    | false => exact h1
theorem tm_msk_256 (p : Nat → Bool) {n : Nat} (h : n ≤ 8) : tm_msk p n < 256 := Nat.lt_of_lt_of_le (tm_msk_lt p n) (show 2 ^ n ≤ 2 ^ 8 from Nat.pow_le_pow_right (by decide) h)
def tm_blk (σ : tm_S) (r t u : Nat) : Bool := decide (u ≠ t) && (!tm_tog (σ.2.2.1 t) (σ.1 (34 * u + r)) || (decide (σ.2.1 u = r + 2) && decide ((σ.2.2.2 r).idxOf u < (σ.2.2.2 r).idxOf t)))
def tm_bk (σ : tm_S) (t : Nat) : Nat := if σ.2.1 t < 2 then 0 else tm_msk (tm_blk σ (σ.2.1 t - 2) t) 8
theorem tm_bk_256 (σ : tm_S) (t : Nat) : tm_bk σ t < 256 := by
  unfold tm_bk
  split
  · decide
  · exact tm_msk_256 _ (Nat.le_refl _)

theorem ta_blo (d : Nat) (u t r : Nat) (hu : u < 8) (ht : t < 8) (hr : r < 34) {σ : tm_S} (w : tl_W) (hJ : tm_J σ) (hR : tm_RC w σ) : tl_Ev ta_P (d + 2) 43 [.inr 0, .inl ((u : Nat) : Int), .inl ((t : Nat) : Int), .inl ((r : Nat) : Int)] w (.inl (some (tm_b (decide (¬ tm_tog (σ.1 (34 * u + r)) (σ.2.2.1 t) = true ∨ (σ.2.1 u = r + 2 ∧ w 3 u < w 3 t)))))) w := by
  refine tl_start fun Q hQ => ?_
  refine tl_go 3 3 [(0, .inr 0), (1, .inl ((u : Nat) : Int)), (2, .inl ((t : Nat) : Int)), (3, .inl ((r : Nat) : Int))] [.inl ((r : Nat) : Int), .inl ((u : Nat) : Int), .inr 0] w (fun _ h => h) ?_
  refine tl_callV (as := [.inr 0, .inl ((u : Nat) : Int), .inl ((r : Nat) : Int)]) (rest := []) (v := some ((σ.1 (34 * u + r) : Nat) : Int)) (w' := w) rfl rfl (ta_mo d u r hu hr w (hR.1 _ (by omega))) (Nat.le_of_ble_eq_true rfl) rfl rfl rfl (Nat.le_of_ble_eq_true rfl) ?_
  refine tl_go 3 11 [(0, .inr 0), (1, .inl ((u : Nat) : Int)), (2, .inl ((t : Nat) : Int)), (3, .inl ((r : Nat) : Int))] [.inl ((t : Nat) : Int), .inr 3, .inl ((σ.1 (34 * u + r) : Nat) : Int)] w (fun _ h => And.intro rfl (And.intro (by decide) (h))) ?_
  refine tl_ald (t) 8 (k := 2) rfl (by omega) rfl (by omega) ?_
  refine tl_top (y := ((σ.2.2.1 t : Nat) : Int)) ((hR.2.1 t ht).2) ?_
  refine tl_callS (as := [.inl ((σ.1 (34 * u + r) : Nat) : Int), .inl ((σ.2.2.1 t : Nat) : Int)]) (rest := []) (v := some (tm_b (decide (tm_tog (σ.1 (34 * u + r)) (σ.2.2.1 t) = true)))) (w' := w) rfl rfl rfl rfl (ta_tog d (σ.1 (34 * u + r)) (σ.2.2.1 t) (hJ.1 _ (by omega)) (hJ.2.1 t ht).2.1 w hR.2.2.2) (Nat.le_of_ble_eq_true rfl) rfl rfl (Nat.le_of_ble_eq_true rfl) ?_
  refine tl_if ((tm_b (decide (tm_tog (σ.1 (34 * u + r)) (σ.2.2.1 t) = true))) = 0) 42 18 [(0, .inr 0), (1, .inl ((u : Nat) : Int)), (2, .inl ((t : Nat) : Int)), (3, .inl ((r : Nat) : Int))] [] (fun _ h => h) (fun hc => ?_) (fun hc => ?_)
  · have hc := of_decide_eq_false (tm_beq hc)
    refine tl_go 2 47 [(0, .inr 0), (1, .inl ((u : Nat) : Int)), (2, .inl ((t : Nat) : Int)), (3, .inl ((r : Nat) : Int))] [.inl 1] w (fun _ h => h) ?_
    exact tl_retz rfl rfl (tm_b1 (decide_eq_true (Or.inl hc))) (hQ)
  · have hc := of_decide_eq_true (tm_bne hc)
    refine tl_go 2 20 [(0, .inr 0), (1, .inl ((u : Nat) : Int)), (2, .inl ((t : Nat) : Int)), (3, .inl ((r : Nat) : Int))] [.inl ((u : Nat) : Int), .inr 0] w (fun _ h => h) ?_
    refine tl_callV (as := [.inr 0, .inl ((u : Nat) : Int)]) (rest := []) (v := some (tm_aw (σ.2.1 u))) (w' := w) rfl rfl (ta_aw d u hu w (hR.2.1 u hu).1 (hJ.2.1 u hu).1) (Nat.le_of_ble_eq_true rfl) rfl rfl rfl (Nat.le_of_ble_eq_true rfl) ?_
    refine tl_go 1 24 [(0, .inr 0), (1, .inl ((u : Nat) : Int)), (2, .inl ((t : Nat) : Int)), (3, .inl ((r : Nat) : Int))] [.inl ((r : Nat) : Int), .inl (tm_aw (σ.2.1 u))] w (fun _ h => h) ?_
    refine tl_if (¬ (tm_aw (σ.2.1 u)) = ((r : Nat) : Int)) 46 27 [(0, .inr 0), (1, .inl ((u : Nat) : Int)), (2, .inl ((t : Nat) : Int)), (3, .inl ((r : Nat) : Int))] [] (fun _ h => h) (fun hg => ?_) (fun hg => ?_)
    · refine tl_go 1 47 [(0, .inr 0), (1, .inl ((u : Nat) : Int)), (2, .inl ((t : Nat) : Int)), (3, .inl ((r : Nat) : Int))] [.inl 0] w (fun _ h => h) ?_
      exact tl_retz rfl rfl (tm_b0 (decide_eq_false (fun q => q.elim (fun z => z hc) (fun z => hg (tm_aw_eq.mpr z.1))))) (hQ)
    · refine tl_go 3 32 [(0, .inr 0), (1, .inl ((u : Nat) : Int)), (2, .inl ((t : Nat) : Int)), (3, .inl ((r : Nat) : Int))] [.inl ((u : Nat) : Int), .inr 4] w (fun _ h => And.intro rfl (And.intro (by decide) (h))) ?_
      refine tl_ald (u) 8 (k := 3) rfl (by omega) rfl (by omega) ?_
      refine tl_go 3 38 [(0, .inr 0), (1, .inl ((u : Nat) : Int)), (2, .inl ((t : Nat) : Int)), (3, .inl ((r : Nat) : Int))] [.inl ((t : Nat) : Int), .inr 4, .inl (w 3 (u))] w (fun _ h => And.intro rfl (And.intro (by decide) (h))) ?_
      refine tl_ald (t) 8 (k := 3) rfl (by omega) rfl (by omega) ?_
      refine tl_if ((w 3 (t)) ≤ (w 3 (u))) 46 42 [(0, .inr 0), (1, .inl ((u : Nat) : Int)), (2, .inl ((t : Nat) : Int)), (3, .inl ((r : Nat) : Int))] [] (fun _ h => h) (fun hh => ?_) (fun hh => ?_)
      · refine tl_go 1 47 [(0, .inr 0), (1, .inl ((u : Nat) : Int)), (2, .inl ((t : Nat) : Int)), (3, .inl ((r : Nat) : Int))] [.inl 0] w (fun _ h => h) ?_
        exact tl_retz rfl rfl (tm_b0 (decide_eq_false (fun q => q.elim (fun z => z hc) (fun z => by have := z.2; omega)))) (hQ)
      · refine tl_go 2 47 [(0, .inr 0), (1, .inl ((u : Nat) : Int)), (2, .inl ((t : Nat) : Int)), (3, .inl ((r : Nat) : Int))] [.inl 1] w (fun _ h => h) ?_
        exact tl_retz rfl rfl (tm_b1 (decide_eq_true (Or.inr ⟨tm_aw_eq.mp (Classical.not_not.mp hg), by omega⟩))) (hQ)
theorem tm_blk_i {w : tl_W} {σ : tm_S} (hJ : tm_J σ) (hR : tm_RC w σ) {r t u : Nat} (hr : r < 34) (ht : t < 8) (hu : u < 8) (hs : σ.2.1 t = r + 2) (hut : u ≠ t) : (¬ tm_tog (σ.1 (34 * u + r)) (σ.2.2.1 t) = true ∨ (σ.2.1 u = r + 2 ∧ w 3 u < w 3 t)) ↔ tm_blk σ r t u = true := by
  have hK := tm_J_K hJ
  unfold tm_blk
  rw [decide_eq_true hut, Bool.true_and, Bool.or_eq_true, Bool.and_eq_true, decide_eq_true_eq, decide_eq_true_eq, tm_tog_c]
  have e1 := tm_ix2 (((hK.2 r hr).2 t).mpr ⟨ht, hs⟩)
  have e2 := hR.2.2.1 r hr _ t e1
  constructor
  · rintro (h | ⟨h1, h2⟩)
    · left; simpa using h
    · right
      have e3 := tm_ix2 (((hK.2 r hr).2 u).mpr ⟨hu, h1⟩)
      have e4 := hR.2.2.1 r hr _ u e3
      exact ⟨h1, by omega⟩
  · rintro (h | ⟨h1, h2⟩)
    · left; simpa using h
    · right
      have e3 := tm_ix2 (((hK.2 r hr).2 u).mpr ⟨hu, h1⟩)
      have e4 := hR.2.2.1 r hr _ u e3
      exact ⟨h1, by omega⟩
theorem tm_p8 {i : Nat} (h : i < 8) : 1 * 2 ^ i < 2147483648 := by
  have : 2 ^ i < 2 ^ 8 := Nat.pow_lt_pow_right (by decide) h
  omega

theorem ta_bk (d : Nat) (t : Nat) (ht : t < 8) {σ : tm_S} (w : tl_W) (hJ : tm_J σ) (hR : tm_RC w σ) : tl_Ev ta_P (d + 3) 42 [.inr 0, .inl ((t : Nat) : Int)] w (.inl (some ((tm_bk σ t : Nat) : Int))) w := by
  refine tl_start fun Q hQ => ?_
  have hS5 := (hJ.2.1 t ht).1
  refine tl_go 2 2 [(0, .inr 0), (1, .inl ((t : Nat) : Int))] [.inl ((t : Nat) : Int), .inr 0] w (fun _ h => h) ?_
  refine tl_callV (as := [.inr 0, .inl ((t : Nat) : Int)]) (rest := []) (v := some (tm_aw (σ.2.1 t))) (w' := w) rfl rfl (ta_aw (d + 1) t ht w (hR.2.1 t ht).1 hS5) (Nat.le_of_ble_eq_true rfl) rfl rfl rfl (Nat.le_of_ble_eq_true rfl) ?_
  refine tl_go 3 8 [(0, .inr 0), (1, .inl ((t : Nat) : Int)), (2, .inl (tm_aw (σ.2.1 t)))] [.inl (-1), .inl (tm_aw (σ.2.1 t))] w (fun _ h => h) ?_
  refine tl_if (¬ (tm_aw (σ.2.1 t)) = (-1)) 13 11 [(0, .inr 0), (1, .inl ((t : Nat) : Int)), (2, .inl (tm_aw (σ.2.1 t)))] [] (fun _ h => h) (fun hc => ?_) (fun hc => ?_)
  · obtain ⟨r, hr, hs⟩ : ∃ r, r < 34 ∧ σ.2.1 t = r + 2 := ⟨σ.2.1 t - 2, by omega, by unfold tm_aw at hc; split at hc <;> omega⟩
    have ebk : tm_bk σ t = tm_msk (tm_blk σ r t) 8 := by unfold tm_bk; rw [if_neg (by omega), show σ.2.1 t - 2 = r by omega]
    refine tl_loc (L' := [(0, .inr 0), (1, .inl ((t : Nat) : Int)), (2, .inl ((r : Nat) : Int))]) (by rw [tm_aw_eq.mpr hs]) ?_
    refine tl_go 4 18 [(0, .inr 0), (1, .inl ((t : Nat) : Int)), (2, .inl ((r : Nat) : Int)), (3, .inl 0), (4, .inl 0)] [] w (fun _ h => h) ?_
    have loop : ∀ k i : Nat, i + k = 8 → tl_E ta_P (d + 2) 42 18 [(0, .inr 0), (1, .inl (t : Int)), (2, .inl (r : Int)), (3, .inl ((tm_msk (tm_blk σ r t) i : Nat) : Int)), (4, .inl (i : Int))] [] w Q := by
      intro k
      induction k with
      | zero =>
        intro i hi
        refine tl_go 2 22 [(0, .inr 0), (1, .inl ((t : Nat) : Int)), (2, .inl ((r : Nat) : Int)), (3, .inl ((tm_msk (tm_blk σ r t) i : Nat) : Int)), (4, .inl ((i : Nat) : Int))] [.inl 8, .inl ((i : Nat) : Int)] w (fun _ h => h) ?_
        refine tl_ift (8 ≤ ((i : Nat) : Int)) 55 25 [(0, .inr 0), (1, .inl ((t : Nat) : Int)), (2, .inl ((r : Nat) : Int)), (3, .inl ((tm_msk (tm_blk σ r t) i : Nat) : Int)), (4, .inl ((i : Nat) : Int))] [] (fun _ h => h) (by omega) ?_
        refine tl_go 1 56 [(0, .inr 0), (1, .inl ((t : Nat) : Int)), (2, .inl ((r : Nat) : Int)), (3, .inl ((tm_msk (tm_blk σ r t) i : Nat) : Int)), (4, .inl ((i : Nat) : Int))] [.inl ((tm_msk (tm_blk σ r t) i : Nat) : Int)] w (fun _ h => h) ?_
        exact tl_reti rfl rfl (by rw [show i = 8 by omega, ebk]) (hQ)
      | succ k ih =>
        intro i hi
        refine tl_go 2 22 [(0, .inr 0), (1, .inl ((t : Nat) : Int)), (2, .inl ((r : Nat) : Int)), (3, .inl ((tm_msk (tm_blk σ r t) i : Nat) : Int)), (4, .inl ((i : Nat) : Int))] [.inl 8, .inl ((i : Nat) : Int)] w (fun _ h => h) ?_
        refine tl_iff (8 ≤ ((i : Nat) : Int)) 55 25 [(0, .inr 0), (1, .inl ((t : Nat) : Int)), (2, .inl ((r : Nat) : Int)), (3, .inl ((tm_msk (tm_blk σ r t) i : Nat) : Int)), (4, .inl ((i : Nat) : Int))] [] (fun _ h => h) (by omega) ?_
        refine tl_go 2 28 [(0, .inr 0), (1, .inl ((t : Nat) : Int)), (2, .inl ((r : Nat) : Int)), (3, .inl ((tm_msk (tm_blk σ r t) i : Nat) : Int)), (4, .inl ((i : Nat) : Int))] [.inl ((t : Nat) : Int), .inl ((i : Nat) : Int)] w (fun _ h => h) ?_
        refine tl_if (((i : Nat) : Int) = ((t : Nat) : Int)) 49 31 [(0, .inr 0), (1, .inl ((t : Nat) : Int)), (2, .inl ((r : Nat) : Int)), (3, .inl ((tm_msk (tm_blk σ r t) i : Nat) : Int)), (4, .inl ((i : Nat) : Int))] [] (fun _ h => h) (fun he => ?_) (fun he => ?_)
        · have e1 : tm_msk (tm_blk σ r t) (i + 1) = tm_msk (tm_blk σ r t) i := by
            show (bif tm_blk σ r t i then _ else _) = _
            rw [show tm_blk σ r t i = false from by unfold tm_blk; rw [decide_eq_false (show ¬ i ≠ t by omega)]; rfl]
            rfl
          refine tl_go 2 18 [(0, .inr 0), (1, .inl ((t : Nat) : Int)), (2, .inl ((r : Nat) : Int)), (3, .inl ((tm_msk (tm_blk σ r t) i : Nat) : Int)), (4, .inl (((i : Nat) : Int) + 1))] [] w (fun _ h => And.intro (by omega) h) ?_
          have h9 := ih (i + 1) (by omega)
          rw [e1] at h9
          exact h9
        · have hne : i ≠ t := fun e => he (by rw [e])
          refine tl_go 4 36 [(0, .inr 0), (1, .inl ((t : Nat) : Int)), (2, .inl ((r : Nat) : Int)), (3, .inl ((tm_msk (tm_blk σ r t) i : Nat) : Int)), (4, .inl ((i : Nat) : Int))] [.inl ((r : Nat) : Int), .inl ((t : Nat) : Int), .inl ((i : Nat) : Int), .inr 0] w (fun _ h => h) ?_
          refine tl_callV (as := [.inr 0, .inl ((i : Nat) : Int), .inl ((t : Nat) : Int), .inl ((r : Nat) : Int)]) (rest := []) (v := some (tm_b (decide (¬ tm_tog (σ.1 (34 * i + r)) (σ.2.2.1 t) = true ∨ (σ.2.1 i = r + 2 ∧ w 3 i < w 3 t))))) (w' := w) rfl rfl (ta_blo d i t r (by omega) ht hr w hJ hR) (Nat.le_of_ble_eq_true rfl) rfl rfl rfl (Nat.le_of_ble_eq_true rfl) ?_
          refine tl_if ((tm_b (decide (¬ tm_tog (σ.1 (34 * i + r)) (σ.2.2.1 t) = true ∨ (σ.2.1 i = r + 2 ∧ w 3 i < w 3 t)))) = 0) 49 42 [(0, .inr 0), (1, .inl ((t : Nat) : Int)), (2, .inl ((r : Nat) : Int)), (3, .inl ((tm_msk (tm_blk σ r t) i : Nat) : Int)), (4, .inl ((i : Nat) : Int))] [] (fun _ h => h) (fun hb => ?_) (fun hb => ?_)
          · have hb := of_decide_eq_false (tm_beq hb)
            have e1 : tm_msk (tm_blk σ r t) (i + 1) = tm_msk (tm_blk σ r t) i := by
              show (bif tm_blk σ r t i then _ else _) = _
              rw [show tm_blk σ r t i = false from by rw [← Bool.not_eq_true, ← tm_blk_i hJ hR hr ht (by omega) hs hne]; exact hb]
              rfl
            refine tl_go 2 18 [(0, .inr 0), (1, .inl ((t : Nat) : Int)), (2, .inl ((r : Nat) : Int)), (3, .inl ((tm_msk (tm_blk σ r t) i : Nat) : Int)), (4, .inl (((i : Nat) : Int) + 1))] [] w (fun _ h => And.intro (by omega) h) ?_
            have h9 := ih (i + 1) (by omega)
            rw [e1] at h9
            exact h9
          · have hb := of_decide_eq_true (tm_bne hb)
            refine tl_go 3 46 [(0, .inr 0), (1, .inl ((t : Nat) : Int)), (2, .inl ((r : Nat) : Int)), (3, .inl ((tm_msk (tm_blk σ r t) i : Nat) : Int)), (4, .inl ((i : Nat) : Int))] [.inl ((i : Nat) : Int), .inl 1, .inl ((tm_msk (tm_blk σ r t) i : Nat) : Int)] w (fun _ h => h) ?_
            refine tl_shl2 1 i rfl rfl rfl (by omega) (tm_p8 (by omega)) ?_
            refine tl_or2 (tm_msk (tm_blk σ r t) i) (1 * 2 ^ i) rfl rfl rfl ?_
            have e1 : tm_msk (tm_blk σ r t) (i + 1) = tm_msk (tm_blk σ r t) i ||| 1 * 2 ^ i := by
              show (bif tm_blk σ r t i then _ else _) = _
              rw [show tm_blk σ r t i = true from (tm_blk_i hJ hR hr ht (by omega) hs hne).mp hb]
              rfl
            refine tl_go 3 18 [(0, .inr 0), (1, .inl ((t : Nat) : Int)), (2, .inl ((r : Nat) : Int)), (3, .inl ((tm_msk (tm_blk σ r t) i ||| 1 * 2 ^ i : Nat) : Int)), (4, .inl (((i : Nat) : Int) + 1))] [] w (fun _ h => And.intro (by omega) h) ?_
            have h9 := ih (i + 1) (by omega)
            rw [e1] at h9
            exact h9
    exact loop 8 0 rfl
  · have hs : σ.2.1 t < 2 := by have hc := Classical.not_not.mp hc; unfold tm_aw at hc; split at hc <;> omega
    refine tl_go 1 12 [(0, .inr 0), (1, .inl ((t : Nat) : Int)), (2, .inl (tm_aw (σ.2.1 t)))] [.inl 0] w (fun _ h => h) ?_
    exact tl_reti rfl rfl (by unfold tm_bk; rw [if_pos hs]; rfl) (hQ)
theorem ta_ball (d : Nat) (s : Nat) {σ : tm_S} (w : tl_W) (hJ : tm_J σ) (hR : tm_RC w σ) : tl_Ev ta_P (d + 4) 45 [.inr 0, .inl ((s : Nat) : Int)] w (.inl (some ((tm_all (tm_bk σ) s 8 : Nat) : Int))) w := by
  refine tl_start fun Q hQ => ?_
  refine tl_go 4 4 [(0, .inr 0), (1, .inl ((s : Nat) : Int)), (2, .inl 0), (3, .inl 0)] [] w (fun _ h => h) ?_
  have loop : ∀ k i : Nat, i + k = 8 → tl_E ta_P (d + 3) 45 4 [(0, .inr 0), (1, .inl (s : Int)), (2, .inl ((tm_all (tm_bk σ) s i : Nat) : Int)), (3, .inl (i : Int))] [] w Q := by
    intro k
    induction k with
    | zero =>
      intro i hi
      refine tl_go 2 7 [(0, .inr 0), (1, .inl ((s : Nat) : Int)), (2, .inl ((tm_all (tm_bk σ) s i : Nat) : Int)), (3, .inl ((i : Nat) : Int))] [.inl 8, .inl ((i : Nat) : Int)] w (fun _ h => h) ?_
      refine tl_ift (8 ≤ ((i : Nat) : Int)) 32 10 [(0, .inr 0), (1, .inl ((s : Nat) : Int)), (2, .inl ((tm_all (tm_bk σ) s i : Nat) : Int)), (3, .inl ((i : Nat) : Int))] [] (fun _ h => h) (by omega) ?_
      refine tl_go 1 33 [(0, .inr 0), (1, .inl ((s : Nat) : Int)), (2, .inl ((tm_all (tm_bk σ) s i : Nat) : Int)), (3, .inl ((i : Nat) : Int))] [.inl ((tm_all (tm_bk σ) s i : Nat) : Int)] w (fun _ h => h) ?_
      exact tl_reti rfl rfl (by rw [show i = 8 by omega]) (hQ)
    | succ k ih =>
      intro i hi
      refine tl_go 2 7 [(0, .inr 0), (1, .inl ((s : Nat) : Int)), (2, .inl ((tm_all (tm_bk σ) s i : Nat) : Int)), (3, .inl ((i : Nat) : Int))] [.inl 8, .inl ((i : Nat) : Int)] w (fun _ h => h) ?_
      refine tl_iff (8 ≤ ((i : Nat) : Int)) 32 10 [(0, .inr 0), (1, .inl ((s : Nat) : Int)), (2, .inl ((tm_all (tm_bk σ) s i : Nat) : Int)), (3, .inl ((i : Nat) : Int))] [] (fun _ h => h) (by omega) ?_
      refine tl_go 2 12 [(0, .inr 0), (1, .inl ((s : Nat) : Int)), (2, .inl ((tm_all (tm_bk σ) s i : Nat) : Int)), (3, .inl ((i : Nat) : Int))] [.inl ((i : Nat) : Int), .inl ((s : Nat) : Int)] w (fun _ h => h) ?_
      refine tl_callS (as := [.inl ((s : Nat) : Int), .inl ((i : Nat) : Int)]) (rest := []) (v := some (tm_b (decide (s.testBit i = true)))) (w' := w) rfl rfl rfl rfl (ta_con (d + 2) s i (by omega) w) (Nat.le_of_ble_eq_true rfl) rfl rfl (Nat.le_of_ble_eq_true rfl) ?_
      refine tl_if ((tm_b (decide (s.testBit i = true))) = 0) 26 18 [(0, .inr 0), (1, .inl ((s : Nat) : Int)), (2, .inl ((tm_all (tm_bk σ) s i : Nat) : Int)), (3, .inl ((i : Nat) : Int))] [] (fun _ h => h) (fun hc => ?_) (fun hc => ?_)
      · have hc := of_decide_eq_false (tm_beq hc)
        refine tl_go 2 4 [(0, .inr 0), (1, .inl ((s : Nat) : Int)), (2, .inl ((tm_all (tm_bk σ) s i : Nat) : Int)), (3, .inl (((i : Nat) : Int) + 1))] [] w (fun _ h => And.intro (by omega) h) ?_
        have h9 := ih (i + 1) (by omega)
        rw [tm_all_s, show s.testBit i = false from by simpa using hc] at h9
        exact h9
      · have hc := of_decide_eq_true (tm_bne hc)
        refine tl_go 3 21 [(0, .inr 0), (1, .inl ((s : Nat) : Int)), (2, .inl ((tm_all (tm_bk σ) s i : Nat) : Int)), (3, .inl ((i : Nat) : Int))] [.inl ((i : Nat) : Int), .inr 0, .inl ((tm_all (tm_bk σ) s i : Nat) : Int)] w (fun _ h => h) ?_
        refine tl_callV (as := [.inr 0, .inl ((i : Nat) : Int)]) (rest := [.inl ((tm_all (tm_bk σ) s i : Nat) : Int)]) (v := some ((tm_bk σ i : Nat) : Int)) (w' := w) rfl rfl (ta_bk d i (by omega) w hJ hR) (Nat.le_of_ble_eq_true rfl) rfl rfl rfl (Nat.le_of_ble_eq_true rfl) ?_
        refine tl_or2 (tm_all (tm_bk σ) s i) (tm_bk σ i) rfl rfl rfl ?_
        refine tl_go 3 4 [(0, .inr 0), (1, .inl ((s : Nat) : Int)), (2, .inl ((tm_all (tm_bk σ) s i ||| tm_bk σ i : Nat) : Int)), (3, .inl (((i : Nat) : Int) + 1))] [] w (fun _ h => And.intro (by omega) h) ?_
        have h9 := ih (i + 1) (by omega)
        rw [tm_all_s, hc] at h9
        exact h9
  exact loop 8 0 rfl
def tm_cir (σ : tm_S) (t : Nat) : Bool := (tm_it (tm_jac (tm_bk σ)) 8 (tm_bk σ t)).testBit t
theorem ta_cir (d : Nat) (t : Nat) (ht : t < 8) {σ : tm_S} (w : tl_W) (hJ : tm_J σ) (hR : tm_RC w σ) : tl_Ev ta_P (d + 5) 44 [.inr 0, .inl ((t : Nat) : Int)] w (.inl (some (tm_b (decide (tm_cir σ t = true))))) w := by
  refine tl_start fun Q hQ => ?_
  refine tl_go 2 2 [(0, .inr 0), (1, .inl ((t : Nat) : Int))] [.inl ((t : Nat) : Int), .inr 0] w (fun _ h => h) ?_
  refine tl_callV (as := [.inr 0, .inl ((t : Nat) : Int)]) (rest := []) (v := some ((tm_bk σ t : Nat) : Int)) (w' := w) rfl rfl (ta_bk (d + 1) t ht w hJ hR) (Nat.le_of_ble_eq_true rfl) rfl rfl rfl (Nat.le_of_ble_eq_true rfl) ?_
  refine tl_go 3 8 [(0, .inr 0), (1, .inl ((t : Nat) : Int)), (2, .inl ((tm_bk σ t : Nat) : Int)), (3, .inl 0)] [] w (fun _ h => h) ?_
  have loop : ∀ k i : Nat, i + k = 8 → tl_E ta_P (d + 4) 44 8 [(0, .inr 0), (1, .inl (t : Int)), (2, .inl ((tm_it (tm_jac (tm_bk σ)) i (tm_bk σ t) : Nat) : Int)), (3, .inl (i : Int))] [] w Q := by
    intro k
    induction k with
    | zero =>
      intro i hi
      refine tl_go 2 11 [(0, .inr 0), (1, .inl ((t : Nat) : Int)), (2, .inl ((tm_it (tm_jac (tm_bk σ)) i (tm_bk σ t) : Nat) : Int)), (3, .inl ((i : Nat) : Int))] [.inl 8, .inl ((i : Nat) : Int)] w (fun _ h => h) ?_
      refine tl_ift (8 ≤ ((i : Nat) : Int)) 28 14 [(0, .inr 0), (1, .inl ((t : Nat) : Int)), (2, .inl ((tm_it (tm_jac (tm_bk σ)) i (tm_bk σ t) : Nat) : Int)), (3, .inl ((i : Nat) : Int))] [] (fun _ h => h) (by omega) ?_
      refine tl_go 2 30 [(0, .inr 0), (1, .inl ((t : Nat) : Int)), (2, .inl ((tm_it (tm_jac (tm_bk σ)) i (tm_bk σ t) : Nat) : Int)), (3, .inl ((i : Nat) : Int))] [.inl ((t : Nat) : Int), .inl ((tm_it (tm_jac (tm_bk σ)) i (tm_bk σ t) : Nat) : Int)] w (fun _ h => h) ?_
      refine tl_callS (as := [.inl ((tm_it (tm_jac (tm_bk σ)) i (tm_bk σ t) : Nat) : Int), .inl ((t : Nat) : Int)]) (rest := []) (v := some (tm_b (decide ((tm_it (tm_jac (tm_bk σ)) i (tm_bk σ t)).testBit t = true)))) (w' := w) rfl rfl rfl rfl (ta_con (d + 3) _ t (by omega) w) (Nat.le_of_ble_eq_true rfl) rfl rfl (Nat.le_of_ble_eq_true rfl) ?_
      exact tl_retz rfl rfl (⟨by rw [show i = 8 by omega]; rfl, tm_b01 _⟩) (hQ)
    | succ k ih =>
      intro i hi
      refine tl_go 2 11 [(0, .inr 0), (1, .inl ((t : Nat) : Int)), (2, .inl ((tm_it (tm_jac (tm_bk σ)) i (tm_bk σ t) : Nat) : Int)), (3, .inl ((i : Nat) : Int))] [.inl 8, .inl ((i : Nat) : Int)] w (fun _ h => h) ?_
      refine tl_iff (8 ≤ ((i : Nat) : Int)) 28 14 [(0, .inr 0), (1, .inl ((t : Nat) : Int)), (2, .inl ((tm_it (tm_jac (tm_bk σ)) i (tm_bk σ t) : Nat) : Int)), (3, .inl ((i : Nat) : Int))] [] (fun _ h => h) (by omega) ?_
      refine tl_go 3 17 [(0, .inr 0), (1, .inl ((t : Nat) : Int)), (2, .inl ((tm_it (tm_jac (tm_bk σ)) i (tm_bk σ t) : Nat) : Int)), (3, .inl ((i : Nat) : Int))] [.inl ((tm_it (tm_jac (tm_bk σ)) i (tm_bk σ t) : Nat) : Int), .inr 0, .inl ((tm_it (tm_jac (tm_bk σ)) i (tm_bk σ t) : Nat) : Int)] w (fun _ h => h) ?_
      refine tl_callV (as := [.inr 0, .inl ((tm_it (tm_jac (tm_bk σ)) i (tm_bk σ t) : Nat) : Int)]) (rest := [.inl ((tm_it (tm_jac (tm_bk σ)) i (tm_bk σ t) : Nat) : Int)]) (v := some ((tm_all (tm_bk σ) (tm_it (tm_jac (tm_bk σ)) i (tm_bk σ t)) 8 : Nat) : Int)) (w' := w) rfl rfl (ta_ball d (tm_it (tm_jac (tm_bk σ)) i (tm_bk σ t)) w hJ hR) (Nat.le_of_ble_eq_true rfl) rfl rfl rfl (Nat.le_of_ble_eq_true rfl) ?_
      refine tl_or2 (tm_it (tm_jac (tm_bk σ)) i (tm_bk σ t)) (tm_all (tm_bk σ) (tm_it (tm_jac (tm_bk σ)) i (tm_bk σ t)) 8) rfl rfl rfl ?_
      refine tl_go 3 8 [(0, .inr 0), (1, .inl ((t : Nat) : Int)), (2, .inl ((tm_it (tm_jac (tm_bk σ)) i (tm_bk σ t) ||| tm_all (tm_bk σ) (tm_it (tm_jac (tm_bk σ)) i (tm_bk σ t)) 8 : Nat) : Int)), (3, .inl (((i : Nat) : Int) + 1))] [] w (fun _ h => And.intro (by omega) h) ?_
      exact ih (i + 1) (by omega)
  exact loop 8 0 rfl
theorem tm_sv_nil {n : Nat} {σ : tm_S} {r : Nat} (h : σ.2.2.2 r = []) : tm_sv (n + 1) σ r = (0, σ) := by
  show (match σ.2.2.2 r with
    | [] => (0, σ)
    | t :: l => if tm_fits σ.1 t r (σ.2.2.1 t) = true then ((tm_sv n (tm_gr σ r t l) r).1 + 1, (tm_sv n (tm_gr σ r t l) r).2) else (0, σ)) = _
  rw [h]
theorem tm_sv_yes {n : Nat} {σ : tm_S} {r t : Nat} {l : List Nat} (h : σ.2.2.2 r = t :: l) (hf : tm_fits σ.1 t r (σ.2.2.1 t) = true) : tm_sv (n + 1) σ r = ((tm_sv n (tm_gr σ r t l) r).1 + 1, (tm_sv n (tm_gr σ r t l) r).2) := by
  show (match σ.2.2.2 r with
    | [] => (0, σ)
    | t :: l => if tm_fits σ.1 t r (σ.2.2.1 t) = true then ((tm_sv n (tm_gr σ r t l) r).1 + 1, (tm_sv n (tm_gr σ r t l) r).2) else (0, σ)) = _
  rw [h]
  exact if_pos hf
theorem tm_sv_no {n : Nat} {σ : tm_S} {r t : Nat} {l : List Nat} (h : σ.2.2.2 r = t :: l) (hf : ¬ tm_fits σ.1 t r (σ.2.2.1 t) = true) : tm_sv (n + 1) σ r = (0, σ) := by
  show (match σ.2.2.2 r with
    | [] => (0, σ)
    | t :: l => if tm_fits σ.1 t r (σ.2.2.1 t) = true then ((tm_sv n (tm_gr σ r t l) r).1 + 1, (tm_sv n (tm_gr σ r t l) r).2) else (0, σ)) = _
  rw [h]
  exact if_neg hf
/-- t's mode at the place i -/
def tm_sm (σ : tm_S) (i m : Nat) : tm_S := (va_up σ.1 i m, σ.2.1, σ.2.2.1, σ.2.2.2)
theorem tm_sm_RC {w : tl_W} {σ : tm_S} (hR : tm_RC w σ) {i m : Nat} : tm_RC (tl_set w 0 i (m : Int)) (tm_sm σ i m) := by
  refine ⟨fun a ha => ?_, fun u hu => ⟨?_, ?_⟩, fun r hr k t hk => ?_, fun j hj => ?_⟩
  · rw [tl_set_s]
    show va_up (w 0) i _ a = ((va_up σ.1 i m a : Nat) : Int)
    by_cases e : a = i
    · rw [e, va_up_s, va_up_s]
    · rw [va_up_n _ _ e, va_up_n _ _ e]; exact hR.1 a ha
  · rw [tl_set_o (by decide)]; exact (hR.2.1 u hu).1
  · rw [tl_set_o (by decide)]; exact (hR.2.1 u hu).2
  · rw [tl_set_o (by decide)]; exact hR.2.2.1 r hr k t hk
  · rw [tl_set_o (by decide)]; exact hR.2.2.2 j hj
theorem tm_gr_lv {σ : tm_S} {r t : Nat} {l : List Nat} (h : σ.2.2.2 r = t :: l) : tm_lv (tm_sm σ (34 * t + r) (σ.2.2.1 t)) r t 0 = tm_gr σ r t l := by
  unfold tm_lv tm_sm tm_gr
  dsimp only
  rw [h]
  rfl

theorem ta_sv (d r : Nat) (hr : r < 34) {σ : tm_S} (w : tl_W) (hJ : tm_J σ) (hR : tm_RC w σ) : ∃ w', tl_Ev ta_P (d + 4) 41 [.inr 0, .inl (r : Int)] w (.inl (some (((tm_serve σ r).1 : Nat) : Int))) w' ∧ tm_RC w' (tm_serve σ r).2 := by
  refine tl_exi fun Q hQ => ?_
  refine tl_go 2 2 [(0, .inr 0), (1, .inl ((r : Nat) : Int)), (2, .inl 0)] [] w (fun _ h => h) ?_
  have loop : ∀ (n c : Nat) (σ : tm_S) (w : tl_W), c + n = 8 → tm_J σ → tm_RC w σ → (∀ w', tm_RC w' (tm_sv n σ r).2 → Q (.inl (some ((c + (tm_sv n σ r).1 : Nat) : Int))) w') → ∀ L : tl_L, (L = [(0, .inr 0), (1, .inl (r : Int)), (2, .inl (c : Int))] ∨ ∃ x : Int, L = [(0, .inr 0), (1, .inl (r : Int)), (2, .inl (c : Int)), (3, .inl x)]) → tl_E ta_P (d + 3) 41 2 L [] w Q := by
    intro n
    induction n with
    | zero =>
      intro c σ w hi hJ hR hQ' L hL
      rcases hL with rfl | ⟨x, rfl⟩
      · refine tl_go 2 5 [(0, .inr 0), (1, .inl ((r : Nat) : Int)), (2, .inl ((c : Nat) : Int))] [.inl 8, .inl ((c : Nat) : Int)] w (fun _ h => h) ?_
        refine tl_ift (8 ≤ ((c : Nat) : Int)) 60 8 [(0, .inr 0), (1, .inl ((r : Nat) : Int)), (2, .inl ((c : Nat) : Int))] [] (fun _ h => h) (by omega) ?_
        refine tl_go 1 62 [(0, .inr 0), (1, .inl ((r : Nat) : Int)), (2, .inl ((c : Nat) : Int))] [.inl 8] w (fun _ h => h) ?_
        exact tl_reti rfl rfl (by show (8 : Int) = ((c + 0 : Nat) : Int); omega) (hQ' w hR)
      · refine tl_go 2 5 [(0, .inr 0), (1, .inl ((r : Nat) : Int)), (2, .inl ((c : Nat) : Int)), (3, .inl x)] [.inl 8, .inl ((c : Nat) : Int)] w (fun _ h => h) ?_
        refine tl_ift (8 ≤ ((c : Nat) : Int)) 60 8 [(0, .inr 0), (1, .inl ((r : Nat) : Int)), (2, .inl ((c : Nat) : Int)), (3, .inl x)] [] (fun _ h => h) (by omega) ?_
        refine tl_go 1 62 [(0, .inr 0), (1, .inl ((r : Nat) : Int)), (2, .inl ((c : Nat) : Int)), (3, .inl x)] [.inl 8] w (fun _ h => h) ?_
        exact tl_reti rfl rfl (by show (8 : Int) = ((c + 0 : Nat) : Int); omega) (hQ' w hR)
    | succ n ih =>
      intro c σ w hi hJ hR hQ' L hL
      have hK := tm_J_K hJ
      rcases hL with rfl | ⟨x, rfl⟩
      · refine tl_go 2 5 [(0, .inr 0), (1, .inl ((r : Nat) : Int)), (2, .inl ((c : Nat) : Int))] [.inl 8, .inl ((c : Nat) : Int)] w (fun _ h => h) ?_
        refine tl_iff (8 ≤ ((c : Nat) : Int)) 60 8 [(0, .inr 0), (1, .inl ((r : Nat) : Int)), (2, .inl ((c : Nat) : Int))] [] (fun _ h => h) (by omega) ?_
        refine tl_go 3 11 [(0, .inr 0), (1, .inl ((r : Nat) : Int)), (2, .inl ((c : Nat) : Int))] [.inl 0, .inl ((r : Nat) : Int), .inr 0] w (fun _ h => h) ?_
        refine tl_callV (as := [.inr 0, .inl ((r : Nat) : Int), .inl 0]) (rest := []) (v := some (tm_sa (σ.2.2.2 r) 0)) (w' := w) rfl rfl (ta_sa (d + 1) r 0 hr w hJ (tm_RC_3 hR)) (Nat.le_of_ble_eq_true rfl) rfl rfl rfl (Nat.le_of_ble_eq_true rfl) ?_
        cases hq : σ.2.2.2 r with
        | nil =>
          rw [tm_sv_nil hq] at hQ'
          refine tl_top (y := (-1)) (rfl) ?_
          refine tl_go 3 17 [(0, .inr 0), (1, .inl ((r : Nat) : Int)), (2, .inl ((c : Nat) : Int)), (3, .inl (-1))] [.inl (-1), .inl (-1)] w (fun _ h => h) ?_
          refine tl_ift ((-1) = (-1)) 35 20 [(0, .inr 0), (1, .inl ((r : Nat) : Int)), (2, .inl ((c : Nat) : Int)), (3, .inl (-1))] [] (fun _ h => h) (rfl) ?_
          refine tl_go 1 36 [(0, .inr 0), (1, .inl ((r : Nat) : Int)), (2, .inl ((c : Nat) : Int)), (3, .inl (-1))] [.inl ((c : Nat) : Int)] w (fun _ h => h) ?_
          exact tl_reti rfl rfl (by show (c : Int) = ((c + 0 : Nat) : Int); omega) (hQ' w hR)
        | cons t l =>
          refine tl_top (y := ((t : Nat) : Int)) (rfl) ?_
          have hk0 : (σ.2.2.2 r)[0]? = some t := by rw [hq]; rfl
          obtain ⟨_, ht8, hts⟩ := tm_K_lt hK hr hk0
          refine tl_go 3 17 [(0, .inr 0), (1, .inl ((r : Nat) : Int)), (2, .inl ((c : Nat) : Int)), (3, .inl ((t : Nat) : Int))] [.inl (-1), .inl ((t : Nat) : Int)] w (fun _ h => h) ?_
          refine tl_iff (((t : Nat) : Int) = (-1)) 35 20 [(0, .inr 0), (1, .inl ((r : Nat) : Int)), (2, .inl ((c : Nat) : Int)), (3, .inl ((t : Nat) : Int))] [] (fun _ h => h) (by omega) ?_
          refine tl_go 6 28 [(0, .inr 0), (1, .inl ((r : Nat) : Int)), (2, .inl ((c : Nat) : Int)), (3, .inl ((t : Nat) : Int))] [.inl ((t : Nat) : Int), .inr 3, .inl ((r : Nat) : Int), .inl ((t : Nat) : Int), .inr 0] w (fun _ h => And.intro rfl (And.intro (by decide) (h))) ?_
          refine tl_ald (t) 8 (k := 2) rfl (by omega) rfl (by omega) ?_
          refine tl_top (y := ((σ.2.2.1 t : Nat) : Int)) ((hR.2.1 t ht8).2) ?_
          refine tl_callV (as := [.inr 0, .inl ((t : Nat) : Int), .inl ((r : Nat) : Int), .inl ((σ.2.2.1 t : Nat) : Int)]) (rest := []) (v := some (tm_b (decide (tm_fits σ.1 t r (σ.2.2.1 t) = true)))) (w' := w) rfl rfl (ta_fit (d + 1) t r (σ.2.2.1 t) ht8 hr (hJ.2.1 t ht8).2.1 w hR.1 hJ.1 hR.2.2.2) (Nat.le_of_ble_eq_true rfl) rfl rfl rfl (Nat.le_of_ble_eq_true rfl) ?_
          refine tl_if (¬ (tm_b (decide (tm_fits σ.1 t r (σ.2.2.1 t) = true))) = 0) 37 35 [(0, .inr 0), (1, .inl ((r : Nat) : Int)), (2, .inl ((c : Nat) : Int)), (3, .inl ((t : Nat) : Int))] [] (fun _ h => h) (fun hf => ?_) (fun hf => ?_)
          · have hf := of_decide_eq_true (tm_bne hf)
            rw [tm_sv_yes hq hf] at hQ'
            refine tl_go 6 45 [(0, .inr 0), (1, .inl ((r : Nat) : Int)), (2, .inl ((c : Nat) : Int)), (3, .inl ((t : Nat) : Int))] [.inl ((t : Nat) : Int), .inr 3, .inl ((r : Nat) : Int), .inl ((t : Nat) : Int), .inr 0] w (fun _ h => And.intro rfl (And.intro (by decide) (h))) ?_
            refine tl_ald (t) 8 (k := 2) rfl (by omega) rfl (by omega) ?_
            refine tl_top (y := ((σ.2.2.1 t : Nat) : Int)) ((hR.2.1 t ht8).2) ?_
            refine tl_callV (as := [.inr 0, .inl ((t : Nat) : Int), .inl ((r : Nat) : Int), .inl ((σ.2.2.1 t : Nat) : Int)]) (rest := []) (v := none) (w' := (tl_set w 0 (34 * t + r) ((σ.2.2.1 t : Nat) : Int))) rfl rfl (ta_sm (d + 2) t r ht8 hr _ w) (Nat.le_of_ble_eq_true rfl) rfl rfl rfl (Nat.le_of_ble_eq_true rfl) ?_
            have hR1 := tm_sm_RC hR (i := 34 * t + r) (m := σ.2.2.1 t)
            have hK1 : tm_K (tm_sm σ (34 * t + r) (σ.2.2.1 t)) := hK
            have hR2 := tm_lv_RC hK1 hR1 hr hk0
            rw [tm_gr_lv hq] at hR2
            refine tl_go 2 51 [(0, .inr 0), (1, .inl ((r : Nat) : Int)), (2, .inl ((c : Nat) : Int)), (3, .inl ((t : Nat) : Int))] [.inl ((t : Nat) : Int), .inr 0] (tl_set w 0 (34 * t + r) ((σ.2.2.1 t : Nat) : Int)) (fun _ h => h) ?_
            refine tl_callV (as := [.inr 0, .inl ((t : Nat) : Int)]) (rest := []) (v := none) (w' := (tm_shf (tl_set (tl_set (tl_set w 0 (34 * t + r) ((σ.2.2.1 t : Nat) : Int)) 1 t 1) 2 t 0) (va_up σ.2.1 t 1) r ((tl_set w 0 (34 * t + r) ((σ.2.2.1 t : Nat) : Int)) 3 t) (-1) 8)) rfl rfl (ta_lv d (σ := tm_sm σ (34 * t + r) (σ.2.2.1 t)) _ hK1 hR1 hr hk0) (Nat.le_of_ble_eq_true rfl) rfl rfl rfl (Nat.le_of_ble_eq_true rfl) ?_
            refine tl_go 2 2 [(0, .inr 0), (1, .inl ((r : Nat) : Int)), (2, .inl (((c : Nat) : Int) + 1)), (3, .inl ((t : Nat) : Int))] [] (tm_shf (tl_set (tl_set (tl_set w 0 (34 * t + r) ((σ.2.2.1 t : Nat) : Int)) 1 t 1) 2 t 0) (va_up σ.2.1 t 1) r ((tl_set w 0 (34 * t + r) ((σ.2.2.1 t : Nat) : Int)) 3 t) (-1) 8) (fun _ h => And.intro (by omega) h) ?_
            refine ih (c + 1) (tm_gr σ r t l) _ (by omega) (tm_gr_J hJ hr hq) hR2 (fun w' hw' => ?_) _ (Or.inr ⟨_, rfl⟩)
            have h9 := hQ' w' hw'
            rw [show c + 1 + (tm_sv n (tm_gr σ r t l) r).1 = c + ((tm_sv n (tm_gr σ r t l) r).1 + 1) by omega]
            exact h9
          · have hf := of_decide_eq_false (tm_beq (Classical.not_not.mp hf))
            rw [tm_sv_no hq hf] at hQ'
            refine tl_go 1 36 [(0, .inr 0), (1, .inl ((r : Nat) : Int)), (2, .inl ((c : Nat) : Int)), (3, .inl ((t : Nat) : Int))] [.inl ((c : Nat) : Int)] w (fun _ h => h) ?_
            exact tl_reti rfl rfl (by show (c : Int) = ((c + 0 : Nat) : Int); omega) (hQ' w hR)
      · refine tl_go 2 5 [(0, .inr 0), (1, .inl ((r : Nat) : Int)), (2, .inl ((c : Nat) : Int)), (3, .inl x)] [.inl 8, .inl ((c : Nat) : Int)] w (fun _ h => h) ?_
        refine tl_iff (8 ≤ ((c : Nat) : Int)) 60 8 [(0, .inr 0), (1, .inl ((r : Nat) : Int)), (2, .inl ((c : Nat) : Int)), (3, .inl x)] [] (fun _ h => h) (by omega) ?_
        refine tl_go 3 11 [(0, .inr 0), (1, .inl ((r : Nat) : Int)), (2, .inl ((c : Nat) : Int)), (3, .inl x)] [.inl 0, .inl ((r : Nat) : Int), .inr 0] w (fun _ h => h) ?_
        refine tl_callV (as := [.inr 0, .inl ((r : Nat) : Int), .inl 0]) (rest := []) (v := some (tm_sa (σ.2.2.2 r) 0)) (w' := w) rfl rfl (ta_sa (d + 1) r 0 hr w hJ (tm_RC_3 hR)) (Nat.le_of_ble_eq_true rfl) rfl rfl rfl (Nat.le_of_ble_eq_true rfl) ?_
        cases hq : σ.2.2.2 r with
        | nil =>
          rw [tm_sv_nil hq] at hQ'
          refine tl_top (y := (-1)) (rfl) ?_
          refine tl_go 3 17 [(0, .inr 0), (1, .inl ((r : Nat) : Int)), (2, .inl ((c : Nat) : Int)), (3, .inl (-1))] [.inl (-1), .inl (-1)] w (fun _ h => h) ?_
          refine tl_ift ((-1) = (-1)) 35 20 [(0, .inr 0), (1, .inl ((r : Nat) : Int)), (2, .inl ((c : Nat) : Int)), (3, .inl (-1))] [] (fun _ h => h) (rfl) ?_
          refine tl_go 1 36 [(0, .inr 0), (1, .inl ((r : Nat) : Int)), (2, .inl ((c : Nat) : Int)), (3, .inl (-1))] [.inl ((c : Nat) : Int)] w (fun _ h => h) ?_
          exact tl_reti rfl rfl (by show (c : Int) = ((c + 0 : Nat) : Int); omega) (hQ' w hR)
        | cons t l =>
          refine tl_top (y := ((t : Nat) : Int)) (rfl) ?_
          have hk0 : (σ.2.2.2 r)[0]? = some t := by rw [hq]; rfl
          obtain ⟨_, ht8, hts⟩ := tm_K_lt hK hr hk0
          refine tl_go 3 17 [(0, .inr 0), (1, .inl ((r : Nat) : Int)), (2, .inl ((c : Nat) : Int)), (3, .inl ((t : Nat) : Int))] [.inl (-1), .inl ((t : Nat) : Int)] w (fun _ h => h) ?_
          refine tl_iff (((t : Nat) : Int) = (-1)) 35 20 [(0, .inr 0), (1, .inl ((r : Nat) : Int)), (2, .inl ((c : Nat) : Int)), (3, .inl ((t : Nat) : Int))] [] (fun _ h => h) (by omega) ?_
          refine tl_go 6 28 [(0, .inr 0), (1, .inl ((r : Nat) : Int)), (2, .inl ((c : Nat) : Int)), (3, .inl ((t : Nat) : Int))] [.inl ((t : Nat) : Int), .inr 3, .inl ((r : Nat) : Int), .inl ((t : Nat) : Int), .inr 0] w (fun _ h => And.intro rfl (And.intro (by decide) (h))) ?_
          refine tl_ald (t) 8 (k := 2) rfl (by omega) rfl (by omega) ?_
          refine tl_top (y := ((σ.2.2.1 t : Nat) : Int)) ((hR.2.1 t ht8).2) ?_
          refine tl_callV (as := [.inr 0, .inl ((t : Nat) : Int), .inl ((r : Nat) : Int), .inl ((σ.2.2.1 t : Nat) : Int)]) (rest := []) (v := some (tm_b (decide (tm_fits σ.1 t r (σ.2.2.1 t) = true)))) (w' := w) rfl rfl (ta_fit (d + 1) t r (σ.2.2.1 t) ht8 hr (hJ.2.1 t ht8).2.1 w hR.1 hJ.1 hR.2.2.2) (Nat.le_of_ble_eq_true rfl) rfl rfl rfl (Nat.le_of_ble_eq_true rfl) ?_
          refine tl_if (¬ (tm_b (decide (tm_fits σ.1 t r (σ.2.2.1 t) = true))) = 0) 37 35 [(0, .inr 0), (1, .inl ((r : Nat) : Int)), (2, .inl ((c : Nat) : Int)), (3, .inl ((t : Nat) : Int))] [] (fun _ h => h) (fun hf => ?_) (fun hf => ?_)
          · have hf := of_decide_eq_true (tm_bne hf)
            rw [tm_sv_yes hq hf] at hQ'
            refine tl_go 6 45 [(0, .inr 0), (1, .inl ((r : Nat) : Int)), (2, .inl ((c : Nat) : Int)), (3, .inl ((t : Nat) : Int))] [.inl ((t : Nat) : Int), .inr 3, .inl ((r : Nat) : Int), .inl ((t : Nat) : Int), .inr 0] w (fun _ h => And.intro rfl (And.intro (by decide) (h))) ?_
            refine tl_ald (t) 8 (k := 2) rfl (by omega) rfl (by omega) ?_
            refine tl_top (y := ((σ.2.2.1 t : Nat) : Int)) ((hR.2.1 t ht8).2) ?_
            refine tl_callV (as := [.inr 0, .inl ((t : Nat) : Int), .inl ((r : Nat) : Int), .inl ((σ.2.2.1 t : Nat) : Int)]) (rest := []) (v := none) (w' := (tl_set w 0 (34 * t + r) ((σ.2.2.1 t : Nat) : Int))) rfl rfl (ta_sm (d + 2) t r ht8 hr _ w) (Nat.le_of_ble_eq_true rfl) rfl rfl rfl (Nat.le_of_ble_eq_true rfl) ?_
            have hR1 := tm_sm_RC hR (i := 34 * t + r) (m := σ.2.2.1 t)
            have hK1 : tm_K (tm_sm σ (34 * t + r) (σ.2.2.1 t)) := hK
            have hR2 := tm_lv_RC hK1 hR1 hr hk0
            rw [tm_gr_lv hq] at hR2
            refine tl_go 2 51 [(0, .inr 0), (1, .inl ((r : Nat) : Int)), (2, .inl ((c : Nat) : Int)), (3, .inl ((t : Nat) : Int))] [.inl ((t : Nat) : Int), .inr 0] (tl_set w 0 (34 * t + r) ((σ.2.2.1 t : Nat) : Int)) (fun _ h => h) ?_
            refine tl_callV (as := [.inr 0, .inl ((t : Nat) : Int)]) (rest := []) (v := none) (w' := (tm_shf (tl_set (tl_set (tl_set w 0 (34 * t + r) ((σ.2.2.1 t : Nat) : Int)) 1 t 1) 2 t 0) (va_up σ.2.1 t 1) r ((tl_set w 0 (34 * t + r) ((σ.2.2.1 t : Nat) : Int)) 3 t) (-1) 8)) rfl rfl (ta_lv d (σ := tm_sm σ (34 * t + r) (σ.2.2.1 t)) _ hK1 hR1 hr hk0) (Nat.le_of_ble_eq_true rfl) rfl rfl rfl (Nat.le_of_ble_eq_true rfl) ?_
            refine tl_go 2 2 [(0, .inr 0), (1, .inl ((r : Nat) : Int)), (2, .inl (((c : Nat) : Int) + 1)), (3, .inl ((t : Nat) : Int))] [] (tm_shf (tl_set (tl_set (tl_set w 0 (34 * t + r) ((σ.2.2.1 t : Nat) : Int)) 1 t 1) 2 t 0) (va_up σ.2.1 t 1) r ((tl_set w 0 (34 * t + r) ((σ.2.2.1 t : Nat) : Int)) 3 t) (-1) 8) (fun _ h => And.intro (by omega) h) ?_
            refine ih (c + 1) (tm_gr σ r t l) _ (by omega) (tm_gr_J hJ hr hq) hR2 (fun w' hw' => ?_) _ (Or.inr ⟨_, rfl⟩)
            have h9 := hQ' w' hw'
            rw [show c + 1 + (tm_sv n (tm_gr σ r t l) r).1 = c + ((tm_sv n (tm_gr σ r t l) r).1 + 1) by omega]
            exact h9
          · have hf := of_decide_eq_false (tm_beq (Classical.not_not.mp hf))
            rw [tm_sv_no hq hf] at hQ'
            refine tl_go 1 36 [(0, .inr 0), (1, .inl ((r : Nat) : Int)), (2, .inl ((c : Nat) : Int)), (3, .inl ((t : Nat) : Int))] [.inl ((c : Nat) : Int)] w (fun _ h => h) ?_
            exact tl_reti rfl rfl (by show (c : Int) = ((c + 0 : Nat) : Int); omega) (hQ' w hR)
  exact loop 8 0 σ w rfl hJ hR (fun w' hw' => by rw [Nat.zero_add]; exact hQ w' hw') _ (Or.inl rfl)
theorem ta_gu (d t r : Nat) (ht : t < 8) (hr : r < 34) {σ : tm_S} (w : tl_W) (hJ : tm_J (tm_sm σ (34 * t + r) 0)) (hR : tm_RC w σ) : ∃ w', tl_Ev ta_P (d + 5) 31 [.inr 0, .inl (t : Int), .inl (r : Int)] w (.inl (some (((tm_serve (tm_sm σ (34 * t + r) 0) r).1 : Nat) : Int))) w' ∧ tm_RC w' (tm_serve (tm_sm σ (34 * t + r) 0) r).2 := by
  obtain ⟨w1, hw1, hR1⟩ := ta_sv d r hr _ hJ (tm_sm_RC (m := 0) hR)
  refine ⟨w1, ?_, hR1⟩
  refine tl_start fun Q hQ => ?_
  refine tl_go 4 4 [(0, .inr 0), (1, .inl ((t : Nat) : Int)), (2, .inl ((r : Nat) : Int))] [.inl 0, .inl ((r : Nat) : Int), .inl ((t : Nat) : Int), .inr 0] w (fun _ h => h) ?_
  refine tl_callV (as := [.inr 0, .inl ((t : Nat) : Int), .inl ((r : Nat) : Int), .inl 0]) (rest := []) (v := none) (w' := (tl_set w 0 (34 * t + r) 0)) rfl rfl (ta_sm (d + 3) t r ht hr 0 w) (Nat.le_of_ble_eq_true rfl) rfl rfl rfl (Nat.le_of_ble_eq_true rfl) ?_
  refine tl_go 2 9 [(0, .inr 0), (1, .inl ((t : Nat) : Int)), (2, .inl ((r : Nat) : Int))] [.inl ((r : Nat) : Int), .inr 0] (tl_set w 0 (34 * t + r) 0) (fun _ h => h) ?_
  refine tl_callV (as := [.inr 0, .inl ((r : Nat) : Int)]) (rest := []) (v := some (((tm_serve (tm_sm σ (34 * t + r) 0) r).1 : Nat) : Int)) (w' := w1) rfl rfl (hw1) (Nat.le_of_ble_eq_true rfl) rfl rfl rfl (Nat.le_of_ble_eq_true rfl) ?_
  exact tl_reti rfl rfl (rfl) (hQ)
end
section
/-! 16.inv: the invariant under setting a mode, entering and leaving a queue -/
theorem tm_sm_J {σ : tm_S} (h : tm_J σ) {t r m : Nat} (ht : t < 8) (hr : r < 34) (hm : m ≤ 5) (hs : σ.2.1 t ≠ r + 2) : tm_J (tm_sm σ (34 * t + r) m) := by
  obtain ⟨h1, h2, h3⟩ := h
  refine ⟨fun i hi => ?_, h2, fun c hc => ?_⟩
  · show va_up σ.1 (34 * t + r) m i ≤ 5
    by_cases e : i = 34 * t + r
    · rw [e, va_up_s]; exact hm
    · rw [va_up_n _ _ e]; exact h1 i hi
  · obtain ⟨n1, n2, n3⟩ := h3 c hc
    refine ⟨n1, n2, ?_⟩
    refine List.Pairwise.imp_of_mem ?_ n3
    intro a b ha hb hab
    show va_up σ.1 (34 * t + r) m (34 * b + c) ≠ 0 → va_up σ.1 (34 * t + r) m (34 * a + c) ≠ 0
    have key : ∀ u, u ∈ σ.2.2.2 c → 34 * u + c ≠ 34 * t + r := fun u hu e => by
      have h9 := (n2 u).mp hu
      obtain ⟨e1, e2⟩ := tm_col hr hc e
      rw [e1, e2] at h9
      exact hs h9.2
    rw [va_up_n _ _ (key b hb), va_up_n _ _ (key a ha)]
    exact hab
theorem tm_first {R : Nat → Bool} : ∀ l : List Nat, l.Pairwise (fun a b => R b = true → R a = true) → ∀ a ∈ l.take (l.countP R), R a = true := by
  intro l
  induction l with
  | nil => intro _ a ha; cases ha
  | cons b l ih =>
    intro hp a ha
    obtain ⟨h1, h2⟩ := List.pairwise_cons.mp hp
    by_cases hb : R b = true
    · rw [List.countP_cons, if_pos hb, List.take_succ_cons] at ha
      rcases List.mem_cons.mp ha with e | ha
      · rw [e]; exact hb
      · exact ih h2 a ha
    · have h0 : l.countP R = 0 := List.countP_eq_zero.mpr (fun c hc q => hb (h1 c hc q))
      rw [List.countP_cons, if_neg hb, h0] at ha
      cases ha
theorem tm_en_perm (l : List Nat) (p t : Nat) : (l.take p ++ t :: l.drop p).Perm (t :: l) := by
  have h := List.perm_middle (a := t) (l₁ := l.take p) (l₂ := l.drop p)
  rw [List.take_append_drop] at h
  exact h
theorem tm_pl_0 {σ : tm_S} {t r : Nat} (h : σ.1 (34 * t + r) = 0) : tm_pl σ t r = (σ.2.2.2 r).length := by
  unfold tm_pl
  apply List.countP_eq_length.mpr
  intro u _
  rw [decide_eq_true h, Bool.or_true]
theorem tm_pl_1 {σ : tm_S} {t r : Nat} (h : σ.1 (34 * t + r) ≠ 0) : tm_pl σ t r = (σ.2.2.2 r).countP (fun u => decide (σ.1 (34 * u + r) ≠ 0)) := by
  unfold tm_pl
  apply List.countP_congr
  intro u _
  rw [decide_eq_false h, Bool.or_false]
theorem tm_en_J {σ : tm_S} (h : tm_J σ) {t r m : Nat} (ht : t < 8) (hr : r < 34) (hm : m ≤ 5) (hs : σ.2.1 t < 2) : tm_J (tm_en σ r t m (tm_pl σ t r)) := by
  obtain ⟨h1, h2, h3⟩ := h
  have htq : ∀ c, c < 34 → t ∉ σ.2.2.2 c := fun c hc hq => by
    have := ((h3 c hc).2.1 t).mp hq
    omega
  refine ⟨h1, fun u hu => ?_, fun c hc => ?_⟩
  · show va_up σ.2.1 t (r + 2) u ≤ 35 ∧ va_up σ.2.2.1 t m u ≤ 5 ∧ (va_up σ.2.1 t (r + 2) u < 2 → va_up σ.2.2.1 t m u = 0)
    by_cases e : u = t
    · rw [e, va_up_s, va_up_s]; exact ⟨by omega, hm, fun q => by omega⟩
    · rw [va_up_n _ _ e, va_up_n _ _ e]; exact h2 u hu
  · obtain ⟨n1, n2, n3⟩ := h3 c hc
    show (va_up σ.2.2.2 r ((σ.2.2.2 r).take (tm_pl σ t r) ++ t :: (σ.2.2.2 r).drop (tm_pl σ t r)) c).Nodup ∧ (∀ u, u ∈ va_up σ.2.2.2 r ((σ.2.2.2 r).take (tm_pl σ t r) ++ t :: (σ.2.2.2 r).drop (tm_pl σ t r)) c ↔ u < 8 ∧ va_up σ.2.1 t (r + 2) u = c + 2) ∧ (va_up σ.2.2.2 r ((σ.2.2.2 r).take (tm_pl σ t r) ++ t :: (σ.2.2.2 r).drop (tm_pl σ t r)) c).Pairwise (fun a b => σ.1 (34 * b + c) ≠ 0 → σ.1 (34 * a + c) ≠ 0)
    by_cases e : c = r
    · subst e
      rw [va_up_s]
      have hp := tm_en_perm (σ.2.2.2 c) (tm_pl σ t c) t
      refine ⟨hp.nodup_iff.mpr (List.nodup_cons.mpr ⟨htq c hc, n1⟩), fun u => ?_, ?_⟩
      · rw [hp.mem_iff, List.mem_cons, n2 u]
        by_cases eu : u = t
        · rw [eu, va_up_s]; exact ⟨fun _ => ⟨ht, rfl⟩, fun _ => Or.inl rfl⟩
        · rw [va_up_n _ _ eu]; exact ⟨fun q => q.resolve_left eu, Or.inr⟩
      · have n4 := n3
        rw [← List.take_append_drop (tm_pl σ t c) (σ.2.2.2 c), List.pairwise_append] at n4
        obtain ⟨p1, p2, p3⟩ := n4
        refine List.pairwise_append.mpr ⟨p1, List.pairwise_cons.mpr ⟨fun b hb => ?_, p2⟩, fun a ha b hb => ?_⟩
        · intro _ hz
          rw [tm_pl_0 hz, List.drop_length] at hb
          cases hb
        · rcases List.mem_cons.mp hb with eb | hb
          · rw [eb]
            intro hz
            rw [tm_pl_1 hz] at ha
            have h9 := tm_first (R := fun u => decide (σ.1 (34 * u + c) ≠ 0)) (σ.2.2.2 c) (n3.imp (fun {x y} hxy q => decide_eq_true (hxy (of_decide_eq_true q)))) a ha
            exact of_decide_eq_true h9
          · exact p3 a ha b hb
    · rw [va_up_n _ _ e]
      refine ⟨n1, fun u => ?_, n3⟩
      by_cases eu : u = t
      · rw [eu, va_up_s]
        exact ⟨fun q => absurd q (htq c hc), fun q => by omega⟩
      · rw [va_up_n _ _ eu]; exact n2 u
theorem tm_up_id {α : Type} (f : Nat → α) (k : Nat) (v : α) : va_up (va_up f k v) k (f k) = f := by
  funext j
  by_cases e : j = k
  · rw [e, va_up_s]
  · rw [va_up_n _ _ e, va_up_n _ _ e]
theorem tm_ins_er (l : List Nat) {p : Nat} (t : Nat) (hp : p ≤ l.length) : (l.take p ++ t :: l.drop p).eraseIdx p = l := by
  rw [List.eraseIdx_eq_take_drop_succ]
  have h1 : (l.take p ++ t :: l.drop p).take p = l.take p := by
    rw [List.take_append_of_le_length (by rw [List.length_take]; omega), List.take_take, Nat.min_self]
  have h2 : (l.take p ++ t :: l.drop p).drop (p + 1) = l.drop p := by
    rw [List.drop_append, List.length_take, Nat.min_eq_left hp, List.drop_eq_nil_of_le (by rw [List.length_take]; omega), show p + 1 - p = 1 by omega]
    rfl
  rw [h1, h2, List.take_append_drop]
/-- who enters and leaves at once has changed nothing -/
theorem tm_lv_en {σ : tm_S} {r t m p : Nat} (hs : σ.2.1 t = 1) (hw : σ.2.2.1 t = 0) (hp : p ≤ (σ.2.2.2 r).length) : tm_lv (tm_en σ r t m p) r t p = σ := by
  have e1 : va_up (va_up σ.2.1 t (r + 2)) t 1 = σ.2.1 := by have := tm_up_id σ.2.1 t (r + 2); rw [hs] at this; exact this
  have e2 : va_up (va_up σ.2.2.1 t m) t 0 = σ.2.2.1 := by have := tm_up_id σ.2.2.1 t m; rw [hw] at this; exact this
  have e3 : va_up (va_up σ.2.2.2 r ((σ.2.2.2 r).take p ++ t :: (σ.2.2.2 r).drop p)) r ((va_up σ.2.2.2 r ((σ.2.2.2 r).take p ++ t :: (σ.2.2.2 r).drop p) r).eraseIdx p) = σ.2.2.2 := by
    rw [va_up_s, tm_ins_er _ t hp]
    exact tm_up_id σ.2.2.2 r _
  show (σ.1, va_up (va_up σ.2.1 t (r + 2)) t 1, va_up (va_up σ.2.2.1 t m) t 0, va_up (va_up σ.2.2.2 r ((σ.2.2.2 r).take p ++ t :: (σ.2.2.2 r).drop p)) r ((va_up σ.2.2.2 r ((σ.2.2.2 r).take p ++ t :: (σ.2.2.2 r).drop p) r).eraseIdx p)) = σ
  rw [e1, e2, e3]
end
section
/-! 17.lock: the class's requests and simple public methods, printed by a6.py -/
def tm_wish (σ : tm_S) (t r m : Nat) : Nat := tm_jn m (σ.1 (34 * t + r))
def tm_req (σ : tm_S) (t r m : Nat) : Nat × tm_S :=
  if tm_cvd σ.1 t r (m : Int) = true then (2, σ)
  else if tm_wish σ t r m = σ.1 (34 * t + r) then (3, σ)
  else if tm_fits σ.1 t r (tm_wish σ t r m) = true ∧ (σ.1 (34 * t + r) ≠ 0 ∨ σ.2.2.2 r = []) then (1, tm_sm σ (34 * t + r) (tm_wish σ t r m))
  else if tm_cir (tm_en σ r t (tm_wish σ t r m) (tm_pl σ t r)) t = true then (4, σ)
  else (0, tm_en σ r t (tm_wish σ t r m) (tm_pl σ t r))
theorem tm_sa_0 {q : List Nat} : tm_sa q 0 = -1 ↔ q = [] := by
  cases q with
  | nil => exact ⟨fun _ => rfl, fun _ => rfl⟩
  | cons t l =>
    constructor
    · intro h
      have h : ((t : Nat) : Int) = -1 := h
      omega
    · intro h; cases h

theorem ta_req (d t r m : Nat) (ht : t < 8) (hr : r < 34) (hm : m ≤ 5) {σ : tm_S} (w : tl_W) (hJ : tm_J σ) (hR : tm_RC w σ) (hs : σ.2.1 t = 1) : ∃ w', tl_Ev ta_P (d + 6) 34 [.inr 0, .inl (t : Int), .inl (r : Int), .inl (m : Int)] w (.inl (some (((tm_req σ t r m).1 : Nat) : Int))) w' ∧ tm_RC w' (tm_req σ t r m).2 := by
  refine tl_exi fun Q hQ => ?_
  have hK := tm_J_K hJ
  have hM5 := hJ.1 (34 * t + r) (by omega)
  have hw5 : tm_wish σ t r m ≤ 5 := tm_jn5 hm hM5
  refine tl_go 4 4 [(0, .inr 0), (1, .inl ((t : Nat) : Int)), (2, .inl ((r : Nat) : Int)), (3, .inl ((m : Nat) : Int))] [.inl ((m : Nat) : Int), .inl ((r : Nat) : Int), .inl ((t : Nat) : Int), .inr 0] w (fun _ h => h) ?_
  refine tl_callV (as := [.inr 0, .inl ((t : Nat) : Int), .inl ((r : Nat) : Int), .inl ((m : Nat) : Int)]) (rest := []) (v := some (tm_b (decide (tm_cvd σ.1 t r (m : Int) = true)))) (w' := w) rfl rfl (ta_cvd (d + 2) t r m ht hr w hR.1 hJ.1) (Nat.le_of_ble_eq_true rfl) rfl rfl rfl (Nat.le_of_ble_eq_true rfl) ?_
  refine tl_if ((tm_b (decide (tm_cvd σ.1 t r (m : Int) = true))) = 0) 12 10 [(0, .inr 0), (1, .inl ((t : Nat) : Int)), (2, .inl ((r : Nat) : Int)), (3, .inl ((m : Nat) : Int))] [] (fun _ h => h) (fun h1 => ?_) (fun h1 => ?_)
  · have h1 := of_decide_eq_false (tm_beq h1)
    refine tl_go 4 16 [(0, .inr 0), (1, .inl ((t : Nat) : Int)), (2, .inl ((r : Nat) : Int)), (3, .inl ((m : Nat) : Int))] [.inl ((r : Nat) : Int), .inl ((t : Nat) : Int), .inr 0, .inl ((m : Nat) : Int)] w (fun _ h => h) ?_
    refine tl_callV (as := [.inr 0, .inl ((t : Nat) : Int), .inl ((r : Nat) : Int)]) (rest := [.inl ((m : Nat) : Int)]) (v := some ((σ.1 (34 * t + r) : Nat) : Int)) (w' := w) rfl rfl (ta_mo (d + 4) t r ht hr w (hR.1 _ (by omega))) (Nat.le_of_ble_eq_true rfl) rfl rfl rfl (Nat.le_of_ble_eq_true rfl) ?_
    refine tl_callS (as := [.inl ((m : Nat) : Int), .inl ((σ.1 (34 * t + r) : Nat) : Int)]) (rest := []) (v := some ((tm_jn m (σ.1 (34 * t + r)) : Nat) : Int)) (w' := w) rfl rfl rfl rfl (ta_join (d + 4) m (σ.1 (34 * t + r)) w) (Nat.le_of_ble_eq_true rfl) rfl rfl (Nat.le_of_ble_eq_true rfl) ?_
    refine tl_top (y := ((tm_wish σ t r m : Nat) : Int)) (rfl) ?_
    refine tl_go 5 29 [(0, .inr 0), (1, .inl ((t : Nat) : Int)), (2, .inl ((r : Nat) : Int)), (3, .inl ((m : Nat) : Int)), (4, .inl ((tm_wish σ t r m : Nat) : Int))] [.inl ((r : Nat) : Int), .inl ((t : Nat) : Int), .inr 0, .inl ((tm_wish σ t r m : Nat) : Int)] w (fun _ h => h) ?_
    refine tl_callV (as := [.inr 0, .inl ((t : Nat) : Int), .inl ((r : Nat) : Int)]) (rest := [.inl ((tm_wish σ t r m : Nat) : Int)]) (v := some ((σ.1 (34 * t + r) : Nat) : Int)) (w' := w) rfl rfl (ta_mo (d + 4) t r ht hr w (hR.1 _ (by omega))) (Nat.le_of_ble_eq_true rfl) rfl rfl rfl (Nat.le_of_ble_eq_true rfl) ?_
    refine tl_if (¬ ((tm_wish σ t r m : Nat) : Int) = ((σ.1 (34 * t + r) : Nat) : Int)) 37 35 [(0, .inr 0), (1, .inl ((t : Nat) : Int)), (2, .inl ((r : Nat) : Int)), (3, .inl ((m : Nat) : Int)), (4, .inl ((tm_wish σ t r m : Nat) : Int))] [] (fun _ h => h) (fun h2 => ?_) (fun h2 => ?_)
    · have h2 : ¬ tm_wish σ t r m = σ.1 (34 * t + r) := fun e => h2 (by rw [e])
      refine tl_go 4 42 [(0, .inr 0), (1, .inl ((t : Nat) : Int)), (2, .inl ((r : Nat) : Int)), (3, .inl ((m : Nat) : Int)), (4, .inl ((tm_wish σ t r m : Nat) : Int))] [.inl ((tm_wish σ t r m : Nat) : Int), .inl ((r : Nat) : Int), .inl ((t : Nat) : Int), .inr 0] w (fun _ h => h) ?_
      refine tl_callV (as := [.inr 0, .inl ((t : Nat) : Int), .inl ((r : Nat) : Int), .inl ((tm_wish σ t r m : Nat) : Int)]) (rest := []) (v := some (tm_b (decide (tm_fits σ.1 t r (tm_wish σ t r m) = true)))) (w' := w) rfl rfl (ta_fit (d + 3) t r (tm_wish σ t r m) ht hr hw5 w hR.1 hJ.1 hR.2.2.2) (Nat.le_of_ble_eq_true rfl) rfl rfl rfl (Nat.le_of_ble_eq_true rfl) ?_
      refine tl_if ((tm_b (decide (tm_fits σ.1 t r (tm_wish σ t r m) = true))) = 0) 77 48 [(0, .inr 0), (1, .inl ((t : Nat) : Int)), (2, .inl ((r : Nat) : Int)), (3, .inl ((m : Nat) : Int)), (4, .inl ((tm_wish σ t r m : Nat) : Int))] [] (fun _ h => h) (fun h5 => ?_) (fun h5 => ?_)
      · have h5 := of_decide_eq_false (tm_beq h5)
        have h3 : ¬ (tm_fits σ.1 t r (tm_wish σ t r m) = true ∧ (σ.1 (34 * t + r) ≠ 0 ∨ σ.2.2.2 r = [])) := fun q => h5 q.1
        have hJ1 := tm_en_J (m := tm_wish σ t r m) hJ ht hr hw5 (by omega)
        have hR1 := tm_en_RC (m := tm_wish σ t r m) hK hR hr ht (by omega) (tm_pl_le σ t r)
        refine tl_go 4 82 [(0, .inr 0), (1, .inl ((t : Nat) : Int)), (2, .inl ((r : Nat) : Int)), (3, .inl ((m : Nat) : Int)), (4, .inl ((tm_wish σ t r m : Nat) : Int))] [.inl ((tm_wish σ t r m : Nat) : Int), .inl ((r : Nat) : Int), .inl ((t : Nat) : Int), .inr 0] w (fun _ h => h) ?_
        refine tl_callV (as := [.inr 0, .inl ((t : Nat) : Int), .inl ((r : Nat) : Int), .inl ((tm_wish σ t r m : Nat) : Int)]) (rest := []) (v := none) (w' := (tl_set (tl_set (tl_set (tm_shf w σ.2.1 r ((tm_pl σ t r : Nat) : Int) 1 8) 1 t ((r + 2 : Nat) : Int)) 2 t ((tm_wish σ t r m : Nat) : Int)) 3 t ((tm_pl σ t r : Nat) : Int))) rfl rfl (ta_en (d + 1) (tm_wish σ t r m) w hK hR hr ht) (Nat.le_of_ble_eq_true rfl) rfl rfl rfl (Nat.le_of_ble_eq_true rfl) ?_
        refine tl_go 2 87 [(0, .inr 0), (1, .inl ((t : Nat) : Int)), (2, .inl ((r : Nat) : Int)), (3, .inl ((m : Nat) : Int)), (4, .inl ((tm_wish σ t r m : Nat) : Int))] [.inl ((t : Nat) : Int), .inr 0] (tl_set (tl_set (tl_set (tm_shf w σ.2.1 r ((tm_pl σ t r : Nat) : Int) 1 8) 1 t ((r + 2 : Nat) : Int)) 2 t ((tm_wish σ t r m : Nat) : Int)) 3 t ((tm_pl σ t r : Nat) : Int)) (fun _ h => h) ?_
        refine tl_callV (as := [.inr 0, .inl ((t : Nat) : Int)]) (rest := []) (v := some (tm_b (decide (tm_cir (tm_en σ r t (tm_wish σ t r m) (tm_pl σ t r)) t = true)))) (w' := (tl_set (tl_set (tl_set (tm_shf w σ.2.1 r ((tm_pl σ t r : Nat) : Int) 1 8) 1 t ((r + 2 : Nat) : Int)) 2 t ((tm_wish σ t r m : Nat) : Int)) 3 t ((tm_pl σ t r : Nat) : Int))) rfl rfl (ta_cir d t ht _ hJ1 hR1) (Nat.le_of_ble_eq_true rfl) rfl rfl rfl (Nat.le_of_ble_eq_true rfl) ?_
        refine tl_if ((tm_b (decide (tm_cir (tm_en σ r t (tm_wish σ t r m) (tm_pl σ t r)) t = true))) = 0) 100 93 [(0, .inr 0), (1, .inl ((t : Nat) : Int)), (2, .inl ((r : Nat) : Int)), (3, .inl ((m : Nat) : Int)), (4, .inl ((tm_wish σ t r m : Nat) : Int))] [] (fun _ h => h) (fun h4 => ?_) (fun h4 => ?_)
        · have h4 := of_decide_eq_false (tm_beq h4)
          have e : tm_req σ t r m = (0, tm_en σ r t (tm_wish σ t r m) (tm_pl σ t r)) := by unfold tm_req; rw [if_neg h1, if_neg h2, if_neg h3, if_neg h4]
          rw [e] at hQ
          refine tl_go 1 101 [(0, .inr 0), (1, .inl ((t : Nat) : Int)), (2, .inl ((r : Nat) : Int)), (3, .inl ((m : Nat) : Int)), (4, .inl ((tm_wish σ t r m : Nat) : Int))] [.inl 0] (tl_set (tl_set (tl_set (tm_shf w σ.2.1 r ((tm_pl σ t r : Nat) : Int) 1 8) 1 t ((r + 2 : Nat) : Int)) 2 t ((tm_wish σ t r m : Nat) : Int)) 3 t ((tm_pl σ t r : Nat) : Int)) (fun _ h => h) ?_
          exact tl_reti rfl rfl (rfl) (hQ _ hR1)
        · have h4 := of_decide_eq_true (tm_bne h4)
          have e : tm_req σ t r m = (4, σ) := by unfold tm_req; rw [if_neg h1, if_neg h2, if_neg h3, if_pos h4]
          rw [e] at hQ
          have hkp : ((tm_en σ r t (tm_wish σ t r m) (tm_pl σ t r)).2.2.2 r)[tm_pl σ t r]? = some t := by
            show (va_up σ.2.2.2 r _ r)[tm_pl σ t r]? = some t
            rw [va_up_s, tm_ins (tm_pl_le σ t r), if_neg (by omega), if_pos rfl]
          have hR2 := tm_lv_RC (tm_J_K hJ1) hR1 hr hkp
          rw [tm_lv_en hs ((hJ.2.1 t ht).2.2 (by omega)) (tm_pl_le σ t r)] at hR2
          refine tl_go 2 95 [(0, .inr 0), (1, .inl ((t : Nat) : Int)), (2, .inl ((r : Nat) : Int)), (3, .inl ((m : Nat) : Int)), (4, .inl ((tm_wish σ t r m : Nat) : Int))] [.inl ((t : Nat) : Int), .inr 0] (tl_set (tl_set (tl_set (tm_shf w σ.2.1 r ((tm_pl σ t r : Nat) : Int) 1 8) 1 t ((r + 2 : Nat) : Int)) 2 t ((tm_wish σ t r m : Nat) : Int)) 3 t ((tm_pl σ t r : Nat) : Int)) (fun _ h => h) ?_
          refine tl_callV (as := [.inr 0, .inl ((t : Nat) : Int)]) (rest := []) (v := none) (w' := (tm_shf (tl_set (tl_set (tl_set (tl_set (tl_set (tm_shf w σ.2.1 r ((tm_pl σ t r : Nat) : Int) 1 8) 1 t ((r + 2 : Nat) : Int)) 2 t ((tm_wish σ t r m : Nat) : Int)) 3 t ((tm_pl σ t r : Nat) : Int)) 1 t 1) 2 t 0) (va_up (tm_en σ r t (tm_wish σ t r m) (tm_pl σ t r)).2.1 t 1) r ((tl_set (tl_set (tl_set (tm_shf w σ.2.1 r ((tm_pl σ t r : Nat) : Int) 1 8) 1 t ((r + 2 : Nat) : Int)) 2 t ((tm_wish σ t r m : Nat) : Int)) 3 t ((tm_pl σ t r : Nat) : Int)) 3 t) (-1) 8)) rfl rfl (ta_lv (d + 2) (σ := tm_en σ r t (tm_wish σ t r m) (tm_pl σ t r)) _ (tm_J_K hJ1) hR1 hr hkp) (Nat.le_of_ble_eq_true rfl) rfl rfl rfl (Nat.le_of_ble_eq_true rfl) ?_
          refine tl_go 1 99 [(0, .inr 0), (1, .inl ((t : Nat) : Int)), (2, .inl ((r : Nat) : Int)), (3, .inl ((m : Nat) : Int)), (4, .inl ((tm_wish σ t r m : Nat) : Int))] [.inl 4] (tm_shf (tl_set (tl_set (tl_set (tl_set (tl_set (tm_shf w σ.2.1 r ((tm_pl σ t r : Nat) : Int) 1 8) 1 t ((r + 2 : Nat) : Int)) 2 t ((tm_wish σ t r m : Nat) : Int)) 3 t ((tm_pl σ t r : Nat) : Int)) 1 t 1) 2 t 0) (va_up (tm_en σ r t (tm_wish σ t r m) (tm_pl σ t r)).2.1 t 1) r ((tl_set (tl_set (tl_set (tm_shf w σ.2.1 r ((tm_pl σ t r : Nat) : Int) 1 8) 1 t ((r + 2 : Nat) : Int)) 2 t ((tm_wish σ t r m : Nat) : Int)) 3 t ((tm_pl σ t r : Nat) : Int)) 3 t) (-1) 8) (fun _ h => h) ?_
          exact tl_reti rfl rfl (rfl) (hQ _ hR2)
      · have h5 := of_decide_eq_true (tm_bne h5)
        refine tl_go 3 51 [(0, .inr 0), (1, .inl ((t : Nat) : Int)), (2, .inl ((r : Nat) : Int)), (3, .inl ((m : Nat) : Int)), (4, .inl ((tm_wish σ t r m : Nat) : Int))] [.inl ((r : Nat) : Int), .inl ((t : Nat) : Int), .inr 0] w (fun _ h => h) ?_
        refine tl_callV (as := [.inr 0, .inl ((t : Nat) : Int), .inl ((r : Nat) : Int)]) (rest := []) (v := some (tm_b (decide (σ.1 (34 * t + r) ≠ 0)))) (w' := w) rfl rfl (ta_ih (d + 3) t r ht hr w (hR.1 _ (by omega))) (Nat.le_of_ble_eq_true rfl) rfl rfl rfl (Nat.le_of_ble_eq_true rfl) ?_
        refine tl_if (¬ (tm_b (decide (σ.1 (34 * t + r) ≠ 0))) = 0) 67 57 [(0, .inr 0), (1, .inl ((t : Nat) : Int)), (2, .inl ((r : Nat) : Int)), (3, .inl ((m : Nat) : Int)), (4, .inl ((tm_wish σ t r m : Nat) : Int))] [] (fun _ h => h) (fun h6 => ?_) (fun h6 => ?_)
        · have h6 := of_decide_eq_true (tm_bne h6)
          have e : tm_req σ t r m = (1, tm_sm σ (34 * t + r) (tm_wish σ t r m)) := by unfold tm_req; rw [if_neg h1, if_neg h2, if_pos ⟨h5, Or.inl h6⟩]
          rw [e] at hQ
          refine tl_go 4 72 [(0, .inr 0), (1, .inl ((t : Nat) : Int)), (2, .inl ((r : Nat) : Int)), (3, .inl ((m : Nat) : Int)), (4, .inl ((tm_wish σ t r m : Nat) : Int))] [.inl ((tm_wish σ t r m : Nat) : Int), .inl ((r : Nat) : Int), .inl ((t : Nat) : Int), .inr 0] w (fun _ h => h) ?_
          refine tl_callV (as := [.inr 0, .inl ((t : Nat) : Int), .inl ((r : Nat) : Int), .inl ((tm_wish σ t r m : Nat) : Int)]) (rest := []) (v := none) (w' := (tl_set w 0 (34 * t + r) ((tm_wish σ t r m : Nat) : Int))) rfl rfl (ta_sm (d + 4) t r ht hr _ w) (Nat.le_of_ble_eq_true rfl) rfl rfl rfl (Nat.le_of_ble_eq_true rfl) ?_
          refine tl_go 1 76 [(0, .inr 0), (1, .inl ((t : Nat) : Int)), (2, .inl ((r : Nat) : Int)), (3, .inl ((m : Nat) : Int)), (4, .inl ((tm_wish σ t r m : Nat) : Int))] [.inl 1] (tl_set w 0 (34 * t + r) ((tm_wish σ t r m : Nat) : Int)) (fun _ h => h) ?_
          exact tl_reti rfl rfl (rfl) (hQ _ (tm_sm_RC hR))
        · have h6 := of_decide_eq_false (tm_beq (Classical.not_not.mp h6))
          refine tl_go 3 60 [(0, .inr 0), (1, .inl ((t : Nat) : Int)), (2, .inl ((r : Nat) : Int)), (3, .inl ((m : Nat) : Int)), (4, .inl ((tm_wish σ t r m : Nat) : Int))] [.inl 0, .inl ((r : Nat) : Int), .inr 0] w (fun _ h => h) ?_
          refine tl_callV (as := [.inr 0, .inl ((r : Nat) : Int), .inl 0]) (rest := []) (v := some (tm_sa (σ.2.2.2 r) 0)) (w' := w) rfl rfl (ta_sa (d + 3) r 0 hr w hJ (tm_RC_3 hR)) (Nat.le_of_ble_eq_true rfl) rfl rfl rfl (Nat.le_of_ble_eq_true rfl) ?_
          refine tl_go 1 64 [(0, .inr 0), (1, .inl ((t : Nat) : Int)), (2, .inl ((r : Nat) : Int)), (3, .inl ((m : Nat) : Int)), (4, .inl ((tm_wish σ t r m : Nat) : Int))] [.inl (-1), .inl (tm_sa (σ.2.2.2 r) 0)] w (fun _ h => h) ?_
          refine tl_if (¬ (tm_sa (σ.2.2.2 r) 0) = (-1)) 77 67 [(0, .inr 0), (1, .inl ((t : Nat) : Int)), (2, .inl ((r : Nat) : Int)), (3, .inl ((m : Nat) : Int)), (4, .inl ((tm_wish σ t r m : Nat) : Int))] [] (fun _ h => h) (fun h7 => ?_) (fun h7 => ?_)
          · have h3 : ¬ (tm_fits σ.1 t r (tm_wish σ t r m) = true ∧ (σ.1 (34 * t + r) ≠ 0 ∨ σ.2.2.2 r = [])) := fun q => q.2.elim h6 (fun z => h7 (tm_sa_0.mpr z))
            have hJ1 := tm_en_J (m := tm_wish σ t r m) hJ ht hr hw5 (by omega)
            have hR1 := tm_en_RC (m := tm_wish σ t r m) hK hR hr ht (by omega) (tm_pl_le σ t r)
            refine tl_go 4 82 [(0, .inr 0), (1, .inl ((t : Nat) : Int)), (2, .inl ((r : Nat) : Int)), (3, .inl ((m : Nat) : Int)), (4, .inl ((tm_wish σ t r m : Nat) : Int))] [.inl ((tm_wish σ t r m : Nat) : Int), .inl ((r : Nat) : Int), .inl ((t : Nat) : Int), .inr 0] w (fun _ h => h) ?_
            refine tl_callV (as := [.inr 0, .inl ((t : Nat) : Int), .inl ((r : Nat) : Int), .inl ((tm_wish σ t r m : Nat) : Int)]) (rest := []) (v := none) (w' := (tl_set (tl_set (tl_set (tm_shf w σ.2.1 r ((tm_pl σ t r : Nat) : Int) 1 8) 1 t ((r + 2 : Nat) : Int)) 2 t ((tm_wish σ t r m : Nat) : Int)) 3 t ((tm_pl σ t r : Nat) : Int))) rfl rfl (ta_en (d + 1) (tm_wish σ t r m) w hK hR hr ht) (Nat.le_of_ble_eq_true rfl) rfl rfl rfl (Nat.le_of_ble_eq_true rfl) ?_
            refine tl_go 2 87 [(0, .inr 0), (1, .inl ((t : Nat) : Int)), (2, .inl ((r : Nat) : Int)), (3, .inl ((m : Nat) : Int)), (4, .inl ((tm_wish σ t r m : Nat) : Int))] [.inl ((t : Nat) : Int), .inr 0] (tl_set (tl_set (tl_set (tm_shf w σ.2.1 r ((tm_pl σ t r : Nat) : Int) 1 8) 1 t ((r + 2 : Nat) : Int)) 2 t ((tm_wish σ t r m : Nat) : Int)) 3 t ((tm_pl σ t r : Nat) : Int)) (fun _ h => h) ?_
            refine tl_callV (as := [.inr 0, .inl ((t : Nat) : Int)]) (rest := []) (v := some (tm_b (decide (tm_cir (tm_en σ r t (tm_wish σ t r m) (tm_pl σ t r)) t = true)))) (w' := (tl_set (tl_set (tl_set (tm_shf w σ.2.1 r ((tm_pl σ t r : Nat) : Int) 1 8) 1 t ((r + 2 : Nat) : Int)) 2 t ((tm_wish σ t r m : Nat) : Int)) 3 t ((tm_pl σ t r : Nat) : Int))) rfl rfl (ta_cir d t ht _ hJ1 hR1) (Nat.le_of_ble_eq_true rfl) rfl rfl rfl (Nat.le_of_ble_eq_true rfl) ?_
            refine tl_if ((tm_b (decide (tm_cir (tm_en σ r t (tm_wish σ t r m) (tm_pl σ t r)) t = true))) = 0) 100 93 [(0, .inr 0), (1, .inl ((t : Nat) : Int)), (2, .inl ((r : Nat) : Int)), (3, .inl ((m : Nat) : Int)), (4, .inl ((tm_wish σ t r m : Nat) : Int))] [] (fun _ h => h) (fun h4 => ?_) (fun h4 => ?_)
            · have h4 := of_decide_eq_false (tm_beq h4)
              have e : tm_req σ t r m = (0, tm_en σ r t (tm_wish σ t r m) (tm_pl σ t r)) := by unfold tm_req; rw [if_neg h1, if_neg h2, if_neg h3, if_neg h4]
              rw [e] at hQ
              refine tl_go 1 101 [(0, .inr 0), (1, .inl ((t : Nat) : Int)), (2, .inl ((r : Nat) : Int)), (3, .inl ((m : Nat) : Int)), (4, .inl ((tm_wish σ t r m : Nat) : Int))] [.inl 0] (tl_set (tl_set (tl_set (tm_shf w σ.2.1 r ((tm_pl σ t r : Nat) : Int) 1 8) 1 t ((r + 2 : Nat) : Int)) 2 t ((tm_wish σ t r m : Nat) : Int)) 3 t ((tm_pl σ t r : Nat) : Int)) (fun _ h => h) ?_
              exact tl_reti rfl rfl (rfl) (hQ _ hR1)
            · have h4 := of_decide_eq_true (tm_bne h4)
              have e : tm_req σ t r m = (4, σ) := by unfold tm_req; rw [if_neg h1, if_neg h2, if_neg h3, if_pos h4]
              rw [e] at hQ
              have hkp : ((tm_en σ r t (tm_wish σ t r m) (tm_pl σ t r)).2.2.2 r)[tm_pl σ t r]? = some t := by
                show (va_up σ.2.2.2 r _ r)[tm_pl σ t r]? = some t
                rw [va_up_s, tm_ins (tm_pl_le σ t r), if_neg (by omega), if_pos rfl]
              have hR2 := tm_lv_RC (tm_J_K hJ1) hR1 hr hkp
              rw [tm_lv_en hs ((hJ.2.1 t ht).2.2 (by omega)) (tm_pl_le σ t r)] at hR2
              refine tl_go 2 95 [(0, .inr 0), (1, .inl ((t : Nat) : Int)), (2, .inl ((r : Nat) : Int)), (3, .inl ((m : Nat) : Int)), (4, .inl ((tm_wish σ t r m : Nat) : Int))] [.inl ((t : Nat) : Int), .inr 0] (tl_set (tl_set (tl_set (tm_shf w σ.2.1 r ((tm_pl σ t r : Nat) : Int) 1 8) 1 t ((r + 2 : Nat) : Int)) 2 t ((tm_wish σ t r m : Nat) : Int)) 3 t ((tm_pl σ t r : Nat) : Int)) (fun _ h => h) ?_
              refine tl_callV (as := [.inr 0, .inl ((t : Nat) : Int)]) (rest := []) (v := none) (w' := (tm_shf (tl_set (tl_set (tl_set (tl_set (tl_set (tm_shf w σ.2.1 r ((tm_pl σ t r : Nat) : Int) 1 8) 1 t ((r + 2 : Nat) : Int)) 2 t ((tm_wish σ t r m : Nat) : Int)) 3 t ((tm_pl σ t r : Nat) : Int)) 1 t 1) 2 t 0) (va_up (tm_en σ r t (tm_wish σ t r m) (tm_pl σ t r)).2.1 t 1) r ((tl_set (tl_set (tl_set (tm_shf w σ.2.1 r ((tm_pl σ t r : Nat) : Int) 1 8) 1 t ((r + 2 : Nat) : Int)) 2 t ((tm_wish σ t r m : Nat) : Int)) 3 t ((tm_pl σ t r : Nat) : Int)) 3 t) (-1) 8)) rfl rfl (ta_lv (d + 2) (σ := tm_en σ r t (tm_wish σ t r m) (tm_pl σ t r)) _ (tm_J_K hJ1) hR1 hr hkp) (Nat.le_of_ble_eq_true rfl) rfl rfl rfl (Nat.le_of_ble_eq_true rfl) ?_
              refine tl_go 1 99 [(0, .inr 0), (1, .inl ((t : Nat) : Int)), (2, .inl ((r : Nat) : Int)), (3, .inl ((m : Nat) : Int)), (4, .inl ((tm_wish σ t r m : Nat) : Int))] [.inl 4] (tm_shf (tl_set (tl_set (tl_set (tl_set (tl_set (tm_shf w σ.2.1 r ((tm_pl σ t r : Nat) : Int) 1 8) 1 t ((r + 2 : Nat) : Int)) 2 t ((tm_wish σ t r m : Nat) : Int)) 3 t ((tm_pl σ t r : Nat) : Int)) 1 t 1) 2 t 0) (va_up (tm_en σ r t (tm_wish σ t r m) (tm_pl σ t r)).2.1 t 1) r ((tl_set (tl_set (tl_set (tm_shf w σ.2.1 r ((tm_pl σ t r : Nat) : Int) 1 8) 1 t ((r + 2 : Nat) : Int)) 2 t ((tm_wish σ t r m : Nat) : Int)) 3 t ((tm_pl σ t r : Nat) : Int)) 3 t) (-1) 8) (fun _ h => h) ?_
              exact tl_reti rfl rfl (rfl) (hQ _ hR2)
          · have e : tm_req σ t r m = (1, tm_sm σ (34 * t + r) (tm_wish σ t r m)) := by unfold tm_req; rw [if_neg h1, if_neg h2, if_pos ⟨h5, Or.inr (tm_sa_0.mp (Classical.not_not.mp h7))⟩]
            rw [e] at hQ
            refine tl_go 4 72 [(0, .inr 0), (1, .inl ((t : Nat) : Int)), (2, .inl ((r : Nat) : Int)), (3, .inl ((m : Nat) : Int)), (4, .inl ((tm_wish σ t r m : Nat) : Int))] [.inl ((tm_wish σ t r m : Nat) : Int), .inl ((r : Nat) : Int), .inl ((t : Nat) : Int), .inr 0] w (fun _ h => h) ?_
            refine tl_callV (as := [.inr 0, .inl ((t : Nat) : Int), .inl ((r : Nat) : Int), .inl ((tm_wish σ t r m : Nat) : Int)]) (rest := []) (v := none) (w' := (tl_set w 0 (34 * t + r) ((tm_wish σ t r m : Nat) : Int))) rfl rfl (ta_sm (d + 4) t r ht hr _ w) (Nat.le_of_ble_eq_true rfl) rfl rfl rfl (Nat.le_of_ble_eq_true rfl) ?_
            refine tl_go 1 76 [(0, .inr 0), (1, .inl ((t : Nat) : Int)), (2, .inl ((r : Nat) : Int)), (3, .inl ((m : Nat) : Int)), (4, .inl ((tm_wish σ t r m : Nat) : Int))] [.inl 1] (tl_set w 0 (34 * t + r) ((tm_wish σ t r m : Nat) : Int)) (fun _ h => h) ?_
            exact tl_reti rfl rfl (rfl) (hQ _ (tm_sm_RC hR))
    · have e : tm_req σ t r m = (3, σ) := by unfold tm_req; rw [if_neg h1, if_pos (by omega)]
      rw [e] at hQ
      refine tl_go 1 36 [(0, .inr 0), (1, .inl ((t : Nat) : Int)), (2, .inl ((r : Nat) : Int)), (3, .inl ((m : Nat) : Int)), (4, .inl ((tm_wish σ t r m : Nat) : Int))] [.inl 3] w (fun _ h => h) ?_
      exact tl_reti rfl rfl (rfl) (hQ w hR)
  · have h1 := of_decide_eq_true (tm_bne h1)
    have e : tm_req σ t r m = (2, σ) := by unfold tm_req; rw [if_pos h1]
    rw [e] at hQ
    refine tl_go 1 11 [(0, .inr 0), (1, .inl ((t : Nat) : Int)), (2, .inl ((r : Nat) : Int)), (3, .inl ((m : Nat) : Int))] [.inl 2] w (fun _ h => h) ?_
    exact tl_reti rfl rfl (rfl) (hQ w hR)
def tm_qHeld (σ : tm_S) (t r : Int) : Int := if (0 ≤ t ∧ t < 8) ∧ (0 ≤ r ∧ r < 34) then (σ.1 (34 * t.toNat + r.toNat) : Int) else -1
def tm_qState (σ : tm_S) (t : Int) : Int := if 0 ≤ t ∧ t < 8 then (σ.2.1 t.toNat : Int) else -1
def tm_qWanted (σ : tm_S) (t : Int) : Int := if 0 ≤ t ∧ t < 8 then (σ.2.2.1 t.toNat : Int) else -1
def tm_qQueue (σ : tm_S) (r k : Int) : Int := if 0 ≤ r ∧ r < 34 then tm_sa (σ.2.2.2 r.toNat) k else -1
def tm_qWaits (σ : tm_S) (t : Int) : Int := if 0 ≤ t ∧ t < 8 then (tm_bk σ t.toNat : Int) else -1
def tm_qAcc (σ : tm_S) (t r : Int) : Int := if (0 ≤ t ∧ t < 8) ∧ (10 ≤ r ∧ r < 34) then ((max (tm_rt (σ.1 (34 * t.toNat + r.toNat))) (tm_rfa σ.1 t.toNat (tm_an 3 r.toNat) 0) : Nat) : Int) else -1
def tm_lk (M : Nat → Nat) (t i : Nat) : Nat := (List.range i).countP (fun c => decide (M (34 * t + c) ≠ 0))
def tm_qLocks (σ : tm_S) (t : Int) : Int := if 0 ≤ t ∧ t < 8 then (tm_lk σ.1 t.toNat 34 : Int) else -1
theorem tm_lk_s (M : Nat → Nat) (t i : Nat) : tm_lk M t (i + 1) = tm_lk M t i + (if M (34 * t + i) ≠ 0 then 1 else 0) := by
  unfold tm_lk
  rw [List.range_succ, List.countP_append, List.countP_singleton]
  by_cases h : M (34 * t + i) ≠ 0
  · rw [if_pos h, if_pos (decide_eq_true h)]
  · rw [if_neg h, if_neg (fun q => h (of_decide_eq_true q))]
theorem tm_lk_le (M : Nat → Nat) (t i : Nat) : tm_lk M t i ≤ i := by
  unfold tm_lk
  exact Nat.le_trans (List.countP_le_length) (by rw [List.length_range]; exact Nat.le_refl _)

theorem ta_held (d : Nat) (t r : Int) {σ : tm_S} (w : tl_W) (hJ : tm_J σ) (hR : tm_RC w σ) : tl_Ev ta_P (d + 2) 6 [.inr 0, .inl t, .inl r] w (.inl (some (tm_qHeld σ t r))) w := by
  refine tl_start fun Q hQ => ?_
  refine tl_go 1 1 [(0, .inr 0), (1, .inl t), (2, .inl r)] [.inl t] w (fun _ h => h) ?_
  refine tl_callS (as := [.inl t]) (rest := []) (v := some (tm_b (decide (0 ≤ t ∧ t < 8)))) (w' := w) rfl rfl rfl rfl (ta_isT d t w) (Nat.le_of_ble_eq_true rfl) rfl rfl (Nat.le_of_ble_eq_true rfl) ?_
  refine tl_if ((tm_b (decide (0 ≤ t ∧ t < 8))) = 0) 23 7 [(0, .inr 0), (1, .inl t), (2, .inl r)] [] (fun _ h => h) (fun h1 => ?_) (fun h1 => ?_)
  · have h1 := of_decide_eq_false (tm_beq h1)
    refine tl_go 1 24 [(0, .inr 0), (1, .inl t), (2, .inl r)] [.inl (-1)] w (fun _ h => h) ?_
    exact tl_reti rfl rfl (by unfold tm_qHeld; rw [if_neg (fun q => h1 q.1)]) (hQ)
  · have h1 := of_decide_eq_true (tm_bne h1)
    refine tl_go 1 8 [(0, .inr 0), (1, .inl t), (2, .inl r)] [.inl r] w (fun _ h => h) ?_
    refine tl_callS (as := [.inl r]) (rest := []) (v := some (tm_b (decide (0 ≤ r ∧ r < 34)))) (w' := w) rfl rfl rfl rfl (ta_isR d r w) (Nat.le_of_ble_eq_true rfl) rfl rfl (Nat.le_of_ble_eq_true rfl) ?_
    refine tl_if ((tm_b (decide (0 ≤ r ∧ r < 34))) = 0) 23 14 [(0, .inr 0), (1, .inl t), (2, .inl r)] [] (fun _ h => h) (fun h2 => ?_) (fun h2 => ?_)
    · have h2 := of_decide_eq_false (tm_beq h2)
      refine tl_go 1 24 [(0, .inr 0), (1, .inl t), (2, .inl r)] [.inl (-1)] w (fun _ h => h) ?_
      exact tl_reti rfl rfl (by unfold tm_qHeld; rw [if_neg (fun q => h2 q.2)]) (hQ)
    · have h2 := of_decide_eq_true (tm_bne h2)
      obtain ⟨t', rfl⟩ : ∃ n : Nat, t = n := ⟨t.toNat, by omega⟩
      obtain ⟨r', rfl⟩ : ∃ n : Nat, r = n := ⟨r.toNat, by omega⟩
      refine tl_go 3 17 [(0, .inr 0), (1, .inl ((t' : Nat) : Int)), (2, .inl ((r' : Nat) : Int))] [.inl ((r' : Nat) : Int), .inl ((t' : Nat) : Int), .inr 0] w (fun _ h => h) ?_
      refine tl_callV (as := [.inr 0, .inl ((t' : Nat) : Int), .inl ((r' : Nat) : Int)]) (rest := []) (v := some ((σ.1 (34 * t' + r') : Nat) : Int)) (w' := w) rfl rfl (ta_mo d t' r' (by omega) (by omega) w (hR.1 _ (by omega))) (Nat.le_of_ble_eq_true rfl) rfl rfl rfl (Nat.le_of_ble_eq_true rfl) ?_
      refine tl_go 1 24 [(0, .inr 0), (1, .inl ((t' : Nat) : Int)), (2, .inl ((r' : Nat) : Int))] [.inl ((σ.1 (34 * t' + r') : Nat) : Int)] w (fun _ h => h) ?_
      exact tl_reti rfl rfl (by unfold tm_qHeld; rw [if_pos ⟨h1, h2⟩, Int.toNat_natCast, Int.toNat_natCast]) (hQ)
theorem ta_state (d : Nat) (t : Int) {σ : tm_S} (w : tl_W) (hJ : tm_J σ) (hR : tm_RC w σ) : tl_Ev ta_P (d + 2) 7 [.inr 0, .inl t] w (.inl (some (tm_qState σ t))) w := by
  refine tl_start fun Q hQ => ?_
  refine tl_go 1 1 [(0, .inr 0), (1, .inl t)] [.inl t] w (fun _ h => h) ?_
  refine tl_callS (as := [.inl t]) (rest := []) (v := some (tm_b (decide (0 ≤ t ∧ t < 8)))) (w' := w) rfl rfl rfl rfl (ta_isT d t w) (Nat.le_of_ble_eq_true rfl) rfl rfl (Nat.le_of_ble_eq_true rfl) ?_
  refine tl_if ((tm_b (decide (0 ≤ t ∧ t < 8))) = 0) 16 7 [(0, .inr 0), (1, .inl t)] [] (fun _ h => h) (fun h1 => ?_) (fun h1 => ?_)
  · have h1 := of_decide_eq_false (tm_beq h1)
    refine tl_go 1 17 [(0, .inr 0), (1, .inl t)] [.inl (-1)] w (fun _ h => h) ?_
    exact tl_reti rfl rfl (by unfold tm_qState; rw [if_neg h1]) (hQ)
  · have h1 := of_decide_eq_true (tm_bne h1)
    obtain ⟨t', rfl⟩ : ∃ n : Nat, t = n := ⟨t.toNat, by omega⟩
    refine tl_go 3 12 [(0, .inr 0), (1, .inl ((t' : Nat) : Int))] [.inl ((t' : Nat) : Int), .inr 2] w (fun _ h => And.intro rfl (And.intro (by decide) (h))) ?_
    refine tl_ald (t') 8 (k := 1) rfl (by omega) rfl (by omega) ?_
    refine tl_top (y := ((σ.2.1 t' : Nat) : Int)) ((hR.2.1 t' (by omega)).1) ?_
    refine tl_go 1 17 [(0, .inr 0), (1, .inl ((t' : Nat) : Int))] [.inl ((σ.2.1 t' : Nat) : Int)] w (fun _ h => h) ?_
    exact tl_reti rfl rfl (by unfold tm_qState; rw [if_pos h1, Int.toNat_natCast]) (hQ)
theorem ta_wanted (d : Nat) (t : Int) {σ : tm_S} (w : tl_W) (hJ : tm_J σ) (hR : tm_RC w σ) : tl_Ev ta_P (d + 2) 8 [.inr 0, .inl t] w (.inl (some (tm_qWanted σ t))) w := by
  refine tl_start fun Q hQ => ?_
  refine tl_go 1 1 [(0, .inr 0), (1, .inl t)] [.inl t] w (fun _ h => h) ?_
  refine tl_callS (as := [.inl t]) (rest := []) (v := some (tm_b (decide (0 ≤ t ∧ t < 8)))) (w' := w) rfl rfl rfl rfl (ta_isT d t w) (Nat.le_of_ble_eq_true rfl) rfl rfl (Nat.le_of_ble_eq_true rfl) ?_
  refine tl_if ((tm_b (decide (0 ≤ t ∧ t < 8))) = 0) 16 7 [(0, .inr 0), (1, .inl t)] [] (fun _ h => h) (fun h1 => ?_) (fun h1 => ?_)
  · have h1 := of_decide_eq_false (tm_beq h1)
    refine tl_go 1 17 [(0, .inr 0), (1, .inl t)] [.inl (-1)] w (fun _ h => h) ?_
    exact tl_reti rfl rfl (by unfold tm_qWanted; rw [if_neg h1]) (hQ)
  · have h1 := of_decide_eq_true (tm_bne h1)
    obtain ⟨t', rfl⟩ : ∃ n : Nat, t = n := ⟨t.toNat, by omega⟩
    refine tl_go 3 12 [(0, .inr 0), (1, .inl ((t' : Nat) : Int))] [.inl ((t' : Nat) : Int), .inr 3] w (fun _ h => And.intro rfl (And.intro (by decide) (h))) ?_
    refine tl_ald (t') 8 (k := 2) rfl (by omega) rfl (by omega) ?_
    refine tl_top (y := ((σ.2.2.1 t' : Nat) : Int)) ((hR.2.1 t' (by omega)).2) ?_
    refine tl_go 1 17 [(0, .inr 0), (1, .inl ((t' : Nat) : Int))] [.inl ((σ.2.2.1 t' : Nat) : Int)] w (fun _ h => h) ?_
    exact tl_reti rfl rfl (by unfold tm_qWanted; rw [if_pos h1, Int.toNat_natCast]) (hQ)
theorem ta_queue (d : Nat) (r k : Int) {σ : tm_S} (w : tl_W) (hJ : tm_J σ) (hR : tm_RC w σ) : tl_Ev ta_P (d + 3) 9 [.inr 0, .inl r, .inl k] w (.inl (some (tm_qQueue σ r k))) w := by
  refine tl_start fun Q hQ => ?_
  refine tl_go 1 1 [(0, .inr 0), (1, .inl r), (2, .inl k)] [.inl r] w (fun _ h => h) ?_
  refine tl_callS (as := [.inl r]) (rest := []) (v := some (tm_b (decide (0 ≤ r ∧ r < 34)))) (w' := w) rfl rfl rfl rfl (ta_isR (d + 1) r w) (Nat.le_of_ble_eq_true rfl) rfl rfl (Nat.le_of_ble_eq_true rfl) ?_
  refine tl_if ((tm_b (decide (0 ≤ r ∧ r < 34))) = 0) 16 7 [(0, .inr 0), (1, .inl r), (2, .inl k)] [] (fun _ h => h) (fun h1 => ?_) (fun h1 => ?_)
  · have h1 := of_decide_eq_false (tm_beq h1)
    refine tl_go 1 17 [(0, .inr 0), (1, .inl r), (2, .inl k)] [.inl (-1)] w (fun _ h => h) ?_
    exact tl_reti rfl rfl (by unfold tm_qQueue; rw [if_neg h1]) (hQ)
  · have h1 := of_decide_eq_true (tm_bne h1)
    obtain ⟨r', rfl⟩ : ∃ n : Nat, r = n := ⟨r.toNat, by omega⟩
    refine tl_go 3 10 [(0, .inr 0), (1, .inl ((r' : Nat) : Int)), (2, .inl k)] [.inl k, .inl ((r' : Nat) : Int), .inr 0] w (fun _ h => h) ?_
    refine tl_callV (as := [.inr 0, .inl ((r' : Nat) : Int), .inl k]) (rest := []) (v := some (tm_sa (σ.2.2.2 r') k)) (w' := w) rfl rfl (ta_sa d r' k (by omega) w hJ (tm_RC_3 hR)) (Nat.le_of_ble_eq_true rfl) rfl rfl rfl (Nat.le_of_ble_eq_true rfl) ?_
    refine tl_go 1 17 [(0, .inr 0), (1, .inl ((r' : Nat) : Int)), (2, .inl k)] [.inl (tm_sa (σ.2.2.2 r') k)] w (fun _ h => h) ?_
    exact tl_reti rfl rfl (by unfold tm_qQueue; rw [if_pos h1, Int.toNat_natCast]) (hQ)
theorem ta_waits (d : Nat) (t : Int) {σ : tm_S} (w : tl_W) (hJ : tm_J σ) (hR : tm_RC w σ) : tl_Ev ta_P (d + 4) 10 [.inr 0, .inl t] w (.inl (some (tm_qWaits σ t))) w := by
  refine tl_start fun Q hQ => ?_
  refine tl_go 1 1 [(0, .inr 0), (1, .inl t)] [.inl t] w (fun _ h => h) ?_
  refine tl_callS (as := [.inl t]) (rest := []) (v := some (tm_b (decide (0 ≤ t ∧ t < 8)))) (w' := w) rfl rfl rfl rfl (ta_isT (d + 2) t w) (Nat.le_of_ble_eq_true rfl) rfl rfl (Nat.le_of_ble_eq_true rfl) ?_
  refine tl_if ((tm_b (decide (0 ≤ t ∧ t < 8))) = 0) 15 7 [(0, .inr 0), (1, .inl t)] [] (fun _ h => h) (fun h1 => ?_) (fun h1 => ?_)
  · have h1 := of_decide_eq_false (tm_beq h1)
    refine tl_go 1 16 [(0, .inr 0), (1, .inl t)] [.inl (-1)] w (fun _ h => h) ?_
    exact tl_reti rfl rfl (by unfold tm_qWaits; rw [if_neg h1]) (hQ)
  · have h1 := of_decide_eq_true (tm_bne h1)
    obtain ⟨t', rfl⟩ : ∃ n : Nat, t = n := ⟨t.toNat, by omega⟩
    refine tl_go 2 9 [(0, .inr 0), (1, .inl ((t' : Nat) : Int))] [.inl ((t' : Nat) : Int), .inr 0] w (fun _ h => h) ?_
    refine tl_callV (as := [.inr 0, .inl ((t' : Nat) : Int)]) (rest := []) (v := some ((tm_bk σ t' : Nat) : Int)) (w' := w) rfl rfl (ta_bk d t' (by omega) w hJ hR) (Nat.le_of_ble_eq_true rfl) rfl rfl rfl (Nat.le_of_ble_eq_true rfl) ?_
    refine tl_go 1 16 [(0, .inr 0), (1, .inl ((t' : Nat) : Int))] [.inl ((tm_bk σ t' : Nat) : Int)] w (fun _ h => h) ?_
    exact tl_reti rfl rfl (by unfold tm_qWaits; rw [if_pos h1, Int.toNat_natCast]) (hQ)
theorem ta_access (d : Nat) (t r : Int) {σ : tm_S} (w : tl_W) (hJ : tm_J σ) (hR : tm_RC w σ) : tl_Ev ta_P (d + 3) 11 [.inr 0, .inl t, .inl r] w (.inl (some (tm_qAcc σ t r))) w := by
  refine tl_start fun Q hQ => ?_
  refine tl_go 1 1 [(0, .inr 0), (1, .inl t), (2, .inl r)] [.inl t] w (fun _ h => h) ?_
  refine tl_callS (as := [.inl t]) (rest := []) (v := some (tm_b (decide (0 ≤ t ∧ t < 8)))) (w' := w) rfl rfl rfl rfl (ta_isT (d + 1) t w) (Nat.le_of_ble_eq_true rfl) rfl rfl (Nat.le_of_ble_eq_true rfl) ?_
  refine tl_if ((tm_b (decide (0 ≤ t ∧ t < 8))) = 0) 21 7 [(0, .inr 0), (1, .inl t), (2, .inl r)] [] (fun _ h => h) (fun h1 => ?_) (fun h1 => ?_)
  · have h1 := of_decide_eq_false (tm_beq h1)
    refine tl_go 1 22 [(0, .inr 0), (1, .inl t), (2, .inl r)] [.inl (-1)] w (fun _ h => h) ?_
    exact tl_reti rfl rfl (by unfold tm_qAcc; rw [if_neg (fun q => h1 q.1)]) (hQ)
  · have h1 := of_decide_eq_true (tm_bne h1)
    refine tl_go 1 8 [(0, .inr 0), (1, .inl t), (2, .inl r)] [.inl r] w (fun _ h => h) ?_
    refine tl_callS (as := [.inl r]) (rest := []) (v := some (tm_b (decide (0 ≤ r ∧ r < 34)))) (w' := w) rfl rfl rfl rfl (ta_isR (d + 1) r w) (Nat.le_of_ble_eq_true rfl) rfl rfl (Nat.le_of_ble_eq_true rfl) ?_
    refine tl_if ((tm_b (decide (0 ≤ r ∧ r < 34))) = 0) 21 14 [(0, .inr 0), (1, .inl t), (2, .inl r)] [] (fun _ h => h) (fun h2 => ?_) (fun h2 => ?_)
    · have h2 := of_decide_eq_false (tm_beq h2)
      refine tl_go 1 22 [(0, .inr 0), (1, .inl t), (2, .inl r)] [.inl (-1)] w (fun _ h => h) ?_
      exact tl_reti rfl rfl (by unfold tm_qAcc; rw [if_neg (by omega)]) (hQ)
    · have h2 := of_decide_eq_true (tm_bne h2)
      refine tl_go 1 15 [(0, .inr 0), (1, .inl t), (2, .inl r)] [.inl r] w (fun _ h => h) ?_
      refine tl_callS (as := [.inl r]) (rest := []) (v := some (tm_b (decide (10 ≤ r)))) (w' := w) rfl rfl rfl rfl (ta_isRow (d + 1) r w) (Nat.le_of_ble_eq_true rfl) rfl rfl (Nat.le_of_ble_eq_true rfl) ?_
      refine tl_if (¬ (tm_b (decide (10 ≤ r))) = 0) 23 21 [(0, .inr 0), (1, .inl t), (2, .inl r)] [] (fun _ h => h) (fun h3 => ?_) (fun h3 => ?_)
      · have h3 := of_decide_eq_true (tm_bne h3)
        obtain ⟨t', rfl⟩ : ∃ n : Nat, t = n := ⟨t.toNat, by omega⟩
        obtain ⟨r', rfl⟩ : ∃ n : Nat, r = n := ⟨r.toNat, by omega⟩
        refine tl_go 3 26 [(0, .inr 0), (1, .inl ((t' : Nat) : Int)), (2, .inl ((r' : Nat) : Int))] [.inl ((r' : Nat) : Int), .inl ((t' : Nat) : Int), .inr 0] w (fun _ h => h) ?_
        refine tl_callV (as := [.inr 0, .inl ((t' : Nat) : Int), .inl ((r' : Nat) : Int)]) (rest := []) (v := some ((σ.1 (34 * t' + r') : Nat) : Int)) (w' := w) rfl rfl (ta_mo (d + 1) t' r' (by omega) (by omega) w (hR.1 _ (by omega))) (Nat.le_of_ble_eq_true rfl) rfl rfl rfl (Nat.le_of_ble_eq_true rfl) ?_
        refine tl_callS (as := [.inl ((σ.1 (34 * t' + r') : Nat) : Int)]) (rest := []) (v := some ((tm_rt (σ.1 (34 * t' + r')) : Nat) : Int)) (w' := w) rfl rfl rfl rfl (ta_rt (d + 1) (σ.1 (34 * t' + r')) w) (Nat.le_of_ble_eq_true rfl) rfl rfl (Nat.le_of_ble_eq_true rfl) ?_
        refine tl_go 3 35 [(0, .inr 0), (1, .inl ((t' : Nat) : Int)), (2, .inl ((r' : Nat) : Int))] [.inl ((r' : Nat) : Int), .inl ((t' : Nat) : Int), .inr 0, .inl ((tm_rt (σ.1 (34 * t' + r')) : Nat) : Int)] w (fun _ h => h) ?_
        refine tl_callV (as := [.inr 0, .inl ((t' : Nat) : Int), .inl ((r' : Nat) : Int)]) (rest := [.inl ((tm_rt (σ.1 (34 * t' + r')) : Nat) : Int)]) (v := some ((tm_rfa σ.1 t' (tm_an 3 r') 0 : Nat) : Int)) (w' := w) rfl rfl (ta_rfa d t' r' (by omega) (by omega) w hR.1 hJ.1) (Nat.le_of_ble_eq_true rfl) rfl rfl rfl (Nat.le_of_ble_eq_true rfl) ?_
        refine tl_go 1 41 [(0, .inr 0), (1, .inl ((t' : Nat) : Int)), (2, .inl ((r' : Nat) : Int))] [.inl (max ((tm_rt (σ.1 (34 * t' + r')) : Nat) : Int) ((tm_rfa σ.1 t' (tm_an 3 r') 0 : Nat) : Int))] w (fun _ h => And.intro (Nat.le_of_ble_eq_true rfl) h) ?_
        refine tl_top (y := ((max (tm_rt (σ.1 (34 * t' + r'))) (tm_rfa σ.1 t' (tm_an 3 r') 0) : Nat) : Int)) (by omega) ?_
        exact tl_reti rfl rfl (by unfold tm_qAcc; rw [if_pos (by omega), Int.toNat_natCast, Int.toNat_natCast]) (hQ)
      · have h3 := of_decide_eq_false (tm_beq (Classical.not_not.mp h3))
        refine tl_go 1 22 [(0, .inr 0), (1, .inl t), (2, .inl r)] [.inl (-1)] w (fun _ h => h) ?_
        exact tl_reti rfl rfl (by unfold tm_qAcc; rw [if_neg (by omega)]) (hQ)
theorem ta_locks (d : Nat) (t : Int) {σ : tm_S} (w : tl_W) (hJ : tm_J σ) (hR : tm_RC w σ) : tl_Ev ta_P (d + 3) 12 [.inr 0, .inl t] w (.inl (some (tm_qLocks σ t))) w := by
  refine tl_start fun Q hQ => ?_
  refine tl_go 1 1 [(0, .inr 0), (1, .inl t)] [.inl t] w (fun _ h => h) ?_
  refine tl_callS (as := [.inl t]) (rest := []) (v := some (tm_b (decide (0 ≤ t ∧ t < 8)))) (w' := w) rfl rfl rfl rfl (ta_isT (d + 1) t w) (Nat.le_of_ble_eq_true rfl) rfl rfl (Nat.le_of_ble_eq_true rfl) ?_
  refine tl_if (¬ (tm_b (decide (0 ≤ t ∧ t < 8))) = 0) 9 7 [(0, .inr 0), (1, .inl t)] [] (fun _ h => h) (fun h1 => ?_) (fun h1 => ?_)
  · have h1 := of_decide_eq_true (tm_bne h1)
    obtain ⟨t', rfl⟩ : ∃ n : Nat, t = n := ⟨t.toNat, by omega⟩
    refine tl_go 4 13 [(0, .inr 0), (1, .inl ((t' : Nat) : Int)), (2, .inl 0), (3, .inl 0)] [] w (fun _ h => h) ?_
    have loop : ∀ k i : Nat, i + k = 34 → tl_E ta_P (d + 2) 12 13 [(0, .inr 0), (1, .inl (t' : Int)), (2, .inl ((tm_lk σ.1 t' i : Nat) : Int)), (3, .inl (i : Int))] [] w Q := by
      intro k
      induction k with
      | zero =>
        intro i hi
        refine tl_go 2 16 [(0, .inr 0), (1, .inl ((t' : Nat) : Int)), (2, .inl ((tm_lk σ.1 t' i : Nat) : Int)), (3, .inl ((i : Nat) : Int))] [.inl 34, .inl ((i : Nat) : Int)] w (fun _ h => h) ?_
        refine tl_ift (34 ≤ ((i : Nat) : Int)) 37 19 [(0, .inr 0), (1, .inl ((t' : Nat) : Int)), (2, .inl ((tm_lk σ.1 t' i : Nat) : Int)), (3, .inl ((i : Nat) : Int))] [] (fun _ h => h) (by omega) ?_
        refine tl_go 1 38 [(0, .inr 0), (1, .inl ((t' : Nat) : Int)), (2, .inl ((tm_lk σ.1 t' i : Nat) : Int)), (3, .inl ((i : Nat) : Int))] [.inl ((tm_lk σ.1 t' i : Nat) : Int)] w (fun _ h => h) ?_
        exact tl_reti rfl rfl (by unfold tm_qLocks; rw [if_pos h1, Int.toNat_natCast, show i = 34 by omega]) (hQ)
      | succ k ih =>
        intro i hi
        have hle := tm_lk_le σ.1 t' i
        refine tl_go 2 16 [(0, .inr 0), (1, .inl ((t' : Nat) : Int)), (2, .inl ((tm_lk σ.1 t' i : Nat) : Int)), (3, .inl ((i : Nat) : Int))] [.inl 34, .inl ((i : Nat) : Int)] w (fun _ h => h) ?_
        refine tl_iff (34 ≤ ((i : Nat) : Int)) 37 19 [(0, .inr 0), (1, .inl ((t' : Nat) : Int)), (2, .inl ((tm_lk σ.1 t' i : Nat) : Int)), (3, .inl ((i : Nat) : Int))] [] (fun _ h => h) (by omega) ?_
        refine tl_go 3 22 [(0, .inr 0), (1, .inl ((t' : Nat) : Int)), (2, .inl ((tm_lk σ.1 t' i : Nat) : Int)), (3, .inl ((i : Nat) : Int))] [.inl ((i : Nat) : Int), .inl ((t' : Nat) : Int), .inr 0] w (fun _ h => h) ?_
        refine tl_callV (as := [.inr 0, .inl ((t' : Nat) : Int), .inl ((i : Nat) : Int)]) (rest := []) (v := some (tm_b (decide (σ.1 (34 * t' + i) ≠ 0)))) (w' := w) rfl rfl (ta_ih d t' i (by omega) (by omega) w (hR.1 _ (by omega))) (Nat.le_of_ble_eq_true rfl) rfl rfl rfl (Nat.le_of_ble_eq_true rfl) ?_
        refine tl_if ((tm_b (decide (σ.1 (34 * t' + i) ≠ 0))) = 0) 31 28 [(0, .inr 0), (1, .inl ((t' : Nat) : Int)), (2, .inl ((tm_lk σ.1 t' i : Nat) : Int)), (3, .inl ((i : Nat) : Int))] [] (fun _ h => h) (fun hg => ?_) (fun hg => ?_)
        · have hg := of_decide_eq_false (tm_beq hg)
          refine tl_go 2 13 [(0, .inr 0), (1, .inl ((t' : Nat) : Int)), (2, .inl ((tm_lk σ.1 t' i : Nat) : Int)), (3, .inl (((i : Nat) : Int) + 1))] [] w (fun _ h => And.intro (by omega) h) ?_
          have h9 := ih (i + 1) (by omega)
          rw [tm_lk_s, if_neg hg] at h9
          exact h9
        · have hg := of_decide_eq_true (tm_bne hg)
          refine tl_go 3 13 [(0, .inr 0), (1, .inl ((t' : Nat) : Int)), (2, .inl (((tm_lk σ.1 t' i : Nat) : Int) + 1)), (3, .inl (((i : Nat) : Int) + 1))] [] w (fun _ h => And.intro (by omega) (And.intro (by omega) h)) ?_
          have h9 := ih (i + 1) (by omega)
          rw [tm_lk_s, if_pos hg] at h9
          exact h9
    exact loop 34 0 rfl
  · have h1 := of_decide_eq_false (tm_beq (Classical.not_not.mp h1))
    refine tl_go 1 8 [(0, .inr 0), (1, .inl t)] [.inl (-1)] w (fun _ h => h) ?_
    exact tl_reti rfl rfl (by unfold tm_qLocks; rw [if_neg h1]) (hQ)
def tm_oLock (σ : tm_S) (t r m : Int) : tl_R × tm_S :=
  if ¬ ((0 ≤ t ∧ t < 8) ∧ (0 ≤ r ∧ r < 34) ∧ ((10 ≤ r ∧ (m = 3 ∨ m = 5)) ∨ (r < 10 ∧ 1 ≤ m ∧ m ≤ 5))) then (.inr 1, σ)
  else if ¬ σ.2.1 t.toNat = 1 then (.inr 2, σ)
  else if ¬ tm_ann σ.1 t.toNat r.toNat m = true then (.inr 3, σ)
  else (.inl (some (((tm_req σ t.toNat r.toNat m.toNat).1 : Nat) : Int)), (tm_req σ t.toNat r.toNat m.toNat).2)

theorem ta_lock (d : Nat) (t r m : Int) {σ : tm_S} (w : tl_W) (hJ : tm_J σ) (hR : tm_RC w σ) : ∃ w', tl_Ev ta_P (d + 7) 2 [.inr 0, .inl t, .inl r, .inl m] w (tm_oLock σ t r m).1 w' ∧ tm_RC w' (tm_oLock σ t r m).2 := by
  refine tl_exi fun Q hQ => ?_
  refine tl_go 1 1 [(0, .inr 0), (1, .inl t), (2, .inl r), (3, .inl m)] [.inl t] w (fun _ h => h) ?_
  refine tl_callS (as := [.inl t]) (rest := []) (v := some (tm_b (decide (0 ≤ t ∧ t < 8)))) (w' := w) rfl rfl rfl rfl (ta_isT (d + 5) t w) (Nat.le_of_ble_eq_true rfl) rfl rfl (Nat.le_of_ble_eq_true rfl) ?_
  refine tl_if ((tm_b (decide (0 ≤ t ∧ t < 8))) = 0) 22 7 [(0, .inr 0), (1, .inl t), (2, .inl r), (3, .inl m)] [] (fun _ h => h) (fun h1 => ?_) (fun h1 => ?_)
  · have h1 := of_decide_eq_false (tm_beq h1)
    have e : tm_oLock σ t r m = (.inr 1, σ) := if_pos (fun q => h1 q.1)
    rw [e] at hQ
    exact tl_thr rfl rfl (hQ w hR)
  · have h1 := of_decide_eq_true (tm_bne h1)
    refine tl_go 1 8 [(0, .inr 0), (1, .inl t), (2, .inl r), (3, .inl m)] [.inl r] w (fun _ h => h) ?_
    refine tl_callS (as := [.inl r]) (rest := []) (v := some (tm_b (decide (0 ≤ r ∧ r < 34)))) (w' := w) rfl rfl rfl rfl (ta_isR (d + 5) r w) (Nat.le_of_ble_eq_true rfl) rfl rfl (Nat.le_of_ble_eq_true rfl) ?_
    refine tl_if ((tm_b (decide (0 ≤ r ∧ r < 34))) = 0) 22 14 [(0, .inr 0), (1, .inl t), (2, .inl r), (3, .inl m)] [] (fun _ h => h) (fun h2 => ?_) (fun h2 => ?_)
    · have h2 := of_decide_eq_false (tm_beq h2)
      have e : tm_oLock σ t r m = (.inr 1, σ) := if_pos (fun q => h2 q.2.1)
      rw [e] at hQ
      exact tl_thr rfl rfl (hQ w hR)
    · have h2 := of_decide_eq_true (tm_bne h2)
      refine tl_go 2 16 [(0, .inr 0), (1, .inl t), (2, .inl r), (3, .inl m)] [.inl m, .inl r] w (fun _ h => h) ?_
      refine tl_callS (as := [.inl r, .inl m]) (rest := []) (v := some (tm_b (decide ((10 ≤ r ∧ (m = 3 ∨ m = 5)) ∨ (r < 10 ∧ 1 ≤ m ∧ m ≤ 5))))) (w' := w) rfl rfl rfl rfl (ta_cba (d + 4) r m w) (Nat.le_of_ble_eq_true rfl) rfl rfl (Nat.le_of_ble_eq_true rfl) ?_
      refine tl_if (¬ (tm_b (decide ((10 ≤ r ∧ (m = 3 ∨ m = 5)) ∨ (r < 10 ∧ 1 ≤ m ∧ m ≤ 5)))) = 0) 30 22 [(0, .inr 0), (1, .inl t), (2, .inl r), (3, .inl m)] [] (fun _ h => h) (fun h3 => ?_) (fun h3 => ?_)
      · have h3 := of_decide_eq_true (tm_bne h3)
        obtain ⟨t', rfl⟩ : ∃ n : Nat, t = n := ⟨t.toNat, by omega⟩
        obtain ⟨r', rfl⟩ : ∃ n : Nat, r = n := ⟨r.toNat, by omega⟩
        obtain ⟨m', rfl⟩ : ∃ n : Nat, m = n := ⟨m.toNat, by omega⟩
        refine tl_go 3 35 [(0, .inr 0), (1, .inl ((t' : Nat) : Int)), (2, .inl ((r' : Nat) : Int)), (3, .inl ((m' : Nat) : Int))] [.inl ((t' : Nat) : Int), .inr 2] w (fun _ h => And.intro rfl (And.intro (by decide) (h))) ?_
        refine tl_ald (t') 8 (k := 1) rfl (by omega) rfl (by omega) ?_
        refine tl_top (y := ((σ.2.1 t' : Nat) : Int)) ((hR.2.1 t' (by omega)).1) ?_
        refine tl_go 1 37 [(0, .inr 0), (1, .inl ((t' : Nat) : Int)), (2, .inl ((r' : Nat) : Int)), (3, .inl ((m' : Nat) : Int))] [.inl 1, .inl ((σ.2.1 t' : Nat) : Int)] w (fun _ h => h) ?_
        refine tl_if (((σ.2.1 t' : Nat) : Int) = 1) 48 40 [(0, .inr 0), (1, .inl ((t' : Nat) : Int)), (2, .inl ((r' : Nat) : Int)), (3, .inl ((m' : Nat) : Int))] [] (fun _ h => h) (fun h4 => ?_) (fun h4 => ?_)
        · have h4 : σ.2.1 t' = 1 := by omega
          refine tl_go 4 52 [(0, .inr 0), (1, .inl ((t' : Nat) : Int)), (2, .inl ((r' : Nat) : Int)), (3, .inl ((m' : Nat) : Int))] [.inl ((m' : Nat) : Int), .inl ((r' : Nat) : Int), .inl ((t' : Nat) : Int), .inr 0] w (fun _ h => h) ?_
          refine tl_callV (as := [.inr 0, .inl ((t' : Nat) : Int), .inl ((r' : Nat) : Int), .inl ((m' : Nat) : Int)]) (rest := []) (v := some (tm_b (decide (tm_ann σ.1 t' r' (m' : Int) = true)))) (w' := w) rfl rfl (ta_ann (d + 3) t' r' m' (by omega) (by omega) w hR.1 hJ.1) (Nat.le_of_ble_eq_true rfl) rfl rfl rfl (Nat.le_of_ble_eq_true rfl) ?_
          refine tl_if (¬ (tm_b (decide (tm_ann σ.1 t' r' (m' : Int) = true))) = 0) 66 58 [(0, .inr 0), (1, .inl ((t' : Nat) : Int)), (2, .inl ((r' : Nat) : Int)), (3, .inl ((m' : Nat) : Int))] [] (fun _ h => h) (fun h5 => ?_) (fun h5 => ?_)
          · have h5 := of_decide_eq_true (tm_bne h5)
            obtain ⟨w1, hw1, hR1⟩ := ta_req d t' r' m' (by omega) (by omega) (by omega) w hJ hR h4
            have e : tm_oLock σ (t' : Int) (r' : Int) (m' : Int) = (.inl (some (((tm_req σ t' r' m').1 : Nat) : Int)), (tm_req σ t' r' m').2) := (by unfold tm_oLock; rw [if_neg (fun q => q ⟨h1, h2, h3⟩), Int.toNat_natCast, Int.toNat_natCast, Int.toNat_natCast, if_neg (fun q => q h4), if_neg (fun q => q h5)])
            rw [e] at hQ
            refine tl_go 4 70 [(0, .inr 0), (1, .inl ((t' : Nat) : Int)), (2, .inl ((r' : Nat) : Int)), (3, .inl ((m' : Nat) : Int))] [.inl ((m' : Nat) : Int), .inl ((r' : Nat) : Int), .inl ((t' : Nat) : Int), .inr 0] w (fun _ h => h) ?_
            refine tl_callV (as := [.inr 0, .inl ((t' : Nat) : Int), .inl ((r' : Nat) : Int), .inl ((m' : Nat) : Int)]) (rest := []) (v := some (((tm_req σ t' r' m').1 : Nat) : Int)) (w' := w1) rfl rfl (hw1) (Nat.le_of_ble_eq_true rfl) rfl rfl rfl (Nat.le_of_ble_eq_true rfl) ?_
            exact tl_reti rfl rfl (rfl) (hQ w1 hR1)
          · have h5 := of_decide_eq_false (tm_beq (Classical.not_not.mp h5))
            have e : tm_oLock σ (t' : Int) (r' : Int) (m' : Int) = (.inr 3, σ) := (by unfold tm_oLock; rw [if_neg (fun q => q ⟨h1, h2, h3⟩), Int.toNat_natCast, Int.toNat_natCast, Int.toNat_natCast, if_neg (fun q => q h4), if_pos h5])
            rw [e] at hQ
            exact tl_thr rfl rfl (hQ w hR)
        · have h4 : ¬ σ.2.1 t' = 1 := by omega
          have e : tm_oLock σ (t' : Int) (r' : Int) (m' : Int) = (.inr 2, σ) := (by unfold tm_oLock; rw [if_neg (fun q => q ⟨h1, h2, h3⟩), Int.toNat_natCast, Int.toNat_natCast, Int.toNat_natCast, if_pos h4])
          rw [e] at hQ
          exact tl_thr rfl rfl (hQ w hR)
      · have h3 := of_decide_eq_false (tm_beq (Classical.not_not.mp h3))
        have e : tm_oLock σ t r m = (.inr 1, σ) := if_pos (fun q => h3 q.2.2)
        rw [e] at hQ
        exact tl_thr rfl rfl (hQ w hR)
end
section
/-! 18.end: the class's begin, unlock, escalate, end, printed by a7.py -/
def tm_bg (σ : tm_S) (t : Nat) : tm_S := (σ.1, va_up σ.2.1 t 1, σ.2.2.1, σ.2.2.2)
def tm_oBegin (σ : tm_S) : Int × tm_S := match (List.range 8).find? (fun t => σ.2.1 t == 0) with
  | some t => ((t : Int), tm_bg σ t)
  | none => (-1, σ)
theorem tm_oBegin_s {σ : tm_S} {t : Nat} (ht : t < 8) (h0 : σ.2.1 t = 0) (h : ∀ u, u < t → σ.2.1 u ≠ 0) : tm_oBegin σ = ((t : Int), tm_bg σ t) := by
  have e : (List.range 8).find? (fun t => σ.2.1 t == 0) = some t := List.find?_range_eq_some.mpr ⟨by rw [h0]; rfl, List.mem_range.mpr ht, fun u hu => by simp [h u hu]⟩
  unfold tm_oBegin
  rw [e]
theorem tm_oBegin_n {σ : tm_S} (h : ∀ u, u < 8 → σ.2.1 u ≠ 0) : tm_oBegin σ = (-1, σ) := by
  have e : (List.range 8).find? (fun t => σ.2.1 t == 0) = none := List.find?_eq_none.mpr (fun u hu => by simp [h u (List.mem_range.mp hu)])
  unfold tm_oBegin
  rw [e]
theorem tm_S_RC {w : tl_W} {σ : tm_S} (hR : tm_RC w σ) (t x : Nat) : tm_RC (tl_set w 1 t (x : Int)) (σ.1, va_up σ.2.1 t x, σ.2.2.1, σ.2.2.2) := by
  refine ⟨fun i hi => ?_, fun u hu => ⟨?_, ?_⟩, fun r hr k u hk => ?_, fun j hj => ?_⟩
  · rw [tl_set_o (by decide)]; exact hR.1 i hi
  · rw [tl_set_s]
    show va_up (w 1) t _ u = ((va_up σ.2.1 t x u : Nat) : Int)
    by_cases e : u = t
    · rw [e, va_up_s, va_up_s]
    · rw [va_up_n _ _ e, va_up_n _ _ e]; exact (hR.2.1 u hu).1
  · rw [tl_set_o (by decide)]; exact (hR.2.1 u hu).2
  · rw [tl_set_o (by decide)]; exact hR.2.2.1 r hr k u hk
  · rw [tl_set_o (by decide)]; exact hR.2.2.2 j hj

theorem ta_begin (d : Nat) {σ : tm_S} (w : tl_W) (hJ : tm_J σ) (hR : tm_RC w σ) : ∃ w', tl_Ev ta_P (d + 1) 1 [.inr 0] w (.inl (some (tm_oBegin σ).1)) w' ∧ tm_RC w' (tm_oBegin σ).2 := by
  refine tl_exi fun Q hQ => ?_
  refine tl_go 2 2 [(0, .inr 0), (1, .inl 0)] [] w (fun _ h => h) ?_
  have loop : ∀ k i : Nat, i + k = 8 → (∀ u, u < i → σ.2.1 u ≠ 0) → tl_E ta_P d 1 2 [(0, .inr 0), (1, .inl (i : Int))] [] w Q := by
    intro k
    induction k with
    | zero =>
      intro i hi hall
      rw [tm_oBegin_n (fun u hu => hall u (by omega))] at hQ
      refine tl_go 2 5 [(0, .inr 0), (1, .inl ((i : Nat) : Int))] [.inl 8, .inl ((i : Nat) : Int)] w (fun _ h => h) ?_
      refine tl_ift (8 ≤ ((i : Nat) : Int)) 32 8 [(0, .inr 0), (1, .inl ((i : Nat) : Int))] [] (fun _ h => h) (by omega) ?_
      refine tl_go 1 33 [(0, .inr 0), (1, .inl ((i : Nat) : Int))] [.inl (-1)] w (fun _ h => h) ?_
      exact tl_reti rfl rfl (rfl) (hQ w hR)
    | succ k ih =>
      intro i hi hall
      refine tl_go 2 5 [(0, .inr 0), (1, .inl ((i : Nat) : Int))] [.inl 8, .inl ((i : Nat) : Int)] w (fun _ h => h) ?_
      refine tl_iff (8 ≤ ((i : Nat) : Int)) 32 8 [(0, .inr 0), (1, .inl ((i : Nat) : Int))] [] (fun _ h => h) (by omega) ?_
      refine tl_go 3 13 [(0, .inr 0), (1, .inl ((i : Nat) : Int))] [.inl ((i : Nat) : Int), .inr 2] w (fun _ h => And.intro rfl (And.intro (by decide) (h))) ?_
      refine tl_ald (i) 8 (k := 1) rfl (by omega) rfl (by omega) ?_
      refine tl_top (y := ((σ.2.1 i : Nat) : Int)) ((hR.2.1 i (by omega)).1) ?_
      refine tl_if (¬ ((σ.2.1 i : Nat) : Int) = 0) 26 17 [(0, .inr 0), (1, .inl ((i : Nat) : Int))] [] (fun _ h => h) (fun hc => ?_) (fun hc => ?_)
      · refine tl_go 2 2 [(0, .inr 0), (1, .inl (((i : Nat) : Int) + 1))] [] w (fun _ h => And.intro (by omega) h) ?_
        refine ih (i + 1) (by omega) (fun u hu => ?_)
        by_cases e : u = i
        · rw [e]; omega
        · exact hall u (by omega)
      · rw [tm_oBegin_s (t := i) (by omega) (by omega) hall] at hQ
        refine tl_go 4 23 [(0, .inr 0), (1, .inl ((i : Nat) : Int))] [.inl 1, .inl ((i : Nat) : Int), .inr 2] w (fun _ h => And.intro rfl (And.intro (by decide) (h))) ?_
        refine tl_ast (i) 8 (k := 1) rfl (by decide) (by omega) rfl (by omega) ?_
        refine tl_go 1 25 [(0, .inr 0), (1, .inl ((i : Nat) : Int))] [.inl ((i : Nat) : Int)] (tl_set w 1 (i) 1) (fun _ h => h) ?_
        exact tl_reti rfl rfl (rfl) (hQ _ (tm_S_RC hR i 1))
  exact loop 8 0 rfl (fun u hu => absurd hu (Nat.not_lt_zero _))
def tm_oUnlock (σ : tm_S) (t r : Int) : tl_R × tm_S :=
  if ¬ ((0 ≤ t ∧ t < 8) ∧ (0 ≤ r ∧ r < 34)) then (.inr 1, σ)
  else if ¬ (σ.2.1 t.toNat = 1 ∧ σ.1 (34 * t.toNat + r.toNat) ≠ 0) then (.inr 2, σ)
  else if tm_hc σ.1 t.toNat r.toNat = true then (.inr 3, σ)
  else (.inl none, (tm_serve (tm_sm σ (34 * t.toNat + r.toNat) 0) r.toNat).2)

theorem ta_unlock (d : Nat) (t r : Int) {σ : tm_S} (w : tl_W) (hJ : tm_J σ) (hR : tm_RC w σ) : ∃ w', tl_Ev ta_P (d + 6) 3 [.inr 0, .inl t, .inl r] w (tm_oUnlock σ t r).1 w' ∧ tm_RC w' (tm_oUnlock σ t r).2 := by
  refine tl_exi fun Q hQ => ?_
  refine tl_go 1 1 [(0, .inr 0), (1, .inl t), (2, .inl r)] [.inl t] w (fun _ h => h) ?_
  refine tl_callS (as := [.inl t]) (rest := []) (v := some (tm_b (decide (0 ≤ t ∧ t < 8)))) (w' := w) rfl rfl rfl rfl (ta_isT (d + 4) t w) (Nat.le_of_ble_eq_true rfl) rfl rfl (Nat.le_of_ble_eq_true rfl) ?_
  refine tl_if ((tm_b (decide (0 ≤ t ∧ t < 8))) = 0) 14 7 [(0, .inr 0), (1, .inl t), (2, .inl r)] [] (fun _ h => h) (fun h1 => ?_) (fun h1 => ?_)
  · have h1 := of_decide_eq_false (tm_beq h1)
    have e : tm_oUnlock σ t r = (.inr 1, σ) := if_pos (fun q => h1 q.1)
    rw [e] at hQ
    exact tl_thr rfl rfl (hQ w hR)
  · have h1 := of_decide_eq_true (tm_bne h1)
    refine tl_go 1 8 [(0, .inr 0), (1, .inl t), (2, .inl r)] [.inl r] w (fun _ h => h) ?_
    refine tl_callS (as := [.inl r]) (rest := []) (v := some (tm_b (decide (0 ≤ r ∧ r < 34)))) (w' := w) rfl rfl rfl rfl (ta_isR (d + 4) r w) (Nat.le_of_ble_eq_true rfl) rfl rfl (Nat.le_of_ble_eq_true rfl) ?_
    refine tl_if (¬ (tm_b (decide (0 ≤ r ∧ r < 34))) = 0) 22 14 [(0, .inr 0), (1, .inl t), (2, .inl r)] [] (fun _ h => h) (fun h2 => ?_) (fun h2 => ?_)
    · have h2 := of_decide_eq_true (tm_bne h2)
      obtain ⟨t', rfl⟩ : ∃ n : Nat, t = n := ⟨t.toNat, by omega⟩
      obtain ⟨r', rfl⟩ : ∃ n : Nat, r = n := ⟨r.toNat, by omega⟩
      refine tl_go 3 27 [(0, .inr 0), (1, .inl ((t' : Nat) : Int)), (2, .inl ((r' : Nat) : Int))] [.inl ((t' : Nat) : Int), .inr 2] w (fun _ h => And.intro rfl (And.intro (by decide) (h))) ?_
      refine tl_ald (t') 8 (k := 1) rfl (by omega) rfl (by omega) ?_
      refine tl_top (y := ((σ.2.1 t' : Nat) : Int)) ((hR.2.1 t' (by omega)).1) ?_
      refine tl_go 1 29 [(0, .inr 0), (1, .inl ((t' : Nat) : Int)), (2, .inl ((r' : Nat) : Int))] [.inl 1, .inl ((σ.2.1 t' : Nat) : Int)] w (fun _ h => h) ?_
      refine tl_if (¬ ((σ.2.1 t' : Nat) : Int) = 1) 41 32 [(0, .inr 0), (1, .inl ((t' : Nat) : Int)), (2, .inl ((r' : Nat) : Int))] [] (fun _ h => h) (fun h3 => ?_) (fun h3 => ?_)
      · have e : tm_oUnlock σ (t' : Int) (r' : Int) = (.inr 2, σ) := (by unfold tm_oUnlock; rw [if_neg (fun q => q ⟨h1, h2⟩), Int.toNat_natCast, Int.toNat_natCast, if_pos (fun q => h3 (by rw [q.1]; rfl))])
        rw [e] at hQ
        exact tl_thr rfl rfl (hQ w hR)
      · have h3 : σ.2.1 t' = 1 := by omega
        refine tl_go 3 35 [(0, .inr 0), (1, .inl ((t' : Nat) : Int)), (2, .inl ((r' : Nat) : Int))] [.inl ((r' : Nat) : Int), .inl ((t' : Nat) : Int), .inr 0] w (fun _ h => h) ?_
        refine tl_callV (as := [.inr 0, .inl ((t' : Nat) : Int), .inl ((r' : Nat) : Int)]) (rest := []) (v := some (tm_b (decide (σ.1 (34 * t' + r') ≠ 0)))) (w' := w) rfl rfl (ta_ih (d + 3) t' r' (by omega) (by omega) w (hR.1 _ (by omega))) (Nat.le_of_ble_eq_true rfl) rfl rfl rfl (Nat.le_of_ble_eq_true rfl) ?_
        refine tl_if (¬ (tm_b (decide (σ.1 (34 * t' + r') ≠ 0))) = 0) 49 41 [(0, .inr 0), (1, .inl ((t' : Nat) : Int)), (2, .inl ((r' : Nat) : Int))] [] (fun _ h => h) (fun h4 => ?_) (fun h4 => ?_)
        · have h4 := of_decide_eq_true (tm_bne h4)
          refine tl_go 3 52 [(0, .inr 0), (1, .inl ((t' : Nat) : Int)), (2, .inl ((r' : Nat) : Int))] [.inl ((r' : Nat) : Int), .inl ((t' : Nat) : Int), .inr 0] w (fun _ h => h) ?_
          refine tl_callV (as := [.inr 0, .inl ((t' : Nat) : Int), .inl ((r' : Nat) : Int)]) (rest := []) (v := some (tm_b (decide (tm_hc σ.1 t' r' = true)))) (w' := w) rfl rfl (ta_hc (d + 2) t' r' (by omega) (by omega) w hR.1 hJ.1) (Nat.le_of_ble_eq_true rfl) rfl rfl rfl (Nat.le_of_ble_eq_true rfl) ?_
          refine tl_if ((tm_b (decide (tm_hc σ.1 t' r' = true))) = 0) 66 58 [(0, .inr 0), (1, .inl ((t' : Nat) : Int)), (2, .inl ((r' : Nat) : Int))] [] (fun _ h => h) (fun h5 => ?_) (fun h5 => ?_)
          · have h5 := of_decide_eq_false (tm_beq h5)
            obtain ⟨w1, hw1, hR1⟩ := ta_gu d t' r' (by omega) (by omega) w (tm_sm_J hJ (by omega) (by omega) (by omega) (by omega)) hR
            have e : tm_oUnlock σ (t' : Int) (r' : Int) = (.inl none, (tm_serve (tm_sm σ (34 * t' + r') 0) r').2) := (by unfold tm_oUnlock; rw [if_neg (fun q => q ⟨h1, h2⟩), Int.toNat_natCast, Int.toNat_natCast, if_neg (fun q => q ⟨h3, h4⟩), if_neg h5])
            rw [e] at hQ
            refine tl_go 3 69 [(0, .inr 0), (1, .inl ((t' : Nat) : Int)), (2, .inl ((r' : Nat) : Int))] [.inl ((r' : Nat) : Int), .inl ((t' : Nat) : Int), .inr 0] w (fun _ h => h) ?_
            refine tl_callV (as := [.inr 0, .inl ((t' : Nat) : Int), .inl ((r' : Nat) : Int)]) (rest := []) (v := some (((tm_serve (tm_sm σ (34 * t' + r') 0) r').1 : Nat) : Int)) (w' := w1) rfl rfl (hw1) (Nat.le_of_ble_eq_true rfl) rfl rfl rfl (Nat.le_of_ble_eq_true rfl) ?_
            refine tl_go 1 73 [(0, .inr 0), (1, .inl ((t' : Nat) : Int)), (2, .inl ((r' : Nat) : Int))] [] w1 (fun _ h => h) ?_
            exact tl_retv rfl rfl (hQ w1 hR1)
          · have h5 := of_decide_eq_true (tm_bne h5)
            have e : tm_oUnlock σ (t' : Int) (r' : Int) = (.inr 3, σ) := (by unfold tm_oUnlock; rw [if_neg (fun q => q ⟨h1, h2⟩), Int.toNat_natCast, Int.toNat_natCast, if_neg (fun q => q ⟨h3, h4⟩), if_pos h5])
            rw [e] at hQ
            exact tl_thr rfl rfl (hQ w hR)
        · have h4 := of_decide_eq_false (tm_beq (Classical.not_not.mp h4))
          have e : tm_oUnlock σ (t' : Int) (r' : Int) = (.inr 2, σ) := (by unfold tm_oUnlock; rw [if_neg (fun q => q ⟨h1, h2⟩), Int.toNat_natCast, Int.toNat_natCast, if_pos (fun q => h4 q.2)])
          rw [e] at hQ
          exact tl_thr rfl rfl (hQ w hR)
    · have h2 := of_decide_eq_false (tm_beq (Classical.not_not.mp h2))
      have e : tm_oUnlock σ t r = (.inr 1, σ) := if_pos (fun q => h2 q.2)
      rw [e] at hQ
      exact tl_thr rfl rfl (hQ w hR)
theorem tm_serve_J {σ : tm_S} {r : Nat} (hr : r < 34) (h : tm_J σ) : tm_J (tm_serve σ r).2 ∧ tm_H (tm_serve σ r).2 r ∧ (tm_serve σ r).1 ≤ 8 ∧ (∀ u c, c < 34 → c ≠ r → (tm_serve σ r).2.1 (34 * u + c) = σ.1 (34 * u + c)) ∧ (∀ c, c ≠ r → (tm_serve σ r).2.2.2.2 c = σ.2.2.2 c) ∧ (∀ u, σ.2.1 u ≠ r + 2 → (tm_serve σ r).2.2.1 u = σ.2.1 u ∧ (tm_serve σ r).2.2.2.1 u = σ.2.2.1 u) := by
  obtain ⟨a, b, c, d, e, f⟩ := tm_sv_J 8 σ r hr h
  exact ⟨a, b (tm_len h hr), c, d, e, f⟩
/-- t gives up at n -/
def tm_gv (σ : tm_S) (t n : Nat) : Nat × tm_S := tm_serve (tm_sm σ (34 * t + n) 0) n
def tm_gb (t r : Nat) : Nat → tm_S → tm_S
  | 0, σ => σ
  | n + 1, σ => tm_gb t r n (if tm_bl n r = true ∧ σ.1 (34 * t + n) ≠ 0 then (tm_gv σ t n).2 else σ)
theorem tm_gb_s (t r n : Nat) (σ : tm_S) : tm_gb t r (n + 1) σ = tm_gb t r n (if tm_bl n r = true ∧ σ.1 (34 * t + n) ≠ 0 then (tm_gv σ t n).2 else σ) := rfl
theorem tm_gb_0 (t : Nat) {r : Nat} (hr : r < 34) : ∀ (n : Nat) (σ : tm_S), n ≤ r + 1 → tm_gb t r n σ = σ := by
  intro n
  induction n with
  | zero => exact fun _ _ => rfl
  | succ n ih =>
    intro σ hn
    rw [tm_gb_s, if_neg (fun q => by have := tm_bl_lt n (by omega) r hr q.1; omega)]
    exact ih σ (by omega)
theorem tm_gv_J {σ : tm_S} (h : tm_J σ) {t n : Nat} (ht : t < 8) (hn : n < 34) (hs : σ.2.1 t < 2) : tm_J (tm_gv σ t n).2 ∧ (tm_gv σ t n).1 ≤ 8 ∧ (tm_gv σ t n).2.2.1 t = σ.2.1 t ∧ (∀ u c, c < 34 → c ≠ n → (tm_gv σ t n).2.1 (34 * u + c) = σ.1 (34 * u + c)) := by
  have h0 := tm_sm_J h ht hn (Nat.zero_le 5) (by omega)
  obtain ⟨a, _, c, d, _, f⟩ := tm_serve_J hn h0
  refine ⟨a, c, (f t (by show σ.2.1 t ≠ n + 2; omega)).1, fun u c' hc' hne => ?_⟩
  refine (d u c' hc' hne).trans ?_
  show va_up σ.1 (34 * t + n) 0 (34 * u + c') = _
  rw [va_up_n _ _ (by omega)]
theorem tm_cb_row {M M' : Nat → Nat} {t r : Nat} : ∀ n, (∀ c, c < n → M' (34 * t + c) = M (34 * t + c)) → tm_cb M' t r n = tm_cb M t r n := by
  intro n
  induction n with
  | zero => exact fun _ => rfl
  | succ n ih =>
    intro h
    rw [tm_cb_s, tm_cb_s, ih (fun c hc => h c (by omega)), h n (by omega)]

theorem ta_gub (d t r : Nat) (ht : t < 8) (hr : r < 34) {σ : tm_S} (w : tl_W) (hJ : tm_J σ) (hR : tm_RC w σ) (hs : σ.2.1 t = 1) : ∃ w', tl_Ev ta_P (d + 6) 49 [.inr 0, .inl (t : Int), .inl (r : Int)] w (.inl (some ((tm_cb σ.1 t r 34 : Nat) : Int))) w' ∧ tm_RC w' (tm_gb t r 34 σ) := by
  refine tl_exi fun Q hQ => ?_
  refine tl_go 4 6 [(0, .inr 0), (1, .inl ((t : Nat) : Int)), (2, .inl ((r : Nat) : Int)), (3, .inl 0), (4, .inl 33)] [] w (fun _ h => h) ?_
  have loop : ∀ (n c : Nat) (σ : tm_S) (w : tl_W), c + n ≤ 34 → tm_J σ → tm_RC w σ → σ.2.1 t = 1 → (∀ w', tm_RC w' (tm_gb t r n σ) → Q (.inl (some ((c + tm_cb σ.1 t r n : Nat) : Int))) w') → tl_E ta_P (d + 5) 49 6 [(0, .inr 0), (1, .inl (t : Int)), (2, .inl (r : Int)), (3, .inl (c : Int)), (4, .inl ((n : Int) - 1))] [] w Q := by
    intro n
    induction n with
    | zero =>
      intro c σ w hc hJ hR hs hQ'
      refine tl_go 2 9 [(0, .inr 0), (1, .inl ((t : Nat) : Int)), (2, .inl ((r : Nat) : Int)), (3, .inl ((c : Nat) : Int)), (4, .inl (((0 : Nat) : Int) - 1))] [.inl ((r : Nat) : Int), .inl (((0 : Nat) : Int) - 1)] w (fun _ h => h) ?_
      refine tl_ift ((((0 : Nat) : Int) - 1) ≤ ((r : Nat) : Int)) 48 12 [(0, .inr 0), (1, .inl ((t : Nat) : Int)), (2, .inl ((r : Nat) : Int)), (3, .inl ((c : Nat) : Int)), (4, .inl (((0 : Nat) : Int) - 1))] [] (fun _ h => h) (by omega) ?_
      refine tl_go 1 49 [(0, .inr 0), (1, .inl ((t : Nat) : Int)), (2, .inl ((r : Nat) : Int)), (3, .inl ((c : Nat) : Int)), (4, .inl (((0 : Nat) : Int) - 1))] [.inl ((c : Nat) : Int)] w (fun _ h => h) ?_
      exact tl_reti rfl rfl (by show (c : Int) = ((c + 0 : Nat) : Int); omega) (hQ' w hR)
    | succ n ih =>
      intro c σ w hc hJ hR hs hQ'
      refine tl_loc (L' := [(0, .inr 0), (1, .inl ((t : Nat) : Int)), (2, .inl ((r : Nat) : Int)), (3, .inl ((c : Nat) : Int)), (4, .inl ((n : Nat) : Int))]) (by rw [show (((n + 1 : Nat) : Int) - 1) = (n : Int) by omega]) ?_
      refine tl_go 2 9 [(0, .inr 0), (1, .inl ((t : Nat) : Int)), (2, .inl ((r : Nat) : Int)), (3, .inl ((c : Nat) : Int)), (4, .inl ((n : Nat) : Int))] [.inl ((r : Nat) : Int), .inl ((n : Nat) : Int)] w (fun _ h => h) ?_
      refine tl_if (((n : Nat) : Int) ≤ ((r : Nat) : Int)) 48 12 [(0, .inr 0), (1, .inl ((t : Nat) : Int)), (2, .inl ((r : Nat) : Int)), (3, .inl ((c : Nat) : Int)), (4, .inl ((n : Nat) : Int))] [] (fun _ h => h) (fun h1 => ?_) (fun h1 => ?_)
      · rw [tm_gb_0 t hr (n + 1) σ (by omega), tm_cb_0 σ.1 t hr (n + 1) (by omega)] at hQ'
        refine tl_go 1 49 [(0, .inr 0), (1, .inl ((t : Nat) : Int)), (2, .inl ((r : Nat) : Int)), (3, .inl ((c : Nat) : Int)), (4, .inl ((n : Nat) : Int))] [.inl ((c : Nat) : Int)] w (fun _ h => h) ?_
        exact tl_reti rfl rfl (by show (c : Int) = ((c + 0 : Nat) : Int); omega) (hQ' w hR)
      · refine tl_go 2 15 [(0, .inr 0), (1, .inl ((t : Nat) : Int)), (2, .inl ((r : Nat) : Int)), (3, .inl ((c : Nat) : Int)), (4, .inl ((n : Nat) : Int))] [.inl ((r : Nat) : Int), .inl ((n : Nat) : Int)] w (fun _ h => h) ?_
        refine tl_callS (as := [.inl ((n : Nat) : Int), .inl ((r : Nat) : Int)]) (rest := []) (v := some (tm_b (decide (tm_bl n r = true)))) (w' := w) rfl rfl rfl rfl (ta_bl (d + 3) n r (by omega) hr w) (Nat.le_of_ble_eq_true rfl) rfl rfl (Nat.le_of_ble_eq_true rfl) ?_
        refine tl_if ((tm_b (decide (tm_bl n r = true))) = 0) 42 21 [(0, .inr 0), (1, .inl ((t : Nat) : Int)), (2, .inl ((r : Nat) : Int)), (3, .inl ((c : Nat) : Int)), (4, .inl ((n : Nat) : Int))] [] (fun _ h => h) (fun h2 => ?_) (fun h2 => ?_)
        · have h2 := of_decide_eq_false (tm_beq h2)
          rw [tm_gb_s, tm_cb_s, if_neg (fun q => h2 q.1), if_neg (fun q => h2 q.1), Nat.add_zero] at hQ'
          refine tl_go 2 6 [(0, .inr 0), (1, .inl ((t : Nat) : Int)), (2, .inl ((r : Nat) : Int)), (3, .inl ((c : Nat) : Int)), (4, .inl (((n : Nat) : Int) + (-1)))] [] w (fun _ h => And.intro (by omega) h) ?_
          exact ih c σ w (by omega) hJ hR hs hQ'
        · have h2 := of_decide_eq_true (tm_bne h2)
          refine tl_go 3 25 [(0, .inr 0), (1, .inl ((t : Nat) : Int)), (2, .inl ((r : Nat) : Int)), (3, .inl ((c : Nat) : Int)), (4, .inl ((n : Nat) : Int))] [.inl ((n : Nat) : Int), .inl ((t : Nat) : Int), .inr 0] w (fun _ h => h) ?_
          refine tl_callV (as := [.inr 0, .inl ((t : Nat) : Int), .inl ((n : Nat) : Int)]) (rest := []) (v := some (tm_b (decide (σ.1 (34 * t + n) ≠ 0)))) (w' := w) rfl rfl (ta_ih (d + 3) t n ht (by omega) w (hR.1 _ (by omega))) (Nat.le_of_ble_eq_true rfl) rfl rfl rfl (Nat.le_of_ble_eq_true rfl) ?_
          refine tl_if ((tm_b (decide (σ.1 (34 * t + n) ≠ 0))) = 0) 42 31 [(0, .inr 0), (1, .inl ((t : Nat) : Int)), (2, .inl ((r : Nat) : Int)), (3, .inl ((c : Nat) : Int)), (4, .inl ((n : Nat) : Int))] [] (fun _ h => h) (fun h3 => ?_) (fun h3 => ?_)
          · have h3 := of_decide_eq_false (tm_beq h3)
            rw [tm_gb_s, tm_cb_s, if_neg (fun q => h3 q.2), if_neg (fun q => h3 q.2), Nat.add_zero] at hQ'
            refine tl_go 2 6 [(0, .inr 0), (1, .inl ((t : Nat) : Int)), (2, .inl ((r : Nat) : Int)), (3, .inl ((c : Nat) : Int)), (4, .inl (((n : Nat) : Int) + (-1)))] [] w (fun _ h => And.intro (by omega) h) ?_
            exact ih c σ w (by omega) hJ hR hs hQ'
          · have h3 := of_decide_eq_true (tm_bne h3)
            obtain ⟨g1, g2, g3, g4⟩ := tm_gv_J hJ (n := n) ht (by omega) (by omega)
            obtain ⟨w1, hw1, hR1⟩ := ta_gu d t n ht (by omega) w (tm_sm_J hJ ht (by omega) (Nat.zero_le 5) (by omega)) hR
            rw [tm_gb_s, tm_cb_s, if_pos ⟨h2, h3⟩, if_pos ⟨h2, h3⟩] at hQ'
            have ecb : tm_cb (tm_gv σ t n).2.1 t r n = tm_cb σ.1 t r n := tm_cb_row n (fun c hc => g4 t c (by omega) (by omega))
            refine tl_go 3 35 [(0, .inr 0), (1, .inl ((t : Nat) : Int)), (2, .inl ((r : Nat) : Int)), (3, .inl ((c : Nat) : Int)), (4, .inl ((n : Nat) : Int))] [.inl ((n : Nat) : Int), .inl ((t : Nat) : Int), .inr 0] w (fun _ h => h) ?_
            refine tl_callV (as := [.inr 0, .inl ((t : Nat) : Int), .inl ((n : Nat) : Int)]) (rest := []) (v := some (((tm_gv σ t n).1 : Nat) : Int)) (w' := w1) rfl rfl (hw1) (Nat.le_of_ble_eq_true rfl) rfl rfl rfl (Nat.le_of_ble_eq_true rfl) ?_
            refine tl_go 4 6 [(0, .inr 0), (1, .inl ((t : Nat) : Int)), (2, .inl ((r : Nat) : Int)), (3, .inl (((c : Nat) : Int) + 1)), (4, .inl (((n : Nat) : Int) + (-1)))] [] w1 (fun _ h => And.intro (by omega) (And.intro (by omega) h)) ?_
            exact ih (c + 1) (tm_gv σ t n).2 w1 (by omega) g1 hR1 (g3.trans hs) (fun w' hw' => by rw [ecb, show c + 1 + tm_cb σ.1 t r n = c + (tm_cb σ.1 t r n + 1) by omega]; exact hQ' w' hw')
  exact loop 34 0 σ w (by omega) hJ hR hs (fun w' hw' => by rw [Nat.zero_add]; exact hQ w' hw')
def tm_ew (σ : tm_S) (t r : Nat) : Nat := tm_jn (if tm_ww σ.1 t r = true then 5 else 3) (σ.1 (34 * t + r))
def tm_oEsc (σ : tm_S) (t r : Int) : tl_R × tm_S :=
  if ¬ ((0 ≤ t ∧ t < 8) ∧ (1 ≤ r ∧ r < 10)) then (.inr 1, σ)
  else if ¬ σ.2.1 t.toNat = 1 then (.inr 2, σ)
  else if tm_cb σ.1 t.toNat r.toNat 34 = 0 then (.inl (some 0), σ)
  else if ¬ tm_fits σ.1 t.toNat r.toNat (tm_ew σ t.toNat r.toNat) = true then (.inl (some (-1)), σ)
  else (.inl (some (tm_cb σ.1 t.toNat r.toNat 34 : Nat)), (tm_serve (tm_gb t.toNat r.toNat 34 (tm_sm σ (34 * t.toNat + r.toNat) (tm_ew σ t.toNat r.toNat))) r.toNat).2)
theorem tm_gb_J {t r : Nat} (ht : t < 8) : ∀ (n : Nat) (σ : tm_S), n ≤ 34 → tm_J σ → σ.2.1 t = 1 → tm_J (tm_gb t r n σ) ∧ (tm_gb t r n σ).2.1 t = 1 := by
  intro n
  induction n with
  | zero => exact fun σ _ h hs => ⟨h, hs⟩
  | succ n ih =>
    intro σ hn h hs
    rw [tm_gb_s]
    by_cases hc : tm_bl n r = true ∧ σ.1 (34 * t + n) ≠ 0
    · rw [if_pos hc]
      obtain ⟨g1, _, g3, _⟩ := tm_gv_J h (n := n) ht (by omega) (by omega)
      exact ih _ (by omega) g1 (g3.trans hs)
    · rw [if_neg hc]
      exact ih _ (by omega) h hs
theorem tm_cb_sm {σ : tm_S} {t r m : Nat} (hr : r < 34) : tm_cb (tm_sm σ (34 * t + r) m).1 t r 34 = tm_cb σ.1 t r 34 := by
  have key : ∀ n, n ≤ 34 → tm_cb (tm_sm σ (34 * t + r) m).1 t r n = tm_cb σ.1 t r n := by
    intro n
    induction n with
    | zero => exact fun _ => rfl
    | succ n ih =>
      intro hn
      rw [tm_cb_s, tm_cb_s, ih (by omega)]
      by_cases e : n = r
      · have hf : ¬ tm_bl n r = true := fun q => by have := tm_bl_lt n (by omega) r hr q; omega
        rw [if_neg (fun q => hf q.1), if_neg (fun q => hf q.1)]
      · have : (tm_sm σ (34 * t + r) m).1 (34 * t + n) = σ.1 (34 * t + n) := by
          show va_up σ.1 (34 * t + r) m (34 * t + n) = _
          rw [va_up_n _ _ (by omega)]
        rw [this]
  exact key 34 (Nat.le_refl _)

theorem ta_esc (d : Nat) (t r : Int) {σ : tm_S} (w : tl_W) (hJ : tm_J σ) (hR : tm_RC w σ) : ∃ w', tl_Ev ta_P (d + 7) 4 [.inr 0, .inl t, .inl r] w (tm_oEsc σ t r).1 w' ∧ tm_RC w' (tm_oEsc σ t r).2 := by
  refine tl_exi fun Q hQ => ?_
  refine tl_go 1 1 [(0, .inr 0), (1, .inl t), (2, .inl r)] [.inl t] w (fun _ h => h) ?_
  refine tl_callS (as := [.inl t]) (rest := []) (v := some (tm_b (decide (0 ≤ t ∧ t < 8)))) (w' := w) rfl rfl rfl rfl (ta_isT (d + 5) t w) (Nat.le_of_ble_eq_true rfl) rfl rfl (Nat.le_of_ble_eq_true rfl) ?_
  refine tl_if ((tm_b (decide (0 ≤ t ∧ t < 8))) = 0) 14 7 [(0, .inr 0), (1, .inl t), (2, .inl r)] [] (fun _ h => h) (fun h1 => ?_) (fun h1 => ?_)
  · have h1 := of_decide_eq_false (tm_beq h1)
    have e : tm_oEsc σ t r = (.inr 1, σ) := if_pos (fun q => h1 q.1)
    rw [e] at hQ
    exact tl_thr rfl rfl (hQ w hR)
  · have h1 := of_decide_eq_true (tm_bne h1)
    refine tl_go 1 8 [(0, .inr 0), (1, .inl t), (2, .inl r)] [.inl r] w (fun _ h => h) ?_
    refine tl_callS (as := [.inl r]) (rest := []) (v := some (tm_b (decide (1 ≤ r ∧ r < 10)))) (w' := w) rfl rfl rfl rfl (ta_isTP (d + 5) r w) (Nat.le_of_ble_eq_true rfl) rfl rfl (Nat.le_of_ble_eq_true rfl) ?_
    refine tl_if (¬ (tm_b (decide (1 ≤ r ∧ r < 10))) = 0) 22 14 [(0, .inr 0), (1, .inl t), (2, .inl r)] [] (fun _ h => h) (fun h2 => ?_) (fun h2 => ?_)
    · have h2 := of_decide_eq_true (tm_bne h2)
      obtain ⟨t', rfl⟩ : ∃ n : Nat, t = n := ⟨t.toNat, by omega⟩
      obtain ⟨r', rfl⟩ : ∃ n : Nat, r = n := ⟨r.toNat, by omega⟩
      refine tl_go 3 27 [(0, .inr 0), (1, .inl ((t' : Nat) : Int)), (2, .inl ((r' : Nat) : Int))] [.inl ((t' : Nat) : Int), .inr 2] w (fun _ h => And.intro rfl (And.intro (by decide) (h))) ?_
      refine tl_ald (t') 8 (k := 1) rfl (by omega) rfl (by omega) ?_
      refine tl_top (y := ((σ.2.1 t' : Nat) : Int)) ((hR.2.1 t' (by omega)).1) ?_
      refine tl_go 1 29 [(0, .inr 0), (1, .inl ((t' : Nat) : Int)), (2, .inl ((r' : Nat) : Int))] [.inl 1, .inl ((σ.2.1 t' : Nat) : Int)] w (fun _ h => h) ?_
      refine tl_if (((σ.2.1 t' : Nat) : Int) = 1) 40 32 [(0, .inr 0), (1, .inl ((t' : Nat) : Int)), (2, .inl ((r' : Nat) : Int))] [] (fun _ h => h) (fun h3 => ?_) (fun h3 => ?_)
      · have h3 : σ.2.1 t' = 1 := by omega
        refine tl_go 3 43 [(0, .inr 0), (1, .inl ((t' : Nat) : Int)), (2, .inl ((r' : Nat) : Int))] [.inl ((r' : Nat) : Int), .inl ((t' : Nat) : Int), .inr 0] w (fun _ h => h) ?_
        refine tl_callV (as := [.inr 0, .inl ((t' : Nat) : Int), .inl ((r' : Nat) : Int)]) (rest := []) (v := some ((tm_cb σ.1 t' r' 34 : Nat) : Int)) (w' := w) rfl rfl (ta_cb (d + 3) t' r' (by omega) (by omega) w hR.1 hJ.1) (Nat.le_of_ble_eq_true rfl) rfl rfl rfl (Nat.le_of_ble_eq_true rfl) ?_
        refine tl_if (¬ ((tm_cb σ.1 t' r' 34 : Nat) : Int) = 0) 51 49 [(0, .inr 0), (1, .inl ((t' : Nat) : Int)), (2, .inl ((r' : Nat) : Int))] [] (fun _ h => h) (fun h4 => ?_) (fun h4 => ?_)
        · have h4 : ¬ tm_cb σ.1 t' r' 34 = 0 := by omega
          refine tl_go 3 54 [(0, .inr 0), (1, .inl ((t' : Nat) : Int)), (2, .inl ((r' : Nat) : Int))] [.inl ((r' : Nat) : Int), .inl ((t' : Nat) : Int), .inr 0] w (fun _ h => h) ?_
          refine tl_callV (as := [.inr 0, .inl ((t' : Nat) : Int), .inl ((r' : Nat) : Int)]) (rest := []) (v := some (tm_b (decide (tm_ww σ.1 t' r' = true)))) (w' := w) rfl rfl (ta_ww (d + 3) t' r' (by omega) (by omega) w hR.1 hJ.1) (Nat.le_of_ble_eq_true rfl) rfl rfl rfl (Nat.le_of_ble_eq_true rfl) ?_
          refine tl_if ((tm_b (decide (tm_ww σ.1 t' r' = true))) = 0) 64 60 [(0, .inr 0), (1, .inl ((t' : Nat) : Int)), (2, .inl ((r' : Nat) : Int))] [] (fun _ h => h) (fun h5 => ?_) (fun h5 => ?_)
          · have h5 := of_decide_eq_false (tm_beq h5)
            have hM5 := hJ.1 (34 * t' + r') (by omega)
            have eew : tm_jn 3 (σ.1 (34 * t' + r')) = tm_ew σ t' r' := by unfold tm_ew; rw [if_neg h5]
            have hw5 : tm_ew σ t' r' ≤ 5 := by rw [← eew]; exact tm_jn5 (by omega) hM5
            refine tl_go 4 68 [(0, .inr 0), (1, .inl ((t' : Nat) : Int)), (2, .inl ((r' : Nat) : Int))] [.inl ((r' : Nat) : Int), .inl ((t' : Nat) : Int), .inr 0, .inl 3] w (fun _ h => h) ?_
            refine tl_callV (as := [.inr 0, .inl ((t' : Nat) : Int), .inl ((r' : Nat) : Int)]) (rest := [.inl 3]) (v := some ((σ.1 (34 * t' + r') : Nat) : Int)) (w' := w) rfl rfl (ta_mo (d + 5) t' r' (by omega) (by omega) w (hR.1 _ (by omega))) (Nat.le_of_ble_eq_true rfl) rfl rfl rfl (Nat.le_of_ble_eq_true rfl) ?_
            refine tl_eq (st' := [.inl ((σ.1 (34 * t' + r') : Nat) : Int), .inl ((3 : Nat) : Int)]) rfl ?_
            refine tl_callS (as := [.inl ((3 : Nat) : Int), .inl ((σ.1 (34 * t' + r') : Nat) : Int)]) (rest := []) (v := some ((tm_jn 3 (σ.1 (34 * t' + r')) : Nat) : Int)) (w' := w) rfl rfl rfl rfl (ta_join (d + 5) 3 (σ.1 (34 * t' + r')) w) (Nat.le_of_ble_eq_true rfl) rfl rfl (Nat.le_of_ble_eq_true rfl) ?_
            refine tl_top (y := ((tm_ew σ t' r' : Nat) : Int)) (by rw [eew]) ?_
            refine tl_go 5 79 [(0, .inr 0), (1, .inl ((t' : Nat) : Int)), (2, .inl ((r' : Nat) : Int)), (3, .inl ((tm_ew σ t' r' : Nat) : Int))] [.inl ((tm_ew σ t' r' : Nat) : Int), .inl ((r' : Nat) : Int), .inl ((t' : Nat) : Int), .inr 0] w (fun _ h => h) ?_
            refine tl_callV (as := [.inr 0, .inl ((t' : Nat) : Int), .inl ((r' : Nat) : Int), .inl ((tm_ew σ t' r' : Nat) : Int)]) (rest := []) (v := some (tm_b (decide (tm_fits σ.1 t' r' (tm_ew σ t' r') = true)))) (w' := w) rfl rfl (ta_fit (d + 4) t' r' (tm_ew σ t' r') (by omega) (by omega) hw5 w hR.1 hJ.1 hR.2.2.2) (Nat.le_of_ble_eq_true rfl) rfl rfl rfl (Nat.le_of_ble_eq_true rfl) ?_
            refine tl_if (¬ (tm_b (decide (tm_fits σ.1 t' r' (tm_ew σ t' r') = true))) = 0) 87 85 [(0, .inr 0), (1, .inl ((t' : Nat) : Int)), (2, .inl ((r' : Nat) : Int)), (3, .inl ((tm_ew σ t' r' : Nat) : Int))] [] (fun _ h => h) (fun h6 => ?_) (fun h6 => ?_)
            · have h6 := of_decide_eq_true (tm_bne h6)
              have hJ1 := tm_sm_J (t := t') (r := r') (m := tm_ew σ t' r') hJ (by omega) (by omega) hw5 (by omega)
              have hR1 := tm_sm_RC hR (i := 34 * t' + r') (m := tm_ew σ t' r')
              obtain ⟨w2, hw2, hR2⟩ := ta_gub d t' r' (by omega) (by omega) _ hJ1 hR1 h3
              rw [tm_cb_sm (by omega)] at hw2
              obtain ⟨w3, hw3, hR3⟩ := ta_sv (d + 2) r' (by omega) w2 (tm_gb_J (by omega) 34 _ (Nat.le_refl _) hJ1 h3).1 hR2
              have e : tm_oEsc σ (t' : Int) (r' : Int) = (.inl (some (tm_cb σ.1 t' r' 34 : Nat)), (tm_serve (tm_gb t' r' 34 (tm_sm σ (34 * t' + r') (tm_ew σ t' r'))) r').2) := (by unfold tm_oEsc; rw [if_neg (fun q => q ⟨h1, h2⟩), Int.toNat_natCast, Int.toNat_natCast, if_neg (fun q => q h3), if_neg h4, if_neg (fun q => q h6)])
              rw [e] at hQ
              refine tl_go 4 91 [(0, .inr 0), (1, .inl ((t' : Nat) : Int)), (2, .inl ((r' : Nat) : Int)), (3, .inl ((tm_ew σ t' r' : Nat) : Int))] [.inl ((tm_ew σ t' r' : Nat) : Int), .inl ((r' : Nat) : Int), .inl ((t' : Nat) : Int), .inr 0] w (fun _ h => h) ?_
              refine tl_callV (as := [.inr 0, .inl ((t' : Nat) : Int), .inl ((r' : Nat) : Int), .inl ((tm_ew σ t' r' : Nat) : Int)]) (rest := []) (v := none) (w' := (tl_set w 0 (34 * t' + r') ((tm_ew σ t' r' : Nat) : Int))) rfl rfl (ta_sm (d + 5) t' r' (by omega) (by omega) _ w) (Nat.le_of_ble_eq_true rfl) rfl rfl rfl (Nat.le_of_ble_eq_true rfl) ?_
              refine tl_go 3 97 [(0, .inr 0), (1, .inl ((t' : Nat) : Int)), (2, .inl ((r' : Nat) : Int)), (3, .inl ((tm_ew σ t' r' : Nat) : Int))] [.inl ((r' : Nat) : Int), .inl ((t' : Nat) : Int), .inr 0] (tl_set w 0 (34 * t' + r') ((tm_ew σ t' r' : Nat) : Int)) (fun _ h => h) ?_
              refine tl_callV (as := [.inr 0, .inl ((t' : Nat) : Int), .inl ((r' : Nat) : Int)]) (rest := []) (v := some ((tm_cb σ.1 t' r' 34 : Nat) : Int)) (w' := w2) rfl rfl (hw2) (Nat.le_of_ble_eq_true rfl) rfl rfl rfl (Nat.le_of_ble_eq_true rfl) ?_
              refine tl_go 3 104 [(0, .inr 0), (1, .inl ((t' : Nat) : Int)), (2, .inl ((r' : Nat) : Int)), (3, .inl ((tm_ew σ t' r' : Nat) : Int)), (4, .inl ((tm_cb σ.1 t' r' 34 : Nat) : Int))] [.inl ((r' : Nat) : Int), .inr 0] w2 (fun _ h => h) ?_
              refine tl_callV (as := [.inr 0, .inl ((r' : Nat) : Int)]) (rest := []) (v := some (((tm_serve (tm_gb t' r' 34 (tm_sm σ (34 * t' + r') (tm_ew σ t' r'))) r').1 : Nat) : Int)) (w' := w3) rfl rfl (hw3) (Nat.le_of_ble_eq_true rfl) rfl rfl rfl (Nat.le_of_ble_eq_true rfl) ?_
              refine tl_go 2 110 [(0, .inr 0), (1, .inl ((t' : Nat) : Int)), (2, .inl ((r' : Nat) : Int)), (3, .inl ((tm_ew σ t' r' : Nat) : Int)), (4, .inl ((tm_cb σ.1 t' r' 34 : Nat) : Int))] [.inl ((tm_cb σ.1 t' r' 34 : Nat) : Int)] w3 (fun _ h => h) ?_
              exact tl_reti rfl rfl (rfl) (hQ w3 hR3)
            · have h6 := of_decide_eq_false (tm_beq (Classical.not_not.mp h6))
              have e : tm_oEsc σ (t' : Int) (r' : Int) = (.inl (some (-1)), σ) := (by unfold tm_oEsc; rw [if_neg (fun q => q ⟨h1, h2⟩), Int.toNat_natCast, Int.toNat_natCast, if_neg (fun q => q h3), if_neg h4, if_pos h6])
              rw [e] at hQ
              refine tl_go 1 86 [(0, .inr 0), (1, .inl ((t' : Nat) : Int)), (2, .inl ((r' : Nat) : Int)), (3, .inl ((tm_ew σ t' r' : Nat) : Int))] [.inl (-1)] w (fun _ h => h) ?_
              exact tl_reti rfl rfl (rfl) (hQ w hR)
          · have h5 := of_decide_eq_true (tm_bne h5)
            have hM5 := hJ.1 (34 * t' + r') (by omega)
            have eew : tm_jn 5 (σ.1 (34 * t' + r')) = tm_ew σ t' r' := by unfold tm_ew; rw [if_pos h5]
            have hw5 : tm_ew σ t' r' ≤ 5 := by rw [← eew]; exact tm_jn5 (by omega) hM5
            refine tl_go 5 68 [(0, .inr 0), (1, .inl ((t' : Nat) : Int)), (2, .inl ((r' : Nat) : Int))] [.inl ((r' : Nat) : Int), .inl ((t' : Nat) : Int), .inr 0, .inl 5] w (fun _ h => h) ?_
            refine tl_callV (as := [.inr 0, .inl ((t' : Nat) : Int), .inl ((r' : Nat) : Int)]) (rest := [.inl 5]) (v := some ((σ.1 (34 * t' + r') : Nat) : Int)) (w' := w) rfl rfl (ta_mo (d + 5) t' r' (by omega) (by omega) w (hR.1 _ (by omega))) (Nat.le_of_ble_eq_true rfl) rfl rfl rfl (Nat.le_of_ble_eq_true rfl) ?_
            refine tl_eq (st' := [.inl ((σ.1 (34 * t' + r') : Nat) : Int), .inl ((5 : Nat) : Int)]) rfl ?_
            refine tl_callS (as := [.inl ((5 : Nat) : Int), .inl ((σ.1 (34 * t' + r') : Nat) : Int)]) (rest := []) (v := some ((tm_jn 5 (σ.1 (34 * t' + r')) : Nat) : Int)) (w' := w) rfl rfl rfl rfl (ta_join (d + 5) 5 (σ.1 (34 * t' + r')) w) (Nat.le_of_ble_eq_true rfl) rfl rfl (Nat.le_of_ble_eq_true rfl) ?_
            refine tl_top (y := ((tm_ew σ t' r' : Nat) : Int)) (by rw [eew]) ?_
            refine tl_go 5 79 [(0, .inr 0), (1, .inl ((t' : Nat) : Int)), (2, .inl ((r' : Nat) : Int)), (3, .inl ((tm_ew σ t' r' : Nat) : Int))] [.inl ((tm_ew σ t' r' : Nat) : Int), .inl ((r' : Nat) : Int), .inl ((t' : Nat) : Int), .inr 0] w (fun _ h => h) ?_
            refine tl_callV (as := [.inr 0, .inl ((t' : Nat) : Int), .inl ((r' : Nat) : Int), .inl ((tm_ew σ t' r' : Nat) : Int)]) (rest := []) (v := some (tm_b (decide (tm_fits σ.1 t' r' (tm_ew σ t' r') = true)))) (w' := w) rfl rfl (ta_fit (d + 4) t' r' (tm_ew σ t' r') (by omega) (by omega) hw5 w hR.1 hJ.1 hR.2.2.2) (Nat.le_of_ble_eq_true rfl) rfl rfl rfl (Nat.le_of_ble_eq_true rfl) ?_
            refine tl_if (¬ (tm_b (decide (tm_fits σ.1 t' r' (tm_ew σ t' r') = true))) = 0) 87 85 [(0, .inr 0), (1, .inl ((t' : Nat) : Int)), (2, .inl ((r' : Nat) : Int)), (3, .inl ((tm_ew σ t' r' : Nat) : Int))] [] (fun _ h => h) (fun h6 => ?_) (fun h6 => ?_)
            · have h6 := of_decide_eq_true (tm_bne h6)
              have hJ1 := tm_sm_J (t := t') (r := r') (m := tm_ew σ t' r') hJ (by omega) (by omega) hw5 (by omega)
              have hR1 := tm_sm_RC hR (i := 34 * t' + r') (m := tm_ew σ t' r')
              obtain ⟨w2, hw2, hR2⟩ := ta_gub d t' r' (by omega) (by omega) _ hJ1 hR1 h3
              rw [tm_cb_sm (by omega)] at hw2
              obtain ⟨w3, hw3, hR3⟩ := ta_sv (d + 2) r' (by omega) w2 (tm_gb_J (by omega) 34 _ (Nat.le_refl _) hJ1 h3).1 hR2
              have e : tm_oEsc σ (t' : Int) (r' : Int) = (.inl (some (tm_cb σ.1 t' r' 34 : Nat)), (tm_serve (tm_gb t' r' 34 (tm_sm σ (34 * t' + r') (tm_ew σ t' r'))) r').2) := (by unfold tm_oEsc; rw [if_neg (fun q => q ⟨h1, h2⟩), Int.toNat_natCast, Int.toNat_natCast, if_neg (fun q => q h3), if_neg h4, if_neg (fun q => q h6)])
              rw [e] at hQ
              refine tl_go 4 91 [(0, .inr 0), (1, .inl ((t' : Nat) : Int)), (2, .inl ((r' : Nat) : Int)), (3, .inl ((tm_ew σ t' r' : Nat) : Int))] [.inl ((tm_ew σ t' r' : Nat) : Int), .inl ((r' : Nat) : Int), .inl ((t' : Nat) : Int), .inr 0] w (fun _ h => h) ?_
              refine tl_callV (as := [.inr 0, .inl ((t' : Nat) : Int), .inl ((r' : Nat) : Int), .inl ((tm_ew σ t' r' : Nat) : Int)]) (rest := []) (v := none) (w' := (tl_set w 0 (34 * t' + r') ((tm_ew σ t' r' : Nat) : Int))) rfl rfl (ta_sm (d + 5) t' r' (by omega) (by omega) _ w) (Nat.le_of_ble_eq_true rfl) rfl rfl rfl (Nat.le_of_ble_eq_true rfl) ?_
              refine tl_go 3 97 [(0, .inr 0), (1, .inl ((t' : Nat) : Int)), (2, .inl ((r' : Nat) : Int)), (3, .inl ((tm_ew σ t' r' : Nat) : Int))] [.inl ((r' : Nat) : Int), .inl ((t' : Nat) : Int), .inr 0] (tl_set w 0 (34 * t' + r') ((tm_ew σ t' r' : Nat) : Int)) (fun _ h => h) ?_
              refine tl_callV (as := [.inr 0, .inl ((t' : Nat) : Int), .inl ((r' : Nat) : Int)]) (rest := []) (v := some ((tm_cb σ.1 t' r' 34 : Nat) : Int)) (w' := w2) rfl rfl (hw2) (Nat.le_of_ble_eq_true rfl) rfl rfl rfl (Nat.le_of_ble_eq_true rfl) ?_
              refine tl_go 3 104 [(0, .inr 0), (1, .inl ((t' : Nat) : Int)), (2, .inl ((r' : Nat) : Int)), (3, .inl ((tm_ew σ t' r' : Nat) : Int)), (4, .inl ((tm_cb σ.1 t' r' 34 : Nat) : Int))] [.inl ((r' : Nat) : Int), .inr 0] w2 (fun _ h => h) ?_
              refine tl_callV (as := [.inr 0, .inl ((r' : Nat) : Int)]) (rest := []) (v := some (((tm_serve (tm_gb t' r' 34 (tm_sm σ (34 * t' + r') (tm_ew σ t' r'))) r').1 : Nat) : Int)) (w' := w3) rfl rfl (hw3) (Nat.le_of_ble_eq_true rfl) rfl rfl rfl (Nat.le_of_ble_eq_true rfl) ?_
              refine tl_go 2 110 [(0, .inr 0), (1, .inl ((t' : Nat) : Int)), (2, .inl ((r' : Nat) : Int)), (3, .inl ((tm_ew σ t' r' : Nat) : Int)), (4, .inl ((tm_cb σ.1 t' r' 34 : Nat) : Int))] [.inl ((tm_cb σ.1 t' r' 34 : Nat) : Int)] w3 (fun _ h => h) ?_
              exact tl_reti rfl rfl (rfl) (hQ w3 hR3)
            · have h6 := of_decide_eq_false (tm_beq (Classical.not_not.mp h6))
              have e : tm_oEsc σ (t' : Int) (r' : Int) = (.inl (some (-1)), σ) := (by unfold tm_oEsc; rw [if_neg (fun q => q ⟨h1, h2⟩), Int.toNat_natCast, Int.toNat_natCast, if_neg (fun q => q h3), if_neg h4, if_pos h6])
              rw [e] at hQ
              refine tl_go 1 86 [(0, .inr 0), (1, .inl ((t' : Nat) : Int)), (2, .inl ((r' : Nat) : Int)), (3, .inl ((tm_ew σ t' r' : Nat) : Int))] [.inl (-1)] w (fun _ h => h) ?_
              exact tl_reti rfl rfl (rfl) (hQ w hR)
        · have h4 : tm_cb σ.1 t' r' 34 = 0 := by omega
          have e : tm_oEsc σ (t' : Int) (r' : Int) = (.inl (some 0), σ) := (by unfold tm_oEsc; rw [if_neg (fun q => q ⟨h1, h2⟩), Int.toNat_natCast, Int.toNat_natCast, if_neg (fun q => q h3), if_pos h4])
          rw [e] at hQ
          refine tl_go 1 50 [(0, .inr 0), (1, .inl ((t' : Nat) : Int)), (2, .inl ((r' : Nat) : Int))] [.inl 0] w (fun _ h => h) ?_
          exact tl_reti rfl rfl (rfl) (hQ w hR)
      · have h3 : ¬ σ.2.1 t' = 1 := by omega
        have e : tm_oEsc σ (t' : Int) (r' : Int) = (.inr 2, σ) := (by unfold tm_oEsc; rw [if_neg (fun q => q ⟨h1, h2⟩), Int.toNat_natCast, Int.toNat_natCast, if_pos h3])
        rw [e] at hQ
        exact tl_thr rfl rfl (hQ w hR)
    · have h2 := of_decide_eq_false (tm_beq (Classical.not_not.mp h2))
      have e : tm_oEsc σ t r = (.inr 1, σ) := if_pos (fun q => h2 q.2)
      rw [e] at hQ
      exact tl_thr rfl rfl (hQ w hR)
end
section
/-! 19.endt: the class's end, printed by a8.py -/
def tm_ge (t : Nat) (aw : Int) : Nat → tm_S → Nat × tm_S
  | 0, σ => (0, σ)
  | n + 1, σ => if σ.1 (34 * t + n) ≠ 0 ∨ (n : Int) = aw then ((tm_gv σ t n).1 + (tm_ge t aw n (tm_gv σ t n).2).1, (tm_ge t aw n (tm_gv σ t n).2).2) else tm_ge t aw n σ
theorem tm_ge_s (t : Nat) (aw : Int) (n : Nat) (σ : tm_S) : tm_ge t aw (n + 1) σ = if σ.1 (34 * t + n) ≠ 0 ∨ (n : Int) = aw then ((tm_gv σ t n).1 + (tm_ge t aw n (tm_gv σ t n).2).1, (tm_ge t aw n (tm_gv σ t n).2).2) else tm_ge t aw n σ := rfl
def tm_idl (σ : tm_S) (t : Nat) : tm_S := (σ.1, va_up σ.2.1 t 0, σ.2.2.1, σ.2.2.2)
def tm_out (σ : tm_S) (t : Nat) : tm_S := if σ.2.1 t < 2 then σ else tm_lv σ (σ.2.1 t - 2) t ((σ.2.2.2 (σ.2.1 t - 2)).idxOf t)
def tm_oEnd (σ : tm_S) (t : Int) : tl_R × tm_S :=
  if ¬ (0 ≤ t ∧ t < 8) then (.inr 1, σ)
  else if σ.2.1 t.toNat = 0 then (.inr 2, σ)
  else (.inl (some ((tm_ge t.toNat (tm_aw (σ.2.1 t.toNat)) 34 (tm_idl (tm_out σ t.toNat) t.toNat)).1 : Nat)), (tm_ge t.toNat (tm_aw (σ.2.1 t.toNat)) 34 (tm_idl (tm_out σ t.toNat) t.toNat)).2)
theorem tm_lv_J {σ : tm_S} (h : tm_J σ) {r t k : Nat} (hr : r < 34) (hk : (σ.2.2.2 r)[k]? = some t) : tm_J (tm_lv σ r t k) := by
  obtain ⟨h1, h2, h3⟩ := h
  obtain ⟨n1, n2, n3⟩ := h3 r hr
  have htr := (n2 t).mp (List.mem_of_getElem? hk)
  refine ⟨h1, fun u hu => ?_, fun c hc => ?_⟩
  · show va_up σ.2.1 t 1 u ≤ 35 ∧ va_up σ.2.2.1 t 0 u ≤ 5 ∧ (va_up σ.2.1 t 1 u < 2 → va_up σ.2.2.1 t 0 u = 0)
    by_cases e : u = t
    · rw [e, va_up_s, va_up_s]; exact ⟨by omega, by omega, fun _ => rfl⟩
    · rw [va_up_n _ _ e, va_up_n _ _ e]; exact h2 u hu
  · show (va_up σ.2.2.2 r ((σ.2.2.2 r).eraseIdx k) c).Nodup ∧ (∀ u, u ∈ va_up σ.2.2.2 r ((σ.2.2.2 r).eraseIdx k) c ↔ u < 8 ∧ va_up σ.2.1 t 1 u = c + 2) ∧ (va_up σ.2.2.2 r ((σ.2.2.2 r).eraseIdx k) c).Pairwise (fun a b => σ.1 (34 * b + c) ≠ 0 → σ.1 (34 * a + c) ≠ 0)
    by_cases e : c = r
    · subst e
      rw [va_up_s]
      refine ⟨n1.eraseIdx k, fun u => ?_, n3.sublist (List.eraseIdx_sublist _ _)⟩
      rw [List.mem_eraseIdx_iff_getElem?]
      by_cases eu : u = t
      · rw [eu, va_up_s]
        exact ⟨fun ⟨i, hi, hu⟩ => absurd (tm_nd n1 hu hk) hi, fun q => by omega⟩
      · rw [va_up_n _ _ eu, ← n2 u]
        constructor
        · rintro ⟨i, _, hu⟩
          exact List.mem_of_getElem? hu
        · intro hu
          obtain ⟨i, hi⟩ := List.getElem?_of_mem hu
          refine ⟨i, fun e => eu ?_, hi⟩
          rw [e, hk] at hi
          exact (Option.some.inj hi).symm
    · rw [va_up_n _ _ e]
      obtain ⟨m1, m2, m3⟩ := h3 c hc
      refine ⟨m1, fun u => ?_, m3⟩
      by_cases eu : u = t
      · rw [eu, va_up_s, m2 t]
        exact ⟨fun q => by omega, fun q => by omega⟩
      · rw [va_up_n _ _ eu]; exact m2 u
theorem tm_idl_J {σ : tm_S} (h : tm_J σ) {t : Nat} (ht : t < 8) (hs : σ.2.1 t < 2) : tm_J (tm_idl σ t) := by
  obtain ⟨h1, h2, h3⟩ := h
  refine ⟨h1, fun u hu => ?_, fun c hc => ?_⟩
  · show va_up σ.2.1 t 0 u ≤ 35 ∧ σ.2.2.1 u ≤ 5 ∧ (va_up σ.2.1 t 0 u < 2 → σ.2.2.1 u = 0)
    by_cases e : u = t
    · rw [e, va_up_s]; exact ⟨by omega, (h2 t ht).2.1, fun _ => (h2 t ht).2.2 hs⟩
    · rw [va_up_n _ _ e]; exact h2 u hu
  · obtain ⟨m1, m2, m3⟩ := h3 c hc
    refine ⟨m1, fun u => ?_, m3⟩
    show u ∈ σ.2.2.2 c ↔ u < 8 ∧ va_up σ.2.1 t 0 u = c + 2
    by_cases eu : u = t
    · rw [eu, va_up_s, m2 t]
      exact ⟨fun q => by omega, fun q => by omega⟩
    · rw [va_up_n _ _ eu]; exact m2 u
/-- behind leaving: t waits nowhere -/
theorem tm_out_J {σ : tm_S} (h : tm_J σ) {t : Nat} (ht : t < 8) : tm_J (tm_out σ t) ∧ (tm_out σ t).2.1 t < 2 := by
  unfold tm_out
  by_cases hs : σ.2.1 t < 2
  · rw [if_pos hs]; exact ⟨h, hs⟩
  · rw [if_neg hs]
    have h5 := (h.2.1 t ht).1
    have hk := tm_ix2 (((h.2.2 (σ.2.1 t - 2) (by omega)).2.1 t).mpr ⟨ht, by omega⟩)
    refine ⟨tm_lv_J h (by omega) hk, ?_⟩
    show va_up σ.2.1 t 1 t < 2
    rw [va_up_s]
    decide

theorem ta_end (d : Nat) (t : Int) {σ : tm_S} (w : tl_W) (hJ : tm_J σ) (hR : tm_RC w σ) : ∃ w', tl_Ev ta_P (d + 6) 5 [.inr 0, .inl t] w (tm_oEnd σ t).1 w' ∧ tm_RC w' (tm_oEnd σ t).2 := by
  refine tl_exi fun Q hQ => ?_
  refine tl_go 1 1 [(0, .inr 0), (1, .inl t)] [.inl t] w (fun _ h => h) ?_
  refine tl_callS (as := [.inl t]) (rest := []) (v := some (tm_b (decide (0 ≤ t ∧ t < 8)))) (w' := w) rfl rfl rfl rfl (ta_isT (d + 4) t w) (Nat.le_of_ble_eq_true rfl) rfl rfl (Nat.le_of_ble_eq_true rfl) ?_
  refine tl_if (¬ (tm_b (decide (0 ≤ t ∧ t < 8))) = 0) 15 7 [(0, .inr 0), (1, .inl t)] [] (fun _ h => h) (fun h1 => ?_) (fun h1 => ?_)
  · have h1 := of_decide_eq_true (tm_bne h1)
    obtain ⟨t', rfl⟩ : ∃ n : Nat, t = n := ⟨t.toNat, by omega⟩
    have ht : t' < 8 := by omega
    refine tl_go 3 20 [(0, .inr 0), (1, .inl ((t' : Nat) : Int))] [.inl ((t' : Nat) : Int), .inr 2] w (fun _ h => And.intro rfl (And.intro (by decide) (h))) ?_
    refine tl_ald (t') 8 (k := 1) rfl (by omega) rfl (by omega) ?_
    refine tl_top (y := ((σ.2.1 t' : Nat) : Int)) ((hR.2.1 t' ht).1) ?_
    refine tl_if (¬ ((σ.2.1 t' : Nat) : Int) = 0) 32 24 [(0, .inr 0), (1, .inl ((t' : Nat) : Int))] [] (fun _ h => h) (fun h2 => ?_) (fun h2 => ?_)
    · have h2 : ¬ σ.2.1 t' = 0 := by omega
      rw [show tm_oEnd σ (t' : Int) = _ from (by unfold tm_oEnd; rw [if_neg (fun q => q h1), Int.toNat_natCast, if_neg h2])] at hQ
      have hS5 := (hJ.2.1 t' ht).1
      obtain ⟨hJ1, hs1⟩ := tm_out_J hJ ht
      have hJ2 := tm_idl_J hJ1 ht hs1
      have hs2 : (tm_idl (tm_out σ t') t').2.1 t' = 0 := by show va_up (tm_out σ t').2.1 t' 0 t' = 0; rw [va_up_s]
      generalize haw : tm_aw (σ.2.1 t') = aw at hQ
      have loop : ∀ (n c : Nat) (σ : tm_S) (w : tl_W), c + 8 * n ≤ 272 → n ≤ 34 → tm_J σ → tm_RC w σ → σ.2.1 t' = 0 → (∀ w', tm_RC w' (tm_ge t' aw n σ).2 → Q (.inl (some ((c + (tm_ge t' aw n σ).1 : Nat) : Int))) w') → tl_E ta_P (d + 5) 5 61 [(0, .inr 0), (1, .inl (t' : Int)), (2, .inl aw), (3, .inl (c : Int)), (4, .inl ((n : Int) - 1))] [] w Q := by
        intro n
        induction n with
        | zero =>
          intro c σ w hc hn hJ hR hs hQ'
          refine tl_go 1 63 [(0, .inr 0), (1, .inl ((t' : Nat) : Int)), (2, .inl aw), (3, .inl ((c : Nat) : Int)), (4, .inl (((0 : Nat) : Int) - 1))] [.inl (((0 : Nat) : Int) - 1)] w (fun _ h => h) ?_
          refine tl_ift ((((0 : Nat) : Int) - 1) < 0) 98 66 [(0, .inr 0), (1, .inl ((t' : Nat) : Int)), (2, .inl aw), (3, .inl ((c : Nat) : Int)), (4, .inl (((0 : Nat) : Int) - 1))] [] (fun _ h => h) (by omega) ?_
          refine tl_go 1 99 [(0, .inr 0), (1, .inl ((t' : Nat) : Int)), (2, .inl aw), (3, .inl ((c : Nat) : Int)), (4, .inl (((0 : Nat) : Int) - 1))] [.inl ((c : Nat) : Int)] w (fun _ h => h) ?_
          exact tl_reti rfl rfl (by show (c : Int) = ((c + 0 : Nat) : Int); omega) (hQ' w hR)
        | succ n ih =>
          intro c σ w hc hn hJ hR hs hQ'
          refine tl_loc (L' := [(0, .inr 0), (1, .inl ((t' : Nat) : Int)), (2, .inl aw), (3, .inl ((c : Nat) : Int)), (4, .inl ((n : Nat) : Int))]) (by rw [show (((n + 1 : Nat) : Int) - 1) = (n : Int) by omega]) ?_
          refine tl_go 1 63 [(0, .inr 0), (1, .inl ((t' : Nat) : Int)), (2, .inl aw), (3, .inl ((c : Nat) : Int)), (4, .inl ((n : Nat) : Int))] [.inl ((n : Nat) : Int)] w (fun _ h => h) ?_
          refine tl_iff (((n : Nat) : Int) < 0) 98 66 [(0, .inr 0), (1, .inl ((t' : Nat) : Int)), (2, .inl aw), (3, .inl ((c : Nat) : Int)), (4, .inl ((n : Nat) : Int))] [] (fun _ h => h) (by omega) ?_
          refine tl_go 3 70 [(0, .inr 0), (1, .inl ((t' : Nat) : Int)), (2, .inl aw), (3, .inl ((c : Nat) : Int)), (4, .inl ((n : Nat) : Int))] [.inl ((n : Nat) : Int), .inl ((t' : Nat) : Int), .inr 0] w (fun _ h => h) ?_
          refine tl_callV (as := [.inr 0, .inl ((t' : Nat) : Int), .inl ((n : Nat) : Int)]) (rest := []) (v := some (tm_b (decide (σ.1 (34 * t' + n) ≠ 0)))) (w' := w) rfl rfl (ta_ih (d + 3) t' n ht (by omega) w (hR.1 _ (by omega))) (Nat.le_of_ble_eq_true rfl) rfl rfl rfl (Nat.le_of_ble_eq_true rfl) ?_
          refine tl_if (¬ (tm_b (decide (σ.1 (34 * t' + n) ≠ 0))) = 0) 82 76 [(0, .inr 0), (1, .inl ((t' : Nat) : Int)), (2, .inl aw), (3, .inl ((c : Nat) : Int)), (4, .inl ((n : Nat) : Int))] [] (fun _ h => h) (fun h3 => ?_) (fun h3 => ?_)
          · have h3 := of_decide_eq_true (tm_bne h3)
            obtain ⟨g1, g2, g3, g4⟩ := tm_gv_J hJ (n := n) ht (by omega) (by omega)
            obtain ⟨w1, hw1, hR1⟩ := ta_gu d t' n ht (by omega) w (tm_sm_J hJ ht (by omega) (Nat.zero_le 5) (by omega)) hR
            rw [tm_ge_s, if_pos (Or.inl h3)] at hQ'
            refine tl_go 4 87 [(0, .inr 0), (1, .inl ((t' : Nat) : Int)), (2, .inl aw), (3, .inl ((c : Nat) : Int)), (4, .inl ((n : Nat) : Int))] [.inl ((n : Nat) : Int), .inl ((t' : Nat) : Int), .inr 0, .inl ((c : Nat) : Int)] w (fun _ h => h) ?_
            refine tl_callV (as := [.inr 0, .inl ((t' : Nat) : Int), .inl ((n : Nat) : Int)]) (rest := [.inl ((c : Nat) : Int)]) (v := some (((tm_gv σ t' n).1 : Nat) : Int)) (w' := w1) rfl rfl (hw1) (Nat.le_of_ble_eq_true rfl) rfl rfl rfl (Nat.le_of_ble_eq_true rfl) ?_
            refine tl_go 1 91 [(0, .inr 0), (1, .inl ((t' : Nat) : Int)), (2, .inl aw), (3, .inl ((c : Nat) : Int)), (4, .inl ((n : Nat) : Int))] [.inl (((c : Nat) : Int) + (((tm_gv σ t' n).1 : Nat) : Int))] w1 (fun _ h => And.intro (by omega) h) ?_
            refine tl_top (y := ((c + (tm_gv σ t' n).1 : Nat) : Int)) (by omega) ?_
            refine tl_go 3 61 [(0, .inr 0), (1, .inl ((t' : Nat) : Int)), (2, .inl aw), (3, .inl ((c + (tm_gv σ t' n).1 : Nat) : Int)), (4, .inl (((n : Nat) : Int) + (-1)))] [] w1 (fun _ h => And.intro (by omega) h) ?_
            exact ih (c + (tm_gv σ t' n).1) (tm_gv σ t' n).2 w1 (by omega) (by omega) g1 hR1 (g3.trans hs) (fun w' hw' => by rw [Nat.add_assoc]; exact hQ' w' hw')
          · have h3 := of_decide_eq_false (tm_beq (Classical.not_not.mp h3))
            refine tl_go 2 79 [(0, .inr 0), (1, .inl ((t' : Nat) : Int)), (2, .inl aw), (3, .inl ((c : Nat) : Int)), (4, .inl ((n : Nat) : Int))] [.inl aw, .inl ((n : Nat) : Int)] w (fun _ h => h) ?_
            refine tl_if (¬ ((n : Nat) : Int) = aw) 92 82 [(0, .inr 0), (1, .inl ((t' : Nat) : Int)), (2, .inl aw), (3, .inl ((c : Nat) : Int)), (4, .inl ((n : Nat) : Int))] [] (fun _ h => h) (fun h4 => ?_) (fun h4 => ?_)
            · rw [tm_ge_s, if_neg (fun q => q.elim h3 h4)] at hQ'
              refine tl_go 2 61 [(0, .inr 0), (1, .inl ((t' : Nat) : Int)), (2, .inl aw), (3, .inl ((c : Nat) : Int)), (4, .inl (((n : Nat) : Int) + (-1)))] [] w (fun _ h => And.intro (by omega) h) ?_
              exact ih c σ w (by omega) (by omega) hJ hR hs hQ'
            · obtain ⟨g1, g2, g3, g4⟩ := tm_gv_J hJ (n := n) ht (by omega) (by omega)
              obtain ⟨w1, hw1, hR1⟩ := ta_gu d t' n ht (by omega) w (tm_sm_J hJ ht (by omega) (Nat.zero_le 5) (by omega)) hR
              rw [tm_ge_s, if_pos (Or.inr (Classical.not_not.mp h4))] at hQ'
              refine tl_go 4 87 [(0, .inr 0), (1, .inl ((t' : Nat) : Int)), (2, .inl aw), (3, .inl ((c : Nat) : Int)), (4, .inl ((n : Nat) : Int))] [.inl ((n : Nat) : Int), .inl ((t' : Nat) : Int), .inr 0, .inl ((c : Nat) : Int)] w (fun _ h => h) ?_
              refine tl_callV (as := [.inr 0, .inl ((t' : Nat) : Int), .inl ((n : Nat) : Int)]) (rest := [.inl ((c : Nat) : Int)]) (v := some (((tm_gv σ t' n).1 : Nat) : Int)) (w' := w1) rfl rfl (hw1) (Nat.le_of_ble_eq_true rfl) rfl rfl rfl (Nat.le_of_ble_eq_true rfl) ?_
              refine tl_go 1 91 [(0, .inr 0), (1, .inl ((t' : Nat) : Int)), (2, .inl aw), (3, .inl ((c : Nat) : Int)), (4, .inl ((n : Nat) : Int))] [.inl (((c : Nat) : Int) + (((tm_gv σ t' n).1 : Nat) : Int))] w1 (fun _ h => And.intro (by omega) h) ?_
              refine tl_top (y := ((c + (tm_gv σ t' n).1 : Nat) : Int)) (by omega) ?_
              refine tl_go 3 61 [(0, .inr 0), (1, .inl ((t' : Nat) : Int)), (2, .inl aw), (3, .inl ((c + (tm_gv σ t' n).1 : Nat) : Int)), (4, .inl (((n : Nat) : Int) + (-1)))] [] w1 (fun _ h => And.intro (by omega) h) ?_
              exact ih (c + (tm_gv σ t' n).1) (tm_gv σ t' n).2 w1 (by omega) (by omega) g1 hR1 (g3.trans hs) (fun w' hw' => by rw [Nat.add_assoc]; exact hQ' w' hw')
      refine tl_go 2 34 [(0, .inr 0), (1, .inl ((t' : Nat) : Int))] [.inl ((t' : Nat) : Int), .inr 0] w (fun _ h => h) ?_
      refine tl_callV (as := [.inr 0, .inl ((t' : Nat) : Int)]) (rest := []) (v := some (tm_aw (σ.2.1 t'))) (w' := w) rfl rfl (ta_aw (d + 4) t' ht w (hR.2.1 t' ht).1 hS5) (Nat.le_of_ble_eq_true rfl) rfl rfl rfl (Nat.le_of_ble_eq_true rfl) ?_
      refine tl_top (y := aw) (haw) ?_
      refine tl_go 3 40 [(0, .inr 0), (1, .inl ((t' : Nat) : Int)), (2, .inl aw)] [.inl (-1), .inl aw] w (fun _ h => h) ?_
      refine tl_if (aw = (-1)) 48 43 [(0, .inr 0), (1, .inl ((t' : Nat) : Int)), (2, .inl aw)] [] (fun _ h => h) (fun h5 => ?_) (fun h5 => ?_)
      · have h6 : σ.2.1 t' < 2 := by rw [← haw] at h5; unfold tm_aw at h5; split at h5 <;> omega
        have e1 : tm_out σ t' = σ := by unfold tm_out; rw [if_pos h6]
        rw [e1] at hJ2 hs2 hQ
        refine tl_go 4 54 [(0, .inr 0), (1, .inl ((t' : Nat) : Int)), (2, .inl aw)] [.inl 0, .inl ((t' : Nat) : Int), .inr 2] w (fun _ h => And.intro rfl (And.intro (by decide) (h))) ?_
        refine tl_ast (t') 8 (k := 1) rfl (by decide) (by omega) rfl (by omega) ?_
        refine tl_go 4 61 [(0, .inr 0), (1, .inl ((t' : Nat) : Int)), (2, .inl aw), (3, .inl 0), (4, .inl 33)] [] (tl_set w 1 (t') 0) (fun _ h => h) ?_
        exact loop 34 0 _ _ (by omega) (by omega) hJ2 (tm_S_RC hR t' 0) hs2 (fun w' hw' => by rw [Nat.zero_add]; exact hQ w' hw')
      · have h6 : ¬ σ.2.1 t' < 2 := fun q => h5 (by rw [← haw]; unfold tm_aw; rw [if_pos q])
        have hk := tm_ix2 (((hJ.2.2 (σ.2.1 t' - 2) (by omega)).2.1 t').mpr ⟨ht, by omega⟩)
        have e1 : tm_out σ t' = tm_lv σ (σ.2.1 t' - 2) t' ((σ.2.2.2 (σ.2.1 t' - 2)).idxOf t') := by unfold tm_out; rw [if_neg h6]
        rw [e1] at hJ2 hs2 hQ
        have hR1 := tm_lv_RC (tm_J_K hJ) hR (by omega) hk
        refine tl_go 2 45 [(0, .inr 0), (1, .inl ((t' : Nat) : Int)), (2, .inl aw)] [.inl ((t' : Nat) : Int), .inr 0] w (fun _ h => h) ?_
        refine tl_callV (as := [.inr 0, .inl ((t' : Nat) : Int)]) (rest := []) (v := none) (w' := (tm_shf (tl_set (tl_set w 1 t' 1) 2 t' 0) (va_up σ.2.1 t' 1) (σ.2.1 t' - 2) (w 3 t') (-1) 8)) rfl rfl (ta_lv (d + 2) w (tm_J_K hJ) hR (by omega) hk) (Nat.le_of_ble_eq_true rfl) rfl rfl rfl (Nat.le_of_ble_eq_true rfl) ?_
        refine tl_go 4 54 [(0, .inr 0), (1, .inl ((t' : Nat) : Int)), (2, .inl aw)] [.inl 0, .inl ((t' : Nat) : Int), .inr 2] (tm_shf (tl_set (tl_set w 1 t' 1) 2 t' 0) (va_up σ.2.1 t' 1) (σ.2.1 t' - 2) (w 3 t') (-1) 8) (fun _ h => And.intro rfl (And.intro (by decide) (h))) ?_
        refine tl_ast (t') 8 (k := 1) rfl (by decide) (by omega) rfl (by omega) ?_
        refine tl_go 4 61 [(0, .inr 0), (1, .inl ((t' : Nat) : Int)), (2, .inl aw), (3, .inl 0), (4, .inl 33)] [] (tl_set (tm_shf (tl_set (tl_set w 1 t' 1) 2 t' 0) (va_up σ.2.1 t' 1) (σ.2.1 t' - 2) (w 3 t') (-1) 8) 1 (t') 0) (fun _ h => h) ?_
        exact loop 34 0 _ _ (by omega) (by omega) hJ2 (tm_S_RC hR1 t' 0) hs2 (fun w' hw' => by rw [Nat.zero_add]; exact hQ w' hw')
    · have e : tm_oEnd σ (t' : Int) = (.inr 2, σ) := (by unfold tm_oEnd; rw [if_neg (fun q => q h1), Int.toNat_natCast, if_pos (by omega)])
      rw [e] at hQ
      exact tl_thr rfl rfl (hQ w hR)
  · have h1 := of_decide_eq_false (tm_beq (Classical.not_not.mp h1))
    have e : tm_oEnd σ t = (.inr 1, σ) := if_pos h1
    rw [e] at hQ
    exact tl_thr rfl rfl (hQ w hR)
end
section
/-! 20.msmall: the reference's small methods, printed by b1.py -/
theorem tb_isT (d : Nat) (t : Int) (w : tl_W) : tl_Ev tb_P (d + 1) 8 [.inl t] w (.inl (some (tm_b (decide (0 ≤ t ∧ t < 8))))) w := by
  refine tl_start fun Q hQ => ?_
  refine tl_go 1 1 [(0, .inl t)] [.inl t] w (fun _ h => h) ?_
  refine tl_if (t < 0) 14 4 [(0, .inl t)] [] (fun _ h => h) (fun hc0 => ?_) (fun hc0 => ?_)
  · refine tl_go 1 15 [(0, .inl t)] [.inl 0] w (fun _ h => h) ?_
    exact tl_retz rfl rfl (tm_b0 (decide_eq_false (by omega))) (hQ)
  · refine tl_go 2 7 [(0, .inl t)] [.inl 8, .inl t] w (fun _ h => h) ?_
    refine tl_if (8 ≤ t) 14 10 [(0, .inl t)] [] (fun _ h => h) (fun hc1 => ?_) (fun hc1 => ?_)
    · refine tl_go 1 15 [(0, .inl t)] [.inl 0] w (fun _ h => h) ?_
      exact tl_retz rfl rfl (tm_b0 (decide_eq_false (by omega))) (hQ)
    · refine tl_go 2 15 [(0, .inl t)] [.inl 1] w (fun _ h => h) ?_
      exact tl_retz rfl rfl (tm_b1 (decide_eq_true (by omega))) (hQ)
theorem tb_isR (d : Nat) (r : Int) (w : tl_W) : tl_Ev tb_P (d + 1) 9 [.inl r] w (.inl (some (tm_b (decide (0 ≤ r ∧ r < 34))))) w := by
  refine tl_start fun Q hQ => ?_
  refine tl_go 1 1 [(0, .inl r)] [.inl r] w (fun _ h => h) ?_
  refine tl_if (r < 0) 14 4 [(0, .inl r)] [] (fun _ h => h) (fun hc0 => ?_) (fun hc0 => ?_)
  · refine tl_go 1 15 [(0, .inl r)] [.inl 0] w (fun _ h => h) ?_
    exact tl_retz rfl rfl (tm_b0 (decide_eq_false (by omega))) (hQ)
  · refine tl_go 2 7 [(0, .inl r)] [.inl 34, .inl r] w (fun _ h => h) ?_
    refine tl_if (34 ≤ r) 14 10 [(0, .inl r)] [] (fun _ h => h) (fun hc1 => ?_) (fun hc1 => ?_)
    · refine tl_go 1 15 [(0, .inl r)] [.inl 0] w (fun _ h => h) ?_
      exact tl_retz rfl rfl (tm_b0 (decide_eq_false (by omega))) (hQ)
    · refine tl_go 2 15 [(0, .inl r)] [.inl 1] w (fun _ h => h) ?_
      exact tl_retz rfl rfl (tm_b1 (decide_eq_true (by omega))) (hQ)
theorem tb_par (d : Nat) (r : Nat) (hr : r < 34) (w : tl_W) : tl_Ev tb_P (d + 1) 3 [.inl ((r : Nat) : Int)] w (.inl (some (tm_pI r))) w := by
  refine tl_start fun Q hQ => ?_
  refine tl_go 2 3 [(0, .inl ((r : Nat) : Int))] [.inl 9, .inl ((r : Nat) : Int)] w (fun _ h => h) ?_
  refine tl_if (((r : Nat) : Int) ≤ 9) 17 6 [(0, .inl ((r : Nat) : Int))] [] (fun _ h => h) (fun hc0 => ?_) (fun hc0 => ?_)
  · refine tl_go 2 19 [(0, .inl ((r : Nat) : Int))] [.inl 3, .inl ((r : Nat) : Int)] w (fun _ h => h) ?_
    refine tl_if (((r : Nat) : Int) ≤ 3) 32 22 [(0, .inl ((r : Nat) : Int))] [] (fun _ h => h) (fun hc1 => ?_) (fun hc1 => ?_)
    · refine tl_go 1 33 [(0, .inl ((r : Nat) : Int))] [.inl ((r : Nat) : Int)] w (fun _ h => h) ?_
      refine tl_if (((r : Nat) : Int) ≤ 0) 40 36 [(0, .inl ((r : Nat) : Int))] [] (fun _ h => h) (fun hc2 => ?_) (fun hc2 => ?_)
      · refine tl_go 1 41 [(0, .inl ((r : Nat) : Int))] [.inl (-1)] w (fun _ h => h) ?_
        exact tl_reti rfl rfl (by unfold tm_pI tm_pn; (repeat' split) <;> omega) (hQ)
      · refine tl_go 2 41 [(0, .inl ((r : Nat) : Int))] [.inl 0] w (fun _ h => h) ?_
        exact tl_reti rfl rfl (by unfold tm_pI tm_pn; (repeat' split) <;> omega) (hQ)
    · refine tl_go 5 27 [(0, .inl ((r : Nat) : Int))] [.inl 2, .inl (((r : Nat) : Int) - 4), .inl 1] w (fun _ h => And.intro (by omega) h) ?_
      refine tl_div2 (r - 4) 2 rfl (by omega) (by omega) (by decide) ?_
      refine tl_go 2 41 [(0, .inl ((r : Nat) : Int))] [.inl (1 + (((r - 4) / 2 : Nat) : Int))] w (fun _ h => And.intro (by omega) h) ?_
      exact tl_reti rfl rfl (by unfold tm_pI tm_pn; (repeat' split) <;> omega) (hQ)
  · refine tl_go 5 12 [(0, .inl ((r : Nat) : Int))] [.inl 4, .inl (((r : Nat) : Int) - 10), .inl 4] w (fun _ h => And.intro (by omega) h) ?_
    refine tl_div2 (r - 10) 4 rfl (by omega) (by omega) (by decide) ?_
    refine tl_go 2 41 [(0, .inl ((r : Nat) : Int))] [.inl (4 + (((r - 10) / 4 : Nat) : Int))] w (fun _ h => And.intro (by omega) h) ?_
    exact tl_reti rfl rfl (by unfold tm_pI tm_pn; (repeat' split) <;> omega) (hQ)
theorem tm_tog_iff {a b : Nat} : tm_tog a b = true ↔ (min a b = 0 ∨ (min a b = 1 ∧ max a b < 5) ∨ (min a b = max a b ∧ (min a b = 2 ∨ min a b = 3))) := by
  unfold tm_tog
  simp only [Bool.or_eq_true, Bool.and_eq_true, beq_iff_eq, decide_eq_true_eq]

theorem tb_tog (d : Nat) (a b : Nat) (w : tl_W) : tl_Ev tb_P (d + 1) 5 [.inl ((a : Nat) : Int), .inl ((b : Nat) : Int)] w (.inl (some (tm_b (decide (tm_tog a b = true))))) w := by
  refine tl_start fun Q hQ => ?_
  refine tl_go 2 2 [(0, .inl ((a : Nat) : Int)), (1, .inl ((b : Nat) : Int))] [.inl ((b : Nat) : Int), .inl ((a : Nat) : Int)] w (fun _ h => h) ?_
  refine tl_if (((b : Nat) : Int) ≤ ((a : Nat) : Int)) 9 5 [(0, .inl ((a : Nat) : Int)), (1, .inl ((b : Nat) : Int))] [] (fun _ h => h) (fun hc0 => ?_) (fun hc0 => ?_)
  · refine tl_go 4 13 [(0, .inl ((a : Nat) : Int)), (1, .inl ((b : Nat) : Int)), (2, .inl ((b : Nat) : Int))] [.inl ((b : Nat) : Int), .inl ((a : Nat) : Int)] w (fun _ h => h) ?_
    refine tl_if (((b : Nat) : Int) ≤ ((a : Nat) : Int)) 20 16 [(0, .inl ((a : Nat) : Int)), (1, .inl ((b : Nat) : Int)), (2, .inl ((b : Nat) : Int))] [] (fun _ h => h) (fun hc1 => ?_) (fun hc1 => ?_)
    · refine tl_go 3 23 [(0, .inl ((a : Nat) : Int)), (1, .inl ((b : Nat) : Int)), (2, .inl ((b : Nat) : Int)), (3, .inl ((a : Nat) : Int))] [.inl ((b : Nat) : Int)] w (fun _ h => h) ?_
      refine tl_if (((b : Nat) : Int) = 0) 51 26 [(0, .inl ((a : Nat) : Int)), (1, .inl ((b : Nat) : Int)), (2, .inl ((b : Nat) : Int)), (3, .inl ((a : Nat) : Int))] [] (fun _ h => h) (fun hc2 => ?_) (fun hc2 => ?_)
      · refine tl_go 2 56 [(0, .inl ((a : Nat) : Int)), (1, .inl ((b : Nat) : Int)), (2, .inl ((b : Nat) : Int)), (3, .inl ((a : Nat) : Int))] [.inl 1] w (fun _ h => h) ?_
        exact tl_retz rfl rfl (tm_b1 (decide_eq_true (tm_tog_iff.mpr (by omega)))) (hQ)
      · refine tl_go 2 28 [(0, .inl ((a : Nat) : Int)), (1, .inl ((b : Nat) : Int)), (2, .inl ((b : Nat) : Int)), (3, .inl ((a : Nat) : Int))] [.inl 1, .inl ((b : Nat) : Int)] w (fun _ h => h) ?_
        refine tl_if (¬ ((b : Nat) : Int) = 1) 36 31 [(0, .inl ((a : Nat) : Int)), (1, .inl ((b : Nat) : Int)), (2, .inl ((b : Nat) : Int)), (3, .inl ((a : Nat) : Int))] [] (fun _ h => h) (fun hc3 => ?_) (fun hc3 => ?_)
        · refine tl_go 2 38 [(0, .inl ((a : Nat) : Int)), (1, .inl ((b : Nat) : Int)), (2, .inl ((b : Nat) : Int)), (3, .inl ((a : Nat) : Int))] [.inl ((a : Nat) : Int), .inl ((b : Nat) : Int)] w (fun _ h => h) ?_
          refine tl_if (¬ ((b : Nat) : Int) = ((a : Nat) : Int)) 55 41 [(0, .inl ((a : Nat) : Int)), (1, .inl ((b : Nat) : Int)), (2, .inl ((b : Nat) : Int)), (3, .inl ((a : Nat) : Int))] [] (fun _ h => h) (fun hc4 => ?_) (fun hc4 => ?_)
          · refine tl_go 1 56 [(0, .inl ((a : Nat) : Int)), (1, .inl ((b : Nat) : Int)), (2, .inl ((b : Nat) : Int)), (3, .inl ((a : Nat) : Int))] [.inl 0] w (fun _ h => h) ?_
            exact tl_retz rfl rfl (tm_b0 (decide_eq_false (fun q => by have q := tm_tog_iff.mp q; omega))) (hQ)
          · refine tl_go 2 43 [(0, .inl ((a : Nat) : Int)), (1, .inl ((b : Nat) : Int)), (2, .inl ((b : Nat) : Int)), (3, .inl ((a : Nat) : Int))] [.inl 2, .inl ((b : Nat) : Int)] w (fun _ h => h) ?_
            refine tl_if (((b : Nat) : Int) = 2) 51 46 [(0, .inl ((a : Nat) : Int)), (1, .inl ((b : Nat) : Int)), (2, .inl ((b : Nat) : Int)), (3, .inl ((a : Nat) : Int))] [] (fun _ h => h) (fun hc5 => ?_) (fun hc5 => ?_)
            · refine tl_go 2 56 [(0, .inl ((a : Nat) : Int)), (1, .inl ((b : Nat) : Int)), (2, .inl ((b : Nat) : Int)), (3, .inl ((a : Nat) : Int))] [.inl 1] w (fun _ h => h) ?_
              exact tl_retz rfl rfl (tm_b1 (decide_eq_true (tm_tog_iff.mpr (by omega)))) (hQ)
            · refine tl_go 2 48 [(0, .inl ((a : Nat) : Int)), (1, .inl ((b : Nat) : Int)), (2, .inl ((b : Nat) : Int)), (3, .inl ((a : Nat) : Int))] [.inl 3, .inl ((b : Nat) : Int)] w (fun _ h => h) ?_
              refine tl_if (¬ ((b : Nat) : Int) = 3) 55 51 [(0, .inl ((a : Nat) : Int)), (1, .inl ((b : Nat) : Int)), (2, .inl ((b : Nat) : Int)), (3, .inl ((a : Nat) : Int))] [] (fun _ h => h) (fun hc6 => ?_) (fun hc6 => ?_)
              · refine tl_go 1 56 [(0, .inl ((a : Nat) : Int)), (1, .inl ((b : Nat) : Int)), (2, .inl ((b : Nat) : Int)), (3, .inl ((a : Nat) : Int))] [.inl 0] w (fun _ h => h) ?_
                exact tl_retz rfl rfl (tm_b0 (decide_eq_false (fun q => by have q := tm_tog_iff.mp q; omega))) (hQ)
              · refine tl_go 2 56 [(0, .inl ((a : Nat) : Int)), (1, .inl ((b : Nat) : Int)), (2, .inl ((b : Nat) : Int)), (3, .inl ((a : Nat) : Int))] [.inl 1] w (fun _ h => h) ?_
                exact tl_retz rfl rfl (tm_b1 (decide_eq_true (tm_tog_iff.mpr (by omega)))) (hQ)
        · refine tl_go 2 33 [(0, .inl ((a : Nat) : Int)), (1, .inl ((b : Nat) : Int)), (2, .inl ((b : Nat) : Int)), (3, .inl ((a : Nat) : Int))] [.inl 5, .inl ((a : Nat) : Int)] w (fun _ h => h) ?_
          refine tl_if (((a : Nat) : Int) < 5) 51 36 [(0, .inl ((a : Nat) : Int)), (1, .inl ((b : Nat) : Int)), (2, .inl ((b : Nat) : Int)), (3, .inl ((a : Nat) : Int))] [] (fun _ h => h) (fun hc4 => ?_) (fun hc4 => ?_)
          · refine tl_go 2 56 [(0, .inl ((a : Nat) : Int)), (1, .inl ((b : Nat) : Int)), (2, .inl ((b : Nat) : Int)), (3, .inl ((a : Nat) : Int))] [.inl 1] w (fun _ h => h) ?_
            exact tl_retz rfl rfl (tm_b1 (decide_eq_true (tm_tog_iff.mpr (by omega)))) (hQ)
          · refine tl_go 2 38 [(0, .inl ((a : Nat) : Int)), (1, .inl ((b : Nat) : Int)), (2, .inl ((b : Nat) : Int)), (3, .inl ((a : Nat) : Int))] [.inl ((a : Nat) : Int), .inl ((b : Nat) : Int)] w (fun _ h => h) ?_
            refine tl_if (¬ ((b : Nat) : Int) = ((a : Nat) : Int)) 55 41 [(0, .inl ((a : Nat) : Int)), (1, .inl ((b : Nat) : Int)), (2, .inl ((b : Nat) : Int)), (3, .inl ((a : Nat) : Int))] [] (fun _ h => h) (fun hc5 => ?_) (fun hc5 => ?_)
            · refine tl_go 1 56 [(0, .inl ((a : Nat) : Int)), (1, .inl ((b : Nat) : Int)), (2, .inl ((b : Nat) : Int)), (3, .inl ((a : Nat) : Int))] [.inl 0] w (fun _ h => h) ?_
              exact tl_retz rfl rfl (tm_b0 (decide_eq_false (fun q => by have q := tm_tog_iff.mp q; omega))) (hQ)
            · refine tl_go 2 43 [(0, .inl ((a : Nat) : Int)), (1, .inl ((b : Nat) : Int)), (2, .inl ((b : Nat) : Int)), (3, .inl ((a : Nat) : Int))] [.inl 2, .inl ((b : Nat) : Int)] w (fun _ h => h) ?_
              refine tl_if (((b : Nat) : Int) = 2) 51 46 [(0, .inl ((a : Nat) : Int)), (1, .inl ((b : Nat) : Int)), (2, .inl ((b : Nat) : Int)), (3, .inl ((a : Nat) : Int))] [] (fun _ h => h) (fun hc6 => ?_) (fun hc6 => ?_)
              · refine tl_go 2 56 [(0, .inl ((a : Nat) : Int)), (1, .inl ((b : Nat) : Int)), (2, .inl ((b : Nat) : Int)), (3, .inl ((a : Nat) : Int))] [.inl 1] w (fun _ h => h) ?_
                exact tl_retz rfl rfl (tm_b1 (decide_eq_true (tm_tog_iff.mpr (by omega)))) (hQ)
              · refine tl_go 2 48 [(0, .inl ((a : Nat) : Int)), (1, .inl ((b : Nat) : Int)), (2, .inl ((b : Nat) : Int)), (3, .inl ((a : Nat) : Int))] [.inl 3, .inl ((b : Nat) : Int)] w (fun _ h => h) ?_
                refine tl_if (¬ ((b : Nat) : Int) = 3) 55 51 [(0, .inl ((a : Nat) : Int)), (1, .inl ((b : Nat) : Int)), (2, .inl ((b : Nat) : Int)), (3, .inl ((a : Nat) : Int))] [] (fun _ h => h) (fun hc7 => ?_) (fun hc7 => ?_)
                · refine tl_go 1 56 [(0, .inl ((a : Nat) : Int)), (1, .inl ((b : Nat) : Int)), (2, .inl ((b : Nat) : Int)), (3, .inl ((a : Nat) : Int))] [.inl 0] w (fun _ h => h) ?_
                  exact tl_retz rfl rfl (tm_b0 (decide_eq_false (fun q => by have q := tm_tog_iff.mp q; omega))) (hQ)
                · refine tl_go 2 56 [(0, .inl ((a : Nat) : Int)), (1, .inl ((b : Nat) : Int)), (2, .inl ((b : Nat) : Int)), (3, .inl ((a : Nat) : Int))] [.inl 1] w (fun _ h => h) ?_
                  exact tl_retz rfl rfl (tm_b1 (decide_eq_true (tm_tog_iff.mpr (by omega)))) (hQ)
    · refine tl_go 4 23 [(0, .inl ((a : Nat) : Int)), (1, .inl ((b : Nat) : Int)), (2, .inl ((b : Nat) : Int)), (3, .inl ((b : Nat) : Int))] [.inl ((b : Nat) : Int)] w (fun _ h => h) ?_
      refine tl_if (((b : Nat) : Int) = 0) 51 26 [(0, .inl ((a : Nat) : Int)), (1, .inl ((b : Nat) : Int)), (2, .inl ((b : Nat) : Int)), (3, .inl ((b : Nat) : Int))] [] (fun _ h => h) (fun hc2 => ?_) (fun hc2 => ?_)
      · refine tl_go 2 56 [(0, .inl ((a : Nat) : Int)), (1, .inl ((b : Nat) : Int)), (2, .inl ((b : Nat) : Int)), (3, .inl ((b : Nat) : Int))] [.inl 1] w (fun _ h => h) ?_
        exact tl_retz rfl rfl (tm_b1 (decide_eq_true (tm_tog_iff.mpr (by omega)))) (hQ)
      · refine tl_go 2 28 [(0, .inl ((a : Nat) : Int)), (1, .inl ((b : Nat) : Int)), (2, .inl ((b : Nat) : Int)), (3, .inl ((b : Nat) : Int))] [.inl 1, .inl ((b : Nat) : Int)] w (fun _ h => h) ?_
        refine tl_if (¬ ((b : Nat) : Int) = 1) 36 31 [(0, .inl ((a : Nat) : Int)), (1, .inl ((b : Nat) : Int)), (2, .inl ((b : Nat) : Int)), (3, .inl ((b : Nat) : Int))] [] (fun _ h => h) (fun hc3 => ?_) (fun hc3 => ?_)
        · refine tl_go 2 38 [(0, .inl ((a : Nat) : Int)), (1, .inl ((b : Nat) : Int)), (2, .inl ((b : Nat) : Int)), (3, .inl ((b : Nat) : Int))] [.inl ((b : Nat) : Int), .inl ((b : Nat) : Int)] w (fun _ h => h) ?_
          refine tl_if (¬ ((b : Nat) : Int) = ((b : Nat) : Int)) 55 41 [(0, .inl ((a : Nat) : Int)), (1, .inl ((b : Nat) : Int)), (2, .inl ((b : Nat) : Int)), (3, .inl ((b : Nat) : Int))] [] (fun _ h => h) (fun hc4 => ?_) (fun hc4 => ?_)
          · refine tl_go 1 56 [(0, .inl ((a : Nat) : Int)), (1, .inl ((b : Nat) : Int)), (2, .inl ((b : Nat) : Int)), (3, .inl ((b : Nat) : Int))] [.inl 0] w (fun _ h => h) ?_
            exact tl_retz rfl rfl (tm_b0 (decide_eq_false (fun q => by have q := tm_tog_iff.mp q; omega))) (hQ)
          · refine tl_go 2 43 [(0, .inl ((a : Nat) : Int)), (1, .inl ((b : Nat) : Int)), (2, .inl ((b : Nat) : Int)), (3, .inl ((b : Nat) : Int))] [.inl 2, .inl ((b : Nat) : Int)] w (fun _ h => h) ?_
            refine tl_if (((b : Nat) : Int) = 2) 51 46 [(0, .inl ((a : Nat) : Int)), (1, .inl ((b : Nat) : Int)), (2, .inl ((b : Nat) : Int)), (3, .inl ((b : Nat) : Int))] [] (fun _ h => h) (fun hc5 => ?_) (fun hc5 => ?_)
            · refine tl_go 2 56 [(0, .inl ((a : Nat) : Int)), (1, .inl ((b : Nat) : Int)), (2, .inl ((b : Nat) : Int)), (3, .inl ((b : Nat) : Int))] [.inl 1] w (fun _ h => h) ?_
              exact tl_retz rfl rfl (tm_b1 (decide_eq_true (tm_tog_iff.mpr (by omega)))) (hQ)
            · refine tl_go 2 48 [(0, .inl ((a : Nat) : Int)), (1, .inl ((b : Nat) : Int)), (2, .inl ((b : Nat) : Int)), (3, .inl ((b : Nat) : Int))] [.inl 3, .inl ((b : Nat) : Int)] w (fun _ h => h) ?_
              refine tl_if (¬ ((b : Nat) : Int) = 3) 55 51 [(0, .inl ((a : Nat) : Int)), (1, .inl ((b : Nat) : Int)), (2, .inl ((b : Nat) : Int)), (3, .inl ((b : Nat) : Int))] [] (fun _ h => h) (fun hc6 => ?_) (fun hc6 => ?_)
              · refine tl_go 1 56 [(0, .inl ((a : Nat) : Int)), (1, .inl ((b : Nat) : Int)), (2, .inl ((b : Nat) : Int)), (3, .inl ((b : Nat) : Int))] [.inl 0] w (fun _ h => h) ?_
                exact tl_retz rfl rfl (tm_b0 (decide_eq_false (fun q => by have q := tm_tog_iff.mp q; omega))) (hQ)
              · refine tl_go 2 56 [(0, .inl ((a : Nat) : Int)), (1, .inl ((b : Nat) : Int)), (2, .inl ((b : Nat) : Int)), (3, .inl ((b : Nat) : Int))] [.inl 1] w (fun _ h => h) ?_
                exact tl_retz rfl rfl (tm_b1 (decide_eq_true (tm_tog_iff.mpr (by omega)))) (hQ)
        · refine tl_go 2 33 [(0, .inl ((a : Nat) : Int)), (1, .inl ((b : Nat) : Int)), (2, .inl ((b : Nat) : Int)), (3, .inl ((b : Nat) : Int))] [.inl 5, .inl ((b : Nat) : Int)] w (fun _ h => h) ?_
          refine tl_if (((b : Nat) : Int) < 5) 51 36 [(0, .inl ((a : Nat) : Int)), (1, .inl ((b : Nat) : Int)), (2, .inl ((b : Nat) : Int)), (3, .inl ((b : Nat) : Int))] [] (fun _ h => h) (fun hc4 => ?_) (fun hc4 => ?_)
          · refine tl_go 2 56 [(0, .inl ((a : Nat) : Int)), (1, .inl ((b : Nat) : Int)), (2, .inl ((b : Nat) : Int)), (3, .inl ((b : Nat) : Int))] [.inl 1] w (fun _ h => h) ?_
            exact tl_retz rfl rfl (tm_b1 (decide_eq_true (tm_tog_iff.mpr (by omega)))) (hQ)
          · refine tl_go 2 38 [(0, .inl ((a : Nat) : Int)), (1, .inl ((b : Nat) : Int)), (2, .inl ((b : Nat) : Int)), (3, .inl ((b : Nat) : Int))] [.inl ((b : Nat) : Int), .inl ((b : Nat) : Int)] w (fun _ h => h) ?_
            refine tl_if (¬ ((b : Nat) : Int) = ((b : Nat) : Int)) 55 41 [(0, .inl ((a : Nat) : Int)), (1, .inl ((b : Nat) : Int)), (2, .inl ((b : Nat) : Int)), (3, .inl ((b : Nat) : Int))] [] (fun _ h => h) (fun hc5 => ?_) (fun hc5 => ?_)
            · refine tl_go 1 56 [(0, .inl ((a : Nat) : Int)), (1, .inl ((b : Nat) : Int)), (2, .inl ((b : Nat) : Int)), (3, .inl ((b : Nat) : Int))] [.inl 0] w (fun _ h => h) ?_
              exact tl_retz rfl rfl (tm_b0 (decide_eq_false (fun q => by have q := tm_tog_iff.mp q; omega))) (hQ)
            · refine tl_go 2 43 [(0, .inl ((a : Nat) : Int)), (1, .inl ((b : Nat) : Int)), (2, .inl ((b : Nat) : Int)), (3, .inl ((b : Nat) : Int))] [.inl 2, .inl ((b : Nat) : Int)] w (fun _ h => h) ?_
              refine tl_if (((b : Nat) : Int) = 2) 51 46 [(0, .inl ((a : Nat) : Int)), (1, .inl ((b : Nat) : Int)), (2, .inl ((b : Nat) : Int)), (3, .inl ((b : Nat) : Int))] [] (fun _ h => h) (fun hc6 => ?_) (fun hc6 => ?_)
              · refine tl_go 2 56 [(0, .inl ((a : Nat) : Int)), (1, .inl ((b : Nat) : Int)), (2, .inl ((b : Nat) : Int)), (3, .inl ((b : Nat) : Int))] [.inl 1] w (fun _ h => h) ?_
                exact tl_retz rfl rfl (tm_b1 (decide_eq_true (tm_tog_iff.mpr (by omega)))) (hQ)
              · refine tl_go 2 48 [(0, .inl ((a : Nat) : Int)), (1, .inl ((b : Nat) : Int)), (2, .inl ((b : Nat) : Int)), (3, .inl ((b : Nat) : Int))] [.inl 3, .inl ((b : Nat) : Int)] w (fun _ h => h) ?_
                refine tl_if (¬ ((b : Nat) : Int) = 3) 55 51 [(0, .inl ((a : Nat) : Int)), (1, .inl ((b : Nat) : Int)), (2, .inl ((b : Nat) : Int)), (3, .inl ((b : Nat) : Int))] [] (fun _ h => h) (fun hc7 => ?_) (fun hc7 => ?_)
                · refine tl_go 1 56 [(0, .inl ((a : Nat) : Int)), (1, .inl ((b : Nat) : Int)), (2, .inl ((b : Nat) : Int)), (3, .inl ((b : Nat) : Int))] [.inl 0] w (fun _ h => h) ?_
                  exact tl_retz rfl rfl (tm_b0 (decide_eq_false (fun q => by have q := tm_tog_iff.mp q; omega))) (hQ)
                · refine tl_go 2 56 [(0, .inl ((a : Nat) : Int)), (1, .inl ((b : Nat) : Int)), (2, .inl ((b : Nat) : Int)), (3, .inl ((b : Nat) : Int))] [.inl 1] w (fun _ h => h) ?_
                  exact tl_retz rfl rfl (tm_b1 (decide_eq_true (tm_tog_iff.mpr (by omega)))) (hQ)
  · refine tl_go 5 13 [(0, .inl ((a : Nat) : Int)), (1, .inl ((b : Nat) : Int)), (2, .inl ((a : Nat) : Int))] [.inl ((b : Nat) : Int), .inl ((a : Nat) : Int)] w (fun _ h => h) ?_
    refine tl_if (((b : Nat) : Int) ≤ ((a : Nat) : Int)) 20 16 [(0, .inl ((a : Nat) : Int)), (1, .inl ((b : Nat) : Int)), (2, .inl ((a : Nat) : Int))] [] (fun _ h => h) (fun hc1 => ?_) (fun hc1 => ?_)
    · refine tl_go 3 23 [(0, .inl ((a : Nat) : Int)), (1, .inl ((b : Nat) : Int)), (2, .inl ((a : Nat) : Int)), (3, .inl ((a : Nat) : Int))] [.inl ((a : Nat) : Int)] w (fun _ h => h) ?_
      refine tl_if (((a : Nat) : Int) = 0) 51 26 [(0, .inl ((a : Nat) : Int)), (1, .inl ((b : Nat) : Int)), (2, .inl ((a : Nat) : Int)), (3, .inl ((a : Nat) : Int))] [] (fun _ h => h) (fun hc2 => ?_) (fun hc2 => ?_)
      · refine tl_go 2 56 [(0, .inl ((a : Nat) : Int)), (1, .inl ((b : Nat) : Int)), (2, .inl ((a : Nat) : Int)), (3, .inl ((a : Nat) : Int))] [.inl 1] w (fun _ h => h) ?_
        exact tl_retz rfl rfl (tm_b1 (decide_eq_true (tm_tog_iff.mpr (by omega)))) (hQ)
      · refine tl_go 2 28 [(0, .inl ((a : Nat) : Int)), (1, .inl ((b : Nat) : Int)), (2, .inl ((a : Nat) : Int)), (3, .inl ((a : Nat) : Int))] [.inl 1, .inl ((a : Nat) : Int)] w (fun _ h => h) ?_
        refine tl_if (¬ ((a : Nat) : Int) = 1) 36 31 [(0, .inl ((a : Nat) : Int)), (1, .inl ((b : Nat) : Int)), (2, .inl ((a : Nat) : Int)), (3, .inl ((a : Nat) : Int))] [] (fun _ h => h) (fun hc3 => ?_) (fun hc3 => ?_)
        · refine tl_go 2 38 [(0, .inl ((a : Nat) : Int)), (1, .inl ((b : Nat) : Int)), (2, .inl ((a : Nat) : Int)), (3, .inl ((a : Nat) : Int))] [.inl ((a : Nat) : Int), .inl ((a : Nat) : Int)] w (fun _ h => h) ?_
          refine tl_if (¬ ((a : Nat) : Int) = ((a : Nat) : Int)) 55 41 [(0, .inl ((a : Nat) : Int)), (1, .inl ((b : Nat) : Int)), (2, .inl ((a : Nat) : Int)), (3, .inl ((a : Nat) : Int))] [] (fun _ h => h) (fun hc4 => ?_) (fun hc4 => ?_)
          · refine tl_go 1 56 [(0, .inl ((a : Nat) : Int)), (1, .inl ((b : Nat) : Int)), (2, .inl ((a : Nat) : Int)), (3, .inl ((a : Nat) : Int))] [.inl 0] w (fun _ h => h) ?_
            exact tl_retz rfl rfl (tm_b0 (decide_eq_false (fun q => by have q := tm_tog_iff.mp q; omega))) (hQ)
          · refine tl_go 2 43 [(0, .inl ((a : Nat) : Int)), (1, .inl ((b : Nat) : Int)), (2, .inl ((a : Nat) : Int)), (3, .inl ((a : Nat) : Int))] [.inl 2, .inl ((a : Nat) : Int)] w (fun _ h => h) ?_
            refine tl_if (((a : Nat) : Int) = 2) 51 46 [(0, .inl ((a : Nat) : Int)), (1, .inl ((b : Nat) : Int)), (2, .inl ((a : Nat) : Int)), (3, .inl ((a : Nat) : Int))] [] (fun _ h => h) (fun hc5 => ?_) (fun hc5 => ?_)
            · refine tl_go 2 56 [(0, .inl ((a : Nat) : Int)), (1, .inl ((b : Nat) : Int)), (2, .inl ((a : Nat) : Int)), (3, .inl ((a : Nat) : Int))] [.inl 1] w (fun _ h => h) ?_
              exact tl_retz rfl rfl (tm_b1 (decide_eq_true (tm_tog_iff.mpr (by omega)))) (hQ)
            · refine tl_go 2 48 [(0, .inl ((a : Nat) : Int)), (1, .inl ((b : Nat) : Int)), (2, .inl ((a : Nat) : Int)), (3, .inl ((a : Nat) : Int))] [.inl 3, .inl ((a : Nat) : Int)] w (fun _ h => h) ?_
              refine tl_if (¬ ((a : Nat) : Int) = 3) 55 51 [(0, .inl ((a : Nat) : Int)), (1, .inl ((b : Nat) : Int)), (2, .inl ((a : Nat) : Int)), (3, .inl ((a : Nat) : Int))] [] (fun _ h => h) (fun hc6 => ?_) (fun hc6 => ?_)
              · refine tl_go 1 56 [(0, .inl ((a : Nat) : Int)), (1, .inl ((b : Nat) : Int)), (2, .inl ((a : Nat) : Int)), (3, .inl ((a : Nat) : Int))] [.inl 0] w (fun _ h => h) ?_
                exact tl_retz rfl rfl (tm_b0 (decide_eq_false (fun q => by have q := tm_tog_iff.mp q; omega))) (hQ)
              · refine tl_go 2 56 [(0, .inl ((a : Nat) : Int)), (1, .inl ((b : Nat) : Int)), (2, .inl ((a : Nat) : Int)), (3, .inl ((a : Nat) : Int))] [.inl 1] w (fun _ h => h) ?_
                exact tl_retz rfl rfl (tm_b1 (decide_eq_true (tm_tog_iff.mpr (by omega)))) (hQ)
        · refine tl_go 2 33 [(0, .inl ((a : Nat) : Int)), (1, .inl ((b : Nat) : Int)), (2, .inl ((a : Nat) : Int)), (3, .inl ((a : Nat) : Int))] [.inl 5, .inl ((a : Nat) : Int)] w (fun _ h => h) ?_
          refine tl_if (((a : Nat) : Int) < 5) 51 36 [(0, .inl ((a : Nat) : Int)), (1, .inl ((b : Nat) : Int)), (2, .inl ((a : Nat) : Int)), (3, .inl ((a : Nat) : Int))] [] (fun _ h => h) (fun hc4 => ?_) (fun hc4 => ?_)
          · refine tl_go 2 56 [(0, .inl ((a : Nat) : Int)), (1, .inl ((b : Nat) : Int)), (2, .inl ((a : Nat) : Int)), (3, .inl ((a : Nat) : Int))] [.inl 1] w (fun _ h => h) ?_
            exact tl_retz rfl rfl (tm_b1 (decide_eq_true (tm_tog_iff.mpr (by omega)))) (hQ)
          · refine tl_go 2 38 [(0, .inl ((a : Nat) : Int)), (1, .inl ((b : Nat) : Int)), (2, .inl ((a : Nat) : Int)), (3, .inl ((a : Nat) : Int))] [.inl ((a : Nat) : Int), .inl ((a : Nat) : Int)] w (fun _ h => h) ?_
            refine tl_if (¬ ((a : Nat) : Int) = ((a : Nat) : Int)) 55 41 [(0, .inl ((a : Nat) : Int)), (1, .inl ((b : Nat) : Int)), (2, .inl ((a : Nat) : Int)), (3, .inl ((a : Nat) : Int))] [] (fun _ h => h) (fun hc5 => ?_) (fun hc5 => ?_)
            · refine tl_go 1 56 [(0, .inl ((a : Nat) : Int)), (1, .inl ((b : Nat) : Int)), (2, .inl ((a : Nat) : Int)), (3, .inl ((a : Nat) : Int))] [.inl 0] w (fun _ h => h) ?_
              exact tl_retz rfl rfl (tm_b0 (decide_eq_false (fun q => by have q := tm_tog_iff.mp q; omega))) (hQ)
            · refine tl_go 2 43 [(0, .inl ((a : Nat) : Int)), (1, .inl ((b : Nat) : Int)), (2, .inl ((a : Nat) : Int)), (3, .inl ((a : Nat) : Int))] [.inl 2, .inl ((a : Nat) : Int)] w (fun _ h => h) ?_
              refine tl_if (((a : Nat) : Int) = 2) 51 46 [(0, .inl ((a : Nat) : Int)), (1, .inl ((b : Nat) : Int)), (2, .inl ((a : Nat) : Int)), (3, .inl ((a : Nat) : Int))] [] (fun _ h => h) (fun hc6 => ?_) (fun hc6 => ?_)
              · refine tl_go 2 56 [(0, .inl ((a : Nat) : Int)), (1, .inl ((b : Nat) : Int)), (2, .inl ((a : Nat) : Int)), (3, .inl ((a : Nat) : Int))] [.inl 1] w (fun _ h => h) ?_
                exact tl_retz rfl rfl (tm_b1 (decide_eq_true (tm_tog_iff.mpr (by omega)))) (hQ)
              · refine tl_go 2 48 [(0, .inl ((a : Nat) : Int)), (1, .inl ((b : Nat) : Int)), (2, .inl ((a : Nat) : Int)), (3, .inl ((a : Nat) : Int))] [.inl 3, .inl ((a : Nat) : Int)] w (fun _ h => h) ?_
                refine tl_if (¬ ((a : Nat) : Int) = 3) 55 51 [(0, .inl ((a : Nat) : Int)), (1, .inl ((b : Nat) : Int)), (2, .inl ((a : Nat) : Int)), (3, .inl ((a : Nat) : Int))] [] (fun _ h => h) (fun hc7 => ?_) (fun hc7 => ?_)
                · refine tl_go 1 56 [(0, .inl ((a : Nat) : Int)), (1, .inl ((b : Nat) : Int)), (2, .inl ((a : Nat) : Int)), (3, .inl ((a : Nat) : Int))] [.inl 0] w (fun _ h => h) ?_
                  exact tl_retz rfl rfl (tm_b0 (decide_eq_false (fun q => by have q := tm_tog_iff.mp q; omega))) (hQ)
                · refine tl_go 2 56 [(0, .inl ((a : Nat) : Int)), (1, .inl ((b : Nat) : Int)), (2, .inl ((a : Nat) : Int)), (3, .inl ((a : Nat) : Int))] [.inl 1] w (fun _ h => h) ?_
                  exact tl_retz rfl rfl (tm_b1 (decide_eq_true (tm_tog_iff.mpr (by omega)))) (hQ)
    · refine tl_go 4 23 [(0, .inl ((a : Nat) : Int)), (1, .inl ((b : Nat) : Int)), (2, .inl ((a : Nat) : Int)), (3, .inl ((b : Nat) : Int))] [.inl ((a : Nat) : Int)] w (fun _ h => h) ?_
      refine tl_if (((a : Nat) : Int) = 0) 51 26 [(0, .inl ((a : Nat) : Int)), (1, .inl ((b : Nat) : Int)), (2, .inl ((a : Nat) : Int)), (3, .inl ((b : Nat) : Int))] [] (fun _ h => h) (fun hc2 => ?_) (fun hc2 => ?_)
      · refine tl_go 2 56 [(0, .inl ((a : Nat) : Int)), (1, .inl ((b : Nat) : Int)), (2, .inl ((a : Nat) : Int)), (3, .inl ((b : Nat) : Int))] [.inl 1] w (fun _ h => h) ?_
        exact tl_retz rfl rfl (tm_b1 (decide_eq_true (tm_tog_iff.mpr (by omega)))) (hQ)
      · refine tl_go 2 28 [(0, .inl ((a : Nat) : Int)), (1, .inl ((b : Nat) : Int)), (2, .inl ((a : Nat) : Int)), (3, .inl ((b : Nat) : Int))] [.inl 1, .inl ((a : Nat) : Int)] w (fun _ h => h) ?_
        refine tl_if (¬ ((a : Nat) : Int) = 1) 36 31 [(0, .inl ((a : Nat) : Int)), (1, .inl ((b : Nat) : Int)), (2, .inl ((a : Nat) : Int)), (3, .inl ((b : Nat) : Int))] [] (fun _ h => h) (fun hc3 => ?_) (fun hc3 => ?_)
        · refine tl_go 2 38 [(0, .inl ((a : Nat) : Int)), (1, .inl ((b : Nat) : Int)), (2, .inl ((a : Nat) : Int)), (3, .inl ((b : Nat) : Int))] [.inl ((b : Nat) : Int), .inl ((a : Nat) : Int)] w (fun _ h => h) ?_
          refine tl_if (¬ ((a : Nat) : Int) = ((b : Nat) : Int)) 55 41 [(0, .inl ((a : Nat) : Int)), (1, .inl ((b : Nat) : Int)), (2, .inl ((a : Nat) : Int)), (3, .inl ((b : Nat) : Int))] [] (fun _ h => h) (fun hc4 => ?_) (fun hc4 => ?_)
          · refine tl_go 1 56 [(0, .inl ((a : Nat) : Int)), (1, .inl ((b : Nat) : Int)), (2, .inl ((a : Nat) : Int)), (3, .inl ((b : Nat) : Int))] [.inl 0] w (fun _ h => h) ?_
            exact tl_retz rfl rfl (tm_b0 (decide_eq_false (fun q => by have q := tm_tog_iff.mp q; omega))) (hQ)
          · refine tl_go 2 43 [(0, .inl ((a : Nat) : Int)), (1, .inl ((b : Nat) : Int)), (2, .inl ((a : Nat) : Int)), (3, .inl ((b : Nat) : Int))] [.inl 2, .inl ((a : Nat) : Int)] w (fun _ h => h) ?_
            refine tl_if (((a : Nat) : Int) = 2) 51 46 [(0, .inl ((a : Nat) : Int)), (1, .inl ((b : Nat) : Int)), (2, .inl ((a : Nat) : Int)), (3, .inl ((b : Nat) : Int))] [] (fun _ h => h) (fun hc5 => ?_) (fun hc5 => ?_)
            · refine tl_go 2 56 [(0, .inl ((a : Nat) : Int)), (1, .inl ((b : Nat) : Int)), (2, .inl ((a : Nat) : Int)), (3, .inl ((b : Nat) : Int))] [.inl 1] w (fun _ h => h) ?_
              exact tl_retz rfl rfl (tm_b1 (decide_eq_true (tm_tog_iff.mpr (by omega)))) (hQ)
            · refine tl_go 2 48 [(0, .inl ((a : Nat) : Int)), (1, .inl ((b : Nat) : Int)), (2, .inl ((a : Nat) : Int)), (3, .inl ((b : Nat) : Int))] [.inl 3, .inl ((a : Nat) : Int)] w (fun _ h => h) ?_
              refine tl_if (¬ ((a : Nat) : Int) = 3) 55 51 [(0, .inl ((a : Nat) : Int)), (1, .inl ((b : Nat) : Int)), (2, .inl ((a : Nat) : Int)), (3, .inl ((b : Nat) : Int))] [] (fun _ h => h) (fun hc6 => ?_) (fun hc6 => ?_)
              · refine tl_go 1 56 [(0, .inl ((a : Nat) : Int)), (1, .inl ((b : Nat) : Int)), (2, .inl ((a : Nat) : Int)), (3, .inl ((b : Nat) : Int))] [.inl 0] w (fun _ h => h) ?_
                exact tl_retz rfl rfl (tm_b0 (decide_eq_false (fun q => by have q := tm_tog_iff.mp q; omega))) (hQ)
              · refine tl_go 2 56 [(0, .inl ((a : Nat) : Int)), (1, .inl ((b : Nat) : Int)), (2, .inl ((a : Nat) : Int)), (3, .inl ((b : Nat) : Int))] [.inl 1] w (fun _ h => h) ?_
                exact tl_retz rfl rfl (tm_b1 (decide_eq_true (tm_tog_iff.mpr (by omega)))) (hQ)
        · refine tl_go 2 33 [(0, .inl ((a : Nat) : Int)), (1, .inl ((b : Nat) : Int)), (2, .inl ((a : Nat) : Int)), (3, .inl ((b : Nat) : Int))] [.inl 5, .inl ((b : Nat) : Int)] w (fun _ h => h) ?_
          refine tl_if (((b : Nat) : Int) < 5) 51 36 [(0, .inl ((a : Nat) : Int)), (1, .inl ((b : Nat) : Int)), (2, .inl ((a : Nat) : Int)), (3, .inl ((b : Nat) : Int))] [] (fun _ h => h) (fun hc4 => ?_) (fun hc4 => ?_)
          · refine tl_go 2 56 [(0, .inl ((a : Nat) : Int)), (1, .inl ((b : Nat) : Int)), (2, .inl ((a : Nat) : Int)), (3, .inl ((b : Nat) : Int))] [.inl 1] w (fun _ h => h) ?_
            exact tl_retz rfl rfl (tm_b1 (decide_eq_true (tm_tog_iff.mpr (by omega)))) (hQ)
          · refine tl_go 2 38 [(0, .inl ((a : Nat) : Int)), (1, .inl ((b : Nat) : Int)), (2, .inl ((a : Nat) : Int)), (3, .inl ((b : Nat) : Int))] [.inl ((b : Nat) : Int), .inl ((a : Nat) : Int)] w (fun _ h => h) ?_
            refine tl_if (¬ ((a : Nat) : Int) = ((b : Nat) : Int)) 55 41 [(0, .inl ((a : Nat) : Int)), (1, .inl ((b : Nat) : Int)), (2, .inl ((a : Nat) : Int)), (3, .inl ((b : Nat) : Int))] [] (fun _ h => h) (fun hc5 => ?_) (fun hc5 => ?_)
            · refine tl_go 1 56 [(0, .inl ((a : Nat) : Int)), (1, .inl ((b : Nat) : Int)), (2, .inl ((a : Nat) : Int)), (3, .inl ((b : Nat) : Int))] [.inl 0] w (fun _ h => h) ?_
              exact tl_retz rfl rfl (tm_b0 (decide_eq_false (fun q => by have q := tm_tog_iff.mp q; omega))) (hQ)
            · refine tl_go 2 43 [(0, .inl ((a : Nat) : Int)), (1, .inl ((b : Nat) : Int)), (2, .inl ((a : Nat) : Int)), (3, .inl ((b : Nat) : Int))] [.inl 2, .inl ((a : Nat) : Int)] w (fun _ h => h) ?_
              refine tl_if (((a : Nat) : Int) = 2) 51 46 [(0, .inl ((a : Nat) : Int)), (1, .inl ((b : Nat) : Int)), (2, .inl ((a : Nat) : Int)), (3, .inl ((b : Nat) : Int))] [] (fun _ h => h) (fun hc6 => ?_) (fun hc6 => ?_)
              · refine tl_go 2 56 [(0, .inl ((a : Nat) : Int)), (1, .inl ((b : Nat) : Int)), (2, .inl ((a : Nat) : Int)), (3, .inl ((b : Nat) : Int))] [.inl 1] w (fun _ h => h) ?_
                exact tl_retz rfl rfl (tm_b1 (decide_eq_true (tm_tog_iff.mpr (by omega)))) (hQ)
              · refine tl_go 2 48 [(0, .inl ((a : Nat) : Int)), (1, .inl ((b : Nat) : Int)), (2, .inl ((a : Nat) : Int)), (3, .inl ((b : Nat) : Int))] [.inl 3, .inl ((a : Nat) : Int)] w (fun _ h => h) ?_
                refine tl_if (¬ ((a : Nat) : Int) = 3) 55 51 [(0, .inl ((a : Nat) : Int)), (1, .inl ((b : Nat) : Int)), (2, .inl ((a : Nat) : Int)), (3, .inl ((b : Nat) : Int))] [] (fun _ h => h) (fun hc7 => ?_) (fun hc7 => ?_)
                · refine tl_go 1 56 [(0, .inl ((a : Nat) : Int)), (1, .inl ((b : Nat) : Int)), (2, .inl ((a : Nat) : Int)), (3, .inl ((b : Nat) : Int))] [.inl 0] w (fun _ h => h) ?_
                  exact tl_retz rfl rfl (tm_b0 (decide_eq_false (fun q => by have q := tm_tog_iff.mp q; omega))) (hQ)
                · refine tl_go 2 56 [(0, .inl ((a : Nat) : Int)), (1, .inl ((b : Nat) : Int)), (2, .inl ((a : Nat) : Int)), (3, .inl ((b : Nat) : Int))] [.inl 1] w (fun _ h => h) ?_
                  exact tl_retz rfl rfl (tm_b1 (decide_eq_true (tm_tog_iff.mpr (by omega)))) (hQ)
theorem tb_join (d : Nat) (a b : Nat) (w : tl_W) : tl_Ev tb_P (d + 1) 6 [.inl ((a : Nat) : Int), .inl ((b : Nat) : Int)] w (.inl (some ((tm_jn a b : Nat) : Int))) w := by
  refine tl_start fun Q hQ => ?_
  refine tl_go 2 2 [(0, .inl ((a : Nat) : Int)), (1, .inl ((b : Nat) : Int))] [.inl ((b : Nat) : Int), .inl ((a : Nat) : Int)] w (fun _ h => h) ?_
  refine tl_if (((b : Nat) : Int) ≤ ((a : Nat) : Int)) 9 5 [(0, .inl ((a : Nat) : Int)), (1, .inl ((b : Nat) : Int))] [] (fun _ h => h) (fun hc0 => ?_) (fun hc0 => ?_)
  · refine tl_go 4 13 [(0, .inl ((a : Nat) : Int)), (1, .inl ((b : Nat) : Int)), (2, .inl ((b : Nat) : Int))] [.inl ((b : Nat) : Int), .inl ((a : Nat) : Int)] w (fun _ h => h) ?_
    refine tl_if (((b : Nat) : Int) ≤ ((a : Nat) : Int)) 20 16 [(0, .inl ((a : Nat) : Int)), (1, .inl ((b : Nat) : Int)), (2, .inl ((b : Nat) : Int))] [] (fun _ h => h) (fun hc1 => ?_) (fun hc1 => ?_)
    · refine tl_go 4 24 [(0, .inl ((a : Nat) : Int)), (1, .inl ((b : Nat) : Int)), (2, .inl ((b : Nat) : Int)), (3, .inl ((a : Nat) : Int))] [.inl 2, .inl ((b : Nat) : Int)] w (fun _ h => h) ?_
      refine tl_if (¬ ((b : Nat) : Int) = 2) 36 27 [(0, .inl ((a : Nat) : Int)), (1, .inl ((b : Nat) : Int)), (2, .inl ((b : Nat) : Int)), (3, .inl ((a : Nat) : Int))] [] (fun _ h => h) (fun hc2 => ?_) (fun hc2 => ?_)
      · refine tl_go 1 37 [(0, .inl ((a : Nat) : Int)), (1, .inl ((b : Nat) : Int)), (2, .inl ((b : Nat) : Int)), (3, .inl ((a : Nat) : Int))] [.inl ((a : Nat) : Int)] w (fun _ h => h) ?_
        exact tl_reti rfl rfl (by unfold tm_jn; (repeat' split) <;> omega) (hQ)
      · refine tl_go 2 29 [(0, .inl ((a : Nat) : Int)), (1, .inl ((b : Nat) : Int)), (2, .inl ((b : Nat) : Int)), (3, .inl ((a : Nat) : Int))] [.inl 3, .inl ((a : Nat) : Int)] w (fun _ h => h) ?_
        refine tl_if (¬ ((a : Nat) : Int) = 3) 36 32 [(0, .inl ((a : Nat) : Int)), (1, .inl ((b : Nat) : Int)), (2, .inl ((b : Nat) : Int)), (3, .inl ((a : Nat) : Int))] [] (fun _ h => h) (fun hc3 => ?_) (fun hc3 => ?_)
        · refine tl_go 1 37 [(0, .inl ((a : Nat) : Int)), (1, .inl ((b : Nat) : Int)), (2, .inl ((b : Nat) : Int)), (3, .inl ((a : Nat) : Int))] [.inl ((a : Nat) : Int)] w (fun _ h => h) ?_
          exact tl_reti rfl rfl (by unfold tm_jn; (repeat' split) <;> omega) (hQ)
        · refine tl_go 2 37 [(0, .inl ((a : Nat) : Int)), (1, .inl ((b : Nat) : Int)), (2, .inl ((b : Nat) : Int)), (3, .inl ((a : Nat) : Int))] [.inl 4] w (fun _ h => h) ?_
          exact tl_reti rfl rfl (by unfold tm_jn; (repeat' split) <;> omega) (hQ)
    · refine tl_go 5 24 [(0, .inl ((a : Nat) : Int)), (1, .inl ((b : Nat) : Int)), (2, .inl ((b : Nat) : Int)), (3, .inl ((b : Nat) : Int))] [.inl 2, .inl ((b : Nat) : Int)] w (fun _ h => h) ?_
      refine tl_if (¬ ((b : Nat) : Int) = 2) 36 27 [(0, .inl ((a : Nat) : Int)), (1, .inl ((b : Nat) : Int)), (2, .inl ((b : Nat) : Int)), (3, .inl ((b : Nat) : Int))] [] (fun _ h => h) (fun hc2 => ?_) (fun hc2 => ?_)
      · refine tl_go 1 37 [(0, .inl ((a : Nat) : Int)), (1, .inl ((b : Nat) : Int)), (2, .inl ((b : Nat) : Int)), (3, .inl ((b : Nat) : Int))] [.inl ((b : Nat) : Int)] w (fun _ h => h) ?_
        exact tl_reti rfl rfl (by unfold tm_jn; (repeat' split) <;> omega) (hQ)
      · refine tl_go 2 29 [(0, .inl ((a : Nat) : Int)), (1, .inl ((b : Nat) : Int)), (2, .inl ((b : Nat) : Int)), (3, .inl ((b : Nat) : Int))] [.inl 3, .inl ((b : Nat) : Int)] w (fun _ h => h) ?_
        refine tl_if (¬ ((b : Nat) : Int) = 3) 36 32 [(0, .inl ((a : Nat) : Int)), (1, .inl ((b : Nat) : Int)), (2, .inl ((b : Nat) : Int)), (3, .inl ((b : Nat) : Int))] [] (fun _ h => h) (fun hc3 => ?_) (fun hc3 => ?_)
        · refine tl_go 1 37 [(0, .inl ((a : Nat) : Int)), (1, .inl ((b : Nat) : Int)), (2, .inl ((b : Nat) : Int)), (3, .inl ((b : Nat) : Int))] [.inl ((b : Nat) : Int)] w (fun _ h => h) ?_
          exact tl_reti rfl rfl (by unfold tm_jn; (repeat' split) <;> omega) (hQ)
        · refine tl_go 2 37 [(0, .inl ((a : Nat) : Int)), (1, .inl ((b : Nat) : Int)), (2, .inl ((b : Nat) : Int)), (3, .inl ((b : Nat) : Int))] [.inl 4] w (fun _ h => h) ?_
          exact tl_reti rfl rfl (by unfold tm_jn; (repeat' split) <;> omega) (hQ)
  · refine tl_go 5 13 [(0, .inl ((a : Nat) : Int)), (1, .inl ((b : Nat) : Int)), (2, .inl ((a : Nat) : Int))] [.inl ((b : Nat) : Int), .inl ((a : Nat) : Int)] w (fun _ h => h) ?_
    refine tl_if (((b : Nat) : Int) ≤ ((a : Nat) : Int)) 20 16 [(0, .inl ((a : Nat) : Int)), (1, .inl ((b : Nat) : Int)), (2, .inl ((a : Nat) : Int))] [] (fun _ h => h) (fun hc1 => ?_) (fun hc1 => ?_)
    · refine tl_go 4 24 [(0, .inl ((a : Nat) : Int)), (1, .inl ((b : Nat) : Int)), (2, .inl ((a : Nat) : Int)), (3, .inl ((a : Nat) : Int))] [.inl 2, .inl ((a : Nat) : Int)] w (fun _ h => h) ?_
      refine tl_if (¬ ((a : Nat) : Int) = 2) 36 27 [(0, .inl ((a : Nat) : Int)), (1, .inl ((b : Nat) : Int)), (2, .inl ((a : Nat) : Int)), (3, .inl ((a : Nat) : Int))] [] (fun _ h => h) (fun hc2 => ?_) (fun hc2 => ?_)
      · refine tl_go 1 37 [(0, .inl ((a : Nat) : Int)), (1, .inl ((b : Nat) : Int)), (2, .inl ((a : Nat) : Int)), (3, .inl ((a : Nat) : Int))] [.inl ((a : Nat) : Int)] w (fun _ h => h) ?_
        exact tl_reti rfl rfl (by unfold tm_jn; (repeat' split) <;> omega) (hQ)
      · refine tl_go 2 29 [(0, .inl ((a : Nat) : Int)), (1, .inl ((b : Nat) : Int)), (2, .inl ((a : Nat) : Int)), (3, .inl ((a : Nat) : Int))] [.inl 3, .inl ((a : Nat) : Int)] w (fun _ h => h) ?_
        refine tl_if (¬ ((a : Nat) : Int) = 3) 36 32 [(0, .inl ((a : Nat) : Int)), (1, .inl ((b : Nat) : Int)), (2, .inl ((a : Nat) : Int)), (3, .inl ((a : Nat) : Int))] [] (fun _ h => h) (fun hc3 => ?_) (fun hc3 => ?_)
        · refine tl_go 1 37 [(0, .inl ((a : Nat) : Int)), (1, .inl ((b : Nat) : Int)), (2, .inl ((a : Nat) : Int)), (3, .inl ((a : Nat) : Int))] [.inl ((a : Nat) : Int)] w (fun _ h => h) ?_
          exact tl_reti rfl rfl (by unfold tm_jn; (repeat' split) <;> omega) (hQ)
        · refine tl_go 2 37 [(0, .inl ((a : Nat) : Int)), (1, .inl ((b : Nat) : Int)), (2, .inl ((a : Nat) : Int)), (3, .inl ((a : Nat) : Int))] [.inl 4] w (fun _ h => h) ?_
          exact tl_reti rfl rfl (by unfold tm_jn; (repeat' split) <;> omega) (hQ)
    · refine tl_go 5 24 [(0, .inl ((a : Nat) : Int)), (1, .inl ((b : Nat) : Int)), (2, .inl ((a : Nat) : Int)), (3, .inl ((b : Nat) : Int))] [.inl 2, .inl ((a : Nat) : Int)] w (fun _ h => h) ?_
      refine tl_if (¬ ((a : Nat) : Int) = 2) 36 27 [(0, .inl ((a : Nat) : Int)), (1, .inl ((b : Nat) : Int)), (2, .inl ((a : Nat) : Int)), (3, .inl ((b : Nat) : Int))] [] (fun _ h => h) (fun hc2 => ?_) (fun hc2 => ?_)
      · refine tl_go 1 37 [(0, .inl ((a : Nat) : Int)), (1, .inl ((b : Nat) : Int)), (2, .inl ((a : Nat) : Int)), (3, .inl ((b : Nat) : Int))] [.inl ((b : Nat) : Int)] w (fun _ h => h) ?_
        exact tl_reti rfl rfl (by unfold tm_jn; (repeat' split) <;> omega) (hQ)
      · refine tl_go 2 29 [(0, .inl ((a : Nat) : Int)), (1, .inl ((b : Nat) : Int)), (2, .inl ((a : Nat) : Int)), (3, .inl ((b : Nat) : Int))] [.inl 3, .inl ((b : Nat) : Int)] w (fun _ h => h) ?_
        refine tl_if (¬ ((b : Nat) : Int) = 3) 36 32 [(0, .inl ((a : Nat) : Int)), (1, .inl ((b : Nat) : Int)), (2, .inl ((a : Nat) : Int)), (3, .inl ((b : Nat) : Int))] [] (fun _ h => h) (fun hc3 => ?_) (fun hc3 => ?_)
        · refine tl_go 1 37 [(0, .inl ((a : Nat) : Int)), (1, .inl ((b : Nat) : Int)), (2, .inl ((a : Nat) : Int)), (3, .inl ((b : Nat) : Int))] [.inl ((b : Nat) : Int)] w (fun _ h => h) ?_
          exact tl_reti rfl rfl (by unfold tm_jn; (repeat' split) <;> omega) (hQ)
        · refine tl_go 2 37 [(0, .inl ((a : Nat) : Int)), (1, .inl ((b : Nat) : Int)), (2, .inl ((a : Nat) : Int)), (3, .inl ((b : Nat) : Int))] [.inl 4] w (fun _ h => h) ?_
          exact tl_reti rfl rfl (by unfold tm_jn; (repeat' split) <;> omega) (hQ)
theorem tb_cov (d : Nat) (a b : Nat) (w : tl_W) : tl_Ev tb_P (d + 2) 7 [.inl ((a : Nat) : Int), .inl ((b : Nat) : Int)] w (.inl (some (tm_b (decide (tm_jn a b = a))))) w := by
  refine tl_start fun Q hQ => ?_
  refine tl_go 2 2 [(0, .inl ((a : Nat) : Int)), (1, .inl ((b : Nat) : Int))] [.inl ((b : Nat) : Int), .inl ((a : Nat) : Int)] w (fun _ h => h) ?_
  refine tl_callS (as := [.inl ((a : Nat) : Int), .inl ((b : Nat) : Int)]) (rest := []) (v := some ((tm_jn a b : Nat) : Int)) (w' := w) rfl rfl rfl rfl (tb_join d a b w) (Nat.le_of_ble_eq_true rfl) rfl rfl (Nat.le_of_ble_eq_true rfl) ?_
  refine tl_go 1 6 [(0, .inl ((a : Nat) : Int)), (1, .inl ((b : Nat) : Int))] [.inl ((a : Nat) : Int), .inl ((tm_jn a b : Nat) : Int)] w (fun _ h => h) ?_
  refine tl_if (¬ ((tm_jn a b : Nat) : Int) = ((a : Nat) : Int)) 13 9 [(0, .inl ((a : Nat) : Int)), (1, .inl ((b : Nat) : Int))] [] (fun _ h => h) (fun hc0 => ?_) (fun hc0 => ?_)
  · refine tl_go 1 14 [(0, .inl ((a : Nat) : Int)), (1, .inl ((b : Nat) : Int))] [.inl 0] w (fun _ h => h) ?_
    exact tl_retz rfl rfl (tm_b0 (decide_eq_false (by omega))) (hQ)
  · refine tl_go 2 14 [(0, .inl ((a : Nat) : Int)), (1, .inl ((b : Nat) : Int))] [.inl 1] w (fun _ h => h) ?_
    exact tl_retz rfl rfl (tm_b1 (decide_eq_true (by omega))) (hQ)
theorem tb_thrown (d : Nat) (w : tl_W) : tl_Ev tb_P (d + 1) 1 [.inr 0] w (.inl (some (w 5 0))) w := by
  refine tl_start fun Q hQ => ?_
  refine tl_go 2 4 [(0, .inr 0)] [.inl (w 5 0)] w (fun _ h => And.intro rfl (And.intro (by decide) (h))) ?_
  exact tl_reti rfl rfl (rfl) (hQ)
theorem tb_refuse (d : Nat) (k : Int) (w : tl_W) : tl_Ev tb_P (d + 1) 2 [.inr 0, .inl k] w (.inl (some 0)) (tl_set w 5 0 k) := by
  refine tl_start fun Q hQ => ?_
  refine tl_go 4 6 [(0, .inr 0), (1, .inl k)] [.inl 0] (tl_set w 5 0 k) (fun _ h => And.intro rfl (And.intro (by decide) (And.intro rfl (h)))) ?_
  exact tl_reti rfl rfl (rfl) (hQ)
def tm_dp (r : Nat) : Nat := if r = 0 then 0 else if r < 4 then 1 else if r < 10 then 2 else 3
theorem tm_dp_pn {r : Nat} (h : r ≠ 0) (hr : r < 34) : tm_dp (tm_pn r) + 1 = tm_dp r := by
  unfold tm_dp tm_pn
  (repeat' split) <;> omega
theorem tm_dp3 (r : Nat) : tm_dp r ≤ 3 := by
  unfold tm_dp
  (repeat' split) <;> omega
theorem tm_dp0 {r : Nat} (h : tm_dp r = 0) : r = 0 := by
  unfold tm_dp at h
  (repeat' split at h) <;> omega

theorem tb_bl (d : Nat) (low r : Nat) (hl : low < 34) (hr : r < 34) (w : tl_W) : tl_Ev tb_P (d + 2) 4 [.inl ((low : Nat) : Int), .inl ((r : Nat) : Int)] w (.inl (some (tm_b (decide (tm_bl low r = true))))) w := by
  refine tl_start fun Q hQ => ?_
  refine tl_go 1 1 [(0, .inl ((low : Nat) : Int)), (1, .inl ((r : Nat) : Int))] [.inl ((low : Nat) : Int)] w (fun _ h => h) ?_
  refine tl_callS (as := [.inl ((low : Nat) : Int)]) (rest := []) (v := some (tm_pI low)) (w' := w) rfl rfl rfl rfl (tb_par d low hl w) (Nat.le_of_ble_eq_true rfl) rfl rfl (Nat.le_of_ble_eq_true rfl) ?_
  refine tl_go 1 5 [(0, .inl ((low : Nat) : Int)), (1, .inl ((r : Nat) : Int)), (2, .inl (tm_pI low))] [] w (fun _ h => h) ?_
  have loop : ∀ n cur : Nat, cur < 34 → tm_dp cur ≤ n → tm_bl low r = (tm_an n cur).contains r → tl_E tb_P (d + 1) 4 5 [(0, .inl (low : Int)), (1, .inl (r : Int)), (2, .inl (tm_pI cur))] [] w Q := by
    intro n
    induction n with
    | zero =>
      intro cur hcur hd hq
      have h0 := tm_dp0 (Nat.le_zero.mp hd)
      refine tl_loc (L' := [(0, .inl ((low : Nat) : Int)), (1, .inl ((r : Nat) : Int)), (2, .inl (-1))]) (by rw [h0]; rfl) ?_
      refine tl_go 1 6 [(0, .inl ((low : Nat) : Int)), (1, .inl ((r : Nat) : Int)), (2, .inl (-1))] [.inl (-1)] w (fun _ h => h) ?_
      refine tl_ift ((-1) < 0) 22 9 [(0, .inl ((low : Nat) : Int)), (1, .inl ((r : Nat) : Int)), (2, .inl (-1))] [] (fun _ h => h) (by decide) ?_
      refine tl_go 2 24 [(0, .inl ((low : Nat) : Int)), (1, .inl ((r : Nat) : Int)), (2, .inl (-1))] [.inl ((r : Nat) : Int), .inl (-1)] w (fun _ h => h) ?_
      refine tl_ift (¬ (-1) = ((r : Nat) : Int)) 31 27 [(0, .inl ((low : Nat) : Int)), (1, .inl ((r : Nat) : Int)), (2, .inl (-1))] [] (fun _ h => h) (by omega) ?_
      refine tl_go 1 32 [(0, .inl ((low : Nat) : Int)), (1, .inl ((r : Nat) : Int)), (2, .inl (-1))] [.inl 0] w (fun _ h => h) ?_
      exact tl_retz rfl rfl (tm_b0 (decide_eq_false (by rw [hq, h0]; simp [tm_an]))) (hQ)
    | succ n ih =>
      intro cur hcur hd hq
      by_cases h0 : cur = 0
      · refine tl_loc (L' := [(0, .inl ((low : Nat) : Int)), (1, .inl ((r : Nat) : Int)), (2, .inl (-1))]) (by rw [h0]; rfl) ?_
        refine tl_go 1 6 [(0, .inl ((low : Nat) : Int)), (1, .inl ((r : Nat) : Int)), (2, .inl (-1))] [.inl (-1)] w (fun _ h => h) ?_
        refine tl_ift ((-1) < 0) 22 9 [(0, .inl ((low : Nat) : Int)), (1, .inl ((r : Nat) : Int)), (2, .inl (-1))] [] (fun _ h => h) (by decide) ?_
        refine tl_go 2 24 [(0, .inl ((low : Nat) : Int)), (1, .inl ((r : Nat) : Int)), (2, .inl (-1))] [.inl ((r : Nat) : Int), .inl (-1)] w (fun _ h => h) ?_
        refine tl_ift (¬ (-1) = ((r : Nat) : Int)) 31 27 [(0, .inl ((low : Nat) : Int)), (1, .inl ((r : Nat) : Int)), (2, .inl (-1))] [] (fun _ h => h) (by omega) ?_
        refine tl_go 1 32 [(0, .inl ((low : Nat) : Int)), (1, .inl ((r : Nat) : Int)), (2, .inl (-1))] [.inl 0] w (fun _ h => h) ?_
        exact tl_retz rfl rfl (tm_b0 (decide_eq_false (by rw [hq, h0]; simp [tm_an]))) (hQ)
      · have hlt := tm_pn_lt h0
        have hdp := tm_dp_pn h0 hcur
        refine tl_loc (L' := [(0, .inl ((low : Nat) : Int)), (1, .inl ((r : Nat) : Int)), (2, .inl ((tm_pn cur : Nat) : Int))]) (by rw [tm_pI_p h0]) ?_
        refine tl_go 1 6 [(0, .inl ((low : Nat) : Int)), (1, .inl ((r : Nat) : Int)), (2, .inl ((tm_pn cur : Nat) : Int))] [.inl ((tm_pn cur : Nat) : Int)] w (fun _ h => h) ?_
        refine tl_iff (((tm_pn cur : Nat) : Int) < 0) 22 9 [(0, .inl ((low : Nat) : Int)), (1, .inl ((r : Nat) : Int)), (2, .inl ((tm_pn cur : Nat) : Int))] [] (fun _ h => h) (by omega) ?_
        refine tl_go 2 11 [(0, .inl ((low : Nat) : Int)), (1, .inl ((r : Nat) : Int)), (2, .inl ((tm_pn cur : Nat) : Int))] [.inl ((r : Nat) : Int), .inl ((tm_pn cur : Nat) : Int)] w (fun _ h => h) ?_
        refine tl_if (((tm_pn cur : Nat) : Int) = ((r : Nat) : Int)) 22 14 [(0, .inl ((low : Nat) : Int)), (1, .inl ((r : Nat) : Int)), (2, .inl ((tm_pn cur : Nat) : Int))] [] (fun _ h => h) (fun hg => ?_) (fun hg => ?_)
        · have hne : (r == tm_pn cur) = true := by simp; omega
          refine tl_go 2 24 [(0, .inl ((low : Nat) : Int)), (1, .inl ((r : Nat) : Int)), (2, .inl ((tm_pn cur : Nat) : Int))] [.inl ((r : Nat) : Int), .inl ((tm_pn cur : Nat) : Int)] w (fun _ h => h) ?_
          refine tl_iff (¬ ((tm_pn cur : Nat) : Int) = ((r : Nat) : Int)) 31 27 [(0, .inl ((low : Nat) : Int)), (1, .inl ((r : Nat) : Int)), (2, .inl ((tm_pn cur : Nat) : Int))] [] (fun _ h => h) (fun q => q hg) ?_
          refine tl_go 2 32 [(0, .inl ((low : Nat) : Int)), (1, .inl ((r : Nat) : Int)), (2, .inl ((tm_pn cur : Nat) : Int))] [.inl 1] w (fun _ h => h) ?_
          exact tl_retz rfl rfl (tm_b1 (decide_eq_true (by rw [hq, tm_an_s, if_neg h0, List.contains_cons, hne]; rfl))) (hQ)
        · have hne : (r == tm_pn cur) = false := by simp; omega
          refine tl_go 1 15 [(0, .inl ((low : Nat) : Int)), (1, .inl ((r : Nat) : Int)), (2, .inl ((tm_pn cur : Nat) : Int))] [.inl ((tm_pn cur : Nat) : Int)] w (fun _ h => h) ?_
          refine tl_callS (as := [.inl ((tm_pn cur : Nat) : Int)]) (rest := []) (v := some (tm_pI (tm_pn cur))) (w' := w) rfl rfl rfl rfl (tb_par d (tm_pn cur) (by omega) w) (Nat.le_of_ble_eq_true rfl) rfl rfl (Nat.le_of_ble_eq_true rfl) ?_
          refine tl_go 2 5 [(0, .inl ((low : Nat) : Int)), (1, .inl ((r : Nat) : Int)), (2, .inl (tm_pI (tm_pn cur)))] [] w (fun _ h => h) ?_
          exact ih (tm_pn cur) (by omega) (by omega) (by rw [hq, tm_an_s, if_neg h0, List.contains_cons, hne, Bool.false_or])
  exact loop 3 low hl (tm_dp3 low) rfl
theorem tb_fit (d : Nat) (t r m : Nat) (ht : t < 8) (hr : r < 34) {M : Nat → Nat} (w : tl_W) (hM : ∀ i, i < 272 → w 0 i = (M i : Int)) : tl_Ev tb_P (d + 2) 10 [.inr 0, .inl ((t : Nat) : Int), .inl ((r : Nat) : Int), .inl ((m : Nat) : Int)] w (.inl (some (tm_b (decide (tm_fits M t r m = true))))) w := by
  refine tl_start fun Q hQ => ?_
  refine tl_go 4 6 [(0, .inr 0), (1, .inl ((t : Nat) : Int)), (2, .inl ((r : Nat) : Int)), (3, .inl ((m : Nat) : Int)), (4, .inl 1), (5, .inl 0)] [] w (fun _ h => h) ?_
  have loop : ∀ k i : Nat, i + k = 8 → tl_E tb_P (d + 1) 10 6 [(0, .inr 0), (1, .inl (t : Int)), (2, .inl (r : Int)), (3, .inl (m : Int)), (4, .inl (tm_b (decide ((List.range i).all (fun u => u == t || tm_tog m (M (34 * u + r))) = true)))), (5, .inl (i : Int))] [] w Q := by
    intro k
    induction k with
    | zero =>
      intro i hi
      refine tl_go 2 10 [(0, .inr 0), (1, .inl ((t : Nat) : Int)), (2, .inl ((r : Nat) : Int)), (3, .inl ((m : Nat) : Int)), (4, .inl (tm_b (decide ((List.range i).all (fun u => u == t || tm_tog m (M (34 * u + r))) = true)))), (5, .inl ((i : Nat) : Int))] [.inl 8, .inl ((i : Nat) : Int)] w (fun _ h => h) ?_
      refine tl_ift (8 ≤ ((i : Nat) : Int)) 56 13 [(0, .inr 0), (1, .inl ((t : Nat) : Int)), (2, .inl ((r : Nat) : Int)), (3, .inl ((m : Nat) : Int)), (4, .inl (tm_b (decide ((List.range i).all (fun u => u == t || tm_tog m (M (34 * u + r))) = true)))), (5, .inl ((i : Nat) : Int))] [] (fun _ h => h) (by omega) ?_
      refine tl_go 1 58 [(0, .inr 0), (1, .inl ((t : Nat) : Int)), (2, .inl ((r : Nat) : Int)), (3, .inl ((m : Nat) : Int)), (4, .inl (tm_b (decide ((List.range i).all (fun u => u == t || tm_tog m (M (34 * u + r))) = true)))), (5, .inl ((i : Nat) : Int))] [.inl (tm_b (decide ((List.range i).all (fun u => u == t || tm_tog m (M (34 * u + r))) = true)))] w (fun _ h => h) ?_
      exact tl_retz rfl rfl (⟨by rw [show i = 8 by omega]; rfl, tm_b01 _⟩) (hQ)
    | succ k ih =>
      intro i hi
      refine tl_go 2 10 [(0, .inr 0), (1, .inl ((t : Nat) : Int)), (2, .inl ((r : Nat) : Int)), (3, .inl ((m : Nat) : Int)), (4, .inl (tm_b (decide ((List.range i).all (fun u => u == t || tm_tog m (M (34 * u + r))) = true)))), (5, .inl ((i : Nat) : Int))] [.inl 8, .inl ((i : Nat) : Int)] w (fun _ h => h) ?_
      refine tl_iff (8 ≤ ((i : Nat) : Int)) 56 13 [(0, .inr 0), (1, .inl ((t : Nat) : Int)), (2, .inl ((r : Nat) : Int)), (3, .inl ((m : Nat) : Int)), (4, .inl (tm_b (decide ((List.range i).all (fun u => u == t || tm_tog m (M (34 * u + r))) = true)))), (5, .inl ((i : Nat) : Int))] [] (fun _ h => h) (by omega) ?_
      refine tl_go 1 15 [(0, .inr 0), (1, .inl ((t : Nat) : Int)), (2, .inl ((r : Nat) : Int)), (3, .inl ((m : Nat) : Int)), (4, .inl (tm_b (decide ((List.range i).all (fun u => u == t || tm_tog m (M (34 * u + r))) = true)))), (5, .inl ((i : Nat) : Int))] [.inl (tm_b (decide ((List.range i).all (fun u => u == t || tm_tog m (M (34 * u + r))) = true)))] w (fun _ h => h) ?_
      refine tl_if ((tm_b (decide ((List.range i).all (fun u => u == t || tm_tog m (M (34 * u + r))) = true))) = 0) 47 18 [(0, .inr 0), (1, .inl ((t : Nat) : Int)), (2, .inl ((r : Nat) : Int)), (3, .inl ((m : Nat) : Int)), (4, .inl (tm_b (decide ((List.range i).all (fun u => u == t || tm_tog m (M (34 * u + r))) = true)))), (5, .inl ((i : Nat) : Int))] [] (fun _ h => h) (fun hc => ?_) (fun hc => ?_)
      · have hc := of_decide_eq_false (tm_beq hc)
        have e1 : (0 : Int) = tm_b (decide ((List.range (i + 1)).all (fun u => u == t || tm_tog m (M (34 * u + r))) = true)) := (tm_b0 (decide_eq_false (fun q => hc (by rw [tm_range_all, Bool.and_eq_true] at q; exact q.1)))).1
        refine tl_go 2 50 [(0, .inr 0), (1, .inl ((t : Nat) : Int)), (2, .inl ((r : Nat) : Int)), (3, .inl ((m : Nat) : Int)), (4, .inl 0), (5, .inl ((i : Nat) : Int))] [] w (fun _ h => h) ?_
        refine tl_loc (L' := [(0, .inr 0), (1, .inl ((t : Nat) : Int)), (2, .inl ((r : Nat) : Int)), (3, .inl ((m : Nat) : Int)), (4, .inl (tm_b (decide ((List.range (i + 1)).all (fun u => u == t || tm_tog m (M (34 * u + r))) = true)))), (5, .inl ((i : Nat) : Int))]) (by rw [e1]) ?_
        refine tl_go 2 6 [(0, .inr 0), (1, .inl ((t : Nat) : Int)), (2, .inl ((r : Nat) : Int)), (3, .inl ((m : Nat) : Int)), (4, .inl (tm_b (decide ((List.range (i + 1)).all (fun u => u == t || tm_tog m (M (34 * u + r))) = true)))), (5, .inl (((i : Nat) : Int) + 1))] [] w (fun _ h => And.intro (by omega) h) ?_
        exact ih (i + 1) (by omega)
      · have hc := of_decide_eq_true (tm_bne hc)
        refine tl_go 2 21 [(0, .inr 0), (1, .inl ((t : Nat) : Int)), (2, .inl ((r : Nat) : Int)), (3, .inl ((m : Nat) : Int)), (4, .inl (tm_b (decide ((List.range i).all (fun u => u == t || tm_tog m (M (34 * u + r))) = true)))), (5, .inl ((i : Nat) : Int))] [.inl ((t : Nat) : Int), .inl ((i : Nat) : Int)] w (fun _ h => h) ?_
        refine tl_if (((i : Nat) : Int) = ((t : Nat) : Int)) 43 24 [(0, .inr 0), (1, .inl ((t : Nat) : Int)), (2, .inl ((r : Nat) : Int)), (3, .inl ((m : Nat) : Int)), (4, .inl (tm_b (decide ((List.range i).all (fun u => u == t || tm_tog m (M (34 * u + r))) = true)))), (5, .inl ((i : Nat) : Int))] [] (fun _ h => h) (fun he => ?_) (fun he => ?_)
        · have e1 : (1 : Int) = tm_b (decide ((List.range (i + 1)).all (fun u => u == t || tm_tog m (M (34 * u + r))) = true)) := (tm_b1 (decide_eq_true (by rw [tm_range_all, hc, show i = t by omega]; simp))).1
          refine tl_go 3 50 [(0, .inr 0), (1, .inl ((t : Nat) : Int)), (2, .inl ((r : Nat) : Int)), (3, .inl ((m : Nat) : Int)), (4, .inl 1), (5, .inl ((i : Nat) : Int))] [] w (fun _ h => h) ?_
          refine tl_loc (L' := [(0, .inr 0), (1, .inl ((t : Nat) : Int)), (2, .inl ((r : Nat) : Int)), (3, .inl ((m : Nat) : Int)), (4, .inl (tm_b (decide ((List.range (i + 1)).all (fun u => u == t || tm_tog m (M (34 * u + r))) = true)))), (5, .inl ((i : Nat) : Int))]) (by rw [e1]) ?_
          refine tl_go 2 6 [(0, .inr 0), (1, .inl ((t : Nat) : Int)), (2, .inl ((r : Nat) : Int)), (3, .inl ((m : Nat) : Int)), (4, .inl (tm_b (decide ((List.range (i + 1)).all (fun u => u == t || tm_tog m (M (34 * u + r))) = true)))), (5, .inl (((i : Nat) : Int) + 1))] [] w (fun _ h => And.intro (by omega) h) ?_
          exact ih (i + 1) (by omega)
        · refine tl_go 8 36 [(0, .inr 0), (1, .inl ((t : Nat) : Int)), (2, .inl ((r : Nat) : Int)), (3, .inl ((m : Nat) : Int)), (4, .inl (tm_b (decide ((List.range i).all (fun u => u == t || tm_tog m (M (34 * u + r))) = true)))), (5, .inl ((i : Nat) : Int))] [.inl ((34 * ((i : Nat) : Int)) + ((r : Nat) : Int)), .inr 1, .inl ((m : Nat) : Int)] w (fun _ h => And.intro rfl (And.intro (by decide) (And.intro (by omega) (And.intro (by omega) h)))) ?_
          refine tl_ald (34 * i + r) 272 (k := 0) rfl (by omega) rfl (by omega) ?_
          refine tl_top (y := ((M (34 * i + r) : Nat) : Int)) (hM _ (by omega)) ?_
          refine tl_callS (as := [.inl ((m : Nat) : Int), .inl ((M (34 * i + r) : Nat) : Int)]) (rest := []) (v := some (tm_b (decide (tm_tog m (M (34 * i + r)) = true)))) (w' := w) rfl rfl rfl rfl (tb_tog d m (M (34 * i + r)) w) (Nat.le_of_ble_eq_true rfl) rfl rfl (Nat.le_of_ble_eq_true rfl) ?_
          refine tl_if ((tm_b (decide (tm_tog m (M (34 * i + r)) = true))) = 0) 47 43 [(0, .inr 0), (1, .inl ((t : Nat) : Int)), (2, .inl ((r : Nat) : Int)), (3, .inl ((m : Nat) : Int)), (4, .inl (tm_b (decide ((List.range i).all (fun u => u == t || tm_tog m (M (34 * u + r))) = true)))), (5, .inl ((i : Nat) : Int))] [] (fun _ h => h) (fun hg => ?_) (fun hg => ?_)
          · have hg := of_decide_eq_false (tm_beq hg)
            have e1 : (0 : Int) = tm_b (decide ((List.range (i + 1)).all (fun u => u == t || tm_tog m (M (34 * u + r))) = true)) := (tm_b0 (decide_eq_false (fun q => by rw [tm_range_all, Bool.and_eq_true, Bool.or_eq_true, beq_iff_eq] at q; exact q.2.elim (fun z => he (by rw [z])) hg))).1
            refine tl_go 2 50 [(0, .inr 0), (1, .inl ((t : Nat) : Int)), (2, .inl ((r : Nat) : Int)), (3, .inl ((m : Nat) : Int)), (4, .inl 0), (5, .inl ((i : Nat) : Int))] [] w (fun _ h => h) ?_
            refine tl_loc (L' := [(0, .inr 0), (1, .inl ((t : Nat) : Int)), (2, .inl ((r : Nat) : Int)), (3, .inl ((m : Nat) : Int)), (4, .inl (tm_b (decide ((List.range (i + 1)).all (fun u => u == t || tm_tog m (M (34 * u + r))) = true)))), (5, .inl ((i : Nat) : Int))]) (by rw [e1]) ?_
            refine tl_go 2 6 [(0, .inr 0), (1, .inl ((t : Nat) : Int)), (2, .inl ((r : Nat) : Int)), (3, .inl ((m : Nat) : Int)), (4, .inl (tm_b (decide ((List.range (i + 1)).all (fun u => u == t || tm_tog m (M (34 * u + r))) = true)))), (5, .inl (((i : Nat) : Int) + 1))] [] w (fun _ h => And.intro (by omega) h) ?_
            exact ih (i + 1) (by omega)
          · have hg := of_decide_eq_true (tm_bne hg)
            have e1 : (1 : Int) = tm_b (decide ((List.range (i + 1)).all (fun u => u == t || tm_tog m (M (34 * u + r))) = true)) := (tm_b1 (decide_eq_true (by rw [tm_range_all, hc, hg]; simp))).1
            refine tl_go 3 50 [(0, .inr 0), (1, .inl ((t : Nat) : Int)), (2, .inl ((r : Nat) : Int)), (3, .inl ((m : Nat) : Int)), (4, .inl 1), (5, .inl ((i : Nat) : Int))] [] w (fun _ h => h) ?_
            refine tl_loc (L' := [(0, .inr 0), (1, .inl ((t : Nat) : Int)), (2, .inl ((r : Nat) : Int)), (3, .inl ((m : Nat) : Int)), (4, .inl (tm_b (decide ((List.range (i + 1)).all (fun u => u == t || tm_tog m (M (34 * u + r))) = true)))), (5, .inl ((i : Nat) : Int))]) (by rw [e1]) ?_
            refine tl_go 2 6 [(0, .inr 0), (1, .inl ((t : Nat) : Int)), (2, .inl ((r : Nat) : Int)), (3, .inl ((m : Nat) : Int)), (4, .inl (tm_b (decide ((List.range (i + 1)).all (fun u => u == t || tm_tog m (M (34 * u + r))) = true)))), (5, .inl (((i : Nat) : Int) + 1))] [] w (fun _ h => And.intro (by omega) h) ?_
            exact ih (i + 1) (by omega)
  exact loop 8 0 rfl
def tm_RM (w : tl_W) (σ : tm_S) : Prop := (∀ i, i < 272 → w 0 i = (σ.1 i : Int)) ∧ (∀ t, t < 8 → w 1 t = (σ.2.1 t : Int) ∧ w 2 t = (σ.2.2.1 t : Int)) ∧ (∀ r, r < 34 → w 4 r = ((σ.2.2.2 r).length : Int) ∧ ∀ k t : Nat, (σ.2.2.2 r)[k]? = some t → w 3 (8 * r + k) = (t : Int))
/-- a world of leaving: positions k to i of r's queue have moved -/
def tm_lw (w : tl_W) (r k i : Nat) : tl_W := fun a => if a = 4 then va_up (w 4) r (w 4 r - 1) else if a = 3 then (fun x => if 8 * r + k ≤ x ∧ x < 8 * r + i then w 3 (x + 1) else w 3 x) else w a
theorem tm_lw_4 (w : tl_W) (r k i : Nat) : tm_lw w r k i 4 = va_up (w 4) r (w 4 r - 1) := rfl
theorem tm_lw_3 (w : tl_W) (r k i x : Nat) : tm_lw w r k i 3 x = if 8 * r + k ≤ x ∧ x < 8 * r + i then w 3 (x + 1) else w 3 x := rfl
theorem tm_lw_n {w : tl_W} {r k i a : Nat} (h4 : a ≠ 4) (h3 : a ≠ 3) : tm_lw w r k i a = w a := by unfold tm_lw; rw [if_neg h4, if_neg h3]
theorem tm_lw_0 (w : tl_W) (r k : Nat) : tl_set w 4 r (w 4 r - 1) = tm_lw w r k k := by
  funext a x
  unfold tl_set tm_lw
  by_cases h4 : a = 4
  · rw [if_pos h4, if_pos h4]
  · rw [if_neg h4, if_neg h4]
    by_cases h3 : a = 3
    · rw [if_pos h3, h3]
      show w 3 x = if 8 * r + k ≤ x ∧ x < 8 * r + k then w 3 (x + 1) else w 3 x
      rw [if_neg (by omega)]
    · rw [if_neg h3]
theorem tm_lw_s {w : tl_W} {r k i : Nat} (h : k ≤ i) : tl_set (tm_lw w r k i) 3 (8 * r + i) (w 3 (8 * r + i + 1)) = tm_lw w r k (i + 1) := by
  funext a x
  unfold tl_set
  by_cases h3 : a = 3
  · rw [if_pos h3, h3, tm_lw_3]
    unfold va_up
    by_cases hx : x = 8 * r + i
    · rw [if_pos hx, hx, if_pos (by omega)]
    · rw [if_neg hx, tm_lw_3]
      by_cases hc : 8 * r + k ≤ x ∧ x < 8 * r + i
      · rw [if_pos hc, if_pos (by omega)]
      · rw [if_neg hc, if_neg (by omega)]
  · rw [if_neg h3]
    by_cases h4 : a = 4
    · rw [h4, tm_lw_4, tm_lw_4]
    · rw [tm_lw_n h4 h3, tm_lw_n h4 h3]
theorem tm_lw_RM {w : tl_W} {σ : tm_S} (hR : tm_RM w σ) {r k : Nat} (hr : r < 34) (hk : k < (σ.2.2.2 r).length) (h8 : ∀ c, c < 34 → (σ.2.2.2 c).length ≤ 8) : tm_RM (tm_lw w r k ((σ.2.2.2 r).length - 1)) (σ.1, σ.2.1, σ.2.2.1, va_up σ.2.2.2 r ((σ.2.2.2 r).eraseIdx k)) := by
  refine ⟨fun i hi => ?_, fun u hu => ⟨?_, ?_⟩, fun c hc => ⟨?_, fun j u hj => ?_⟩⟩
  · rw [tm_lw_n (by decide) (by decide)]; exact hR.1 i hi
  · rw [tm_lw_n (by decide) (by decide)]; exact (hR.2.1 u hu).1
  · rw [tm_lw_n (by decide) (by decide)]; exact (hR.2.1 u hu).2
  · rw [tm_lw_4]
    show va_up (w 4) r _ c = ((va_up σ.2.2.2 r _ c).length : Int)
    by_cases e : c = r
    · rw [e, va_up_s, va_up_s, List.length_eraseIdx, if_pos hk, (hR.2.2 r hr).1]
      omega
    · rw [va_up_n _ _ e, va_up_n _ _ e]; exact (hR.2.2 c hc).1
  · rw [tm_lw_3]
    have hj : (va_up σ.2.2.2 r ((σ.2.2.2 r).eraseIdx k) c)[j]? = some u := hj
    by_cases e : c = r
    · subst e
      rw [va_up_s] at hj
      by_cases hlt : j < k
      · rw [List.getElem?_eraseIdx_of_lt hlt] at hj
        rw [if_neg (by omega)]
        exact (hR.2.2 c hc).2 j u hj
      · rw [List.getElem?_eraseIdx_of_ge (by omega)] at hj
        have h1 := (List.getElem?_eq_some_iff.mp hj).1
        rw [if_pos (by omega)]
        exact (hR.2.2 c hc).2 (j + 1) u hj
    · rw [va_up_n _ _ e] at hj
      have h1 := (List.getElem?_eq_some_iff.mp hj).1
      have h2 := h8 c hc
      have h3 := h8 r hr
      rw [if_neg (by omega)]
      exact (hR.2.2 c hc).2 j u hj

theorem tb_lv (d : Nat) {r k : Nat} {σ : tm_S} (w : tl_W) (hR : tm_RM w σ) (hr : r < 34) (hk : k < (σ.2.2.2 r).length) (h8 : (σ.2.2.2 r).length ≤ 8) : tl_Ev tb_P (d + 1) 11 [.inr 0, .inl ((r : Nat) : Int), .inl ((k : Nat) : Int)] w (.inl (none)) (tm_lw w r k ((σ.2.2.2 r).length - 1)) := by
  refine tl_start fun Q hQ => ?_
  have hl := (hR.2.2 r hr).1
  refine tl_go 4 6 [(0, .inr 0), (1, .inl ((r : Nat) : Int)), (2, .inl ((k : Nat) : Int))] [.inl ((r : Nat) : Int), .inr 5, .inl ((r : Nat) : Int), .inr 5] w (fun _ h => And.intro rfl (And.intro (by decide) (h))) ?_
  refine tl_ald (r) 34 (k := 4) rfl (by omega) rfl (by omega) ?_
  refine tl_go 2 9 [(0, .inr 0), (1, .inl ((r : Nat) : Int)), (2, .inl ((k : Nat) : Int))] [.inl ((w 4 (r)) - 1), .inl ((r : Nat) : Int), .inr 5] w (fun _ h => And.intro (by omega) h) ?_
  refine tl_ast (r) 34 (k := 4) rfl (by decide) (by omega) rfl (by omega) ?_
  refine tl_wld (w' := (tm_lw w r k k)) (tm_lw_0 w r k) ?_
  refine tl_go 2 12 [(0, .inr 0), (1, .inl ((r : Nat) : Int)), (2, .inl ((k : Nat) : Int)), (3, .inl ((k : Nat) : Int))] [] (tm_lw w r k k) (fun _ h => h) ?_
  have loop : ∀ m i : Nat, i + m = (σ.2.2.2 r).length - 1 → k ≤ i → tl_E tb_P d 11 12 [(0, .inr 0), (1, .inl (r : Int)), (2, .inl (k : Int)), (3, .inl (i : Int))] [] (tm_lw w r k i) Q := by
    intro m
    induction m with
    | zero =>
      intro i hi hki
      rw [show (σ.2.2.2 r).length - 1 = i by omega] at hQ
      refine tl_go 4 18 [(0, .inr 0), (1, .inl ((r : Nat) : Int)), (2, .inl ((k : Nat) : Int)), (3, .inl ((i : Nat) : Int))] [.inl ((r : Nat) : Int), .inr 5, .inl ((i : Nat) : Int)] (tm_lw w r k i) (fun _ h => And.intro rfl (And.intro (by decide) (h))) ?_
      refine tl_ald (r) 34 (k := 4) rfl (by omega) rfl (by omega) ?_
      refine tl_top (y := (((σ.2.2.2 r).length - 1 : Nat) : Int)) (by rw [tm_lw_4, va_up_s, hl]; omega) ?_
      refine tl_ift ((((σ.2.2.2 r).length - 1 : Nat) : Int) ≤ ((i : Nat) : Int)) 52 22 [(0, .inr 0), (1, .inl ((r : Nat) : Int)), (2, .inl ((k : Nat) : Int)), (3, .inl ((i : Nat) : Int))] [] (fun _ h => h) (by omega) ?_
      exact tl_retv rfl rfl (hQ)
    | succ m ih =>
      intro i hi hki
      refine tl_go 4 18 [(0, .inr 0), (1, .inl ((r : Nat) : Int)), (2, .inl ((k : Nat) : Int)), (3, .inl ((i : Nat) : Int))] [.inl ((r : Nat) : Int), .inr 5, .inl ((i : Nat) : Int)] (tm_lw w r k i) (fun _ h => And.intro rfl (And.intro (by decide) (h))) ?_
      refine tl_ald (r) 34 (k := 4) rfl (by omega) rfl (by omega) ?_
      refine tl_top (y := (((σ.2.2.2 r).length - 1 : Nat) : Int)) (by rw [tm_lw_4, va_up_s, hl]; omega) ?_
      refine tl_iff ((((σ.2.2.2 r).length - 1 : Nat) : Int) ≤ ((i : Nat) : Int)) 52 22 [(0, .inr 0), (1, .inl ((r : Nat) : Int)), (2, .inl ((k : Nat) : Int)), (3, .inl ((i : Nat) : Int))] [] (fun _ h => h) (by omega) ?_
      refine tl_go 16 44 [(0, .inr 0), (1, .inl ((r : Nat) : Int)), (2, .inl ((k : Nat) : Int)), (3, .inl ((i : Nat) : Int))] [.inl (((8 * ((r : Nat) : Int)) + ((i : Nat) : Int)) + 1), .inr 4, .inl ((8 * ((r : Nat) : Int)) + ((i : Nat) : Int)), .inr 4] (tm_lw w r k i) (fun _ h => And.intro rfl (And.intro (by decide) (And.intro (by omega) (And.intro (by omega) (And.intro rfl (And.intro (by decide) (And.intro (by omega) (And.intro (by omega) (And.intro (by omega) h))))))))) ?_
      refine tl_ald (8 * r + i + 1) 272 (k := 3) rfl (by omega) rfl (by omega) ?_
      refine tl_top (y := (w 3 (8 * r + i + 1))) (by rw [tm_lw_3, if_neg (by omega)]) ?_
      refine tl_ast (8 * r + i) 272 (k := 3) rfl (by decide) (by omega) rfl (by omega) ?_
      refine tl_wld (w' := (tm_lw w r k (i + 1))) (tm_lw_s hki) ?_
      refine tl_go 2 12 [(0, .inr 0), (1, .inl ((r : Nat) : Int)), (2, .inl ((k : Nat) : Int)), (3, .inl (((i : Nat) : Int) + 1))] [] (tm_lw w r k (i + 1)) (fun _ h => And.intro (by omega) h) ?_
      exact ih (i + 1) (by omega) (by omega)
  exact loop ((σ.2.2.2 r).length - 1 - k) k (by omega) (Nat.le_refl _)
theorem tb_po (d : Nat) (t r : Nat) {σ : tm_S} (w : tl_W) (hR : tm_RM w σ) (hr : r < 34) (hn : (σ.2.2.2 r).Nodup) (h8 : (σ.2.2.2 r).length ≤ 8) : tl_Ev tb_P (d + 1) 13 [.inr 0, .inl ((t : Nat) : Int), .inl ((r : Nat) : Int)] w (.inl (some (((σ.2.2.2 r).idxOf t : Nat) : Int))) w := by
  refine tl_start fun Q hQ => ?_
  have hl := (hR.2.2 r hr).1
  refine tl_go 2 2 [(0, .inr 0), (1, .inl ((t : Nat) : Int)), (2, .inl ((r : Nat) : Int)), (3, .inl 0)] [] w (fun _ h => h) ?_
  have loop : ∀ m i : Nat, i + m = (σ.2.2.2 r).length → (∀ j, j < i → (σ.2.2.2 r)[j]? ≠ some t) → tl_E tb_P d 13 2 [(0, .inr 0), (1, .inl (t : Int)), (2, .inl (r : Int)), (3, .inl (i : Int))] [] w Q := by
    intro m
    induction m with
    | zero =>
      intro i hi hall
      refine tl_go 4 8 [(0, .inr 0), (1, .inl ((t : Nat) : Int)), (2, .inl ((r : Nat) : Int)), (3, .inl ((i : Nat) : Int))] [.inl ((r : Nat) : Int), .inr 5, .inl ((i : Nat) : Int)] w (fun _ h => And.intro rfl (And.intro (by decide) (h))) ?_
      refine tl_ald (r) 34 (k := 4) rfl (by omega) rfl (by omega) ?_
      refine tl_top (y := (((σ.2.2.2 r).length : Nat) : Int)) (hl) ?_
      refine tl_ift ((((σ.2.2.2 r).length : Nat) : Int) ≤ ((i : Nat) : Int)) 33 12 [(0, .inr 0), (1, .inl ((t : Nat) : Int)), (2, .inl ((r : Nat) : Int)), (3, .inl ((i : Nat) : Int))] [] (fun _ h => h) (by omega) ?_
      refine tl_go 1 34 [(0, .inr 0), (1, .inl ((t : Nat) : Int)), (2, .inl ((r : Nat) : Int)), (3, .inl ((i : Nat) : Int))] [.inl ((i : Nat) : Int)] w (fun _ h => h) ?_
      exact tl_reti rfl rfl (by rw [List.idxOf_eq_length (fun q => by obtain ⟨j, hj⟩ := List.getElem?_of_mem q; exact hall j (by have := (List.getElem?_eq_some_iff.mp hj).1; omega) hj)]; omega) (hQ)
    | succ m ih =>
      intro i hi hall
      obtain ⟨u, hu⟩ : ∃ u, (σ.2.2.2 r)[i]? = some u := ⟨_, List.getElem?_eq_getElem (by omega)⟩
      refine tl_go 4 8 [(0, .inr 0), (1, .inl ((t : Nat) : Int)), (2, .inl ((r : Nat) : Int)), (3, .inl ((i : Nat) : Int))] [.inl ((r : Nat) : Int), .inr 5, .inl ((i : Nat) : Int)] w (fun _ h => And.intro rfl (And.intro (by decide) (h))) ?_
      refine tl_ald (r) 34 (k := 4) rfl (by omega) rfl (by omega) ?_
      refine tl_top (y := (((σ.2.2.2 r).length : Nat) : Int)) (hl) ?_
      refine tl_iff ((((σ.2.2.2 r).length : Nat) : Int) ≤ ((i : Nat) : Int)) 33 12 [(0, .inr 0), (1, .inl ((t : Nat) : Int)), (2, .inl ((r : Nat) : Int)), (3, .inl ((i : Nat) : Int))] [] (fun _ h => h) (by omega) ?_
      refine tl_go 7 22 [(0, .inr 0), (1, .inl ((t : Nat) : Int)), (2, .inl ((r : Nat) : Int)), (3, .inl ((i : Nat) : Int))] [.inl ((8 * ((r : Nat) : Int)) + ((i : Nat) : Int)), .inr 4] w (fun _ h => And.intro rfl (And.intro (by decide) (And.intro (by omega) (And.intro (by omega) h)))) ?_
      refine tl_ald (8 * r + i) 272 (k := 3) rfl (by omega) rfl (by omega) ?_
      refine tl_top (y := ((u : Nat) : Int)) ((hR.2.2 r hr).2 i u hu) ?_
      refine tl_go 1 24 [(0, .inr 0), (1, .inl ((t : Nat) : Int)), (2, .inl ((r : Nat) : Int)), (3, .inl ((i : Nat) : Int))] [.inl ((t : Nat) : Int), .inl ((u : Nat) : Int)] w (fun _ h => h) ?_
      refine tl_if (((u : Nat) : Int) = ((t : Nat) : Int)) 33 27 [(0, .inr 0), (1, .inl ((t : Nat) : Int)), (2, .inl ((r : Nat) : Int)), (3, .inl ((i : Nat) : Int))] [] (fun _ h => h) (fun hc => ?_) (fun hc => ?_)
      · have hu : (σ.2.2.2 r)[i]? = some t := by rw [hu, show u = t by omega]
        refine tl_go 1 34 [(0, .inr 0), (1, .inl ((t : Nat) : Int)), (2, .inl ((r : Nat) : Int)), (3, .inl ((i : Nat) : Int))] [.inl ((i : Nat) : Int)] w (fun _ h => h) ?_
        exact tl_reti rfl rfl (by rw [tm_ix hn hu]) (hQ)
      · refine tl_go 2 2 [(0, .inr 0), (1, .inl ((t : Nat) : Int)), (2, .inl ((r : Nat) : Int)), (3, .inl (((i : Nat) : Int) + 1))] [] w (fun _ h => And.intro (by omega) h) ?_
        refine ih (i + 1) (by omega) (fun j hj => ?_)
        by_cases e : j = i
        · rw [e, hu]; intro q; exact hc (by rw [Option.some.inj q])
        · exact hall j (by omega)
  exact loop _ 0 (Nat.zero_add _) (fun j hj => absurd hj (Nat.not_lt_zero _))
end
section
/-! 21.mask: the reference's serve, waits, isRound, isCovered, ask, printed by b2.py -/
theorem tm_M_RM {w : tl_W} {σ : tm_S} (hR : tm_RM w σ) (i m : Nat) : tm_RM (tl_set w 0 i (m : Int)) (tm_sm σ i m) := by
  refine ⟨fun a ha => ?_, fun u hu => ⟨?_, ?_⟩, fun r hr => ⟨?_, fun k t hk => ?_⟩⟩
  · rw [tl_set_s]
    show va_up (w 0) i _ a = ((va_up σ.1 i m a : Nat) : Int)
    by_cases e : a = i
    · rw [e, va_up_s, va_up_s]
    · rw [va_up_n _ _ e, va_up_n _ _ e]; exact hR.1 a ha
  · rw [tl_set_o (by decide)]; exact (hR.2.1 u hu).1
  · rw [tl_set_o (by decide)]; exact (hR.2.1 u hu).2
  · rw [tl_set_o (by decide)]; exact (hR.2.2 r hr).1
  · rw [tl_set_o (by decide)]; exact (hR.2.2 r hr).2 k t hk
theorem tm_S_RM {w : tl_W} {σ : tm_S} (hR : tm_RM w σ) (t x : Nat) : tm_RM (tl_set w 1 t (x : Int)) (σ.1, va_up σ.2.1 t x, σ.2.2.1, σ.2.2.2) := by
  refine ⟨fun i hi => ?_, fun u hu => ⟨?_, ?_⟩, fun r hr => ⟨?_, fun k u hk => ?_⟩⟩
  · rw [tl_set_o (by decide)]; exact hR.1 i hi
  · rw [tl_set_s]
    show va_up (w 1) t _ u = ((va_up σ.2.1 t x u : Nat) : Int)
    by_cases e : u = t
    · rw [e, va_up_s, va_up_s]
    · rw [va_up_n _ _ e, va_up_n _ _ e]; exact (hR.2.1 u hu).1
  · rw [tl_set_o (by decide)]; exact (hR.2.1 u hu).2
  · rw [tl_set_o (by decide)]; exact (hR.2.2 r hr).1
  · rw [tl_set_o (by decide)]; exact (hR.2.2 r hr).2 k u hk
theorem tm_W_RM {w : tl_W} {σ : tm_S} (hR : tm_RM w σ) (t x : Nat) : tm_RM (tl_set w 2 t (x : Int)) (σ.1, σ.2.1, va_up σ.2.2.1 t x, σ.2.2.2) := by
  refine ⟨fun i hi => ?_, fun u hu => ⟨?_, ?_⟩, fun r hr => ⟨?_, fun k u hk => ?_⟩⟩
  · rw [tl_set_o (by decide)]; exact hR.1 i hi
  · rw [tl_set_o (by decide)]; exact (hR.2.1 u hu).1
  · rw [tl_set_s]
    show va_up (w 2) t _ u = ((va_up σ.2.2.1 t x u : Nat) : Int)
    by_cases e : u = t
    · rw [e, va_up_s, va_up_s]
    · rw [va_up_n _ _ e, va_up_n _ _ e]; exact (hR.2.1 u hu).2
  · rw [tl_set_o (by decide)]; exact (hR.2.2 r hr).1
  · rw [tl_set_o (by decide)]; exact (hR.2.2 r hr).2 k u hk

theorem tb_sv (d r : Nat) (hr : r < 34) {σ : tm_S} (w : tl_W) (hJ : tm_J σ) (hR : tm_RM w σ) : ∃ w', tl_Ev tb_P (d + 3) 12 [.inr 0, .inl (r : Int)] w (.inl (some (((tm_serve σ r).1 : Nat) : Int))) w' ∧ (tm_RM w' (tm_serve σ r).2 ∧ w' 5 = w 5) := by
  refine tl_exi fun Q hQ => ?_
  generalize hw5 : w 5 = W5 at hQ
  refine tl_go 2 2 [(0, .inr 0), (1, .inl ((r : Nat) : Int)), (2, .inl 0)] [] w (fun _ h => h) ?_
  have loop : ∀ (n c : Nat) (σ : tm_S) (w : tl_W), (σ.2.2.2 r).length ≤ n → c + n = 8 → tm_J σ → tm_RM w σ → w 5 = W5 → (∀ w', (tm_RM w' (tm_sv n σ r).2 ∧ w' 5 = W5) → Q (.inl (some ((c + (tm_sv n σ r).1 : Nat) : Int))) w') → ∀ L : tl_L, (L = [(0, .inr 0), (1, .inl (r : Int)), (2, .inl (c : Int))] ∨ ∃ x : Int, L = [(0, .inr 0), (1, .inl (r : Int)), (2, .inl (c : Int)), (3, .inl x)]) → tl_E tb_P (d + 2) 12 2 L [] w Q := by
    intro n
    induction n with
    | zero =>
      intro c σ w hlen hi hJ hR hw5 hQ' L hL
      have hl := (hR.2.2 r hr).1
      rcases hL with rfl | ⟨x, rfl⟩
      · refine tl_go 3 7 [(0, .inr 0), (1, .inl ((r : Nat) : Int)), (2, .inl ((c : Nat) : Int))] [.inl ((r : Nat) : Int), .inr 5] w (fun _ h => And.intro rfl (And.intro (by decide) (h))) ?_
        refine tl_ald (r) 34 (k := 4) rfl (by omega) rfl (by omega) ?_
        refine tl_top (y := (((σ.2.2.2 r).length : Nat) : Int)) (hl) ?_
        refine tl_ift ((((σ.2.2.2 r).length : Nat) : Int) ≤ 0) 95 11 [(0, .inr 0), (1, .inl ((r : Nat) : Int)), (2, .inl ((c : Nat) : Int))] [] (fun _ h => h) (by omega) ?_
        refine tl_go 1 96 [(0, .inr 0), (1, .inl ((r : Nat) : Int)), (2, .inl ((c : Nat) : Int))] [.inl ((c : Nat) : Int)] w (fun _ h => h) ?_
        exact tl_reti rfl rfl (by show (c : Int) = ((c + 0 : Nat) : Int); omega) (hQ' w ⟨hR, hw5⟩)
      · refine tl_go 3 7 [(0, .inr 0), (1, .inl ((r : Nat) : Int)), (2, .inl ((c : Nat) : Int)), (3, .inl x)] [.inl ((r : Nat) : Int), .inr 5] w (fun _ h => And.intro rfl (And.intro (by decide) (h))) ?_
        refine tl_ald (r) 34 (k := 4) rfl (by omega) rfl (by omega) ?_
        refine tl_top (y := (((σ.2.2.2 r).length : Nat) : Int)) (hl) ?_
        refine tl_ift ((((σ.2.2.2 r).length : Nat) : Int) ≤ 0) 95 11 [(0, .inr 0), (1, .inl ((r : Nat) : Int)), (2, .inl ((c : Nat) : Int)), (3, .inl x)] [] (fun _ h => h) (by omega) ?_
        refine tl_go 1 96 [(0, .inr 0), (1, .inl ((r : Nat) : Int)), (2, .inl ((c : Nat) : Int)), (3, .inl x)] [.inl ((c : Nat) : Int)] w (fun _ h => h) ?_
        exact tl_reti rfl rfl (by show (c : Int) = ((c + 0 : Nat) : Int); omega) (hQ' w ⟨hR, hw5⟩)
    | succ n ih =>
      intro c σ w hlen hi hJ hR hw5 hQ' L hL
      have hK := tm_J_K hJ
      have hl := (hR.2.2 r hr).1
      rcases hL with rfl | ⟨x, rfl⟩
      · cases hq : σ.2.2.2 r with
        | nil =>
          rw [tm_sv_nil hq] at hQ'
          have hl0 : w 4 r = 0 := by rw [hl, hq]; rfl
          refine tl_go 3 7 [(0, .inr 0), (1, .inl ((r : Nat) : Int)), (2, .inl ((c : Nat) : Int))] [.inl ((r : Nat) : Int), .inr 5] w (fun _ h => And.intro rfl (And.intro (by decide) (h))) ?_
          refine tl_ald (r) 34 (k := 4) rfl (by omega) rfl (by omega) ?_
          refine tl_top (y := 0) (hl0) ?_
          refine tl_ift (0 ≤ 0) 95 11 [(0, .inr 0), (1, .inl ((r : Nat) : Int)), (2, .inl ((c : Nat) : Int))] [] (fun _ h => h) (by decide) ?_
          refine tl_go 1 96 [(0, .inr 0), (1, .inl ((r : Nat) : Int)), (2, .inl ((c : Nat) : Int))] [.inl ((c : Nat) : Int)] w (fun _ h => h) ?_
          exact tl_reti rfl rfl (by show (c : Int) = ((c + 0 : Nat) : Int); omega) (hQ' w ⟨hR, hw5⟩)
        | cons t l =>
          have hk0 : (σ.2.2.2 r)[0]? = some t := by rw [hq]; rfl
          have h30 : w 3 (8 * r) = (t : Int) := (hR.2.2 r hr).2 0 t hk0
          have hlp : 0 < (σ.2.2.2 r).length := by rw [hq, List.length_cons]; omega
          obtain ⟨_, ht8, hts⟩ := tm_K_lt hK hr hk0
          refine tl_go 3 7 [(0, .inr 0), (1, .inl ((r : Nat) : Int)), (2, .inl ((c : Nat) : Int))] [.inl ((r : Nat) : Int), .inr 5] w (fun _ h => And.intro rfl (And.intro (by decide) (h))) ?_
          refine tl_ald (r) 34 (k := 4) rfl (by omega) rfl (by omega) ?_
          refine tl_top (y := (((σ.2.2.2 r).length : Nat) : Int)) (hl) ?_
          refine tl_iff ((((σ.2.2.2 r).length : Nat) : Int) ≤ 0) 95 11 [(0, .inr 0), (1, .inl ((r : Nat) : Int)), (2, .inl ((c : Nat) : Int))] [] (fun _ h => h) (by omega) ?_
          refine tl_go 6 20 [(0, .inr 0), (1, .inl ((r : Nat) : Int)), (2, .inl ((c : Nat) : Int))] [.inl (8 * ((r : Nat) : Int)), .inr 4, .inr 0] w (fun _ h => And.intro rfl (And.intro (by decide) (And.intro (by omega) h))) ?_
          refine tl_ald (8 * r) 272 (k := 3) rfl (by omega) rfl (by omega) ?_
          refine tl_top (y := ((t : Nat) : Int)) (h30) ?_
          refine tl_go 8 34 [(0, .inr 0), (1, .inl ((r : Nat) : Int)), (2, .inl ((c : Nat) : Int))] [.inl (8 * ((r : Nat) : Int)), .inr 4, .inr 3, .inl ((r : Nat) : Int), .inl ((t : Nat) : Int), .inr 0] w (fun _ h => And.intro rfl (And.intro (by decide) (And.intro rfl (And.intro (by decide) (And.intro (by omega) h))))) ?_
          refine tl_ald (8 * r) 272 (k := 3) rfl (by omega) rfl (by omega) ?_
          refine tl_top (y := ((t : Nat) : Int)) (h30) ?_
          refine tl_ald (t) 8 (k := 2) rfl (by omega) rfl (by omega) ?_
          refine tl_top (y := ((σ.2.2.1 t : Nat) : Int)) ((hR.2.1 t ht8).2) ?_
          refine tl_callV (as := [.inr 0, .inl ((t : Nat) : Int), .inl ((r : Nat) : Int), .inl ((σ.2.2.1 t : Nat) : Int)]) (rest := []) (v := some (tm_b (decide (tm_fits σ.1 t r (σ.2.2.1 t) = true)))) (w' := w) rfl rfl (tb_fit d t r (σ.2.2.1 t) ht8 hr w hR.1) (Nat.le_of_ble_eq_true rfl) rfl rfl rfl (Nat.le_of_ble_eq_true rfl) ?_
          refine tl_if ((tm_b (decide (tm_fits σ.1 t r (σ.2.2.1 t) = true))) = 0) 95 42 [(0, .inr 0), (1, .inl ((r : Nat) : Int)), (2, .inl ((c : Nat) : Int))] [] (fun _ h => h) (fun hf => ?_) (fun hf => ?_)
          · have hf := of_decide_eq_false (tm_beq hf)
            rw [tm_sv_no hq hf] at hQ'
            refine tl_go 1 96 [(0, .inr 0), (1, .inl ((r : Nat) : Int)), (2, .inl ((c : Nat) : Int))] [.inl ((c : Nat) : Int)] w (fun _ h => h) ?_
            exact tl_reti rfl rfl (by show (c : Int) = ((c + 0 : Nat) : Int); omega) (hQ' w ⟨hR, hw5⟩)
          · have hf := of_decide_eq_true (tm_bne hf)
            rw [tm_sv_yes hq hf] at hQ'
            refine tl_go 5 50 [(0, .inr 0), (1, .inl ((r : Nat) : Int)), (2, .inl ((c : Nat) : Int))] [.inl (8 * ((r : Nat) : Int)), .inr 4] w (fun _ h => And.intro rfl (And.intro (by decide) (And.intro (by omega) h))) ?_
            refine tl_ald (8 * r) 272 (k := 3) rfl (by omega) rfl (by omega) ?_
            refine tl_top (y := ((t : Nat) : Int)) (h30) ?_
            refine tl_go 11 67 [(0, .inr 0), (1, .inl ((r : Nat) : Int)), (2, .inl ((c : Nat) : Int)), (3, .inl ((t : Nat) : Int))] [.inl ((t : Nat) : Int), .inr 3, .inl ((34 * ((t : Nat) : Int)) + ((r : Nat) : Int)), .inr 1] w (fun _ h => And.intro rfl (And.intro (by decide) (And.intro (by omega) (And.intro (by omega) (And.intro rfl (And.intro (by decide) (h))))))) ?_
            refine tl_ald (t) 8 (k := 2) rfl (by omega) rfl (by omega) ?_
            refine tl_top (y := ((σ.2.2.1 t : Nat) : Int)) ((hR.2.1 t ht8).2) ?_
            refine tl_ast (34 * t + r) 272 (k := 0) rfl (by decide) (by omega) rfl (by omega) ?_
            refine tl_go 4 75 [(0, .inr 0), (1, .inl ((r : Nat) : Int)), (2, .inl ((c : Nat) : Int)), (3, .inl ((t : Nat) : Int))] [.inl 0, .inl ((t : Nat) : Int), .inr 3] (tl_set w 0 (34 * t + r) ((σ.2.2.1 t : Nat) : Int)) (fun _ h => And.intro rfl (And.intro (by decide) (h))) ?_
            refine tl_ast (t) 8 (k := 2) rfl (by decide) (by omega) rfl (by omega) ?_
            refine tl_go 4 82 [(0, .inr 0), (1, .inl ((r : Nat) : Int)), (2, .inl ((c : Nat) : Int)), (3, .inl ((t : Nat) : Int))] [.inl 1, .inl ((t : Nat) : Int), .inr 2] (tl_set (tl_set w 0 (34 * t + r) ((σ.2.2.1 t : Nat) : Int)) 2 (t) 0) (fun _ h => And.intro rfl (And.intro (by decide) (h))) ?_
            refine tl_ast (t) 8 (k := 1) rfl (by decide) (by omega) rfl (by omega) ?_
            refine tl_go 3 86 [(0, .inr 0), (1, .inl ((r : Nat) : Int)), (2, .inl ((c : Nat) : Int)), (3, .inl ((t : Nat) : Int))] [.inl 0, .inl ((r : Nat) : Int), .inr 0] (tl_set (tl_set (tl_set w 0 (34 * t + r) ((σ.2.2.1 t : Nat) : Int)) 2 (t) 0) 1 (t) 1) (fun _ h => h) ?_
            have hR3 : tm_RM (tl_set (tl_set (tl_set w 0 (34 * t + r) ((σ.2.2.1 t : Nat) : Int)) 2 t 0) 1 t 1) (va_up σ.1 (34 * t + r) (σ.2.2.1 t), va_up σ.2.1 t 1, va_up σ.2.2.1 t 0, σ.2.2.2) := tm_S_RM (tm_W_RM (tm_M_RM hR (34 * t + r) (σ.2.2.1 t)) t 0) t 1
            have hR4 := tm_lw_RM (k := 0) hR3 hr hlp (fun c hc => tm_len hJ hc)
            have e4 : ((va_up σ.1 (34 * t + r) (σ.2.2.1 t), va_up σ.2.1 t 1, va_up σ.2.2.1 t 0, va_up σ.2.2.2 r ((σ.2.2.2 r).eraseIdx 0)) : tm_S) = tm_gr σ r t l := by unfold tm_gr; rw [hq]; rfl
            refine tl_eq (st' := [.inl ((0 : Nat) : Int), .inl ((r : Nat) : Int), .inr 0]) rfl ?_
            refine tl_callV (as := [.inr 0, .inl ((r : Nat) : Int), .inl ((0 : Nat) : Int)]) (rest := []) (v := none) (w' := (tm_lw (tl_set (tl_set (tl_set w 0 (34 * t + r) ((σ.2.2.1 t : Nat) : Int)) 2 (t) 0) 1 (t) 1) r 0 ((σ.2.2.2 r).length - 1))) rfl rfl (tb_lv (d + 1) (σ := (va_up σ.1 (34 * t + r) (σ.2.2.1 t), va_up σ.2.1 t 1, va_up σ.2.2.1 t 0, σ.2.2.2)) _ hR3 hr hlp (tm_len hJ hr)) (Nat.le_of_ble_eq_true rfl) rfl rfl rfl (Nat.le_of_ble_eq_true rfl) ?_
            refine tl_go 2 2 [(0, .inr 0), (1, .inl ((r : Nat) : Int)), (2, .inl (((c : Nat) : Int) + 1)), (3, .inl ((t : Nat) : Int))] [] (tm_lw (tl_set (tl_set (tl_set w 0 (34 * t + r) ((σ.2.2.1 t : Nat) : Int)) 2 (t) 0) 1 (t) 1) r 0 ((σ.2.2.2 r).length - 1)) (fun _ h => And.intro (by omega) h) ?_
            refine ih (c + 1) (tm_gr σ r t l) _ ?_ (by omega) (tm_gr_J hJ hr hq) (e4 ▸ hR4) ?_ (fun w' hw' => ?_) _ (Or.inr ⟨_, rfl⟩)
            · show (va_up σ.2.2.2 r l r).length ≤ n
              rw [va_up_s]; rw [hq, List.length_cons] at hlen; omega
            · rw [tm_lw_n (by decide) (by decide), tl_set_o (by decide), tl_set_o (by decide), tl_set_o (by decide)]; exact hw5
            · have h9 := hQ' w' hw'
              rw [show c + 1 + (tm_sv n (tm_gr σ r t l) r).1 = c + ((tm_sv n (tm_gr σ r t l) r).1 + 1) by omega]
              exact h9
      · cases hq : σ.2.2.2 r with
        | nil =>
          rw [tm_sv_nil hq] at hQ'
          have hl0 : w 4 r = 0 := by rw [hl, hq]; rfl
          refine tl_go 3 7 [(0, .inr 0), (1, .inl ((r : Nat) : Int)), (2, .inl ((c : Nat) : Int)), (3, .inl x)] [.inl ((r : Nat) : Int), .inr 5] w (fun _ h => And.intro rfl (And.intro (by decide) (h))) ?_
          refine tl_ald (r) 34 (k := 4) rfl (by omega) rfl (by omega) ?_
          refine tl_top (y := 0) (hl0) ?_
          refine tl_ift (0 ≤ 0) 95 11 [(0, .inr 0), (1, .inl ((r : Nat) : Int)), (2, .inl ((c : Nat) : Int)), (3, .inl x)] [] (fun _ h => h) (by decide) ?_
          refine tl_go 1 96 [(0, .inr 0), (1, .inl ((r : Nat) : Int)), (2, .inl ((c : Nat) : Int)), (3, .inl x)] [.inl ((c : Nat) : Int)] w (fun _ h => h) ?_
          exact tl_reti rfl rfl (by show (c : Int) = ((c + 0 : Nat) : Int); omega) (hQ' w ⟨hR, hw5⟩)
        | cons t l =>
          have hk0 : (σ.2.2.2 r)[0]? = some t := by rw [hq]; rfl
          have h30 : w 3 (8 * r) = (t : Int) := (hR.2.2 r hr).2 0 t hk0
          have hlp : 0 < (σ.2.2.2 r).length := by rw [hq, List.length_cons]; omega
          obtain ⟨_, ht8, hts⟩ := tm_K_lt hK hr hk0
          refine tl_go 3 7 [(0, .inr 0), (1, .inl ((r : Nat) : Int)), (2, .inl ((c : Nat) : Int)), (3, .inl x)] [.inl ((r : Nat) : Int), .inr 5] w (fun _ h => And.intro rfl (And.intro (by decide) (h))) ?_
          refine tl_ald (r) 34 (k := 4) rfl (by omega) rfl (by omega) ?_
          refine tl_top (y := (((σ.2.2.2 r).length : Nat) : Int)) (hl) ?_
          refine tl_iff ((((σ.2.2.2 r).length : Nat) : Int) ≤ 0) 95 11 [(0, .inr 0), (1, .inl ((r : Nat) : Int)), (2, .inl ((c : Nat) : Int)), (3, .inl x)] [] (fun _ h => h) (by omega) ?_
          refine tl_go 6 20 [(0, .inr 0), (1, .inl ((r : Nat) : Int)), (2, .inl ((c : Nat) : Int)), (3, .inl x)] [.inl (8 * ((r : Nat) : Int)), .inr 4, .inr 0] w (fun _ h => And.intro rfl (And.intro (by decide) (And.intro (by omega) h))) ?_
          refine tl_ald (8 * r) 272 (k := 3) rfl (by omega) rfl (by omega) ?_
          refine tl_top (y := ((t : Nat) : Int)) (h30) ?_
          refine tl_go 8 34 [(0, .inr 0), (1, .inl ((r : Nat) : Int)), (2, .inl ((c : Nat) : Int)), (3, .inl x)] [.inl (8 * ((r : Nat) : Int)), .inr 4, .inr 3, .inl ((r : Nat) : Int), .inl ((t : Nat) : Int), .inr 0] w (fun _ h => And.intro rfl (And.intro (by decide) (And.intro rfl (And.intro (by decide) (And.intro (by omega) h))))) ?_
          refine tl_ald (8 * r) 272 (k := 3) rfl (by omega) rfl (by omega) ?_
          refine tl_top (y := ((t : Nat) : Int)) (h30) ?_
          refine tl_ald (t) 8 (k := 2) rfl (by omega) rfl (by omega) ?_
          refine tl_top (y := ((σ.2.2.1 t : Nat) : Int)) ((hR.2.1 t ht8).2) ?_
          refine tl_callV (as := [.inr 0, .inl ((t : Nat) : Int), .inl ((r : Nat) : Int), .inl ((σ.2.2.1 t : Nat) : Int)]) (rest := []) (v := some (tm_b (decide (tm_fits σ.1 t r (σ.2.2.1 t) = true)))) (w' := w) rfl rfl (tb_fit d t r (σ.2.2.1 t) ht8 hr w hR.1) (Nat.le_of_ble_eq_true rfl) rfl rfl rfl (Nat.le_of_ble_eq_true rfl) ?_
          refine tl_if ((tm_b (decide (tm_fits σ.1 t r (σ.2.2.1 t) = true))) = 0) 95 42 [(0, .inr 0), (1, .inl ((r : Nat) : Int)), (2, .inl ((c : Nat) : Int)), (3, .inl x)] [] (fun _ h => h) (fun hf => ?_) (fun hf => ?_)
          · have hf := of_decide_eq_false (tm_beq hf)
            rw [tm_sv_no hq hf] at hQ'
            refine tl_go 1 96 [(0, .inr 0), (1, .inl ((r : Nat) : Int)), (2, .inl ((c : Nat) : Int)), (3, .inl x)] [.inl ((c : Nat) : Int)] w (fun _ h => h) ?_
            exact tl_reti rfl rfl (by show (c : Int) = ((c + 0 : Nat) : Int); omega) (hQ' w ⟨hR, hw5⟩)
          · have hf := of_decide_eq_true (tm_bne hf)
            rw [tm_sv_yes hq hf] at hQ'
            refine tl_go 5 50 [(0, .inr 0), (1, .inl ((r : Nat) : Int)), (2, .inl ((c : Nat) : Int)), (3, .inl x)] [.inl (8 * ((r : Nat) : Int)), .inr 4] w (fun _ h => And.intro rfl (And.intro (by decide) (And.intro (by omega) h))) ?_
            refine tl_ald (8 * r) 272 (k := 3) rfl (by omega) rfl (by omega) ?_
            refine tl_top (y := ((t : Nat) : Int)) (h30) ?_
            refine tl_go 11 67 [(0, .inr 0), (1, .inl ((r : Nat) : Int)), (2, .inl ((c : Nat) : Int)), (3, .inl ((t : Nat) : Int))] [.inl ((t : Nat) : Int), .inr 3, .inl ((34 * ((t : Nat) : Int)) + ((r : Nat) : Int)), .inr 1] w (fun _ h => And.intro rfl (And.intro (by decide) (And.intro (by omega) (And.intro (by omega) (And.intro rfl (And.intro (by decide) (h))))))) ?_
            refine tl_ald (t) 8 (k := 2) rfl (by omega) rfl (by omega) ?_
            refine tl_top (y := ((σ.2.2.1 t : Nat) : Int)) ((hR.2.1 t ht8).2) ?_
            refine tl_ast (34 * t + r) 272 (k := 0) rfl (by decide) (by omega) rfl (by omega) ?_
            refine tl_go 4 75 [(0, .inr 0), (1, .inl ((r : Nat) : Int)), (2, .inl ((c : Nat) : Int)), (3, .inl ((t : Nat) : Int))] [.inl 0, .inl ((t : Nat) : Int), .inr 3] (tl_set w 0 (34 * t + r) ((σ.2.2.1 t : Nat) : Int)) (fun _ h => And.intro rfl (And.intro (by decide) (h))) ?_
            refine tl_ast (t) 8 (k := 2) rfl (by decide) (by omega) rfl (by omega) ?_
            refine tl_go 4 82 [(0, .inr 0), (1, .inl ((r : Nat) : Int)), (2, .inl ((c : Nat) : Int)), (3, .inl ((t : Nat) : Int))] [.inl 1, .inl ((t : Nat) : Int), .inr 2] (tl_set (tl_set w 0 (34 * t + r) ((σ.2.2.1 t : Nat) : Int)) 2 (t) 0) (fun _ h => And.intro rfl (And.intro (by decide) (h))) ?_
            refine tl_ast (t) 8 (k := 1) rfl (by decide) (by omega) rfl (by omega) ?_
            refine tl_go 3 86 [(0, .inr 0), (1, .inl ((r : Nat) : Int)), (2, .inl ((c : Nat) : Int)), (3, .inl ((t : Nat) : Int))] [.inl 0, .inl ((r : Nat) : Int), .inr 0] (tl_set (tl_set (tl_set w 0 (34 * t + r) ((σ.2.2.1 t : Nat) : Int)) 2 (t) 0) 1 (t) 1) (fun _ h => h) ?_
            have hR3 : tm_RM (tl_set (tl_set (tl_set w 0 (34 * t + r) ((σ.2.2.1 t : Nat) : Int)) 2 t 0) 1 t 1) (va_up σ.1 (34 * t + r) (σ.2.2.1 t), va_up σ.2.1 t 1, va_up σ.2.2.1 t 0, σ.2.2.2) := tm_S_RM (tm_W_RM (tm_M_RM hR (34 * t + r) (σ.2.2.1 t)) t 0) t 1
            have hR4 := tm_lw_RM (k := 0) hR3 hr hlp (fun c hc => tm_len hJ hc)
            have e4 : ((va_up σ.1 (34 * t + r) (σ.2.2.1 t), va_up σ.2.1 t 1, va_up σ.2.2.1 t 0, va_up σ.2.2.2 r ((σ.2.2.2 r).eraseIdx 0)) : tm_S) = tm_gr σ r t l := by unfold tm_gr; rw [hq]; rfl
            refine tl_eq (st' := [.inl ((0 : Nat) : Int), .inl ((r : Nat) : Int), .inr 0]) rfl ?_
            refine tl_callV (as := [.inr 0, .inl ((r : Nat) : Int), .inl ((0 : Nat) : Int)]) (rest := []) (v := none) (w' := (tm_lw (tl_set (tl_set (tl_set w 0 (34 * t + r) ((σ.2.2.1 t : Nat) : Int)) 2 (t) 0) 1 (t) 1) r 0 ((σ.2.2.2 r).length - 1))) rfl rfl (tb_lv (d + 1) (σ := (va_up σ.1 (34 * t + r) (σ.2.2.1 t), va_up σ.2.1 t 1, va_up σ.2.2.1 t 0, σ.2.2.2)) _ hR3 hr hlp (tm_len hJ hr)) (Nat.le_of_ble_eq_true rfl) rfl rfl rfl (Nat.le_of_ble_eq_true rfl) ?_
            refine tl_go 2 2 [(0, .inr 0), (1, .inl ((r : Nat) : Int)), (2, .inl (((c : Nat) : Int) + 1)), (3, .inl ((t : Nat) : Int))] [] (tm_lw (tl_set (tl_set (tl_set w 0 (34 * t + r) ((σ.2.2.1 t : Nat) : Int)) 2 (t) 0) 1 (t) 1) r 0 ((σ.2.2.2 r).length - 1)) (fun _ h => And.intro (by omega) h) ?_
            refine ih (c + 1) (tm_gr σ r t l) _ ?_ (by omega) (tm_gr_J hJ hr hq) (e4 ▸ hR4) ?_ (fun w' hw' => ?_) _ (Or.inr ⟨_, rfl⟩)
            · show (va_up σ.2.2.2 r l r).length ≤ n
              rw [va_up_s]; rw [hq, List.length_cons] at hlen; omega
            · rw [tm_lw_n (by decide) (by decide), tl_set_o (by decide), tl_set_o (by decide), tl_set_o (by decide)]; exact hw5
            · have h9 := hQ' w' hw'
              rw [show c + 1 + (tm_sv n (tm_gr σ r t l) r).1 = c + ((tm_sv n (tm_gr σ r t l) r).1 + 1) by omega]
              exact h9
  exact loop 8 0 σ w (tm_len hJ hr) rfl hJ hR hw5 (fun w' hw' => by rw [Nat.zero_add]; exact hQ w' hw') _ (Or.inl rfl)
def tm_qm (s : Nat) (l : List Nat) (k : Nat) : Nat := (l.take k).foldl (fun a u => a ||| 1 * 2 ^ u) s
theorem tm_qm_s {s : Nat} {l : List Nat} {k u : Nat} (h : l[k]? = some u) : tm_qm s l (k + 1) = tm_qm s l k ||| 1 * 2 ^ u := by
  unfold tm_qm
  rw [List.take_add_one, h, Option.toList_some, List.foldl_append]
  rfl
theorem tm_qm_t (w : Nat) : ∀ (l : List Nat) (s : Nat), (l.foldl (fun a u => a ||| 1 * 2 ^ u) s).testBit w = (s.testBit w || decide (w ∈ l)) := by
  intro l
  induction l with
  | nil => intro s; simp
  | cons a l ih =>
    intro s
    show (l.foldl (fun a u => a ||| 1 * 2 ^ u) (s ||| 1 * 2 ^ a)).testBit w = _
    rw [ih, Nat.testBit_or, Nat.one_mul, Nat.testBit_two_pow, Bool.or_assoc]
    congr 1
    by_cases h1 : a = w
    · rw [decide_eq_true h1, Bool.true_or]
      exact (decide_eq_true (by rw [h1]; exact List.mem_cons_self)).symm
    · rw [decide_eq_false h1, Bool.false_or]
      by_cases h2 : w ∈ l
      · rw [decide_eq_true h2, decide_eq_true (List.mem_cons_of_mem _ h2)]
      · rw [decide_eq_false h2, decide_eq_false (fun q => (List.mem_cons.mp q).elim (fun e => h1 e.symm) h2)]
def tm_p1 (σ : tm_S) (r t u : Nat) : Bool := decide (u ≠ t) && !tm_tog (σ.2.2.1 t) (σ.1 (34 * u + r))
theorem tm_wait_eq {σ : tm_S} (hK : tm_K σ) {r t : Nat} (hr : r < 34) (ht : t < 8) (hs : σ.2.1 t = r + 2) : tm_qm (tm_msk (tm_p1 σ r t) 8) (σ.2.2.2 r) ((σ.2.2.2 r).idxOf t) = tm_msk (tm_blk σ r t) 8 := by
  apply Nat.eq_of_testBit_eq
  intro w
  unfold tm_qm
  rw [tm_qm_t, tm_msk_t, tm_msk_t]
  have ht1 := tm_ix2 (((hK.2 r hr).2 t).mpr ⟨ht, hs⟩)
  have hmem : w ∈ (σ.2.2.2 r).take ((σ.2.2.2 r).idxOf t) ↔ (w < 8 ∧ σ.2.1 w = r + 2) ∧ (σ.2.2.2 r).idxOf w < (σ.2.2.2 r).idxOf t := by
    rw [← (hK.2 r hr).2 w]
    constructor
    · intro h
      obtain ⟨i, hi⟩ := List.getElem?_of_mem h
      have h1 : i < (σ.2.2.2 r).idxOf t := by
        have := (List.getElem?_eq_some_iff.mp hi).1
        rw [List.length_take] at this
        omega
      rw [List.getElem?_take_of_lt h1] at hi
      exact ⟨List.mem_of_getElem? hi, by rw [tm_ix (hK.2 r hr).1 hi]; exact h1⟩
    · rintro ⟨h1, h2⟩
      have h3 := tm_ix2 h1
      rw [← List.getElem?_take_of_lt h2] at h3
      exact List.mem_of_getElem? h3
  unfold tm_blk tm_p1
  by_cases h8 : w < 8
  · rw [decide_eq_true h8, Bool.true_and, Bool.true_and]
    by_cases hwt : w = t
    · have hn : ¬ w ∈ (σ.2.2.2 r).take ((σ.2.2.2 r).idxOf t) := fun q => by have := (hmem.mp q).2; rw [hwt] at this; omega
      rw [decide_eq_false hn, decide_eq_false (show ¬ w ≠ t from fun q => q hwt)]
      rfl
    · rw [decide_eq_true hwt, Bool.true_and, Bool.true_and]
      congr 1
      by_cases hm : w ∈ (σ.2.2.2 r).take ((σ.2.2.2 r).idxOf t)
      · have h1 := hmem.mp hm
        rw [decide_eq_true hm, decide_eq_true h1.1.2, decide_eq_true h1.2]
        rfl
      · rw [decide_eq_false hm]
        by_cases h2 : σ.2.1 w = r + 2
        · rw [decide_eq_true h2, decide_eq_false (fun q => hm (hmem.mpr ⟨⟨h8, h2⟩, q⟩))]
          rfl
        · rw [decide_eq_false h2]
          rfl
  · rw [decide_eq_false h8, decide_eq_false (fun q => h8 (hmem.mp q).1.1)]
    rfl
theorem tm_qm_256 {s : Nat} {l : List Nat} (hs : s < 256) (hl : ∀ x ∈ l, x < 8) : ∀ k, k ≤ l.length → tm_qm s l k < 256 := by
  intro k
  induction k with
  | zero => intro _; unfold tm_qm; rw [List.take_zero]; exact hs
  | succ k ih =>
    intro hk
    obtain ⟨u, hu⟩ : ∃ u, l[k]? = some u := ⟨_, List.getElem?_eq_getElem (by omega)⟩
    rw [tm_qm_s hu]
    have h8 := hl u (List.mem_of_getElem? hu)
    have h1 : 1 * 2 ^ u < 256 := by rw [Nat.one_mul]; exact (show 2 ^ u < 2 ^ 8 from Nat.pow_lt_pow_right (by decide) h8)
    exact tm_or256 (ih (by omega)) h1

theorem tb_wt (d : Nat) (t : Nat) (ht : t < 8) {σ : tm_S} (w : tl_W) (hJ : tm_J σ) (hR : tm_RM w σ) : tl_Ev tb_P (d + 2) 14 [.inr 0, .inl ((t : Nat) : Int)] w (.inl (some ((tm_bk σ t : Nat) : Int))) w := by
  refine tl_start fun Q hQ => ?_
  have hS5 := (hJ.2.1 t ht).1
  have hK := tm_J_K hJ
  refine tl_go 3 5 [(0, .inr 0), (1, .inl ((t : Nat) : Int))] [.inl ((t : Nat) : Int), .inr 2] w (fun _ h => And.intro rfl (And.intro (by decide) (h))) ?_
  refine tl_ald (t) 8 (k := 1) rfl (by omega) rfl (by omega) ?_
  refine tl_top (y := ((σ.2.1 t : Nat) : Int)) ((hR.2.1 t ht).1) ?_
  refine tl_go 1 7 [(0, .inr 0), (1, .inl ((t : Nat) : Int))] [.inl 2, .inl ((σ.2.1 t : Nat) : Int)] w (fun _ h => h) ?_
  refine tl_if (2 ≤ ((σ.2.1 t : Nat) : Int)) 12 10 [(0, .inr 0), (1, .inl ((t : Nat) : Int))] [] (fun _ h => h) (fun hc => ?_) (fun hc => ?_)
  · obtain ⟨r, hr, hs⟩ : ∃ r, r < 34 ∧ σ.2.1 t = r + 2 := ⟨σ.2.1 t - 2, by omega, by omega⟩
    have ebk : tm_bk σ t = tm_msk (tm_blk σ r t) 8 := by unfold tm_bk; rw [if_neg (by omega), show σ.2.1 t - 2 = r by omega]
    have hlen := tm_len hJ hr
    refine tl_go 3 17 [(0, .inr 0), (1, .inl ((t : Nat) : Int))] [.inl ((t : Nat) : Int), .inr 2] w (fun _ h => And.intro rfl (And.intro (by decide) (h))) ?_
    refine tl_ald (t) 8 (k := 1) rfl (by omega) rfl (by omega) ?_
    refine tl_top (y := ((σ.2.1 t : Nat) : Int)) ((hR.2.1 t ht).1) ?_
    refine tl_go 2 20 [(0, .inr 0), (1, .inl ((t : Nat) : Int))] [.inl (((σ.2.1 t : Nat) : Int) - 2)] w (fun _ h => And.intro (by omega) h) ?_
    refine tl_top (y := ((r : Nat) : Int)) (by omega) ?_
    refine tl_go 5 26 [(0, .inr 0), (1, .inl ((t : Nat) : Int)), (2, .inl ((r : Nat) : Int)), (3, .inl 0), (4, .inl 0)] [] w (fun _ h => h) ?_
    have loop2 : ∀ m k : Nat, k + m = (σ.2.2.2 r).idxOf t → tl_E tb_P (d + 1) 14 83 [(0, .inr 0), (1, .inl (t : Int)), (2, .inl (r : Int)), (3, .inl ((tm_qm (tm_msk (tm_p1 σ r t) 8) (σ.2.2.2 r) k : Nat) : Int)), (4, .inl (k : Int))] [] w Q := by
      intro m
      induction m with
      | zero =>
        intro k hk
        refine tl_go 4 88 [(0, .inr 0), (1, .inl ((t : Nat) : Int)), (2, .inl ((r : Nat) : Int)), (3, .inl ((tm_qm (tm_msk (tm_p1 σ r t) 8) (σ.2.2.2 r) k : Nat) : Int)), (4, .inl ((k : Nat) : Int))] [.inl ((r : Nat) : Int), .inl ((t : Nat) : Int), .inr 0, .inl ((k : Nat) : Int)] w (fun _ h => h) ?_
        refine tl_callV (as := [.inr 0, .inl ((t : Nat) : Int), .inl ((r : Nat) : Int)]) (rest := [.inl ((k : Nat) : Int)]) (v := some (((σ.2.2.2 r).idxOf t : Nat) : Int)) (w' := w) rfl rfl (tb_po d t r w hR hr (hJ.2.2 r hr).1 hlen) (Nat.le_of_ble_eq_true rfl) rfl rfl rfl (Nat.le_of_ble_eq_true rfl) ?_
        refine tl_ift ((((σ.2.2.2 r).idxOf t : Nat) : Int) ≤ ((k : Nat) : Int)) 117 94 [(0, .inr 0), (1, .inl ((t : Nat) : Int)), (2, .inl ((r : Nat) : Int)), (3, .inl ((tm_qm (tm_msk (tm_p1 σ r t) 8) (σ.2.2.2 r) k : Nat) : Int)), (4, .inl ((k : Nat) : Int))] [] (fun _ h => h) (by omega) ?_
        refine tl_go 1 118 [(0, .inr 0), (1, .inl ((t : Nat) : Int)), (2, .inl ((r : Nat) : Int)), (3, .inl ((tm_qm (tm_msk (tm_p1 σ r t) 8) (σ.2.2.2 r) k : Nat) : Int)), (4, .inl ((k : Nat) : Int))] [.inl ((tm_qm (tm_msk (tm_p1 σ r t) 8) (σ.2.2.2 r) k : Nat) : Int)] w (fun _ h => h) ?_
        exact tl_reti rfl rfl (by rw [ebk, ← tm_wait_eq hK hr ht hs, show k = (σ.2.2.2 r).idxOf t by omega]) (hQ)
      | succ m ih =>
        intro k hk
        have hix := List.idxOf_lt_length_of_mem (((hK.2 r hr).2 t).mpr ⟨ht, hs⟩)
        obtain ⟨u, hu⟩ : ∃ u, (σ.2.2.2 r)[k]? = some u := ⟨_, List.getElem?_eq_getElem (by omega)⟩
        have hu8 := (tm_K_lt hK hr hu).2.1
        refine tl_go 4 88 [(0, .inr 0), (1, .inl ((t : Nat) : Int)), (2, .inl ((r : Nat) : Int)), (3, .inl ((tm_qm (tm_msk (tm_p1 σ r t) 8) (σ.2.2.2 r) k : Nat) : Int)), (4, .inl ((k : Nat) : Int))] [.inl ((r : Nat) : Int), .inl ((t : Nat) : Int), .inr 0, .inl ((k : Nat) : Int)] w (fun _ h => h) ?_
        refine tl_callV (as := [.inr 0, .inl ((t : Nat) : Int), .inl ((r : Nat) : Int)]) (rest := [.inl ((k : Nat) : Int)]) (v := some (((σ.2.2.2 r).idxOf t : Nat) : Int)) (w' := w) rfl rfl (tb_po d t r w hR hr (hJ.2.2 r hr).1 hlen) (Nat.le_of_ble_eq_true rfl) rfl rfl rfl (Nat.le_of_ble_eq_true rfl) ?_
        refine tl_iff ((((σ.2.2.2 r).idxOf t : Nat) : Int) ≤ ((k : Nat) : Int)) 117 94 [(0, .inr 0), (1, .inl ((t : Nat) : Int)), (2, .inl ((r : Nat) : Int)), (3, .inl ((tm_qm (tm_msk (tm_p1 σ r t) 8) (σ.2.2.2 r) k : Nat) : Int)), (4, .inl ((k : Nat) : Int))] [] (fun _ h => h) (by omega) ?_
        refine tl_go 9 107 [(0, .inr 0), (1, .inl ((t : Nat) : Int)), (2, .inl ((r : Nat) : Int)), (3, .inl ((tm_qm (tm_msk (tm_p1 σ r t) 8) (σ.2.2.2 r) k : Nat) : Int)), (4, .inl ((k : Nat) : Int))] [.inl ((8 * ((r : Nat) : Int)) + ((k : Nat) : Int)), .inr 4, .inl 1, .inl ((tm_qm (tm_msk (tm_p1 σ r t) 8) (σ.2.2.2 r) k : Nat) : Int)] w (fun _ h => And.intro rfl (And.intro (by decide) (And.intro (by omega) (And.intro (by omega) h)))) ?_
        refine tl_ald (8 * r + k) 272 (k := 3) rfl (by omega) rfl (by omega) ?_
        refine tl_top (y := ((u : Nat) : Int)) ((hR.2.2 r hr).2 k u hu) ?_
        refine tl_shl2 1 u rfl rfl rfl (by omega) (tm_p8 hu8) ?_
        refine tl_or2 (tm_qm (tm_msk (tm_p1 σ r t) 8) (σ.2.2.2 r) k) (1 * 2 ^ u) rfl rfl rfl ?_
        refine tl_go 3 83 [(0, .inr 0), (1, .inl ((t : Nat) : Int)), (2, .inl ((r : Nat) : Int)), (3, .inl ((tm_qm (tm_msk (tm_p1 σ r t) 8) (σ.2.2.2 r) k ||| 1 * 2 ^ u : Nat) : Int)), (4, .inl (((k : Nat) : Int) + 1))] [] w (fun _ h => And.intro (by omega) h) ?_
        have h9 := ih (k + 1) (by omega)
        rw [tm_qm_s hu] at h9
        exact h9
    have loop : ∀ k i : Nat, i + k = 8 → tl_E tb_P (d + 1) 14 26 [(0, .inr 0), (1, .inl (t : Int)), (2, .inl (r : Int)), (3, .inl ((tm_msk (tm_p1 σ r t) i : Nat) : Int)), (4, .inl (i : Int))] [] w Q := by
      intro k
      induction k with
      | zero =>
        intro i hi
        have h9 := loop2 _ 0 (Nat.zero_add _)
        rw [show tm_qm (tm_msk (tm_p1 σ r t) 8) (σ.2.2.2 r) 0 = tm_msk (tm_p1 σ r t) i by rw [show i = 8 by omega]; rfl] at h9
        refine tl_go 2 30 [(0, .inr 0), (1, .inl ((t : Nat) : Int)), (2, .inl ((r : Nat) : Int)), (3, .inl ((tm_msk (tm_p1 σ r t) i : Nat) : Int)), (4, .inl ((i : Nat) : Int))] [.inl 8, .inl ((i : Nat) : Int)] w (fun _ h => h) ?_
        refine tl_ift (8 ≤ ((i : Nat) : Int)) 80 33 [(0, .inr 0), (1, .inl ((t : Nat) : Int)), (2, .inl ((r : Nat) : Int)), (3, .inl ((tm_msk (tm_p1 σ r t) i : Nat) : Int)), (4, .inl ((i : Nat) : Int))] [] (fun _ h => h) (by omega) ?_
        refine tl_go 2 83 [(0, .inr 0), (1, .inl ((t : Nat) : Int)), (2, .inl ((r : Nat) : Int)), (3, .inl ((tm_msk (tm_p1 σ r t) i : Nat) : Int)), (4, .inl 0)] [] w (fun _ h => h) ?_
        exact h9
      | succ k ih =>
        intro i hi
        refine tl_go 2 30 [(0, .inr 0), (1, .inl ((t : Nat) : Int)), (2, .inl ((r : Nat) : Int)), (3, .inl ((tm_msk (tm_p1 σ r t) i : Nat) : Int)), (4, .inl ((i : Nat) : Int))] [.inl 8, .inl ((i : Nat) : Int)] w (fun _ h => h) ?_
        refine tl_iff (8 ≤ ((i : Nat) : Int)) 80 33 [(0, .inr 0), (1, .inl ((t : Nat) : Int)), (2, .inl ((r : Nat) : Int)), (3, .inl ((tm_msk (tm_p1 σ r t) i : Nat) : Int)), (4, .inl ((i : Nat) : Int))] [] (fun _ h => h) (by omega) ?_
        refine tl_go 2 36 [(0, .inr 0), (1, .inl ((t : Nat) : Int)), (2, .inl ((r : Nat) : Int)), (3, .inl ((tm_msk (tm_p1 σ r t) i : Nat) : Int)), (4, .inl ((i : Nat) : Int))] [.inl ((t : Nat) : Int), .inl ((i : Nat) : Int)] w (fun _ h => h) ?_
        refine tl_if (((i : Nat) : Int) = ((t : Nat) : Int)) 72 39 [(0, .inr 0), (1, .inl ((t : Nat) : Int)), (2, .inl ((r : Nat) : Int)), (3, .inl ((tm_msk (tm_p1 σ r t) i : Nat) : Int)), (4, .inl ((i : Nat) : Int))] [] (fun _ h => h) (fun he => ?_) (fun he => ?_)
        · have e1 : tm_msk (tm_p1 σ r t) (i + 1) = tm_msk (tm_p1 σ r t) i := by
            show (bif tm_p1 σ r t i then _ else _) = _
            rw [show tm_p1 σ r t i = false from by unfold tm_p1; rw [decide_eq_false (show ¬ i ≠ t by omega)]; rfl]
            rfl
          refine tl_go 4 26 [(0, .inr 0), (1, .inl ((t : Nat) : Int)), (2, .inl ((r : Nat) : Int)), (3, .inl ((tm_msk (tm_p1 σ r t) i : Nat) : Int)), (4, .inl (((i : Nat) : Int) + 1))] [] w (fun _ h => And.intro (by omega) h) ?_
          have h9 := ih (i + 1) (by omega)
          rw [e1] at h9
          exact h9
        · have hne : i ≠ t := fun e => he (by rw [e])
          refine tl_go 3 44 [(0, .inr 0), (1, .inl ((t : Nat) : Int)), (2, .inl ((r : Nat) : Int)), (3, .inl ((tm_msk (tm_p1 σ r t) i : Nat) : Int)), (4, .inl ((i : Nat) : Int))] [.inl ((t : Nat) : Int), .inr 3] w (fun _ h => And.intro rfl (And.intro (by decide) (h))) ?_
          refine tl_ald (t) 8 (k := 2) rfl (by omega) rfl (by omega) ?_
          refine tl_top (y := ((σ.2.2.1 t : Nat) : Int)) ((hR.2.1 t ht).2) ?_
          refine tl_go 7 56 [(0, .inr 0), (1, .inl ((t : Nat) : Int)), (2, .inl ((r : Nat) : Int)), (3, .inl ((tm_msk (tm_p1 σ r t) i : Nat) : Int)), (4, .inl ((i : Nat) : Int))] [.inl ((34 * ((i : Nat) : Int)) + ((r : Nat) : Int)), .inr 1, .inl ((σ.2.2.1 t : Nat) : Int)] w (fun _ h => And.intro rfl (And.intro (by decide) (And.intro (by omega) (And.intro (by omega) h)))) ?_
          refine tl_ald (34 * i + r) 272 (k := 0) rfl (by omega) rfl (by omega) ?_
          refine tl_top (y := ((σ.1 (34 * i + r) : Nat) : Int)) (hR.1 _ (by omega)) ?_
          refine tl_callS (as := [.inl ((σ.2.2.1 t : Nat) : Int), .inl ((σ.1 (34 * i + r) : Nat) : Int)]) (rest := []) (v := some (tm_b (decide (tm_tog (σ.2.2.1 t) (σ.1 (34 * i + r)) = true)))) (w' := w) rfl rfl rfl rfl (tb_tog d (σ.2.2.1 t) (σ.1 (34 * i + r)) w) (Nat.le_of_ble_eq_true rfl) rfl rfl (Nat.le_of_ble_eq_true rfl) ?_
          refine tl_if (¬ (tm_b (decide (tm_tog (σ.2.2.1 t) (σ.1 (34 * i + r)) = true))) = 0) 72 63 [(0, .inr 0), (1, .inl ((t : Nat) : Int)), (2, .inl ((r : Nat) : Int)), (3, .inl ((tm_msk (tm_p1 σ r t) i : Nat) : Int)), (4, .inl ((i : Nat) : Int))] [] (fun _ h => h) (fun hb => ?_) (fun hb => ?_)
          · have hb := of_decide_eq_true (tm_bne hb)
            have e1 : tm_msk (tm_p1 σ r t) (i + 1) = tm_msk (tm_p1 σ r t) i := by
              show (bif tm_p1 σ r t i then _ else _) = _
              rw [show tm_p1 σ r t i = false from by unfold tm_p1; rw [hb, Bool.not_true, Bool.and_false]]
              rfl
            refine tl_go 4 26 [(0, .inr 0), (1, .inl ((t : Nat) : Int)), (2, .inl ((r : Nat) : Int)), (3, .inl ((tm_msk (tm_p1 σ r t) i : Nat) : Int)), (4, .inl (((i : Nat) : Int) + 1))] [] w (fun _ h => And.intro (by omega) h) ?_
            have h9 := ih (i + 1) (by omega)
            rw [e1] at h9
            exact h9
          · have hb := of_decide_eq_false (tm_beq (Classical.not_not.mp hb))
            refine tl_go 3 67 [(0, .inr 0), (1, .inl ((t : Nat) : Int)), (2, .inl ((r : Nat) : Int)), (3, .inl ((tm_msk (tm_p1 σ r t) i : Nat) : Int)), (4, .inl ((i : Nat) : Int))] [.inl ((i : Nat) : Int), .inl 1, .inl ((tm_msk (tm_p1 σ r t) i : Nat) : Int)] w (fun _ h => h) ?_
            refine tl_shl2 1 i rfl rfl rfl (by omega) (tm_p8 (by omega)) ?_
            refine tl_or2 (tm_msk (tm_p1 σ r t) i) (1 * 2 ^ i) rfl rfl rfl ?_
            have e1 : tm_msk (tm_p1 σ r t) (i + 1) = tm_msk (tm_p1 σ r t) i ||| 1 * 2 ^ i := by
              show (bif tm_p1 σ r t i then _ else _) = _
              rw [show tm_p1 σ r t i = true from by unfold tm_p1; rw [decide_eq_true hne, show tm_tog (σ.2.2.1 t) (σ.1 (34 * i + r)) = false from by simpa using hb]; rfl]
              rfl
            refine tl_go 4 26 [(0, .inr 0), (1, .inl ((t : Nat) : Int)), (2, .inl ((r : Nat) : Int)), (3, .inl ((tm_msk (tm_p1 σ r t) i ||| 1 * 2 ^ i : Nat) : Int)), (4, .inl (((i : Nat) : Int) + 1))] [] w (fun _ h => And.intro (by omega) h) ?_
            have h9 := ih (i + 1) (by omega)
            rw [e1] at h9
            exact h9
    exact loop 8 0 rfl
  · refine tl_go 1 11 [(0, .inr 0), (1, .inl ((t : Nat) : Int))] [.inl 0] w (fun _ h => h) ?_
    exact tl_reti rfl rfl (by unfold tm_bk; rw [if_pos (by omega)]; rfl) (hQ)
theorem tb_rnd (d : Nat) (t : Nat) (ht : t < 8) {σ : tm_S} (w : tl_W) (hJ : tm_J σ) (hR : tm_RM w σ) : tl_Ev tb_P (d + 3) 15 [.inr 0, .inl ((t : Nat) : Int)] w (.inl (some (tm_b (decide (tm_cir σ t = true))))) w := by
  refine tl_start fun Q hQ => ?_
  have hbk : ∀ u, u < 8 → tm_bk σ u < 256 := fun u _ => tm_bk_256 σ u
  refine tl_go 2 2 [(0, .inr 0), (1, .inl ((t : Nat) : Int))] [.inl ((t : Nat) : Int), .inr 0] w (fun _ h => h) ?_
  refine tl_callV (as := [.inr 0, .inl ((t : Nat) : Int)]) (rest := []) (v := some ((tm_bk σ t : Nat) : Int)) (w' := w) rfl rfl (tb_wt d t ht w hJ hR) (Nat.le_of_ble_eq_true rfl) rfl rfl rfl (Nat.le_of_ble_eq_true rfl) ?_
  refine tl_go 3 8 [(0, .inr 0), (1, .inl ((t : Nat) : Int)), (2, .inl ((tm_bk σ t : Nat) : Int)), (3, .inl 0)] [] w (fun _ h => h) ?_
  have loop : ∀ m k : Nat, k + m = 8 → ∀ L : tl_L, (L = [(0, .inr 0), (1, .inl (t : Int)), (2, .inl ((tm_it (tm_gs (tm_bk σ)) k (tm_bk σ t) : Nat) : Int)), (3, .inl (k : Int))] ∨ ∃ x : Int, L = [(0, .inr 0), (1, .inl (t : Int)), (2, .inl ((tm_it (tm_gs (tm_bk σ)) k (tm_bk σ t) : Nat) : Int)), (3, .inl (k : Int)), (4, .inl x)]) → tl_E tb_P (d + 2) 15 8 L [] w Q := by
    intro m
    induction m with
    | zero =>
      intro k hk L hL
      have e8 : (tm_it (tm_gs (tm_bk σ)) k (tm_bk σ t)).testBit t = tm_cir σ t := by rw [show k = 8 by omega]; exact tm_both hbk _ _
      have hb : (tm_it (tm_gs (tm_bk σ)) k (tm_bk σ t)).testBit t = decide (tm_it (tm_gs (tm_bk σ)) k (tm_bk σ t) / 2 ^ t % 2 = 1) := Nat.testBit_eq_decide_div_mod_eq
      rcases hL with rfl | ⟨x, rfl⟩
      · refine tl_go 2 11 [(0, .inr 0), (1, .inl ((t : Nat) : Int)), (2, .inl ((tm_it (tm_gs (tm_bk σ)) k (tm_bk σ t) : Nat) : Int)), (3, .inl ((k : Nat) : Int))] [.inl 8, .inl ((k : Nat) : Int)] w (fun _ h => h) ?_
        refine tl_ift (8 ≤ ((k : Nat) : Int)) 59 14 [(0, .inr 0), (1, .inl ((t : Nat) : Int)), (2, .inl ((tm_it (tm_gs (tm_bk σ)) k (tm_bk σ t) : Nat) : Int)), (3, .inl ((k : Nat) : Int))] [] (fun _ h => h) (by omega) ?_
        refine tl_go 2 61 [(0, .inr 0), (1, .inl ((t : Nat) : Int)), (2, .inl ((tm_it (tm_gs (tm_bk σ)) k (tm_bk σ t) : Nat) : Int)), (3, .inl ((k : Nat) : Int))] [.inl ((t : Nat) : Int), .inl ((tm_it (tm_gs (tm_bk σ)) k (tm_bk σ t) : Nat) : Int)] w (fun _ h => h) ?_
        refine tl_shr2 (tm_it (tm_gs (tm_bk σ)) k (tm_bk σ t)) t rfl rfl rfl (by omega) ?_
        refine tl_go 1 63 [(0, .inr 0), (1, .inl ((t : Nat) : Int)), (2, .inl ((tm_it (tm_gs (tm_bk σ)) k (tm_bk σ t) : Nat) : Int)), (3, .inl ((k : Nat) : Int))] [.inl 1, .inl ((tm_it (tm_gs (tm_bk σ)) k (tm_bk σ t) / 2 ^ t : Nat) : Int)] w (fun _ h => h) ?_
        refine tl_and2 (tm_it (tm_gs (tm_bk σ)) k (tm_bk σ t) / 2 ^ t) 1 rfl rfl rfl ?_
        refine tl_top (y := ((tm_it (tm_gs (tm_bk σ)) k (tm_bk σ t) / 2 ^ t % 2 : Nat) : Int)) (by rw [Nat.and_one_is_mod]) ?_
        refine tl_go 1 65 [(0, .inr 0), (1, .inl ((t : Nat) : Int)), (2, .inl ((tm_it (tm_gs (tm_bk σ)) k (tm_bk σ t) : Nat) : Int)), (3, .inl ((k : Nat) : Int))] [.inl 1, .inl ((tm_it (tm_gs (tm_bk σ)) k (tm_bk σ t) / 2 ^ t % 2 : Nat) : Int)] w (fun _ h => h) ?_
        refine tl_if (¬ ((tm_it (tm_gs (tm_bk σ)) k (tm_bk σ t) / 2 ^ t % 2 : Nat) : Int) = 1) 72 68 [(0, .inr 0), (1, .inl ((t : Nat) : Int)), (2, .inl ((tm_it (tm_gs (tm_bk σ)) k (tm_bk σ t) : Nat) : Int)), (3, .inl ((k : Nat) : Int))] [] (fun _ h => h) (fun hc => ?_) (fun hc => ?_)
        · refine tl_go 1 73 [(0, .inr 0), (1, .inl ((t : Nat) : Int)), (2, .inl ((tm_it (tm_gs (tm_bk σ)) k (tm_bk σ t) : Nat) : Int)), (3, .inl ((k : Nat) : Int))] [.inl 0] w (fun _ h => h) ?_
          exact tl_retz rfl rfl (tm_b0 (decide_eq_false (by rw [← e8, hb]; intro q; have := of_decide_eq_true q; omega))) (hQ)
        · refine tl_go 2 73 [(0, .inr 0), (1, .inl ((t : Nat) : Int)), (2, .inl ((tm_it (tm_gs (tm_bk σ)) k (tm_bk σ t) : Nat) : Int)), (3, .inl ((k : Nat) : Int))] [.inl 1] w (fun _ h => h) ?_
          exact tl_retz rfl rfl (tm_b1 (decide_eq_true (by rw [← e8, hb]; exact decide_eq_true (by omega)))) (hQ)
      · refine tl_go 2 11 [(0, .inr 0), (1, .inl ((t : Nat) : Int)), (2, .inl ((tm_it (tm_gs (tm_bk σ)) k (tm_bk σ t) : Nat) : Int)), (3, .inl ((k : Nat) : Int)), (4, .inl x)] [.inl 8, .inl ((k : Nat) : Int)] w (fun _ h => h) ?_
        refine tl_ift (8 ≤ ((k : Nat) : Int)) 59 14 [(0, .inr 0), (1, .inl ((t : Nat) : Int)), (2, .inl ((tm_it (tm_gs (tm_bk σ)) k (tm_bk σ t) : Nat) : Int)), (3, .inl ((k : Nat) : Int)), (4, .inl x)] [] (fun _ h => h) (by omega) ?_
        refine tl_go 2 61 [(0, .inr 0), (1, .inl ((t : Nat) : Int)), (2, .inl ((tm_it (tm_gs (tm_bk σ)) k (tm_bk σ t) : Nat) : Int)), (3, .inl ((k : Nat) : Int)), (4, .inl x)] [.inl ((t : Nat) : Int), .inl ((tm_it (tm_gs (tm_bk σ)) k (tm_bk σ t) : Nat) : Int)] w (fun _ h => h) ?_
        refine tl_shr2 (tm_it (tm_gs (tm_bk σ)) k (tm_bk σ t)) t rfl rfl rfl (by omega) ?_
        refine tl_go 1 63 [(0, .inr 0), (1, .inl ((t : Nat) : Int)), (2, .inl ((tm_it (tm_gs (tm_bk σ)) k (tm_bk σ t) : Nat) : Int)), (3, .inl ((k : Nat) : Int)), (4, .inl x)] [.inl 1, .inl ((tm_it (tm_gs (tm_bk σ)) k (tm_bk σ t) / 2 ^ t : Nat) : Int)] w (fun _ h => h) ?_
        refine tl_and2 (tm_it (tm_gs (tm_bk σ)) k (tm_bk σ t) / 2 ^ t) 1 rfl rfl rfl ?_
        refine tl_top (y := ((tm_it (tm_gs (tm_bk σ)) k (tm_bk σ t) / 2 ^ t % 2 : Nat) : Int)) (by rw [Nat.and_one_is_mod]) ?_
        refine tl_go 1 65 [(0, .inr 0), (1, .inl ((t : Nat) : Int)), (2, .inl ((tm_it (tm_gs (tm_bk σ)) k (tm_bk σ t) : Nat) : Int)), (3, .inl ((k : Nat) : Int)), (4, .inl x)] [.inl 1, .inl ((tm_it (tm_gs (tm_bk σ)) k (tm_bk σ t) / 2 ^ t % 2 : Nat) : Int)] w (fun _ h => h) ?_
        refine tl_if (¬ ((tm_it (tm_gs (tm_bk σ)) k (tm_bk σ t) / 2 ^ t % 2 : Nat) : Int) = 1) 72 68 [(0, .inr 0), (1, .inl ((t : Nat) : Int)), (2, .inl ((tm_it (tm_gs (tm_bk σ)) k (tm_bk σ t) : Nat) : Int)), (3, .inl ((k : Nat) : Int)), (4, .inl x)] [] (fun _ h => h) (fun hc => ?_) (fun hc => ?_)
        · refine tl_go 1 73 [(0, .inr 0), (1, .inl ((t : Nat) : Int)), (2, .inl ((tm_it (tm_gs (tm_bk σ)) k (tm_bk σ t) : Nat) : Int)), (3, .inl ((k : Nat) : Int)), (4, .inl x)] [.inl 0] w (fun _ h => h) ?_
          exact tl_retz rfl rfl (tm_b0 (decide_eq_false (by rw [← e8, hb]; intro q; have := of_decide_eq_true q; omega))) (hQ)
        · refine tl_go 2 73 [(0, .inr 0), (1, .inl ((t : Nat) : Int)), (2, .inl ((tm_it (tm_gs (tm_bk σ)) k (tm_bk σ t) : Nat) : Int)), (3, .inl ((k : Nat) : Int)), (4, .inl x)] [.inl 1] w (fun _ h => h) ?_
          exact tl_retz rfl rfl (tm_b1 (decide_eq_true (by rw [← e8, hb]; exact decide_eq_true (by omega)))) (hQ)
    | succ m ih =>
      intro k hk L hL
      have inner : ∀ n i : Nat, i + n = 8 → tl_E tb_P (d + 2) 15 17 [(0, .inr 0), (1, .inl (t : Int)), (2, .inl ((tm_gsn (tm_bk σ) (tm_it (tm_gs (tm_bk σ)) k (tm_bk σ t)) i : Nat) : Int)), (3, .inl (k : Int)), (4, .inl (i : Int))] [] w Q := by
        intro n
        induction n with
        | zero =>
          intro i hi
          refine tl_go 2 21 [(0, .inr 0), (1, .inl ((t : Nat) : Int)), (2, .inl ((tm_gsn (tm_bk σ) (tm_it (tm_gs (tm_bk σ)) k (tm_bk σ t)) i : Nat) : Int)), (3, .inl ((k : Nat) : Int)), (4, .inl ((i : Nat) : Int))] [.inl 8, .inl ((i : Nat) : Int)] w (fun _ h => h) ?_
          refine tl_ift (8 ≤ ((i : Nat) : Int)) 53 24 [(0, .inr 0), (1, .inl ((t : Nat) : Int)), (2, .inl ((tm_gsn (tm_bk σ) (tm_it (tm_gs (tm_bk σ)) k (tm_bk σ t)) i : Nat) : Int)), (3, .inl ((k : Nat) : Int)), (4, .inl ((i : Nat) : Int))] [] (fun _ h => h) (by omega) ?_
          refine tl_go 2 8 [(0, .inr 0), (1, .inl ((t : Nat) : Int)), (2, .inl ((tm_gsn (tm_bk σ) (tm_it (tm_gs (tm_bk σ)) k (tm_bk σ t)) i : Nat) : Int)), (3, .inl (((k : Nat) : Int) + 1)), (4, .inl ((i : Nat) : Int))] [] w (fun _ h => And.intro (by omega) h) ?_
          refine tl_loc (L' := [(0, .inr 0), (1, .inl ((t : Nat) : Int)), (2, .inl ((tm_it (tm_gs (tm_bk σ)) (k + 1) (tm_bk σ t) : Nat) : Int)), (3, .inl (((k : Nat) : Int) + 1)), (4, .inl ((i : Nat) : Int))]) (by rw [show i = 8 by omega]; rfl) ?_
          exact ih (k + 1) (by omega) _ (Or.inr ⟨_, rfl⟩)
        | succ n ihn =>
          intro i hi
          have hb : (tm_gsn (tm_bk σ) (tm_it (tm_gs (tm_bk σ)) k (tm_bk σ t)) i).testBit i = decide (tm_gsn (tm_bk σ) (tm_it (tm_gs (tm_bk σ)) k (tm_bk σ t)) i / 2 ^ i % 2 = 1) := Nat.testBit_eq_decide_div_mod_eq
          refine tl_go 2 21 [(0, .inr 0), (1, .inl ((t : Nat) : Int)), (2, .inl ((tm_gsn (tm_bk σ) (tm_it (tm_gs (tm_bk σ)) k (tm_bk σ t)) i : Nat) : Int)), (3, .inl ((k : Nat) : Int)), (4, .inl ((i : Nat) : Int))] [.inl 8, .inl ((i : Nat) : Int)] w (fun _ h => h) ?_
          refine tl_iff (8 ≤ ((i : Nat) : Int)) 53 24 [(0, .inr 0), (1, .inl ((t : Nat) : Int)), (2, .inl ((tm_gsn (tm_bk σ) (tm_it (tm_gs (tm_bk σ)) k (tm_bk σ t)) i : Nat) : Int)), (3, .inl ((k : Nat) : Int)), (4, .inl ((i : Nat) : Int))] [] (fun _ h => h) (by omega) ?_
          refine tl_go 2 27 [(0, .inr 0), (1, .inl ((t : Nat) : Int)), (2, .inl ((tm_gsn (tm_bk σ) (tm_it (tm_gs (tm_bk σ)) k (tm_bk σ t)) i : Nat) : Int)), (3, .inl ((k : Nat) : Int)), (4, .inl ((i : Nat) : Int))] [.inl ((i : Nat) : Int), .inl ((tm_gsn (tm_bk σ) (tm_it (tm_gs (tm_bk σ)) k (tm_bk σ t)) i : Nat) : Int)] w (fun _ h => h) ?_
          refine tl_shr2 (tm_gsn (tm_bk σ) (tm_it (tm_gs (tm_bk σ)) k (tm_bk σ t)) i) i rfl rfl rfl (by omega) ?_
          refine tl_go 1 29 [(0, .inr 0), (1, .inl ((t : Nat) : Int)), (2, .inl ((tm_gsn (tm_bk σ) (tm_it (tm_gs (tm_bk σ)) k (tm_bk σ t)) i : Nat) : Int)), (3, .inl ((k : Nat) : Int)), (4, .inl ((i : Nat) : Int))] [.inl 1, .inl ((tm_gsn (tm_bk σ) (tm_it (tm_gs (tm_bk σ)) k (tm_bk σ t)) i / 2 ^ i : Nat) : Int)] w (fun _ h => h) ?_
          refine tl_and2 (tm_gsn (tm_bk σ) (tm_it (tm_gs (tm_bk σ)) k (tm_bk σ t)) i / 2 ^ i) 1 rfl rfl rfl ?_
          refine tl_top (y := ((tm_gsn (tm_bk σ) (tm_it (tm_gs (tm_bk σ)) k (tm_bk σ t)) i / 2 ^ i % 2 : Nat) : Int)) (by rw [Nat.and_one_is_mod]) ?_
          refine tl_go 1 31 [(0, .inr 0), (1, .inl ((t : Nat) : Int)), (2, .inl ((tm_gsn (tm_bk σ) (tm_it (tm_gs (tm_bk σ)) k (tm_bk σ t)) i : Nat) : Int)), (3, .inl ((k : Nat) : Int)), (4, .inl ((i : Nat) : Int))] [.inl 1, .inl ((tm_gsn (tm_bk σ) (tm_it (tm_gs (tm_bk σ)) k (tm_bk σ t)) i / 2 ^ i % 2 : Nat) : Int)] w (fun _ h => h) ?_
          refine tl_if (¬ ((tm_gsn (tm_bk σ) (tm_it (tm_gs (tm_bk σ)) k (tm_bk σ t)) i / 2 ^ i % 2 : Nat) : Int) = 1) 45 34 [(0, .inr 0), (1, .inl ((t : Nat) : Int)), (2, .inl ((tm_gsn (tm_bk σ) (tm_it (tm_gs (tm_bk σ)) k (tm_bk σ t)) i : Nat) : Int)), (3, .inl ((k : Nat) : Int)), (4, .inl ((i : Nat) : Int))] [] (fun _ h => h) (fun hc => ?_) (fun hc => ?_)
          · have h9 := ihn (i + 1) (by omega)
            rw [tm_gsn_s, hb, decide_eq_false (by omega)] at h9
            refine tl_go 4 17 [(0, .inr 0), (1, .inl ((t : Nat) : Int)), (2, .inl ((tm_gsn (tm_bk σ) (tm_it (tm_gs (tm_bk σ)) k (tm_bk σ t)) i : Nat) : Int)), (3, .inl ((k : Nat) : Int)), (4, .inl (((i : Nat) : Int) + 1))] [] w (fun _ h => And.intro (by omega) h) ?_
            exact h9
          · have h9 := ihn (i + 1) (by omega)
            rw [tm_gsn_s, hb, decide_eq_true (by omega)] at h9
            refine tl_go 3 38 [(0, .inr 0), (1, .inl ((t : Nat) : Int)), (2, .inl ((tm_gsn (tm_bk σ) (tm_it (tm_gs (tm_bk σ)) k (tm_bk σ t)) i : Nat) : Int)), (3, .inl ((k : Nat) : Int)), (4, .inl ((i : Nat) : Int))] [.inl ((i : Nat) : Int), .inr 0, .inl ((tm_gsn (tm_bk σ) (tm_it (tm_gs (tm_bk σ)) k (tm_bk σ t)) i : Nat) : Int)] w (fun _ h => h) ?_
            refine tl_callV (as := [.inr 0, .inl ((i : Nat) : Int)]) (rest := [.inl ((tm_gsn (tm_bk σ) (tm_it (tm_gs (tm_bk σ)) k (tm_bk σ t)) i : Nat) : Int)]) (v := some ((tm_bk σ i : Nat) : Int)) (w' := w) rfl rfl (tb_wt d i (by omega) w hJ hR) (Nat.le_of_ble_eq_true rfl) rfl rfl rfl (Nat.le_of_ble_eq_true rfl) ?_
            refine tl_or2 (tm_gsn (tm_bk σ) (tm_it (tm_gs (tm_bk σ)) k (tm_bk σ t)) i) (tm_bk σ i) rfl rfl rfl ?_
            refine tl_go 4 17 [(0, .inr 0), (1, .inl ((t : Nat) : Int)), (2, .inl ((tm_gsn (tm_bk σ) (tm_it (tm_gs (tm_bk σ)) k (tm_bk σ t)) i ||| tm_bk σ i : Nat) : Int)), (3, .inl ((k : Nat) : Int)), (4, .inl (((i : Nat) : Int) + 1))] [] w (fun _ h => And.intro (by omega) h) ?_
            exact h9
      rcases hL with rfl | ⟨x, rfl⟩
      · refine tl_go 2 11 [(0, .inr 0), (1, .inl ((t : Nat) : Int)), (2, .inl ((tm_it (tm_gs (tm_bk σ)) k (tm_bk σ t) : Nat) : Int)), (3, .inl ((k : Nat) : Int))] [.inl 8, .inl ((k : Nat) : Int)] w (fun _ h => h) ?_
        refine tl_iff (8 ≤ ((k : Nat) : Int)) 59 14 [(0, .inr 0), (1, .inl ((t : Nat) : Int)), (2, .inl ((tm_it (tm_gs (tm_bk σ)) k (tm_bk σ t) : Nat) : Int)), (3, .inl ((k : Nat) : Int))] [] (fun _ h => h) (by omega) ?_
        refine tl_go 2 17 [(0, .inr 0), (1, .inl ((t : Nat) : Int)), (2, .inl ((tm_it (tm_gs (tm_bk σ)) k (tm_bk σ t) : Nat) : Int)), (3, .inl ((k : Nat) : Int)), (4, .inl 0)] [] w (fun _ h => h) ?_
        exact inner 8 0 rfl
      · refine tl_go 2 11 [(0, .inr 0), (1, .inl ((t : Nat) : Int)), (2, .inl ((tm_it (tm_gs (tm_bk σ)) k (tm_bk σ t) : Nat) : Int)), (3, .inl ((k : Nat) : Int)), (4, .inl x)] [.inl 8, .inl ((k : Nat) : Int)] w (fun _ h => h) ?_
        refine tl_iff (8 ≤ ((k : Nat) : Int)) 59 14 [(0, .inr 0), (1, .inl ((t : Nat) : Int)), (2, .inl ((tm_it (tm_gs (tm_bk σ)) k (tm_bk σ t) : Nat) : Int)), (3, .inl ((k : Nat) : Int)), (4, .inl x)] [] (fun _ h => h) (by omega) ?_
        refine tl_go 2 17 [(0, .inr 0), (1, .inl ((t : Nat) : Int)), (2, .inl ((tm_it (tm_gs (tm_bk σ)) k (tm_bk σ t) : Nat) : Int)), (3, .inl ((k : Nat) : Int)), (4, .inl 0)] [] w (fun _ h => h) ?_
        exact inner 8 0 rfl
  exact loop 8 0 rfl _ (Or.inl rfl)
end
section
/-! 22.mlock: the reference's isCovered, ask, lock, printed by b3.py -/
def tm_c1 (m : Int) (h : Nat) : Bool := decide (h = 5) || (decide (h = 3 ∨ h = 4) && decide (m = 1 ∨ m = 3))
theorem tm_c1_iff {m : Int} {h : Nat} {b : Bool} : (b || tm_c1 m h) = true ↔ (b = true ∨ (h = 5 ∨ ((h = 3 ∨ h = 4) ∧ (m = 1 ∨ m = 3)))) := by
  unfold tm_c1
  simp only [Bool.or_eq_true, Bool.and_eq_true, decide_eq_true_eq]
theorem tm_rfa_le {M : Nat → Nat} {t k : Nat} : ∀ (l : List Nat) (a : Nat), k ≤ tm_rfa M t l a ↔ k ≤ a ∨ ∃ p ∈ l, k ≤ tm_rt (M (34 * t + p)) := by
  intro l
  induction l with
  | nil => intro a; exact ⟨Or.inl, fun q => q.elim id (fun ⟨p, hp, _⟩ => by cases hp)⟩
  | cons b l ih =>
    intro a
    show k ≤ tm_rfa M t l (max a (tm_rt (M (34 * t + b)))) ↔ _
    rw [ih]
    constructor
    · rintro (h | ⟨p, hp, h⟩)
      · by_cases h1 : k ≤ a
        · exact Or.inl h1
        · exact Or.inr ⟨b, List.mem_cons_self, by omega⟩
      · exact Or.inr ⟨p, List.mem_cons_of_mem _ hp, h⟩
    · rintro (h | ⟨p, hp, h⟩)
      · exact Or.inl (by omega)
      · rcases List.mem_cons.mp hp with e | hp
        · rw [e] at h; exact Or.inl (by omega)
        · exact Or.inr ⟨p, hp, h⟩
theorem tm_cvd_any (M : Nat → Nat) (t r : Nat) (m : Int) : tm_cvd M t r m = (tm_an 3 r).any (fun p => tm_c1 m (M (34 * t + p))) := by
  have key : ∀ h : Nat, (if m = 1 ∨ m = 3 then 1 else 2) ≤ tm_rt h ↔ tm_c1 m h = true := by
    intro h
    have := tm_c1_iff (m := m) (h := h) (b := false)
    rw [Bool.false_or] at this
    rw [this]
    unfold tm_rt
    (repeat' split) <;> simp <;> omega
  unfold tm_cvd
  rw [Bool.eq_iff_iff, decide_eq_true_eq, tm_rfa_le, List.any_eq_true]
  constructor
  · rintro (h | ⟨p, hp, h⟩)
    · split at h <;> omega
    · exact ⟨p, hp, (key _).mp h⟩
  · rintro ⟨p, hp, h⟩
    exact Or.inr ⟨p, hp, (key _).mpr h⟩

theorem tb_cvd (d : Nat) (t r : Nat) (m : Int) (ht : t < 8) (hr : r < 34) {M : Nat → Nat} (w : tl_W) (hM : ∀ i, i < 272 → w 0 i = (M i : Int)) : tl_Ev tb_P (d + 2) 17 [.inr 0, .inl ((t : Nat) : Int), .inl ((r : Nat) : Int), .inl m] w (.inl (some (tm_b (decide (tm_cvd M t r m = true))))) w := by
  refine tl_start fun Q hQ => ?_
  have hq0 := tm_cvd_any M t r m
  refine tl_go 3 4 [(0, .inr 0), (1, .inl ((t : Nat) : Int)), (2, .inl ((r : Nat) : Int)), (3, .inl m), (4, .inl 0)] [.inl ((r : Nat) : Int)] w (fun _ h => h) ?_
  refine tl_callS (as := [.inl ((r : Nat) : Int)]) (rest := []) (v := some (tm_pI r)) (w' := w) rfl rfl rfl rfl (tb_par d r hr w) (Nat.le_of_ble_eq_true rfl) rfl rfl (Nat.le_of_ble_eq_true rfl) ?_
  refine tl_go 1 9 [(0, .inr 0), (1, .inl ((t : Nat) : Int)), (2, .inl ((r : Nat) : Int)), (3, .inl m), (4, .inl 0), (5, .inl (tm_pI r))] [] w (fun _ h => h) ?_
  have loop : ∀ (n cur : Nat) (b : Bool), cur < 34 → tm_dp cur ≤ n → tm_cvd M t r m = (b || (tm_an n cur).any (fun p => tm_c1 m (M (34 * t + p)))) → ∀ L : tl_L, (L = [(0, .inr 0), (1, .inl (t : Int)), (2, .inl (r : Int)), (3, .inl m), (4, .inl (tm_b (decide (b = true)))), (5, .inl (tm_pI cur))] ∨ ∃ x : Int, L = [(0, .inr 0), (1, .inl (t : Int)), (2, .inl (r : Int)), (3, .inl m), (4, .inl (tm_b (decide (b = true)))), (5, .inl (tm_pI cur)), (6, .inl x)]) → tl_E tb_P (d + 1) 17 9 L [] w Q := by
    intro n
    induction n with
    | zero =>
      intro cur b hcur hd hq L hL
      have h0 := tm_dp0 (Nat.le_zero.mp hd)
      rcases hL with rfl | ⟨x, rfl⟩
      · refine tl_loc (L' := [(0, .inr 0), (1, .inl ((t : Nat) : Int)), (2, .inl ((r : Nat) : Int)), (3, .inl m), (4, .inl (tm_b (decide (b = true)))), (5, .inl (-1))]) (by rw [h0]; rfl) ?_
        refine tl_go 1 11 [(0, .inr 0), (1, .inl ((t : Nat) : Int)), (2, .inl ((r : Nat) : Int)), (3, .inl m), (4, .inl (tm_b (decide (b = true)))), (5, .inl (-1))] [.inl (-1)] w (fun _ h => h) ?_
        refine tl_ift ((-1) < 0) 78 14 [(0, .inr 0), (1, .inl ((t : Nat) : Int)), (2, .inl ((r : Nat) : Int)), (3, .inl m), (4, .inl (tm_b (decide (b = true)))), (5, .inl (-1))] [] (fun _ h => h) (by decide) ?_
        refine tl_go 1 80 [(0, .inr 0), (1, .inl ((t : Nat) : Int)), (2, .inl ((r : Nat) : Int)), (3, .inl m), (4, .inl (tm_b (decide (b = true)))), (5, .inl (-1))] [.inl (tm_b (decide (b = true)))] w (fun _ h => h) ?_
        exact tl_retz rfl rfl (⟨by rw [hq, h0]; simp [tm_an], tm_b01 _⟩) (hQ)
      · refine tl_loc (L' := [(0, .inr 0), (1, .inl ((t : Nat) : Int)), (2, .inl ((r : Nat) : Int)), (3, .inl m), (4, .inl (tm_b (decide (b = true)))), (5, .inl (-1)), (6, .inl x)]) (by rw [h0]; rfl) ?_
        refine tl_go 1 11 [(0, .inr 0), (1, .inl ((t : Nat) : Int)), (2, .inl ((r : Nat) : Int)), (3, .inl m), (4, .inl (tm_b (decide (b = true)))), (5, .inl (-1)), (6, .inl x)] [.inl (-1)] w (fun _ h => h) ?_
        refine tl_ift ((-1) < 0) 78 14 [(0, .inr 0), (1, .inl ((t : Nat) : Int)), (2, .inl ((r : Nat) : Int)), (3, .inl m), (4, .inl (tm_b (decide (b = true)))), (5, .inl (-1)), (6, .inl x)] [] (fun _ h => h) (by decide) ?_
        refine tl_go 1 80 [(0, .inr 0), (1, .inl ((t : Nat) : Int)), (2, .inl ((r : Nat) : Int)), (3, .inl m), (4, .inl (tm_b (decide (b = true)))), (5, .inl (-1)), (6, .inl x)] [.inl (tm_b (decide (b = true)))] w (fun _ h => h) ?_
        exact tl_retz rfl rfl (⟨by rw [hq, h0]; simp [tm_an], tm_b01 _⟩) (hQ)
    | succ n ih =>
      intro cur b hcur hd hq L hL
      by_cases h0 : cur = 0
      · rcases hL with rfl | ⟨x, rfl⟩
        · refine tl_loc (L' := [(0, .inr 0), (1, .inl ((t : Nat) : Int)), (2, .inl ((r : Nat) : Int)), (3, .inl m), (4, .inl (tm_b (decide (b = true)))), (5, .inl (-1))]) (by rw [h0]; rfl) ?_
          refine tl_go 1 11 [(0, .inr 0), (1, .inl ((t : Nat) : Int)), (2, .inl ((r : Nat) : Int)), (3, .inl m), (4, .inl (tm_b (decide (b = true)))), (5, .inl (-1))] [.inl (-1)] w (fun _ h => h) ?_
          refine tl_ift ((-1) < 0) 78 14 [(0, .inr 0), (1, .inl ((t : Nat) : Int)), (2, .inl ((r : Nat) : Int)), (3, .inl m), (4, .inl (tm_b (decide (b = true)))), (5, .inl (-1))] [] (fun _ h => h) (by decide) ?_
          refine tl_go 1 80 [(0, .inr 0), (1, .inl ((t : Nat) : Int)), (2, .inl ((r : Nat) : Int)), (3, .inl m), (4, .inl (tm_b (decide (b = true)))), (5, .inl (-1))] [.inl (tm_b (decide (b = true)))] w (fun _ h => h) ?_
          exact tl_retz rfl rfl (⟨by rw [hq, h0]; simp [tm_an], tm_b01 _⟩) (hQ)
        · refine tl_loc (L' := [(0, .inr 0), (1, .inl ((t : Nat) : Int)), (2, .inl ((r : Nat) : Int)), (3, .inl m), (4, .inl (tm_b (decide (b = true)))), (5, .inl (-1)), (6, .inl x)]) (by rw [h0]; rfl) ?_
          refine tl_go 1 11 [(0, .inr 0), (1, .inl ((t : Nat) : Int)), (2, .inl ((r : Nat) : Int)), (3, .inl m), (4, .inl (tm_b (decide (b = true)))), (5, .inl (-1)), (6, .inl x)] [.inl (-1)] w (fun _ h => h) ?_
          refine tl_ift ((-1) < 0) 78 14 [(0, .inr 0), (1, .inl ((t : Nat) : Int)), (2, .inl ((r : Nat) : Int)), (3, .inl m), (4, .inl (tm_b (decide (b = true)))), (5, .inl (-1)), (6, .inl x)] [] (fun _ h => h) (by decide) ?_
          refine tl_go 1 80 [(0, .inr 0), (1, .inl ((t : Nat) : Int)), (2, .inl ((r : Nat) : Int)), (3, .inl m), (4, .inl (tm_b (decide (b = true)))), (5, .inl (-1)), (6, .inl x)] [.inl (tm_b (decide (b = true)))] w (fun _ h => h) ?_
          exact tl_retz rfl rfl (⟨by rw [hq, h0]; simp [tm_an], tm_b01 _⟩) (hQ)
      · have hlt := tm_pn_lt h0
        have hdp := tm_dp_pn h0 hcur
        rcases hL with rfl | ⟨x, rfl⟩
        · refine tl_loc (L' := [(0, .inr 0), (1, .inl ((t : Nat) : Int)), (2, .inl ((r : Nat) : Int)), (3, .inl m), (4, .inl (tm_b (decide (b = true)))), (5, .inl ((tm_pn cur : Nat) : Int))]) (by rw [tm_pI_p h0]) ?_
          refine tl_go 1 11 [(0, .inr 0), (1, .inl ((t : Nat) : Int)), (2, .inl ((r : Nat) : Int)), (3, .inl m), (4, .inl (tm_b (decide (b = true)))), (5, .inl ((tm_pn cur : Nat) : Int))] [.inl ((tm_pn cur : Nat) : Int)] w (fun _ h => h) ?_
          refine tl_iff (((tm_pn cur : Nat) : Int) < 0) 78 14 [(0, .inr 0), (1, .inl ((t : Nat) : Int)), (2, .inl ((r : Nat) : Int)), (3, .inl m), (4, .inl (tm_b (decide (b = true)))), (5, .inl ((tm_pn cur : Nat) : Int))] [] (fun _ h => h) (by omega) ?_
          refine tl_go 7 25 [(0, .inr 0), (1, .inl ((t : Nat) : Int)), (2, .inl ((r : Nat) : Int)), (3, .inl m), (4, .inl (tm_b (decide (b = true)))), (5, .inl ((tm_pn cur : Nat) : Int))] [.inl ((34 * ((t : Nat) : Int)) + ((tm_pn cur : Nat) : Int)), .inr 1] w (fun _ h => And.intro rfl (And.intro (by decide) (And.intro (by omega) (And.intro (by omega) h)))) ?_
          refine tl_ald (34 * t + tm_pn cur) 272 (k := 0) rfl (by omega) rfl (by omega) ?_
          refine tl_top (y := ((M (34 * t + tm_pn cur) : Nat) : Int)) (hM _ (by omega)) ?_
          refine tl_go 2 30 [(0, .inr 0), (1, .inl ((t : Nat) : Int)), (2, .inl ((r : Nat) : Int)), (3, .inl m), (4, .inl (tm_b (decide (b = true)))), (5, .inl ((tm_pn cur : Nat) : Int)), (6, .inl ((M (34 * t + tm_pn cur) : Nat) : Int))] [.inl (tm_b (decide (b = true)))] w (fun _ h => h) ?_
          refine tl_if (¬ (tm_b (decide (b = true))) = 0) 61 33 [(0, .inr 0), (1, .inl ((t : Nat) : Int)), (2, .inl ((r : Nat) : Int)), (3, .inl m), (4, .inl (tm_b (decide (b = true)))), (5, .inl ((tm_pn cur : Nat) : Int)), (6, .inl ((M (34 * t + tm_pn cur) : Nat) : Int))] [] (fun _ h => h) (fun hb => ?_) (fun hb => ?_)
          · have hb := of_decide_eq_true (tm_bne hb)
            refine tl_go 2 66 [(0, .inr 0), (1, .inl ((t : Nat) : Int)), (2, .inl ((r : Nat) : Int)), (3, .inl m), (4, .inl (tm_b (decide (b = true)))), (5, .inl ((tm_pn cur : Nat) : Int)), (6, .inl ((M (34 * t + tm_pn cur) : Nat) : Int))] [.inl 1] w (fun _ h => h) ?_
            have e1 : (1 : Int) = tm_b (decide ((b || tm_c1 m (M (34 * t + tm_pn cur))) = true)) := (tm_b1 (decide_eq_true (tm_c1_iff.mpr (Or.inl hb)))).1
            refine tl_go 1 68 [(0, .inr 0), (1, .inl ((t : Nat) : Int)), (2, .inl ((r : Nat) : Int)), (3, .inl m), (4, .inl 1), (5, .inl ((tm_pn cur : Nat) : Int)), (6, .inl ((M (34 * t + tm_pn cur) : Nat) : Int))] [] w (fun _ h => h) ?_
            refine tl_loc (L' := [(0, .inr 0), (1, .inl ((t : Nat) : Int)), (2, .inl ((r : Nat) : Int)), (3, .inl m), (4, .inl (tm_b (decide ((b || tm_c1 m (M (34 * t + tm_pn cur))) = true)))), (5, .inl ((tm_pn cur : Nat) : Int)), (6, .inl ((M (34 * t + tm_pn cur) : Nat) : Int))]) (by rw [e1]) ?_
            refine tl_go 1 70 [(0, .inr 0), (1, .inl ((t : Nat) : Int)), (2, .inl ((r : Nat) : Int)), (3, .inl m), (4, .inl (tm_b (decide ((b || tm_c1 m (M (34 * t + tm_pn cur))) = true)))), (5, .inl ((tm_pn cur : Nat) : Int)), (6, .inl ((M (34 * t + tm_pn cur) : Nat) : Int))] [.inl ((tm_pn cur : Nat) : Int)] w (fun _ h => h) ?_
            refine tl_callS (as := [.inl ((tm_pn cur : Nat) : Int)]) (rest := []) (v := some (tm_pI (tm_pn cur))) (w' := w) rfl rfl rfl rfl (tb_par d (tm_pn cur) (by omega) w) (Nat.le_of_ble_eq_true rfl) rfl rfl (Nat.le_of_ble_eq_true rfl) ?_
            refine tl_go 2 9 [(0, .inr 0), (1, .inl ((t : Nat) : Int)), (2, .inl ((r : Nat) : Int)), (3, .inl m), (4, .inl (tm_b (decide ((b || tm_c1 m (M (34 * t + tm_pn cur))) = true)))), (5, .inl (tm_pI (tm_pn cur))), (6, .inl ((M (34 * t + tm_pn cur) : Nat) : Int))] [] w (fun _ h => h) ?_
            exact ih (tm_pn cur) (b || tm_c1 m (M (34 * t + tm_pn cur))) (by omega) (by omega) (by rw [hq, tm_an_s, if_neg h0, List.any_cons, Bool.or_assoc]) _ (Or.inr ⟨_, rfl⟩)
          · have hb := of_decide_eq_false (tm_beq (Classical.not_not.mp hb))
            refine tl_go 2 36 [(0, .inr 0), (1, .inl ((t : Nat) : Int)), (2, .inl ((r : Nat) : Int)), (3, .inl m), (4, .inl (tm_b (decide (b = true)))), (5, .inl ((tm_pn cur : Nat) : Int)), (6, .inl ((M (34 * t + tm_pn cur) : Nat) : Int))] [.inl 5, .inl ((M (34 * t + tm_pn cur) : Nat) : Int)] w (fun _ h => h) ?_
            refine tl_if (((M (34 * t + tm_pn cur) : Nat) : Int) = 5) 61 39 [(0, .inr 0), (1, .inl ((t : Nat) : Int)), (2, .inl ((r : Nat) : Int)), (3, .inl m), (4, .inl (tm_b (decide (b = true)))), (5, .inl ((tm_pn cur : Nat) : Int)), (6, .inl ((M (34 * t + tm_pn cur) : Nat) : Int))] [] (fun _ h => h) (fun hd0 => ?_) (fun hd0 => ?_)
            · refine tl_go 2 66 [(0, .inr 0), (1, .inl ((t : Nat) : Int)), (2, .inl ((r : Nat) : Int)), (3, .inl m), (4, .inl (tm_b (decide (b = true)))), (5, .inl ((tm_pn cur : Nat) : Int)), (6, .inl ((M (34 * t + tm_pn cur) : Nat) : Int))] [.inl 1] w (fun _ h => h) ?_
              have e1 : (1 : Int) = tm_b (decide ((b || tm_c1 m (M (34 * t + tm_pn cur))) = true)) := (tm_b1 (decide_eq_true (tm_c1_iff.mpr (Or.inr (by omega))))).1
              refine tl_go 1 68 [(0, .inr 0), (1, .inl ((t : Nat) : Int)), (2, .inl ((r : Nat) : Int)), (3, .inl m), (4, .inl 1), (5, .inl ((tm_pn cur : Nat) : Int)), (6, .inl ((M (34 * t + tm_pn cur) : Nat) : Int))] [] w (fun _ h => h) ?_
              refine tl_loc (L' := [(0, .inr 0), (1, .inl ((t : Nat) : Int)), (2, .inl ((r : Nat) : Int)), (3, .inl m), (4, .inl (tm_b (decide ((b || tm_c1 m (M (34 * t + tm_pn cur))) = true)))), (5, .inl ((tm_pn cur : Nat) : Int)), (6, .inl ((M (34 * t + tm_pn cur) : Nat) : Int))]) (by rw [e1]) ?_
              refine tl_go 1 70 [(0, .inr 0), (1, .inl ((t : Nat) : Int)), (2, .inl ((r : Nat) : Int)), (3, .inl m), (4, .inl (tm_b (decide ((b || tm_c1 m (M (34 * t + tm_pn cur))) = true)))), (5, .inl ((tm_pn cur : Nat) : Int)), (6, .inl ((M (34 * t + tm_pn cur) : Nat) : Int))] [.inl ((tm_pn cur : Nat) : Int)] w (fun _ h => h) ?_
              refine tl_callS (as := [.inl ((tm_pn cur : Nat) : Int)]) (rest := []) (v := some (tm_pI (tm_pn cur))) (w' := w) rfl rfl rfl rfl (tb_par d (tm_pn cur) (by omega) w) (Nat.le_of_ble_eq_true rfl) rfl rfl (Nat.le_of_ble_eq_true rfl) ?_
              refine tl_go 2 9 [(0, .inr 0), (1, .inl ((t : Nat) : Int)), (2, .inl ((r : Nat) : Int)), (3, .inl m), (4, .inl (tm_b (decide ((b || tm_c1 m (M (34 * t + tm_pn cur))) = true)))), (5, .inl (tm_pI (tm_pn cur))), (6, .inl ((M (34 * t + tm_pn cur) : Nat) : Int))] [] w (fun _ h => h) ?_
              exact ih (tm_pn cur) (b || tm_c1 m (M (34 * t + tm_pn cur))) (by omega) (by omega) (by rw [hq, tm_an_s, if_neg h0, List.any_cons, Bool.or_assoc]) _ (Or.inr ⟨_, rfl⟩)
            · refine tl_go 2 42 [(0, .inr 0), (1, .inl ((t : Nat) : Int)), (2, .inl ((r : Nat) : Int)), (3, .inl m), (4, .inl (tm_b (decide (b = true)))), (5, .inl ((tm_pn cur : Nat) : Int)), (6, .inl ((M (34 * t + tm_pn cur) : Nat) : Int))] [.inl 3, .inl ((M (34 * t + tm_pn cur) : Nat) : Int)] w (fun _ h => h) ?_
              refine tl_if (((M (34 * t + tm_pn cur) : Nat) : Int) = 3) 51 45 [(0, .inr 0), (1, .inl ((t : Nat) : Int)), (2, .inl ((r : Nat) : Int)), (3, .inl m), (4, .inl (tm_b (decide (b = true)))), (5, .inl ((tm_pn cur : Nat) : Int)), (6, .inl ((M (34 * t + tm_pn cur) : Nat) : Int))] [] (fun _ h => h) (fun hd1 => ?_) (fun hd1 => ?_)
              · refine tl_go 2 53 [(0, .inr 0), (1, .inl ((t : Nat) : Int)), (2, .inl ((r : Nat) : Int)), (3, .inl m), (4, .inl (tm_b (decide (b = true)))), (5, .inl ((tm_pn cur : Nat) : Int)), (6, .inl ((M (34 * t + tm_pn cur) : Nat) : Int))] [.inl 1, .inl m] w (fun _ h => h) ?_
                refine tl_if (m = 1) 61 56 [(0, .inr 0), (1, .inl ((t : Nat) : Int)), (2, .inl ((r : Nat) : Int)), (3, .inl m), (4, .inl (tm_b (decide (b = true)))), (5, .inl ((tm_pn cur : Nat) : Int)), (6, .inl ((M (34 * t + tm_pn cur) : Nat) : Int))] [] (fun _ h => h) (fun hd2 => ?_) (fun hd2 => ?_)
                · refine tl_go 2 66 [(0, .inr 0), (1, .inl ((t : Nat) : Int)), (2, .inl ((r : Nat) : Int)), (3, .inl m), (4, .inl (tm_b (decide (b = true)))), (5, .inl ((tm_pn cur : Nat) : Int)), (6, .inl ((M (34 * t + tm_pn cur) : Nat) : Int))] [.inl 1] w (fun _ h => h) ?_
                  have e1 : (1 : Int) = tm_b (decide ((b || tm_c1 m (M (34 * t + tm_pn cur))) = true)) := (tm_b1 (decide_eq_true (tm_c1_iff.mpr (Or.inr (by omega))))).1
                  refine tl_go 1 68 [(0, .inr 0), (1, .inl ((t : Nat) : Int)), (2, .inl ((r : Nat) : Int)), (3, .inl m), (4, .inl 1), (5, .inl ((tm_pn cur : Nat) : Int)), (6, .inl ((M (34 * t + tm_pn cur) : Nat) : Int))] [] w (fun _ h => h) ?_
                  refine tl_loc (L' := [(0, .inr 0), (1, .inl ((t : Nat) : Int)), (2, .inl ((r : Nat) : Int)), (3, .inl m), (4, .inl (tm_b (decide ((b || tm_c1 m (M (34 * t + tm_pn cur))) = true)))), (5, .inl ((tm_pn cur : Nat) : Int)), (6, .inl ((M (34 * t + tm_pn cur) : Nat) : Int))]) (by rw [e1]) ?_
                  refine tl_go 1 70 [(0, .inr 0), (1, .inl ((t : Nat) : Int)), (2, .inl ((r : Nat) : Int)), (3, .inl m), (4, .inl (tm_b (decide ((b || tm_c1 m (M (34 * t + tm_pn cur))) = true)))), (5, .inl ((tm_pn cur : Nat) : Int)), (6, .inl ((M (34 * t + tm_pn cur) : Nat) : Int))] [.inl ((tm_pn cur : Nat) : Int)] w (fun _ h => h) ?_
                  refine tl_callS (as := [.inl ((tm_pn cur : Nat) : Int)]) (rest := []) (v := some (tm_pI (tm_pn cur))) (w' := w) rfl rfl rfl rfl (tb_par d (tm_pn cur) (by omega) w) (Nat.le_of_ble_eq_true rfl) rfl rfl (Nat.le_of_ble_eq_true rfl) ?_
                  refine tl_go 2 9 [(0, .inr 0), (1, .inl ((t : Nat) : Int)), (2, .inl ((r : Nat) : Int)), (3, .inl m), (4, .inl (tm_b (decide ((b || tm_c1 m (M (34 * t + tm_pn cur))) = true)))), (5, .inl (tm_pI (tm_pn cur))), (6, .inl ((M (34 * t + tm_pn cur) : Nat) : Int))] [] w (fun _ h => h) ?_
                  exact ih (tm_pn cur) (b || tm_c1 m (M (34 * t + tm_pn cur))) (by omega) (by omega) (by rw [hq, tm_an_s, if_neg h0, List.any_cons, Bool.or_assoc]) _ (Or.inr ⟨_, rfl⟩)
                · refine tl_go 2 58 [(0, .inr 0), (1, .inl ((t : Nat) : Int)), (2, .inl ((r : Nat) : Int)), (3, .inl m), (4, .inl (tm_b (decide (b = true)))), (5, .inl ((tm_pn cur : Nat) : Int)), (6, .inl ((M (34 * t + tm_pn cur) : Nat) : Int))] [.inl 3, .inl m] w (fun _ h => h) ?_
                  refine tl_if (¬ m = 3) 65 61 [(0, .inr 0), (1, .inl ((t : Nat) : Int)), (2, .inl ((r : Nat) : Int)), (3, .inl m), (4, .inl (tm_b (decide (b = true)))), (5, .inl ((tm_pn cur : Nat) : Int)), (6, .inl ((M (34 * t + tm_pn cur) : Nat) : Int))] [] (fun _ h => h) (fun hd3 => ?_) (fun hd3 => ?_)
                  · refine tl_go 1 66 [(0, .inr 0), (1, .inl ((t : Nat) : Int)), (2, .inl ((r : Nat) : Int)), (3, .inl m), (4, .inl (tm_b (decide (b = true)))), (5, .inl ((tm_pn cur : Nat) : Int)), (6, .inl ((M (34 * t + tm_pn cur) : Nat) : Int))] [.inl 0] w (fun _ h => h) ?_
                    have e1 : (0 : Int) = tm_b (decide ((b || tm_c1 m (M (34 * t + tm_pn cur))) = true)) := (tm_b0 (decide_eq_false (fun q => (tm_c1_iff.mp q).elim hb (fun z => by omega)))).1
                    refine tl_go 1 68 [(0, .inr 0), (1, .inl ((t : Nat) : Int)), (2, .inl ((r : Nat) : Int)), (3, .inl m), (4, .inl 0), (5, .inl ((tm_pn cur : Nat) : Int)), (6, .inl ((M (34 * t + tm_pn cur) : Nat) : Int))] [] w (fun _ h => h) ?_
                    refine tl_loc (L' := [(0, .inr 0), (1, .inl ((t : Nat) : Int)), (2, .inl ((r : Nat) : Int)), (3, .inl m), (4, .inl (tm_b (decide ((b || tm_c1 m (M (34 * t + tm_pn cur))) = true)))), (5, .inl ((tm_pn cur : Nat) : Int)), (6, .inl ((M (34 * t + tm_pn cur) : Nat) : Int))]) (by rw [e1]) ?_
                    refine tl_go 1 70 [(0, .inr 0), (1, .inl ((t : Nat) : Int)), (2, .inl ((r : Nat) : Int)), (3, .inl m), (4, .inl (tm_b (decide ((b || tm_c1 m (M (34 * t + tm_pn cur))) = true)))), (5, .inl ((tm_pn cur : Nat) : Int)), (6, .inl ((M (34 * t + tm_pn cur) : Nat) : Int))] [.inl ((tm_pn cur : Nat) : Int)] w (fun _ h => h) ?_
                    refine tl_callS (as := [.inl ((tm_pn cur : Nat) : Int)]) (rest := []) (v := some (tm_pI (tm_pn cur))) (w' := w) rfl rfl rfl rfl (tb_par d (tm_pn cur) (by omega) w) (Nat.le_of_ble_eq_true rfl) rfl rfl (Nat.le_of_ble_eq_true rfl) ?_
                    refine tl_go 2 9 [(0, .inr 0), (1, .inl ((t : Nat) : Int)), (2, .inl ((r : Nat) : Int)), (3, .inl m), (4, .inl (tm_b (decide ((b || tm_c1 m (M (34 * t + tm_pn cur))) = true)))), (5, .inl (tm_pI (tm_pn cur))), (6, .inl ((M (34 * t + tm_pn cur) : Nat) : Int))] [] w (fun _ h => h) ?_
                    exact ih (tm_pn cur) (b || tm_c1 m (M (34 * t + tm_pn cur))) (by omega) (by omega) (by rw [hq, tm_an_s, if_neg h0, List.any_cons, Bool.or_assoc]) _ (Or.inr ⟨_, rfl⟩)
                  · refine tl_go 2 66 [(0, .inr 0), (1, .inl ((t : Nat) : Int)), (2, .inl ((r : Nat) : Int)), (3, .inl m), (4, .inl (tm_b (decide (b = true)))), (5, .inl ((tm_pn cur : Nat) : Int)), (6, .inl ((M (34 * t + tm_pn cur) : Nat) : Int))] [.inl 1] w (fun _ h => h) ?_
                    have e1 : (1 : Int) = tm_b (decide ((b || tm_c1 m (M (34 * t + tm_pn cur))) = true)) := (tm_b1 (decide_eq_true (tm_c1_iff.mpr (Or.inr (by omega))))).1
                    refine tl_go 1 68 [(0, .inr 0), (1, .inl ((t : Nat) : Int)), (2, .inl ((r : Nat) : Int)), (3, .inl m), (4, .inl 1), (5, .inl ((tm_pn cur : Nat) : Int)), (6, .inl ((M (34 * t + tm_pn cur) : Nat) : Int))] [] w (fun _ h => h) ?_
                    refine tl_loc (L' := [(0, .inr 0), (1, .inl ((t : Nat) : Int)), (2, .inl ((r : Nat) : Int)), (3, .inl m), (4, .inl (tm_b (decide ((b || tm_c1 m (M (34 * t + tm_pn cur))) = true)))), (5, .inl ((tm_pn cur : Nat) : Int)), (6, .inl ((M (34 * t + tm_pn cur) : Nat) : Int))]) (by rw [e1]) ?_
                    refine tl_go 1 70 [(0, .inr 0), (1, .inl ((t : Nat) : Int)), (2, .inl ((r : Nat) : Int)), (3, .inl m), (4, .inl (tm_b (decide ((b || tm_c1 m (M (34 * t + tm_pn cur))) = true)))), (5, .inl ((tm_pn cur : Nat) : Int)), (6, .inl ((M (34 * t + tm_pn cur) : Nat) : Int))] [.inl ((tm_pn cur : Nat) : Int)] w (fun _ h => h) ?_
                    refine tl_callS (as := [.inl ((tm_pn cur : Nat) : Int)]) (rest := []) (v := some (tm_pI (tm_pn cur))) (w' := w) rfl rfl rfl rfl (tb_par d (tm_pn cur) (by omega) w) (Nat.le_of_ble_eq_true rfl) rfl rfl (Nat.le_of_ble_eq_true rfl) ?_
                    refine tl_go 2 9 [(0, .inr 0), (1, .inl ((t : Nat) : Int)), (2, .inl ((r : Nat) : Int)), (3, .inl m), (4, .inl (tm_b (decide ((b || tm_c1 m (M (34 * t + tm_pn cur))) = true)))), (5, .inl (tm_pI (tm_pn cur))), (6, .inl ((M (34 * t + tm_pn cur) : Nat) : Int))] [] w (fun _ h => h) ?_
                    exact ih (tm_pn cur) (b || tm_c1 m (M (34 * t + tm_pn cur))) (by omega) (by omega) (by rw [hq, tm_an_s, if_neg h0, List.any_cons, Bool.or_assoc]) _ (Or.inr ⟨_, rfl⟩)
              · refine tl_go 2 48 [(0, .inr 0), (1, .inl ((t : Nat) : Int)), (2, .inl ((r : Nat) : Int)), (3, .inl m), (4, .inl (tm_b (decide (b = true)))), (5, .inl ((tm_pn cur : Nat) : Int)), (6, .inl ((M (34 * t + tm_pn cur) : Nat) : Int))] [.inl 4, .inl ((M (34 * t + tm_pn cur) : Nat) : Int)] w (fun _ h => h) ?_
                refine tl_if (¬ ((M (34 * t + tm_pn cur) : Nat) : Int) = 4) 65 51 [(0, .inr 0), (1, .inl ((t : Nat) : Int)), (2, .inl ((r : Nat) : Int)), (3, .inl m), (4, .inl (tm_b (decide (b = true)))), (5, .inl ((tm_pn cur : Nat) : Int)), (6, .inl ((M (34 * t + tm_pn cur) : Nat) : Int))] [] (fun _ h => h) (fun hd2 => ?_) (fun hd2 => ?_)
                · refine tl_go 1 66 [(0, .inr 0), (1, .inl ((t : Nat) : Int)), (2, .inl ((r : Nat) : Int)), (3, .inl m), (4, .inl (tm_b (decide (b = true)))), (5, .inl ((tm_pn cur : Nat) : Int)), (6, .inl ((M (34 * t + tm_pn cur) : Nat) : Int))] [.inl 0] w (fun _ h => h) ?_
                  have e1 : (0 : Int) = tm_b (decide ((b || tm_c1 m (M (34 * t + tm_pn cur))) = true)) := (tm_b0 (decide_eq_false (fun q => (tm_c1_iff.mp q).elim hb (fun z => by omega)))).1
                  refine tl_go 1 68 [(0, .inr 0), (1, .inl ((t : Nat) : Int)), (2, .inl ((r : Nat) : Int)), (3, .inl m), (4, .inl 0), (5, .inl ((tm_pn cur : Nat) : Int)), (6, .inl ((M (34 * t + tm_pn cur) : Nat) : Int))] [] w (fun _ h => h) ?_
                  refine tl_loc (L' := [(0, .inr 0), (1, .inl ((t : Nat) : Int)), (2, .inl ((r : Nat) : Int)), (3, .inl m), (4, .inl (tm_b (decide ((b || tm_c1 m (M (34 * t + tm_pn cur))) = true)))), (5, .inl ((tm_pn cur : Nat) : Int)), (6, .inl ((M (34 * t + tm_pn cur) : Nat) : Int))]) (by rw [e1]) ?_
                  refine tl_go 1 70 [(0, .inr 0), (1, .inl ((t : Nat) : Int)), (2, .inl ((r : Nat) : Int)), (3, .inl m), (4, .inl (tm_b (decide ((b || tm_c1 m (M (34 * t + tm_pn cur))) = true)))), (5, .inl ((tm_pn cur : Nat) : Int)), (6, .inl ((M (34 * t + tm_pn cur) : Nat) : Int))] [.inl ((tm_pn cur : Nat) : Int)] w (fun _ h => h) ?_
                  refine tl_callS (as := [.inl ((tm_pn cur : Nat) : Int)]) (rest := []) (v := some (tm_pI (tm_pn cur))) (w' := w) rfl rfl rfl rfl (tb_par d (tm_pn cur) (by omega) w) (Nat.le_of_ble_eq_true rfl) rfl rfl (Nat.le_of_ble_eq_true rfl) ?_
                  refine tl_go 2 9 [(0, .inr 0), (1, .inl ((t : Nat) : Int)), (2, .inl ((r : Nat) : Int)), (3, .inl m), (4, .inl (tm_b (decide ((b || tm_c1 m (M (34 * t + tm_pn cur))) = true)))), (5, .inl (tm_pI (tm_pn cur))), (6, .inl ((M (34 * t + tm_pn cur) : Nat) : Int))] [] w (fun _ h => h) ?_
                  exact ih (tm_pn cur) (b || tm_c1 m (M (34 * t + tm_pn cur))) (by omega) (by omega) (by rw [hq, tm_an_s, if_neg h0, List.any_cons, Bool.or_assoc]) _ (Or.inr ⟨_, rfl⟩)
                · refine tl_go 2 53 [(0, .inr 0), (1, .inl ((t : Nat) : Int)), (2, .inl ((r : Nat) : Int)), (3, .inl m), (4, .inl (tm_b (decide (b = true)))), (5, .inl ((tm_pn cur : Nat) : Int)), (6, .inl ((M (34 * t + tm_pn cur) : Nat) : Int))] [.inl 1, .inl m] w (fun _ h => h) ?_
                  refine tl_if (m = 1) 61 56 [(0, .inr 0), (1, .inl ((t : Nat) : Int)), (2, .inl ((r : Nat) : Int)), (3, .inl m), (4, .inl (tm_b (decide (b = true)))), (5, .inl ((tm_pn cur : Nat) : Int)), (6, .inl ((M (34 * t + tm_pn cur) : Nat) : Int))] [] (fun _ h => h) (fun hd3 => ?_) (fun hd3 => ?_)
                  · refine tl_go 2 66 [(0, .inr 0), (1, .inl ((t : Nat) : Int)), (2, .inl ((r : Nat) : Int)), (3, .inl m), (4, .inl (tm_b (decide (b = true)))), (5, .inl ((tm_pn cur : Nat) : Int)), (6, .inl ((M (34 * t + tm_pn cur) : Nat) : Int))] [.inl 1] w (fun _ h => h) ?_
                    have e1 : (1 : Int) = tm_b (decide ((b || tm_c1 m (M (34 * t + tm_pn cur))) = true)) := (tm_b1 (decide_eq_true (tm_c1_iff.mpr (Or.inr (by omega))))).1
                    refine tl_go 1 68 [(0, .inr 0), (1, .inl ((t : Nat) : Int)), (2, .inl ((r : Nat) : Int)), (3, .inl m), (4, .inl 1), (5, .inl ((tm_pn cur : Nat) : Int)), (6, .inl ((M (34 * t + tm_pn cur) : Nat) : Int))] [] w (fun _ h => h) ?_
                    refine tl_loc (L' := [(0, .inr 0), (1, .inl ((t : Nat) : Int)), (2, .inl ((r : Nat) : Int)), (3, .inl m), (4, .inl (tm_b (decide ((b || tm_c1 m (M (34 * t + tm_pn cur))) = true)))), (5, .inl ((tm_pn cur : Nat) : Int)), (6, .inl ((M (34 * t + tm_pn cur) : Nat) : Int))]) (by rw [e1]) ?_
                    refine tl_go 1 70 [(0, .inr 0), (1, .inl ((t : Nat) : Int)), (2, .inl ((r : Nat) : Int)), (3, .inl m), (4, .inl (tm_b (decide ((b || tm_c1 m (M (34 * t + tm_pn cur))) = true)))), (5, .inl ((tm_pn cur : Nat) : Int)), (6, .inl ((M (34 * t + tm_pn cur) : Nat) : Int))] [.inl ((tm_pn cur : Nat) : Int)] w (fun _ h => h) ?_
                    refine tl_callS (as := [.inl ((tm_pn cur : Nat) : Int)]) (rest := []) (v := some (tm_pI (tm_pn cur))) (w' := w) rfl rfl rfl rfl (tb_par d (tm_pn cur) (by omega) w) (Nat.le_of_ble_eq_true rfl) rfl rfl (Nat.le_of_ble_eq_true rfl) ?_
                    refine tl_go 2 9 [(0, .inr 0), (1, .inl ((t : Nat) : Int)), (2, .inl ((r : Nat) : Int)), (3, .inl m), (4, .inl (tm_b (decide ((b || tm_c1 m (M (34 * t + tm_pn cur))) = true)))), (5, .inl (tm_pI (tm_pn cur))), (6, .inl ((M (34 * t + tm_pn cur) : Nat) : Int))] [] w (fun _ h => h) ?_
                    exact ih (tm_pn cur) (b || tm_c1 m (M (34 * t + tm_pn cur))) (by omega) (by omega) (by rw [hq, tm_an_s, if_neg h0, List.any_cons, Bool.or_assoc]) _ (Or.inr ⟨_, rfl⟩)
                  · refine tl_go 2 58 [(0, .inr 0), (1, .inl ((t : Nat) : Int)), (2, .inl ((r : Nat) : Int)), (3, .inl m), (4, .inl (tm_b (decide (b = true)))), (5, .inl ((tm_pn cur : Nat) : Int)), (6, .inl ((M (34 * t + tm_pn cur) : Nat) : Int))] [.inl 3, .inl m] w (fun _ h => h) ?_
                    refine tl_if (¬ m = 3) 65 61 [(0, .inr 0), (1, .inl ((t : Nat) : Int)), (2, .inl ((r : Nat) : Int)), (3, .inl m), (4, .inl (tm_b (decide (b = true)))), (5, .inl ((tm_pn cur : Nat) : Int)), (6, .inl ((M (34 * t + tm_pn cur) : Nat) : Int))] [] (fun _ h => h) (fun hd4 => ?_) (fun hd4 => ?_)
                    · refine tl_go 1 66 [(0, .inr 0), (1, .inl ((t : Nat) : Int)), (2, .inl ((r : Nat) : Int)), (3, .inl m), (4, .inl (tm_b (decide (b = true)))), (5, .inl ((tm_pn cur : Nat) : Int)), (6, .inl ((M (34 * t + tm_pn cur) : Nat) : Int))] [.inl 0] w (fun _ h => h) ?_
                      have e1 : (0 : Int) = tm_b (decide ((b || tm_c1 m (M (34 * t + tm_pn cur))) = true)) := (tm_b0 (decide_eq_false (fun q => (tm_c1_iff.mp q).elim hb (fun z => by omega)))).1
                      refine tl_go 1 68 [(0, .inr 0), (1, .inl ((t : Nat) : Int)), (2, .inl ((r : Nat) : Int)), (3, .inl m), (4, .inl 0), (5, .inl ((tm_pn cur : Nat) : Int)), (6, .inl ((M (34 * t + tm_pn cur) : Nat) : Int))] [] w (fun _ h => h) ?_
                      refine tl_loc (L' := [(0, .inr 0), (1, .inl ((t : Nat) : Int)), (2, .inl ((r : Nat) : Int)), (3, .inl m), (4, .inl (tm_b (decide ((b || tm_c1 m (M (34 * t + tm_pn cur))) = true)))), (5, .inl ((tm_pn cur : Nat) : Int)), (6, .inl ((M (34 * t + tm_pn cur) : Nat) : Int))]) (by rw [e1]) ?_
                      refine tl_go 1 70 [(0, .inr 0), (1, .inl ((t : Nat) : Int)), (2, .inl ((r : Nat) : Int)), (3, .inl m), (4, .inl (tm_b (decide ((b || tm_c1 m (M (34 * t + tm_pn cur))) = true)))), (5, .inl ((tm_pn cur : Nat) : Int)), (6, .inl ((M (34 * t + tm_pn cur) : Nat) : Int))] [.inl ((tm_pn cur : Nat) : Int)] w (fun _ h => h) ?_
                      refine tl_callS (as := [.inl ((tm_pn cur : Nat) : Int)]) (rest := []) (v := some (tm_pI (tm_pn cur))) (w' := w) rfl rfl rfl rfl (tb_par d (tm_pn cur) (by omega) w) (Nat.le_of_ble_eq_true rfl) rfl rfl (Nat.le_of_ble_eq_true rfl) ?_
                      refine tl_go 2 9 [(0, .inr 0), (1, .inl ((t : Nat) : Int)), (2, .inl ((r : Nat) : Int)), (3, .inl m), (4, .inl (tm_b (decide ((b || tm_c1 m (M (34 * t + tm_pn cur))) = true)))), (5, .inl (tm_pI (tm_pn cur))), (6, .inl ((M (34 * t + tm_pn cur) : Nat) : Int))] [] w (fun _ h => h) ?_
                      exact ih (tm_pn cur) (b || tm_c1 m (M (34 * t + tm_pn cur))) (by omega) (by omega) (by rw [hq, tm_an_s, if_neg h0, List.any_cons, Bool.or_assoc]) _ (Or.inr ⟨_, rfl⟩)
                    · refine tl_go 2 66 [(0, .inr 0), (1, .inl ((t : Nat) : Int)), (2, .inl ((r : Nat) : Int)), (3, .inl m), (4, .inl (tm_b (decide (b = true)))), (5, .inl ((tm_pn cur : Nat) : Int)), (6, .inl ((M (34 * t + tm_pn cur) : Nat) : Int))] [.inl 1] w (fun _ h => h) ?_
                      have e1 : (1 : Int) = tm_b (decide ((b || tm_c1 m (M (34 * t + tm_pn cur))) = true)) := (tm_b1 (decide_eq_true (tm_c1_iff.mpr (Or.inr (by omega))))).1
                      refine tl_go 1 68 [(0, .inr 0), (1, .inl ((t : Nat) : Int)), (2, .inl ((r : Nat) : Int)), (3, .inl m), (4, .inl 1), (5, .inl ((tm_pn cur : Nat) : Int)), (6, .inl ((M (34 * t + tm_pn cur) : Nat) : Int))] [] w (fun _ h => h) ?_
                      refine tl_loc (L' := [(0, .inr 0), (1, .inl ((t : Nat) : Int)), (2, .inl ((r : Nat) : Int)), (3, .inl m), (4, .inl (tm_b (decide ((b || tm_c1 m (M (34 * t + tm_pn cur))) = true)))), (5, .inl ((tm_pn cur : Nat) : Int)), (6, .inl ((M (34 * t + tm_pn cur) : Nat) : Int))]) (by rw [e1]) ?_
                      refine tl_go 1 70 [(0, .inr 0), (1, .inl ((t : Nat) : Int)), (2, .inl ((r : Nat) : Int)), (3, .inl m), (4, .inl (tm_b (decide ((b || tm_c1 m (M (34 * t + tm_pn cur))) = true)))), (5, .inl ((tm_pn cur : Nat) : Int)), (6, .inl ((M (34 * t + tm_pn cur) : Nat) : Int))] [.inl ((tm_pn cur : Nat) : Int)] w (fun _ h => h) ?_
                      refine tl_callS (as := [.inl ((tm_pn cur : Nat) : Int)]) (rest := []) (v := some (tm_pI (tm_pn cur))) (w' := w) rfl rfl rfl rfl (tb_par d (tm_pn cur) (by omega) w) (Nat.le_of_ble_eq_true rfl) rfl rfl (Nat.le_of_ble_eq_true rfl) ?_
                      refine tl_go 2 9 [(0, .inr 0), (1, .inl ((t : Nat) : Int)), (2, .inl ((r : Nat) : Int)), (3, .inl m), (4, .inl (tm_b (decide ((b || tm_c1 m (M (34 * t + tm_pn cur))) = true)))), (5, .inl (tm_pI (tm_pn cur))), (6, .inl ((M (34 * t + tm_pn cur) : Nat) : Int))] [] w (fun _ h => h) ?_
                      exact ih (tm_pn cur) (b || tm_c1 m (M (34 * t + tm_pn cur))) (by omega) (by omega) (by rw [hq, tm_an_s, if_neg h0, List.any_cons, Bool.or_assoc]) _ (Or.inr ⟨_, rfl⟩)
        · refine tl_loc (L' := [(0, .inr 0), (1, .inl ((t : Nat) : Int)), (2, .inl ((r : Nat) : Int)), (3, .inl m), (4, .inl (tm_b (decide (b = true)))), (5, .inl ((tm_pn cur : Nat) : Int)), (6, .inl x)]) (by rw [tm_pI_p h0]) ?_
          refine tl_go 1 11 [(0, .inr 0), (1, .inl ((t : Nat) : Int)), (2, .inl ((r : Nat) : Int)), (3, .inl m), (4, .inl (tm_b (decide (b = true)))), (5, .inl ((tm_pn cur : Nat) : Int)), (6, .inl x)] [.inl ((tm_pn cur : Nat) : Int)] w (fun _ h => h) ?_
          refine tl_iff (((tm_pn cur : Nat) : Int) < 0) 78 14 [(0, .inr 0), (1, .inl ((t : Nat) : Int)), (2, .inl ((r : Nat) : Int)), (3, .inl m), (4, .inl (tm_b (decide (b = true)))), (5, .inl ((tm_pn cur : Nat) : Int)), (6, .inl x)] [] (fun _ h => h) (by omega) ?_
          refine tl_go 7 25 [(0, .inr 0), (1, .inl ((t : Nat) : Int)), (2, .inl ((r : Nat) : Int)), (3, .inl m), (4, .inl (tm_b (decide (b = true)))), (5, .inl ((tm_pn cur : Nat) : Int)), (6, .inl x)] [.inl ((34 * ((t : Nat) : Int)) + ((tm_pn cur : Nat) : Int)), .inr 1] w (fun _ h => And.intro rfl (And.intro (by decide) (And.intro (by omega) (And.intro (by omega) h)))) ?_
          refine tl_ald (34 * t + tm_pn cur) 272 (k := 0) rfl (by omega) rfl (by omega) ?_
          refine tl_top (y := ((M (34 * t + tm_pn cur) : Nat) : Int)) (hM _ (by omega)) ?_
          refine tl_go 2 30 [(0, .inr 0), (1, .inl ((t : Nat) : Int)), (2, .inl ((r : Nat) : Int)), (3, .inl m), (4, .inl (tm_b (decide (b = true)))), (5, .inl ((tm_pn cur : Nat) : Int)), (6, .inl ((M (34 * t + tm_pn cur) : Nat) : Int))] [.inl (tm_b (decide (b = true)))] w (fun _ h => h) ?_
          refine tl_if (¬ (tm_b (decide (b = true))) = 0) 61 33 [(0, .inr 0), (1, .inl ((t : Nat) : Int)), (2, .inl ((r : Nat) : Int)), (3, .inl m), (4, .inl (tm_b (decide (b = true)))), (5, .inl ((tm_pn cur : Nat) : Int)), (6, .inl ((M (34 * t + tm_pn cur) : Nat) : Int))] [] (fun _ h => h) (fun hb => ?_) (fun hb => ?_)
          · have hb := of_decide_eq_true (tm_bne hb)
            refine tl_go 2 66 [(0, .inr 0), (1, .inl ((t : Nat) : Int)), (2, .inl ((r : Nat) : Int)), (3, .inl m), (4, .inl (tm_b (decide (b = true)))), (5, .inl ((tm_pn cur : Nat) : Int)), (6, .inl ((M (34 * t + tm_pn cur) : Nat) : Int))] [.inl 1] w (fun _ h => h) ?_
            have e1 : (1 : Int) = tm_b (decide ((b || tm_c1 m (M (34 * t + tm_pn cur))) = true)) := (tm_b1 (decide_eq_true (tm_c1_iff.mpr (Or.inl hb)))).1
            refine tl_go 1 68 [(0, .inr 0), (1, .inl ((t : Nat) : Int)), (2, .inl ((r : Nat) : Int)), (3, .inl m), (4, .inl 1), (5, .inl ((tm_pn cur : Nat) : Int)), (6, .inl ((M (34 * t + tm_pn cur) : Nat) : Int))] [] w (fun _ h => h) ?_
            refine tl_loc (L' := [(0, .inr 0), (1, .inl ((t : Nat) : Int)), (2, .inl ((r : Nat) : Int)), (3, .inl m), (4, .inl (tm_b (decide ((b || tm_c1 m (M (34 * t + tm_pn cur))) = true)))), (5, .inl ((tm_pn cur : Nat) : Int)), (6, .inl ((M (34 * t + tm_pn cur) : Nat) : Int))]) (by rw [e1]) ?_
            refine tl_go 1 70 [(0, .inr 0), (1, .inl ((t : Nat) : Int)), (2, .inl ((r : Nat) : Int)), (3, .inl m), (4, .inl (tm_b (decide ((b || tm_c1 m (M (34 * t + tm_pn cur))) = true)))), (5, .inl ((tm_pn cur : Nat) : Int)), (6, .inl ((M (34 * t + tm_pn cur) : Nat) : Int))] [.inl ((tm_pn cur : Nat) : Int)] w (fun _ h => h) ?_
            refine tl_callS (as := [.inl ((tm_pn cur : Nat) : Int)]) (rest := []) (v := some (tm_pI (tm_pn cur))) (w' := w) rfl rfl rfl rfl (tb_par d (tm_pn cur) (by omega) w) (Nat.le_of_ble_eq_true rfl) rfl rfl (Nat.le_of_ble_eq_true rfl) ?_
            refine tl_go 2 9 [(0, .inr 0), (1, .inl ((t : Nat) : Int)), (2, .inl ((r : Nat) : Int)), (3, .inl m), (4, .inl (tm_b (decide ((b || tm_c1 m (M (34 * t + tm_pn cur))) = true)))), (5, .inl (tm_pI (tm_pn cur))), (6, .inl ((M (34 * t + tm_pn cur) : Nat) : Int))] [] w (fun _ h => h) ?_
            exact ih (tm_pn cur) (b || tm_c1 m (M (34 * t + tm_pn cur))) (by omega) (by omega) (by rw [hq, tm_an_s, if_neg h0, List.any_cons, Bool.or_assoc]) _ (Or.inr ⟨_, rfl⟩)
          · have hb := of_decide_eq_false (tm_beq (Classical.not_not.mp hb))
            refine tl_go 2 36 [(0, .inr 0), (1, .inl ((t : Nat) : Int)), (2, .inl ((r : Nat) : Int)), (3, .inl m), (4, .inl (tm_b (decide (b = true)))), (5, .inl ((tm_pn cur : Nat) : Int)), (6, .inl ((M (34 * t + tm_pn cur) : Nat) : Int))] [.inl 5, .inl ((M (34 * t + tm_pn cur) : Nat) : Int)] w (fun _ h => h) ?_
            refine tl_if (((M (34 * t + tm_pn cur) : Nat) : Int) = 5) 61 39 [(0, .inr 0), (1, .inl ((t : Nat) : Int)), (2, .inl ((r : Nat) : Int)), (3, .inl m), (4, .inl (tm_b (decide (b = true)))), (5, .inl ((tm_pn cur : Nat) : Int)), (6, .inl ((M (34 * t + tm_pn cur) : Nat) : Int))] [] (fun _ h => h) (fun hd0 => ?_) (fun hd0 => ?_)
            · refine tl_go 2 66 [(0, .inr 0), (1, .inl ((t : Nat) : Int)), (2, .inl ((r : Nat) : Int)), (3, .inl m), (4, .inl (tm_b (decide (b = true)))), (5, .inl ((tm_pn cur : Nat) : Int)), (6, .inl ((M (34 * t + tm_pn cur) : Nat) : Int))] [.inl 1] w (fun _ h => h) ?_
              have e1 : (1 : Int) = tm_b (decide ((b || tm_c1 m (M (34 * t + tm_pn cur))) = true)) := (tm_b1 (decide_eq_true (tm_c1_iff.mpr (Or.inr (by omega))))).1
              refine tl_go 1 68 [(0, .inr 0), (1, .inl ((t : Nat) : Int)), (2, .inl ((r : Nat) : Int)), (3, .inl m), (4, .inl 1), (5, .inl ((tm_pn cur : Nat) : Int)), (6, .inl ((M (34 * t + tm_pn cur) : Nat) : Int))] [] w (fun _ h => h) ?_
              refine tl_loc (L' := [(0, .inr 0), (1, .inl ((t : Nat) : Int)), (2, .inl ((r : Nat) : Int)), (3, .inl m), (4, .inl (tm_b (decide ((b || tm_c1 m (M (34 * t + tm_pn cur))) = true)))), (5, .inl ((tm_pn cur : Nat) : Int)), (6, .inl ((M (34 * t + tm_pn cur) : Nat) : Int))]) (by rw [e1]) ?_
              refine tl_go 1 70 [(0, .inr 0), (1, .inl ((t : Nat) : Int)), (2, .inl ((r : Nat) : Int)), (3, .inl m), (4, .inl (tm_b (decide ((b || tm_c1 m (M (34 * t + tm_pn cur))) = true)))), (5, .inl ((tm_pn cur : Nat) : Int)), (6, .inl ((M (34 * t + tm_pn cur) : Nat) : Int))] [.inl ((tm_pn cur : Nat) : Int)] w (fun _ h => h) ?_
              refine tl_callS (as := [.inl ((tm_pn cur : Nat) : Int)]) (rest := []) (v := some (tm_pI (tm_pn cur))) (w' := w) rfl rfl rfl rfl (tb_par d (tm_pn cur) (by omega) w) (Nat.le_of_ble_eq_true rfl) rfl rfl (Nat.le_of_ble_eq_true rfl) ?_
              refine tl_go 2 9 [(0, .inr 0), (1, .inl ((t : Nat) : Int)), (2, .inl ((r : Nat) : Int)), (3, .inl m), (4, .inl (tm_b (decide ((b || tm_c1 m (M (34 * t + tm_pn cur))) = true)))), (5, .inl (tm_pI (tm_pn cur))), (6, .inl ((M (34 * t + tm_pn cur) : Nat) : Int))] [] w (fun _ h => h) ?_
              exact ih (tm_pn cur) (b || tm_c1 m (M (34 * t + tm_pn cur))) (by omega) (by omega) (by rw [hq, tm_an_s, if_neg h0, List.any_cons, Bool.or_assoc]) _ (Or.inr ⟨_, rfl⟩)
            · refine tl_go 2 42 [(0, .inr 0), (1, .inl ((t : Nat) : Int)), (2, .inl ((r : Nat) : Int)), (3, .inl m), (4, .inl (tm_b (decide (b = true)))), (5, .inl ((tm_pn cur : Nat) : Int)), (6, .inl ((M (34 * t + tm_pn cur) : Nat) : Int))] [.inl 3, .inl ((M (34 * t + tm_pn cur) : Nat) : Int)] w (fun _ h => h) ?_
              refine tl_if (((M (34 * t + tm_pn cur) : Nat) : Int) = 3) 51 45 [(0, .inr 0), (1, .inl ((t : Nat) : Int)), (2, .inl ((r : Nat) : Int)), (3, .inl m), (4, .inl (tm_b (decide (b = true)))), (5, .inl ((tm_pn cur : Nat) : Int)), (6, .inl ((M (34 * t + tm_pn cur) : Nat) : Int))] [] (fun _ h => h) (fun hd1 => ?_) (fun hd1 => ?_)
              · refine tl_go 2 53 [(0, .inr 0), (1, .inl ((t : Nat) : Int)), (2, .inl ((r : Nat) : Int)), (3, .inl m), (4, .inl (tm_b (decide (b = true)))), (5, .inl ((tm_pn cur : Nat) : Int)), (6, .inl ((M (34 * t + tm_pn cur) : Nat) : Int))] [.inl 1, .inl m] w (fun _ h => h) ?_
                refine tl_if (m = 1) 61 56 [(0, .inr 0), (1, .inl ((t : Nat) : Int)), (2, .inl ((r : Nat) : Int)), (3, .inl m), (4, .inl (tm_b (decide (b = true)))), (5, .inl ((tm_pn cur : Nat) : Int)), (6, .inl ((M (34 * t + tm_pn cur) : Nat) : Int))] [] (fun _ h => h) (fun hd2 => ?_) (fun hd2 => ?_)
                · refine tl_go 2 66 [(0, .inr 0), (1, .inl ((t : Nat) : Int)), (2, .inl ((r : Nat) : Int)), (3, .inl m), (4, .inl (tm_b (decide (b = true)))), (5, .inl ((tm_pn cur : Nat) : Int)), (6, .inl ((M (34 * t + tm_pn cur) : Nat) : Int))] [.inl 1] w (fun _ h => h) ?_
                  have e1 : (1 : Int) = tm_b (decide ((b || tm_c1 m (M (34 * t + tm_pn cur))) = true)) := (tm_b1 (decide_eq_true (tm_c1_iff.mpr (Or.inr (by omega))))).1
                  refine tl_go 1 68 [(0, .inr 0), (1, .inl ((t : Nat) : Int)), (2, .inl ((r : Nat) : Int)), (3, .inl m), (4, .inl 1), (5, .inl ((tm_pn cur : Nat) : Int)), (6, .inl ((M (34 * t + tm_pn cur) : Nat) : Int))] [] w (fun _ h => h) ?_
                  refine tl_loc (L' := [(0, .inr 0), (1, .inl ((t : Nat) : Int)), (2, .inl ((r : Nat) : Int)), (3, .inl m), (4, .inl (tm_b (decide ((b || tm_c1 m (M (34 * t + tm_pn cur))) = true)))), (5, .inl ((tm_pn cur : Nat) : Int)), (6, .inl ((M (34 * t + tm_pn cur) : Nat) : Int))]) (by rw [e1]) ?_
                  refine tl_go 1 70 [(0, .inr 0), (1, .inl ((t : Nat) : Int)), (2, .inl ((r : Nat) : Int)), (3, .inl m), (4, .inl (tm_b (decide ((b || tm_c1 m (M (34 * t + tm_pn cur))) = true)))), (5, .inl ((tm_pn cur : Nat) : Int)), (6, .inl ((M (34 * t + tm_pn cur) : Nat) : Int))] [.inl ((tm_pn cur : Nat) : Int)] w (fun _ h => h) ?_
                  refine tl_callS (as := [.inl ((tm_pn cur : Nat) : Int)]) (rest := []) (v := some (tm_pI (tm_pn cur))) (w' := w) rfl rfl rfl rfl (tb_par d (tm_pn cur) (by omega) w) (Nat.le_of_ble_eq_true rfl) rfl rfl (Nat.le_of_ble_eq_true rfl) ?_
                  refine tl_go 2 9 [(0, .inr 0), (1, .inl ((t : Nat) : Int)), (2, .inl ((r : Nat) : Int)), (3, .inl m), (4, .inl (tm_b (decide ((b || tm_c1 m (M (34 * t + tm_pn cur))) = true)))), (5, .inl (tm_pI (tm_pn cur))), (6, .inl ((M (34 * t + tm_pn cur) : Nat) : Int))] [] w (fun _ h => h) ?_
                  exact ih (tm_pn cur) (b || tm_c1 m (M (34 * t + tm_pn cur))) (by omega) (by omega) (by rw [hq, tm_an_s, if_neg h0, List.any_cons, Bool.or_assoc]) _ (Or.inr ⟨_, rfl⟩)
                · refine tl_go 2 58 [(0, .inr 0), (1, .inl ((t : Nat) : Int)), (2, .inl ((r : Nat) : Int)), (3, .inl m), (4, .inl (tm_b (decide (b = true)))), (5, .inl ((tm_pn cur : Nat) : Int)), (6, .inl ((M (34 * t + tm_pn cur) : Nat) : Int))] [.inl 3, .inl m] w (fun _ h => h) ?_
                  refine tl_if (¬ m = 3) 65 61 [(0, .inr 0), (1, .inl ((t : Nat) : Int)), (2, .inl ((r : Nat) : Int)), (3, .inl m), (4, .inl (tm_b (decide (b = true)))), (5, .inl ((tm_pn cur : Nat) : Int)), (6, .inl ((M (34 * t + tm_pn cur) : Nat) : Int))] [] (fun _ h => h) (fun hd3 => ?_) (fun hd3 => ?_)
                  · refine tl_go 1 66 [(0, .inr 0), (1, .inl ((t : Nat) : Int)), (2, .inl ((r : Nat) : Int)), (3, .inl m), (4, .inl (tm_b (decide (b = true)))), (5, .inl ((tm_pn cur : Nat) : Int)), (6, .inl ((M (34 * t + tm_pn cur) : Nat) : Int))] [.inl 0] w (fun _ h => h) ?_
                    have e1 : (0 : Int) = tm_b (decide ((b || tm_c1 m (M (34 * t + tm_pn cur))) = true)) := (tm_b0 (decide_eq_false (fun q => (tm_c1_iff.mp q).elim hb (fun z => by omega)))).1
                    refine tl_go 1 68 [(0, .inr 0), (1, .inl ((t : Nat) : Int)), (2, .inl ((r : Nat) : Int)), (3, .inl m), (4, .inl 0), (5, .inl ((tm_pn cur : Nat) : Int)), (6, .inl ((M (34 * t + tm_pn cur) : Nat) : Int))] [] w (fun _ h => h) ?_
                    refine tl_loc (L' := [(0, .inr 0), (1, .inl ((t : Nat) : Int)), (2, .inl ((r : Nat) : Int)), (3, .inl m), (4, .inl (tm_b (decide ((b || tm_c1 m (M (34 * t + tm_pn cur))) = true)))), (5, .inl ((tm_pn cur : Nat) : Int)), (6, .inl ((M (34 * t + tm_pn cur) : Nat) : Int))]) (by rw [e1]) ?_
                    refine tl_go 1 70 [(0, .inr 0), (1, .inl ((t : Nat) : Int)), (2, .inl ((r : Nat) : Int)), (3, .inl m), (4, .inl (tm_b (decide ((b || tm_c1 m (M (34 * t + tm_pn cur))) = true)))), (5, .inl ((tm_pn cur : Nat) : Int)), (6, .inl ((M (34 * t + tm_pn cur) : Nat) : Int))] [.inl ((tm_pn cur : Nat) : Int)] w (fun _ h => h) ?_
                    refine tl_callS (as := [.inl ((tm_pn cur : Nat) : Int)]) (rest := []) (v := some (tm_pI (tm_pn cur))) (w' := w) rfl rfl rfl rfl (tb_par d (tm_pn cur) (by omega) w) (Nat.le_of_ble_eq_true rfl) rfl rfl (Nat.le_of_ble_eq_true rfl) ?_
                    refine tl_go 2 9 [(0, .inr 0), (1, .inl ((t : Nat) : Int)), (2, .inl ((r : Nat) : Int)), (3, .inl m), (4, .inl (tm_b (decide ((b || tm_c1 m (M (34 * t + tm_pn cur))) = true)))), (5, .inl (tm_pI (tm_pn cur))), (6, .inl ((M (34 * t + tm_pn cur) : Nat) : Int))] [] w (fun _ h => h) ?_
                    exact ih (tm_pn cur) (b || tm_c1 m (M (34 * t + tm_pn cur))) (by omega) (by omega) (by rw [hq, tm_an_s, if_neg h0, List.any_cons, Bool.or_assoc]) _ (Or.inr ⟨_, rfl⟩)
                  · refine tl_go 2 66 [(0, .inr 0), (1, .inl ((t : Nat) : Int)), (2, .inl ((r : Nat) : Int)), (3, .inl m), (4, .inl (tm_b (decide (b = true)))), (5, .inl ((tm_pn cur : Nat) : Int)), (6, .inl ((M (34 * t + tm_pn cur) : Nat) : Int))] [.inl 1] w (fun _ h => h) ?_
                    have e1 : (1 : Int) = tm_b (decide ((b || tm_c1 m (M (34 * t + tm_pn cur))) = true)) := (tm_b1 (decide_eq_true (tm_c1_iff.mpr (Or.inr (by omega))))).1
                    refine tl_go 1 68 [(0, .inr 0), (1, .inl ((t : Nat) : Int)), (2, .inl ((r : Nat) : Int)), (3, .inl m), (4, .inl 1), (5, .inl ((tm_pn cur : Nat) : Int)), (6, .inl ((M (34 * t + tm_pn cur) : Nat) : Int))] [] w (fun _ h => h) ?_
                    refine tl_loc (L' := [(0, .inr 0), (1, .inl ((t : Nat) : Int)), (2, .inl ((r : Nat) : Int)), (3, .inl m), (4, .inl (tm_b (decide ((b || tm_c1 m (M (34 * t + tm_pn cur))) = true)))), (5, .inl ((tm_pn cur : Nat) : Int)), (6, .inl ((M (34 * t + tm_pn cur) : Nat) : Int))]) (by rw [e1]) ?_
                    refine tl_go 1 70 [(0, .inr 0), (1, .inl ((t : Nat) : Int)), (2, .inl ((r : Nat) : Int)), (3, .inl m), (4, .inl (tm_b (decide ((b || tm_c1 m (M (34 * t + tm_pn cur))) = true)))), (5, .inl ((tm_pn cur : Nat) : Int)), (6, .inl ((M (34 * t + tm_pn cur) : Nat) : Int))] [.inl ((tm_pn cur : Nat) : Int)] w (fun _ h => h) ?_
                    refine tl_callS (as := [.inl ((tm_pn cur : Nat) : Int)]) (rest := []) (v := some (tm_pI (tm_pn cur))) (w' := w) rfl rfl rfl rfl (tb_par d (tm_pn cur) (by omega) w) (Nat.le_of_ble_eq_true rfl) rfl rfl (Nat.le_of_ble_eq_true rfl) ?_
                    refine tl_go 2 9 [(0, .inr 0), (1, .inl ((t : Nat) : Int)), (2, .inl ((r : Nat) : Int)), (3, .inl m), (4, .inl (tm_b (decide ((b || tm_c1 m (M (34 * t + tm_pn cur))) = true)))), (5, .inl (tm_pI (tm_pn cur))), (6, .inl ((M (34 * t + tm_pn cur) : Nat) : Int))] [] w (fun _ h => h) ?_
                    exact ih (tm_pn cur) (b || tm_c1 m (M (34 * t + tm_pn cur))) (by omega) (by omega) (by rw [hq, tm_an_s, if_neg h0, List.any_cons, Bool.or_assoc]) _ (Or.inr ⟨_, rfl⟩)
              · refine tl_go 2 48 [(0, .inr 0), (1, .inl ((t : Nat) : Int)), (2, .inl ((r : Nat) : Int)), (3, .inl m), (4, .inl (tm_b (decide (b = true)))), (5, .inl ((tm_pn cur : Nat) : Int)), (6, .inl ((M (34 * t + tm_pn cur) : Nat) : Int))] [.inl 4, .inl ((M (34 * t + tm_pn cur) : Nat) : Int)] w (fun _ h => h) ?_
                refine tl_if (¬ ((M (34 * t + tm_pn cur) : Nat) : Int) = 4) 65 51 [(0, .inr 0), (1, .inl ((t : Nat) : Int)), (2, .inl ((r : Nat) : Int)), (3, .inl m), (4, .inl (tm_b (decide (b = true)))), (5, .inl ((tm_pn cur : Nat) : Int)), (6, .inl ((M (34 * t + tm_pn cur) : Nat) : Int))] [] (fun _ h => h) (fun hd2 => ?_) (fun hd2 => ?_)
                · refine tl_go 1 66 [(0, .inr 0), (1, .inl ((t : Nat) : Int)), (2, .inl ((r : Nat) : Int)), (3, .inl m), (4, .inl (tm_b (decide (b = true)))), (5, .inl ((tm_pn cur : Nat) : Int)), (6, .inl ((M (34 * t + tm_pn cur) : Nat) : Int))] [.inl 0] w (fun _ h => h) ?_
                  have e1 : (0 : Int) = tm_b (decide ((b || tm_c1 m (M (34 * t + tm_pn cur))) = true)) := (tm_b0 (decide_eq_false (fun q => (tm_c1_iff.mp q).elim hb (fun z => by omega)))).1
                  refine tl_go 1 68 [(0, .inr 0), (1, .inl ((t : Nat) : Int)), (2, .inl ((r : Nat) : Int)), (3, .inl m), (4, .inl 0), (5, .inl ((tm_pn cur : Nat) : Int)), (6, .inl ((M (34 * t + tm_pn cur) : Nat) : Int))] [] w (fun _ h => h) ?_
                  refine tl_loc (L' := [(0, .inr 0), (1, .inl ((t : Nat) : Int)), (2, .inl ((r : Nat) : Int)), (3, .inl m), (4, .inl (tm_b (decide ((b || tm_c1 m (M (34 * t + tm_pn cur))) = true)))), (5, .inl ((tm_pn cur : Nat) : Int)), (6, .inl ((M (34 * t + tm_pn cur) : Nat) : Int))]) (by rw [e1]) ?_
                  refine tl_go 1 70 [(0, .inr 0), (1, .inl ((t : Nat) : Int)), (2, .inl ((r : Nat) : Int)), (3, .inl m), (4, .inl (tm_b (decide ((b || tm_c1 m (M (34 * t + tm_pn cur))) = true)))), (5, .inl ((tm_pn cur : Nat) : Int)), (6, .inl ((M (34 * t + tm_pn cur) : Nat) : Int))] [.inl ((tm_pn cur : Nat) : Int)] w (fun _ h => h) ?_
                  refine tl_callS (as := [.inl ((tm_pn cur : Nat) : Int)]) (rest := []) (v := some (tm_pI (tm_pn cur))) (w' := w) rfl rfl rfl rfl (tb_par d (tm_pn cur) (by omega) w) (Nat.le_of_ble_eq_true rfl) rfl rfl (Nat.le_of_ble_eq_true rfl) ?_
                  refine tl_go 2 9 [(0, .inr 0), (1, .inl ((t : Nat) : Int)), (2, .inl ((r : Nat) : Int)), (3, .inl m), (4, .inl (tm_b (decide ((b || tm_c1 m (M (34 * t + tm_pn cur))) = true)))), (5, .inl (tm_pI (tm_pn cur))), (6, .inl ((M (34 * t + tm_pn cur) : Nat) : Int))] [] w (fun _ h => h) ?_
                  exact ih (tm_pn cur) (b || tm_c1 m (M (34 * t + tm_pn cur))) (by omega) (by omega) (by rw [hq, tm_an_s, if_neg h0, List.any_cons, Bool.or_assoc]) _ (Or.inr ⟨_, rfl⟩)
                · refine tl_go 2 53 [(0, .inr 0), (1, .inl ((t : Nat) : Int)), (2, .inl ((r : Nat) : Int)), (3, .inl m), (4, .inl (tm_b (decide (b = true)))), (5, .inl ((tm_pn cur : Nat) : Int)), (6, .inl ((M (34 * t + tm_pn cur) : Nat) : Int))] [.inl 1, .inl m] w (fun _ h => h) ?_
                  refine tl_if (m = 1) 61 56 [(0, .inr 0), (1, .inl ((t : Nat) : Int)), (2, .inl ((r : Nat) : Int)), (3, .inl m), (4, .inl (tm_b (decide (b = true)))), (5, .inl ((tm_pn cur : Nat) : Int)), (6, .inl ((M (34 * t + tm_pn cur) : Nat) : Int))] [] (fun _ h => h) (fun hd3 => ?_) (fun hd3 => ?_)
                  · refine tl_go 2 66 [(0, .inr 0), (1, .inl ((t : Nat) : Int)), (2, .inl ((r : Nat) : Int)), (3, .inl m), (4, .inl (tm_b (decide (b = true)))), (5, .inl ((tm_pn cur : Nat) : Int)), (6, .inl ((M (34 * t + tm_pn cur) : Nat) : Int))] [.inl 1] w (fun _ h => h) ?_
                    have e1 : (1 : Int) = tm_b (decide ((b || tm_c1 m (M (34 * t + tm_pn cur))) = true)) := (tm_b1 (decide_eq_true (tm_c1_iff.mpr (Or.inr (by omega))))).1
                    refine tl_go 1 68 [(0, .inr 0), (1, .inl ((t : Nat) : Int)), (2, .inl ((r : Nat) : Int)), (3, .inl m), (4, .inl 1), (5, .inl ((tm_pn cur : Nat) : Int)), (6, .inl ((M (34 * t + tm_pn cur) : Nat) : Int))] [] w (fun _ h => h) ?_
                    refine tl_loc (L' := [(0, .inr 0), (1, .inl ((t : Nat) : Int)), (2, .inl ((r : Nat) : Int)), (3, .inl m), (4, .inl (tm_b (decide ((b || tm_c1 m (M (34 * t + tm_pn cur))) = true)))), (5, .inl ((tm_pn cur : Nat) : Int)), (6, .inl ((M (34 * t + tm_pn cur) : Nat) : Int))]) (by rw [e1]) ?_
                    refine tl_go 1 70 [(0, .inr 0), (1, .inl ((t : Nat) : Int)), (2, .inl ((r : Nat) : Int)), (3, .inl m), (4, .inl (tm_b (decide ((b || tm_c1 m (M (34 * t + tm_pn cur))) = true)))), (5, .inl ((tm_pn cur : Nat) : Int)), (6, .inl ((M (34 * t + tm_pn cur) : Nat) : Int))] [.inl ((tm_pn cur : Nat) : Int)] w (fun _ h => h) ?_
                    refine tl_callS (as := [.inl ((tm_pn cur : Nat) : Int)]) (rest := []) (v := some (tm_pI (tm_pn cur))) (w' := w) rfl rfl rfl rfl (tb_par d (tm_pn cur) (by omega) w) (Nat.le_of_ble_eq_true rfl) rfl rfl (Nat.le_of_ble_eq_true rfl) ?_
                    refine tl_go 2 9 [(0, .inr 0), (1, .inl ((t : Nat) : Int)), (2, .inl ((r : Nat) : Int)), (3, .inl m), (4, .inl (tm_b (decide ((b || tm_c1 m (M (34 * t + tm_pn cur))) = true)))), (5, .inl (tm_pI (tm_pn cur))), (6, .inl ((M (34 * t + tm_pn cur) : Nat) : Int))] [] w (fun _ h => h) ?_
                    exact ih (tm_pn cur) (b || tm_c1 m (M (34 * t + tm_pn cur))) (by omega) (by omega) (by rw [hq, tm_an_s, if_neg h0, List.any_cons, Bool.or_assoc]) _ (Or.inr ⟨_, rfl⟩)
                  · refine tl_go 2 58 [(0, .inr 0), (1, .inl ((t : Nat) : Int)), (2, .inl ((r : Nat) : Int)), (3, .inl m), (4, .inl (tm_b (decide (b = true)))), (5, .inl ((tm_pn cur : Nat) : Int)), (6, .inl ((M (34 * t + tm_pn cur) : Nat) : Int))] [.inl 3, .inl m] w (fun _ h => h) ?_
                    refine tl_if (¬ m = 3) 65 61 [(0, .inr 0), (1, .inl ((t : Nat) : Int)), (2, .inl ((r : Nat) : Int)), (3, .inl m), (4, .inl (tm_b (decide (b = true)))), (5, .inl ((tm_pn cur : Nat) : Int)), (6, .inl ((M (34 * t + tm_pn cur) : Nat) : Int))] [] (fun _ h => h) (fun hd4 => ?_) (fun hd4 => ?_)
                    · refine tl_go 1 66 [(0, .inr 0), (1, .inl ((t : Nat) : Int)), (2, .inl ((r : Nat) : Int)), (3, .inl m), (4, .inl (tm_b (decide (b = true)))), (5, .inl ((tm_pn cur : Nat) : Int)), (6, .inl ((M (34 * t + tm_pn cur) : Nat) : Int))] [.inl 0] w (fun _ h => h) ?_
                      have e1 : (0 : Int) = tm_b (decide ((b || tm_c1 m (M (34 * t + tm_pn cur))) = true)) := (tm_b0 (decide_eq_false (fun q => (tm_c1_iff.mp q).elim hb (fun z => by omega)))).1
                      refine tl_go 1 68 [(0, .inr 0), (1, .inl ((t : Nat) : Int)), (2, .inl ((r : Nat) : Int)), (3, .inl m), (4, .inl 0), (5, .inl ((tm_pn cur : Nat) : Int)), (6, .inl ((M (34 * t + tm_pn cur) : Nat) : Int))] [] w (fun _ h => h) ?_
                      refine tl_loc (L' := [(0, .inr 0), (1, .inl ((t : Nat) : Int)), (2, .inl ((r : Nat) : Int)), (3, .inl m), (4, .inl (tm_b (decide ((b || tm_c1 m (M (34 * t + tm_pn cur))) = true)))), (5, .inl ((tm_pn cur : Nat) : Int)), (6, .inl ((M (34 * t + tm_pn cur) : Nat) : Int))]) (by rw [e1]) ?_
                      refine tl_go 1 70 [(0, .inr 0), (1, .inl ((t : Nat) : Int)), (2, .inl ((r : Nat) : Int)), (3, .inl m), (4, .inl (tm_b (decide ((b || tm_c1 m (M (34 * t + tm_pn cur))) = true)))), (5, .inl ((tm_pn cur : Nat) : Int)), (6, .inl ((M (34 * t + tm_pn cur) : Nat) : Int))] [.inl ((tm_pn cur : Nat) : Int)] w (fun _ h => h) ?_
                      refine tl_callS (as := [.inl ((tm_pn cur : Nat) : Int)]) (rest := []) (v := some (tm_pI (tm_pn cur))) (w' := w) rfl rfl rfl rfl (tb_par d (tm_pn cur) (by omega) w) (Nat.le_of_ble_eq_true rfl) rfl rfl (Nat.le_of_ble_eq_true rfl) ?_
                      refine tl_go 2 9 [(0, .inr 0), (1, .inl ((t : Nat) : Int)), (2, .inl ((r : Nat) : Int)), (3, .inl m), (4, .inl (tm_b (decide ((b || tm_c1 m (M (34 * t + tm_pn cur))) = true)))), (5, .inl (tm_pI (tm_pn cur))), (6, .inl ((M (34 * t + tm_pn cur) : Nat) : Int))] [] w (fun _ h => h) ?_
                      exact ih (tm_pn cur) (b || tm_c1 m (M (34 * t + tm_pn cur))) (by omega) (by omega) (by rw [hq, tm_an_s, if_neg h0, List.any_cons, Bool.or_assoc]) _ (Or.inr ⟨_, rfl⟩)
                    · refine tl_go 2 66 [(0, .inr 0), (1, .inl ((t : Nat) : Int)), (2, .inl ((r : Nat) : Int)), (3, .inl m), (4, .inl (tm_b (decide (b = true)))), (5, .inl ((tm_pn cur : Nat) : Int)), (6, .inl ((M (34 * t + tm_pn cur) : Nat) : Int))] [.inl 1] w (fun _ h => h) ?_
                      have e1 : (1 : Int) = tm_b (decide ((b || tm_c1 m (M (34 * t + tm_pn cur))) = true)) := (tm_b1 (decide_eq_true (tm_c1_iff.mpr (Or.inr (by omega))))).1
                      refine tl_go 1 68 [(0, .inr 0), (1, .inl ((t : Nat) : Int)), (2, .inl ((r : Nat) : Int)), (3, .inl m), (4, .inl 1), (5, .inl ((tm_pn cur : Nat) : Int)), (6, .inl ((M (34 * t + tm_pn cur) : Nat) : Int))] [] w (fun _ h => h) ?_
                      refine tl_loc (L' := [(0, .inr 0), (1, .inl ((t : Nat) : Int)), (2, .inl ((r : Nat) : Int)), (3, .inl m), (4, .inl (tm_b (decide ((b || tm_c1 m (M (34 * t + tm_pn cur))) = true)))), (5, .inl ((tm_pn cur : Nat) : Int)), (6, .inl ((M (34 * t + tm_pn cur) : Nat) : Int))]) (by rw [e1]) ?_
                      refine tl_go 1 70 [(0, .inr 0), (1, .inl ((t : Nat) : Int)), (2, .inl ((r : Nat) : Int)), (3, .inl m), (4, .inl (tm_b (decide ((b || tm_c1 m (M (34 * t + tm_pn cur))) = true)))), (5, .inl ((tm_pn cur : Nat) : Int)), (6, .inl ((M (34 * t + tm_pn cur) : Nat) : Int))] [.inl ((tm_pn cur : Nat) : Int)] w (fun _ h => h) ?_
                      refine tl_callS (as := [.inl ((tm_pn cur : Nat) : Int)]) (rest := []) (v := some (tm_pI (tm_pn cur))) (w' := w) rfl rfl rfl rfl (tb_par d (tm_pn cur) (by omega) w) (Nat.le_of_ble_eq_true rfl) rfl rfl (Nat.le_of_ble_eq_true rfl) ?_
                      refine tl_go 2 9 [(0, .inr 0), (1, .inl ((t : Nat) : Int)), (2, .inl ((r : Nat) : Int)), (3, .inl m), (4, .inl (tm_b (decide ((b || tm_c1 m (M (34 * t + tm_pn cur))) = true)))), (5, .inl (tm_pI (tm_pn cur))), (6, .inl ((M (34 * t + tm_pn cur) : Nat) : Int))] [] w (fun _ h => h) ?_
                      exact ih (tm_pn cur) (b || tm_c1 m (M (34 * t + tm_pn cur))) (by omega) (by omega) (by rw [hq, tm_an_s, if_neg h0, List.any_cons, Bool.or_assoc]) _ (Or.inr ⟨_, rfl⟩)
  exact loop 3 r false hr (tm_dp3 r) (by rw [Bool.false_or]; exact hq0) _ (Or.inl rfl)
theorem tm_len7 {σ : tm_S} (hJ : tm_J σ) {r t : Nat} (hr : r < 34) (ht : t < 8) (hs : σ.2.1 t < 2) : (σ.2.2.2 r).length ≤ 7 := by
  obtain ⟨n1, n2, _⟩ := hJ.2.2 r hr
  have h := tm_pig 8 (t :: σ.2.2.2 r) (List.nodup_cons.mpr ⟨fun q => by have := (n2 t).mp q; omega, n1⟩) (fun x hx => by
    rcases List.mem_cons.mp hx with e | hx
    · rw [e]; exact ht
    · exact ((n2 x).mp hx).1)
  rw [List.length_cons] at h
  omega
theorem tm_pl_k {σ : tm_S} (hJ : tm_J σ) {r t k : Nat} (hr : r < 34) (hh : σ.1 (34 * t + r) ≠ 0) (hk : k ≤ (σ.2.2.2 r).length) (h1 : ∀ j u : Nat, k ≤ j → (σ.2.2.2 r)[j]? = some u → σ.1 (34 * u + r) = 0) (h2 : k = 0 ∨ ∃ u, (σ.2.2.2 r)[k - 1]? = some u ∧ σ.1 (34 * u + r) ≠ 0) : tm_pl σ t r = k := by
  rw [tm_pl_1 hh]
  have e : (σ.2.2.2 r).countP (fun u => decide (σ.1 (34 * u + r) ≠ 0)) = ((σ.2.2.2 r).take k ++ (σ.2.2.2 r).drop k).countP (fun u => decide (σ.1 (34 * u + r) ≠ 0)) := by rw [List.take_append_drop]
  rw [e, List.countP_append]
  have e1 : ((σ.2.2.2 r).drop k).countP (fun u => decide (σ.1 (34 * u + r) ≠ 0)) = 0 := by
    apply List.countP_eq_zero.mpr
    intro u hu q
    obtain ⟨i, hi⟩ := List.getElem?_of_mem hu
    rw [List.getElem?_drop] at hi
    exact of_decide_eq_true q (h1 (k + i) u (by omega) hi)
  have e2 : ((σ.2.2.2 r).take k).countP (fun u => decide (σ.1 (34 * u + r) ≠ 0)) = ((σ.2.2.2 r).take k).length := by
    apply List.countP_eq_length.mpr
    intro u hu
    obtain ⟨i, hi⟩ := List.getElem?_of_mem hu
    have hik : i < k := by
      have := (List.getElem?_eq_some_iff.mp hi).1
      rw [List.length_take] at this
      omega
    rw [List.getElem?_take_of_lt hik] at hi
    rcases h2 with h2 | ⟨v, hv, hz⟩
    · omega
    · by_cases hc : i = k - 1
      · rw [hc, hv] at hi
        rw [← Option.some.inj hi]
        exact decide_eq_true hz
      · have hp := List.pairwise_iff_getElem.mp (hJ.2.2 r hr).2.2
        obtain ⟨g1, g2⟩ := List.getElem?_eq_some_iff.mp hi
        obtain ⟨g3, g4⟩ := List.getElem?_eq_some_iff.mp hv
        have h9 := hp i (k - 1) g1 g3 (by omega)
        rw [g2, g4] at h9
        exact decide_eq_true (h9 hz)
  rw [e1, e2, List.length_take]
  omega
/-- positions above i of r's queue have moved up -/
def tm_iw (w : tl_W) (r n i : Nat) : tl_W := fun a => if a = 3 then (fun x => if 8 * r + i < x ∧ x ≤ 8 * r + n then w 3 (x - 1) else w 3 x) else w a
theorem tm_iw_3 (w : tl_W) (r n i x : Nat) : tm_iw w r n i 3 x = if 8 * r + i < x ∧ x ≤ 8 * r + n then w 3 (x - 1) else w 3 x := rfl
theorem tm_iw_n {w : tl_W} {r n i a : Nat} (h : a ≠ 3) : tm_iw w r n i a = w a := by unfold tm_iw; exact if_neg h
theorem tm_iw_0 (w : tl_W) (r n : Nat) : tm_iw w r n n = w := by
  funext a x
  by_cases h : a = 3
  · rw [h, tm_iw_3, if_neg (by omega)]
  · rw [tm_iw_n h]
theorem tm_iw_s {w : tl_W} {r n i : Nat} (h : i < n) : tl_set (tm_iw w r n (i + 1)) 3 (8 * r + i + 1) (w 3 (8 * r + i)) = tm_iw w r n i := by
  funext a x
  unfold tl_set
  by_cases h3 : a = 3
  · rw [if_pos h3, h3, tm_iw_3]
    unfold va_up
    by_cases hx : x = 8 * r + i + 1
    · rw [if_pos hx, hx, if_pos (by omega)]
      rfl
    · rw [if_neg hx, tm_iw_3]
      by_cases hc : 8 * r + (i + 1) < x ∧ x ≤ 8 * r + n
      · rw [if_pos hc, if_pos (by omega)]
      · rw [if_neg hc, if_neg (by omega)]
  · rw [if_neg h3, tm_iw_n h3, tm_iw_n h3]
theorem tm_en_RM {w : tl_W} {σ : tm_S} (hR : tm_RM w σ) {r t m p : Nat} (hr : r < 34) (hp : p ≤ (σ.2.2.2 r).length) (h7 : (σ.2.2.2 r).length ≤ 7) (h8 : ∀ c, c < 34 → (σ.2.2.2 c).length ≤ 8) :
    tm_RM (tl_set (tl_set (tl_set (tl_set (tm_iw w r (σ.2.2.2 r).length p) 3 (8 * r + p) (t : Int)) 4 r (((σ.2.2.2 r).length + 1 : Nat) : Int)) 1 t ((r + 2 : Nat) : Int)) 2 t (m : Int)) (tm_en σ r t m p) := by
  refine ⟨fun i hi => ?_, fun u hu => ⟨?_, ?_⟩, fun c hc => ⟨?_, fun j u hj => ?_⟩⟩
  · rw [tl_set_o (by decide), tl_set_o (by decide), tl_set_o (by decide), tl_set_o (by decide), tm_iw_n (by decide)]; exact hR.1 i hi
  · rw [tl_set_o (by decide), tl_set_s, tl_set_o (by decide), tl_set_o (by decide), tm_iw_n (by decide)]
    show va_up (w 1) t _ u = ((va_up σ.2.1 t (r + 2) u : Nat) : Int)
    by_cases e : u = t
    · rw [e, va_up_s, va_up_s]
    · rw [va_up_n _ _ e, va_up_n _ _ e]; exact (hR.2.1 u hu).1
  · rw [tl_set_s, tl_set_o (by decide), tl_set_o (by decide), tl_set_o (by decide), tm_iw_n (by decide)]
    show va_up (w 2) t _ u = ((va_up σ.2.2.1 t m u : Nat) : Int)
    by_cases e : u = t
    · rw [e, va_up_s, va_up_s]
    · rw [va_up_n _ _ e, va_up_n _ _ e]; exact (hR.2.1 u hu).2
  · rw [tl_set_o (by decide), tl_set_o (by decide), tl_set_s, tl_set_o (by decide), tm_iw_n (by decide)]
    show va_up (w 4) r _ c = ((va_up σ.2.2.2 r _ c).length : Int)
    by_cases e : c = r
    · rw [e, va_up_s, va_up_s, (tm_en_perm (σ.2.2.2 r) p t).length_eq, List.length_cons]
    · rw [va_up_n _ _ e, va_up_n _ _ e]; exact (hR.2.2 c hc).1
  · rw [tl_set_o (by decide), tl_set_o (by decide), tl_set_o (by decide), tl_set_s]
    have hj : (va_up σ.2.2.2 r ((σ.2.2.2 r).take p ++ t :: (σ.2.2.2 r).drop p) c)[j]? = some u := hj
    by_cases e : c = r
    · subst e
      rw [va_up_s, tm_ins hp] at hj
      by_cases h1 : j < p
      · rw [if_pos h1] at hj
        rw [va_up_n _ _ (by omega), tm_iw_3, if_neg (by omega)]
        exact (hR.2.2 c hc).2 j u hj
      · rw [if_neg h1] at hj
        by_cases h2 : j = p
        · rw [if_pos h2] at hj
          cases hj
          rw [h2, va_up_s]
        · rw [if_neg h2] at hj
          have h9 := (List.getElem?_eq_some_iff.mp hj).1
          rw [va_up_n _ _ (by omega), tm_iw_3, if_pos (by omega), show 8 * c + j - 1 = 8 * c + (j - 1) by omega]
          exact (hR.2.2 c hc).2 (j - 1) u hj
    · rw [va_up_n _ _ e] at hj
      have h9 := (List.getElem?_eq_some_iff.mp hj).1
      have h10 := h8 c hc
      rw [va_up_n _ _ (by omega), tm_iw_3, if_neg (by omega)]
      exact (hR.2.2 c hc).2 j u hj
def tm_ask (σ : tm_S) (t r m : Nat) : Nat × tm_S :=
  if tm_fits σ.1 t r m = true ∧ (σ.1 (34 * t + r) ≠ 0 ∨ σ.2.2.2 r = []) then (1, tm_sm σ (34 * t + r) m)
  else if tm_cir (tm_en σ r t m (tm_pl σ t r)) t = true then (4, σ)
  else (0, tm_en σ r t m (tm_pl σ t r))

theorem tb_ask (d t r m : Nat) (ht : t < 8) (hr : r < 34) (hm : m ≤ 5) {σ : tm_S} (w : tl_W) (hJ : tm_J σ) (hR : tm_RM w σ) (hs : σ.2.1 t = 1) : ∃ w', tl_Ev tb_P (d + 4) 18 [.inr 0, .inl (t : Int), .inl (r : Int), .inl (m : Int)] w (.inl (some (((tm_ask σ t r m).1 : Nat) : Int))) w' ∧ (tm_RM w' (tm_ask σ t r m).2 ∧ w' 5 = w 5) := by
  refine tl_exi fun Q hQ => ?_
  have hK := tm_J_K hJ
  have hl := (hR.2.2 r hr).1
  have h7 := tm_len7 hJ hr ht (show σ.2.1 t < 2 by omega)
  have hple := tm_pl_le σ t r
  have hH : w 0 (34 * t + r) = ((σ.1 (34 * t + r) : Nat) : Int) := hR.1 _ (by omega)
  generalize hh : σ.1 (34 * t + r) = h at hH
  refine tl_go 7 10 [(0, .inr 0), (1, .inl ((t : Nat) : Int)), (2, .inl ((r : Nat) : Int)), (3, .inl ((m : Nat) : Int))] [.inl ((34 * ((t : Nat) : Int)) + ((r : Nat) : Int)), .inr 1] w (fun _ h => And.intro rfl (And.intro (by decide) (And.intro (by omega) (And.intro (by omega) h)))) ?_
  refine tl_ald (34 * t + r) 272 (k := 0) rfl (by omega) rfl (by omega) ?_
  refine tl_top (y := ((h : Nat) : Int)) (hH) ?_
  refine tl_go 5 17 [(0, .inr 0), (1, .inl ((t : Nat) : Int)), (2, .inl ((r : Nat) : Int)), (3, .inl ((m : Nat) : Int)), (4, .inl ((h : Nat) : Int))] [.inl ((m : Nat) : Int), .inl ((r : Nat) : Int), .inl ((t : Nat) : Int), .inr 0] w (fun _ h => h) ?_
  have wait : ¬ (tm_fits σ.1 t r m = true ∧ (h ≠ 0 ∨ σ.2.2.2 r = [])) → tl_E tb_P (d + 3) 18 51 [(0, .inr 0), (1, .inl ((t : Nat) : Int)), (2, .inl ((r : Nat) : Int)), (3, .inl ((m : Nat) : Int)), (4, .inl ((h : Nat) : Int))] [] w Q := by
    intro h3
    rw [← hh] at h3
    have hJ1 := tm_en_J (m := m) hJ ht hr hm (show σ.2.1 t < 2 by omega)
    have hR1 := tm_en_RM (t := t) (m := m) hR hr hple h7 (fun c hc => tm_len hJ hc)
    have partC : ∀ x : Int, tl_E tb_P (d + 3) 18 149 [(0, .inr 0), (1, .inl (t : Int)), (2, .inl (r : Int)), (3, .inl (m : Int)), (4, .inl (h : Int)), (5, .inl ((tm_pl σ t r : Nat) : Int)), (6, .inl x)] [] (tm_iw w r (σ.2.2.2 r).length (tm_pl σ t r)) Q := by
      intro x
      refine tl_go 8 161 [(0, .inr 0), (1, .inl ((t : Nat) : Int)), (2, .inl ((r : Nat) : Int)), (3, .inl ((m : Nat) : Int)), (4, .inl ((h : Nat) : Int)), (5, .inl ((tm_pl σ t r : Nat) : Int)), (6, .inl x)] [.inl ((t : Nat) : Int), .inl ((8 * ((r : Nat) : Int)) + ((tm_pl σ t r : Nat) : Int)), .inr 4] (tm_iw w r (σ.2.2.2 r).length (tm_pl σ t r)) (fun _ h => And.intro rfl (And.intro (by decide) (And.intro (by omega) (And.intro (by omega) h)))) ?_
      refine tl_ast (8 * r + tm_pl σ t r) 272 (k := 3) rfl (by decide) (by omega) rfl (by omega) ?_
      refine tl_go 4 168 [(0, .inr 0), (1, .inl ((t : Nat) : Int)), (2, .inl ((r : Nat) : Int)), (3, .inl ((m : Nat) : Int)), (4, .inl ((h : Nat) : Int)), (5, .inl ((tm_pl σ t r : Nat) : Int)), (6, .inl x)] [.inl ((r : Nat) : Int), .inr 5, .inl ((r : Nat) : Int), .inr 5] (tl_set (tm_iw w r (σ.2.2.2 r).length (tm_pl σ t r)) 3 (8 * r + tm_pl σ t r) ((t : Nat) : Int)) (fun _ h => And.intro rfl (And.intro (by decide) (h))) ?_
      refine tl_ald (r) 34 (k := 4) rfl (by omega) rfl (by omega) ?_
      refine tl_top (y := (((σ.2.2.2 r).length : Nat) : Int)) (by rw [tl_set_o (by decide), tm_iw_n (by decide)]; exact hl) ?_
      refine tl_go 2 171 [(0, .inr 0), (1, .inl ((t : Nat) : Int)), (2, .inl ((r : Nat) : Int)), (3, .inl ((m : Nat) : Int)), (4, .inl ((h : Nat) : Int)), (5, .inl ((tm_pl σ t r : Nat) : Int)), (6, .inl x)] [.inl ((((σ.2.2.2 r).length : Nat) : Int) + 1), .inl ((r : Nat) : Int), .inr 5] (tl_set (tm_iw w r (σ.2.2.2 r).length (tm_pl σ t r)) 3 (8 * r + tm_pl σ t r) ((t : Nat) : Int)) (fun _ h => And.intro (by omega) h) ?_
      refine tl_top (y := (((σ.2.2.2 r).length + 1 : Nat) : Int)) (by omega) ?_
      refine tl_ast (r) 34 (k := 4) rfl (by decide) (by omega) rfl (by omega) ?_
      refine tl_go 6 180 [(0, .inr 0), (1, .inl ((t : Nat) : Int)), (2, .inl ((r : Nat) : Int)), (3, .inl ((m : Nat) : Int)), (4, .inl ((h : Nat) : Int)), (5, .inl ((tm_pl σ t r : Nat) : Int)), (6, .inl x)] [.inl (2 + ((r : Nat) : Int)), .inl ((t : Nat) : Int), .inr 2] (tl_set (tl_set (tm_iw w r (σ.2.2.2 r).length (tm_pl σ t r)) 3 (8 * r + tm_pl σ t r) ((t : Nat) : Int)) 4 (r) (((σ.2.2.2 r).length + 1 : Nat) : Int)) (fun _ h => And.intro rfl (And.intro (by decide) (And.intro (by omega) h))) ?_
      refine tl_top (y := ((r + 2 : Nat) : Int)) (by omega) ?_
      refine tl_ast (t) 8 (k := 1) rfl (by decide) (by omega) rfl (by omega) ?_
      refine tl_go 4 187 [(0, .inr 0), (1, .inl ((t : Nat) : Int)), (2, .inl ((r : Nat) : Int)), (3, .inl ((m : Nat) : Int)), (4, .inl ((h : Nat) : Int)), (5, .inl ((tm_pl σ t r : Nat) : Int)), (6, .inl x)] [.inl ((m : Nat) : Int), .inl ((t : Nat) : Int), .inr 3] (tl_set (tl_set (tl_set (tm_iw w r (σ.2.2.2 r).length (tm_pl σ t r)) 3 (8 * r + tm_pl σ t r) ((t : Nat) : Int)) 4 (r) (((σ.2.2.2 r).length + 1 : Nat) : Int)) 1 (t) ((r + 2 : Nat) : Int)) (fun _ h => And.intro rfl (And.intro (by decide) (h))) ?_
      refine tl_ast (t) 8 (k := 2) rfl (by decide) (by omega) rfl (by omega) ?_
      refine tl_go 2 190 [(0, .inr 0), (1, .inl ((t : Nat) : Int)), (2, .inl ((r : Nat) : Int)), (3, .inl ((m : Nat) : Int)), (4, .inl ((h : Nat) : Int)), (5, .inl ((tm_pl σ t r : Nat) : Int)), (6, .inl x)] [.inl ((t : Nat) : Int), .inr 0] (tl_set (tl_set (tl_set (tl_set (tm_iw w r (σ.2.2.2 r).length (tm_pl σ t r)) 3 (8 * r + tm_pl σ t r) ((t : Nat) : Int)) 4 (r) (((σ.2.2.2 r).length + 1 : Nat) : Int)) 1 (t) ((r + 2 : Nat) : Int)) 2 (t) ((m : Nat) : Int)) (fun _ h => h) ?_
      have ew : (tl_set (tl_set (tl_set (tl_set (tm_iw w r (σ.2.2.2 r).length (tm_pl σ t r)) 3 (8 * r + tm_pl σ t r) ((t : Nat) : Int)) 4 (r) (((σ.2.2.2 r).length + 1 : Nat) : Int)) 1 (t) ((r + 2 : Nat) : Int)) 2 (t) ((m : Nat) : Int)) 5 = w 5 := by rw [tl_set_o (by decide), tl_set_o (by decide), tl_set_o (by decide), tl_set_o (by decide), tm_iw_n (by decide)]
      refine tl_callV (as := [.inr 0, .inl ((t : Nat) : Int)]) (rest := []) (v := some (tm_b (decide (tm_cir (tm_en σ r t m (tm_pl σ t r)) t = true)))) (w' := (tl_set (tl_set (tl_set (tl_set (tm_iw w r (σ.2.2.2 r).length (tm_pl σ t r)) 3 (8 * r + tm_pl σ t r) ((t : Nat) : Int)) 4 (r) (((σ.2.2.2 r).length + 1 : Nat) : Int)) 1 (t) ((r + 2 : Nat) : Int)) 2 (t) ((m : Nat) : Int))) rfl rfl (tb_rnd d t ht _ hJ1 hR1) (Nat.le_of_ble_eq_true rfl) rfl rfl rfl (Nat.le_of_ble_eq_true rfl) ?_
      refine tl_if (¬ (tm_b (decide (tm_cir (tm_en σ r t m (tm_pl σ t r)) t = true))) = 0) 198 196 [(0, .inr 0), (1, .inl ((t : Nat) : Int)), (2, .inl ((r : Nat) : Int)), (3, .inl ((m : Nat) : Int)), (4, .inl ((h : Nat) : Int)), (5, .inl ((tm_pl σ t r : Nat) : Int)), (6, .inl x)] [] (fun _ h => h) (fun h4 => ?_) (fun h4 => ?_)
      · have h4 := of_decide_eq_true (tm_bne h4)
        have e : tm_ask σ t r m = (4, σ) := by unfold tm_ask; rw [if_neg h3, if_pos h4]
        rw [e] at hQ
        have hkp : ((tm_en σ r t m (tm_pl σ t r)).2.2.2 r)[tm_pl σ t r]? = some t := by
          show (va_up σ.2.2.2 r _ r)[tm_pl σ t r]? = some t
          rw [va_up_s, tm_ins hple, if_neg (by omega), if_pos rfl]
        have hkl := (List.getElem?_eq_some_iff.mp hkp).1
        have hR2 := tm_lw_RM hR1 hr hkl (fun c hc => tm_len hJ1 hc)
        have hR3 := tm_W_RM (tm_S_RM hR2 t 1) t 0
        have e5 : (tm_lv (tm_en σ r t m (tm_pl σ t r)) r t (tm_pl σ t r)) = σ := tm_lv_en hs ((hJ.2.1 t ht).2.2 (by omega)) hple
        refine tl_go 3 202 [(0, .inr 0), (1, .inl ((t : Nat) : Int)), (2, .inl ((r : Nat) : Int)), (3, .inl ((m : Nat) : Int)), (4, .inl ((h : Nat) : Int)), (5, .inl ((tm_pl σ t r : Nat) : Int)), (6, .inl x)] [.inl ((tm_pl σ t r : Nat) : Int), .inl ((r : Nat) : Int), .inr 0] (tl_set (tl_set (tl_set (tl_set (tm_iw w r (σ.2.2.2 r).length (tm_pl σ t r)) 3 (8 * r + tm_pl σ t r) ((t : Nat) : Int)) 4 (r) (((σ.2.2.2 r).length + 1 : Nat) : Int)) 1 (t) ((r + 2 : Nat) : Int)) 2 (t) ((m : Nat) : Int)) (fun _ h => h) ?_
        refine tl_callV (as := [.inr 0, .inl ((r : Nat) : Int), .inl ((tm_pl σ t r : Nat) : Int)]) (rest := []) (v := none) (w' := (tm_lw (tl_set (tl_set (tl_set (tl_set (tm_iw w r (σ.2.2.2 r).length (tm_pl σ t r)) 3 (8 * r + tm_pl σ t r) ((t : Nat) : Int)) 4 (r) (((σ.2.2.2 r).length + 1 : Nat) : Int)) 1 (t) ((r + 2 : Nat) : Int)) 2 (t) ((m : Nat) : Int)) r (tm_pl σ t r) (((tm_en σ r t m (tm_pl σ t r)).2.2.2 r).length - 1))) rfl rfl (tb_lv (d + 2) (σ := tm_en σ r t m (tm_pl σ t r)) _ hR1 hr hkl (tm_len hJ1 hr)) (Nat.le_of_ble_eq_true rfl) rfl rfl rfl (Nat.le_of_ble_eq_true rfl) ?_
        refine tl_go 4 211 [(0, .inr 0), (1, .inl ((t : Nat) : Int)), (2, .inl ((r : Nat) : Int)), (3, .inl ((m : Nat) : Int)), (4, .inl ((h : Nat) : Int)), (5, .inl ((tm_pl σ t r : Nat) : Int)), (6, .inl x)] [.inl 1, .inl ((t : Nat) : Int), .inr 2] (tm_lw (tl_set (tl_set (tl_set (tl_set (tm_iw w r (σ.2.2.2 r).length (tm_pl σ t r)) 3 (8 * r + tm_pl σ t r) ((t : Nat) : Int)) 4 (r) (((σ.2.2.2 r).length + 1 : Nat) : Int)) 1 (t) ((r + 2 : Nat) : Int)) 2 (t) ((m : Nat) : Int)) r (tm_pl σ t r) (((tm_en σ r t m (tm_pl σ t r)).2.2.2 r).length - 1)) (fun _ h => And.intro rfl (And.intro (by decide) (h))) ?_
        refine tl_ast (t) 8 (k := 1) rfl (by decide) (by omega) rfl (by omega) ?_
        refine tl_go 4 218 [(0, .inr 0), (1, .inl ((t : Nat) : Int)), (2, .inl ((r : Nat) : Int)), (3, .inl ((m : Nat) : Int)), (4, .inl ((h : Nat) : Int)), (5, .inl ((tm_pl σ t r : Nat) : Int)), (6, .inl x)] [.inl 0, .inl ((t : Nat) : Int), .inr 3] (tl_set (tm_lw (tl_set (tl_set (tl_set (tl_set (tm_iw w r (σ.2.2.2 r).length (tm_pl σ t r)) 3 (8 * r + tm_pl σ t r) ((t : Nat) : Int)) 4 (r) (((σ.2.2.2 r).length + 1 : Nat) : Int)) 1 (t) ((r + 2 : Nat) : Int)) 2 (t) ((m : Nat) : Int)) r (tm_pl σ t r) (((tm_en σ r t m (tm_pl σ t r)).2.2.2 r).length - 1)) 1 (t) 1) (fun _ h => And.intro rfl (And.intro (by decide) (h))) ?_
        refine tl_ast (t) 8 (k := 2) rfl (by decide) (by omega) rfl (by omega) ?_
        refine tl_go 1 220 [(0, .inr 0), (1, .inl ((t : Nat) : Int)), (2, .inl ((r : Nat) : Int)), (3, .inl ((m : Nat) : Int)), (4, .inl ((h : Nat) : Int)), (5, .inl ((tm_pl σ t r : Nat) : Int)), (6, .inl x)] [.inl 4] (tl_set (tl_set (tm_lw (tl_set (tl_set (tl_set (tl_set (tm_iw w r (σ.2.2.2 r).length (tm_pl σ t r)) 3 (8 * r + tm_pl σ t r) ((t : Nat) : Int)) 4 (r) (((σ.2.2.2 r).length + 1 : Nat) : Int)) 1 (t) ((r + 2 : Nat) : Int)) 2 (t) ((m : Nat) : Int)) r (tm_pl σ t r) (((tm_en σ r t m (tm_pl σ t r)).2.2.2 r).length - 1)) 1 (t) 1) 2 (t) 0) (fun _ h => h) ?_
        have hR4 : tm_RM (tl_set (tl_set (tm_lw (tl_set (tl_set (tl_set (tl_set (tm_iw w r (σ.2.2.2 r).length (tm_pl σ t r)) 3 (8 * r + tm_pl σ t r) ((t : Nat) : Int)) 4 (r) (((σ.2.2.2 r).length + 1 : Nat) : Int)) 1 (t) ((r + 2 : Nat) : Int)) 2 (t) ((m : Nat) : Int)) r (tm_pl σ t r) (((tm_en σ r t m (tm_pl σ t r)).2.2.2 r).length - 1)) 1 (t) 1) 2 (t) 0) (tm_lv (tm_en σ r t m (tm_pl σ t r)) r t (tm_pl σ t r)) := hR3
        rw [e5] at hR4
        exact tl_reti rfl rfl (rfl) (hQ _ ⟨hR4, by rw [tl_set_o (by decide), tl_set_o (by decide), tm_lw_n (by decide) (by decide)]; exact ew⟩)
      · have h4 := of_decide_eq_false (tm_beq (Classical.not_not.mp h4))
        have e : tm_ask σ t r m = (0, tm_en σ r t m (tm_pl σ t r)) := by unfold tm_ask; rw [if_neg h3, if_neg h4]
        rw [e] at hQ
        refine tl_go 1 197 [(0, .inr 0), (1, .inl ((t : Nat) : Int)), (2, .inl ((r : Nat) : Int)), (3, .inl ((m : Nat) : Int)), (4, .inl ((h : Nat) : Int)), (5, .inl ((tm_pl σ t r : Nat) : Int)), (6, .inl x)] [.inl 0] (tl_set (tl_set (tl_set (tl_set (tm_iw w r (σ.2.2.2 r).length (tm_pl σ t r)) 3 (8 * r + tm_pl σ t r) ((t : Nat) : Int)) 4 (r) (((σ.2.2.2 r).length + 1 : Nat) : Int)) 1 (t) ((r + 2 : Nat) : Int)) 2 (t) ((m : Nat) : Int)) (fun _ h => h) ?_
        exact tl_reti rfl rfl (rfl) (hQ _ ⟨hR1, ew⟩)
    have partB : ∀ q : Nat, tm_pl σ t r + q ≤ (σ.2.2.2 r).length → tl_E tb_P (d + 3) 18 110 [(0, .inr 0), (1, .inl (t : Int)), (2, .inl (r : Int)), (3, .inl (m : Int)), (4, .inl (h : Int)), (5, .inl ((tm_pl σ t r : Nat) : Int)), (6, .inl ((tm_pl σ t r + q : Nat) : Int))] [] (tm_iw w r (σ.2.2.2 r).length (tm_pl σ t r + q)) Q := by
      intro q
      induction q with
      | zero =>
        intro hq
        refine tl_go 2 114 [(0, .inr 0), (1, .inl ((t : Nat) : Int)), (2, .inl ((r : Nat) : Int)), (3, .inl ((m : Nat) : Int)), (4, .inl ((h : Nat) : Int)), (5, .inl ((tm_pl σ t r : Nat) : Int)), (6, .inl ((tm_pl σ t r + 0 : Nat) : Int))] [.inl ((tm_pl σ t r : Nat) : Int), .inl ((tm_pl σ t r + 0 : Nat) : Int)] (tm_iw w r (σ.2.2.2 r).length (tm_pl σ t r + 0)) (fun _ h => h) ?_
        refine tl_ift (((tm_pl σ t r + 0 : Nat) : Int) ≤ ((tm_pl σ t r : Nat) : Int)) 149 117 [(0, .inr 0), (1, .inl ((t : Nat) : Int)), (2, .inl ((r : Nat) : Int)), (3, .inl ((m : Nat) : Int)), (4, .inl ((h : Nat) : Int)), (5, .inl ((tm_pl σ t r : Nat) : Int)), (6, .inl ((tm_pl σ t r + 0 : Nat) : Int))] [] (fun _ h => h) (by omega) ?_
        exact partC _
      | succ q ih =>
        intro hq
        refine tl_go 2 114 [(0, .inr 0), (1, .inl ((t : Nat) : Int)), (2, .inl ((r : Nat) : Int)), (3, .inl ((m : Nat) : Int)), (4, .inl ((h : Nat) : Int)), (5, .inl ((tm_pl σ t r : Nat) : Int)), (6, .inl ((tm_pl σ t r + (q + 1) : Nat) : Int))] [.inl ((tm_pl σ t r : Nat) : Int), .inl ((tm_pl σ t r + (q + 1) : Nat) : Int)] (tm_iw w r (σ.2.2.2 r).length (tm_pl σ t r + (q + 1))) (fun _ h => h) ?_
        refine tl_iff (((tm_pl σ t r + (q + 1) : Nat) : Int) ≤ ((tm_pl σ t r : Nat) : Int)) 149 117 [(0, .inr 0), (1, .inl ((t : Nat) : Int)), (2, .inl ((r : Nat) : Int)), (3, .inl ((m : Nat) : Int)), (4, .inl ((h : Nat) : Int)), (5, .inl ((tm_pl σ t r : Nat) : Int)), (6, .inl ((tm_pl σ t r + (q + 1) : Nat) : Int))] [] (fun _ h => h) (by omega) ?_
        refine tl_go 16 141 [(0, .inr 0), (1, .inl ((t : Nat) : Int)), (2, .inl ((r : Nat) : Int)), (3, .inl ((m : Nat) : Int)), (4, .inl ((h : Nat) : Int)), (5, .inl ((tm_pl σ t r : Nat) : Int)), (6, .inl ((tm_pl σ t r + (q + 1) : Nat) : Int))] [.inl (((8 * ((r : Nat) : Int)) + ((tm_pl σ t r + (q + 1) : Nat) : Int)) - 1), .inr 4, .inl ((8 * ((r : Nat) : Int)) + ((tm_pl σ t r + (q + 1) : Nat) : Int)), .inr 4] (tm_iw w r (σ.2.2.2 r).length (tm_pl σ t r + (q + 1))) (fun _ h => And.intro rfl (And.intro (by decide) (And.intro (by omega) (And.intro (by omega) (And.intro rfl (And.intro (by decide) (And.intro (by omega) (And.intro (by omega) (And.intro (by omega) h))))))))) ?_
        refine tl_ald (8 * r + (tm_pl σ t r + q)) 272 (k := 3) rfl (by omega) rfl (by omega) ?_
        refine tl_top (y := (w 3 (8 * r + (tm_pl σ t r + q)))) (by rw [tm_iw_3, if_neg (by omega)]) ?_
        refine tl_ast (8 * r + (tm_pl σ t r + q) + 1) 272 (k := 3) rfl (by decide) (by omega) rfl (by omega) ?_
        refine tl_wld (w' := (tm_iw w r (σ.2.2.2 r).length (tm_pl σ t r + q))) (tm_iw_s (i := tm_pl σ t r + q) (by omega)) ?_
        refine tl_go 2 110 [(0, .inr 0), (1, .inl ((t : Nat) : Int)), (2, .inl ((r : Nat) : Int)), (3, .inl ((m : Nat) : Int)), (4, .inl ((h : Nat) : Int)), (5, .inl ((tm_pl σ t r : Nat) : Int)), (6, .inl (((tm_pl σ t r + (q + 1) : Nat) : Int) + (-1)))] [] (tm_iw w r (σ.2.2.2 r).length (tm_pl σ t r + q)) (fun _ h => And.intro (by omega) h) ?_
        refine tl_loc (L' := [(0, .inr 0), (1, .inl ((t : Nat) : Int)), (2, .inl ((r : Nat) : Int)), (3, .inl ((m : Nat) : Int)), (4, .inl ((h : Nat) : Int)), (5, .inl ((tm_pl σ t r : Nat) : Int)), (6, .inl ((tm_pl σ t r + q : Nat) : Int))]) (by rw [show ((((tm_pl σ t r + (q + 1) : Nat) : Int)) + (-1)) = ((tm_pl σ t r + q : Nat) : Int) by omega]) ?_
        exact ih (by omega)
    have partA : tl_E tb_P (d + 3) 18 102 [(0, .inr 0), (1, .inl (t : Int)), (2, .inl (r : Int)), (3, .inl (m : Int)), (4, .inl (h : Int)), (5, .inl ((tm_pl σ t r : Nat) : Int))] [] w Q := by
      refine tl_go 3 107 [(0, .inr 0), (1, .inl ((t : Nat) : Int)), (2, .inl ((r : Nat) : Int)), (3, .inl ((m : Nat) : Int)), (4, .inl ((h : Nat) : Int)), (5, .inl ((tm_pl σ t r : Nat) : Int))] [.inl ((r : Nat) : Int), .inr 5] w (fun _ h => And.intro rfl (And.intro (by decide) (h))) ?_
      refine tl_ald (r) 34 (k := 4) rfl (by omega) rfl (by omega) ?_
      refine tl_top (y := (((σ.2.2.2 r).length : Nat) : Int)) (hl) ?_
      refine tl_go 1 110 [(0, .inr 0), (1, .inl ((t : Nat) : Int)), (2, .inl ((r : Nat) : Int)), (3, .inl ((m : Nat) : Int)), (4, .inl ((h : Nat) : Int)), (5, .inl ((tm_pl σ t r : Nat) : Int)), (6, .inl (((σ.2.2.2 r).length : Nat) : Int))] [] w (fun _ h => h) ?_
      have h9 := partB ((σ.2.2.2 r).length - tm_pl σ t r) (by omega)
      rw [show tm_pl σ t r + ((σ.2.2.2 r).length - tm_pl σ t r) = (σ.2.2.2 r).length by omega, tm_iw_0] at h9
      exact h9
    have place : ∀ k : Nat, k ≤ (σ.2.2.2 r).length → (h = 0 → k = (σ.2.2.2 r).length) → (h ≠ 0 → ∀ j u : Nat, k ≤ j → (σ.2.2.2 r)[j]? = some u → σ.1 (34 * u + r) = 0) → tl_E tb_P (d + 3) 18 59 [(0, .inr 0), (1, .inl (t : Int)), (2, .inl (r : Int)), (3, .inl (m : Int)), (4, .inl (h : Int)), (5, .inl (k : Int))] [] w Q := by
      intro k
      induction k with
      | zero =>
        intro hk hz hall
        refine tl_go 1 61 [(0, .inr 0), (1, .inl ((t : Nat) : Int)), (2, .inl ((r : Nat) : Int)), (3, .inl ((m : Nat) : Int)), (4, .inl ((h : Nat) : Int)), (5, .inl ((0 : Nat) : Int))] [.inl ((h : Nat) : Int)] w (fun _ h => h) ?_
        refine tl_if (((h : Nat) : Int) ≤ 0) 102 64 [(0, .inr 0), (1, .inl ((t : Nat) : Int)), (2, .inl ((r : Nat) : Int)), (3, .inl ((m : Nat) : Int)), (4, .inl ((h : Nat) : Int)), (5, .inl ((0 : Nat) : Int))] [] (fun _ h => h) (fun h1 => ?_) (fun h1 => ?_)
        · have h0 : h = 0 := by omega
          refine tl_loc (L' := [(0, .inr 0), (1, .inl ((t : Nat) : Int)), (2, .inl ((r : Nat) : Int)), (3, .inl ((m : Nat) : Int)), (4, .inl ((h : Nat) : Int)), (5, .inl ((tm_pl σ t r : Nat) : Int))]) (by rw [show ((0 : Nat) : Int) = ((tm_pl σ t r : Nat) : Int) by rw [tm_pl_0 (hh.trans h0), ← hz h0]]) ?_
          exact partA
        · have h0 : h ≠ 0 := by omega
          refine tl_go 1 66 [(0, .inr 0), (1, .inl ((t : Nat) : Int)), (2, .inl ((r : Nat) : Int)), (3, .inl ((m : Nat) : Int)), (4, .inl ((h : Nat) : Int)), (5, .inl ((0 : Nat) : Int))] [.inl ((0 : Nat) : Int)] w (fun _ h => h) ?_
          refine tl_ift (((0 : Nat) : Int) ≤ 0) 102 69 [(0, .inr 0), (1, .inl ((t : Nat) : Int)), (2, .inl ((r : Nat) : Int)), (3, .inl ((m : Nat) : Int)), (4, .inl ((h : Nat) : Int)), (5, .inl ((0 : Nat) : Int))] [] (fun _ h => h) (by omega) ?_
          refine tl_loc (L' := [(0, .inr 0), (1, .inl ((t : Nat) : Int)), (2, .inl ((r : Nat) : Int)), (3, .inl ((m : Nat) : Int)), (4, .inl ((h : Nat) : Int)), (5, .inl ((tm_pl σ t r : Nat) : Int))]) (by rw [show ((0 : Nat) : Int) = ((tm_pl σ t r : Nat) : Int) by rw [tm_pl_k hJ hr (by rw [hh]; exact h0) hk (hall h0) (Or.inl rfl)]]) ?_
          exact partA
      | succ k ih =>
        intro hk hz hall
        refine tl_go 1 61 [(0, .inr 0), (1, .inl ((t : Nat) : Int)), (2, .inl ((r : Nat) : Int)), (3, .inl ((m : Nat) : Int)), (4, .inl ((h : Nat) : Int)), (5, .inl ((k + 1 : Nat) : Int))] [.inl ((h : Nat) : Int)] w (fun _ h => h) ?_
        refine tl_if (((h : Nat) : Int) ≤ 0) 102 64 [(0, .inr 0), (1, .inl ((t : Nat) : Int)), (2, .inl ((r : Nat) : Int)), (3, .inl ((m : Nat) : Int)), (4, .inl ((h : Nat) : Int)), (5, .inl ((k + 1 : Nat) : Int))] [] (fun _ h => h) (fun h1 => ?_) (fun h1 => ?_)
        · have h0 : h = 0 := by omega
          refine tl_loc (L' := [(0, .inr 0), (1, .inl ((t : Nat) : Int)), (2, .inl ((r : Nat) : Int)), (3, .inl ((m : Nat) : Int)), (4, .inl ((h : Nat) : Int)), (5, .inl ((tm_pl σ t r : Nat) : Int))]) (by rw [show ((k + 1 : Nat) : Int) = ((tm_pl σ t r : Nat) : Int) by rw [tm_pl_0 (hh.trans h0), ← hz h0]]) ?_
          exact partA
        · have h0 : h ≠ 0 := by omega
          obtain ⟨u, hu⟩ : ∃ u, (σ.2.2.2 r)[k]? = some u := ⟨_, List.getElem?_eq_getElem (by omega)⟩
          have hu8 := (tm_K_lt hK hr hu).2.1
          refine tl_go 1 66 [(0, .inr 0), (1, .inl ((t : Nat) : Int)), (2, .inl ((r : Nat) : Int)), (3, .inl ((m : Nat) : Int)), (4, .inl ((h : Nat) : Int)), (5, .inl ((k + 1 : Nat) : Int))] [.inl ((k + 1 : Nat) : Int)] w (fun _ h => h) ?_
          refine tl_iff (((k + 1 : Nat) : Int) ≤ 0) 102 69 [(0, .inr 0), (1, .inl ((t : Nat) : Int)), (2, .inl ((r : Nat) : Int)), (3, .inl ((m : Nat) : Int)), (4, .inl ((h : Nat) : Int)), (5, .inl ((k + 1 : Nat) : Int))] [] (fun _ h => h) (by omega) ?_
          refine tl_go 12 88 [(0, .inr 0), (1, .inl ((t : Nat) : Int)), (2, .inl ((r : Nat) : Int)), (3, .inl ((m : Nat) : Int)), (4, .inl ((h : Nat) : Int)), (5, .inl ((k + 1 : Nat) : Int))] [.inl (((8 * ((r : Nat) : Int)) + ((k + 1 : Nat) : Int)) - 1), .inr 4, .inl 34, .inr 1] w (fun _ h => And.intro rfl (And.intro (by decide) (And.intro rfl (And.intro (by decide) (And.intro (by omega) (And.intro (by omega) (And.intro (by omega) h))))))) ?_
          refine tl_ald (8 * r + k) 272 (k := 3) rfl (by omega) rfl (by omega) ?_
          refine tl_top (y := ((u : Nat) : Int)) ((hR.2.2 r hr).2 k u hu) ?_
          refine tl_go 3 92 [(0, .inr 0), (1, .inl ((t : Nat) : Int)), (2, .inl ((r : Nat) : Int)), (3, .inl ((m : Nat) : Int)), (4, .inl ((h : Nat) : Int)), (5, .inl ((k + 1 : Nat) : Int))] [.inl ((34 * ((u : Nat) : Int)) + ((r : Nat) : Int)), .inr 1] w (fun _ h => And.intro (by omega) (And.intro (by omega) h)) ?_
          refine tl_ald (34 * u + r) 272 (k := 0) rfl (by omega) rfl (by omega) ?_
          refine tl_top (y := ((σ.1 (34 * u + r) : Nat) : Int)) (hR.1 _ (by omega)) ?_
          refine tl_if (¬ ((σ.1 (34 * u + r) : Nat) : Int) = 0) 102 96 [(0, .inr 0), (1, .inl ((t : Nat) : Int)), (2, .inl ((r : Nat) : Int)), (3, .inl ((m : Nat) : Int)), (4, .inl ((h : Nat) : Int)), (5, .inl ((k + 1 : Nat) : Int))] [] (fun _ h => h) (fun h2 => ?_) (fun h2 => ?_)
          · refine tl_loc (L' := [(0, .inr 0), (1, .inl ((t : Nat) : Int)), (2, .inl ((r : Nat) : Int)), (3, .inl ((m : Nat) : Int)), (4, .inl ((h : Nat) : Int)), (5, .inl ((tm_pl σ t r : Nat) : Int))]) (by rw [show ((k + 1 : Nat) : Int) = ((tm_pl σ t r : Nat) : Int) by rw [tm_pl_k hJ hr (by rw [hh]; exact h0) hk (hall h0) (Or.inr ⟨u, hu, by omega⟩)]]) ?_
            exact partA
          · refine tl_go 2 59 [(0, .inr 0), (1, .inl ((t : Nat) : Int)), (2, .inl ((r : Nat) : Int)), (3, .inl ((m : Nat) : Int)), (4, .inl ((h : Nat) : Int)), (5, .inl (((k + 1 : Nat) : Int) + (-1)))] [] w (fun _ h => And.intro (by omega) h) ?_
            refine tl_loc (L' := [(0, .inr 0), (1, .inl ((t : Nat) : Int)), (2, .inl ((r : Nat) : Int)), (3, .inl ((m : Nat) : Int)), (4, .inl ((h : Nat) : Int)), (5, .inl ((k : Nat) : Int))]) (by rw [show ((((k + 1 : Nat) : Int)) + (-1)) = (k : Int) by omega]) ?_
            refine ih (by omega) (fun q => absurd q h0) (fun _ j v hj hv => ?_)
            by_cases e : j = k
            · rw [e, hu] at hv; rw [← Option.some.inj hv]; omega
            · exact hall h0 j v (by omega) hv
    refine tl_go 3 56 [(0, .inr 0), (1, .inl ((t : Nat) : Int)), (2, .inl ((r : Nat) : Int)), (3, .inl ((m : Nat) : Int)), (4, .inl ((h : Nat) : Int))] [.inl ((r : Nat) : Int), .inr 5] w (fun _ h => And.intro rfl (And.intro (by decide) (h))) ?_
    refine tl_ald (r) 34 (k := 4) rfl (by omega) rfl (by omega) ?_
    refine tl_top (y := (((σ.2.2.2 r).length : Nat) : Int)) (hl) ?_
    refine tl_go 1 59 [(0, .inr 0), (1, .inl ((t : Nat) : Int)), (2, .inl ((r : Nat) : Int)), (3, .inl ((m : Nat) : Int)), (4, .inl ((h : Nat) : Int)), (5, .inl (((σ.2.2.2 r).length : Nat) : Int))] [] w (fun _ h => h) ?_
    refine place _ (Nat.le_refl _) (fun _ => rfl) (fun _ j u hj hu => ?_)
    have := (List.getElem?_eq_some_iff.mp hu).1
    omega
  refine tl_callV (as := [.inr 0, .inl ((t : Nat) : Int), .inl ((r : Nat) : Int), .inl ((m : Nat) : Int)]) (rest := []) (v := some (tm_b (decide (tm_fits σ.1 t r m = true)))) (w' := w) rfl rfl (tb_fit (d + 1) t r m ht hr w hR.1) (Nat.le_of_ble_eq_true rfl) rfl rfl rfl (Nat.le_of_ble_eq_true rfl) ?_
  refine tl_if ((tm_b (decide (tm_fits σ.1 t r m = true))) = 0) 51 23 [(0, .inr 0), (1, .inl ((t : Nat) : Int)), (2, .inl ((r : Nat) : Int)), (3, .inl ((m : Nat) : Int)), (4, .inl ((h : Nat) : Int))] [] (fun _ h => h) (fun h1 => ?_) (fun h1 => ?_)
  · have h1 := of_decide_eq_false (tm_beq h1)
    exact wait (fun q => h1 q.1)
  · have h1 := of_decide_eq_true (tm_bne h1)
    refine tl_go 1 25 [(0, .inr 0), (1, .inl ((t : Nat) : Int)), (2, .inl ((r : Nat) : Int)), (3, .inl ((m : Nat) : Int)), (4, .inl ((h : Nat) : Int))] [.inl ((h : Nat) : Int)] w (fun _ h => h) ?_
    refine tl_if (0 < ((h : Nat) : Int)) 37 28 [(0, .inr 0), (1, .inl ((t : Nat) : Int)), (2, .inl ((r : Nat) : Int)), (3, .inl ((m : Nat) : Int)), (4, .inl ((h : Nat) : Int))] [] (fun _ h => h) (fun h2 => ?_) (fun h2 => ?_)
    · have e : tm_ask σ t r m = (1, tm_sm σ (34 * t + r) m) := by unfold tm_ask; rw [if_pos ⟨h1, Or.inl (by omega)⟩]
      rw [e] at hQ
      refine tl_go 8 48 [(0, .inr 0), (1, .inl ((t : Nat) : Int)), (2, .inl ((r : Nat) : Int)), (3, .inl ((m : Nat) : Int)), (4, .inl ((h : Nat) : Int))] [.inl ((m : Nat) : Int), .inl ((34 * ((t : Nat) : Int)) + ((r : Nat) : Int)), .inr 1] w (fun _ h => And.intro rfl (And.intro (by decide) (And.intro (by omega) (And.intro (by omega) h)))) ?_
      refine tl_ast (34 * t + r) 272 (k := 0) rfl (by decide) (by omega) rfl (by omega) ?_
      refine tl_go 1 50 [(0, .inr 0), (1, .inl ((t : Nat) : Int)), (2, .inl ((r : Nat) : Int)), (3, .inl ((m : Nat) : Int)), (4, .inl ((h : Nat) : Int))] [.inl 1] (tl_set w 0 (34 * t + r) ((m : Nat) : Int)) (fun _ h => h) ?_
      exact tl_reti rfl rfl (rfl) (hQ _ ⟨tm_M_RM hR _ m, by rw [tl_set_o (by decide)]⟩)
    · refine tl_go 3 33 [(0, .inr 0), (1, .inl ((t : Nat) : Int)), (2, .inl ((r : Nat) : Int)), (3, .inl ((m : Nat) : Int)), (4, .inl ((h : Nat) : Int))] [.inl ((r : Nat) : Int), .inr 5] w (fun _ h => And.intro rfl (And.intro (by decide) (h))) ?_
      refine tl_ald (r) 34 (k := 4) rfl (by omega) rfl (by omega) ?_
      refine tl_top (y := (((σ.2.2.2 r).length : Nat) : Int)) (hl) ?_
      refine tl_if (¬ (((σ.2.2.2 r).length : Nat) : Int) = 0) 51 37 [(0, .inr 0), (1, .inl ((t : Nat) : Int)), (2, .inl ((r : Nat) : Int)), (3, .inl ((m : Nat) : Int)), (4, .inl ((h : Nat) : Int))] [] (fun _ h => h) (fun h5 => ?_) (fun h5 => ?_)
      · exact wait (fun q => q.2.elim (fun z => by omega) (fun z => h5 (by rw [z]; rfl)))
      · have e : tm_ask σ t r m = (1, tm_sm σ (34 * t + r) m) := by unfold tm_ask; rw [if_pos ⟨h1, Or.inr (List.length_eq_zero_iff.mp (by omega))⟩]
        rw [e] at hQ
        refine tl_go 8 48 [(0, .inr 0), (1, .inl ((t : Nat) : Int)), (2, .inl ((r : Nat) : Int)), (3, .inl ((m : Nat) : Int)), (4, .inl ((h : Nat) : Int))] [.inl ((m : Nat) : Int), .inl ((34 * ((t : Nat) : Int)) + ((r : Nat) : Int)), .inr 1] w (fun _ h => And.intro rfl (And.intro (by decide) (And.intro (by omega) (And.intro (by omega) h)))) ?_
        refine tl_ast (34 * t + r) 272 (k := 0) rfl (by decide) (by omega) rfl (by omega) ?_
        refine tl_go 1 50 [(0, .inr 0), (1, .inl ((t : Nat) : Int)), (2, .inl ((r : Nat) : Int)), (3, .inl ((m : Nat) : Int)), (4, .inl ((h : Nat) : Int))] [.inl 1] (tl_set w 0 (34 * t + r) ((m : Nat) : Int)) (fun _ h => h) ?_
        exact tl_reti rfl rfl (rfl) (hQ _ ⟨tm_M_RM hR _ m, by rw [tl_set_o (by decide)]⟩)
end
