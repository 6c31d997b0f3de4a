section
-- ===== PART A: goes FIRST, ahead of the names: the tables' words, and 'selects' of the private methods out of them =====
/-- a private method of a class that the tables say can be made, by its rows of tables_1 -/
def lw_okq (q : MethodName × Nat) : Prop := (q.1.cls ≠ "java/lang/invoke/MethodHandle" ∧ q.1.cls ≠ "java/lang/invoke/VarHandle") ∧ Cond.instantiable q.1.cls q.2 ∈ tables_1 ∧ Cond.privateMethod q.1 ∈ tables_1 ∧ Cond.instanceMethod q.1 ∈ tables_1
theorem lw_p0 : lw_okq (⟨"CodedStore", "putRecord", "(II)I"⟩, 9) := ⟨⟨by decide +kernel, by decide +kernel⟩, List.mem_of_getElem? (i := 15) (by decide +kernel), List.mem_of_getElem? (i := 153) (by decide +kernel), List.mem_of_getElem? (i := 154) (by decide +kernel)⟩
theorem lw_p1 : lw_okq (⟨"CodedStore", "surveyed", "()LCodedStore$Catalog;"⟩, 9) := ⟨⟨by decide +kernel, by decide +kernel⟩, List.mem_of_getElem? (i := 15) (by decide +kernel), List.mem_of_getElem? (i := 160) (by decide +kernel), List.mem_of_getElem? (i := 161) (by decide +kernel)⟩
theorem lw_p2 : lw_okq (⟨"CodedStore$Catalog", "hasAllParts", "(I)Z"⟩, 4) := ⟨⟨by decide +kernel, by decide +kernel⟩, List.mem_of_getElem? (i := 43) (by decide +kernel), List.mem_of_getElem? (i := 180) (by decide +kernel), List.mem_of_getElem? (i := 181) (by decide +kernel)⟩
theorem lw_p3 : lw_okq (⟨"CodedStore$Catalog", "isOutdone", "(I)Z"⟩, 4) := ⟨⟨by decide +kernel, by decide +kernel⟩, List.mem_of_getElem? (i := 43) (by decide +kernel), List.mem_of_getElem? (i := 188) (by decide +kernel), List.mem_of_getElem? (i := 189) (by decide +kernel)⟩
theorem lw_p4 : lw_okq (⟨"CodedStore", "fillRow", "(IIIII)V"⟩, 9) := ⟨⟨by decide +kernel, by decide +kernel⟩, List.mem_of_getElem? (i := 15) (by decide +kernel), List.mem_of_getElem? (i := 213) (by decide +kernel), List.mem_of_getElem? (i := 214) (by decide +kernel)⟩
theorem lw_p5 : lw_okq (⟨"CodedStore", "gatherContent", "(I)V"⟩, 9) := ⟨⟨by decide +kernel, by decide +kernel⟩, List.mem_of_getElem? (i := 15) (by decide +kernel), List.mem_of_getElem? (i := 250) (by decide +kernel), List.mem_of_getElem? (i := 251) (by decide +kernel)⟩
theorem lw_p6 : lw_okq (⟨"CodedStore$Catalog", "countTextsBelow", "(I)I"⟩, 4) := ⟨⟨by decide +kernel, by decide +kernel⟩, List.mem_of_getElem? (i := 43) (by decide +kernel), List.mem_of_getElem? (i := 323) (by decide +kernel), List.mem_of_getElem? (i := 324) (by decide +kernel)⟩
theorem lw_p7 : lw_okq (⟨"java/lang/Throwable", "fillInStackTrace", "(I)Ljava/lang/Throwable;"⟩, 6) := ⟨⟨by decide +kernel, by decide +kernel⟩, List.mem_of_getElem? (i := 386) (by decide +kernel), List.mem_of_getElem? (i := 384) (by decide +kernel), List.mem_of_getElem? (i := 385) (by decide +kernel)⟩
theorem lw_p8 : lw_okq (⟨"CodedStoreModel", "takeTape", "()V"⟩, 15) := ⟨⟨by decide +kernel, by decide +kernel⟩, List.mem_of_getElem? (i := 478) (by decide +kernel), List.mem_of_getElem? (i := 543) (by decide +kernel), List.mem_of_getElem? (i := 544) (by decide +kernel)⟩
theorem lw_p9 : lw_okq (⟨"CodedStoreModel", "code", "()V"⟩, 15) := ⟨⟨by decide +kernel, by decide +kernel⟩, List.mem_of_getElem? (i := 478) (by decide +kernel), List.mem_of_getElem? (i := 547) (by decide +kernel), List.mem_of_getElem? (i := 548) (by decide +kernel)⟩
theorem lw_p10 : lw_okq (⟨"CodedStoreModel", "put", "(I)V"⟩, 15) := ⟨⟨by decide +kernel, by decide +kernel⟩, List.mem_of_getElem? (i := 478) (by decide +kernel), List.mem_of_getElem? (i := 551) (by decide +kernel), List.mem_of_getElem? (i := 552) (by decide +kernel)⟩
theorem lw_p11 : lw_okq (⟨"CodedStoreModel", "alike", "(II)I"⟩, 15) := ⟨⟨by decide +kernel, by decide +kernel⟩, List.mem_of_getElem? (i := 478) (by decide +kernel), List.mem_of_getElem? (i := 555) (by decide +kernel), List.mem_of_getElem? (i := 556) (by decide +kernel)⟩
theorem lw_p12 : lw_okq (⟨"CodedStoreModel", "load0", "()V"⟩, 15) := ⟨⟨by decide +kernel, by decide +kernel⟩, List.mem_of_getElem? (i := 478) (by decide +kernel), List.mem_of_getElem? (i := 559) (by decide +kernel), List.mem_of_getElem? (i := 560) (by decide +kernel)⟩
theorem lw_p13 : lw_okq (⟨"CodedStoreModel", "decode", "()Z"⟩, 15) := ⟨⟨by decide +kernel, by decide +kernel⟩, List.mem_of_getElem? (i := 478) (by decide +kernel), List.mem_of_getElem? (i := 567) (by decide +kernel), List.mem_of_getElem? (i := 568) (by decide +kernel)⟩
theorem lw_p14 : lw_okq (⟨"CodedStoreModel", "wrong", "(I)Z"⟩, 15) := ⟨⟨by decide +kernel, by decide +kernel⟩, List.mem_of_getElem? (i := 478) (by decide +kernel), List.mem_of_getElem? (i := 571) (by decide +kernel), List.mem_of_getElem? (i := 572) (by decide +kernel)⟩
theorem lw_p15 : lw_okq (⟨"CodedStoreModel", "putRecord", "(II)I"⟩, 15) := ⟨⟨by decide +kernel, by decide +kernel⟩, List.mem_of_getElem? (i := 478) (by decide +kernel), List.mem_of_getElem? (i := 587) (by decide +kernel), List.mem_of_getElem? (i := 588) (by decide +kernel)⟩
def lw_privs_1 : List (MethodName × Nat) := [(⟨"CodedStore", "putRecord", "(II)I"⟩, 9), (⟨"CodedStore", "surveyed", "()LCodedStore$Catalog;"⟩, 9), (⟨"CodedStore$Catalog", "hasAllParts", "(I)Z"⟩, 4), (⟨"CodedStore$Catalog", "isOutdone", "(I)Z"⟩, 4), (⟨"CodedStore", "fillRow", "(IIIII)V"⟩, 9), (⟨"CodedStore", "gatherContent", "(I)V"⟩, 9), (⟨"CodedStore$Catalog", "countTextsBelow", "(I)I"⟩, 4), (⟨"java/lang/Throwable", "fillInStackTrace", "(I)Ljava/lang/Throwable;"⟩, 6), (⟨"CodedStoreModel", "takeTape", "()V"⟩, 15), (⟨"CodedStoreModel", "code", "()V"⟩, 15), (⟨"CodedStoreModel", "put", "(I)V"⟩, 15), (⟨"CodedStoreModel", "alike", "(II)I"⟩, 15), (⟨"CodedStoreModel", "load0", "()V"⟩, 15), (⟨"CodedStoreModel", "decode", "()Z"⟩, 15), (⟨"CodedStoreModel", "wrong", "(I)Z"⟩, 15), (⟨"CodedStoreModel", "putRecord", "(II)I"⟩, 15)]
theorem lw_r1 : ∀ q ∈ lw_privs_1, lw_okq q := List.forall_mem_cons.mpr ⟨lw_p0, List.forall_mem_cons.mpr ⟨lw_p1, List.forall_mem_cons.mpr ⟨lw_p2, List.forall_mem_cons.mpr ⟨lw_p3, List.forall_mem_cons.mpr ⟨lw_p4, List.forall_mem_cons.mpr ⟨lw_p5, List.forall_mem_cons.mpr ⟨lw_p6, List.forall_mem_cons.mpr ⟨lw_p7, List.forall_mem_cons.mpr ⟨lw_p8, List.forall_mem_cons.mpr ⟨lw_p9, List.forall_mem_cons.mpr ⟨lw_p10, List.forall_mem_cons.mpr ⟨lw_p11, List.forall_mem_cons.mpr ⟨lw_p12, List.forall_mem_cons.mpr ⟨lw_p13, List.forall_mem_cons.mpr ⟨lw_p14, List.forall_mem_cons.mpr ⟨lw_p15, fun _ h => absurd h List.not_mem_nil⟩⟩⟩⟩⟩⟩⟩⟩⟩⟩⟩⟩⟩⟩⟩⟩
theorem lw_p16 : lw_okq (⟨"CodedStoreModel", "greatest", "()I"⟩, 15) := ⟨⟨by decide +kernel, by decide +kernel⟩, List.mem_of_getElem? (i := 478) (by decide +kernel), List.mem_of_getElem? (i := 591) (by decide +kernel), List.mem_of_getElem? (i := 592) (by decide +kernel)⟩
theorem lw_p17 : lw_okq (⟨"CodedStoreModel", "numberOf", "(I)I"⟩, 15) := ⟨⟨by decide +kernel, by decide +kernel⟩, List.mem_of_getElem? (i := 478) (by decide +kernel), List.mem_of_getElem? (i := 595) (by decide +kernel), List.mem_of_getElem? (i := 596) (by decide +kernel)⟩
theorem lw_p18 : lw_okq (⟨"CodedStoreModel", "findLive", "()I"⟩, 15) := ⟨⟨by decide +kernel, by decide +kernel⟩, List.mem_of_getElem? (i := 478) (by decide +kernel), List.mem_of_getElem? (i := 599) (by decide +kernel), List.mem_of_getElem? (i := 600) (by decide +kernel)⟩
theorem lw_p19 : lw_okq (⟨"CodedStoreModel", "isLive", "(I)Z"⟩, 15) := ⟨⟨by decide +kernel, by decide +kernel⟩, List.mem_of_getElem? (i := 478) (by decide +kernel), List.mem_of_getElem? (i := 603) (by decide +kernel), List.mem_of_getElem? (i := 604) (by decide +kernel)⟩
theorem lw_p20 : lw_okq (⟨"CodedStoreModel", "isWhole", "(I)Z"⟩, 15) := ⟨⟨by decide +kernel, by decide +kernel⟩, List.mem_of_getElem? (i := 478) (by decide +kernel), List.mem_of_getElem? (i := 607) (by decide +kernel), List.mem_of_getElem? (i := 608) (by decide +kernel)⟩
theorem lw_p21 : lw_okq (⟨"CodedStoreModel", "partsOf", "(I)I"⟩, 15) := ⟨⟨by decide +kernel, by decide +kernel⟩, List.mem_of_getElem? (i := 478) (by decide +kernel), List.mem_of_getElem? (i := 611) (by decide +kernel), List.mem_of_getElem? (i := 612) (by decide +kernel)⟩
theorem lw_p22 : lw_okq (⟨"CodedStoreModel", "keyOf", "(I)I"⟩, 15) := ⟨⟨by decide +kernel, by decide +kernel⟩, List.mem_of_getElem? (i := 478) (by decide +kernel), List.mem_of_getElem? (i := 615) (by decide +kernel), List.mem_of_getElem? (i := 616) (by decide +kernel)⟩
theorem lw_p23 : lw_okq (⟨"CodedStoreModel", "mayWrite", "()Z"⟩, 15) := ⟨⟨by decide +kernel, by decide +kernel⟩, List.mem_of_getElem? (i := 478) (by decide +kernel), List.mem_of_getElem? (i := 619) (by decide +kernel), List.mem_of_getElem? (i := 620) (by decide +kernel)⟩
theorem lw_p24 : lw_okq (⟨"CodedStoreModel", "word4", "(I)I"⟩, 15) := ⟨⟨by decide +kernel, by decide +kernel⟩, List.mem_of_getElem? (i := 478) (by decide +kernel), List.mem_of_getElem? (i := 624) (by decide +kernel), List.mem_of_getElem? (i := 625) (by decide +kernel)⟩
theorem lw_p25 : lw_okq (⟨"CodedStoreModel", "find", "(I)I"⟩, 15) := ⟨⟨by decide +kernel, by decide +kernel⟩, List.mem_of_getElem? (i := 478) (by decide +kernel), List.mem_of_getElem? (i := 632) (by decide +kernel), List.mem_of_getElem? (i := 633) (by decide +kernel)⟩
theorem lw_p26 : lw_okq (⟨"CodedStoreModel", "partOf", "(I)I"⟩, 15) := ⟨⟨by decide +kernel, by decide +kernel⟩, List.mem_of_getElem? (i := 478) (by decide +kernel), List.mem_of_getElem? (i := 636) (by decide +kernel), List.mem_of_getElem? (i := 637) (by decide +kernel)⟩
theorem lw_p27 : lw_okq (⟨"CodedStoreModel", "formOf", "(I)I"⟩, 15) := ⟨⟨by decide +kernel, by decide +kernel⟩, List.mem_of_getElem? (i := 478) (by decide +kernel), List.mem_of_getElem? (i := 640) (by decide +kernel), List.mem_of_getElem? (i := 641) (by decide +kernel)⟩
theorem lw_p28 : lw_okq (⟨"CodedStoreModel", "zero", "(I)Z"⟩, 15) := ⟨⟨by decide +kernel, by decide +kernel⟩, List.mem_of_getElem? (i := 478) (by decide +kernel), List.mem_of_getElem? (i := 652) (by decide +kernel), List.mem_of_getElem? (i := 653) (by decide +kernel)⟩
theorem lw_p29 : lw_okq (⟨"CodedStoreModel", "texts", "()I"⟩, 15) := ⟨⟨by decide +kernel, by decide +kernel⟩, List.mem_of_getElem? (i := 478) (by decide +kernel), List.mem_of_getElem? (i := 664) (by decide +kernel), List.mem_of_getElem? (i := 665) (by decide +kernel)⟩
theorem lw_p30 : lw_okq (⟨"CodedStoreModel", "isText", "(I)Z"⟩, 15) := ⟨⟨by decide +kernel, by decide +kernel⟩, List.mem_of_getElem? (i := 478) (by decide +kernel), List.mem_of_getElem? (i := 668) (by decide +kernel), List.mem_of_getElem? (i := 669) (by decide +kernel)⟩
def lw_privs_2 : List (MethodName × Nat) := [(⟨"CodedStoreModel", "greatest", "()I"⟩, 15), (⟨"CodedStoreModel", "numberOf", "(I)I"⟩, 15), (⟨"CodedStoreModel", "findLive", "()I"⟩, 15), (⟨"CodedStoreModel", "isLive", "(I)Z"⟩, 15), (⟨"CodedStoreModel", "isWhole", "(I)Z"⟩, 15), (⟨"CodedStoreModel", "partsOf", "(I)I"⟩, 15), (⟨"CodedStoreModel", "keyOf", "(I)I"⟩, 15), (⟨"CodedStoreModel", "mayWrite", "()Z"⟩, 15), (⟨"CodedStoreModel", "word4", "(I)I"⟩, 15), (⟨"CodedStoreModel", "find", "(I)I"⟩, 15), (⟨"CodedStoreModel", "partOf", "(I)I"⟩, 15), (⟨"CodedStoreModel", "formOf", "(I)I"⟩, 15), (⟨"CodedStoreModel", "zero", "(I)Z"⟩, 15), (⟨"CodedStoreModel", "texts", "()I"⟩, 15), (⟨"CodedStoreModel", "isText", "(I)Z"⟩, 15)]
theorem lw_r2 : ∀ q ∈ lw_privs_2, lw_okq q := List.forall_mem_cons.mpr ⟨lw_p16, List.forall_mem_cons.mpr ⟨lw_p17, List.forall_mem_cons.mpr ⟨lw_p18, List.forall_mem_cons.mpr ⟨lw_p19, List.forall_mem_cons.mpr ⟨lw_p20, List.forall_mem_cons.mpr ⟨lw_p21, List.forall_mem_cons.mpr ⟨lw_p22, List.forall_mem_cons.mpr ⟨lw_p23, List.forall_mem_cons.mpr ⟨lw_p24, List.forall_mem_cons.mpr ⟨lw_p25, List.forall_mem_cons.mpr ⟨lw_p26, List.forall_mem_cons.mpr ⟨lw_p27, List.forall_mem_cons.mpr ⟨lw_p28, List.forall_mem_cons.mpr ⟨lw_p29, List.forall_mem_cons.mpr ⟨lw_p30, fun _ h => absurd h List.not_mem_nil⟩⟩⟩⟩⟩⟩⟩⟩⟩⟩⟩⟩⟩⟩⟩
def lw_privs : List (MethodName × Nat) := lw_privs_1 ++ (lw_privs_2)
def lw_tbl : List Cond := k2_sels lw_privs ++ tables_1
theorem lw_privs_ok : ∀ q ∈ lw_privs, lw_okq q := by
  show ∀ q ∈ lw_privs_1 ++ (lw_privs_2), lw_okq q
  exact List.forall_mem_append.mpr ⟨lw_r1, lw_r2⟩
-- ===== end of PART A; then your names; then what follows =====
/-! ===== BEGIN words of one list among another's, by their places ===== -/
theorem goodIn_r {big : List Cond} (ws : List Cond) (ps : List Nat) (hp : ws = ps.filterMap (fun i => big[i]?)) (h : ws.all goodWord = true) : GoodIn big ws := by
  intro w hw
  have h1 := List.all_eq_true.mp h w hw
  rw [hp] at hw
  obtain ⟨i, -, hi⟩ := List.mem_filterMap.mp hw
  have hm : w ∈ big := by first | exact List.mem_of_getElem? hi | exact List.getElem?_mem hi
  exact ⟨hm, good_of_word h1⟩
theorem goodIn_app {big a b : List Cond} (ha : GoodIn big a) (hb : GoodIn big b) : GoodIn big (a ++ b) := fun w h => (List.mem_append.mp h).elim (ha w) (hb w)
theorem goodIn_ca {big a b : List Cond} {c : Cond} (ha : GoodIn big (c :: a)) (hb : GoodIn big b) : GoodIn big (c :: (a ++ b)) := fun w h => (List.mem_cons.mp h).elim (fun e => ha w (List.mem_cons.mpr (Or.inl e))) (fun h => (List.mem_append.mp h).elim (fun h => ha w (List.mem_cons.mpr (Or.inr h))) (hb w))
theorem goodIn_sub {big ws : List Cond} (hm : ∀ w ∈ ws, w ∈ big) (h : ws.all goodWord = true) : GoodIn big ws := fun w hw => ⟨hm w hw, good_of_word (List.all_eq_true.mp h w hw)⟩
/-! ===== END ===== -/

/-! ===== BEGIN exceptions that leave a method, and their catching by the caller (launches without stack traces) ===== -/
section VXA
/-! The laws vx_back, vx_callV, vx_callS, vx_callSW, vx_throw0, vx_throwS follow proofs of the library, with one case more: JvmDerived/Free/Laws.lean (Back.of_free), Shelf42/LK1.lean (callV, callS), Shelf/KitTraced.lean (throwNew0V, throwNewS). -/
/-- where a method has thrown q: the class by its name, the cell, what was written, the world -/
def vx_T (XC : String → State → State → Prop) (st : State) (q : Addr) (t : State) (mc ms : Nat) (free : Addr → Prop) : Prop :=
  ∃ (E : String) (ce : Cell) (L : List Loc), XC E st t ∧ t.heap[q]? = some ce ∧ ce.vm = .none ∧ st.vm.findClass E = some ce.cls ∧ st.WarmedH t.vm ∧ st.sameButNew ({ t with vm := st.vm } : State) L mc ms ∧ ∀ z ∈ L, free z.base
def vx_Q (Qc : Array Value → State → Outcome → State → Prop) (XC : String → State → State → Prop) (mc ms : Nat) (free : Addr → Prop) : Array Value → State → Outcome → State → Prop := fun a st o t =>
  (Qc a st o t ∧ ∃ L, FrameEnd st o t L mc ms ∧ ∀ q ∈ L, free q.base) ∨ ∃ q, o = .threw q ∧ vx_T XC st q t mc ms free
/-- a callee that returns or throws -/
def vx_Met (l : Launch) (y : MethodName) (ws : List Cond) (rm : Room) (Pc : Array Value → State → Prop) (Qc : Array Value → State → Outcome → State → Prop) (XC : String → State → State → Prop) (mc ms : Nat) (free : Addr → Prop) : Prop :=
  MetFree l y (headSpec ws rm) Pc (fun _ _ _ _ _ => True) (vx_Q Qc XC mc ms free)
def vx_Post (XC : String → State → State → Prop) (mc ms : Nat) (free : Addr → Prop) : Pt → Array Value → Addr → Pt → Prop := fun A a q B =>
  ∃ (g : JFrame) (mk : MethodId) (t : State) (L : List Loc) (E : String) (ce : Cell), B.U.heap = t.heap ∧ B.U.vm = t.vm ∧ XC E (A.U.calling g mk a) t ∧ t.heap[q]? = some ce ∧ ce.vm = .none ∧ A.U.vm.findClass E = some ce.cls ∧ B.locs = A.locs ++ L ∧ (∀ z ∈ L, free z.base) ∧ B.cells = A.cells + mc ∧ B.slots = A.slots + ms
def vx_Back (l : Launch) (R : Room) (p : Program) (e : Env) (below : List Frame) (s : State) (sargs : Array Value) (y : MethodName) (len W9 : Nat)
    (Pre : Pt → Array Value → Prop) (Post : Pt → Array Value → Option Value → Pt → Prop) (PostX : Pt → Array Value → Addr → Pt → Prop) : Prop :=
  ∀ (m : MethodId) (meth : Method) (c : Code) (A : Pt) (g : JFrame) (ig : Instr) (mk : MethodId) (a : Array Value),
    Stand p l e R s m sargs below meth c A.U A.locs A.cells A.slots → g.method = m → g.locals.size = c.maxLocals → decode c.code g.pc = .ok (ig, len) →
    2 * g.monitorRoom + (g.stack.map fun v => v.category).sum ≤ W9 → A.U.methodNamed? y = some mk → Pre A a →
    (∃ (v : Option Value) (B : Pt), Stand p l e R s m sargs below meth c B.U B.locs B.cells B.slots ∧ Post A a v B ∧
      Steps p.tables e below (doInvoke e (A.U.setTop g) [] mk a).1 (B.U.setTop { g with pc := g.pc + len, stack := v.toList ++ g.stack })) ∨
    (∃ (q : Addr) (B : Pt), Stand p l e R s m sargs below meth c B.U B.locs B.cells B.slots ∧ PostX A a q B ∧
      Steps p.tables e below (doInvoke e (A.U.setTop g) [] mk a).1 ((B.U.setTop g).pushFrame (.throwing q)))
section Payer
variable {l : Launch} {R : Room} {p : Program} {e : Env} {below : List Frame} {s : State} {sargs : Array Value} {y : MethodName} {len W9 : Nat}
theorem vx_back {ws : List Cond} {rm : Room} {Pc : Array Value → State → Prop} {Qc : Array Value → State → Outcome → State → Prop} {XC : String → State → State → Prop} {mc ms : Nat} {free : Addr → Prop} {bytes : ByteArray} {maxL : Nat} {ret : Option FieldType}
    (hM : vx_Met l y ws rm Pc Qc XC mc ms free) (hblind : FrameBlind Pc) (hrc : rm.cells = mc) (hrs : rm.slots = ms)
    (hframes : rm.frames + 1 ≤ R.frames) (hlocals : W9 + (maxL + 11) + rm.locals ≤ R.locals)
    (hws : ∀ w ∈ ws, ∀ a' U, s.WarmedH U.vm → w.before a' U = true) (hcode : Cond.code y bytes maxL ret ∈ ws) (hinit : ∀ a' U, s.WarmedH U.vm → (Cond.initialized y.cls).before a' U = true) :
    vx_Back l R p e below s sargs y len W9 (PreOf R mc ms Pc) (PostOf Qc mc ms free) (vx_Post XC mc ms free) := by
  intro m meth c A g ig mk a X hg hsize hdg hW hn hp
  have h1 : (headSpec ws rm).pre.before a A.U = true := atoms_intro fun w hw => hws w hw _ _ X.warmed
  have h2 : (Cond.code y bytes maxL ret).before a A.U = true := hws _ hcode _ _ X.warmed
  have h3 : (Cond.initialized y.cls).before a A.U = true := hinit _ _ X.warmed
  have h4 : A.cells + (headSpec ws rm).room.cells ≤ R.cells := by rw [show (headSpec ws rm).room.cells = mc from hrc]; exact hp.1
  have h5 : A.slots + (headSpec ws rm).room.slots ≤ R.slots := by rw [show (headSpec ws rm).room.slots = ms from hrs]; exact hp.2.1
  have hPc : Pc a (A.U.calling g mk a) := hblind _ _ _ _ hp.2.2
  obtain ⟨U, Ls, c0, s0⟩ := A
  dsimp only [Pt.U, Pt.locs, Pt.cells, Pt.slots] at h1 h2 h3 h4 h5 X hn hPc ⊢
  obtain ⟨methY, cY, hmY, hcY, -, hlY, -, -, -, -⟩ := Cond.code_spec hn h2
  obtain ⟨kY, hkY, -⟩ := className_of_methodNamed hn
  have hinitY : kY.init = .initialized := Cond.initialized_spec (findClass_of_methodNamed hn) hkY h3
  have h : At U g.method c below := by rw [hg]; exact X.here
  have hlocals9 : W9 + (maxL + 11) + (headSpec ws rm).room.locals ≤ R.locals := hlocals
  have happ : (headSpec ws rm).appliesLoose y e.platform (U.calling g mk a) = true :=
    Spec.appliesLoose_calling (g := g) h hdg hn hkY hinitY
      (X.room_calling (g := g) (R' := (headSpec ws rm).room) hsize hmY hcY hframes (by rw [hlY]; omega) h4 h5) h1
  obtain ⟨mid, hmid⟩ := h.above
  have hfr : (U.setTop g).frames = (.java g :: mid) ++ below := by rw [State.frames_setTop' g h.top, hmid]; rfl
  obtain ⟨o, s₂, hsteps, -, hend, hq⟩ := Steps.callFree hM p X.admits X.cas X.clock (acts := []) hfr happ hPc trivial
  have hq' : vx_Q Qc XC mc ms free a (U.calling g mk a) o s₂ := hq
  rw [State.frames_setTop' g h.top] at hend
  obtain ⟨g₀, hg0⟩ := Option.isSome_iff_exists.mp h.top
  obtain ⟨r, hr⟩ := State.topJava?_eq_some.mp hg0
  have hr' : (({ U with heap := s₂.heap, slotsUsed := s₂.slotsUsed } : State).setVm s₂.vm).frames = .java g₀ :: r := hr
  rcases hq' with ⟨hqc, L, hfe, hL⟩ | ⟨q, rfl, E, ce, L, hx, hce, hcv, hcl, hW₂, hsm, hL⟩
  · obtain ⟨⟨v, rfl⟩, hW₂, e2, q2, q3, q4, q5, q6⟩ := id hfe
    have e3 : s₂ = ({ (U.calling g mk a).setFrames s₂.frames with heap := s₂.heap, slotsUsed := s₂.slotsUsed } : State).setVm s₂.vm := by
      have : s₂ = ({ s₂ with vm := (U.calling g mk a).vm } : State).setVm s₂.vm := rfl
      rw [e2] at this
      exact this
    obtain ⟨c₂, i₂, len₂, hc₂, hd₂, hf₂⟩ := hend
    have hW' : U.WarmedH s₂.vm := hW₂
    have hcc : c₂ = c := by
      have h1 : s₂.code? g.method = U.code? g.method := by
        rw [State.code?_eq, State.code?_eq, hW'.alike.method?]
      exact Option.some.inj (hc₂.symm.trans (h1.trans h.code))
    subst hcc
    have hlen : len₂ = len := by rw [hdg] at hd₂; cases hd₂; rfl
    subst hlen
    have hs₂ : s₂ = (({ U with heap := s₂.heap, slotsUsed := s₂.slotsUsed } : State).setVm s₂.vm).setTop { g with pc := g.pc + len₂, stack := v.toList ++ g.stack } := by
      refine e3.trans ?_
      rw [hf₂, State.calling_eq h.top, State.setFrames_setFrames, State.setTop_of_frames _ hr', hr]
      rfl
    have hsame : U.sameButNew ({ U with heap := s₂.heap, slotsUsed := s₂.slotsUsed } : State) L mc ms := by
      refine ⟨?_, q2, q3, q4, q5, q6⟩
      obtain ⟨t, ht, -⟩ := State.frames_cons hr
      show ({ U with heap := s₂.heap, slotsUsed := s₂.slotsUsed } : State) = { U.setFrames U.frames with heap := s₂.heap, slotsUsed := s₂.slotsUsed }
      rw [State.setFrames_self ht]
    subst hg
    refine Or.inl ⟨v, ⟨(({ U with heap := s₂.heap, slotsUsed := s₂.slotsUsed } : State).setVm s₂.vm), Ls ++ L, c0 + mc, s0 + ms⟩,
      ⟨X.admits, X.cas, X.clock, X.frames, X.room, X.hears, X.method, X.code, (X.here.setHeapUsed s₂.heap s₂.slotsUsed).setVm hW'.alike, X.tail, State.WarmedH.trans X.warmed hW', X.limits, X.bytes, X.same.trans (hsame.setVm s.vm)⟩,
      ⟨g, mk, s₂, L, rfl, rfl, hqc, rfl, hL, rfl, rfl⟩, ?_⟩
    show Steps p.tables e below _ ((({ U with heap := s₂.heap, slotsUsed := s₂.slotsUsed } : State).setVm s₂.vm).setTop { g with pc := g.pc + len₂, stack := v.toList ++ g.stack })
    rw [← hs₂]
    exact hsteps
  · obtain ⟨e2, q2, q3, q4, q5, q6⟩ := id hsm
    have e3 : s₂ = ({ (U.calling g mk a).setFrames s₂.frames with heap := s₂.heap, slotsUsed := s₂.slotsUsed } : State).setVm s₂.vm := by
      have : s₂ = ({ s₂ with vm := (U.calling g mk a).vm } : State).setVm s₂.vm := rfl
      rw [e2] at this
      exact this
    have hf₂ : s₂.frames = .throwing q :: .java g :: U.frames.tail := hend
    have hW' : U.WarmedH s₂.vm := hW₂
    have hs₂ : s₂ = ((({ U with heap := s₂.heap, slotsUsed := s₂.slotsUsed } : State).setVm s₂.vm).setTop g).pushFrame (.throwing q) := by
      refine e3.trans ?_
      rw [hf₂, State.calling_eq h.top, State.setFrames_setFrames, State.pushFrame, State.frames_setTop _ hr', State.setTop_of_frames _ hr', State.setFrames_setFrames, hr]
      rfl
    have hsame : U.sameButNew ({ U with heap := s₂.heap, slotsUsed := s₂.slotsUsed } : State) L mc ms := by
      refine ⟨?_, q2, q3, q4, q5, q6⟩
      obtain ⟨t, ht, -⟩ := State.frames_cons hr
      show ({ U with heap := s₂.heap, slotsUsed := s₂.slotsUsed } : State) = { U.setFrames U.frames with heap := s₂.heap, slotsUsed := s₂.slotsUsed }
      rw [State.setFrames_self ht]
    subst hg
    refine Or.inr ⟨q, ⟨(({ U with heap := s₂.heap, slotsUsed := s₂.slotsUsed } : State).setVm s₂.vm), Ls ++ L, c0 + mc, s0 + ms⟩,
      ⟨X.admits, X.cas, X.clock, X.frames, X.room, X.hears, X.method, X.code, (X.here.setHeapUsed s₂.heap s₂.slotsUsed).setVm hW'.alike, X.tail, State.WarmedH.trans X.warmed hW', X.limits, X.bytes, X.same.trans (hsame.setVm s.vm)⟩,
      ⟨g, mk, s₂, L, E, ce, rfl, rfl, hx, hce, hcv, hcl, rfl, hL, rfl, rfl⟩, ?_⟩
    show Steps p.tables e below _ (((({ U with heap := s₂.heap, slotsUsed := s₂.slotsUsed } : State).setVm s₂.vm).setTop g).pushFrame (.throwing q))
    rw [← hs₂]
    exact hsteps
end Payer
section Calls
variable {p : Program} {l : Launch} {e : Env} {R : Room} {s : State} {m : MethodId} {args : Array Value} {below : List Frame} {meth : Method} {c : Code} {T : State} {locs : List Loc} {cells slots : Nat}
theorem vx_callV (X : Stand p l e R s m args below meth c T locs cells slots) (hexec : p.tables.exec = Jvm.exec) {own C : String} {index : Nat} {y : MethodName} {bytes : ByteArray} {maxL : Nat} {ret : Option FieldType}
    (hown : s.vm.findClass own = some m.cls) (hlink : (Cond.methodLink own index y).before args s = true) (hinst : (Cond.instanceMethod y).before args s = true) (hsel : (Cond.selects C y y).before args s = true)
    (hcode : (Cond.code y bytes maxL ret).before args s = true) (hy : y.cls ≠ "java/lang/invoke/MethodHandle" ∧ y.cls ≠ "java/lang/invoke/VarHandle")
    {W9 : Nat} {Pre : Pt → Array Value → Prop} {Post : Pt → Array Value → Option Value → Pt → Prop} {PostX : Pt → Array Value → Addr → Pt → Prop} (hK : vx_Back l R p e below s args y 3 W9 Pre Post PostX)
    {b : Addr} {cellB : Cell} (hcell : T.heap[b]? = some cellB) (hobj : cellB.vm.isStatics = false) (hcls : s.vm.findClass C = some cellB.cls)
    {g : JFrame} (hg : g.method = m) (hsize : g.locals.size = c.maxLocals) {argsL rest : List Value} (hlen : ∀ sig, parseMethodDescriptor y.desc = some sig → argsL.length = sig.parameters.length)
    (hstack : g.stack = argsL.reverse ++ .ref b :: rest) (hW : 2 * g.monitorRoom + (rest.map fun v => v.category).sum ≤ W9) (hdg : decode c.code g.pc = .ok (.invokevirtual index, 3))
    (hpre : ∀ vm₁, s.WarmedH vm₁ → Pre ⟨T.setVm vm₁, locs, cells, slots⟩ (Value.ref b :: argsL).toArray) :
    (∃ (v : Option Value) (vm₁ : Vm) (B : Pt), s.WarmedH vm₁ ∧ Stand p l e R s m args below meth c B.U B.locs B.cells B.slots ∧ Post ⟨T.setVm vm₁, locs, cells, slots⟩ (Value.ref b :: argsL).toArray v B ∧
      ∀ target, Steps p.tables e below (B.U.setTop { g with pc := g.pc + 3, stack := v.toList ++ rest }) target → Steps p.tables e below (T.setTop g) target) ∨
    (∃ (q : Addr) (vm₁ : Vm) (B : Pt), s.WarmedH vm₁ ∧ Stand p l e R s m args below meth c B.U B.locs B.cells B.slots ∧ PostX ⟨T.setVm vm₁, locs, cells, slots⟩ (Value.ref b :: argsL).toArray q B ∧
      Steps p.tables e below (T.setTop g) ((B.U.setTop { g with stack := rest }).pushFrame (.throwing q))) := by
  obtain ⟨mk, methM, hnamed, hmethM, hstM, habM⟩ := Cond.instanceMethod_spec hinst
  obtain ⟨methM', cM, hmethM', -, -, -, -, -, -, hsigM⟩ := Cond.code_spec hnamed hcode
  cases hmethM.symm.trans hmethM'
  obtain ⟨c2, r2, m2, q1, q2, q3, q4, kP, hkP, hkPi⟩ := Cond.selects_spec hsel
  cases hcls.symm.trans q1
  cases (State.methodFound?_of_named hnamed hy).symm.trans q2
  cases hnamed.symm.trans q3
  have hselP : selectMethod e.platform s.vm cellB.cls mk = .method mk := by rw [Launch.admits_selectMethod X.admits]; exact q4
  obtain ⟨vm₁, X₁, hstep₁⟩ := X.invokevirtual hexec hown hlink hnamed hmethM hstM hkP hkPi hy (a := b) (cell := cellB) hcell
    (fun z h => by rw [h] at hobj; cases hobj) hselP hmethM habM hkP hkPi (g := g) hg (argsL := argsL) (rest := rest) (hlen _ hsigM) hstack hdg
  rcases hK m meth c ⟨T.setVm vm₁, locs, cells, slots⟩ { g with stack := rest } (.invokevirtual index) mk (Value.ref b :: argsL).toArray X₁ hg hsize hdg hW (X₁.named hnamed) (hpre vm₁ X₁.warmed) with ⟨v, B, X', hpost, hsteps⟩ | ⟨q, B, X', hpost, hsteps⟩
  · exact Or.inl ⟨v, vm₁, B, X₁.warmed, X', hpost, fun target h => hstep₁ _ fun acts => by rw [doInvoke_state]; exact hsteps.trans h⟩
  · exact Or.inr ⟨q, vm₁, B, X₁.warmed, X', hpost, hstep₁ _ fun acts => by rw [doInvoke_state]; exact hsteps⟩
theorem vx_callS (X : Stand p l e R s m args below meth c T locs cells slots) (hexec : p.tables.exec = Jvm.exec) {own : String} {index : Nat} {y : MethodName} {bytes : ByteArray} {maxL : Nat} {ret : Option FieldType}
    (hown : s.vm.findClass own = some m.cls) (hlink : (Cond.methodLink own index y).before args s = true) (hstat : (Cond.static y).before args s = true) (hinit : (Cond.initialized y.cls).before args s = true)
    (hcode : (Cond.code y bytes maxL ret).before args s = true) (hy : y.cls ≠ "java/lang/invoke/MethodHandle" ∧ y.cls ≠ "java/lang/invoke/VarHandle")
    {W9 : Nat} {Pre : Pt → Array Value → Prop} {Post : Pt → Array Value → Option Value → Pt → Prop} {PostX : Pt → Array Value → Addr → Pt → Prop} (hK : vx_Back l R p e below s args y 3 W9 Pre Post PostX)
    {g : JFrame} (hg : g.method = m) (hsize : g.locals.size = c.maxLocals) {argsL rest : List Value} (hlen : ∀ sig, parseMethodDescriptor y.desc = some sig → argsL.length = sig.parameters.length)
    (hstack : g.stack = argsL.reverse ++ rest) (hW : 2 * g.monitorRoom + (rest.map fun v => v.category).sum ≤ W9) (hdg : decode c.code g.pc = .ok (.invokestatic index, 3))
    (hpre : ∀ vm₁, s.WarmedH vm₁ → Pre ⟨T.setVm vm₁, locs, cells, slots⟩ argsL.toArray) :
    (∃ (v : Option Value) (vm₁ : Vm) (B : Pt), s.WarmedH vm₁ ∧ Stand p l e R s m args below meth c B.U B.locs B.cells B.slots ∧ Post ⟨T.setVm vm₁, locs, cells, slots⟩ argsL.toArray v B ∧
      ∀ target, Steps p.tables e below (B.U.setTop { g with pc := g.pc + 3, stack := v.toList ++ rest }) target → Steps p.tables e below (T.setTop g) target) ∨
    (∃ (q : Addr) (vm₁ : Vm) (B : Pt), s.WarmedH vm₁ ∧ Stand p l e R s m args below meth c B.U B.locs B.cells B.slots ∧ PostX ⟨T.setVm vm₁, locs, cells, slots⟩ argsL.toArray q B ∧
      Steps p.tables e below (T.setTop g) ((B.U.setTop { g with stack := rest }).pushFrame (.throwing q))) := by
  obtain ⟨mk, hnamed⟩ := Cond.code_named hcode
  obtain ⟨methM, cM, hmethM, -, -, -, -, -, -, hsigM⟩ := Cond.code_spec hnamed hcode
  have hstatic : methM.isStatic = true := Cond.static_spec hnamed hmethM hstat
  obtain ⟨kP, hkP, -⟩ := className_of_methodNamed hnamed
  have hinitP : kP.init = .initialized := Cond.initialized_spec (findClass_of_methodNamed hnamed) hkP hinit
  obtain ⟨vm₁, X₁, hstep₁⟩ := X.invokestatic hexec hown hlink hnamed hmethM hstatic hkP hinitP hy (g := g) hg (argsL := argsL) (rest := rest) (hlen _ hsigM) hstack hdg
  rcases hK m meth c ⟨T.setVm vm₁, locs, cells, slots⟩ { g with stack := rest } (.invokestatic index) mk argsL.toArray X₁ hg hsize hdg hW (X₁.named hnamed) (hpre vm₁ X₁.warmed) with ⟨v, B, X', hpost, hsteps⟩ | ⟨q, B, X', hpost, hsteps⟩
  · exact Or.inl ⟨v, vm₁, B, X₁.warmed, X', hpost, fun target h => hstep₁ _ fun acts => by rw [doInvoke_state]; exact hsteps.trans h⟩
  · exact Or.inr ⟨q, vm₁, B, X₁.warmed, X', hpost, hstep₁ _ fun acts => by rw [doInvoke_state]; exact hsteps⟩
end Calls
theorem vx_cls {s : State} {T : State} {vm₁ : Vm} {E : String} {k : ClassId} (hW : s.WarmedH vm₁) (h : (T.setVm vm₁).vm.findClass E = some k) : s.vm.findClass E = some k := by
  have h1 : vm₁.findClass E = some k := h
  rw [hW.alike.findClass] at h1
  exact h1
/-- the method's frame g, with q thrown over it -/
def vx_W (p : Program) (l : Launch) (e : Env) (R : Room) (s : State) (m : MethodId) (args : Array Value) (below : List Frame) (meth : Method) (c : Code) (H : Heap) (locs : List Loc) (cells slots : Nat) (Q : State → Prop) (g : JFrame) (q : Addr) : Prop :=
  ∀ T : State, T.heap = H → Stand p l e R s m args below meth c T locs cells slots → ∃ t, Steps p.tables e below ((T.setTop g).pushFrame (.throwing q)) t ∧ Q t
def vx_Run (p : Program) (l : Launch) (e : Env) (R : Room) (s : State) (m : MethodId) (args : Array Value) (below : List Frame) (meth : Method) (c : Code) (H : Heap) (locs : List Loc) (cells slots mc ms : Nat) (g : JFrame) (rest : List Value) (Qa : State → Outcome → State → Prop) (XC : String → State → State → Prop) (free : Addr → Prop) : Prop :=
  ∀ T : State, T.heap = H → Stand p l e R s m args below meth c T locs cells slots →
    (∃ (v : Option Value) (st₀ t T' : State) (L : List Loc), st₀.heap = H ∧ Stand p l e R s m args below meth c T' (locs ++ L) (cells + mc) (slots + ms) ∧ (∀ q ∈ L, free q.base) ∧ T'.heap = t.heap ∧ T'.vm = t.vm ∧ Qa st₀ (.returned v) t ∧
      Goes p e below T g T' { g with pc := g.pc + 3, stack := v.toList ++ rest }) ∨
    (∃ (q : Addr) (st₀ t T' : State) (L : List Loc) (E : String) (ce : Cell), st₀.heap = H ∧ Stand p l e R s m args below meth c T' (locs ++ L) (cells + mc) (slots + ms) ∧ (∀ z ∈ L, free z.base) ∧ T'.heap = t.heap ∧ T'.vm = t.vm ∧ XC E st₀ t ∧ t.heap[q]? = some ce ∧ ce.vm = .none ∧ s.vm.findClass E = some ce.cls ∧
      Steps p.tables e below (T.setTop g) ((T'.setTop { g with stack := rest }).pushFrame (.throwing q)))
def vx_X {S : Type} (px : S → Prop) (B : String → S → State → Prop) (A : Nat → Prop) : String → State → State → Prop := fun E st t => ∃ u : S, px u ∧ B E u t ∧ va_F A st t
section Runs
variable {p : Program} {l : Launch} {e : Env} {R : Room} {s : State} {m : MethodId} {args : Array Value} {below : List Frame} {meth : Method} {c : Code} {H : Heap} {locs : List Loc} {cells slots : Nat}
variable {y : MethodName} {bytes cc : ByteArray} {maxL nL mc ms n index : Nat} {ret : Option FieldType} {ws : List Cond} {rm : Room} {Pc : Array Value → State → Prop} {Qc : Array Value → State → Outcome → State → Prop} {XC : String → State → State → Prop} {free : Addr → Prop} {Ts : List Cond} {own C : String} {b : Addr} {As rest : List Value} {g : JFrame}
theorem vx_callBack (cb : CallB R s args own index y bytes maxL ret ws rm mc ms n) (hM : vx_Met l y ws rm Pc Qc XC mc ms free) (hbl : FrameBlind Pc) : vx_Back l R p e below s args y 3 8 (PreOf R mc ms Pc) (PostOf Qc mc ms free) (vx_Post XC mc ms free) := by
  obtain ⟨hrc, hrs, hfr, hlo, hws, hcw, -, hini, -⟩ := cb
  exact vx_back (bytes := bytes) (maxL := maxL) (ret := ret) hM hbl hrc hrs hfr hlo hws hcw (fun a' U hW => word_at hW (Or.inl (by first | rfl | simp [Cond.onTables, Cond.keeps, Cond.steady])) hini)
theorem vx_runV (S : CallFix p m c cc nL s args Ts own) (hM : vx_Met l y ws rm Pc Qc XC mc ms free) (cw : CallW R s args own C index y bytes maxL ret ws rm mc ms n) (hp : PreV s H C b Pc As)
    (hg : g.method = m) (hn : As.length = n) (hsize : g.locals.size = nL) (hstack : g.stack = As.reverse ++ .ref b :: rest) (hW : 2 * g.monitorRoom + (rest.map fun v => v.category).sum ≤ 8) (hdg : decode cc g.pc = .ok (.invokevirtual index, 3)) (hf : cells + mc ≤ R.cells ∧ slots + ms ≤ R.slots) :
    vx_Run p l e R s m args below meth c H locs cells slots mc ms g rest (Qc (Value.ref b :: As).toArray) XC free := by
  have hK : vx_Back l R p e below s args y 3 8 (PreOf R mc ms Pc) (PostOf Qc mc ms free) (vx_Post XC mc ms free) := vx_callBack cw.1 hM hp.1
  obtain ⟨⟨-, -, -, -, -, -, hcode, -, hy, hlen, hl⟩, hin, hse⟩ := cw
  obtain ⟨hx, hb, hml, ho, -⟩ := S
  obtain ⟨-, ⟨cellB, hcB, hoB, hclB⟩, hPc⟩ := hp
  intro T hT X
  rcases vx_callV X hx (C := C) (bytes := bytes) (maxL := maxL) (ret := ret) ho hl hin hse hcode hy hK (by rw [hT]; exact hcB) hoB hclB hg (hsize.trans hml.symm) (argsL := As) (rest := rest) (fun sig h => hn.trans (hlen sig h)) hstack hW (by rw [hb]; exact hdg)
    (fun vm₁ hW₁ => ⟨hf.1, hf.2, hPc (T.setVm vm₁) hT hW₁⟩) with ⟨v, vm₁, ⟨U', l2, c2, s2⟩, hW₁, X', ⟨g', mk, t, L, e1, e2, hq, h1, hL, h2, h3⟩, st⟩ | ⟨q, vm₁, ⟨U', l2, c2, s2⟩, hW₁, X', ⟨g', mk, t, L, E, ce, e1, e2, hq, hce, hcv, hcl, h1, hL, h2, h3⟩, st⟩
  · dsimp only [Pt.U, Pt.locs, Pt.cells, Pt.slots] at X' e1 e2 h1 h2 h3 st
    subst h1; subst h2; subst h3
    exact Or.inl ⟨v, (T.setVm vm₁).calling g' mk (Value.ref b :: As).toArray, t, U', L, hT, X', hL, e1, e2, hq, st⟩
  · dsimp only [Pt.U, Pt.locs, Pt.cells, Pt.slots] at X' e1 e2 h1 h2 h3 st hcl
    subst h1; subst h2; subst h3
    exact Or.inr ⟨q, (T.setVm vm₁).calling g' mk (Value.ref b :: As).toArray, t, U', L, E, ce, hT, X', hL, e1, e2, hq, hce, hcv, vx_cls hW₁ hcl, st⟩
theorem vx_runS (S : CallFix p m c cc nL s args Ts own) (hM : vx_Met l y ws rm Pc Qc XC mc ms free) (cw : CallB R s args own index y bytes maxL ret ws rm mc ms n ∧ (Cond.static y).before args s = true) (hp : PreS s H Pc As)
    (hg : g.method = m) (hn : As.length = n) (hsize : g.locals.size = nL) (hstack : g.stack = As.reverse ++ rest) (hW : 2 * g.monitorRoom + (rest.map fun v => v.category).sum ≤ 8) (hdg : decode cc g.pc = .ok (.invokestatic index, 3)) (hf : cells + mc ≤ R.cells ∧ slots + ms ≤ R.slots) :
    vx_Run p l e R s m args below meth c H locs cells slots mc ms g rest (Qc As.toArray) XC free := by
  have hK : vx_Back l R p e below s args y 3 8 (PreOf R mc ms Pc) (PostOf Qc mc ms free) (vx_Post XC mc ms free) := vx_callBack cw.1 hM hp.1
  obtain ⟨⟨-, -, -, -, -, -, hcode, hini, hy, hlen, hl⟩, hstt⟩ := cw
  obtain ⟨hx, hb, hml, ho, -⟩ := S
  intro T hT X
  rcases vx_callS X hx (bytes := bytes) (maxL := maxL) (ret := ret) ho hl hstt hini hcode hy hK hg (hsize.trans hml.symm) (argsL := As) (rest := rest) (fun sig h => hn.trans (hlen sig h)) hstack hW (by rw [hb]; exact hdg)
    (fun vm₁ hW₁ => ⟨hf.1, hf.2, hp.2 (T.setVm vm₁) hT hW₁⟩) with ⟨v, vm₁, ⟨U', l2, c2, s2⟩, hW₁, X', ⟨g', mk, t, L, e1, e2, hq, h1, hL, h2, h3⟩, st⟩ | ⟨q, vm₁, ⟨U', l2, c2, s2⟩, hW₁, X', ⟨g', mk, t, L, E, ce, e1, e2, hq, hce, hcv, hcl, h1, hL, h2, h3⟩, st⟩
  · dsimp only [Pt.U, Pt.locs, Pt.cells, Pt.slots] at X' e1 e2 h1 h2 h3 st
    subst h1; subst h2; subst h3
    exact Or.inl ⟨v, (T.setVm vm₁).calling g' mk As.toArray, t, U', L, hT, X', hL, e1, e2, hq, st⟩
  · dsimp only [Pt.U, Pt.locs, Pt.cells, Pt.slots] at X' e1 e2 h1 h2 h3 st hcl
    subst h1; subst h2; subst h3
    exact Or.inr ⟨q, (T.setVm vm₁).calling g' mk As.toArray, t, U', L, E, ce, hT, X', hL, e1, e2, hq, hce, hcv, vx_cls hW₁ hcl, st⟩
end Runs
section Rows
variable {p : Program} {l : Launch} {e : Env} {R : Room} {s : State} {m : MethodId} {args : Array Value} {below : List Frame} {meth : Method} {c : Code} {H : Heap} {locs : List Loc} {cells slots : Nat} {Q : State → Prop}
variable {mc ms : Nat} {free : Addr → Prop} {A0 A1 : Nat → Prop} {H0 : Heap} {a : Array Value} {pc : Nat} {ls : Array Slot} {st0 rest : List Value}
theorem vx_keep {st₀ t T' : State} {L : List Loc} (h0 : st₀.heap = H) (e1 : T'.heap = t.heap) (hS : va_S A0 H0 H locs) (hA : ∀ q, q < H.size → A1 q → A0 q) (hf : ∀ q, free q → A0 q) (hL : ∀ q ∈ L, free q.base) (hF : va_F A1 st₀ t) :
    H.size ≤ T'.heap.size ∧ (∀ q : Nat, q < H.size → ¬ A1 q → T'.heap[q]? = H[q]?) ∧ va_S A0 H0 T'.heap (locs ++ L) := by
  obtain ⟨hz, hk⟩ := hF
  rw [h0] at hz hk
  exact ⟨by rw [e1]; exact hz, fun q h1 h2 => by rw [e1]; exact hk q h1 h2,
    ⟨Nat.le_trans hS.1 (by rw [e1]; exact hz), fun q h1 h2 => by rw [e1, hk q (Nat.lt_of_lt_of_le h1 hS.1) (fun z => h2 (hA q (Nat.lt_of_lt_of_le h1 hS.1) z))]; exact hS.2.1 q h1 h2, fun q hq => by
      rcases List.mem_append.mp hq with h | h
      · exact hS.2.2 q h
      · exact hf _ (hL q h)⟩⟩
theorem vx_calli {S SX : Type} {post : Int32 → S → Prop} {px : SX → Prop} {B : S → State → Prop} {BX : String → SX → State → Prop} {AX : Nat → Prop} (hr : vx_Run p l e R s m args below meth c H locs cells slots mc ms (F0 m pc ls st0) rest (va_Qi post B A1 a) (vx_X px BX AX) free) (hS : va_S A0 H0 H locs) (hA : ∀ q, q < H.size → A1 q → A0 q) (hf : ∀ q, free q → A0 q) (hAX : ∀ q, q < H.size → AX q → A0 q)
    (kx : ∀ (E : String) (ce : Cell) (q9 : Addr) (u : SX) (t : State) (H1 : Heap) (locs1 : List Loc), t.heap = H1 → s.vm.Alike t.vm → px u → BX E u t → H.size ≤ H1.size → (∀ q : Nat, q < H.size → ¬ AX q → H1[q]? = H[q]?) → va_S A0 H0 H1 locs1 → H1[q9]? = some ce → ce.vm = .none → s.vm.findClass E = some ce.cls → vx_W p l e R s m args below meth c H1 locs1 (cells + mc) (slots + ms) Q (F0 m pc ls rest) q9)
    (kk : ∀ (r : Int32) (u : S) (t : State) (H1 : Heap) (locs1 : List Loc), t.heap = H1 → s.vm.Alike t.vm → post r u → B u t → H.size ≤ H1.size → (∀ q : Nat, q < H.size → ¬ A1 q → H1[q]? = H[q]?) → va_S A0 H0 H1 locs1 → W p l e R s m args below meth c H1 locs1 (cells + mc) (slots + ms) Q (F0 m (pc + 3) ls (.int r :: rest))) : W p l e R s m args below meth c H locs cells slots Q (F0 m pc ls st0) := by
  intro T hT X
  rcases hr T hT X with ⟨v, st₀, t, T', L, h0, X', hL, e1, e2, ⟨⟨r, u, hv, hp, hb⟩, hF⟩, st⟩ | ⟨q, st₀, t, T', L, E, ce, h0, X', hL, e1, e2, ⟨u, hp, hb, hF⟩, hce, hcv, hcl, st⟩
  · cases hv
    obtain ⟨k1, k2, k3⟩ := vx_keep h0 e1 hS hA hf hL hF
    obtain ⟨t2, a1, b1⟩ := kk r u t T'.heap (locs ++ L) e1.symm (by rw [← e2]; exact X'.warmed.alike) hp hb k1 k2 k3 T' rfl X'
    exact ⟨t2, st t2 a1, b1⟩
  · obtain ⟨k1, k2, k3⟩ := vx_keep h0 e1 hS hAX hf hL hF
    obtain ⟨t2, a1, b1⟩ := kx E ce q u t T'.heap (locs ++ L) e1.symm (by rw [← e2]; exact X'.warmed.alike) hp hb k1 k2 k3 (by rw [e1]; exact hce) hcv hcl T' rfl X'
    exact ⟨t2, st.trans a1, b1⟩
theorem vx_calll {S SX : Type} {post : Int64 → S → Prop} {px : SX → Prop} {B : S → State → Prop} {BX : String → SX → State → Prop} {AX : Nat → Prop} (hr : vx_Run p l e R s m args below meth c H locs cells slots mc ms (F0 m pc ls st0) rest (va_Ql post B A1 a) (vx_X px BX AX) free) (hS : va_S A0 H0 H locs) (hA : ∀ q, q < H.size → A1 q → A0 q) (hf : ∀ q, free q → A0 q) (hAX : ∀ q, q < H.size → AX q → A0 q)
    (kx : ∀ (E : String) (ce : Cell) (q9 : Addr) (u : SX) (t : State) (H1 : Heap) (locs1 : List Loc), t.heap = H1 → s.vm.Alike t.vm → px u → BX E u t → H.size ≤ H1.size → (∀ q : Nat, q < H.size → ¬ AX q → H1[q]? = H[q]?) → va_S A0 H0 H1 locs1 → H1[q9]? = some ce → ce.vm = .none → s.vm.findClass E = some ce.cls → vx_W p l e R s m args below meth c H1 locs1 (cells + mc) (slots + ms) Q (F0 m pc ls rest) q9)
    (kk : ∀ (r : Int64) (u : S) (t : State) (H1 : Heap) (locs1 : List Loc), t.heap = H1 → s.vm.Alike t.vm → post r u → B u t → H.size ≤ H1.size → (∀ q : Nat, q < H.size → ¬ A1 q → H1[q]? = H[q]?) → va_S A0 H0 H1 locs1 → W p l e R s m args below meth c H1 locs1 (cells + mc) (slots + ms) Q (F0 m (pc + 3) ls (.long r :: rest))) : W p l e R s m args below meth c H locs cells slots Q (F0 m pc ls st0) := by
  intro T hT X
  rcases hr T hT X with ⟨v, st₀, t, T', L, h0, X', hL, e1, e2, ⟨⟨r, u, hv, hp, hb⟩, hF⟩, st⟩ | ⟨q, st₀, t, T', L, E, ce, h0, X', hL, e1, e2, ⟨u, hp, hb, hF⟩, hce, hcv, hcl, st⟩
  · cases hv
    obtain ⟨k1, k2, k3⟩ := vx_keep h0 e1 hS hA hf hL hF
    obtain ⟨t2, a1, b1⟩ := kk r u t T'.heap (locs ++ L) e1.symm (by rw [← e2]; exact X'.warmed.alike) hp hb k1 k2 k3 T' rfl X'
    exact ⟨t2, st t2 a1, b1⟩
  · obtain ⟨k1, k2, k3⟩ := vx_keep h0 e1 hS hAX hf hL hF
    obtain ⟨t2, a1, b1⟩ := kx E ce q u t T'.heap (locs ++ L) e1.symm (by rw [← e2]; exact X'.warmed.alike) hp hb k1 k2 k3 (by rw [e1]; exact hce) hcv hcl T' rfl X'
    exact ⟨t2, st.trans a1, b1⟩
theorem vx_callf {S SX : Type} {post : UInt32 → S → Prop} {px : SX → Prop} {B : S → State → Prop} {BX : String → SX → State → Prop} {AX : Nat → Prop} (hr : vx_Run p l e R s m args below meth c H locs cells slots mc ms (F0 m pc ls st0) rest (va_Qf post B A1 a) (vx_X px BX AX) free) (hS : va_S A0 H0 H locs) (hA : ∀ q, q < H.size → A1 q → A0 q) (hf : ∀ q, free q → A0 q) (hAX : ∀ q, q < H.size → AX q → A0 q)
    (kx : ∀ (E : String) (ce : Cell) (q9 : Addr) (u : SX) (t : State) (H1 : Heap) (locs1 : List Loc), t.heap = H1 → s.vm.Alike t.vm → px u → BX E u t → H.size ≤ H1.size → (∀ q : Nat, q < H.size → ¬ AX q → H1[q]? = H[q]?) → va_S A0 H0 H1 locs1 → H1[q9]? = some ce → ce.vm = .none → s.vm.findClass E = some ce.cls → vx_W p l e R s m args below meth c H1 locs1 (cells + mc) (slots + ms) Q (F0 m pc ls rest) q9)
    (kk : ∀ (r : UInt32) (u : S) (t : State) (H1 : Heap) (locs1 : List Loc), t.heap = H1 → s.vm.Alike t.vm → post r u → B u t → H.size ≤ H1.size → (∀ q : Nat, q < H.size → ¬ A1 q → H1[q]? = H[q]?) → va_S A0 H0 H1 locs1 → W p l e R s m args below meth c H1 locs1 (cells + mc) (slots + ms) Q (F0 m (pc + 3) ls (.float r :: rest))) : W p l e R s m args below meth c H locs cells slots Q (F0 m pc ls st0) := by
  intro T hT X
  rcases hr T hT X with ⟨v, st₀, t, T', L, h0, X', hL, e1, e2, ⟨⟨r, u, hv, hp, hb⟩, hF⟩, st⟩ | ⟨q, st₀, t, T', L, E, ce, h0, X', hL, e1, e2, ⟨u, hp, hb, hF⟩, hce, hcv, hcl, st⟩
  · cases hv
    obtain ⟨k1, k2, k3⟩ := vx_keep h0 e1 hS hA hf hL hF
    obtain ⟨t2, a1, b1⟩ := kk r u t T'.heap (locs ++ L) e1.symm (by rw [← e2]; exact X'.warmed.alike) hp hb k1 k2 k3 T' rfl X'
    exact ⟨t2, st t2 a1, b1⟩
  · obtain ⟨k1, k2, k3⟩ := vx_keep h0 e1 hS hAX hf hL hF
    obtain ⟨t2, a1, b1⟩ := kx E ce q u t T'.heap (locs ++ L) e1.symm (by rw [← e2]; exact X'.warmed.alike) hp hb k1 k2 k3 (by rw [e1]; exact hce) hcv hcl T' rfl X'
    exact ⟨t2, st.trans a1, b1⟩
theorem vx_calld {S SX : Type} {post : UInt64 → S → Prop} {px : SX → Prop} {B : S → State → Prop} {BX : String → SX → State → Prop} {AX : Nat → Prop} (hr : vx_Run p l e R s m args below meth c H locs cells slots mc ms (F0 m pc ls st0) rest (va_Qd post B A1 a) (vx_X px BX AX) free) (hS : va_S A0 H0 H locs) (hA : ∀ q, q < H.size → A1 q → A0 q) (hf : ∀ q, free q → A0 q) (hAX : ∀ q, q < H.size → AX q → A0 q)
    (kx : ∀ (E : String) (ce : Cell) (q9 : Addr) (u : SX) (t : State) (H1 : Heap) (locs1 : List Loc), t.heap = H1 → s.vm.Alike t.vm → px u → BX E u t → H.size ≤ H1.size → (∀ q : Nat, q < H.size → ¬ AX q → H1[q]? = H[q]?) → va_S A0 H0 H1 locs1 → H1[q9]? = some ce → ce.vm = .none → s.vm.findClass E = some ce.cls → vx_W p l e R s m args below meth c H1 locs1 (cells + mc) (slots + ms) Q (F0 m pc ls rest) q9)
    (kk : ∀ (r : UInt64) (u : S) (t : State) (H1 : Heap) (locs1 : List Loc), t.heap = H1 → s.vm.Alike t.vm → post r u → B u t → H.size ≤ H1.size → (∀ q : Nat, q < H.size → ¬ A1 q → H1[q]? = H[q]?) → va_S A0 H0 H1 locs1 → W p l e R s m args below meth c H1 locs1 (cells + mc) (slots + ms) Q (F0 m (pc + 3) ls (.double r :: rest))) : W p l e R s m args below meth c H locs cells slots Q (F0 m pc ls st0) := by
  intro T hT X
  rcases hr T hT X with ⟨v, st₀, t, T', L, h0, X', hL, e1, e2, ⟨⟨r, u, hv, hp, hb⟩, hF⟩, st⟩ | ⟨q, st₀, t, T', L, E, ce, h0, X', hL, e1, e2, ⟨u, hp, hb, hF⟩, hce, hcv, hcl, st⟩
  · cases hv
    obtain ⟨k1, k2, k3⟩ := vx_keep h0 e1 hS hA hf hL hF
    obtain ⟨t2, a1, b1⟩ := kk r u t T'.heap (locs ++ L) e1.symm (by rw [← e2]; exact X'.warmed.alike) hp hb k1 k2 k3 T' rfl X'
    exact ⟨t2, st t2 a1, b1⟩
  · obtain ⟨k1, k2, k3⟩ := vx_keep h0 e1 hS hAX hf hL hF
    obtain ⟨t2, a1, b1⟩ := kx E ce q u t T'.heap (locs ++ L) e1.symm (by rw [← e2]; exact X'.warmed.alike) hp hb k1 k2 k3 (by rw [e1]; exact hce) hcv hcl T' rfl X'
    exact ⟨t2, st.trans a1, b1⟩
theorem vx_callv {S SX : Type} {post : S → Prop} {px : SX → Prop} {B : S → State → Prop} {BX : String → SX → State → Prop} {AX : Nat → Prop} (hr : vx_Run p l e R s m args below meth c H locs cells slots mc ms (F0 m pc ls st0) rest (va_Qv post B A1 a) (vx_X px BX AX) free) (hS : va_S A0 H0 H locs) (hA : ∀ q, q < H.size → A1 q → A0 q) (hf : ∀ q, free q → A0 q) (hAX : ∀ q, q < H.size → AX q → A0 q)
    (kx : ∀ (E : String) (ce : Cell) (q9 : Addr) (u : SX) (t : State) (H1 : Heap) (locs1 : List Loc), t.heap = H1 → s.vm.Alike t.vm → px u → BX E u t → H.size ≤ H1.size → (∀ q : Nat, q < H.size → ¬ AX q → H1[q]? = H[q]?) → va_S A0 H0 H1 locs1 → H1[q9]? = some ce → ce.vm = .none → s.vm.findClass E = some ce.cls → vx_W p l e R s m args below meth c H1 locs1 (cells + mc) (slots + ms) Q (F0 m pc ls rest) q9)
    (kk : ∀ (u : S) (t : State) (H1 : Heap) (locs1 : List Loc), t.heap = H1 → s.vm.Alike t.vm → post u → B u t → H.size ≤ H1.size → (∀ q : Nat, q < H.size → ¬ A1 q → H1[q]? = H[q]?) → va_S A0 H0 H1 locs1 → W p l e R s m args below meth c H1 locs1 (cells + mc) (slots + ms) Q (F0 m (pc + 3) ls (rest))) : W p l e R s m args below meth c H locs cells slots Q (F0 m pc ls st0) := by
  intro T hT X
  rcases hr T hT X with ⟨v, st₀, t, T', L, h0, X', hL, e1, e2, ⟨⟨u, hv, hp, hb⟩, hF⟩, st⟩ | ⟨q, st₀, t, T', L, E, ce, h0, X', hL, e1, e2, ⟨u, hp, hb, hF⟩, hce, hcv, hcl, st⟩
  · cases hv
    obtain ⟨k1, k2, k3⟩ := vx_keep h0 e1 hS hA hf hL hF
    obtain ⟨t2, a1, b1⟩ := kk u t T'.heap (locs ++ L) e1.symm (by rw [← e2]; exact X'.warmed.alike) hp hb k1 k2 k3 T' rfl X'
    exact ⟨t2, st t2 a1, b1⟩
  · obtain ⟨k1, k2, k3⟩ := vx_keep h0 e1 hS hAX hf hL hF
    obtain ⟨t2, a1, b1⟩ := kx E ce q u t T'.heap (locs ++ L) e1.symm (by rw [← e2]; exact X'.warmed.alike) hp hb k1 k2 k3 (by rw [e1]; exact hce) hcv hcl T' rfl X'
    exact ⟨t2, st.trans a1, b1⟩
/-- caught by the row x of this method's table; the rows ahead don't take it -/
theorem vx_catch {own name : String} {E : String} {ce : Cell} {q : Addr} (hown : s.vm.findClass own = some m.cls) (pre : List ExceptionTableEntry) (x : ExceptionTableEntry) (suf : List ExceptionTableEntry) (hsplit : c.exceptionTable.toList = pre ++ x :: suf)
    (hpass : ∀ z ∈ pre, covers z pc = false ∨ (z.catchType ≠ 0 ∧ ∃ nm : String, (Cond.classLink own z.catchType nm).before args s = true ∧ va_Nc E nm s)) (hx : covers x pc = true) (h0 : x.catchType ≠ 0)
    (hlink : (Cond.classLink own x.catchType name).before args s = true) (hcast : (Cond.castable E name).before args s = true) (hcell : H[q]? = some ce) (hv : ce.vm = .none) (hcl : s.vm.findClass E = some ce.cls)
    (kk : W p l e R s m args below meth c H locs cells slots Q (F0 m x.handlerPc ls [.ref q])) : vx_W p l e R s m args below meth c H locs cells slots Q (F0 m pc ls rest) q := by
  intro T hT X
  have hpl : e.platform.magicAccessors = ({} : Platform).magicAccessors := by rw [X.admits.platform]
  obtain ⟨c3, c4, hc3, hc4, hasg⟩ := Cond.castable_spec hcast
  cases Option.some.inj (hc3.symm.trans hcl)
  obtain ⟨c5, hc5, hcl5⟩ := Cond.classLink_spec hown hlink e.platform hpl
  cases Option.some.inj (hc4.symm.trans hc5)
  obtain ⟨vm', X', st⟩ := X.thenCaughtThrough q (g := F0 m pc ls rest) rfl (Steps.refl _) (by rw [hT]; exact hcell) (by rw [hv]; rfl) (by obtain ⟨k9, h9, -⟩ := Vm.findClass_spec hcl; exact ⟨k9, h9⟩) pre x suf hsplit
    (fun z hz => by
      rcases hpass z hz with h | ⟨hz0, nm, hl1, hn1⟩
      · exact Or.inl h
      · obtain ⟨c6, hc6, hcl6⟩ := Cond.classLink_spec hown hl1 e.platform hpl
        obtain ⟨a8, b8, h1, h2, h3⟩ := hn1
        cases Option.some.inj (h1.symm.trans hcl)
        cases Option.some.inj (h2.symm.trans hc6)
        exact Or.inr ⟨hz0, _, hcl6, h3⟩) hx (Or.inr ⟨h0, c4, hcl5, hasg⟩)
  obtain ⟨t, a1, b1⟩ := kk (T.setVm vm') hT X'
  exact ⟨t, st.trans a1, b1⟩
end Rows
section Ends
variable {p : Program} {l : Launch} {e : Env} {R : Room} {s : State} {m : MethodId} {args : Array Value} {below : List Frame} {meth : Method} {c : Code} {H : Heap} {locs : List Loc} {cells slots : Nat} {Q : State → Prop}
variable {mc ms : Nat} {free : Addr → Prop} {A0 A1 : Nat → Prop} {H0 : Heap} {a : Array Value} {ls : Array Slot} {st0 rest : List Value}
variable {Qc : Array Value → State → Outcome → State → Prop} {XC : String → State → State → Prop}
/-- what a body that may throw owes at its end -/
def vx_MQ (below : List Frame) (Qc : Array Value → State → Outcome → State → Prop) (XC : String → State → State → Prop) (a : Array Value) (s : State) (mc ms : Nat) (free : Addr → Prop) : State → Prop := fun t =>
  ∃ o, t.status = .running ∧ Ended t below o ∧ vx_Q Qc XC mc ms free a s o t
theorem vx_ret {g : JFrame} {mc ms : Nat} (k : W p l e R s m args below meth c H locs cells slots (MQ below Qc args s mc ms free) g) : W p l e R s m args below meth c H locs cells slots (vx_MQ below Qc XC args s mc ms free) g := by
  intro T hT X
  obtain ⟨t, a1, o, b1, b2, b3, b4⟩ := k T hT X
  exact ⟨t, a1, o, b1, b2, Or.inl ⟨b3, b4⟩⟩
/-- not caught here: it goes on to the caller -/
theorem vx_widen {g : JFrame} {q : Addr} {k n : Nat} (h1 : cells ≤ k) (h2 : slots ≤ n) (kk : vx_W p l e R s m args below meth c H locs k n Q g q) : vx_W p l e R s m args below meth c H locs cells slots Q g q := fun T hT X => kk T hT (stand_widen X h1 h2)
theorem vx_out {pc : Nat} {E : String} {ce : Cell} {q : Addr} {mc ms : Nat} (hout : ∀ x ∈ c.exceptionTable.toList, covers x pc = false) (hlocks : meth.locks = false) (hcell : H[q]? = some ce) (hv : ce.vm = .none) (hcl : s.vm.findClass E = some ce.cls)
    (hx : ∀ t : State, t.heap = H → s.vm.Alike t.vm → XC E s t) (hf : ∀ z ∈ locs, free z.base) (hc : cells ≤ mc) (hs : slots ≤ ms) :
    vx_W p l e R s m args below meth c H locs cells slots (vx_MQ below Qc XC args s mc ms free) (F0 m pc ls rest) q := by
  intro T hT X
  obtain ⟨st1, hrun, hend, hW, hsm⟩ := X.leaveThrown q (g := F0 m pc ls rest) rfl rfl rfl hout hlocks
  have hcell9 : (T.setFrames (.throwing q :: below)).heap[q]? = some ce := by
    show T.heap[q]? = some ce
    rw [hT]; exact hcell
  exact ⟨_, st1, .threw q, hrun, hend, Or.inr ⟨q, rfl, E, ce, locs, hx _ hT hW.alike, hcell9, hv, hcl, hW, hsm.mono hc hs, hf⟩⟩
theorem vx_frame {U : State} {k n : Nat} (h : s.sameButNew ({ U with vm := s.vm } : State) locs k n) : s.heap.size ≤ U.heap.size ∧ ∀ q : Nat, q < s.heap.size → (∀ z ∈ locs, z.base ≠ q) → U.heap[q]? = s.heap[q]? := by
  obtain ⟨-, h2, -, -, -, h6⟩ := h
  refine ⟨h2, fun q hq hz => ?_⟩
  obtain ⟨c9, e1, e2, e3, e4⟩ := h6 q _ (Array.getElem?_eq_getElem hq)
  have hs : c9.slots = (s.heap[q]).slots := Array.ext_getElem? fun i => e4 i fun hm => hz _ hm rfl
  have h9 : c9 = s.heap[q] := by
    rw [hs] at e2
    exact e2
  have e5 : U.heap[q]? = some c9 := e1
  rw [e5, h9, Array.getElem?_eq_getElem hq]
/-- the words of a throw but the four that speak of the heap -/
def vx_no (w : Cond) : Bool := decide (w ≠ .isRef (.static Bundle.tN "UNASSIGNED_STACK" Bundle.steD)) && decide (w ≠ .isRef (.static Bundle.tN "SUPPRESSED_SENTINEL" Bundle.listD)) && decide (w ≠ .laysStatic Bundle.tN "UNASSIGNED_STACK" Bundle.steD) && decide (w ≠ .laysStatic Bundle.tN "SUPPRESSED_SENTINEL" Bundle.listD)
def vx_at0 (own : String) (ic : Nat) (X : String) (names : List String) : List Cond := (Bundle.ownAtoms0 own ic X names).filter vx_no
def vx_atS (own : String) (ic : Nat) (X : String) (names : List String) : List Cond := (Bundle.ownAtoms own ic X names).filter vx_no
/-- a word that the tables alone decide, or a good one -/
def vx_ot (w : Cond) : Bool := w.onTables || goodWord w
theorem vx_ot_at {args a' : Array Value} {s U : State} {w : Cond} (hW : s.WarmedH U.vm) (hvm : s.vm = U.vm) (hg : vx_ot w = true) (h : w.before args s = true) : w.before a' U = true := by
  simp only [vx_ot, Bool.or_eq_true] at hg
  rcases hg with hg | hg
  · exact va_tabs hg hvm h
  · exact word_at hW (good_of_word hg) h
/-- a list's words: the good ones out of the method's own list, the others by premises of their own -/
theorem vx_hat {args : Array Value} {s : State} {L B : List Cond} (h1 : ∀ w ∈ L.filter goodWord, w.before args s = true) (h2 : ∀ w ∈ L.filter (fun w => !goodWord w), w ∈ B) (h3 : ∀ w ∈ B, w.before args s = true) : ∀ w ∈ L, w.before args s = true := by
  intro w hw
  by_cases g : goodWord w = true
  · exact h1 w (List.mem_filter.mpr ⟨hw, g⟩)
  · refine h3 w (h2 w (List.mem_filter.mpr ⟨hw, ?_⟩))
    show (!goodWord w) = true
    cases hgw : goodWord w
    · rfl
    · exact absurd hgw g
theorem vx_c {args : Array Value} {s : State} {w : Cond} {B : List Cond} (h : w.before args s = true) (t : ∀ w ∈ B, w.before args s = true) : ∀ w' ∈ w :: B, w'.before args s = true := fun w' h' => (List.mem_cons.mp h').elim (fun e => by rw [e]; exact h) (t w')
theorem vx_n {args : Array Value} {s : State} : ∀ w ∈ ([] : List Cond), w.before args s = true := fun _ h => nomatch h
theorem vx_own {args : Array Value} {s : State} {L : List Cond} (h1 : ∀ w ∈ L.filter vx_no, w.before args s = true)
    (hU : (Cond.isRef (.static Bundle.tN "UNASSIGNED_STACK" Bundle.steD)).before args s = true) (hN : (Cond.isRef (.static Bundle.tN "SUPPRESSED_SENTINEL" Bundle.listD)).before args s = true)
    (lU : (Cond.laysStatic Bundle.tN "UNASSIGNED_STACK" Bundle.steD).before args s = true) (lN : (Cond.laysStatic Bundle.tN "SUPPRESSED_SENTINEL" Bundle.listD).before args s = true) : ∀ w ∈ L, w.before args s = true := by
  intro w hw
  by_cases e1 : w = .isRef (.static Bundle.tN "UNASSIGNED_STACK" Bundle.steD)
  · rw [e1]; exact hU
  · by_cases e2 : w = .isRef (.static Bundle.tN "SUPPRESSED_SENTINEL" Bundle.listD)
    · rw [e2]; exact hN
    · by_cases e3 : w = .laysStatic Bundle.tN "UNASSIGNED_STACK" Bundle.steD
      · rw [e3]; exact lU
      · by_cases e4 : w = .laysStatic Bundle.tN "SUPPRESSED_SENTINEL" Bundle.listD
        · rw [e4]; exact lN
        · exact h1 w (List.mem_filter.mpr ⟨hw, by unfold vx_no; rw [decide_eq_true e1, decide_eq_true e2, decide_eq_true e3, decide_eq_true e4]; rfl⟩)
/-- where a static field lies, its class's statics cell in H -/
def vx_L (C n d : String) (A : Nat → Prop) (U : State) (H : Heap) : Prop := ∃ (c : ClassId) (k : Class) (i : Nat) (f : Field) (a : Nat) (cell : Cell), U.vm.findClass C = some c ∧ U.fieldFound? C n d = some (c, k, i, f) ∧ f.isStatic = true ∧ k.statics = some a ∧ H[a]? = some cell ∧ cell.vm.isStatics = true ∧ cell.cls = c ∧ f.slot < cell.slots.size ∧ k.staticTypes[f.slot]? = some f.type ∧ ¬ A a
theorem vx_L.moved {C n d : String} {A : Nat → Prop} {u U : State} {H : Heap} (hvm : u.vm.Alike U.vm) (h : vx_L C n d A u H) : vx_L C n d A U H := by
  obtain ⟨c, k, i, f, a, cell, h1, h2, h3, h4, h5, h6, h7, h8, h9, h10⟩ := h
  obtain ⟨k', hi', he⟩ := State.fieldFound?_setVm hvm h2
  exact ⟨c, k', i, f, a, cell, by rw [hvm.findClass]; exact h1, hi', h3, by rw [he]; exact h4, h5, h6, h7, h8, by rw [he]; exact h9, h10⟩
theorem vx_L.kept {C n d : String} {A : Nat → Prop} {U : State} {H H1 : Heap} (h : vx_L C n d A U H) (hq : ∀ a : Nat, a < H.size → ¬ A a → H1[a]? = H[a]?) : vx_L C n d A U H1 := by
  obtain ⟨c, k, i, f, a, cell, h1, h2, h3, h4, h5, h6, h7, h8, h9, h10⟩ := h
  exact ⟨c, k, i, f, a, cell, h1, h2, h3, h4, by rw [hq a (Array.getElem?_eq_some_iff.mp h5).1 h10]; exact h5, h6, h7, h8, h9, h10⟩
theorem vx_L.narrow {C n d : String} {A B : Nat → Prop} {U : State} {H : Heap} (h : vx_L C n d A U H) (hAB : ∀ q, B q → A q) : vx_L C n d B U H := by
  obtain ⟨c, k, i, f, a, cell, h1, h2, h3, h4, h5, h6, h7, h8, h9, h10⟩ := h
  exact ⟨c, k, i, f, a, cell, h1, h2, h3, h4, h5, h6, h7, h8, h9, fun z => h10 (hAB _ z)⟩
theorem vx_L.word {C n d : String} {A : Nat → Prop} {s : State} {args : Array Value} (h : vx_L C n d A s s.heap) : (Cond.laysStatic C n d).before args s = true := by
  obtain ⟨c, k, i, f, a, cell, h1, h2, h3, h4, h5, h6, h7, h8, h9, -⟩ := h
  show (Cond.laysStatic C n d).holds args s none s [] = true
  exact Cond.laysStatic_of h1 h2 h3 h4 h5 h6 h7 h8 h9
/-- .. and what it holds: null or some reference -/
def vx_Zq (C n d : String) (A : Nat → Prop) (U : State) (H : Heap) : Prop := va_Zq C n d A U H ∧ vx_L C n d A U H
theorem vx_Zq.moved {C n d : String} {A : Nat → Prop} {u U : State} {H : Heap} (hvm : u.vm.Alike U.vm) (h : vx_Zq C n d A u H) : vx_Zq C n d A U H := ⟨va_Zq.moved hvm h.1, vx_L.moved hvm h.2⟩
theorem vx_Zq.kept {C n d : String} {A : Nat → Prop} {U : State} {H H1 : Heap} (h : vx_Zq C n d A U H) (hq : ∀ a : Nat, a < H.size → ¬ A a → H1[a]? = H[a]?) : vx_Zq C n d A U H1 := ⟨va_Zq.kept h.1 hq, vx_L.kept h.2 hq⟩
theorem vx_Zq.narrow {C n d : String} {A B : Nat → Prop} {U : State} {H : Heap} (h : vx_Zq C n d A U H) (hAB : ∀ q, B q → A q) : vx_Zq C n d B U H := ⟨va_Zq.narrow h.1 hAB, vx_L.narrow h.2 hAB⟩
theorem vx_Zqof {args : Array Value} {s : State} {C n d : String} {A : Nat → Prop} (hl : (Cond.laysStatic C n d).before args s = true) (hini : (Cond.initialized C).before args s = true) (h : (Cond.isRef (.static C n d)).before args s = true) (hA : ∀ a : Nat, a < s.heap.size → ¬ A a) : vx_Zq C n d A s s.heap := by
  refine ⟨va_Zqof hl hini h hA, ?_⟩
  obtain ⟨c, k, i, f, a, cell, h1, h2, h3, h4, h5, h6, h7, h8, h9⟩ := Cond.laysStatic_spec hl
  exact ⟨c, k, i, f, a, cell, h1, h2, h3, h4, h5, h6, h7, h8, h9, hA a (Array.getElem?_eq_some_iff.mp h5).1⟩
theorem vx_isRef {C n d : String} {v : Value} {A : Nat → Prop} {s : State} {args : Array Value} (h : va_Z C n d v A s s.heap) (hv : v.isRef = true) : (Cond.isRef (.static C n d)).before args s = true := by
  obtain ⟨cf, kf, fi, f, a, cell, h1, h2, h3, h4, h5, h6, h7, -⟩ := h
  have he : (Term.static C n d).eval args s none [] s = some v := by
    simp [Term.eval, State.fieldNamed?, h1, h2, h4, h5, h6, h7]
  simp only [Cond.before, Cond.holds, Cond.value, he]
  cases v <;> simp_all [Value.isRef]
theorem vx_isRefq {C n d : String} {A : Nat → Prop} {s : State} {args : Array Value} (h : va_Zq C n d A s s.heap) : (Cond.isRef (.static C n d)).before args s = true := by
  rcases h with h | ⟨t, h⟩
  · exact vx_isRef h rfl
  · exact vx_isRef h rfl
/-- the same frame, seen from here: as if the method were called anew in this heap -/
theorem vx_rebase {T : State} (X : Stand p l e R s m args below meth c T locs cells slots) {R' : Room} (hf : R'.frames ≤ R.frames) (hl : R'.locals ≤ R.locals) (hc : cells + R'.cells ≤ R.cells) (hs : slots + R'.slots ≤ R.slots) :
    Stand p l e R' ((T.setVm s.vm).setFrames (.invoking m args :: below)) m args below meth c T [] 0 0 := by
  have htop : (T.setVm s.vm).topJava?.isSome := X.here.top
  have hF : ((T.setVm s.vm).setFrames (.invoking m args :: below)).frames = .invoking m args :: below := State.frames_setFrames _ (State.cur_lt_of_top htop)
  obtain ⟨g₀, hg0⟩ := Option.isSome_iff_exists.mp htop
  obtain ⟨r, hr⟩ := State.topJava?_eq_some.mp hg0
  have hl9 : e.platform.stackLimits (T.setVm s.vm).me = e.platform.stackLimits s.me := X.limits
  have hb9 : (T.setVm s.vm).me.stackBytes = s.me.stackBytes := X.bytes
  refine ⟨X.admits, X.cas, X.clock, hF, ?_, X.hears, X.method, X.code, X.here, X.tail, X.warmed, ?_, ?_, ?_⟩
  · have h := X.room
    have hU : ((T.setVm s.vm).setFrames (.invoking m args :: below)).localsInUse = s.localsInUse := by
      rw [State.localsInUse_invoking hF (meth := meth) (c := c) X.method X.code, State.localsInUse_invoking X.frames X.method X.code]
    simp only [State.hasRoom, Bool.and_eq_true, decide_eq_true_eq] at h ⊢
    obtain ⟨⟨⟨⟨h1, h2, h3, h4, h5, h6⟩, h7⟩, h8⟩, h9⟩ := h
    rw [X.frames, List.length_cons] at h2 h3
    have q1 := X.heapSize
    have q2 := X.used
    simp only [hF, hU, List.length_cons, State.stackLimits_setFrames, State.stackBytes_setFrames, hl9, hb9]
    refine ⟨⟨⟨⟨by omega, by omega, by omega, by omega, by omega, h6⟩, ?_⟩, ?_⟩, X.book⟩
    · show T.heap.size + R'.cells ≤ e.platform.maxCells
      omega
    · show T.slotsUsed + R'.slots ≤ e.platform.maxSlots
      omega
  · rw [State.stackLimits_setFrames]; rfl
  · rw [State.stackBytes_setFrames]; rfl
  · refine ⟨?_, Nat.le_refl _, Nat.le_refl _, ?_, ?_, fun a c9 h9 => ⟨c9, h9, rfl, rfl, fun _ _ => rfl⟩⟩
    · obtain ⟨t, ht, -⟩ := State.frames_cons hr
      show T.setVm s.vm = { ((T.setVm s.vm).setFrames (.invoking m args :: below)).setFrames (T.setVm s.vm).frames with heap := T.heap, slotsUsed := T.slotsUsed }
      rw [State.setFrames_setFrames, State.setFrames_self ht]
      rfl
    · show T.slotsUsed = T.slotsUsed + ((T.heap.toList.drop T.heap.size).map (·.slots.size)).sum
      rw [List.drop_eq_nil_of_le (Nat.le_of_eq Array.length_toList)]
      rfl
    · show ((T.heap.toList.drop T.heap.size).map (·.slots.size)).sum ≤ 0
      rw [List.drop_eq_nil_of_le (Nat.le_of_eq Array.length_toList)]
      exact Nat.le_refl _
/-- 'throw new E()': new; dup; invokespecial; athrow -/
theorem vx_throw0 {cc : ByteArray} {pc : Nat} (hexec : p.tables.exec = Jvm.exec) (hb : c.code = cc) (hl : l.stackTraces = false) {own cls : String} {names : List String} {ik ic mc ms : Nat} {A : Nat → Prop}
    (hown : s.vm.findClass own = some m.cls) (hcls : Bundle.fit cls = true) (hnames : ∀ n ∈ names, Bundle.fit n = true)
    (hk : (Cond.classLink own ik cls).before args s = true) (hini : (Cond.initialized cls).before args s = true) (hat : ∀ w ∈ vx_at0 own ic cls names, w.before args s = true)
    (hgood : ∀ w ∈ Cond.classLink own ik cls :: Cond.initialized cls :: vx_at0 own ic cls names, vx_ot w = true)
    (hU : vx_Zq Bundle.tN "UNASSIGNED_STACK" Bundle.steD A s s.heap) (hN : vx_Zq Bundle.tN "SUPPRESSED_SENTINEL" Bundle.listD A s s.heap) (hS : va_S A s.heap H locs) (hsize : ls.size = c.maxLocals)
    (d0 : decode cc pc = .ok (.new ik, 3)) (d3 : decode cc (pc + 3) = .ok (.dup, 1)) (d4 : decode cc (pc + 4) = .ok (.invokespecial ic, 3)) (d7 : decode cc (pc + 7) = .ok (.athrow, 1))
    (hout : ∀ x ∈ c.exceptionTable.toList, covers x (pc + 7) = false)
    (hRframes : names.length + 3 < R.frames) (hRlocals : (rest.map fun v => v.category).sum + (13 * (names.length + 1) + 42) ≤ R.locals) (hRcells : cells + 1 ≤ R.cells) (hRslots : slots + 6 ≤ R.slots) (hlocks : meth.locks = false)
    (hx : ∀ t : State, s.vm.Alike t.vm → H.size ≤ t.heap.size → (∀ q : Nat, q < H.size → t.heap[q]? = H[q]?) → XC cls s t)
    (hf : ∀ z ∈ locs, free z.base) (hc : cells + 1 ≤ mc) (hs : slots + 6 ≤ ms) :
    W p l e R s m args below meth c H locs cells slots (vx_MQ below Qc XC args s mc ms free) (F0 m pc ls rest) := by
  intro T hT X
  have htr : e.platform.stackTraces = false := (show e.platform.stackTraces = l.stackTraces by rw [X.admits.platform]).trans hl
  have Y := vx_rebase X (R' := { frames := R.frames, locals := R.locals, cells := 1, slots := 6 }) (Nat.le_refl _) (Nat.le_refl _) hRcells hRslots
  obtain ⟨s', hA⟩ : ∃ z, z = (T.setVm s.vm).setFrames (.invoking m args :: below) := ⟨_, rfl⟩
  rw [← hA] at Y
  have hvm : s'.vm = s.vm := by rw [hA]; rfl
  have hhp : s'.heap = H := by rw [hA]; exact hT
  have hW0 : s.WarmedH s'.vm := by rw [hvm]; exact State.WarmedH.refl s
  have hat' : ∀ w ∈ vx_at0 own ic cls names, w.before args s' = true := fun w hw => vx_ot_at hW0 hvm.symm (hgood w (List.mem_cons_of_mem _ (List.mem_cons_of_mem _ hw))) (hat w hw)
  have hk' : (Cond.classLink own ik cls).before args s' = true := vx_ot_at hW0 hvm.symm (hgood _ List.mem_cons_self) hk
  have hini' : (Cond.initialized cls).before args s' = true := vx_ot_at hW0 hvm.symm (hgood _ (List.mem_cons_of_mem _ List.mem_cons_self)) hini
  have hU' : vx_Zq Bundle.tN "UNASSIGNED_STACK" Bundle.steD A s' s'.heap := by rw [hhp]; exact vx_Zq.moved hW0.alike (hU.kept hS.2.1)
  have hN' : vx_Zq Bundle.tN "SUPPRESSED_SENTINEL" Bundle.listD A s' s'.heap := by rw [hhp]; exact vx_Zq.moved hW0.alike (hN.kept hS.2.1)
  have h : ∀ w ∈ Bundle.ownAtoms0 own ic cls names, w.before args s' = true := vx_own hat' (vx_isRefq hU'.1) (vx_isRefq hN'.1) hU'.2.word hN'.2.word
  have hown' : s'.vm.findClass own = some m.cls := by rw [hvm]; exact hown
  have hins : (Cond.instantiable cls 6).before args s' = true := h _ (by simp [Bundle.ownAtoms0])
  obtain ⟨vm₁, cX, kX, hfX, hkX, -, -, X₁, st1⟩ := Y.newCold hexec (own := own) (C := cls) (index := ik) (n := 6) hown' hk' hins hini'
    (g := F0 m pc ls rest) rfl (by rw [hb]; exact d0) (Nat.le_refl _) (Nat.le_refl _)
  generalize hT1 : (T.setVm vm₁).pushCell { cls := cX, slots := kX.instanceTypes.map defaultValue, vm := .none } = T1 at X₁ st1
  have hcat : (Value.ref T.heap.size).category = 1 := rfl
  have hcellA : T1.heap[T.heap.size]? = some (freshCell cX kX) := by rw [← hT1]; exact State.heap_pushCell_size _ _
  have d3' : decode c.code (pc + 3) = .ok (.dup, 1) := by rw [hb]; exact d3
  obtain ⟨U, hsteps, hrun, hend, hW, hsame, ce, hce, hO⟩ := X₁.ctorThrow0 hexec htr (own := own) (cls := cls) (names := names) (ic := ic) hown' hcls hnames h (fun x hx => nomatch hx) hfX hkX hcellA (by rw [hhp, hT]; exact Nat.le_refl _)
    (g := { method := m, pc := pc + 4, locals := ls, stack := .ref T.heap.size :: .ref T.heap.size :: rest, locked := none }) rfl hsize rfl rfl (rest := rest) rfl
    (by rw [hb]; exact d4) (by rw [hb]; exact d7) hout hRframes (by simp only [List.map_cons, List.sum_cons, hcat]; omega) hlocks
  obtain ⟨f1, f2⟩ := vx_frame hsame
  rw [hhp] at f1 f2
  have hWs : s.WarmedH U.vm := State.WarmedH.trans hW0 hW
  have hcl : s.vm.findClass cls = some ce.cls := by
    have h9 := hO.cls
    rw [hvm] at h9
    exact h9
  have hall : s.sameButNew ({ U with vm := s.vm } : State) locs mc ms := by
    subst hA
    obtain ⟨e1, e2⟩ := hsame
    rw [State.setFrames_setFrames] at e1
    have h2 : (T.setVm s.vm).sameButNew ({ U with vm := s.vm } : State) [] (0 + 1) (0 + 6) := ⟨e1, e2⟩
    have h3 := X.same.trans h2
    rw [List.append_nil] at h3
    exact h3.mono hc hs
  refine ⟨U, ?_, .threw T.heap.size, hrun, hend, Or.inr ⟨T.heap.size, rfl, cls, ce, locs, hx U hWs.alike f1 (fun q hq => f2 q hq (fun z hz => nomatch hz)), hce, hO.vm, hcl, hWs, hall, hf⟩⟩
  refine st1 _ ?_
  show Steps p.tables e below (T1.setTop { method := m, pc := pc + 3, locals := ls, stack := .ref T.heap.size :: rest, locked := none }) _
  jvm_step X₁.here [X₁.here.top, hexec, d3', Value.category]
  exact hsteps
/-- 'throw new E("text")': new; dup; ldc; invokespecial; athrow -/
theorem vx_throwS {cc : ByteArray} {pc : Nat} (hexec : p.tables.exec = Jvm.exec) (hb : c.code = cc) (hl : l.stackTraces = false) {own cls text : String} {names : List String} {ik is ic mc ms sa : Nat} {A : Nat → Prop}
    (hown : s.vm.findClass own = some m.cls) (hcls : Bundle.fit cls = true) (hnames : ∀ n ∈ names, Bundle.fit n = true)
    (hk : (Cond.classLink own ik cls).before args s = true) (hini : (Cond.initialized cls).before args s = true) (hstr : vk_R own is text sa s) (hat : ∀ w ∈ vx_atS own ic cls names, w.before args s = true)
    (hgood : ∀ w ∈ Cond.classLink own ik cls :: Cond.initialized cls :: vx_atS own ic cls names, vx_ot w = true)
    (hU : vx_Zq Bundle.tN "UNASSIGNED_STACK" Bundle.steD A s s.heap) (hN : vx_Zq Bundle.tN "SUPPRESSED_SENTINEL" Bundle.listD A s s.heap) (hS : va_S A s.heap H locs) (hsize : ls.size = c.maxLocals)
    (d0 : decode cc pc = .ok (.new ik, 3)) (d3 : decode cc (pc + 3) = .ok (.dup, 1)) (d4 : decode cc (pc + 4) = .ok (.ldc is, 2)) (d6 : decode cc (pc + 6) = .ok (.invokespecial ic, 3)) (d9 : decode cc (pc + 9) = .ok (.athrow, 1))
    (hout : ∀ x ∈ c.exceptionTable.toList, covers x (pc + 9) = false)
    (hRframes : names.length + 3 < R.frames) (hRlocals : (rest.map fun v => v.category).sum + (13 * (names.length + 1) + 43) ≤ R.locals) (hRcells : cells + 1 ≤ R.cells) (hRslots : slots + 6 ≤ R.slots) (hlocks : meth.locks = false)
    (hx : ∀ t : State, s.vm.Alike t.vm → H.size ≤ t.heap.size → (∀ q : Nat, q < H.size → t.heap[q]? = H[q]?) → XC cls s t)
    (hf : ∀ z ∈ locs, free z.base) (hc : cells + 1 ≤ mc) (hs : slots + 6 ≤ ms) :
    W p l e R s m args below meth c H locs cells slots (vx_MQ below Qc XC args s mc ms free) (F0 m pc ls rest) := by
  intro T hT X
  have htr : e.platform.stackTraces = false := (show e.platform.stackTraces = l.stackTraces by rw [X.admits.platform]).trans hl
  have Y := vx_rebase X (R' := { frames := R.frames, locals := R.locals, cells := 1, slots := 6 }) (Nat.le_refl _) (Nat.le_refl _) hRcells hRslots
  obtain ⟨s', hA⟩ : ∃ z, z = (T.setVm s.vm).setFrames (.invoking m args :: below) := ⟨_, rfl⟩
  rw [← hA] at Y
  have hvm : s'.vm = s.vm := by rw [hA]; rfl
  have hhp : s'.heap = H := by rw [hA]; exact hT
  have hW0 : s.WarmedH s'.vm := by rw [hvm]; exact State.WarmedH.refl s
  have hat' : ∀ w ∈ vx_atS own ic cls names, w.before args s' = true := fun w hw => vx_ot_at hW0 hvm.symm (hgood w (List.mem_cons_of_mem _ (List.mem_cons_of_mem _ hw))) (hat w hw)
  have hk' : (Cond.classLink own ik cls).before args s' = true := vx_ot_at hW0 hvm.symm (hgood _ List.mem_cons_self) hk
  have hini' : (Cond.initialized cls).before args s' = true := vx_ot_at hW0 hvm.symm (hgood _ (List.mem_cons_of_mem _ List.mem_cons_self)) hini
  have hU' : vx_Zq Bundle.tN "UNASSIGNED_STACK" Bundle.steD A s' s'.heap := by rw [hhp]; exact vx_Zq.moved hW0.alike (hU.kept hS.2.1)
  have hN' : vx_Zq Bundle.tN "SUPPRESSED_SENTINEL" Bundle.listD A s' s'.heap := by rw [hhp]; exact vx_Zq.moved hW0.alike (hN.kept hS.2.1)
  have h : ∀ w ∈ Bundle.ownAtoms own ic cls names, w.before args s' = true := vx_own hat' (vx_isRefq hU'.1) (vx_isRefq hN'.1) hU'.2.word hN'.2.word
  have hown' : s'.vm.findClass own = some m.cls := by rw [hvm]; exact hown
  have hins : (Cond.instantiable cls 6).before args s' = true := h _ (by simp [Bundle.ownAtoms])
  obtain ⟨vm₁, cX, kX, hfX, hkX, -, -, X₁, st1⟩ := Y.newCold hexec (own := own) (C := cls) (index := ik) (n := 6) hown' hk' hins hini'
    (g := F0 m pc ls rest) rfl (by rw [hb]; exact d0) (Nat.le_refl _) (Nat.le_refl _)
  generalize hT1 : (T.setVm vm₁).pushCell { cls := cX, slots := kX.instanceTypes.map defaultValue, vm := .none } = T1 at X₁ st1
  have hcat : (Value.ref T.heap.size).category = 1 := rfl
  have hcellA : T1.heap[T.heap.size]? = some (freshCell cX kX) := by rw [← hT1]; exact State.heap_pushCell_size _ _
  have d3' : decode c.code (pc + 3) = .ok (.dup, 1) := by rw [hb]; exact d3
  have d4' : decode c.code (pc + 4) = .ok (.ldc is, 2) := by rw [hb]; exact d4
  have hstr' : vk_R own is text sa s' := vk_R.warm hW0 hstr
  obtain ⟨U, hsteps, hrun, hend, hW, hsame, ce, hce, hO⟩ := X₁.ctorThrowS hexec htr (own := own) (cls := cls) (names := names) (ic := ic) hown' hcls hnames h (fun x hx => nomatch hx) hfX hkX hcellA (by rw [hhp, hT]; exact Nat.le_refl _) (msg := .ref sa) rfl
    (g := { method := m, pc := pc + 6, locals := ls, stack := .ref sa :: .ref T.heap.size :: .ref T.heap.size :: rest, locked := none }) rfl hsize rfl rfl (rest := rest) rfl
    (by rw [hb]; exact d6) (by rw [hb]; exact d9) hout hRframes (by simp only [List.map_cons, List.sum_cons, hcat]; omega) hlocks
  obtain ⟨f1, f2⟩ := vx_frame hsame
  rw [hhp] at f1 f2
  have hWs : s.WarmedH U.vm := State.WarmedH.trans hW0 hW
  have hcl : s.vm.findClass cls = some ce.cls := by
    have h9 := hO.cls
    rw [hvm] at h9
    exact h9
  have hall : s.sameButNew ({ U with vm := s.vm } : State) locs mc ms := by
    subst hA
    obtain ⟨e1, e2⟩ := hsame
    rw [State.setFrames_setFrames] at e1
    have h2 : (T.setVm s.vm).sameButNew ({ U with vm := s.vm } : State) [] (0 + 1) (0 + 6) := ⟨e1, e2⟩
    have h3 := X.same.trans h2
    rw [List.append_nil] at h3
    exact h3.mono hc hs
  refine ⟨U, ?_, .threw T.heap.size, hrun, hend, Or.inr ⟨T.heap.size, rfl, cls, ce, locs, hx U hWs.alike f1 (fun q hq => f2 q hq (fun z hz => nomatch hz)), hce, hO.vm, hcl, hWs, hall, hf⟩⟩
  refine st1 _ ?_
  show Steps p.tables e below (T1.setTop { method := m, pc := pc + 3, locals := ls, stack := .ref T.heap.size :: rest, locked := none }) _
  jvm_step X₁.here [X₁.here.top, hexec, d3', Value.category]
  exact X₁.ldcString hexec (own := own) (text := text) (index := is) (a := sa) hown' hstr'.1 hstr'.2
    (g := { method := m, pc := pc + 4, locals := ls, stack := .ref T.heap.size :: .ref T.heap.size :: rest, locked := none }) rfl d4' _ hsteps
/-- 'throw new E("text")', the text by a wide index -/
theorem vx_throwSW {cc : ByteArray} {pc : Nat} (hexec : p.tables.exec = Jvm.exec) (hb : c.code = cc) (hl : l.stackTraces = false) {own cls text : String} {names : List String} {ik is ic mc ms sa : Nat} {A : Nat → Prop}
    (hown : s.vm.findClass own = some m.cls) (hcls : Bundle.fit cls = true) (hnames : ∀ n ∈ names, Bundle.fit n = true)
    (hk : (Cond.classLink own ik cls).before args s = true) (hini : (Cond.initialized cls).before args s = true) (hstr : vk_R own is text sa s) (hat : ∀ w ∈ vx_atS own ic cls names, w.before args s = true)
    (hgood : ∀ w ∈ Cond.classLink own ik cls :: Cond.initialized cls :: vx_atS own ic cls names, vx_ot w = true)
    (hU : vx_Zq Bundle.tN "UNASSIGNED_STACK" Bundle.steD A s s.heap) (hN : vx_Zq Bundle.tN "SUPPRESSED_SENTINEL" Bundle.listD A s s.heap) (hS : va_S A s.heap H locs) (hsize : ls.size = c.maxLocals)
    (d0 : decode cc pc = .ok (.new ik, 3)) (d3 : decode cc (pc + 3) = .ok (.dup, 1)) (d4 : decode cc (pc + 4) = .ok (.ldc_w is, 3)) (d7 : decode cc (pc + 7) = .ok (.invokespecial ic, 3)) (d10 : decode cc (pc + 10) = .ok (.athrow, 1))
    (hout : ∀ x ∈ c.exceptionTable.toList, covers x (pc + 10) = false)
    (hRframes : names.length + 3 < R.frames) (hRlocals : (rest.map fun v => v.category).sum + (13 * (names.length + 1) + 43) ≤ R.locals) (hRcells : cells + 1 ≤ R.cells) (hRslots : slots + 6 ≤ R.slots) (hlocks : meth.locks = false)
    (hx : ∀ t : State, s.vm.Alike t.vm → H.size ≤ t.heap.size → (∀ q : Nat, q < H.size → t.heap[q]? = H[q]?) → XC cls s t)
    (hf : ∀ z ∈ locs, free z.base) (hc : cells + 1 ≤ mc) (hs : slots + 6 ≤ ms) :
    W p l e R s m args below meth c H locs cells slots (vx_MQ below Qc XC args s mc ms free) (F0 m pc ls rest) := by
  intro T hT X
  have htr : e.platform.stackTraces = false := (show e.platform.stackTraces = l.stackTraces by rw [X.admits.platform]).trans hl
  have Y := vx_rebase X (R' := { frames := R.frames, locals := R.locals, cells := 1, slots := 6 }) (Nat.le_refl _) (Nat.le_refl _) hRcells hRslots
  obtain ⟨s', hA⟩ : ∃ z, z = (T.setVm s.vm).setFrames (.invoking m args :: below) := ⟨_, rfl⟩
  rw [← hA] at Y
  have hvm : s'.vm = s.vm := by rw [hA]; rfl
  have hhp : s'.heap = H := by rw [hA]; exact hT
  have hW0 : s.WarmedH s'.vm := by rw [hvm]; exact State.WarmedH.refl s
  have hat' : ∀ w ∈ vx_atS own ic cls names, w.before args s' = true := fun w hw => vx_ot_at hW0 hvm.symm (hgood w (List.mem_cons_of_mem _ (List.mem_cons_of_mem _ hw))) (hat w hw)
  have hk' : (Cond.classLink own ik cls).before args s' = true := vx_ot_at hW0 hvm.symm (hgood _ List.mem_cons_self) hk
  have hini' : (Cond.initialized cls).before args s' = true := vx_ot_at hW0 hvm.symm (hgood _ (List.mem_cons_of_mem _ List.mem_cons_self)) hini
  have hU' : vx_Zq Bundle.tN "UNASSIGNED_STACK" Bundle.steD A s' s'.heap := by rw [hhp]; exact vx_Zq.moved hW0.alike (hU.kept hS.2.1)
  have hN' : vx_Zq Bundle.tN "SUPPRESSED_SENTINEL" Bundle.listD A s' s'.heap := by rw [hhp]; exact vx_Zq.moved hW0.alike (hN.kept hS.2.1)
  have h : ∀ w ∈ Bundle.ownAtoms own ic cls names, w.before args s' = true := vx_own hat' (vx_isRefq hU'.1) (vx_isRefq hN'.1) hU'.2.word hN'.2.word
  have hown' : s'.vm.findClass own = some m.cls := by rw [hvm]; exact hown
  have hins : (Cond.instantiable cls 6).before args s' = true := h _ (by simp [Bundle.ownAtoms])
  obtain ⟨vm₁, cX, kX, hfX, hkX, -, -, X₁, st1⟩ := Y.newCold hexec (own := own) (C := cls) (index := ik) (n := 6) hown' hk' hins hini'
    (g := F0 m pc ls rest) rfl (by rw [hb]; exact d0) (Nat.le_refl _) (Nat.le_refl _)
  generalize hT1 : (T.setVm vm₁).pushCell { cls := cX, slots := kX.instanceTypes.map defaultValue, vm := .none } = T1 at X₁ st1
  have hcat : (Value.ref T.heap.size).category = 1 := rfl
  have hcellA : T1.heap[T.heap.size]? = some (freshCell cX kX) := by rw [← hT1]; exact State.heap_pushCell_size _ _
  have d3' : decode c.code (pc + 3) = .ok (.dup, 1) := by rw [hb]; exact d3
  have d4' : decode c.code (pc + 4) = .ok (.ldc_w is, 3) := by rw [hb]; exact d4
  have hstr' : vk_R own is text sa s' := vk_R.warm hW0 hstr
  obtain ⟨U, hsteps, hrun, hend, hW, hsame, ce, hce, hO⟩ := X₁.ctorThrowS hexec htr (own := own) (cls := cls) (names := names) (ic := ic) hown' hcls hnames h (fun x hx => nomatch hx) hfX hkX hcellA (by rw [hhp, hT]; exact Nat.le_refl _) (msg := .ref sa) rfl
    (g := { method := m, pc := pc + 7, locals := ls, stack := .ref sa :: .ref T.heap.size :: .ref T.heap.size :: rest, locked := none }) rfl hsize rfl rfl (rest := rest) rfl
    (by rw [hb]; exact d7) (by rw [hb]; exact d10) hout hRframes (by simp only [List.map_cons, List.sum_cons, hcat]; omega) hlocks
  obtain ⟨f1, f2⟩ := vx_frame hsame
  rw [hhp] at f1 f2
  have hWs : s.WarmedH U.vm := State.WarmedH.trans hW0 hW
  have hcl : s.vm.findClass cls = some ce.cls := by
    have h9 := hO.cls
    rw [hvm] at h9
    exact h9
  have hall : s.sameButNew ({ U with vm := s.vm } : State) locs mc ms := by
    subst hA
    obtain ⟨e1, e2⟩ := hsame
    rw [State.setFrames_setFrames] at e1
    have h2 : (T.setVm s.vm).sameButNew ({ U with vm := s.vm } : State) [] (0 + 1) (0 + 6) := ⟨e1, e2⟩
    have h3 := X.same.trans h2
    rw [List.append_nil] at h3
    exact h3.mono hc hs
  refine ⟨U, ?_, .threw T.heap.size, hrun, hend, Or.inr ⟨T.heap.size, rfl, cls, ce, locs, hx U hWs.alike f1 (fun q hq => f2 q hq (fun z hz => nomatch hz)), hce, hO.vm, hcl, hWs, hall, hf⟩⟩
  refine st1 _ ?_
  show Steps p.tables e below (T1.setTop { method := m, pc := pc + 3, locals := ls, stack := .ref T.heap.size :: rest, locked := none }) _
  jvm_step X₁.here [X₁.here.top, hexec, d3', Value.category]
  exact X₁.ldcStringW hexec (own := own) (text := text) (index := is) (a := sa) hown' hstr'.1 hstr'.2
    (g := { method := m, pc := pc + 4, locals := ls, stack := .ref T.heap.size :: .ref T.heap.size :: rest, locked := none }) rfl d4' _ hsteps
end Ends
section Bodies
variable {l : Launch}
theorem vx_ofW {y : MethodName} {ws ws' : List Cond} {rm : Room} {Pc : Array Value → State → Prop} {Qc : Array Value → State → Outcome → State → Prop} {XC : String → State → State → Prop} {mc ms : Nat} {free : Addr → Prop} {cc : ByteArray} {maxL : Nat} {ret : Option FieldType}
    (hy : plainName y.cls = true) (hw : ws = Cond.code y cc maxL ret :: ws')
    (body : ∀ p e s m args below meth c s₁, BodyLoose p l y (headSpec ws rm) cc maxL ret e s m args below meth c s₁ → c.maxLocals = maxL → (∀ x ∈ c.exceptionTable.toList, False) → Pc args s →
      W p l e (headSpec ws rm).room s m args below meth c s.heap [] 0 0 (vx_MQ below Qc XC args s mc ms free) (entryFrame m args maxL)) : vx_Met l y ws rm Pc Qc XC mc ms free := by
  refine MetFree.of_bodyS (code := cc) (maxLocals := maxL) (ret := ret) hy ?_ ?_
  · intro args s m h hn
    obtain ⟨meth, c, h1, h2, h3, h4, h5, h6, -, -⟩ := Cond.code_spec hn (atoms_spec (ws := ws) h _ (by rw [hw]; exact List.mem_cons_self))
    exact ⟨meth, c, h1, h2, h3, h4, h5, h6⟩
  · intro p e s m args below meth c s₁ B hml hP _
    have hh0 : s₁.heap = s.heap := by rw [B.state]; rfl
    have ht : ∀ x ∈ c.exceptionTable.toList, False := by
      obtain ⟨meth9, c9, h1, h2, -, -, -, -, h7, -⟩ := Cond.code_spec B.named (atoms_spec (ws := ws) B.pre _ (by rw [hw]; exact List.mem_cons_self))
      cases Option.some.inj (h1.symm.trans B.method)
      cases Option.some.inj (h2.symm.trans (Stand.of_body B).code)
      intro x hx
      rw [Array.isEmpty_iff.mp h7] at hx
      cases hx
    obtain ⟨t, a1, o, b1, b2, b3⟩ := body p e s m args below meth c s₁ B hml ht hP s₁ hh0 (Stand.of_body B)
    exact ⟨t, o, a1, b1, b2, b3⟩
/-- the table of a body with handlers -/
theorem vx_table {p : Program} {x y : MethodName} {S : Spec} {cc bytes : ByteArray} {maxL maxL' : Nat} {ret ret' : Option FieldType} {e : Env} {s s₁ : State} {m : MethodId} {args : Array Value} {below : List Frame} {meth : Method} {c : Code} {hh : List (Nat × Nat × Nat × Nat)}
    (B : BodyLoose p l y S cc maxL ret e s m args below meth c s₁) (h : (Cond.codeWith y bytes maxL' ret' hh).before args s = true) : c.exceptionTable.toList = tableOf hh := by
  obtain ⟨m9, meth9, c9, hn9, h1, h2, -, -, h6, -⟩ := Cond.codeWith_spec h
  cases Option.some.inj (hn9.symm.trans B.named)
  cases Option.some.inj (h1.symm.trans B.method)
  cases Option.some.inj (h2.symm.trans (Stand.of_body B).code)
  rw [← h6, table_eq]
end Bodies
end VXA
/-! ===== END ===== -/
/-! ===== BEGIN a static call of a method with an exception table ===== -/
section VXS
variable {p : Program} {l : Launch} {e : Env} {R : Room} {s : State} {m : MethodId} {args : Array Value} {below : List Frame} {meth : Method} {c : Code} {T : State} {H : Heap} {locs : List Loc} {cells slots : Nat}
abbrev vx_CSW (R : Room) (s : State) (args : Array Value) (own : String) (index : Nat) (y : MethodName) (bytes : ByteArray) (maxL : Nat) (ret : Option FieldType) (hh : List (Nat × Nat × Nat × Nat)) (ws : List Cond) (rm : Room) (mc ms n : Nat) : Prop :=
  (rm.cells = mc ∧ rm.slots = ms ∧ rm.frames + 1 ≤ R.frames ∧ 8 + (maxL + 11) + rm.locals ≤ R.locals ∧ (∀ w ∈ ws, ∀ (a' : Array Value) (U : State), s.WarmedH U.vm → w.before a' U = true) ∧ Cond.codeWith y bytes maxL ret hh ∈ ws) ∧
  (Cond.codeWith y bytes maxL ret hh).before args s = true ∧ (Cond.initialized y.cls).before args s = true ∧ (y.cls ≠ "java/lang/invoke/MethodHandle" ∧ y.cls ≠ "java/lang/invoke/VarHandle") ∧
  (∀ sig, parseMethodDescriptor y.desc = some sig → n = sig.parameters.length) ∧ (Cond.methodLink own index y).before args s = true ∧ (Cond.static y).before args s = true
theorem vx_cwSW {own : String} {index maxL mc ms : Nat} {y : MethodName} {bytes : ByteArray} {ret : Option FieldType} {hh : List (Nat × Nat × Nat × Nat)} {Ts ws ws' : List Cond} {rm : Room} (n : Nat) (ht : ∀ w ∈ Ts, w.before args s = true) (hT : GoodIn Ts (va_wsS own index y ws)) (hw : ws = Cond.codeWith y bytes maxL ret hh :: ws') (hrc : rm.cells = mc) (hrs : rm.slots = ms)
    (hd : y.cls ≠ "java/lang/invoke/MethodHandle" ∧ y.cls ≠ "java/lang/invoke/VarHandle" ∧ (parseMethodDescriptor y.desc).map (fun d => d.parameters.length) = some n) (hR : rm.frames + 1 ≤ R.frames ∧ 8 + (maxL + 11) + rm.locals ≤ R.locals) :
    vx_CSW R s args own index y bytes maxL ret hh ws rm mc ms n := by
  have ok : ∀ w ∈ va_wsS own index y ws, w.before args s = true := fun w h => ht w (hT w h).1
  have hG : GoodIn Ts ws := fun w h => hT w (by unfold va_wsS; exact List.mem_append_right _ h)
  have hc : Cond.codeWith y bytes maxL ret hh ∈ ws := by rw [hw]; exact List.mem_cons_self
  refine ⟨⟨hrc, hrs, hR.1, hR.2, pay_in ht hG, hc⟩, ht _ (hG _ hc).1, ok _ (by simp [va_wsS]), ⟨hd.1, hd.2.1⟩, fun sig h => ?_, ok _ (by simp [va_wsS]), ok _ (by simp [va_wsS])⟩
  have h2 := hd.2.2
  rw [h] at h2
  exact (Option.some.inj h2).symm
theorem vx_callSW (X : Stand p l e R s m args below meth c T locs cells slots) (hexec : p.tables.exec = Jvm.exec) {own : String} {index : Nat} {y : MethodName} {bytes : ByteArray} {maxL : Nat} {ret : Option FieldType} {hh : List (Nat × Nat × Nat × Nat)}
    (hown : s.vm.findClass own = some m.cls) (hlink : (Cond.methodLink own index y).before args s = true) (hstat : (Cond.static y).before args s = true) (hinit : (Cond.initialized y.cls).before args s = true)
    (hcode : (Cond.codeWith y bytes maxL ret hh).before args s = true) (hy : y.cls ≠ "java/lang/invoke/MethodHandle" ∧ y.cls ≠ "java/lang/invoke/VarHandle")
    {W9 : Nat} {Pre : Pt → Array Value → Prop} {Post : Pt → Array Value → Option Value → Pt → Prop} (hK : Back l R p e below s args y 3 W9 Pre Post)
    {g : JFrame} (hg : g.method = m) (hsize : g.locals.size = c.maxLocals) {argsL rest : List Value} (hlen : ∀ sig, parseMethodDescriptor y.desc = some sig → argsL.length = sig.parameters.length)
    (hstack : g.stack = argsL.reverse ++ rest) (hW : 2 * g.monitorRoom + (rest.map fun v => v.category).sum ≤ W9) (hdg : decode c.code g.pc = .ok (.invokestatic index, 3))
    (hpre : ∀ vm₁, s.WarmedH vm₁ → Pre ⟨T.setVm vm₁, locs, cells, slots⟩ argsL.toArray) :
    ∃ (v : Option Value) (vm₁ : Vm) (B : Pt), s.WarmedH vm₁ ∧ Stand p l e R s m args below meth c B.U B.locs B.cells B.slots ∧ Post ⟨T.setVm vm₁, locs, cells, slots⟩ argsL.toArray v B ∧
      ∀ target, Steps p.tables e below (B.U.setTop { g with pc := g.pc + 3, stack := v.toList ++ rest }) target → Steps p.tables e below (T.setTop g) target := by
  obtain ⟨mk, methM, cM, hnamed, hmethM, -, -, -, -, -, -, hsigM⟩ := Cond.codeWith_spec hcode
  have hstatic : methM.isStatic = true := Cond.static_spec hnamed hmethM hstat
  obtain ⟨kP, hkP, -⟩ := className_of_methodNamed hnamed
  have hinitP : kP.init = .initialized := Cond.initialized_spec (findClass_of_methodNamed hnamed) hkP hinit
  obtain ⟨vm₁, X₁, hstep₁⟩ := X.invokestatic hexec hown hlink hnamed hmethM hstatic hkP hinitP hy (g := g) hg (argsL := argsL) (rest := rest) (hlen _ hsigM) hstack hdg
  obtain ⟨v, B, X', hpost, hsteps⟩ := hK m meth c ⟨T.setVm vm₁, locs, cells, slots⟩ { g with stack := rest } (.invokestatic index) mk argsL.toArray X₁ hg hsize hdg hW (X₁.named hnamed) (hpre vm₁ X₁.warmed)
  exact ⟨v, vm₁, B, X₁.warmed, X', hpost, fun target h => hstep₁ _ fun acts => by rw [doInvoke_state]; exact hsteps.trans h⟩
theorem vx_runSW {y : MethodName} {bytes cc : ByteArray} {maxL nL mc ms n index : Nat} {ret : Option FieldType} {hh : List (Nat × Nat × Nat × Nat)} {ws : List Cond} {rm : Room} {Pc : Array Value → State → Prop} {Qc : Array Value → State → Outcome → State → Prop} {free : Addr → Prop} {Ts : List Cond} {own : String} {As rest : List Value} {g : JFrame}
    (S : CallFix p m c cc nL s args Ts own) (hM : Met l y ws rm Pc Qc mc ms free) (cw : vx_CSW R s args own index y bytes maxL ret hh ws rm mc ms n) (hp : PreS s H Pc As)
    (hg : g.method = m) (hn : As.length = n) (hsize : g.locals.size = nL) (hstack : g.stack = As.reverse ++ rest) (hW : 2 * g.monitorRoom + (rest.map fun v => v.category).sum ≤ 8) (hdg : decode cc g.pc = .ok (.invokestatic index, 3)) (hf : cells + mc ≤ R.cells ∧ slots + ms ≤ R.slots) :
    va_Run p l e R s m args below meth c H locs cells slots mc ms g rest (Qc As.toArray) (free) := by
  obtain ⟨⟨hrc, hrs, hfr, hlo, hws, hcw⟩, hcode, hini, hy, hlen, hl, hstt⟩ := cw
  have hK : Back l R p e below s args y 3 8 (PreOf R mc ms Pc) (PostOf Qc mc ms free) := va_backW (hh := hh) (bytes := bytes) (maxL := maxL) (ret := ret) hM hp.1 hrc hrs hfr hlo hws hcw (fun a' U hW => word_at hW (Or.inl (by first | rfl | simp [Cond.onTables, Cond.keeps, Cond.steady])) hini)
  obtain ⟨hx, hb, hml, ho, -⟩ := S
  intro T hT X
  obtain ⟨v, vm₁, ⟨U', l2, c2, s2⟩, hW₁, X', ⟨g', mk, t, L, e1, e2, hq, h1, hL, h2, h3⟩, st⟩ := vx_callSW X hx (hh := hh) (bytes := bytes) (maxL := maxL) (ret := ret) ho hl hstt hini hcode hy hK hg (hsize.trans hml.symm) (argsL := As) (rest := rest) (fun sig h => hn.trans (hlen sig h)) hstack hW (by rw [hb]; exact hdg)
    (fun vm₁ hW₁ => ⟨hf.1, hf.2, hp.2 (T.setVm vm₁) hT hW₁⟩)
  dsimp only [Pt.U, Pt.locs, Pt.cells, Pt.slots] at X' e1 e2 h1 h2 h3 st
  subst h1; subst h2; subst h3
  exact ⟨v, (T.setVm vm₁).calling g' mk As.toArray, t, U', L, hT, X', hL, e1, e2, hq, st⟩
/-- not caught here, past rows that name other classes: it goes on to the caller -/
theorem vx_outP {p : Program} {l : Launch} {e : Env} {R : Room} {s : State} {m : MethodId} {args : Array Value} {below : List Frame} {meth : Method} {c : Code} {H : Heap} {locs : List Loc} {cells slots : Nat} {free : Addr → Prop} {ls : Array Slot} {rest : List Value} {Qc : Array Value → State → Outcome → State → Prop} {XC : String → State → State → Prop}
    {pc : Nat} {own E : String} {ce : Cell} {q : Addr} {mc ms : Nat} (hown : s.vm.findClass own = some m.cls) (hlocks : meth.locks = false)
    (hpass : ∀ z ∈ c.exceptionTable.toList, covers z pc = false ∨ (z.catchType ≠ 0 ∧ ∃ nm : String, (Cond.classLink own z.catchType nm).before args s = true ∧ va_Nc E nm s)) (hcell : H[q]? = some ce) (hv : ce.vm = .none) (hcl : s.vm.findClass E = some ce.cls)
    (hx : ∀ t : State, t.heap = H → s.vm.Alike t.vm → XC E s t) (hf : ∀ z ∈ locs, free z.base) (hc : cells ≤ mc) (hs : slots ≤ ms) :
    vx_W p l e R s m args below meth c H locs cells slots (vx_MQ below Qc XC args s mc ms free) (F0 m pc ls rest) q := by
  intro T hT X
  have hpl : e.platform.magicAccessors = ({} : Platform).magicAccessors := by rw [X.admits.platform]
  obtain ⟨vm', hW', X', st⟩ := X.outThrough hlocks q (g := F0 m pc ls rest) rfl rfl rfl (cell := ce) (by rw [hT]; exact hcell) (by rw [hv]; rfl)
    (by obtain ⟨k9, h9, -⟩ := Vm.findClass_spec hcl; exact ⟨k9, h9⟩) (fun z hz => by
      rcases hpass z hz with h | ⟨hz0, nm, hl1, hn1⟩
      · exact Or.inl h
      · obtain ⟨c6, hc6, hcl6⟩ := Cond.classLink_spec hown hl1 e.platform hpl
        obtain ⟨a8, b8, h1, h2, h3⟩ := hn1
        cases Option.some.inj (h1.symm.trans hcl)
        cases Option.some.inj (h2.symm.trans hc6)
        exact Or.inr ⟨hz0, _, hcl6, h3⟩)
  obtain ⟨g₀, hfr⟩ := X'.frames_eq
  have hcell9 : ((T.setVm vm').setFrames (.throwing q :: below)).heap[q]? = some ce := by
    show T.heap[q]? = some ce
    rw [hT]; exact hcell
  have hend : Ended ((T.setVm vm').setFrames (.throwing q :: below)) below (.threw q) := State.frames_setFrames _ (State.cur_lt_of_frames hfr)
  refine ⟨(T.setVm vm').setFrames (.throwing q :: below), ?_, .threw q, X'.here.running, hend, Or.inr ⟨q, rfl, E, ce, locs, hx _ hT (X'.ends _).1.alike, hcell9, hv, hcl, (X'.ends _).1, (X'.ends _).2.mono hc hs, hf⟩⟩
  rw [X.pushThrowing_eq]
  exact st
/-- a thing of a world lies in the heap -/
theorem vx_lt {D : va_G} {cl : List vw_C} {ws : va_W} {H1 : Heap} (h : va_P D cl ws H1) {k : Nat} {q : Nat × va_E} (hk : ws[k]? = some q) : q.1 < H1.size := (h k q hk).lt
end VXS
/-! ===== END ===== -/
/-! ===== BEGIN methods with a table of their own: called by a name, returning or throwing ===== -/
section VXH
/-! vx_backW, vx_callVX, vx_callSX, vx_callVW, vx_runVW, vx_runVX, vx_runSX, vx_ofWH follow the same proofs as their sisters above (Free/Laws.lean, Shelf42/LK1.lean); vx_outP calls Shelf42/NT130.lean (outThrough). -/
section
variable {l : Launch} {R : Room} {p : Program} {e : Env} {below : List Frame} {s : State} {sargs : Array Value} {y : MethodName} {len W9 : Nat}
theorem vx_backW {ws : List Cond} {rm : Room} {Pc : Array Value → State → Prop} {Qc : Array Value → State → Outcome → State → Prop} {XC : String → State → State → Prop} {mc ms : Nat} {free : Addr → Prop} {bytes : ByteArray} {maxL : Nat} {ret : Option FieldType} {hh : List (Nat × Nat × Nat × Nat)}
    (hM : vx_Met l y ws rm Pc Qc XC mc ms free) (hblind : FrameBlind Pc) (hrc : rm.cells = mc) (hrs : rm.slots = ms)
    (hframes : rm.frames + 1 ≤ R.frames) (hlocals : W9 + (maxL + 11) + rm.locals ≤ R.locals)
    (hws : ∀ w ∈ ws, ∀ a' U, s.WarmedH U.vm → w.before a' U = true) (hcode : Cond.codeWith y bytes maxL ret hh ∈ ws) (hinit : ∀ a' U, s.WarmedH U.vm → (Cond.initialized y.cls).before a' U = true) :
    vx_Back l R p e below s sargs y len W9 (PreOf R mc ms Pc) (PostOf Qc mc ms free) (vx_Post XC mc ms free) := by
  intro m meth c A g ig mk a X hg hsize hdg hW hn hp
  have h1 : (headSpec ws rm).pre.before a A.U = true := atoms_intro fun w hw => hws w hw _ _ X.warmed
  have h2 : (Cond.codeWith y bytes maxL ret hh).before a A.U = true := hws _ hcode _ _ X.warmed
  have h3 : (Cond.initialized y.cls).before a A.U = true := hinit _ _ X.warmed
  have h4 : A.cells + (headSpec ws rm).room.cells ≤ R.cells := by rw [show (headSpec ws rm).room.cells = mc from hrc]; exact hp.1
  have h5 : A.slots + (headSpec ws rm).room.slots ≤ R.slots := by rw [show (headSpec ws rm).room.slots = ms from hrs]; exact hp.2.1
  have hPc : Pc a (A.U.calling g mk a) := hblind _ _ _ _ hp.2.2
  obtain ⟨U, Ls, c0, s0⟩ := A
  dsimp only [Pt.U, Pt.locs, Pt.cells, Pt.slots] at h1 h2 h3 h4 h5 X hn hPc ⊢
  obtain ⟨m9, methY, cY, hn9, hmY, hcY, -, hlY, -⟩ := Cond.codeWith_spec h2
  cases Option.some.inj (hn9.symm.trans hn)
  obtain ⟨kY, hkY, -⟩ := className_of_methodNamed hn
  have hinitY : kY.init = .initialized := Cond.initialized_spec (findClass_of_methodNamed hn) hkY h3
  have h : At U g.method c below := by rw [hg]; exact X.here
  have hlocals9 : W9 + (maxL + 11) + (headSpec ws rm).room.locals ≤ R.locals := hlocals
  have happ : (headSpec ws rm).appliesLoose y e.platform (U.calling g mk a) = true :=
    Spec.appliesLoose_calling (g := g) h hdg hn hkY hinitY
      (X.room_calling (g := g) (R' := (headSpec ws rm).room) hsize hmY hcY hframes (by rw [hlY]; omega) h4 h5) h1
  obtain ⟨mid, hmid⟩ := h.above
  have hfr : (U.setTop g).frames = (.java g :: mid) ++ below := by rw [State.frames_setTop' g h.top, hmid]; rfl
  obtain ⟨o, s₂, hsteps, -, hend, hq⟩ := Steps.callFree hM p X.admits X.cas X.clock (acts := []) hfr happ hPc trivial
  have hq' : vx_Q Qc XC mc ms free a (U.calling g mk a) o s₂ := hq
  rw [State.frames_setTop' g h.top] at hend
  obtain ⟨g₀, hg0⟩ := Option.isSome_iff_exists.mp h.top
  obtain ⟨r, hr⟩ := State.topJava?_eq_some.mp hg0
  have hr' : (({ U with heap := s₂.heap, slotsUsed := s₂.slotsUsed } : State).setVm s₂.vm).frames = .java g₀ :: r := hr
  rcases hq' with ⟨hqc, L, hfe, hL⟩ | ⟨q, rfl, E, ce, L, hx, hce, hcv, hcl, hW₂, hsm, hL⟩
  · obtain ⟨⟨v, rfl⟩, hW₂, e2, q2, q3, q4, q5, q6⟩ := id hfe
    have e3 : s₂ = ({ (U.calling g mk a).setFrames s₂.frames with heap := s₂.heap, slotsUsed := s₂.slotsUsed } : State).setVm s₂.vm := by
      have : s₂ = ({ s₂ with vm := (U.calling g mk a).vm } : State).setVm s₂.vm := rfl
      rw [e2] at this
      exact this
    obtain ⟨c₂, i₂, len₂, hc₂, hd₂, hf₂⟩ := hend
    have hW' : U.WarmedH s₂.vm := hW₂
    have hcc : c₂ = c := by
      have h1 : s₂.code? g.method = U.code? g.method := by
        rw [State.code?_eq, State.code?_eq, hW'.alike.method?]
      exact Option.some.inj (hc₂.symm.trans (h1.trans h.code))
    subst hcc
    have hlen : len₂ = len := by rw [hdg] at hd₂; cases hd₂; rfl
    subst hlen
    have hs₂ : s₂ = (({ U with heap := s₂.heap, slotsUsed := s₂.slotsUsed } : State).setVm s₂.vm).setTop { g with pc := g.pc + len₂, stack := v.toList ++ g.stack } := by
      refine e3.trans ?_
      rw [hf₂, State.calling_eq h.top, State.setFrames_setFrames, State.setTop_of_frames _ hr', hr]
      rfl
    have hsame : U.sameButNew ({ U with heap := s₂.heap, slotsUsed := s₂.slotsUsed } : State) L mc ms := by
      refine ⟨?_, q2, q3, q4, q5, q6⟩
      obtain ⟨t, ht, -⟩ := State.frames_cons hr
      show ({ U with heap := s₂.heap, slotsUsed := s₂.slotsUsed } : State) = { U.setFrames U.frames with heap := s₂.heap, slotsUsed := s₂.slotsUsed }
      rw [State.setFrames_self ht]
    subst hg
    refine Or.inl ⟨v, ⟨(({ U with heap := s₂.heap, slotsUsed := s₂.slotsUsed } : State).setVm s₂.vm), Ls ++ L, c0 + mc, s0 + ms⟩,
      ⟨X.admits, X.cas, X.clock, X.frames, X.room, X.hears, X.method, X.code, (X.here.setHeapUsed s₂.heap s₂.slotsUsed).setVm hW'.alike, X.tail, State.WarmedH.trans X.warmed hW', X.limits, X.bytes, X.same.trans (hsame.setVm s.vm)⟩,
      ⟨g, mk, s₂, L, rfl, rfl, hqc, rfl, hL, rfl, rfl⟩, ?_⟩
    show Steps p.tables e below _ ((({ U with heap := s₂.heap, slotsUsed := s₂.slotsUsed } : State).setVm s₂.vm).setTop { g with pc := g.pc + len₂, stack := v.toList ++ g.stack })
    rw [← hs₂]
    exact hsteps
  · obtain ⟨e2, q2, q3, q4, q5, q6⟩ := id hsm
    have e3 : s₂ = ({ (U.calling g mk a).setFrames s₂.frames with heap := s₂.heap, slotsUsed := s₂.slotsUsed } : State).setVm s₂.vm := by
      have : s₂ = ({ s₂ with vm := (U.calling g mk a).vm } : State).setVm s₂.vm := rfl
      rw [e2] at this
      exact this
    have hf₂ : s₂.frames = .throwing q :: .java g :: U.frames.tail := hend
    have hW' : U.WarmedH s₂.vm := hW₂
    have hs₂ : s₂ = ((({ U with heap := s₂.heap, slotsUsed := s₂.slotsUsed } : State).setVm s₂.vm).setTop g).pushFrame (.throwing q) := by
      refine e3.trans ?_
      rw [hf₂, State.calling_eq h.top, State.setFrames_setFrames, State.pushFrame, State.frames_setTop _ hr', State.setTop_of_frames _ hr', State.setFrames_setFrames, hr]
      rfl
    have hsame : U.sameButNew ({ U with heap := s₂.heap, slotsUsed := s₂.slotsUsed } : State) L mc ms := by
      refine ⟨?_, q2, q3, q4, q5, q6⟩
      obtain ⟨t, ht, -⟩ := State.frames_cons hr
      show ({ U with heap := s₂.heap, slotsUsed := s₂.slotsUsed } : State) = { U.setFrames U.frames with heap := s₂.heap, slotsUsed := s₂.slotsUsed }
      rw [State.setFrames_self ht]
    subst hg
    refine Or.inr ⟨q, ⟨(({ U with heap := s₂.heap, slotsUsed := s₂.slotsUsed } : State).setVm s₂.vm), Ls ++ L, c0 + mc, s0 + ms⟩,
      ⟨X.admits, X.cas, X.clock, X.frames, X.room, X.hears, X.method, X.code, (X.here.setHeapUsed s₂.heap s₂.slotsUsed).setVm hW'.alike, X.tail, State.WarmedH.trans X.warmed hW', X.limits, X.bytes, X.same.trans (hsame.setVm s.vm)⟩,
      ⟨g, mk, s₂, L, E, ce, rfl, rfl, hx, hce, hcv, hcl, rfl, hL, rfl, rfl⟩, ?_⟩
    show Steps p.tables e below _ (((({ U with heap := s₂.heap, slotsUsed := s₂.slotsUsed } : State).setVm s₂.vm).setTop g).pushFrame (.throwing q))
    rw [← hs₂]
    exact hsteps
end
variable {p : Program} {l : Launch} {e : Env} {R : Room} {s : State} {m : MethodId} {args : Array Value} {below : List Frame} {meth : Method} {c : Code} {T : State} {H : Heap} {locs : List Loc} {cells slots : Nat}
theorem vx_callVX (X : Stand p l e R s m args below meth c T locs cells slots) (hexec : p.tables.exec = Jvm.exec) {own C : String} {index : Nat} {y : MethodName} {bytes : ByteArray} {maxL : Nat} {ret : Option FieldType} {hh : List (Nat × Nat × Nat × Nat)}
    (hown : s.vm.findClass own = some m.cls) (hlink : (Cond.methodLink own index y).before args s = true) (hinst : (Cond.instanceMethod y).before args s = true) (hsel : (Cond.selects C y y).before args s = true)
    (hcode : (Cond.codeWith y bytes maxL ret hh).before args s = true) (hy : y.cls ≠ "java/lang/invoke/MethodHandle" ∧ y.cls ≠ "java/lang/invoke/VarHandle")
    {W9 : Nat} {Pre : Pt → Array Value → Prop} {Post : Pt → Array Value → Option Value → Pt → Prop} {PostX : Pt → Array Value → Addr → Pt → Prop} (hK : vx_Back l R p e below s args y 3 W9 Pre Post PostX)
    {b : Addr} {cellB : Cell} (hcell : T.heap[b]? = some cellB) (hobj : cellB.vm.isStatics = false) (hcls : s.vm.findClass C = some cellB.cls)
    {g : JFrame} (hg : g.method = m) (hsize : g.locals.size = c.maxLocals) {argsL rest : List Value} (hlen : ∀ sig, parseMethodDescriptor y.desc = some sig → argsL.length = sig.parameters.length)
    (hstack : g.stack = argsL.reverse ++ .ref b :: rest) (hW : 2 * g.monitorRoom + (rest.map fun v => v.category).sum ≤ W9) (hdg : decode c.code g.pc = .ok (.invokevirtual index, 3))
    (hpre : ∀ vm₁, s.WarmedH vm₁ → Pre ⟨T.setVm vm₁, locs, cells, slots⟩ (Value.ref b :: argsL).toArray) :
    (∃ (v : Option Value) (vm₁ : Vm) (B : Pt), s.WarmedH vm₁ ∧ Stand p l e R s m args below meth c B.U B.locs B.cells B.slots ∧ Post ⟨T.setVm vm₁, locs, cells, slots⟩ (Value.ref b :: argsL).toArray v B ∧
      ∀ target, Steps p.tables e below (B.U.setTop { g with pc := g.pc + 3, stack := v.toList ++ rest }) target → Steps p.tables e below (T.setTop g) target) ∨
    (∃ (q : Addr) (vm₁ : Vm) (B : Pt), s.WarmedH vm₁ ∧ Stand p l e R s m args below meth c B.U B.locs B.cells B.slots ∧ PostX ⟨T.setVm vm₁, locs, cells, slots⟩ (Value.ref b :: argsL).toArray q B ∧
      Steps p.tables e below (T.setTop g) ((B.U.setTop { g with stack := rest }).pushFrame (.throwing q))) := by
  obtain ⟨mk, methM, hnamed, hmethM, hstM, habM⟩ := Cond.instanceMethod_spec hinst
  obtain ⟨m8, methM', cM, hn8, hmethM', -, -, -, -, -, -, hsigM⟩ := Cond.codeWith_spec hcode
  cases Option.some.inj (hn8.symm.trans hnamed)
  cases hmethM.symm.trans hmethM'
  obtain ⟨c2, r2, m2, q1, q2, q3, q4, kP, hkP, hkPi⟩ := Cond.selects_spec hsel
  cases hcls.symm.trans q1
  cases (State.methodFound?_of_named hnamed hy).symm.trans q2
  cases hnamed.symm.trans q3
  have hselP : selectMethod e.platform s.vm cellB.cls mk = .method mk := by rw [Launch.admits_selectMethod X.admits]; exact q4
  obtain ⟨vm₁, X₁, hstep₁⟩ := X.invokevirtual hexec hown hlink hnamed hmethM hstM hkP hkPi hy (a := b) (cell := cellB) hcell
    (fun z h => by rw [h] at hobj; cases hobj) hselP hmethM habM hkP hkPi (g := g) hg (argsL := argsL) (rest := rest) (hlen _ hsigM) hstack hdg
  rcases hK m meth c ⟨T.setVm vm₁, locs, cells, slots⟩ { g with stack := rest } (.invokevirtual index) mk (Value.ref b :: argsL).toArray X₁ hg hsize hdg hW (X₁.named hnamed) (hpre vm₁ X₁.warmed) with ⟨v, B, X', hpost, hsteps⟩ | ⟨q, B, X', hpost, hsteps⟩
  · exact Or.inl ⟨v, vm₁, B, X₁.warmed, X', hpost, fun target h => hstep₁ _ fun acts => by rw [doInvoke_state]; exact hsteps.trans h⟩
  · exact Or.inr ⟨q, vm₁, B, X₁.warmed, X', hpost, hstep₁ _ fun acts => by rw [doInvoke_state]; exact hsteps⟩
theorem vx_callSX (X : Stand p l e R s m args below meth c T locs cells slots) (hexec : p.tables.exec = Jvm.exec) {own : String} {index : Nat} {y : MethodName} {bytes : ByteArray} {maxL : Nat} {ret : Option FieldType} {hh : List (Nat × Nat × Nat × Nat)}
    (hown : s.vm.findClass own = some m.cls) (hlink : (Cond.methodLink own index y).before args s = true) (hstat : (Cond.static y).before args s = true) (hinit : (Cond.initialized y.cls).before args s = true)
    (hcode : (Cond.codeWith y bytes maxL ret hh).before args s = true) (hy : y.cls ≠ "java/lang/invoke/MethodHandle" ∧ y.cls ≠ "java/lang/invoke/VarHandle")
    {W9 : Nat} {Pre : Pt → Array Value → Prop} {Post : Pt → Array Value → Option Value → Pt → Prop} {PostX : Pt → Array Value → Addr → Pt → Prop} (hK : vx_Back l R p e below s args y 3 W9 Pre Post PostX)
    {g : JFrame} (hg : g.method = m) (hsize : g.locals.size = c.maxLocals) {argsL rest : List Value} (hlen : ∀ sig, parseMethodDescriptor y.desc = some sig → argsL.length = sig.parameters.length)
    (hstack : g.stack = argsL.reverse ++ rest) (hW : 2 * g.monitorRoom + (rest.map fun v => v.category).sum ≤ W9) (hdg : decode c.code g.pc = .ok (.invokestatic index, 3))
    (hpre : ∀ vm₁, s.WarmedH vm₁ → Pre ⟨T.setVm vm₁, locs, cells, slots⟩ argsL.toArray) :
    (∃ (v : Option Value) (vm₁ : Vm) (B : Pt), s.WarmedH vm₁ ∧ Stand p l e R s m args below meth c B.U B.locs B.cells B.slots ∧ Post ⟨T.setVm vm₁, locs, cells, slots⟩ argsL.toArray v B ∧
      ∀ target, Steps p.tables e below (B.U.setTop { g with pc := g.pc + 3, stack := v.toList ++ rest }) target → Steps p.tables e below (T.setTop g) target) ∨
    (∃ (q : Addr) (vm₁ : Vm) (B : Pt), s.WarmedH vm₁ ∧ Stand p l e R s m args below meth c B.U B.locs B.cells B.slots ∧ PostX ⟨T.setVm vm₁, locs, cells, slots⟩ argsL.toArray q B ∧
      Steps p.tables e below (T.setTop g) ((B.U.setTop { g with stack := rest }).pushFrame (.throwing q))) := by
  obtain ⟨mk, methM, cM, hnamed, hmethM, -, -, -, -, -, -, hsigM⟩ := Cond.codeWith_spec hcode
  have hstatic : methM.isStatic = true := Cond.static_spec hnamed hmethM hstat
  obtain ⟨kP, hkP, -⟩ := className_of_methodNamed hnamed
  have hinitP : kP.init = .initialized := Cond.initialized_spec (findClass_of_methodNamed hnamed) hkP hinit
  obtain ⟨vm₁, X₁, hstep₁⟩ := X.invokestatic hexec hown hlink hnamed hmethM hstatic hkP hinitP hy (g := g) hg (argsL := argsL) (rest := rest) (hlen _ hsigM) hstack hdg
  rcases hK m meth c ⟨T.setVm vm₁, locs, cells, slots⟩ { g with stack := rest } (.invokestatic index) mk argsL.toArray X₁ hg hsize hdg hW (X₁.named hnamed) (hpre vm₁ X₁.warmed) with ⟨v, B, X', hpost, hsteps⟩ | ⟨q, B, X', hpost, hsteps⟩
  · exact Or.inl ⟨v, vm₁, B, X₁.warmed, X', hpost, fun target h => hstep₁ _ fun acts => by rw [doInvoke_state]; exact hsteps.trans h⟩
  · exact Or.inr ⟨q, vm₁, B, X₁.warmed, X', hpost, hstep₁ _ fun acts => by rw [doInvoke_state]; exact hsteps⟩
theorem vx_callVW (X : Stand p l e R s m args below meth c T locs cells slots) (hexec : p.tables.exec = Jvm.exec) {own C : String} {index : Nat} {y : MethodName} {bytes : ByteArray} {maxL : Nat} {ret : Option FieldType} {hh : List (Nat × Nat × Nat × Nat)}
    (hown : s.vm.findClass own = some m.cls) (hlink : (Cond.methodLink own index y).before args s = true) (hinst : (Cond.instanceMethod y).before args s = true) (hsel : (Cond.selects C y y).before args s = true)
    (hcode : (Cond.codeWith y bytes maxL ret hh).before args s = true) (hy : y.cls ≠ "java/lang/invoke/MethodHandle" ∧ y.cls ≠ "java/lang/invoke/VarHandle")
    {W9 : Nat} {Pre : Pt → Array Value → Prop} {Post : Pt → Array Value → Option Value → Pt → Prop} (hK : Back l R p e below s args y 3 W9 Pre Post)
    {b : Addr} {cellB : Cell} (hcell : T.heap[b]? = some cellB) (hobj : cellB.vm.isStatics = false) (hcls : s.vm.findClass C = some cellB.cls)
    {g : JFrame} (hg : g.method = m) (hsize : g.locals.size = c.maxLocals) {argsL rest : List Value} (hlen : ∀ sig, parseMethodDescriptor y.desc = some sig → argsL.length = sig.parameters.length)
    (hstack : g.stack = argsL.reverse ++ .ref b :: rest) (hW : 2 * g.monitorRoom + (rest.map fun v => v.category).sum ≤ W9) (hdg : decode c.code g.pc = .ok (.invokevirtual index, 3))
    (hpre : ∀ vm₁, s.WarmedH vm₁ → Pre ⟨T.setVm vm₁, locs, cells, slots⟩ (Value.ref b :: argsL).toArray) :
    ∃ (v : Option Value) (vm₁ : Vm) (B : Pt), s.WarmedH vm₁ ∧ Stand p l e R s m args below meth c B.U B.locs B.cells B.slots ∧ Post ⟨T.setVm vm₁, locs, cells, slots⟩ (Value.ref b :: argsL).toArray v B ∧
      ∀ target, Steps p.tables e below (B.U.setTop { g with pc := g.pc + 3, stack := v.toList ++ rest }) target → Steps p.tables e below (T.setTop g) target := by
  obtain ⟨mk, methM, hnamed, hmethM, hstM, habM⟩ := Cond.instanceMethod_spec hinst
  obtain ⟨m8, methM', cM, hn8, hmethM', -, -, -, -, -, -, hsigM⟩ := Cond.codeWith_spec hcode
  cases Option.some.inj (hn8.symm.trans hnamed)
  cases hmethM.symm.trans hmethM'
  obtain ⟨c2, r2, m2, q1, q2, q3, q4, kP, hkP, hkPi⟩ := Cond.selects_spec hsel
  cases hcls.symm.trans q1
  cases (State.methodFound?_of_named hnamed hy).symm.trans q2
  cases hnamed.symm.trans q3
  have hselP : selectMethod e.platform s.vm cellB.cls mk = .method mk := by rw [Launch.admits_selectMethod X.admits]; exact q4
  obtain ⟨vm₁, X₁, hstep₁⟩ := X.invokevirtual hexec hown hlink hnamed hmethM hstM hkP hkPi hy (a := b) (cell := cellB) hcell
    (fun z h => by rw [h] at hobj; cases hobj) hselP hmethM habM hkP hkPi (g := g) hg (argsL := argsL) (rest := rest) (hlen _ hsigM) hstack hdg
  obtain ⟨v, B, X', hpost, hsteps⟩ := hK m meth c ⟨T.setVm vm₁, locs, cells, slots⟩ { g with stack := rest } (.invokevirtual index) mk (Value.ref b :: argsL).toArray X₁ hg hsize hdg hW (X₁.named hnamed) (hpre vm₁ X₁.warmed)
  exact ⟨v, vm₁, B, X₁.warmed, X', hpost, fun target h => hstep₁ _ fun acts => by rw [doInvoke_state]; exact hsteps.trans h⟩
abbrev vx_CVW (R : Room) (s : State) (args : Array Value) (own C : String) (index : Nat) (y : MethodName) (bytes : ByteArray) (maxL : Nat) (ret : Option FieldType) (hh : List (Nat × Nat × Nat × Nat)) (ws : List Cond) (rm : Room) (mc ms n : Nat) : Prop :=
  (rm.cells = mc ∧ rm.slots = ms ∧ rm.frames + 1 ≤ R.frames ∧ 8 + (maxL + 11) + rm.locals ≤ R.locals ∧ (∀ w ∈ ws, ∀ (a' : Array Value) (U : State), s.WarmedH U.vm → w.before a' U = true) ∧ Cond.codeWith y bytes maxL ret hh ∈ ws) ∧
  (Cond.codeWith y bytes maxL ret hh).before args s = true ∧ (Cond.initialized y.cls).before args s = true ∧ (y.cls ≠ "java/lang/invoke/MethodHandle" ∧ y.cls ≠ "java/lang/invoke/VarHandle") ∧
  (∀ sig, parseMethodDescriptor y.desc = some sig → n = sig.parameters.length) ∧ (Cond.methodLink own index y).before args s = true ∧ (Cond.instanceMethod y).before args s = true ∧ (Cond.selects C y y).before args s = true
theorem vx_cwVW {own C : String} {index maxL mc ms : Nat} {y : MethodName} {bytes : ByteArray} {ret : Option FieldType} {hh : List (Nat × Nat × Nat × Nat)} {Ts ws ws' : List Cond} {rm : Room} (n : Nat) (ht : ∀ w ∈ Ts, w.before args s = true) (hT : GoodIn Ts (wsV own index C y ws)) (hw : ws = Cond.codeWith y bytes maxL ret hh :: ws') (hrc : rm.cells = mc) (hrs : rm.slots = ms)
    (hd : y.cls = C ∧ y.cls ≠ "java/lang/invoke/MethodHandle" ∧ y.cls ≠ "java/lang/invoke/VarHandle" ∧ (parseMethodDescriptor y.desc).map (fun d => d.parameters.length) = some n) (hR : rm.frames + 1 ≤ R.frames ∧ 8 + (maxL + 11) + rm.locals ≤ R.locals) :
    vx_CVW R s args own C index y bytes maxL ret hh ws rm mc ms n := by
  obtain ⟨hC, hd⟩ := hd
  subst hC
  have ok : ∀ w ∈ wsV own index y.cls y ws, w.before args s = true := fun w h => ht w (hT w h).1
  have hG : GoodIn Ts ws := fun w h => hT w (by unfold wsV; exact List.mem_append_right _ h)
  have hc : Cond.codeWith y bytes maxL ret hh ∈ ws := by rw [hw]; exact List.mem_cons_self
  refine ⟨⟨hrc, hrs, hR.1, hR.2, pay_in ht hG, hc⟩, ht _ (hG _ hc).1, ok _ (by simp [wsV]), ⟨hd.1, hd.2.1⟩, fun sig h => ?_, ok _ (by simp [wsV]), ok _ (by simp [wsV]), ok _ (by simp [wsV])⟩
  have h2 := hd.2.2
  rw [h] at h2
  exact (Option.some.inj h2).symm
theorem vx_runVW {y : MethodName} {bytes cc : ByteArray} {maxL nL mc ms n index : Nat} {ret : Option FieldType} {hh : List (Nat × Nat × Nat × Nat)} {ws : List Cond} {rm : Room} {Pc : Array Value → State → Prop} {Qc : Array Value → State → Outcome → State → Prop} {free : Addr → Prop} {Ts : List Cond} {own C : String} {b : Addr} {As rest : List Value} {g : JFrame}
    (S : CallFix p m c cc nL s args Ts own) (hM : Met l y ws rm Pc Qc mc ms free) (cw : vx_CVW R s args own C index y bytes maxL ret hh ws rm mc ms n) (hp : PreV s H C b Pc As)
    (hg : g.method = m) (hn : As.length = n) (hsize : g.locals.size = nL) (hstack : g.stack = As.reverse ++ .ref b :: rest) (hW : 2 * g.monitorRoom + (rest.map fun v => v.category).sum ≤ 8) (hdg : decode cc g.pc = .ok (.invokevirtual index, 3)) (hf : cells + mc ≤ R.cells ∧ slots + ms ≤ R.slots) :
    va_Run p l e R s m args below meth c H locs cells slots mc ms g rest (Qc (Value.ref b :: As).toArray) free := by
  obtain ⟨⟨hrc, hrs, hfr, hlo, hws, hcw⟩, hcode, hini, hy, hlen, hl, hin, hse⟩ := cw
  have hK : Back l R p e below s args y 3 8 (PreOf R mc ms Pc) (PostOf Qc mc ms free) := va_backW (hh := hh) (bytes := bytes) (maxL := maxL) (ret := ret) hM hp.1 hrc hrs hfr hlo hws hcw (fun a' U hW => word_at hW (Or.inl (by first | rfl | simp [Cond.onTables, Cond.keeps, Cond.steady])) hini)
  obtain ⟨hx, hb, hml, ho, -⟩ := S
  obtain ⟨-, ⟨cellB, hcB, hoB, hclB⟩, hPc⟩ := hp
  intro T hT X
  obtain ⟨v, vm₁, ⟨U', l2, c2, s2⟩, hW₁, X', ⟨g', mk, t, L, e1, e2, hq, h1, hL, h2, h3⟩, st⟩ := vx_callVW X hx (C := C) (hh := hh) (bytes := bytes) (maxL := maxL) (ret := ret) ho hl hin hse hcode hy hK (by rw [hT]; exact hcB) hoB hclB hg (hsize.trans hml.symm) (argsL := As) (rest := rest) (fun sig h => hn.trans (hlen sig h)) hstack hW (by rw [hb]; exact hdg)
    (fun vm₁ hW₁ => ⟨hf.1, hf.2, hPc (T.setVm vm₁) hT hW₁⟩)
  dsimp only [Pt.U, Pt.locs, Pt.cells, Pt.slots] at X' e1 e2 h1 h2 h3 st
  subst h1; subst h2; subst h3
  exact ⟨v, (T.setVm vm₁).calling g' mk (Value.ref b :: As).toArray, t, U', L, hT, X', hL, e1, e2, hq, st⟩
section
variable {y : MethodName} {bytes cc : ByteArray} {maxL nL mc ms n index : Nat} {ret : Option FieldType} {ws : List Cond} {rm : Room} {Pc : Array Value → State → Prop} {Qc : Array Value → State → Outcome → State → Prop} {XC : String → State → State → Prop} {free : Addr → Prop} {Ts : List Cond} {own C : String} {b : Addr} {As rest : List Value} {g : JFrame}
theorem vx_runVX {hh : List (Nat × Nat × Nat × Nat)} (S : CallFix p m c cc nL s args Ts own) (hM : vx_Met l y ws rm Pc Qc XC mc ms free) (cw : vx_CVW R s args own C index y bytes maxL ret hh ws rm mc ms n) (hp : PreV s H C b Pc As)
    (hg : g.method = m) (hn : As.length = n) (hsize : g.locals.size = nL) (hstack : g.stack = As.reverse ++ .ref b :: rest) (hW : 2 * g.monitorRoom + (rest.map fun v => v.category).sum ≤ 8) (hdg : decode cc g.pc = .ok (.invokevirtual index, 3)) (hf : cells + mc ≤ R.cells ∧ slots + ms ≤ R.slots) :
    vx_Run p l e R s m args below meth c H locs cells slots mc ms g rest (Qc (Value.ref b :: As).toArray) XC free := by
  obtain ⟨⟨hrc, hrs, hfr, hlo, hws, hcw⟩, hcode, hini, hy, hlen, hl, hin, hse⟩ := cw
  have hK : vx_Back l R p e below s args y 3 8 (PreOf R mc ms Pc) (PostOf Qc mc ms free) (vx_Post XC mc ms free) := vx_backW (hh := hh) (bytes := bytes) (maxL := maxL) (ret := ret) hM hp.1 hrc hrs hfr hlo hws hcw (fun a' U hW => word_at hW (Or.inl (by first | rfl | simp [Cond.onTables, Cond.keeps, Cond.steady])) hini)
  obtain ⟨hx, hb, hml, ho, -⟩ := S
  obtain ⟨-, ⟨cellB, hcB, hoB, hclB⟩, hPc⟩ := hp
  intro T hT X
  rcases vx_callVX X hx (C := C) (hh := hh) (bytes := bytes) (maxL := maxL) (ret := ret) ho hl hin hse hcode hy hK (by rw [hT]; exact hcB) hoB hclB hg (hsize.trans hml.symm) (argsL := As) (rest := rest) (fun sig h => hn.trans (hlen sig h)) hstack hW (by rw [hb]; exact hdg)
    (fun vm₁ hW₁ => ⟨hf.1, hf.2, hPc (T.setVm vm₁) hT hW₁⟩) with ⟨v, vm₁, ⟨U', l2, c2, s2⟩, hW₁, X', ⟨g', mk, t, L, e1, e2, hq, h1, hL, h2, h3⟩, st⟩ | ⟨q, vm₁, ⟨U', l2, c2, s2⟩, hW₁, X', ⟨g', mk, t, L, E, ce, e1, e2, hq, hce, hcv, hcl, h1, hL, h2, h3⟩, st⟩
  · dsimp only [Pt.U, Pt.locs, Pt.cells, Pt.slots] at X' e1 e2 h1 h2 h3 st
    subst h1; subst h2; subst h3
    exact Or.inl ⟨v, (T.setVm vm₁).calling g' mk (Value.ref b :: As).toArray, t, U', L, hT, X', hL, e1, e2, hq, st⟩
  · dsimp only [Pt.U, Pt.locs, Pt.cells, Pt.slots] at X' e1 e2 h1 h2 h3 st hcl
    subst h1; subst h2; subst h3
    exact Or.inr ⟨q, (T.setVm vm₁).calling g' mk (Value.ref b :: As).toArray, t, U', L, E, ce, hT, X', hL, e1, e2, hq, hce, hcv, vx_cls hW₁ hcl, st⟩
theorem vx_runSX {hh : List (Nat × Nat × Nat × Nat)} (S : CallFix p m c cc nL s args Ts own) (hM : vx_Met l y ws rm Pc Qc XC mc ms free) (cw : vx_CSW R s args own index y bytes maxL ret hh ws rm mc ms n) (hp : PreS s H Pc As)
    (hg : g.method = m) (hn : As.length = n) (hsize : g.locals.size = nL) (hstack : g.stack = As.reverse ++ rest) (hW : 2 * g.monitorRoom + (rest.map fun v => v.category).sum ≤ 8) (hdg : decode cc g.pc = .ok (.invokestatic index, 3)) (hf : cells + mc ≤ R.cells ∧ slots + ms ≤ R.slots) :
    vx_Run p l e R s m args below meth c H locs cells slots mc ms g rest (Qc As.toArray) XC free := by
  obtain ⟨⟨hrc, hrs, hfr, hlo, hws, hcw⟩, hcode, hini, hy, hlen, hl, hstt⟩ := cw
  have hK : vx_Back l R p e below s args y 3 8 (PreOf R mc ms Pc) (PostOf Qc mc ms free) (vx_Post XC mc ms free) := vx_backW (hh := hh) (bytes := bytes) (maxL := maxL) (ret := ret) hM hp.1 hrc hrs hfr hlo hws hcw (fun a' U hW => word_at hW (Or.inl (by first | rfl | simp [Cond.onTables, Cond.keeps, Cond.steady])) hini)
  obtain ⟨hx, hb, hml, ho, -⟩ := S
  intro T hT X
  rcases vx_callSX X hx (hh := hh) (bytes := bytes) (maxL := maxL) (ret := ret) ho hl hstt hini hcode hy hK hg (hsize.trans hml.symm) (argsL := As) (rest := rest) (fun sig h => hn.trans (hlen sig h)) hstack hW (by rw [hb]; exact hdg)
    (fun vm₁ hW₁ => ⟨hf.1, hf.2, hp.2 (T.setVm vm₁) hT hW₁⟩) with ⟨v, vm₁, ⟨U', l2, c2, s2⟩, hW₁, X', ⟨g', mk, t, L, e1, e2, hq, h1, hL, h2, h3⟩, st⟩ | ⟨q, vm₁, ⟨U', l2, c2, s2⟩, hW₁, X', ⟨g', mk, t, L, E, ce, e1, e2, hq, hce, hcv, hcl, h1, hL, h2, h3⟩, st⟩
  · dsimp only [Pt.U, Pt.locs, Pt.cells, Pt.slots] at X' e1 e2 h1 h2 h3 st
    subst h1; subst h2; subst h3
    exact Or.inl ⟨v, (T.setVm vm₁).calling g' mk As.toArray, t, U', L, hT, X', hL, e1, e2, hq, st⟩
  · dsimp only [Pt.U, Pt.locs, Pt.cells, Pt.slots] at X' e1 e2 h1 h2 h3 st hcl
    subst h1; subst h2; subst h3
    exact Or.inr ⟨q, (T.setVm vm₁).calling g' mk As.toArray, t, U', L, E, ce, hT, X', hL, e1, e2, hq, hce, hcv, vx_cls hW₁ hcl, st⟩
end
end VXH
theorem vx_ofWH {l : Launch} {y : MethodName} {ws ws' : List Cond} {rm : Room} {Pc : Array Value → State → Prop} {Qc : Array Value → State → Outcome → State → Prop} {XC : String → State → State → Prop} {mc ms : Nat} {free : Addr → Prop} {cc : ByteArray} {maxL : Nat} {ret : Option FieldType} {hh : List (Nat × Nat × Nat × Nat)}
    (hy : plainName y.cls = true) (hw : ws = Cond.codeWith y cc maxL ret hh :: ws')
    (body : ∀ p e s m args below meth c s₁, BodyLoose p l y (headSpec ws rm) cc maxL ret e s m args below meth c s₁ → c.maxLocals = maxL → Pc args s →
      W p l e (headSpec ws rm).room s m args below meth c s.heap [] 0 0 (vx_MQ below Qc XC args s mc ms free) (entryFrame m args maxL)) : vx_Met l y ws rm Pc Qc XC mc ms free := by
  refine MetFree.of_bodyS (code := cc) (maxLocals := maxL) (ret := ret) hy ?_ ?_
  · intro args s m h hn
    obtain ⟨m9, meth, c, hn9, h1, h2, h3, h4, -, h5, h6, -⟩ := Cond.codeWith_spec (atoms_spec (ws := ws) h _ (by rw [hw]; exact List.mem_cons_self))
    cases hn.symm.trans hn9
    exact ⟨meth, c, h1, h2, h3, h4, h5, h6⟩
  · intro p e s m args below meth c s₁ B hml hP _
    have hh0 : s₁.heap = s.heap := by rw [B.state]; rfl
    obtain ⟨t, a1, o, b1, b2, b3⟩ := body p e s m args below meth c s₁ B hml hP s₁ hh0 (Stand.of_body B)
    exact ⟨t, o, a1, b1, b2, b3⟩
/-! ===== END ===== -/
end
section
/-! ===== BEGIN printed: names, fields, word lists, decode rows ===== -/
def RX0 : String := "CodedStore$Catalog"
def TX0 : u_T := fun k => match k with
  | 0 => ("CodedStore$Catalog", "disk", "LCodedStore$Disk;", true)
  | 1 => ("CodedStore$Catalog", "whole", "[Z", true)
  | 2 => ("CodedStore$Catalog", "live", "[Z", true)
  | _ => ("CodedStore$Catalog", "surveyedAt", "I", false)
def tyX0 : Nat → FieldType := fun k => match k with
  | 0 => .object "CodedStore$Disk"
  | 1 => .array .boolean
  | 2 => .array .boolean
  | _ => .int
abbrev wsX00 : List Cond := u_ws RX0 TX0 4
theorem nmX0 : ∀ a, a < 4 → ∀ b, b < 4 → a ≠ b → (TX0 a).2.1 ≠ (TX0 b).2.1 := by decide +kernel
theorem tyX0_ok : ∀ k, k < 4 → parseFieldDescriptor (TX0 k).2.2.1 = some (tyX0 k) := by decide +kernel
abbrev cX0_init : ByteArray := prog_2_method_1_code
def yX0_init : MethodName := ⟨RX0, "<init>", "(LCodedStore$Disk;)V"⟩
abbrev cX0_survey : ByteArray := prog_2_method_2_code
def yX0_survey : MethodName := ⟨RX0, "survey", "()V"⟩
abbrev cX0_hasAllParts : ByteArray := prog_2_method_3_code
def yX0_hasAllParts : MethodName := ⟨RX0, "hasAllParts", "(I)Z"⟩
abbrev cX0_isOutdone : ByteArray := prog_2_method_4_code
def yX0_isOutdone : MethodName := ⟨RX0, "isOutdone", "(I)Z"⟩
abbrev cX0_isLive : ByteArray := prog_2_method_5_code
def yX0_isLive : MethodName := ⟨RX0, "isLive", "(I)Z"⟩
abbrev cX0_isLeftOver : ByteArray := prog_2_method_6_code
def yX0_isLeftOver : MethodName := ⟨RX0, "isLeftOver", "(I)Z"⟩
abbrev cX0_isLiveGrave : ByteArray := prog_2_method_7_code
def yX0_isLiveGrave : MethodName := ⟨RX0, "isLiveGrave", "(I)Z"⟩
abbrev cX0_isText : ByteArray := prog_2_method_8_code
def yX0_isText : MethodName := ⟨RX0, "isText", "(I)Z"⟩
abbrev cX0_firstBlock : ByteArray := prog_2_method_9_code
def yX0_firstBlock : MethodName := ⟨RX0, "firstBlock", "(I)I"⟩
abbrev cX0_firstBlockOfRank : ByteArray := prog_2_method_10_code
def yX0_firstBlockOfRank : MethodName := ⟨RX0, "firstBlockOfRank", "(I)I"⟩
abbrev cX0_countTextsBelow : ByteArray := prog_2_method_11_code
def yX0_countTextsBelow : MethodName := ⟨RX0, "countTextsBelow", "(I)I"⟩
abbrev cX0_countTexts : ByteArray := prog_2_method_12_code
def yX0_countTexts : MethodName := ⟨RX0, "countTexts", "()I"⟩
abbrev cX0_countLive : ByteArray := prog_2_method_13_code
def yX0_countLive : MethodName := ⟨RX0, "countLive", "()I"⟩
abbrev cX0_countLiveGraves : ByteArray := prog_2_method_14_code
def yX0_countLiveGraves : MethodName := ⟨RX0, "countLiveGraves", "()I"⟩
def RX1 : String := "CodedStore$Coder"
def TX1 : u_T := fun k => match k with
  | _ => ("", "", "", false)
def tyX1 : Nat → FieldType := fun k => match k with
  | _ => .int
abbrev wsX10 : List Cond := u_ws RX1 TX1 0
theorem nmX1 : ∀ a, a < 0 → ∀ b, b < 0 → a ≠ b → (TX1 a).2.1 ≠ (TX1 b).2.1 := by decide +kernel
theorem tyX1_ok : ∀ k, k < 0 → parseFieldDescriptor (TX1 k).2.2.1 = some (tyX1 k) := by decide +kernel
abbrev cX1_encode : ByteArray := prog_3_method_2_code
def yX1_encode : MethodName := ⟨RX1, "encode", "(LCodedStore$Octets;LCodedStore$Octets;)V"⟩
abbrev cX1_bestDistance : ByteArray := prog_3_method_3_code
def yX1_bestDistance : MethodName := ⟨RX1, "bestDistance", "(LCodedStore$Octets;I)I"⟩
abbrev cX1_rowLength : ByteArray := prog_3_method_4_code
def yX1_rowLength : MethodName := ⟨RX1, "rowLength", "(LCodedStore$Octets;II)I"⟩
abbrev cX1_decode : ByteArray := prog_3_method_5_code
def yX1_decode : MethodName := ⟨RX1, "decode", "(LCodedStore$Octets;LCodedStore$Octets;)I"⟩
abbrev cX1_decodeSingle : ByteArray := prog_3_method_6_code
def yX1_decodeSingle : MethodName := ⟨RX1, "decodeSingle", "(LCodedStore$Octets;ILCodedStore$Octets;)I"⟩
abbrev cX1_decodeRow : ByteArray := prog_3_method_7_code
def yX1_decodeRow : MethodName := ⟨RX1, "decodeRow", "(LCodedStore$Octets;ILCodedStore$Octets;)I"⟩
def RX2 : String := "CodedStore$Disk"
def TX2 : u_T := fun k => match k with
  | 0 => ("CodedStore$Disk", "words", "[I", true)
  | 1 => ("CodedStore$Disk", "on", "Z", false)
  | 2 => ("CodedStore$Disk", "left", "I", false)
  | _ => ("CodedStore$Disk", "done", "I", false)
def tyX2 : Nat → FieldType := fun k => match k with
  | 0 => .array .int
  | 1 => .boolean
  | 2 => .int
  | _ => .int
abbrev wsX20 : List Cond := u_ws RX2 TX2 4
theorem nmX2 : ∀ a, a < 4 → ∀ b, b < 4 → a ≠ b → (TX2 a).2.1 ≠ (TX2 b).2.1 := by decide +kernel
theorem tyX2_ok : ∀ k, k < 4 → parseFieldDescriptor (TX2 k).2.2.1 = some (tyX2 k) := by decide +kernel
abbrev cX2_init : ByteArray := prog_4_method_1_code
def yX2_init : MethodName := ⟨RX2, "<init>", "()V"⟩
abbrev cX2_isOn : ByteArray := prog_4_method_2_code
def yX2_isOn : MethodName := ⟨RX2, "isOn", "()Z"⟩
abbrev cX2_switchOn : ByteArray := prog_4_method_3_code
def yX2_switchOn : MethodName := ⟨RX2, "switchOn", "()V"⟩
abbrev cX2_allowWrites : ByteArray := prog_4_method_4_code
def yX2_allowWrites : MethodName := ⟨RX2, "allowWrites", "(I)V"⟩
abbrev cX2_writesLeft : ByteArray := prog_4_method_5_code
def yX2_writesLeft : MethodName := ⟨RX2, "writesLeft", "()I"⟩
abbrev cX2_writesDone : ByteArray := prog_4_method_6_code
def yX2_writesDone : MethodName := ⟨RX2, "writesDone", "()I"⟩
abbrev cX2_write : ByteArray := prog_4_method_7_code
def yX2_write : MethodName := ⟨RX2, "write", "(I[I)Z"⟩
abbrev cX2_wordAt : ByteArray := prog_4_method_8_code
def yX2_wordAt : MethodName := ⟨RX2, "wordAt", "(II)I"⟩
abbrev cX2_numberOf : ByteArray := prog_4_method_9_code
def yX2_numberOf : MethodName := ⟨RX2, "numberOf", "(I)I"⟩
abbrev cX2_partOf : ByteArray := prog_4_method_10_code
def yX2_partOf : MethodName := ⟨RX2, "partOf", "(I)I"⟩
abbrev cX2_partsOf : ByteArray := prog_4_method_11_code
def yX2_partsOf : MethodName := ⟨RX2, "partsOf", "(I)I"⟩
abbrev cX2_formOf : ByteArray := prog_4_method_12_code
def yX2_formOf : MethodName := ⟨RX2, "formOf", "(I)I"⟩
abbrev cX2_keyOf : ByteArray := prog_4_method_13_code
def yX2_keyOf : MethodName := ⟨RX2, "keyOf", "(I)I"⟩
abbrev cX2_octetsOf : ByteArray := prog_4_method_14_code
def yX2_octetsOf : MethodName := ⟨RX2, "octetsOf", "(I)I"⟩
abbrev cX2_greatestNumber : ByteArray := prog_4_method_15_code
def yX2_greatestNumber : MethodName := ⟨RX2, "greatestNumber", "()I"⟩
abbrev cX2_blockOf : ByteArray := prog_4_method_16_code
def yX2_blockOf : MethodName := ⟨RX2, "blockOf", "(II)I"⟩
def RX3 : String := "CodedStore$Octets"
def TX3 : u_T := fun k => match k with
  | 0 => ("CodedStore$Octets", "octets", "[I", true)
  | _ => ("CodedStore$Octets", "size", "I", false)
def tyX3 : Nat → FieldType := fun k => match k with
  | 0 => .array .int
  | _ => .int
abbrev wsX30 : List Cond := u_ws RX3 TX3 2
theorem nmX3 : ∀ a, a < 2 → ∀ b, b < 2 → a ≠ b → (TX3 a).2.1 ≠ (TX3 b).2.1 := by decide +kernel
theorem tyX3_ok : ∀ k, k < 2 → parseFieldDescriptor (TX3 k).2.2.1 = some (tyX3 k) := by decide +kernel
abbrev cX3_init : ByteArray := prog_5_method_1_code
def yX3_init : MethodName := ⟨RX3, "<init>", "()V"⟩
abbrev cX3_size : ByteArray := prog_5_method_2_code
def yX3_size : MethodName := ⟨RX3, "size", "()I"⟩
abbrev cX3_empty : ByteArray := prog_5_method_3_code
def yX3_empty : MethodName := ⟨RX3, "empty", "()V"⟩
abbrev cX3_append : ByteArray := prog_5_method_4_code
def yX3_append : MethodName := ⟨RX3, "append", "(I)V"⟩
abbrev cX3_at : ByteArray := prog_5_method_5_code
def yX3_at : MethodName := ⟨RX3, "at", "(I)I"⟩
abbrev cX3_setBit : ByteArray := prog_5_method_6_code
def yX3_setBit : MethodName := ⟨RX3, "setBit", "(II)V"⟩
abbrev cX3_fourFrom : ByteArray := prog_5_method_7_code
def yX3_fourFrom : MethodName := ⟨RX3, "fourFrom", "(I)I"⟩
abbrev cX3_becomeLike : ByteArray := prog_5_method_8_code
def yX3_becomeLike : MethodName := ⟨RX3, "becomeLike", "(LCodedStore$Octets;)V"⟩
abbrev cX3_repeat : ByteArray := prog_5_method_9_code
def yX3_repeat : MethodName := ⟨RX3, "repeat", "(II)V"⟩
def RX4 : String := "CodedStore"
def TX4 : u_T := fun k => match k with
  | 0 => ("CodedStore", "disk", "LCodedStore$Disk;", true)
  | 1 => ("CodedStore", "catalog", "LCodedStore$Catalog;", true)
  | 2 => ("CodedStore", "tape", "LCodedStore$Octets;", true)
  | 3 => ("CodedStore", "loaded", "LCodedStore$Octets;", true)
  | 4 => ("CodedStore", "content", "LCodedStore$Octets;", true)
  | 5 => ("CodedStore", "decoded", "LCodedStore$Octets;", true)
  | 6 => ("CodedStore", "row", "[I", true)
  | 7 => ("CodedStore", "zeros", "[I", true)
  | _ => ("CodedStore", "failedPlace", "I", false)
def tyX4 : Nat → FieldType := fun k => match k with
  | 0 => .object "CodedStore$Disk"
  | 1 => .object "CodedStore$Catalog"
  | 2 => .object "CodedStore$Octets"
  | 3 => .object "CodedStore$Octets"
  | 4 => .object "CodedStore$Octets"
  | 5 => .object "CodedStore$Octets"
  | 6 => .array .int
  | 7 => .array .int
  | _ => .int
abbrev wsX40 : List Cond := u_ws RX4 TX4 9
theorem nmX4 : ∀ a, a < 9 → ∀ b, b < 9 → a ≠ b → (TX4 a).2.1 ≠ (TX4 b).2.1 := by decide +kernel
theorem tyX4_ok : ∀ k, k < 9 → parseFieldDescriptor (TX4 k).2.2.1 = some (tyX4 k) := by decide +kernel
abbrev cX4_init : ByteArray := prog_1_method_1_code
def yX4_init : MethodName := ⟨RX4, "<init>", "()V"⟩
abbrev cX4_feed : ByteArray := prog_1_method_2_code
def yX4_feed : MethodName := ⟨RX4, "feed", "(IJ)I"⟩
abbrev cX4_commit : ByteArray := prog_1_method_3_code
def yX4_commit : MethodName := ⟨RX4, "commit", "(I)I"⟩
abbrev cX4_delete : ByteArray := prog_1_method_4_code
def yX4_delete : MethodName := ⟨RX4, "delete", "(I)I"⟩
abbrev cX4_load : ByteArray := prog_1_method_5_code
def yX4_load : MethodName := ⟨RX4, "load", "(I)I"⟩
abbrev cX4_out : ByteArray := prog_1_method_6_code
def yX4_out : MethodName := ⟨RX4, "out", "(I)I"⟩
abbrev cX4_clean : ByteArray := prog_1_method_7_code
def yX4_clean : MethodName := ⟨RX4, "clean", "()I"⟩
abbrev cX4_power : ByteArray := prog_1_method_8_code
def yX4_power : MethodName := ⟨RX4, "power", "(I)I"⟩
abbrev cX4_recover : ByteArray := prog_1_method_9_code
def yX4_recover : MethodName := ⟨RX4, "recover", "()I"⟩
abbrev cX4_word : ByteArray := prog_1_method_10_code
def yX4_word : MethodName := ⟨RX4, "word", "(II)I"⟩
abbrev cX4_told : ByteArray := prog_1_method_11_code
def yX4_told : MethodName := ⟨RX4, "told", "(I)I"⟩
abbrev cX4_number : ByteArray := prog_1_method_12_code
def yX4_number : MethodName := ⟨RX4, "number", "(I)I"⟩
abbrev cX4_key : ByteArray := prog_1_method_13_code
def yX4_key : MethodName := ⟨RX4, "key", "(I)I"⟩
abbrev cX4_pack : ByteArray := prog_1_method_14_code
def yX4_pack : MethodName := ⟨RX4, "pack", "()I"⟩
abbrev cX4_unpack : ByteArray := prog_1_method_15_code
def yX4_unpack : MethodName := ⟨RX4, "unpack", "()I"⟩
abbrev cX4_place : ByteArray := prog_1_method_16_code
def yX4_place : MethodName := ⟨RX4, "place", "()I"⟩
abbrev cX4_surveyed : ByteArray := prog_1_method_17_code
def yX4_surveyed : MethodName := ⟨RX4, "surveyed", "()LCodedStore$Catalog;"⟩
abbrev cX4_putRecord : ByteArray := prog_1_method_18_code
def yX4_putRecord : MethodName := ⟨RX4, "putRecord", "(II)I"⟩
abbrev cX4_partsFor : ByteArray := prog_1_method_19_code
def yX4_partsFor : MethodName := ⟨RX4, "partsFor", "(I)I"⟩
abbrev cX4_fillRow : ByteArray := prog_1_method_20_code
def yX4_fillRow : MethodName := ⟨RX4, "fillRow", "(IIIII)V"⟩
abbrev cX4_gatherContent : ByteArray := prog_1_method_21_code
def yX4_gatherContent : MethodName := ⟨RX4, "gatherContent", "(I)V"⟩
def RX5 : String := "CodedStoreModel"
def TX5 : u_T := fun k => match k with
  | 0 => ("CodedStoreModel", "disk", "[I", true)
  | 1 => ("CodedStoreModel", "tape", "[I", true)
  | 2 => ("CodedStoreModel", "size", "I", false)
  | 3 => ("CodedStoreModel", "on", "Z", false)
  | 4 => ("CodedStoreModel", "until", "I", false)
  | 5 => ("CodedStoreModel", "writes", "I", false)
  | 6 => ("CodedStoreModel", "place", "I", false)
  | 7 => ("CodedStoreModel", "loaded", "[I", true)
  | 8 => ("CodedStoreModel", "loadedSize", "I", false)
  | 9 => ("CodedStoreModel", "made", "[I", true)
  | 10 => ("CodedStoreModel", "madeSize", "I", false)
  | 11 => ("CodedStoreModel", "hand", "[I", true)
  | 12 => ("CodedStoreModel", "handSize", "I", false)
  | 13 => ("CodedStoreModel", "thrown", "I", false)
  | _ => ("CodedStoreModel", "wasLive", "[Z", true)
def tyX5 : Nat → FieldType := fun k => match k with
  | 0 => .array .int
  | 1 => .array .int
  | 2 => .int
  | 3 => .boolean
  | 4 => .int
  | 5 => .int
  | 6 => .int
  | 7 => .array .int
  | 8 => .int
  | 9 => .array .int
  | 10 => .int
  | 11 => .array .int
  | 12 => .int
  | 13 => .int
  | _ => .array .boolean
abbrev wsX50 : List Cond := u_ws RX5 TX5 15
theorem nmX5 : ∀ a, a < 15 → ∀ b, b < 15 → a ≠ b → (TX5 a).2.1 ≠ (TX5 b).2.1 := by decide +kernel
theorem tyX5_ok : ∀ k, k < 15 → parseFieldDescriptor (TX5 k).2.2.1 = some (tyX5 k) := by decide +kernel
abbrev cX5_init : ByteArray := prog_7_method_1_code
def yX5_init : MethodName := ⟨RX5, "<init>", "()V"⟩
abbrev cX5_thrown : ByteArray := prog_7_method_2_code
def yX5_thrown : MethodName := ⟨RX5, "thrown", "()I"⟩
abbrev cX5_feed : ByteArray := prog_7_method_3_code
def yX5_feed : MethodName := ⟨RX5, "feed", "(IJ)I"⟩
abbrev cX5_alike : ByteArray := prog_7_method_4_code
def yX5_alike : MethodName := ⟨RX5, "alike", "(II)I"⟩
abbrev cX5_put : ByteArray := prog_7_method_5_code
def yX5_put : MethodName := ⟨RX5, "put", "(I)V"⟩
abbrev cX5_code : ByteArray := prog_7_method_6_code
def yX5_code : MethodName := ⟨RX5, "code", "()V"⟩
abbrev cX5_wrong : ByteArray := prog_7_method_7_code
def yX5_wrong : MethodName := ⟨RX5, "wrong", "(I)Z"⟩
abbrev cX5_decode : ByteArray := prog_7_method_8_code
def yX5_decode : MethodName := ⟨RX5, "decode", "()Z"⟩
abbrev cX5_load0 : ByteArray := prog_7_method_9_code
def yX5_load0 : MethodName := ⟨RX5, "load0", "()V"⟩
abbrev cX5_takeTape : ByteArray := prog_7_method_10_code
def yX5_takeTape : MethodName := ⟨RX5, "takeTape", "()V"⟩
abbrev cX5_pack : ByteArray := prog_7_method_11_code
def yX5_pack : MethodName := ⟨RX5, "pack", "()I"⟩
abbrev cX5_unpack : ByteArray := prog_7_method_12_code
def yX5_unpack : MethodName := ⟨RX5, "unpack", "()I"⟩
abbrev cX5_place : ByteArray := prog_7_method_13_code
def yX5_place : MethodName := ⟨RX5, "place", "()I"⟩
abbrev cX5_out : ByteArray := prog_7_method_14_code
def yX5_out : MethodName := ⟨RX5, "out", "(I)I"⟩
abbrev cX5_numberOf : ByteArray := prog_7_method_15_code
def yX5_numberOf : MethodName := ⟨RX5, "numberOf", "(I)I"⟩
abbrev cX5_partOf : ByteArray := prog_7_method_16_code
def yX5_partOf : MethodName := ⟨RX5, "partOf", "(I)I"⟩
abbrev cX5_partsOf : ByteArray := prog_7_method_17_code
def yX5_partsOf : MethodName := ⟨RX5, "partsOf", "(I)I"⟩
abbrev cX5_formOf : ByteArray := prog_7_method_18_code
def yX5_formOf : MethodName := ⟨RX5, "formOf", "(I)I"⟩
abbrev cX5_keyOf : ByteArray := prog_7_method_19_code
def yX5_keyOf : MethodName := ⟨RX5, "keyOf", "(I)I"⟩
abbrev cX5_isWhole : ByteArray := prog_7_method_20_code
def yX5_isWhole : MethodName := ⟨RX5, "isWhole", "(I)Z"⟩
abbrev cX5_isLive : ByteArray := prog_7_method_21_code
def yX5_isLive : MethodName := ⟨RX5, "isLive", "(I)Z"⟩
abbrev cX5_find : ByteArray := prog_7_method_22_code
def yX5_find : MethodName := ⟨RX5, "find", "(I)I"⟩
abbrev cX5_isText : ByteArray := prog_7_method_23_code
def yX5_isText : MethodName := ⟨RX5, "isText", "(I)Z"⟩
abbrev cX5_greatest : ByteArray := prog_7_method_24_code
def yX5_greatest : MethodName := ⟨RX5, "greatest", "()I"⟩
abbrev cX5_mayWrite : ByteArray := prog_7_method_25_code
def yX5_mayWrite : MethodName := ⟨RX5, "mayWrite", "()Z"⟩
abbrev cX5_findLive : ByteArray := prog_7_method_26_code
def yX5_findLive : MethodName := ⟨RX5, "findLive", "()I"⟩
abbrev cX5_word4 : ByteArray := prog_7_method_27_code
def yX5_word4 : MethodName := ⟨RX5, "word4", "(I)I"⟩
abbrev cX5_putRecord : ByteArray := prog_7_method_28_code
def yX5_putRecord : MethodName := ⟨RX5, "putRecord", "(II)I"⟩
abbrev cX5_commit : ByteArray := prog_7_method_29_code
def yX5_commit : MethodName := ⟨RX5, "commit", "(I)I"⟩
abbrev cX5_delete : ByteArray := prog_7_method_30_code
def yX5_delete : MethodName := ⟨RX5, "delete", "(I)I"⟩
abbrev cX5_load : ByteArray := prog_7_method_31_code
def yX5_load : MethodName := ⟨RX5, "load", "(I)I"⟩
abbrev cX5_zero : ByteArray := prog_7_method_32_code
def yX5_zero : MethodName := ⟨RX5, "zero", "(I)Z"⟩
abbrev cX5_clean : ByteArray := prog_7_method_33_code
def yX5_clean : MethodName := ⟨RX5, "clean", "()I"⟩
abbrev cX5_power : ByteArray := prog_7_method_34_code
def yX5_power : MethodName := ⟨RX5, "power", "(I)I"⟩
abbrev cX5_texts : ByteArray := prog_7_method_35_code
def yX5_texts : MethodName := ⟨RX5, "texts", "()I"⟩
abbrev cX5_recover : ByteArray := prog_7_method_36_code
def yX5_recover : MethodName := ⟨RX5, "recover", "()I"⟩
abbrev cX5_word : ByteArray := prog_7_method_37_code
def yX5_word : MethodName := ⟨RX5, "word", "(II)I"⟩
abbrev cX5_told : ByteArray := prog_7_method_38_code
def yX5_told : MethodName := ⟨RX5, "told", "(I)I"⟩
abbrev cX5_number : ByteArray := prog_7_method_39_code
def yX5_number : MethodName := ⟨RX5, "number", "(I)I"⟩
abbrev cX5_key : ByteArray := prog_7_method_40_code
def yX5_key : MethodName := ⟨RX5, "key", "(I)I"⟩
def RJ9 : String := "java/lang/Math"
def TJ9 : u_T := fun k => match k with
  | _ => ("", "", "", false)
def tyJ9 : Nat → FieldType := fun k => match k with
  | _ => .int
abbrev wsJ90 : List Cond := u_ws RJ9 TJ9 0
theorem nmJ9 : ∀ a, a < 0 → ∀ b, b < 0 → a ≠ b → (TJ9 a).2.1 ≠ (TJ9 b).2.1 := by decide +kernel
theorem tyJ9_ok : ∀ k, k < 0 → parseFieldDescriptor (TJ9 k).2.2.1 = some (tyJ9 k) := by decide +kernel
abbrev cJ9_max_7cf53 : ByteArray := prog_12_method_65_code
def yJ9_max_7cf53 : MethodName := ⟨RJ9, "max", "(II)I"⟩
abbrev cJ9_min_7cf53 : ByteArray := prog_12_method_69_code
def yJ9_min_7cf53 : MethodName := ⟨RJ9, "min", "(II)I"⟩
def RL : String := "CodedStoreLaw"
abbrev cL_feed : ByteArray := method_3_code
def yL_feed : MethodName := ⟨RL, "feed", "(LCodedStore;IJ[J)I"⟩
abbrev cL_power : ByteArray := method_4_code
def yL_power : MethodName := ⟨RL, "power", "(LCodedStore;I[J)I"⟩
abbrev cL_word : ByteArray := method_5_code
def yL_word : MethodName := ⟨RL, "word", "(LCodedStore;II[J)I"⟩
abbrev cL_told : ByteArray := method_6_code
def yL_told : MethodName := ⟨RL, "told", "(LCodedStore;I[J)I"⟩
abbrev cL_law : ByteArray := code
def yL_law : MethodName := ⟨RL, "law", "([I)Z"⟩
def wsX0_init : List Cond := .code yX0_init cX0_init 2 none :: ([.methodLink RX0 3 objectInit, .instanceMethod objectInit, .code objectInit ⟨#[0xb1]⟩ 1 none, .arrayClass .boolean, .fieldLink RX0 9 "CodedStore$Catalog" "whole" "[Z", .fieldLink RX0 15 "CodedStore$Catalog" "live" "[Z", .fieldLink RX0 18 "CodedStore$Catalog" "surveyedAt" "I", .fieldLink RX0 22 "CodedStore$Catalog" "disk" "LCodedStore$Disk;"] ++ wsX00)
def wsX2_writesDone : List Cond := .code yX2_writesDone cX2_writesDone 1 (some .int) :: ([.fieldLink RX2 23 "CodedStore$Disk" "done" "I"] ++ wsX20)
def wsX2_wordAt : List Cond := .code yX2_wordAt cX2_wordAt 3 (some .int) :: ([.fieldLink RX2 9 "CodedStore$Disk" "words" "[I"] ++ wsX20)
def wsX2_numberOf : List Cond := .code yX2_numberOf cX2_numberOf 2 (some .int) :: ([.methodLink RX2 26 yX2_wordAt, .instanceMethod yX2_wordAt, .selects RX2 yX2_wordAt yX2_wordAt, .initialized RX2, .code yX2_wordAt cX2_wordAt 3 (some .int), .fieldLink RX2 9 "CodedStore$Disk" "words" "[I"] ++ wsX20)
def wsX2_partsOf : List Cond := .code yX2_partsOf cX2_partsOf 2 (some .int) :: ([.methodLink RX2 26 yX2_wordAt, .instanceMethod yX2_wordAt, .selects RX2 yX2_wordAt yX2_wordAt, .initialized RX2, .code yX2_wordAt cX2_wordAt 3 (some .int), .fieldLink RX2 9 "CodedStore$Disk" "words" "[I"] ++ wsX20)
def wsX0_hasAllParts : List Cond := .code yX0_hasAllParts cX0_hasAllParts 4 (some .boolean) :: ([.fieldLink RX0 22 "CodedStore$Catalog" "disk" "LCodedStore$Disk;", .methodLink RX0 32 yX2_numberOf, .instanceMethod yX2_numberOf, .selects RX2 yX2_numberOf yX2_numberOf, .initialized RX2, .code yX2_numberOf cX2_numberOf 2 (some .int), .methodLink RX2 26 yX2_wordAt, .instanceMethod yX2_wordAt, .selects RX2 yX2_wordAt yX2_wordAt, .code yX2_wordAt cX2_wordAt 3 (some .int), .fieldLink RX2 9 "CodedStore$Disk" "words" "[I", .methodLink RX0 43 yX2_partsOf, .instanceMethod yX2_partsOf, .selects RX2 yX2_partsOf yX2_partsOf, .code yX2_partsOf cX2_partsOf 2 (some .int)] ++ wsX00 ++ wsX20)
def wsX2_keyOf : List Cond := .code yX2_keyOf cX2_keyOf 2 (some .int) :: ([.methodLink RX2 26 yX2_wordAt, .instanceMethod yX2_wordAt, .selects RX2 yX2_wordAt yX2_wordAt, .initialized RX2, .code yX2_wordAt cX2_wordAt 3 (some .int), .fieldLink RX2 9 "CodedStore$Disk" "words" "[I"] ++ wsX20)
def wsX0_isOutdone : List Cond := .code yX0_isOutdone cX0_isOutdone 3 (some .boolean) :: ([.fieldLink RX0 9 "CodedStore$Catalog" "whole" "[Z", .fieldLink RX0 22 "CodedStore$Catalog" "disk" "LCodedStore$Disk;", .methodLink RX0 46 yX2_keyOf, .instanceMethod yX2_keyOf, .selects RX2 yX2_keyOf yX2_keyOf, .initialized RX2, .code yX2_keyOf cX2_keyOf 2 (some .int), .methodLink RX2 26 yX2_wordAt, .instanceMethod yX2_wordAt, .selects RX2 yX2_wordAt yX2_wordAt, .code yX2_wordAt cX2_wordAt 3 (some .int), .fieldLink RX2 9 "CodedStore$Disk" "words" "[I", .methodLink RX0 32 yX2_numberOf, .instanceMethod yX2_numberOf, .selects RX2 yX2_numberOf yX2_numberOf, .code yX2_numberOf cX2_numberOf 2 (some .int)] ++ wsX00 ++ wsX20)
def wsX0_survey_r1 : List Cond := [Cond.fieldLink RX0 18 "CodedStore$Catalog" "surveyedAt" "I", Cond.fieldLink RX0 22 "CodedStore$Catalog" "disk" "LCodedStore$Disk;", Cond.fieldLink RX0 9 "CodedStore$Catalog" "whole" "[Z", Cond.fieldLink RX0 15 "CodedStore$Catalog" "live" "[Z", Cond.methodLink RX0 26 yX2_writesDone, Cond.instanceMethod yX2_writesDone, Cond.selects RX2 yX2_writesDone yX2_writesDone, Cond.initialized RX2, Cond.code yX2_writesDone cX2_writesDone 1 (some .int), Cond.fieldLink RX2 23 "CodedStore$Disk" "done" "I", Cond.methodLink RX0 32 yX2_numberOf, Cond.instanceMethod yX2_numberOf, Cond.selects RX2 yX2_numberOf yX2_numberOf, Cond.code yX2_numberOf cX2_numberOf 2 (some .int), Cond.methodLink RX2 26 yX2_wordAt, Cond.instanceMethod yX2_wordAt, Cond.selects RX2 yX2_wordAt yX2_wordAt, Cond.code yX2_wordAt cX2_wordAt 3 (some .int), Cond.fieldLink RX2 9 "CodedStore$Disk" "words" "[I", Cond.methodLink RX0 36 yX0_hasAllParts, Cond.instanceMethod yX0_hasAllParts, Cond.selects RX0 yX0_hasAllParts yX0_hasAllParts, Cond.initialized RX0, Cond.code yX0_hasAllParts cX0_hasAllParts 4 (some .boolean)]
def wsX0_survey_r2 : List Cond := [Cond.methodLink RX0 43 yX2_partsOf, Cond.instanceMethod yX2_partsOf, Cond.selects RX2 yX2_partsOf yX2_partsOf, Cond.code yX2_partsOf cX2_partsOf 2 (some .int), Cond.methodLink RX0 40 yX0_isOutdone, Cond.instanceMethod yX0_isOutdone, Cond.selects RX0 yX0_isOutdone yX0_isOutdone, Cond.code yX0_isOutdone cX0_isOutdone 3 (some .boolean), Cond.methodLink RX0 46 yX2_keyOf, Cond.instanceMethod yX2_keyOf, Cond.selects RX2 yX2_keyOf yX2_keyOf, Cond.code yX2_keyOf cX2_keyOf 2 (some .int)]
def wsX0_survey : List Cond := .code yX0_survey cX0_survey 2 none :: ((wsX0_survey_r1 ++ wsX0_survey_r2) ++ wsX00 ++ wsX20)
def wsX0_isLive : List Cond := .code yX0_isLive cX0_isLive 2 (some .boolean) :: ([.fieldLink RX0 15 "CodedStore$Catalog" "live" "[Z"] ++ wsX00)
def wsX0_isLeftOver : List Cond := .code yX0_isLeftOver cX0_isLeftOver 2 (some .boolean) :: ([.fieldLink RX0 22 "CodedStore$Catalog" "disk" "LCodedStore$Disk;", .methodLink RX0 49 yX0_isLive, .instanceMethod yX0_isLive, .selects RX0 yX0_isLive yX0_isLive, .initialized RX0, .code yX0_isLive cX0_isLive 2 (some .boolean), .fieldLink RX0 15 "CodedStore$Catalog" "live" "[Z", .methodLink RX0 32 yX2_numberOf, .instanceMethod yX2_numberOf, .selects RX2 yX2_numberOf yX2_numberOf, .initialized RX2, .code yX2_numberOf cX2_numberOf 2 (some .int), .methodLink RX2 26 yX2_wordAt, .instanceMethod yX2_wordAt, .selects RX2 yX2_wordAt yX2_wordAt, .code yX2_wordAt cX2_wordAt 3 (some .int), .fieldLink RX2 9 "CodedStore$Disk" "words" "[I"] ++ wsX00 ++ wsX20)
def wsX2_formOf : List Cond := .code yX2_formOf cX2_formOf 2 (some .int) :: ([.methodLink RX2 26 yX2_wordAt, .instanceMethod yX2_wordAt, .selects RX2 yX2_wordAt yX2_wordAt, .initialized RX2, .code yX2_wordAt cX2_wordAt 3 (some .int), .fieldLink RX2 9 "CodedStore$Disk" "words" "[I"] ++ wsX20)
def wsX0_isLiveGrave : List Cond := .code yX0_isLiveGrave cX0_isLiveGrave 2 (some .boolean) :: ([.fieldLink RX0 22 "CodedStore$Catalog" "disk" "LCodedStore$Disk;", .methodLink RX0 49 yX0_isLive, .instanceMethod yX0_isLive, .selects RX0 yX0_isLive yX0_isLive, .initialized RX0, .code yX0_isLive cX0_isLive 2 (some .boolean), .fieldLink RX0 15 "CodedStore$Catalog" "live" "[Z", .methodLink RX0 52 yX2_formOf, .instanceMethod yX2_formOf, .selects RX2 yX2_formOf yX2_formOf, .initialized RX2, .code yX2_formOf cX2_formOf 2 (some .int), .methodLink RX2 26 yX2_wordAt, .instanceMethod yX2_wordAt, .selects RX2 yX2_wordAt yX2_wordAt, .code yX2_wordAt cX2_wordAt 3 (some .int), .fieldLink RX2 9 "CodedStore$Disk" "words" "[I"] ++ wsX00 ++ wsX20)
def wsX2_partOf : List Cond := .code yX2_partOf cX2_partOf 2 (some .int) :: ([.methodLink RX2 26 yX2_wordAt, .instanceMethod yX2_wordAt, .selects RX2 yX2_wordAt yX2_wordAt, .initialized RX2, .code yX2_wordAt cX2_wordAt 3 (some .int), .fieldLink RX2 9 "CodedStore$Disk" "words" "[I"] ++ wsX20)
def wsX0_isText : List Cond := .code yX0_isText cX0_isText 2 (some .boolean) :: ([.fieldLink RX0 22 "CodedStore$Catalog" "disk" "LCodedStore$Disk;", .methodLink RX0 49 yX0_isLive, .instanceMethod yX0_isLive, .selects RX0 yX0_isLive yX0_isLive, .initialized RX0, .code yX0_isLive cX0_isLive 2 (some .boolean), .fieldLink RX0 15 "CodedStore$Catalog" "live" "[Z", .methodLink RX0 55 yX2_partOf, .instanceMethod yX2_partOf, .selects RX2 yX2_partOf yX2_partOf, .initialized RX2, .code yX2_partOf cX2_partOf 2 (some .int), .methodLink RX2 26 yX2_wordAt, .instanceMethod yX2_wordAt, .selects RX2 yX2_wordAt yX2_wordAt, .code yX2_wordAt cX2_wordAt 3 (some .int), .fieldLink RX2 9 "CodedStore$Disk" "words" "[I", .methodLink RX0 52 yX2_formOf, .instanceMethod yX2_formOf, .selects RX2 yX2_formOf yX2_formOf, .code yX2_formOf cX2_formOf 2 (some .int)] ++ wsX00 ++ wsX20)
def wsX0_firstBlock : List Cond := .code yX0_firstBlock cX0_firstBlock 3 (some .int) :: ([.fieldLink RX0 22 "CodedStore$Catalog" "disk" "LCodedStore$Disk;", .methodLink RX0 49 yX0_isLive, .instanceMethod yX0_isLive, .selects RX0 yX0_isLive yX0_isLive, .initialized RX0, .code yX0_isLive cX0_isLive 2 (some .boolean), .fieldLink RX0 15 "CodedStore$Catalog" "live" "[Z", .methodLink RX0 55 yX2_partOf, .instanceMethod yX2_partOf, .selects RX2 yX2_partOf yX2_partOf, .initialized RX2, .code yX2_partOf cX2_partOf 2 (some .int), .methodLink RX2 26 yX2_wordAt, .instanceMethod yX2_wordAt, .selects RX2 yX2_wordAt yX2_wordAt, .code yX2_wordAt cX2_wordAt 3 (some .int), .fieldLink RX2 9 "CodedStore$Disk" "words" "[I", .methodLink RX0 46 yX2_keyOf, .instanceMethod yX2_keyOf, .selects RX2 yX2_keyOf yX2_keyOf, .code yX2_keyOf cX2_keyOf 2 (some .int)] ++ wsX00 ++ wsX20)
def wsX0_countTextsBelow_r1 : List Cond := [Cond.fieldLink RX0 22 "CodedStore$Catalog" "disk" "LCodedStore$Disk;", Cond.methodLink RX0 58 yX0_isText, Cond.instanceMethod yX0_isText, Cond.selects RX0 yX0_isText yX0_isText, Cond.initialized RX0, Cond.code yX0_isText cX0_isText 2 (some .boolean), Cond.methodLink RX0 49 yX0_isLive, Cond.instanceMethod yX0_isLive, Cond.selects RX0 yX0_isLive yX0_isLive, Cond.code yX0_isLive cX0_isLive 2 (some .boolean), Cond.fieldLink RX0 15 "CodedStore$Catalog" "live" "[Z", Cond.methodLink RX0 55 yX2_partOf, Cond.instanceMethod yX2_partOf, Cond.selects RX2 yX2_partOf yX2_partOf, Cond.initialized RX2, Cond.code yX2_partOf cX2_partOf 2 (some .int), Cond.methodLink RX2 26 yX2_wordAt, Cond.instanceMethod yX2_wordAt, Cond.selects RX2 yX2_wordAt yX2_wordAt, Cond.code yX2_wordAt cX2_wordAt 3 (some .int), Cond.fieldLink RX2 9 "CodedStore$Disk" "words" "[I", Cond.methodLink RX0 52 yX2_formOf, Cond.instanceMethod yX2_formOf, Cond.selects RX2 yX2_formOf yX2_formOf]
def wsX0_countTextsBelow_r2 : List Cond := [Cond.code yX2_formOf cX2_formOf 2 (some .int), Cond.methodLink RX0 46 yX2_keyOf, Cond.instanceMethod yX2_keyOf, Cond.selects RX2 yX2_keyOf yX2_keyOf, Cond.code yX2_keyOf cX2_keyOf 2 (some .int)]
def wsX0_countTextsBelow : List Cond := .code yX0_countTextsBelow cX0_countTextsBelow 4 (some .int) :: ((wsX0_countTextsBelow_r1 ++ wsX0_countTextsBelow_r2) ++ wsX00 ++ wsX20)
def wsX0_firstBlockOfRank_r1 : List Cond := [Cond.fieldLink RX0 22 "CodedStore$Catalog" "disk" "LCodedStore$Disk;", Cond.methodLink RX0 58 yX0_isText, Cond.instanceMethod yX0_isText, Cond.selects RX0 yX0_isText yX0_isText, Cond.initialized RX0, Cond.code yX0_isText cX0_isText 2 (some .boolean), Cond.methodLink RX0 49 yX0_isLive, Cond.instanceMethod yX0_isLive, Cond.selects RX0 yX0_isLive yX0_isLive, Cond.code yX0_isLive cX0_isLive 2 (some .boolean), Cond.fieldLink RX0 15 "CodedStore$Catalog" "live" "[Z", Cond.methodLink RX0 55 yX2_partOf, Cond.instanceMethod yX2_partOf, Cond.selects RX2 yX2_partOf yX2_partOf, Cond.initialized RX2, Cond.code yX2_partOf cX2_partOf 2 (some .int), Cond.methodLink RX2 26 yX2_wordAt, Cond.instanceMethod yX2_wordAt, Cond.selects RX2 yX2_wordAt yX2_wordAt, Cond.code yX2_wordAt cX2_wordAt 3 (some .int), Cond.fieldLink RX2 9 "CodedStore$Disk" "words" "[I", Cond.methodLink RX0 52 yX2_formOf, Cond.instanceMethod yX2_formOf, Cond.selects RX2 yX2_formOf yX2_formOf]
def wsX0_firstBlockOfRank_r2 : List Cond := [Cond.code yX2_formOf cX2_formOf 2 (some .int), Cond.methodLink RX0 46 yX2_keyOf, Cond.instanceMethod yX2_keyOf, Cond.selects RX2 yX2_keyOf yX2_keyOf, Cond.code yX2_keyOf cX2_keyOf 2 (some .int), Cond.methodLink RX0 61 yX0_countTextsBelow, Cond.instanceMethod yX0_countTextsBelow, Cond.selects RX0 yX0_countTextsBelow yX0_countTextsBelow, Cond.code yX0_countTextsBelow cX0_countTextsBelow 4 (some .int)]
def wsX0_firstBlockOfRank : List Cond := .code yX0_firstBlockOfRank cX0_firstBlockOfRank 3 (some .int) :: ((wsX0_firstBlockOfRank_r1 ++ wsX0_firstBlockOfRank_r2) ++ wsX00 ++ wsX20)
def wsX0_countTexts_r1 : List Cond := [Cond.methodLink RX0 58 yX0_isText, Cond.instanceMethod yX0_isText, Cond.selects RX0 yX0_isText yX0_isText, Cond.initialized RX0, Cond.code yX0_isText cX0_isText 2 (some .boolean), Cond.fieldLink RX0 22 "CodedStore$Catalog" "disk" "LCodedStore$Disk;", Cond.methodLink RX0 49 yX0_isLive, Cond.instanceMethod yX0_isLive, Cond.selects RX0 yX0_isLive yX0_isLive, Cond.code yX0_isLive cX0_isLive 2 (some .boolean), Cond.fieldLink RX0 15 "CodedStore$Catalog" "live" "[Z", Cond.methodLink RX0 55 yX2_partOf, Cond.instanceMethod yX2_partOf, Cond.selects RX2 yX2_partOf yX2_partOf, Cond.initialized RX2, Cond.code yX2_partOf cX2_partOf 2 (some .int), Cond.methodLink RX2 26 yX2_wordAt, Cond.instanceMethod yX2_wordAt, Cond.selects RX2 yX2_wordAt yX2_wordAt, Cond.code yX2_wordAt cX2_wordAt 3 (some .int), Cond.fieldLink RX2 9 "CodedStore$Disk" "words" "[I", Cond.methodLink RX0 52 yX2_formOf, Cond.instanceMethod yX2_formOf, Cond.selects RX2 yX2_formOf yX2_formOf]
def wsX0_countTexts_r2 : List Cond := [Cond.code yX2_formOf cX2_formOf 2 (some .int)]
def wsX0_countTexts : List Cond := .code yX0_countTexts cX0_countTexts 3 (some .int) :: ((wsX0_countTexts_r1 ++ wsX0_countTexts_r2) ++ wsX00 ++ wsX20)
def wsX0_countLive : List Cond := .code yX0_countLive cX0_countLive 3 (some .int) :: ([.methodLink RX0 49 yX0_isLive, .instanceMethod yX0_isLive, .selects RX0 yX0_isLive yX0_isLive, .initialized RX0, .code yX0_isLive cX0_isLive 2 (some .boolean), .fieldLink RX0 15 "CodedStore$Catalog" "live" "[Z"] ++ wsX00)
def wsX0_countLiveGraves : List Cond := .code yX0_countLiveGraves cX0_countLiveGraves 3 (some .int) :: ([.methodLink RX0 64 yX0_isLiveGrave, .instanceMethod yX0_isLiveGrave, .selects RX0 yX0_isLiveGrave yX0_isLiveGrave, .initialized RX0, .code yX0_isLiveGrave cX0_isLiveGrave 2 (some .boolean), .fieldLink RX0 22 "CodedStore$Catalog" "disk" "LCodedStore$Disk;", .methodLink RX0 49 yX0_isLive, .instanceMethod yX0_isLive, .selects RX0 yX0_isLive yX0_isLive, .code yX0_isLive cX0_isLive 2 (some .boolean), .fieldLink RX0 15 "CodedStore$Catalog" "live" "[Z", .methodLink RX0 52 yX2_formOf, .instanceMethod yX2_formOf, .selects RX2 yX2_formOf yX2_formOf, .initialized RX2, .code yX2_formOf cX2_formOf 2 (some .int), .methodLink RX2 26 yX2_wordAt, .instanceMethod yX2_wordAt, .selects RX2 yX2_wordAt yX2_wordAt, .code yX2_wordAt cX2_wordAt 3 (some .int), .fieldLink RX2 9 "CodedStore$Disk" "words" "[I"] ++ wsX00 ++ wsX20)
def wsX3_empty : List Cond := .code yX3_empty cX3_empty 1 none :: ([.fieldLink RX3 15 "CodedStore$Octets" "size" "I"] ++ wsX30)
def wsX3_size : List Cond := .code yX3_size cX3_size 1 (some .int) :: ([.fieldLink RX3 15 "CodedStore$Octets" "size" "I"] ++ wsX30)
def wsX3_append : List Cond := .code yX3_append cX3_append 2 none :: ([.fieldLink RX3 15 "CodedStore$Octets" "size" "I", .fieldLink RX3 9 "CodedStore$Octets" "octets" "[I"] ++ wsX30)
def wsX3_at : List Cond := .code yX3_at cX3_at 2 (some .int) :: ([.fieldLink RX3 15 "CodedStore$Octets" "size" "I", .fieldLink RX3 9 "CodedStore$Octets" "octets" "[I"] ++ wsX30)
def wsX1_rowLength : List Cond := .code yX1_rowLength cX1_rowLength 5 (some .int) :: ([.methodLink RX1 40 Lib.Math.min.name, .static Lib.Math.min.name, .initialized "java/lang/Math", .code Lib.Math.min.name Lib.Math.min.code 2 (some .int), .methodLink RX1 14 yX3_size, .instanceMethod yX3_size, .selects RX3 yX3_size yX3_size, .initialized RX3, .code yX3_size cX3_size 1 (some .int), .fieldLink RX3 15 "CodedStore$Octets" "size" "I", .methodLink RX1 32 yX3_at, .instanceMethod yX3_at, .selects RX3 yX3_at yX3_at, .code yX3_at cX3_at 2 (some .int), .fieldLink RX3 9 "CodedStore$Octets" "octets" "[I"] ++ wsX30)
def wsX1_bestDistance : List Cond := .code yX1_bestDistance cX1_bestDistance 7 (some .int) :: ([.methodLink RX1 40 Lib.Math.min.name, .static Lib.Math.min.name, .initialized "java/lang/Math", .code Lib.Math.min.name Lib.Math.min.code 2 (some .int), .methodLink RX1 14 yX3_size, .instanceMethod yX3_size, .selects RX3 yX3_size yX3_size, .initialized RX3, .code yX3_size cX3_size 1 (some .int), .fieldLink RX3 15 "CodedStore$Octets" "size" "I", .methodLink RX1 36 yX1_rowLength, .static yX1_rowLength, .initialized RX1, .code yX1_rowLength cX1_rowLength 5 (some .int), .methodLink RX1 32 yX3_at, .instanceMethod yX3_at, .selects RX3 yX3_at yX3_at, .code yX3_at cX3_at 2 (some .int), .fieldLink RX3 9 "CodedStore$Octets" "octets" "[I"] ++ wsX30)
def wsX3_setBit : List Cond := .code yX3_setBit cX3_setBit 3 none :: ([.fieldLink RX3 15 "CodedStore$Octets" "size" "I", .fieldLink RX3 9 "CodedStore$Octets" "octets" "[I"] ++ wsX30)
def wsX1_encode_r1 : List Cond := [Cond.methodLink RX1 9 yX3_empty, Cond.instanceMethod yX3_empty, Cond.selects RX3 yX3_empty yX3_empty, Cond.initialized RX3, Cond.code yX3_empty cX3_empty 1 none, Cond.fieldLink RX3 15 "CodedStore$Octets" "size" "I", Cond.methodLink RX1 14 yX3_size, Cond.instanceMethod yX3_size, Cond.selects RX3 yX3_size yX3_size, Cond.code yX3_size cX3_size 1 (some .int), Cond.methodLink RX1 18 yX3_append, Cond.instanceMethod yX3_append, Cond.selects RX3 yX3_append yX3_append, Cond.code yX3_append cX3_append 2 none, Cond.fieldLink RX3 9 "CodedStore$Octets" "octets" "[I", Cond.methodLink RX1 22 yX1_bestDistance, Cond.static yX1_bestDistance, Cond.initialized RX1, Cond.code yX1_bestDistance cX1_bestDistance 7 (some .int), Cond.methodLink RX1 40 Lib.Math.min.name, Cond.static Lib.Math.min.name, Cond.initialized "java/lang/Math", Cond.code Lib.Math.min.name Lib.Math.min.code 2 (some .int), Cond.methodLink RX1 36 yX1_rowLength]
def wsX1_encode_r2 : List Cond := [Cond.static yX1_rowLength, Cond.code yX1_rowLength cX1_rowLength 5 (some .int), Cond.methodLink RX1 32 yX3_at, Cond.instanceMethod yX3_at, Cond.selects RX3 yX3_at yX3_at, Cond.code yX3_at cX3_at 2 (some .int), Cond.methodLink RX1 28 yX3_setBit, Cond.instanceMethod yX3_setBit, Cond.selects RX3 yX3_setBit yX3_setBit, Cond.code yX3_setBit cX3_setBit 3 none]
def wsX1_encode : List Cond := .code yX1_encode cX1_encode 9 none :: ((wsX1_encode_r1 ++ wsX1_encode_r2) ++ wsX30)
def wsX1_decodeSingle : List Cond := .code yX1_decodeSingle cX1_decodeSingle 3 (some .int) :: ([.methodLink RX1 14 yX3_size, .instanceMethod yX3_size, .selects RX3 yX3_size yX3_size, .initialized RX3, .code yX3_size cX3_size 1 (some .int), .fieldLink RX3 15 "CodedStore$Octets" "size" "I", .methodLink RX1 32 yX3_at, .instanceMethod yX3_at, .selects RX3 yX3_at yX3_at, .code yX3_at cX3_at 2 (some .int), .fieldLink RX3 9 "CodedStore$Octets" "octets" "[I", .methodLink RX1 18 yX3_append, .instanceMethod yX3_append, .selects RX3 yX3_append yX3_append, .code yX3_append cX3_append 2 none] ++ wsX30)
def wsX3_repeat : List Cond := .code yX3_repeat cX3_repeat 4 none :: ([.fieldLink RX3 15 "CodedStore$Octets" "size" "I", .methodLink RX3 19 yX3_at, .instanceMethod yX3_at, .selects RX3 yX3_at yX3_at, .initialized RX3, .code yX3_at cX3_at 2 (some .int), .fieldLink RX3 9 "CodedStore$Octets" "octets" "[I", .methodLink RX3 26 yX3_append, .instanceMethod yX3_append, .selects RX3 yX3_append yX3_append, .code yX3_append cX3_append 2 none] ++ wsX30)
def wsX1_decodeRow : List Cond := .code yX1_decodeRow cX1_decodeRow 5 (some .int) :: ([.methodLink RX1 14 yX3_size, .instanceMethod yX3_size, .selects RX3 yX3_size yX3_size, .initialized RX3, .code yX3_size cX3_size 1 (some .int), .fieldLink RX3 15 "CodedStore$Octets" "size" "I", .methodLink RX1 32 yX3_at, .instanceMethod yX3_at, .selects RX3 yX3_at yX3_at, .code yX3_at cX3_at 2 (some .int), .fieldLink RX3 9 "CodedStore$Octets" "octets" "[I", .methodLink RX1 53 yX3_repeat, .instanceMethod yX3_repeat, .selects RX3 yX3_repeat yX3_repeat, .code yX3_repeat cX3_repeat 4 none, .methodLink RX3 19 yX3_at, .methodLink RX3 26 yX3_append, .instanceMethod yX3_append, .selects RX3 yX3_append yX3_append, .code yX3_append cX3_append 2 none] ++ wsX30)
def wsX1_decode_r1 : List Cond := [Cond.methodLink RX1 9 yX3_empty, Cond.instanceMethod yX3_empty, Cond.selects RX3 yX3_empty yX3_empty, Cond.initialized RX3, Cond.code yX3_empty cX3_empty 1 none, Cond.fieldLink RX3 15 "CodedStore$Octets" "size" "I", Cond.methodLink RX1 14 yX3_size, Cond.instanceMethod yX3_size, Cond.selects RX3 yX3_size yX3_size, Cond.code yX3_size cX3_size 1 (some .int), Cond.methodLink RX1 32 yX3_at, Cond.instanceMethod yX3_at, Cond.selects RX3 yX3_at yX3_at, Cond.code yX3_at cX3_at 2 (some .int), Cond.fieldLink RX3 9 "CodedStore$Octets" "octets" "[I", Cond.methodLink RX1 46 yX1_decodeSingle, Cond.static yX1_decodeSingle, Cond.initialized RX1, Cond.code yX1_decodeSingle cX1_decodeSingle 3 (some .int), Cond.methodLink RX1 18 yX3_append, Cond.instanceMethod yX3_append, Cond.selects RX3 yX3_append yX3_append, Cond.code yX3_append cX3_append 2 none, Cond.methodLink RX1 50 yX1_decodeRow]
def wsX1_decode_r2 : List Cond := [Cond.static yX1_decodeRow, Cond.code yX1_decodeRow cX1_decodeRow 5 (some .int), Cond.methodLink RX1 53 yX3_repeat, Cond.instanceMethod yX3_repeat, Cond.selects RX3 yX3_repeat yX3_repeat, Cond.code yX3_repeat cX3_repeat 4 none, Cond.methodLink RX3 19 yX3_at, Cond.methodLink RX3 26 yX3_append]
def wsX1_decode : List Cond := .code yX1_decode cX1_decode 8 (some .int) :: ((wsX1_decode_r1 ++ wsX1_decode_r2) ++ wsX30)
def wsX2_init : List Cond := .code yX2_init cX2_init 1 none :: ([.methodLink RX2 3 objectInit, .instanceMethod objectInit, .code objectInit ⟨#[0xb1]⟩ 1 none, .arrayClass .int, .fieldLink RX2 9 "CodedStore$Disk" "words" "[I", .fieldLink RX2 15 "CodedStore$Disk" "on" "Z", .fieldLink RX2 19 "CodedStore$Disk" "left" "I"] ++ wsX20)
def wsX2_isOn : List Cond := .code yX2_isOn cX2_isOn 1 (some .boolean) :: ([.fieldLink RX2 15 "CodedStore$Disk" "on" "Z"] ++ wsX20)
def wsX2_switchOn : List Cond := .code yX2_switchOn cX2_switchOn 1 none :: ([.fieldLink RX2 15 "CodedStore$Disk" "on" "Z", .fieldLink RX2 19 "CodedStore$Disk" "left" "I"] ++ wsX20)
def wsX2_allowWrites : List Cond := .code yX2_allowWrites cX2_allowWrites 2 none :: ([.fieldLink RX2 19 "CodedStore$Disk" "left" "I"] ++ wsX20)
def wsX2_writesLeft : List Cond := .code yX2_writesLeft cX2_writesLeft 1 (some .int) :: ([.fieldLink RX2 19 "CodedStore$Disk" "left" "I"] ++ wsX20)
def wsX2_write : List Cond := .code yX2_write cX2_write 4 (some .boolean) :: ([.fieldLink RX2 15 "CodedStore$Disk" "on" "Z", .fieldLink RX2 19 "CodedStore$Disk" "left" "I", .fieldLink RX2 9 "CodedStore$Disk" "words" "[I", .fieldLink RX2 23 "CodedStore$Disk" "done" "I"] ++ wsX20)
def wsX2_octetsOf : List Cond := .code yX2_octetsOf cX2_octetsOf 2 (some .int) :: ([.methodLink RX2 26 yX2_wordAt, .instanceMethod yX2_wordAt, .selects RX2 yX2_wordAt yX2_wordAt, .initialized RX2, .code yX2_wordAt cX2_wordAt 3 (some .int), .fieldLink RX2 9 "CodedStore$Disk" "words" "[I"] ++ wsX20)
def wsX2_greatestNumber : List Cond := .code yX2_greatestNumber cX2_greatestNumber 3 (some .int) :: ([.methodLink RX2 34 Lib.Math.max.name, .static Lib.Math.max.name, .initialized "java/lang/Math", .code Lib.Math.max.name Lib.Math.max.code 2 (some .int), .methodLink RX2 30 yX2_numberOf, .instanceMethod yX2_numberOf, .selects RX2 yX2_numberOf yX2_numberOf, .initialized RX2, .code yX2_numberOf cX2_numberOf 2 (some .int), .methodLink RX2 26 yX2_wordAt, .instanceMethod yX2_wordAt, .selects RX2 yX2_wordAt yX2_wordAt, .code yX2_wordAt cX2_wordAt 3 (some .int), .fieldLink RX2 9 "CodedStore$Disk" "words" "[I"] ++ wsX20)
def wsX2_blockOf : List Cond := .code yX2_blockOf cX2_blockOf 4 (some .int) :: ([.methodLink RX2 30 yX2_numberOf, .instanceMethod yX2_numberOf, .selects RX2 yX2_numberOf yX2_numberOf, .initialized RX2, .code yX2_numberOf cX2_numberOf 2 (some .int), .methodLink RX2 26 yX2_wordAt, .instanceMethod yX2_wordAt, .selects RX2 yX2_wordAt yX2_wordAt, .code yX2_wordAt cX2_wordAt 3 (some .int), .fieldLink RX2 9 "CodedStore$Disk" "words" "[I", .methodLink RX2 39 yX2_partOf, .instanceMethod yX2_partOf, .selects RX2 yX2_partOf yX2_partOf, .code yX2_partOf cX2_partOf 2 (some .int)] ++ wsX20)
def wsX3_init : List Cond := .code yX3_init cX3_init 1 none :: ([.methodLink RX3 3 objectInit, .instanceMethod objectInit, .code objectInit ⟨#[0xb1]⟩ 1 none, .arrayClass .int, .fieldLink RX3 9 "CodedStore$Octets" "octets" "[I"] ++ wsX30)
def wsX3_fourFrom : List Cond := .code yX3_fourFrom cX3_fourFrom 2 (some .int) :: ([.methodLink RX3 19 yX3_at, .instanceMethod yX3_at, .selects RX3 yX3_at yX3_at, .initialized RX3, .code yX3_at cX3_at 2 (some .int), .fieldLink RX3 15 "CodedStore$Octets" "size" "I", .fieldLink RX3 9 "CodedStore$Octets" "octets" "[I"] ++ wsX30)
def wsX3_becomeLike : List Cond := .code yX3_becomeLike cX3_becomeLike 3 none :: ([.fieldLink RX3 15 "CodedStore$Octets" "size" "I", .methodLink RX3 23 yX3_empty, .instanceMethod yX3_empty, .selects RX3 yX3_empty yX3_empty, .initialized RX3, .code yX3_empty cX3_empty 1 none, .methodLink RX3 19 yX3_at, .instanceMethod yX3_at, .selects RX3 yX3_at yX3_at, .code yX3_at cX3_at 2 (some .int), .fieldLink RX3 9 "CodedStore$Octets" "octets" "[I", .methodLink RX3 26 yX3_append, .instanceMethod yX3_append, .selects RX3 yX3_append yX3_append, .code yX3_append cX3_append 2 none] ++ wsX30)
def wsX4_init_r1 : List Cond := [Cond.methodLink RX4 1 objectInit, Cond.instanceMethod objectInit, Cond.code objectInit ⟨#[0xb1]⟩ 1 none, Cond.classLink RX4 7 RX2, Cond.instantiable RX2 4, Cond.initialized RX2, Cond.fieldLink RX4 10 "CodedStore" "disk" "LCodedStore$Disk;", Cond.classLink RX4 16 RX0, Cond.instantiable RX0 4, Cond.initialized RX0, Cond.fieldLink RX4 21 "CodedStore" "catalog" "LCodedStore$Catalog;", Cond.classLink RX4 25 RX3, Cond.instantiable RX3 2, Cond.initialized RX3, Cond.fieldLink RX4 28 "CodedStore" "tape" "LCodedStore$Octets;", Cond.fieldLink RX4 32 "CodedStore" "loaded" "LCodedStore$Octets;", Cond.fieldLink RX4 35 "CodedStore" "content" "LCodedStore$Octets;", Cond.fieldLink RX4 38 "CodedStore" "decoded" "LCodedStore$Octets;", Cond.arrayClass .int, Cond.fieldLink RX4 41 "CodedStore" "row" "[I", Cond.fieldLink RX4 45 "CodedStore" "zeros" "[I", Cond.fieldLink RX4 48 "CodedStore" "failedPlace" "I", Cond.instanceMethod yX2_init, Cond.code yX2_init cX2_init 1 none]
def wsX4_init_r2 : List Cond := [Cond.methodLink RX2 3 objectInit, Cond.fieldLink RX2 9 "CodedStore$Disk" "words" "[I", Cond.fieldLink RX2 15 "CodedStore$Disk" "on" "Z", Cond.fieldLink RX2 19 "CodedStore$Disk" "left" "I", Cond.methodLink RX4 18 yX0_init, Cond.instanceMethod yX0_init, Cond.code yX0_init cX0_init 2 none, Cond.methodLink RX0 3 objectInit, Cond.arrayClass .boolean, Cond.fieldLink RX0 9 "CodedStore$Catalog" "whole" "[Z", Cond.fieldLink RX0 15 "CodedStore$Catalog" "live" "[Z", Cond.fieldLink RX0 18 "CodedStore$Catalog" "surveyedAt" "I", Cond.fieldLink RX0 22 "CodedStore$Catalog" "disk" "LCodedStore$Disk;", Cond.instanceMethod yX3_init, Cond.code yX3_init cX3_init 1 none, Cond.methodLink RX3 3 objectInit, Cond.fieldLink RX3 9 "CodedStore$Octets" "octets" "[I"]
def wsX4_init : List Cond := .code yX4_init cX4_init 1 none :: ((wsX4_init_r1 ++ wsX4_init_r2) ++ wsX20 ++ wsX40 ++ wsX00 ++ wsX30)
def wsX4_feed : List Cond := .code yX4_feed cX4_feed 5 (some .int) :: ([.classLink RX4 56 "java/lang/IllegalArgumentException", .initialized "java/lang/IllegalArgumentException", .fieldLink RX4 28 "CodedStore" "tape" "LCodedStore$Octets;", .methodLink RX4 52 yX3_size, .instanceMethod yX3_size, .selects RX3 yX3_size yX3_size, .initialized RX3, .code yX3_size cX3_size 1 (some .int), .fieldLink RX3 15 "CodedStore$Octets" "size" "I", .methodLink RX4 59 yX3_append, .instanceMethod yX3_append, .selects RX3 yX3_append yX3_append, .code yX3_append cX3_append 2 none, .fieldLink RX3 9 "CodedStore$Octets" "octets" "[I"] ++ wsX40 ++ wsX30 ++ (vx_at0 RX4 58 "java/lang/IllegalArgumentException" ["java/lang/RuntimeException", "java/lang/Exception"]).filter goodWord)
def wsX4_partsFor : List Cond := .code yX4_partsFor cX4_partsFor 1 (some .int) :: ([])
def wsX4_surveyed_r1 : List Cond := [Cond.fieldLink RX4 21 "CodedStore" "catalog" "LCodedStore$Catalog;", Cond.methodLink RX4 161 yX0_survey, Cond.instanceMethod yX0_survey, Cond.selects RX0 yX0_survey yX0_survey, Cond.initialized RX0, Cond.code yX0_survey cX0_survey 2 none, Cond.fieldLink RX0 18 "CodedStore$Catalog" "surveyedAt" "I", Cond.fieldLink RX0 22 "CodedStore$Catalog" "disk" "LCodedStore$Disk;", Cond.fieldLink RX0 9 "CodedStore$Catalog" "whole" "[Z", Cond.fieldLink RX0 15 "CodedStore$Catalog" "live" "[Z", Cond.methodLink RX0 26 yX2_writesDone, Cond.instanceMethod yX2_writesDone, Cond.selects RX2 yX2_writesDone yX2_writesDone, Cond.initialized RX2, Cond.code yX2_writesDone cX2_writesDone 1 (some .int), Cond.fieldLink RX2 23 "CodedStore$Disk" "done" "I", Cond.methodLink RX0 32 yX2_numberOf, Cond.instanceMethod yX2_numberOf, Cond.selects RX2 yX2_numberOf yX2_numberOf, Cond.code yX2_numberOf cX2_numberOf 2 (some .int), Cond.methodLink RX2 26 yX2_wordAt, Cond.instanceMethod yX2_wordAt, Cond.selects RX2 yX2_wordAt yX2_wordAt, Cond.code yX2_wordAt cX2_wordAt 3 (some .int)]
def wsX4_surveyed_r2 : List Cond := [Cond.fieldLink RX2 9 "CodedStore$Disk" "words" "[I", Cond.methodLink RX0 36 yX0_hasAllParts, Cond.instanceMethod yX0_hasAllParts, Cond.selects RX0 yX0_hasAllParts yX0_hasAllParts, Cond.code yX0_hasAllParts cX0_hasAllParts 4 (some .boolean), Cond.methodLink RX0 43 yX2_partsOf, Cond.instanceMethod yX2_partsOf, Cond.selects RX2 yX2_partsOf yX2_partsOf, Cond.code yX2_partsOf cX2_partsOf 2 (some .int), Cond.methodLink RX0 40 yX0_isOutdone, Cond.instanceMethod yX0_isOutdone, Cond.selects RX0 yX0_isOutdone yX0_isOutdone, Cond.code yX0_isOutdone cX0_isOutdone 3 (some .boolean), Cond.methodLink RX0 46 yX2_keyOf, Cond.instanceMethod yX2_keyOf, Cond.selects RX2 yX2_keyOf yX2_keyOf, Cond.code yX2_keyOf cX2_keyOf 2 (some .int)]
def wsX4_surveyed : List Cond := .code yX4_surveyed cX4_surveyed 1 (some (.object "CodedStore$Catalog")) :: ((wsX4_surveyed_r1 ++ wsX4_surveyed_r2) ++ wsX40 ++ wsX00 ++ wsX20)
def wsX4_fillRow : List Cond := .code yX4_fillRow cX4_fillRow 7 none :: ([.fieldLink RX4 41 "CodedStore" "row" "[I", .constant RX4 174 (65536), .fieldLink RX4 35 "CodedStore" "content" "LCodedStore$Octets;", .methodLink RX4 52 yX3_size, .instanceMethod yX3_size, .selects RX3 yX3_size yX3_size, .initialized RX3, .code yX3_size cX3_size 1 (some .int), .fieldLink RX3 15 "CodedStore$Octets" "size" "I", .methodLink RX4 175 yX3_fourFrom, .instanceMethod yX3_fourFrom, .selects RX3 yX3_fourFrom yX3_fourFrom, .code yX3_fourFrom cX3_fourFrom 2 (some .int), .methodLink RX3 19 yX3_at, .instanceMethod yX3_at, .selects RX3 yX3_at yX3_at, .code yX3_at cX3_at 2 (some .int), .fieldLink RX3 9 "CodedStore$Octets" "octets" "[I"] ++ wsX40 ++ wsX30)
def wsX4_putRecord_r1 : List Cond := [Cond.fieldLink RX4 35 "CodedStore" "content" "LCodedStore$Octets;", Cond.fieldLink RX4 10 "CodedStore" "disk" "LCodedStore$Disk;", Cond.fieldLink RX4 21 "CodedStore" "catalog" "LCodedStore$Catalog;", Cond.fieldLink RX4 41 "CodedStore" "row" "[I", Cond.methodLink RX4 52 yX3_size, Cond.instanceMethod yX3_size, Cond.selects RX3 yX3_size yX3_size, Cond.initialized RX3, Cond.code yX3_size cX3_size 1 (some .int), Cond.fieldLink RX3 15 "CodedStore$Octets" "size" "I", Cond.methodLink RX4 164 yX4_partsFor, Cond.static yX4_partsFor, Cond.initialized RX4, Cond.code yX4_partsFor cX4_partsFor 1 (some .int), Cond.methodLink RX4 84 yX4_surveyed, Cond.instanceMethod yX4_surveyed, Cond.selects RX4 yX4_surveyed yX4_surveyed, Cond.code yX4_surveyed cX4_surveyed 1 (some (.object "CodedStore$Catalog")), Cond.methodLink RX4 161 yX0_survey, Cond.instanceMethod yX0_survey, Cond.selects RX0 yX0_survey yX0_survey, Cond.initialized RX0, Cond.code yX0_survey cX0_survey 2 none, Cond.fieldLink RX0 18 "CodedStore$Catalog" "surveyedAt" "I"]
def wsX4_putRecord_r2 : List Cond := [Cond.fieldLink RX0 22 "CodedStore$Catalog" "disk" "LCodedStore$Disk;", Cond.fieldLink RX0 9 "CodedStore$Catalog" "whole" "[Z", Cond.fieldLink RX0 15 "CodedStore$Catalog" "live" "[Z", Cond.methodLink RX0 26 yX2_writesDone, Cond.instanceMethod yX2_writesDone, Cond.selects RX2 yX2_writesDone yX2_writesDone, Cond.initialized RX2, Cond.code yX2_writesDone cX2_writesDone 1 (some .int), Cond.fieldLink RX2 23 "CodedStore$Disk" "done" "I", Cond.methodLink RX0 32 yX2_numberOf, Cond.instanceMethod yX2_numberOf, Cond.selects RX2 yX2_numberOf yX2_numberOf, Cond.code yX2_numberOf cX2_numberOf 2 (some .int), Cond.methodLink RX2 26 yX2_wordAt, Cond.instanceMethod yX2_wordAt, Cond.selects RX2 yX2_wordAt yX2_wordAt, Cond.code yX2_wordAt cX2_wordAt 3 (some .int), Cond.fieldLink RX2 9 "CodedStore$Disk" "words" "[I", Cond.methodLink RX0 36 yX0_hasAllParts, Cond.instanceMethod yX0_hasAllParts, Cond.selects RX0 yX0_hasAllParts yX0_hasAllParts, Cond.code yX0_hasAllParts cX0_hasAllParts 4 (some .boolean), Cond.methodLink RX0 43 yX2_partsOf, Cond.instanceMethod yX2_partsOf]
def wsX4_putRecord_r3 : List Cond := [Cond.selects RX2 yX2_partsOf yX2_partsOf, Cond.code yX2_partsOf cX2_partsOf 2 (some .int), Cond.methodLink RX0 40 yX0_isOutdone, Cond.instanceMethod yX0_isOutdone, Cond.selects RX0 yX0_isOutdone yX0_isOutdone, Cond.code yX0_isOutdone cX0_isOutdone 3 (some .boolean), Cond.methodLink RX0 46 yX2_keyOf, Cond.instanceMethod yX2_keyOf, Cond.selects RX2 yX2_keyOf yX2_keyOf, Cond.code yX2_keyOf cX2_keyOf 2 (some .int), Cond.methodLink RX4 140 yX0_countLive, Cond.instanceMethod yX0_countLive, Cond.selects RX0 yX0_countLive yX0_countLive, Cond.code yX0_countLive cX0_countLive 3 (some .int), Cond.methodLink RX0 49 yX0_isLive, Cond.instanceMethod yX0_isLive, Cond.selects RX0 yX0_isLive yX0_isLive, Cond.code yX0_isLive cX0_isLive 2 (some .boolean), Cond.methodLink RX4 146 yX2_greatestNumber, Cond.instanceMethod yX2_greatestNumber, Cond.selects RX2 yX2_greatestNumber yX2_greatestNumber, Cond.code yX2_greatestNumber cX2_greatestNumber 3 (some .int), Cond.methodLink RX2 34 Lib.Math.max.name, Cond.static Lib.Math.max.name]
def wsX4_putRecord_r4 : List Cond := [Cond.initialized "java/lang/Math", Cond.code Lib.Math.max.name Lib.Math.max.code 2 (some .int), Cond.methodLink RX2 30 yX2_numberOf, Cond.methodLink RX4 167 yX0_isLive, Cond.methodLink RX4 170 yX4_fillRow, Cond.instanceMethod yX4_fillRow, Cond.selects RX4 yX4_fillRow yX4_fillRow, Cond.code yX4_fillRow cX4_fillRow 7 none, Cond.constant RX4 174 (65536), Cond.methodLink RX4 175 yX3_fourFrom, Cond.instanceMethod yX3_fourFrom, Cond.selects RX3 yX3_fourFrom yX3_fourFrom, Cond.code yX3_fourFrom cX3_fourFrom 2 (some .int), Cond.methodLink RX3 19 yX3_at, Cond.instanceMethod yX3_at, Cond.selects RX3 yX3_at yX3_at, Cond.code yX3_at cX3_at 2 (some .int), Cond.fieldLink RX3 9 "CodedStore$Octets" "octets" "[I", Cond.methodLink RX4 112 yX2_write, Cond.instanceMethod yX2_write, Cond.selects RX2 yX2_write yX2_write, Cond.code yX2_write cX2_write 4 (some .boolean), Cond.fieldLink RX2 15 "CodedStore$Disk" "on" "Z", Cond.fieldLink RX2 19 "CodedStore$Disk" "left" "I"]
def wsX4_putRecord : List Cond := .code yX4_putRecord cX4_putRecord 7 (some .int) :: ((wsX4_putRecord_r1 ++ (wsX4_putRecord_r2 ++ (wsX4_putRecord_r3 ++ wsX4_putRecord_r4))) ++ wsX40 ++ wsX30 ++ wsX00 ++ wsX20)
def wsX4_commit_r1 : List Cond := [Cond.fieldLink RX4 10 "CodedStore" "disk" "LCodedStore$Disk;", Cond.fieldLink RX4 28 "CodedStore" "tape" "LCodedStore$Octets;", Cond.fieldLink RX4 35 "CodedStore" "content" "LCodedStore$Octets;", Cond.methodLink RX4 63 yX2_isOn, Cond.instanceMethod yX2_isOn, Cond.selects RX2 yX2_isOn yX2_isOn, Cond.initialized RX2, Cond.code yX2_isOn cX2_isOn 1 (some .boolean), Cond.fieldLink RX2 15 "CodedStore$Disk" "on" "Z", Cond.methodLink RX4 67 yX1_encode, Cond.static yX1_encode, Cond.initialized RX1, Cond.code yX1_encode cX1_encode 9 none, Cond.methodLink RX1 9 yX3_empty, Cond.instanceMethod yX3_empty, Cond.selects RX3 yX3_empty yX3_empty, Cond.initialized RX3, Cond.code yX3_empty cX3_empty 1 none, Cond.fieldLink RX3 15 "CodedStore$Octets" "size" "I", Cond.methodLink RX1 14 yX3_size, Cond.instanceMethod yX3_size, Cond.selects RX3 yX3_size yX3_size, Cond.code yX3_size cX3_size 1 (some .int), Cond.methodLink RX1 18 yX3_append]
def wsX4_commit_r2 : List Cond := [Cond.instanceMethod yX3_append, Cond.selects RX3 yX3_append yX3_append, Cond.code yX3_append cX3_append 2 none, Cond.fieldLink RX3 9 "CodedStore$Octets" "octets" "[I", Cond.methodLink RX1 22 yX1_bestDistance, Cond.static yX1_bestDistance, Cond.code yX1_bestDistance cX1_bestDistance 7 (some .int), Cond.methodLink RX1 40 Lib.Math.min.name, Cond.static Lib.Math.min.name, Cond.initialized "java/lang/Math", Cond.code Lib.Math.min.name Lib.Math.min.code 2 (some .int), Cond.methodLink RX1 36 yX1_rowLength, Cond.static yX1_rowLength, Cond.code yX1_rowLength cX1_rowLength 5 (some .int), Cond.methodLink RX1 32 yX3_at, Cond.instanceMethod yX3_at, Cond.selects RX3 yX3_at yX3_at, Cond.code yX3_at cX3_at 2 (some .int), Cond.methodLink RX1 28 yX3_setBit, Cond.instanceMethod yX3_setBit, Cond.selects RX3 yX3_setBit yX3_setBit, Cond.code yX3_setBit cX3_setBit 3 none, Cond.methodLink RX4 52 yX3_size, Cond.methodLink RX4 73 yX3_becomeLike]
def wsX4_commit_r3 : List Cond := [Cond.instanceMethod yX3_becomeLike, Cond.selects RX3 yX3_becomeLike yX3_becomeLike, Cond.code yX3_becomeLike cX3_becomeLike 3 none, Cond.methodLink RX3 23 yX3_empty, Cond.methodLink RX3 19 yX3_at, Cond.methodLink RX3 26 yX3_append, Cond.methodLink RX4 77 yX3_empty, Cond.methodLink RX4 80 yX4_putRecord, Cond.instanceMethod yX4_putRecord, Cond.selects RX4 yX4_putRecord yX4_putRecord, Cond.initialized RX4, Cond.code yX4_putRecord cX4_putRecord 7 (some .int), Cond.fieldLink RX4 21 "CodedStore" "catalog" "LCodedStore$Catalog;", Cond.fieldLink RX4 41 "CodedStore" "row" "[I", Cond.methodLink RX4 164 yX4_partsFor, Cond.static yX4_partsFor, Cond.code yX4_partsFor cX4_partsFor 1 (some .int), Cond.methodLink RX4 84 yX4_surveyed, Cond.instanceMethod yX4_surveyed, Cond.selects RX4 yX4_surveyed yX4_surveyed, Cond.code yX4_surveyed cX4_surveyed 1 (some (.object "CodedStore$Catalog")), Cond.methodLink RX4 161 yX0_survey, Cond.instanceMethod yX0_survey, Cond.selects RX0 yX0_survey yX0_survey]
def wsX4_commit_r4 : List Cond := [Cond.initialized RX0, Cond.code yX0_survey cX0_survey 2 none, Cond.fieldLink RX0 18 "CodedStore$Catalog" "surveyedAt" "I", Cond.fieldLink RX0 22 "CodedStore$Catalog" "disk" "LCodedStore$Disk;", Cond.fieldLink RX0 9 "CodedStore$Catalog" "whole" "[Z", Cond.fieldLink RX0 15 "CodedStore$Catalog" "live" "[Z", Cond.methodLink RX0 26 yX2_writesDone, Cond.instanceMethod yX2_writesDone, Cond.selects RX2 yX2_writesDone yX2_writesDone, Cond.code yX2_writesDone cX2_writesDone 1 (some .int), Cond.fieldLink RX2 23 "CodedStore$Disk" "done" "I", Cond.methodLink RX0 32 yX2_numberOf, Cond.instanceMethod yX2_numberOf, Cond.selects RX2 yX2_numberOf yX2_numberOf, Cond.code yX2_numberOf cX2_numberOf 2 (some .int), Cond.methodLink RX2 26 yX2_wordAt, Cond.instanceMethod yX2_wordAt, Cond.selects RX2 yX2_wordAt yX2_wordAt, Cond.code yX2_wordAt cX2_wordAt 3 (some .int), Cond.fieldLink RX2 9 "CodedStore$Disk" "words" "[I", Cond.methodLink RX0 36 yX0_hasAllParts, Cond.instanceMethod yX0_hasAllParts, Cond.selects RX0 yX0_hasAllParts yX0_hasAllParts, Cond.code yX0_hasAllParts cX0_hasAllParts 4 (some .boolean)]
def wsX4_commit_r5 : List Cond := [Cond.methodLink RX0 43 yX2_partsOf, Cond.instanceMethod yX2_partsOf, Cond.selects RX2 yX2_partsOf yX2_partsOf, Cond.code yX2_partsOf cX2_partsOf 2 (some .int), Cond.methodLink RX0 40 yX0_isOutdone, Cond.instanceMethod yX0_isOutdone, Cond.selects RX0 yX0_isOutdone yX0_isOutdone, Cond.code yX0_isOutdone cX0_isOutdone 3 (some .boolean), Cond.methodLink RX0 46 yX2_keyOf, Cond.instanceMethod yX2_keyOf, Cond.selects RX2 yX2_keyOf yX2_keyOf, Cond.code yX2_keyOf cX2_keyOf 2 (some .int), Cond.methodLink RX4 140 yX0_countLive, Cond.instanceMethod yX0_countLive, Cond.selects RX0 yX0_countLive yX0_countLive, Cond.code yX0_countLive cX0_countLive 3 (some .int), Cond.methodLink RX0 49 yX0_isLive, Cond.instanceMethod yX0_isLive, Cond.selects RX0 yX0_isLive yX0_isLive, Cond.code yX0_isLive cX0_isLive 2 (some .boolean), Cond.methodLink RX4 146 yX2_greatestNumber, Cond.instanceMethod yX2_greatestNumber, Cond.selects RX2 yX2_greatestNumber yX2_greatestNumber, Cond.code yX2_greatestNumber cX2_greatestNumber 3 (some .int)]
def wsX4_commit_r6 : List Cond := [Cond.methodLink RX2 34 Lib.Math.max.name, Cond.static Lib.Math.max.name, Cond.code Lib.Math.max.name Lib.Math.max.code 2 (some .int), Cond.methodLink RX2 30 yX2_numberOf, Cond.methodLink RX4 167 yX0_isLive, Cond.methodLink RX4 170 yX4_fillRow, Cond.instanceMethod yX4_fillRow, Cond.selects RX4 yX4_fillRow yX4_fillRow, Cond.code yX4_fillRow cX4_fillRow 7 none, Cond.constant RX4 174 (65536), Cond.methodLink RX4 175 yX3_fourFrom, Cond.instanceMethod yX3_fourFrom, Cond.selects RX3 yX3_fourFrom yX3_fourFrom, Cond.code yX3_fourFrom cX3_fourFrom 2 (some .int), Cond.methodLink RX4 112 yX2_write, Cond.instanceMethod yX2_write, Cond.selects RX2 yX2_write yX2_write, Cond.code yX2_write cX2_write 4 (some .boolean), Cond.fieldLink RX2 19 "CodedStore$Disk" "left" "I"]
def wsX4_commit : List Cond := .code yX4_commit cX4_commit 3 (some .int) :: ((wsX4_commit_r1 ++ (wsX4_commit_r2 ++ (wsX4_commit_r3 ++ (wsX4_commit_r4 ++ (wsX4_commit_r5 ++ wsX4_commit_r6))))) ++ wsX40 ++ wsX20 ++ wsX30 ++ wsX00)
def wsX4_delete_r1 : List Cond := [Cond.fieldLink RX4 10 "CodedStore" "disk" "LCodedStore$Disk;", Cond.fieldLink RX4 21 "CodedStore" "catalog" "LCodedStore$Catalog;", Cond.fieldLink RX4 35 "CodedStore" "content" "LCodedStore$Octets;", Cond.methodLink RX4 63 yX2_isOn, Cond.instanceMethod yX2_isOn, Cond.selects RX2 yX2_isOn yX2_isOn, Cond.initialized RX2, Cond.code yX2_isOn cX2_isOn 1 (some .boolean), Cond.fieldLink RX2 15 "CodedStore$Disk" "on" "Z", Cond.methodLink RX4 84 yX4_surveyed, Cond.instanceMethod yX4_surveyed, Cond.selects RX4 yX4_surveyed yX4_surveyed, Cond.initialized RX4, Cond.code yX4_surveyed cX4_surveyed 1 (some (.object "CodedStore$Catalog")), Cond.methodLink RX4 161 yX0_survey, Cond.instanceMethod yX0_survey, Cond.selects RX0 yX0_survey yX0_survey, Cond.initialized RX0, Cond.code yX0_survey cX0_survey 2 none, Cond.fieldLink RX0 18 "CodedStore$Catalog" "surveyedAt" "I", Cond.fieldLink RX0 22 "CodedStore$Catalog" "disk" "LCodedStore$Disk;", Cond.fieldLink RX0 9 "CodedStore$Catalog" "whole" "[Z", Cond.fieldLink RX0 15 "CodedStore$Catalog" "live" "[Z", Cond.methodLink RX0 26 yX2_writesDone]
def wsX4_delete_r2 : List Cond := [Cond.instanceMethod yX2_writesDone, Cond.selects RX2 yX2_writesDone yX2_writesDone, Cond.code yX2_writesDone cX2_writesDone 1 (some .int), Cond.fieldLink RX2 23 "CodedStore$Disk" "done" "I", Cond.methodLink RX0 32 yX2_numberOf, Cond.instanceMethod yX2_numberOf, Cond.selects RX2 yX2_numberOf yX2_numberOf, Cond.code yX2_numberOf cX2_numberOf 2 (some .int), Cond.methodLink RX2 26 yX2_wordAt, Cond.instanceMethod yX2_wordAt, Cond.selects RX2 yX2_wordAt yX2_wordAt, Cond.code yX2_wordAt cX2_wordAt 3 (some .int), Cond.fieldLink RX2 9 "CodedStore$Disk" "words" "[I", Cond.methodLink RX0 36 yX0_hasAllParts, Cond.instanceMethod yX0_hasAllParts, Cond.selects RX0 yX0_hasAllParts yX0_hasAllParts, Cond.code yX0_hasAllParts cX0_hasAllParts 4 (some .boolean), Cond.methodLink RX0 43 yX2_partsOf, Cond.instanceMethod yX2_partsOf, Cond.selects RX2 yX2_partsOf yX2_partsOf, Cond.code yX2_partsOf cX2_partsOf 2 (some .int), Cond.methodLink RX0 40 yX0_isOutdone, Cond.instanceMethod yX0_isOutdone, Cond.selects RX0 yX0_isOutdone yX0_isOutdone]
def wsX4_delete_r3 : List Cond := [Cond.code yX0_isOutdone cX0_isOutdone 3 (some .boolean), Cond.methodLink RX0 46 yX2_keyOf, Cond.instanceMethod yX2_keyOf, Cond.selects RX2 yX2_keyOf yX2_keyOf, Cond.code yX2_keyOf cX2_keyOf 2 (some .int), Cond.methodLink RX4 88 yX0_firstBlock, Cond.instanceMethod yX0_firstBlock, Cond.selects RX0 yX0_firstBlock yX0_firstBlock, Cond.code yX0_firstBlock cX0_firstBlock 3 (some .int), Cond.methodLink RX0 49 yX0_isLive, Cond.instanceMethod yX0_isLive, Cond.selects RX0 yX0_isLive yX0_isLive, Cond.code yX0_isLive cX0_isLive 2 (some .boolean), Cond.methodLink RX0 55 yX2_partOf, Cond.instanceMethod yX2_partOf, Cond.selects RX2 yX2_partOf yX2_partOf, Cond.code yX2_partOf cX2_partOf 2 (some .int), Cond.methodLink RX4 92 yX0_isText, Cond.instanceMethod yX0_isText, Cond.selects RX0 yX0_isText yX0_isText, Cond.code yX0_isText cX0_isText 2 (some .boolean), Cond.methodLink RX0 52 yX2_formOf, Cond.instanceMethod yX2_formOf, Cond.selects RX2 yX2_formOf yX2_formOf]
def wsX4_delete_r4 : List Cond := [Cond.code yX2_formOf cX2_formOf 2 (some .int), Cond.methodLink RX4 77 yX3_empty, Cond.instanceMethod yX3_empty, Cond.selects RX3 yX3_empty yX3_empty, Cond.initialized RX3, Cond.code yX3_empty cX3_empty 1 none, Cond.fieldLink RX3 15 "CodedStore$Octets" "size" "I", Cond.methodLink RX4 80 yX4_putRecord, Cond.instanceMethod yX4_putRecord, Cond.selects RX4 yX4_putRecord yX4_putRecord, Cond.code yX4_putRecord cX4_putRecord 7 (some .int), Cond.fieldLink RX4 41 "CodedStore" "row" "[I", Cond.methodLink RX4 52 yX3_size, Cond.instanceMethod yX3_size, Cond.selects RX3 yX3_size yX3_size, Cond.code yX3_size cX3_size 1 (some .int), Cond.methodLink RX4 164 yX4_partsFor, Cond.static yX4_partsFor, Cond.code yX4_partsFor cX4_partsFor 1 (some .int), Cond.methodLink RX4 140 yX0_countLive, Cond.instanceMethod yX0_countLive, Cond.selects RX0 yX0_countLive yX0_countLive, Cond.code yX0_countLive cX0_countLive 3 (some .int), Cond.methodLink RX4 146 yX2_greatestNumber]
def wsX4_delete_r5 : List Cond := [Cond.instanceMethod yX2_greatestNumber, Cond.selects RX2 yX2_greatestNumber yX2_greatestNumber, Cond.code yX2_greatestNumber cX2_greatestNumber 3 (some .int), Cond.methodLink RX2 34 Lib.Math.max.name, Cond.static Lib.Math.max.name, Cond.initialized "java/lang/Math", Cond.code Lib.Math.max.name Lib.Math.max.code 2 (some .int), Cond.methodLink RX2 30 yX2_numberOf, Cond.methodLink RX4 167 yX0_isLive, Cond.methodLink RX4 170 yX4_fillRow, Cond.instanceMethod yX4_fillRow, Cond.selects RX4 yX4_fillRow yX4_fillRow, Cond.code yX4_fillRow cX4_fillRow 7 none, Cond.constant RX4 174 (65536), Cond.methodLink RX4 175 yX3_fourFrom, Cond.instanceMethod yX3_fourFrom, Cond.selects RX3 yX3_fourFrom yX3_fourFrom, Cond.code yX3_fourFrom cX3_fourFrom 2 (some .int), Cond.methodLink RX3 19 yX3_at, Cond.instanceMethod yX3_at, Cond.selects RX3 yX3_at yX3_at, Cond.code yX3_at cX3_at 2 (some .int), Cond.fieldLink RX3 9 "CodedStore$Octets" "octets" "[I", Cond.methodLink RX4 112 yX2_write]
def wsX4_delete_r6 : List Cond := [Cond.instanceMethod yX2_write, Cond.selects RX2 yX2_write yX2_write, Cond.code yX2_write cX2_write 4 (some .boolean), Cond.fieldLink RX2 19 "CodedStore$Disk" "left" "I"]
def wsX4_delete : List Cond := .code yX4_delete cX4_delete 3 (some .int) :: ((wsX4_delete_r1 ++ (wsX4_delete_r2 ++ (wsX4_delete_r3 ++ (wsX4_delete_r4 ++ (wsX4_delete_r5 ++ wsX4_delete_r6))))) ++ wsX40 ++ wsX20 ++ wsX00 ++ wsX30)
def wsX4_gatherContent_r1 : List Cond := [Cond.fieldLink RX4 35 "CodedStore" "content" "LCodedStore$Octets;", Cond.fieldLink RX4 10 "CodedStore" "disk" "LCodedStore$Disk;", Cond.methodLink RX4 77 yX3_empty, Cond.instanceMethod yX3_empty, Cond.selects RX3 yX3_empty yX3_empty, Cond.initialized RX3, Cond.code yX3_empty cX3_empty 1 none, Cond.fieldLink RX3 15 "CodedStore$Octets" "size" "I", Cond.methodLink RX4 178 yX2_partsOf, Cond.instanceMethod yX2_partsOf, Cond.selects RX2 yX2_partsOf yX2_partsOf, Cond.initialized RX2, Cond.code yX2_partsOf cX2_partsOf 2 (some .int), Cond.methodLink RX2 26 yX2_wordAt, Cond.instanceMethod yX2_wordAt, Cond.selects RX2 yX2_wordAt yX2_wordAt, Cond.code yX2_wordAt cX2_wordAt 3 (some .int), Cond.fieldLink RX2 9 "CodedStore$Disk" "words" "[I", Cond.methodLink RX4 152 yX2_numberOf, Cond.instanceMethod yX2_numberOf, Cond.selects RX2 yX2_numberOf yX2_numberOf, Cond.code yX2_numberOf cX2_numberOf 2 (some .int), Cond.methodLink RX4 181 yX2_blockOf, Cond.instanceMethod yX2_blockOf]
def wsX4_gatherContent_r2 : List Cond := [Cond.selects RX2 yX2_blockOf yX2_blockOf, Cond.code yX2_blockOf cX2_blockOf 4 (some .int), Cond.methodLink RX2 30 yX2_numberOf, Cond.methodLink RX2 39 yX2_partOf, Cond.instanceMethod yX2_partOf, Cond.selects RX2 yX2_partOf yX2_partOf, Cond.code yX2_partOf cX2_partOf 2 (some .int), Cond.methodLink RX4 52 yX3_size, Cond.instanceMethod yX3_size, Cond.selects RX3 yX3_size yX3_size, Cond.code yX3_size cX3_size 1 (some .int), Cond.methodLink RX4 184 yX2_octetsOf, Cond.instanceMethod yX2_octetsOf, Cond.selects RX2 yX2_octetsOf yX2_octetsOf, Cond.code yX2_octetsOf cX2_octetsOf 2 (some .int), Cond.methodLink RX4 137 yX2_wordAt, Cond.methodLink RX4 59 yX3_append, Cond.instanceMethod yX3_append, Cond.selects RX3 yX3_append yX3_append, Cond.code yX3_append cX3_append 2 none, Cond.fieldLink RX3 9 "CodedStore$Octets" "octets" "[I"]
def wsX4_gatherContent : List Cond := .code yX4_gatherContent cX4_gatherContent 6 none :: ((wsX4_gatherContent_r1 ++ wsX4_gatherContent_r2) ++ wsX40 ++ wsX30 ++ wsX20)
def wsX4_load_r1 : List Cond := [Cond.fieldLink RX4 10 "CodedStore" "disk" "LCodedStore$Disk;", Cond.fieldLink RX4 21 "CodedStore" "catalog" "LCodedStore$Catalog;", Cond.fieldLink RX4 35 "CodedStore" "content" "LCodedStore$Octets;", Cond.fieldLink RX4 38 "CodedStore" "decoded" "LCodedStore$Octets;", Cond.fieldLink RX4 32 "CodedStore" "loaded" "LCodedStore$Octets;", Cond.methodLink RX4 63 yX2_isOn, Cond.instanceMethod yX2_isOn, Cond.selects RX2 yX2_isOn yX2_isOn, Cond.initialized RX2, Cond.code yX2_isOn cX2_isOn 1 (some .boolean), Cond.fieldLink RX2 15 "CodedStore$Disk" "on" "Z", Cond.methodLink RX4 84 yX4_surveyed, Cond.instanceMethod yX4_surveyed, Cond.selects RX4 yX4_surveyed yX4_surveyed, Cond.initialized RX4, Cond.code yX4_surveyed cX4_surveyed 1 (some (.object "CodedStore$Catalog")), Cond.methodLink RX4 161 yX0_survey, Cond.instanceMethod yX0_survey, Cond.selects RX0 yX0_survey yX0_survey, Cond.initialized RX0, Cond.code yX0_survey cX0_survey 2 none, Cond.fieldLink RX0 18 "CodedStore$Catalog" "surveyedAt" "I", Cond.fieldLink RX0 22 "CodedStore$Catalog" "disk" "LCodedStore$Disk;", Cond.fieldLink RX0 9 "CodedStore$Catalog" "whole" "[Z"]
def wsX4_load_r2 : List Cond := [Cond.fieldLink RX0 15 "CodedStore$Catalog" "live" "[Z", Cond.methodLink RX0 26 yX2_writesDone, Cond.instanceMethod yX2_writesDone, Cond.selects RX2 yX2_writesDone yX2_writesDone, Cond.code yX2_writesDone cX2_writesDone 1 (some .int), Cond.fieldLink RX2 23 "CodedStore$Disk" "done" "I", Cond.methodLink RX0 32 yX2_numberOf, Cond.instanceMethod yX2_numberOf, Cond.selects RX2 yX2_numberOf yX2_numberOf, Cond.code yX2_numberOf cX2_numberOf 2 (some .int), Cond.methodLink RX2 26 yX2_wordAt, Cond.instanceMethod yX2_wordAt, Cond.selects RX2 yX2_wordAt yX2_wordAt, Cond.code yX2_wordAt cX2_wordAt 3 (some .int), Cond.fieldLink RX2 9 "CodedStore$Disk" "words" "[I", Cond.methodLink RX0 36 yX0_hasAllParts, Cond.instanceMethod yX0_hasAllParts, Cond.selects RX0 yX0_hasAllParts yX0_hasAllParts, Cond.code yX0_hasAllParts cX0_hasAllParts 4 (some .boolean), Cond.methodLink RX0 43 yX2_partsOf, Cond.instanceMethod yX2_partsOf, Cond.selects RX2 yX2_partsOf yX2_partsOf, Cond.code yX2_partsOf cX2_partsOf 2 (some .int), Cond.methodLink RX0 40 yX0_isOutdone]
def wsX4_load_r3 : List Cond := [Cond.instanceMethod yX0_isOutdone, Cond.selects RX0 yX0_isOutdone yX0_isOutdone, Cond.code yX0_isOutdone cX0_isOutdone 3 (some .boolean), Cond.methodLink RX0 46 yX2_keyOf, Cond.instanceMethod yX2_keyOf, Cond.selects RX2 yX2_keyOf yX2_keyOf, Cond.code yX2_keyOf cX2_keyOf 2 (some .int), Cond.methodLink RX4 88 yX0_firstBlock, Cond.instanceMethod yX0_firstBlock, Cond.selects RX0 yX0_firstBlock yX0_firstBlock, Cond.code yX0_firstBlock cX0_firstBlock 3 (some .int), Cond.methodLink RX0 49 yX0_isLive, Cond.instanceMethod yX0_isLive, Cond.selects RX0 yX0_isLive yX0_isLive, Cond.code yX0_isLive cX0_isLive 2 (some .boolean), Cond.methodLink RX0 55 yX2_partOf, Cond.instanceMethod yX2_partOf, Cond.selects RX2 yX2_partOf yX2_partOf, Cond.code yX2_partOf cX2_partOf 2 (some .int), Cond.methodLink RX4 92 yX0_isText, Cond.instanceMethod yX0_isText, Cond.selects RX0 yX0_isText yX0_isText, Cond.code yX0_isText cX0_isText 2 (some .boolean), Cond.methodLink RX0 52 yX2_formOf]
def wsX4_load_r4 : List Cond := [Cond.instanceMethod yX2_formOf, Cond.selects RX2 yX2_formOf yX2_formOf, Cond.code yX2_formOf cX2_formOf 2 (some .int), Cond.methodLink RX4 96 yX4_gatherContent, Cond.instanceMethod yX4_gatherContent, Cond.selects RX4 yX4_gatherContent yX4_gatherContent, Cond.code yX4_gatherContent cX4_gatherContent 6 none, Cond.methodLink RX4 77 yX3_empty, Cond.instanceMethod yX3_empty, Cond.selects RX3 yX3_empty yX3_empty, Cond.initialized RX3, Cond.code yX3_empty cX3_empty 1 none, Cond.fieldLink RX3 15 "CodedStore$Octets" "size" "I", Cond.methodLink RX4 178 yX2_partsOf, Cond.methodLink RX4 152 yX2_numberOf, Cond.methodLink RX4 181 yX2_blockOf, Cond.instanceMethod yX2_blockOf, Cond.selects RX2 yX2_blockOf yX2_blockOf, Cond.code yX2_blockOf cX2_blockOf 4 (some .int), Cond.methodLink RX2 30 yX2_numberOf, Cond.methodLink RX2 39 yX2_partOf, Cond.methodLink RX4 52 yX3_size, Cond.instanceMethod yX3_size, Cond.selects RX3 yX3_size yX3_size]
def wsX4_load_r5 : List Cond := [Cond.code yX3_size cX3_size 1 (some .int), Cond.methodLink RX4 184 yX2_octetsOf, Cond.instanceMethod yX2_octetsOf, Cond.selects RX2 yX2_octetsOf yX2_octetsOf, Cond.code yX2_octetsOf cX2_octetsOf 2 (some .int), Cond.methodLink RX4 137 yX2_wordAt, Cond.methodLink RX4 59 yX3_append, Cond.instanceMethod yX3_append, Cond.selects RX3 yX3_append yX3_append, Cond.code yX3_append cX3_append 2 none, Cond.fieldLink RX3 9 "CodedStore$Octets" "octets" "[I", Cond.methodLink RX4 99 yX2_formOf, Cond.methodLink RX4 102 yX1_decode, Cond.static yX1_decode, Cond.initialized RX1, Cond.code yX1_decode cX1_decode 8 (some .int), Cond.methodLink RX1 9 yX3_empty, Cond.methodLink RX1 14 yX3_size, Cond.methodLink RX1 32 yX3_at, Cond.instanceMethod yX3_at, Cond.selects RX3 yX3_at yX3_at, Cond.code yX3_at cX3_at 2 (some .int), Cond.methodLink RX1 46 yX1_decodeSingle, Cond.static yX1_decodeSingle]
def wsX4_load_r6 : List Cond := [Cond.code yX1_decodeSingle cX1_decodeSingle 3 (some .int), Cond.methodLink RX1 18 yX3_append, Cond.methodLink RX1 50 yX1_decodeRow, Cond.static yX1_decodeRow, Cond.code yX1_decodeRow cX1_decodeRow 5 (some .int), Cond.methodLink RX1 53 yX3_repeat, Cond.instanceMethod yX3_repeat, Cond.selects RX3 yX3_repeat yX3_repeat, Cond.code yX3_repeat cX3_repeat 4 none, Cond.methodLink RX3 19 yX3_at, Cond.methodLink RX3 26 yX3_append, Cond.methodLink RX4 73 yX3_becomeLike, Cond.instanceMethod yX3_becomeLike, Cond.selects RX3 yX3_becomeLike yX3_becomeLike, Cond.code yX3_becomeLike cX3_becomeLike 3 none, Cond.methodLink RX3 23 yX3_empty]
def wsX4_load : List Cond := .code yX4_load cX4_load 3 (some .int) :: ((wsX4_load_r1 ++ (wsX4_load_r2 ++ (wsX4_load_r3 ++ (wsX4_load_r4 ++ (wsX4_load_r5 ++ wsX4_load_r6))))) ++ wsX40 ++ wsX20 ++ wsX00 ++ wsX30)
def wsX4_out : List Cond := .code yX4_out cX4_out 2 (some .int) :: ([.fieldLink RX4 32 "CodedStore" "loaded" "LCodedStore$Octets;", .methodLink RX4 52 yX3_size, .instanceMethod yX3_size, .selects RX3 yX3_size yX3_size, .initialized RX3, .code yX3_size cX3_size 1 (some .int), .fieldLink RX3 15 "CodedStore$Octets" "size" "I", .methodLink RX4 106 yX3_at, .instanceMethod yX3_at, .selects RX3 yX3_at yX3_at, .code yX3_at cX3_at 2 (some .int), .fieldLink RX3 9 "CodedStore$Octets" "octets" "[I"] ++ wsX40 ++ wsX30)
def wsX4_clean_r1 : List Cond := [Cond.fieldLink RX4 10 "CodedStore" "disk" "LCodedStore$Disk;", Cond.fieldLink RX4 21 "CodedStore" "catalog" "LCodedStore$Catalog;", Cond.fieldLink RX4 45 "CodedStore" "zeros" "[I", Cond.methodLink RX4 63 yX2_isOn, Cond.instanceMethod yX2_isOn, Cond.selects RX2 yX2_isOn yX2_isOn, Cond.initialized RX2, Cond.code yX2_isOn cX2_isOn 1 (some .boolean), Cond.fieldLink RX2 15 "CodedStore$Disk" "on" "Z", Cond.methodLink RX4 84 yX4_surveyed, Cond.instanceMethod yX4_surveyed, Cond.selects RX4 yX4_surveyed yX4_surveyed, Cond.initialized RX4, Cond.code yX4_surveyed cX4_surveyed 1 (some (.object "CodedStore$Catalog")), Cond.methodLink RX4 161 yX0_survey, Cond.instanceMethod yX0_survey, Cond.selects RX0 yX0_survey yX0_survey, Cond.initialized RX0, Cond.code yX0_survey cX0_survey 2 none, Cond.fieldLink RX0 18 "CodedStore$Catalog" "surveyedAt" "I", Cond.fieldLink RX0 22 "CodedStore$Catalog" "disk" "LCodedStore$Disk;", Cond.fieldLink RX0 9 "CodedStore$Catalog" "whole" "[Z", Cond.fieldLink RX0 15 "CodedStore$Catalog" "live" "[Z", Cond.methodLink RX0 26 yX2_writesDone]
def wsX4_clean_r2 : List Cond := [Cond.instanceMethod yX2_writesDone, Cond.selects RX2 yX2_writesDone yX2_writesDone, Cond.code yX2_writesDone cX2_writesDone 1 (some .int), Cond.fieldLink RX2 23 "CodedStore$Disk" "done" "I", Cond.methodLink RX0 32 yX2_numberOf, Cond.instanceMethod yX2_numberOf, Cond.selects RX2 yX2_numberOf yX2_numberOf, Cond.code yX2_numberOf cX2_numberOf 2 (some .int), Cond.methodLink RX2 26 yX2_wordAt, Cond.instanceMethod yX2_wordAt, Cond.selects RX2 yX2_wordAt yX2_wordAt, Cond.code yX2_wordAt cX2_wordAt 3 (some .int), Cond.fieldLink RX2 9 "CodedStore$Disk" "words" "[I", Cond.methodLink RX0 36 yX0_hasAllParts, Cond.instanceMethod yX0_hasAllParts, Cond.selects RX0 yX0_hasAllParts yX0_hasAllParts, Cond.code yX0_hasAllParts cX0_hasAllParts 4 (some .boolean), Cond.methodLink RX0 43 yX2_partsOf, Cond.instanceMethod yX2_partsOf, Cond.selects RX2 yX2_partsOf yX2_partsOf, Cond.code yX2_partsOf cX2_partsOf 2 (some .int), Cond.methodLink RX0 40 yX0_isOutdone, Cond.instanceMethod yX0_isOutdone, Cond.selects RX0 yX0_isOutdone yX0_isOutdone]
def wsX4_clean_r3 : List Cond := [Cond.code yX0_isOutdone cX0_isOutdone 3 (some .boolean), Cond.methodLink RX0 46 yX2_keyOf, Cond.instanceMethod yX2_keyOf, Cond.selects RX2 yX2_keyOf yX2_keyOf, Cond.code yX2_keyOf cX2_keyOf 2 (some .int), Cond.methodLink RX4 109 yX0_isLeftOver, Cond.instanceMethod yX0_isLeftOver, Cond.selects RX0 yX0_isLeftOver yX0_isLeftOver, Cond.code yX0_isLeftOver cX0_isLeftOver 2 (some .boolean), Cond.methodLink RX0 49 yX0_isLive, Cond.instanceMethod yX0_isLive, Cond.selects RX0 yX0_isLive yX0_isLive, Cond.code yX0_isLive cX0_isLive 2 (some .boolean), Cond.methodLink RX4 112 yX2_write, Cond.instanceMethod yX2_write, Cond.selects RX2 yX2_write yX2_write, Cond.code yX2_write cX2_write 4 (some .boolean), Cond.fieldLink RX2 19 "CodedStore$Disk" "left" "I", Cond.methodLink RX4 116 yX0_isLiveGrave, Cond.instanceMethod yX0_isLiveGrave, Cond.selects RX0 yX0_isLiveGrave yX0_isLiveGrave, Cond.code yX0_isLiveGrave cX0_isLiveGrave 2 (some .boolean), Cond.methodLink RX0 52 yX2_formOf, Cond.instanceMethod yX2_formOf]
def wsX4_clean_r4 : List Cond := [Cond.selects RX2 yX2_formOf yX2_formOf, Cond.code yX2_formOf cX2_formOf 2 (some .int)]
def wsX4_clean : List Cond := .code yX4_clean cX4_clean 3 (some .int) :: ((wsX4_clean_r1 ++ (wsX4_clean_r2 ++ (wsX4_clean_r3 ++ wsX4_clean_r4))) ++ wsX40 ++ wsX20 ++ wsX00)
def wsX4_power : List Cond := .code yX4_power cX4_power 3 (some .int) :: ([.classLink RX4 56 "java/lang/IllegalArgumentException", .initialized "java/lang/IllegalArgumentException", .classLink RX4 119 "java/lang/IllegalStateException", .initialized "java/lang/IllegalStateException", .fieldLink RX4 10 "CodedStore" "disk" "LCodedStore$Disk;", .methodLink RX4 63 yX2_isOn, .instanceMethod yX2_isOn, .selects RX2 yX2_isOn yX2_isOn, .initialized RX2, .code yX2_isOn cX2_isOn 1 (some .boolean), .fieldLink RX2 15 "CodedStore$Disk" "on" "Z", .methodLink RX4 122 yX2_writesLeft, .instanceMethod yX2_writesLeft, .selects RX2 yX2_writesLeft yX2_writesLeft, .code yX2_writesLeft cX2_writesLeft 1 (some .int), .fieldLink RX2 19 "CodedStore$Disk" "left" "I", .methodLink RX4 125 yX2_allowWrites, .instanceMethod yX2_allowWrites, .selects RX2 yX2_allowWrites yX2_allowWrites, .code yX2_allowWrites cX2_allowWrites 2 none] ++ wsX40 ++ wsX20 ++ (vx_at0 RX4 58 "java/lang/IllegalArgumentException" ["java/lang/RuntimeException", "java/lang/Exception"]).filter goodWord ++ (vx_at0 RX4 121 "java/lang/IllegalStateException" ["java/lang/RuntimeException", "java/lang/Exception"]).filter goodWord)
def wsX4_recover_r1 : List Cond := [Cond.fieldLink RX4 10 "CodedStore" "disk" "LCodedStore$Disk;", Cond.fieldLink RX4 28 "CodedStore" "tape" "LCodedStore$Octets;", Cond.fieldLink RX4 32 "CodedStore" "loaded" "LCodedStore$Octets;", Cond.fieldLink RX4 48 "CodedStore" "failedPlace" "I", Cond.methodLink RX4 128 yX2_switchOn, Cond.instanceMethod yX2_switchOn, Cond.selects RX2 yX2_switchOn yX2_switchOn, Cond.initialized RX2, Cond.code yX2_switchOn cX2_switchOn 1 none, Cond.fieldLink RX2 15 "CodedStore$Disk" "on" "Z", Cond.fieldLink RX2 19 "CodedStore$Disk" "left" "I", Cond.methodLink RX4 77 yX3_empty, Cond.instanceMethod yX3_empty, Cond.selects RX3 yX3_empty yX3_empty, Cond.initialized RX3, Cond.code yX3_empty cX3_empty 1 none, Cond.fieldLink RX3 15 "CodedStore$Octets" "size" "I", Cond.methodLink RX4 84 yX4_surveyed, Cond.instanceMethod yX4_surveyed, Cond.selects RX4 yX4_surveyed yX4_surveyed, Cond.initialized RX4, Cond.code yX4_surveyed cX4_surveyed 1 (some (.object "CodedStore$Catalog")), Cond.fieldLink RX4 21 "CodedStore" "catalog" "LCodedStore$Catalog;", Cond.methodLink RX4 161 yX0_survey]
def wsX4_recover_r2 : List Cond := [Cond.instanceMethod yX0_survey, Cond.selects RX0 yX0_survey yX0_survey, Cond.initialized RX0, Cond.code yX0_survey cX0_survey 2 none, Cond.fieldLink RX0 18 "CodedStore$Catalog" "surveyedAt" "I", Cond.fieldLink RX0 22 "CodedStore$Catalog" "disk" "LCodedStore$Disk;", Cond.fieldLink RX0 9 "CodedStore$Catalog" "whole" "[Z", Cond.fieldLink RX0 15 "CodedStore$Catalog" "live" "[Z", Cond.methodLink RX0 26 yX2_writesDone, Cond.instanceMethod yX2_writesDone, Cond.selects RX2 yX2_writesDone yX2_writesDone, Cond.code yX2_writesDone cX2_writesDone 1 (some .int), Cond.fieldLink RX2 23 "CodedStore$Disk" "done" "I", Cond.methodLink RX0 32 yX2_numberOf, Cond.instanceMethod yX2_numberOf, Cond.selects RX2 yX2_numberOf yX2_numberOf, Cond.code yX2_numberOf cX2_numberOf 2 (some .int), Cond.methodLink RX2 26 yX2_wordAt, Cond.instanceMethod yX2_wordAt, Cond.selects RX2 yX2_wordAt yX2_wordAt, Cond.code yX2_wordAt cX2_wordAt 3 (some .int), Cond.fieldLink RX2 9 "CodedStore$Disk" "words" "[I", Cond.methodLink RX0 36 yX0_hasAllParts, Cond.instanceMethod yX0_hasAllParts]
def wsX4_recover_r3 : List Cond := [Cond.selects RX0 yX0_hasAllParts yX0_hasAllParts, Cond.code yX0_hasAllParts cX0_hasAllParts 4 (some .boolean), Cond.methodLink RX0 43 yX2_partsOf, Cond.instanceMethod yX2_partsOf, Cond.selects RX2 yX2_partsOf yX2_partsOf, Cond.code yX2_partsOf cX2_partsOf 2 (some .int), Cond.methodLink RX0 40 yX0_isOutdone, Cond.instanceMethod yX0_isOutdone, Cond.selects RX0 yX0_isOutdone yX0_isOutdone, Cond.code yX0_isOutdone cX0_isOutdone 3 (some .boolean), Cond.methodLink RX0 46 yX2_keyOf, Cond.instanceMethod yX2_keyOf, Cond.selects RX2 yX2_keyOf yX2_keyOf, Cond.code yX2_keyOf cX2_keyOf 2 (some .int), Cond.methodLink RX4 131 yX0_countTexts, Cond.instanceMethod yX0_countTexts, Cond.selects RX0 yX0_countTexts yX0_countTexts, Cond.code yX0_countTexts cX0_countTexts 3 (some .int), Cond.methodLink RX0 58 yX0_isText, Cond.instanceMethod yX0_isText, Cond.selects RX0 yX0_isText yX0_isText, Cond.code yX0_isText cX0_isText 2 (some .boolean), Cond.methodLink RX0 49 yX0_isLive, Cond.instanceMethod yX0_isLive]
def wsX4_recover_r4 : List Cond := [Cond.selects RX0 yX0_isLive yX0_isLive, Cond.code yX0_isLive cX0_isLive 2 (some .boolean), Cond.methodLink RX0 55 yX2_partOf, Cond.instanceMethod yX2_partOf, Cond.selects RX2 yX2_partOf yX2_partOf, Cond.code yX2_partOf cX2_partOf 2 (some .int), Cond.methodLink RX0 52 yX2_formOf, Cond.instanceMethod yX2_formOf, Cond.selects RX2 yX2_formOf yX2_formOf, Cond.code yX2_formOf cX2_formOf 2 (some .int)]
def wsX4_recover : List Cond := .code yX4_recover cX4_recover 1 (some .int) :: ((wsX4_recover_r1 ++ (wsX4_recover_r2 ++ (wsX4_recover_r3 ++ wsX4_recover_r4))) ++ wsX40 ++ wsX20 ++ wsX30 ++ wsX00)
def wsX4_word : List Cond := .code yX4_word cX4_word 3 (some .int) :: ([.classLink RX4 134 "java/lang/IndexOutOfBoundsException", .initialized "java/lang/IndexOutOfBoundsException", .fieldLink RX4 10 "CodedStore" "disk" "LCodedStore$Disk;", .methodLink RX4 137 yX2_wordAt, .instanceMethod yX2_wordAt, .selects RX2 yX2_wordAt yX2_wordAt, .initialized RX2, .code yX2_wordAt cX2_wordAt 3 (some .int), .fieldLink RX2 9 "CodedStore$Disk" "words" "[I"] ++ wsX40 ++ wsX20 ++ (vx_at0 RX4 136 "java/lang/IndexOutOfBoundsException" ["java/lang/RuntimeException", "java/lang/Exception"]).filter goodWord)
def wsX4_told_r1 : List Cond := [Cond.classLink RX4 134 "java/lang/IndexOutOfBoundsException", Cond.initialized "java/lang/IndexOutOfBoundsException", Cond.fieldLink RX4 10 "CodedStore" "disk" "LCodedStore$Disk;", Cond.fieldLink RX4 28 "CodedStore" "tape" "LCodedStore$Octets;", Cond.methodLink RX4 84 yX4_surveyed, Cond.instanceMethod yX4_surveyed, Cond.selects RX4 yX4_surveyed yX4_surveyed, Cond.initialized RX4, Cond.code yX4_surveyed cX4_surveyed 1 (some (.object "CodedStore$Catalog")), Cond.fieldLink RX4 21 "CodedStore" "catalog" "LCodedStore$Catalog;", Cond.methodLink RX4 161 yX0_survey, Cond.instanceMethod yX0_survey, Cond.selects RX0 yX0_survey yX0_survey, Cond.initialized RX0, Cond.code yX0_survey cX0_survey 2 none, Cond.fieldLink RX0 18 "CodedStore$Catalog" "surveyedAt" "I", Cond.fieldLink RX0 22 "CodedStore$Catalog" "disk" "LCodedStore$Disk;", Cond.fieldLink RX0 9 "CodedStore$Catalog" "whole" "[Z", Cond.fieldLink RX0 15 "CodedStore$Catalog" "live" "[Z", Cond.methodLink RX0 26 yX2_writesDone, Cond.instanceMethod yX2_writesDone, Cond.selects RX2 yX2_writesDone yX2_writesDone, Cond.initialized RX2, Cond.code yX2_writesDone cX2_writesDone 1 (some .int)]
def wsX4_told_r2 : List Cond := [Cond.fieldLink RX2 23 "CodedStore$Disk" "done" "I", Cond.methodLink RX0 32 yX2_numberOf, Cond.instanceMethod yX2_numberOf, Cond.selects RX2 yX2_numberOf yX2_numberOf, Cond.code yX2_numberOf cX2_numberOf 2 (some .int), Cond.methodLink RX2 26 yX2_wordAt, Cond.instanceMethod yX2_wordAt, Cond.selects RX2 yX2_wordAt yX2_wordAt, Cond.code yX2_wordAt cX2_wordAt 3 (some .int), Cond.fieldLink RX2 9 "CodedStore$Disk" "words" "[I", Cond.methodLink RX0 36 yX0_hasAllParts, Cond.instanceMethod yX0_hasAllParts, Cond.selects RX0 yX0_hasAllParts yX0_hasAllParts, Cond.code yX0_hasAllParts cX0_hasAllParts 4 (some .boolean), Cond.methodLink RX0 43 yX2_partsOf, Cond.instanceMethod yX2_partsOf, Cond.selects RX2 yX2_partsOf yX2_partsOf, Cond.code yX2_partsOf cX2_partsOf 2 (some .int), Cond.methodLink RX0 40 yX0_isOutdone, Cond.instanceMethod yX0_isOutdone, Cond.selects RX0 yX0_isOutdone yX0_isOutdone, Cond.code yX0_isOutdone cX0_isOutdone 3 (some .boolean), Cond.methodLink RX0 46 yX2_keyOf, Cond.instanceMethod yX2_keyOf]
def wsX4_told_r3 : List Cond := [Cond.selects RX2 yX2_keyOf yX2_keyOf, Cond.code yX2_keyOf cX2_keyOf 2 (some .int), Cond.methodLink RX4 131 yX0_countTexts, Cond.instanceMethod yX0_countTexts, Cond.selects RX0 yX0_countTexts yX0_countTexts, Cond.code yX0_countTexts cX0_countTexts 3 (some .int), Cond.methodLink RX0 58 yX0_isText, Cond.instanceMethod yX0_isText, Cond.selects RX0 yX0_isText yX0_isText, Cond.code yX0_isText cX0_isText 2 (some .boolean), Cond.methodLink RX0 49 yX0_isLive, Cond.instanceMethod yX0_isLive, Cond.selects RX0 yX0_isLive yX0_isLive, Cond.code yX0_isLive cX0_isLive 2 (some .boolean), Cond.methodLink RX0 55 yX2_partOf, Cond.instanceMethod yX2_partOf, Cond.selects RX2 yX2_partOf yX2_partOf, Cond.code yX2_partOf cX2_partOf 2 (some .int), Cond.methodLink RX0 52 yX2_formOf, Cond.instanceMethod yX2_formOf, Cond.selects RX2 yX2_formOf yX2_formOf, Cond.code yX2_formOf cX2_formOf 2 (some .int), Cond.methodLink RX4 140 yX0_countLive, Cond.instanceMethod yX0_countLive]
def wsX4_told_r4 : List Cond := [Cond.selects RX0 yX0_countLive yX0_countLive, Cond.code yX0_countLive cX0_countLive 3 (some .int), Cond.methodLink RX4 143 yX0_countLiveGraves, Cond.instanceMethod yX0_countLiveGraves, Cond.selects RX0 yX0_countLiveGraves yX0_countLiveGraves, Cond.code yX0_countLiveGraves cX0_countLiveGraves 3 (some .int), Cond.methodLink RX0 64 yX0_isLiveGrave, Cond.instanceMethod yX0_isLiveGrave, Cond.selects RX0 yX0_isLiveGrave yX0_isLiveGrave, Cond.code yX0_isLiveGrave cX0_isLiveGrave 2 (some .boolean), Cond.methodLink RX4 146 yX2_greatestNumber, Cond.instanceMethod yX2_greatestNumber, Cond.selects RX2 yX2_greatestNumber yX2_greatestNumber, Cond.code yX2_greatestNumber cX2_greatestNumber 3 (some .int), Cond.methodLink RX2 34 Lib.Math.max.name, Cond.static Lib.Math.max.name, Cond.initialized "java/lang/Math", Cond.code Lib.Math.max.name Lib.Math.max.code 2 (some .int), Cond.methodLink RX2 30 yX2_numberOf, Cond.methodLink RX4 149 yX2_writesDone, Cond.methodLink RX4 63 yX2_isOn, Cond.instanceMethod yX2_isOn, Cond.selects RX2 yX2_isOn yX2_isOn, Cond.code yX2_isOn cX2_isOn 1 (some .boolean)]
def wsX4_told_r5 : List Cond := [Cond.fieldLink RX2 15 "CodedStore$Disk" "on" "Z", Cond.methodLink RX4 52 yX3_size, Cond.instanceMethod yX3_size, Cond.selects RX3 yX3_size yX3_size, Cond.initialized RX3, Cond.code yX3_size cX3_size 1 (some .int), Cond.fieldLink RX3 15 "CodedStore$Octets" "size" "I"]
def wsX4_told : List Cond := .code yX4_told cX4_told 2 (some .int) :: ((wsX4_told_r1 ++ (wsX4_told_r2 ++ (wsX4_told_r3 ++ (wsX4_told_r4 ++ wsX4_told_r5)))) ++ wsX40 ++ wsX00 ++ wsX20 ++ wsX30 ++ (vx_at0 RX4 136 "java/lang/IndexOutOfBoundsException" ["java/lang/RuntimeException", "java/lang/Exception"]).filter goodWord)
def wsX4_number_r1 : List Cond := [Cond.fieldLink RX4 21 "CodedStore" "catalog" "LCodedStore$Catalog;", Cond.fieldLink RX4 10 "CodedStore" "disk" "LCodedStore$Disk;", Cond.methodLink RX4 84 yX4_surveyed, Cond.instanceMethod yX4_surveyed, Cond.selects RX4 yX4_surveyed yX4_surveyed, Cond.initialized RX4, Cond.code yX4_surveyed cX4_surveyed 1 (some (.object "CodedStore$Catalog")), Cond.methodLink RX4 161 yX0_survey, Cond.instanceMethod yX0_survey, Cond.selects RX0 yX0_survey yX0_survey, Cond.initialized RX0, Cond.code yX0_survey cX0_survey 2 none, Cond.fieldLink RX0 18 "CodedStore$Catalog" "surveyedAt" "I", Cond.fieldLink RX0 22 "CodedStore$Catalog" "disk" "LCodedStore$Disk;", Cond.fieldLink RX0 9 "CodedStore$Catalog" "whole" "[Z", Cond.fieldLink RX0 15 "CodedStore$Catalog" "live" "[Z", Cond.methodLink RX0 26 yX2_writesDone, Cond.instanceMethod yX2_writesDone, Cond.selects RX2 yX2_writesDone yX2_writesDone, Cond.initialized RX2, Cond.code yX2_writesDone cX2_writesDone 1 (some .int), Cond.fieldLink RX2 23 "CodedStore$Disk" "done" "I", Cond.methodLink RX0 32 yX2_numberOf, Cond.instanceMethod yX2_numberOf]
def wsX4_number_r2 : List Cond := [Cond.selects RX2 yX2_numberOf yX2_numberOf, Cond.code yX2_numberOf cX2_numberOf 2 (some .int), Cond.methodLink RX2 26 yX2_wordAt, Cond.instanceMethod yX2_wordAt, Cond.selects RX2 yX2_wordAt yX2_wordAt, Cond.code yX2_wordAt cX2_wordAt 3 (some .int), Cond.fieldLink RX2 9 "CodedStore$Disk" "words" "[I", Cond.methodLink RX0 36 yX0_hasAllParts, Cond.instanceMethod yX0_hasAllParts, Cond.selects RX0 yX0_hasAllParts yX0_hasAllParts, Cond.code yX0_hasAllParts cX0_hasAllParts 4 (some .boolean), Cond.methodLink RX0 43 yX2_partsOf, Cond.instanceMethod yX2_partsOf, Cond.selects RX2 yX2_partsOf yX2_partsOf, Cond.code yX2_partsOf cX2_partsOf 2 (some .int), Cond.methodLink RX0 40 yX0_isOutdone, Cond.instanceMethod yX0_isOutdone, Cond.selects RX0 yX0_isOutdone yX0_isOutdone, Cond.code yX0_isOutdone cX0_isOutdone 3 (some .boolean), Cond.methodLink RX0 46 yX2_keyOf, Cond.instanceMethod yX2_keyOf, Cond.selects RX2 yX2_keyOf yX2_keyOf, Cond.code yX2_keyOf cX2_keyOf 2 (some .int), Cond.methodLink RX4 88 yX0_firstBlock]
def wsX4_number_r3 : List Cond := [Cond.instanceMethod yX0_firstBlock, Cond.selects RX0 yX0_firstBlock yX0_firstBlock, Cond.code yX0_firstBlock cX0_firstBlock 3 (some .int), Cond.methodLink RX0 49 yX0_isLive, Cond.instanceMethod yX0_isLive, Cond.selects RX0 yX0_isLive yX0_isLive, Cond.code yX0_isLive cX0_isLive 2 (some .boolean), Cond.methodLink RX0 55 yX2_partOf, Cond.instanceMethod yX2_partOf, Cond.selects RX2 yX2_partOf yX2_partOf, Cond.code yX2_partOf cX2_partOf 2 (some .int), Cond.methodLink RX4 92 yX0_isText, Cond.instanceMethod yX0_isText, Cond.selects RX0 yX0_isText yX0_isText, Cond.code yX0_isText cX0_isText 2 (some .boolean), Cond.methodLink RX0 52 yX2_formOf, Cond.instanceMethod yX2_formOf, Cond.selects RX2 yX2_formOf yX2_formOf, Cond.code yX2_formOf cX2_formOf 2 (some .int), Cond.methodLink RX4 152 yX2_numberOf]
def wsX4_number : List Cond := .code yX4_number cX4_number 3 (some .int) :: ((wsX4_number_r1 ++ (wsX4_number_r2 ++ wsX4_number_r3)) ++ wsX40 ++ wsX00 ++ wsX20)
def wsX4_key_r1 : List Cond := [Cond.fieldLink RX4 10 "CodedStore" "disk" "LCodedStore$Disk;", Cond.methodLink RX4 84 yX4_surveyed, Cond.instanceMethod yX4_surveyed, Cond.selects RX4 yX4_surveyed yX4_surveyed, Cond.initialized RX4, Cond.code yX4_surveyed cX4_surveyed 1 (some (.object "CodedStore$Catalog")), Cond.fieldLink RX4 21 "CodedStore" "catalog" "LCodedStore$Catalog;", Cond.methodLink RX4 161 yX0_survey, Cond.instanceMethod yX0_survey, Cond.selects RX0 yX0_survey yX0_survey, Cond.initialized RX0, Cond.code yX0_survey cX0_survey 2 none, Cond.fieldLink RX0 18 "CodedStore$Catalog" "surveyedAt" "I", Cond.fieldLink RX0 22 "CodedStore$Catalog" "disk" "LCodedStore$Disk;", Cond.fieldLink RX0 9 "CodedStore$Catalog" "whole" "[Z", Cond.fieldLink RX0 15 "CodedStore$Catalog" "live" "[Z", Cond.methodLink RX0 26 yX2_writesDone, Cond.instanceMethod yX2_writesDone, Cond.selects RX2 yX2_writesDone yX2_writesDone, Cond.initialized RX2, Cond.code yX2_writesDone cX2_writesDone 1 (some .int), Cond.fieldLink RX2 23 "CodedStore$Disk" "done" "I", Cond.methodLink RX0 32 yX2_numberOf, Cond.instanceMethod yX2_numberOf]
def wsX4_key_r2 : List Cond := [Cond.selects RX2 yX2_numberOf yX2_numberOf, Cond.code yX2_numberOf cX2_numberOf 2 (some .int), Cond.methodLink RX2 26 yX2_wordAt, Cond.instanceMethod yX2_wordAt, Cond.selects RX2 yX2_wordAt yX2_wordAt, Cond.code yX2_wordAt cX2_wordAt 3 (some .int), Cond.fieldLink RX2 9 "CodedStore$Disk" "words" "[I", Cond.methodLink RX0 36 yX0_hasAllParts, Cond.instanceMethod yX0_hasAllParts, Cond.selects RX0 yX0_hasAllParts yX0_hasAllParts, Cond.code yX0_hasAllParts cX0_hasAllParts 4 (some .boolean), Cond.methodLink RX0 43 yX2_partsOf, Cond.instanceMethod yX2_partsOf, Cond.selects RX2 yX2_partsOf yX2_partsOf, Cond.code yX2_partsOf cX2_partsOf 2 (some .int), Cond.methodLink RX0 40 yX0_isOutdone, Cond.instanceMethod yX0_isOutdone, Cond.selects RX0 yX0_isOutdone yX0_isOutdone, Cond.code yX0_isOutdone cX0_isOutdone 3 (some .boolean), Cond.methodLink RX0 46 yX2_keyOf, Cond.instanceMethod yX2_keyOf, Cond.selects RX2 yX2_keyOf yX2_keyOf, Cond.code yX2_keyOf cX2_keyOf 2 (some .int), Cond.methodLink RX4 155 yX0_firstBlockOfRank]
def wsX4_key_r3 : List Cond := [Cond.instanceMethod yX0_firstBlockOfRank, Cond.selects RX0 yX0_firstBlockOfRank yX0_firstBlockOfRank, Cond.code yX0_firstBlockOfRank cX0_firstBlockOfRank 3 (some .int), Cond.methodLink RX0 58 yX0_isText, Cond.instanceMethod yX0_isText, Cond.selects RX0 yX0_isText yX0_isText, Cond.code yX0_isText cX0_isText 2 (some .boolean), Cond.methodLink RX0 49 yX0_isLive, Cond.instanceMethod yX0_isLive, Cond.selects RX0 yX0_isLive yX0_isLive, Cond.code yX0_isLive cX0_isLive 2 (some .boolean), Cond.methodLink RX0 55 yX2_partOf, Cond.instanceMethod yX2_partOf, Cond.selects RX2 yX2_partOf yX2_partOf, Cond.code yX2_partOf cX2_partOf 2 (some .int), Cond.methodLink RX0 52 yX2_formOf, Cond.instanceMethod yX2_formOf, Cond.selects RX2 yX2_formOf yX2_formOf, Cond.code yX2_formOf cX2_formOf 2 (some .int), Cond.methodLink RX0 61 yX0_countTextsBelow, Cond.instanceMethod yX0_countTextsBelow, Cond.selects RX0 yX0_countTextsBelow yX0_countTextsBelow, Cond.code yX0_countTextsBelow cX0_countTextsBelow 4 (some .int), Cond.methodLink RX4 158 yX2_keyOf]
def wsX4_key : List Cond := .code yX4_key cX4_key 3 (some .int) :: ((wsX4_key_r1 ++ (wsX4_key_r2 ++ wsX4_key_r3)) ++ wsX40 ++ wsX00 ++ wsX20)
def wsX4_pack_r1 : List Cond := [Cond.fieldLink RX4 28 "CodedStore" "tape" "LCodedStore$Octets;", Cond.fieldLink RX4 32 "CodedStore" "loaded" "LCodedStore$Octets;", Cond.methodLink RX4 67 yX1_encode, Cond.static yX1_encode, Cond.initialized RX1, Cond.code yX1_encode cX1_encode 9 none, Cond.methodLink RX1 9 yX3_empty, Cond.instanceMethod yX3_empty, Cond.selects RX3 yX3_empty yX3_empty, Cond.initialized RX3, Cond.code yX3_empty cX3_empty 1 none, Cond.fieldLink RX3 15 "CodedStore$Octets" "size" "I", Cond.methodLink RX1 14 yX3_size, Cond.instanceMethod yX3_size, Cond.selects RX3 yX3_size yX3_size, Cond.code yX3_size cX3_size 1 (some .int), Cond.methodLink RX1 18 yX3_append, Cond.instanceMethod yX3_append, Cond.selects RX3 yX3_append yX3_append, Cond.code yX3_append cX3_append 2 none, Cond.fieldLink RX3 9 "CodedStore$Octets" "octets" "[I", Cond.methodLink RX1 22 yX1_bestDistance, Cond.static yX1_bestDistance, Cond.code yX1_bestDistance cX1_bestDistance 7 (some .int)]
def wsX4_pack_r2 : List Cond := [Cond.methodLink RX1 40 Lib.Math.min.name, Cond.static Lib.Math.min.name, Cond.initialized "java/lang/Math", Cond.code Lib.Math.min.name Lib.Math.min.code 2 (some .int), Cond.methodLink RX1 36 yX1_rowLength, Cond.static yX1_rowLength, Cond.code yX1_rowLength cX1_rowLength 5 (some .int), Cond.methodLink RX1 32 yX3_at, Cond.instanceMethod yX3_at, Cond.selects RX3 yX3_at yX3_at, Cond.code yX3_at cX3_at 2 (some .int), Cond.methodLink RX1 28 yX3_setBit, Cond.instanceMethod yX3_setBit, Cond.selects RX3 yX3_setBit yX3_setBit, Cond.code yX3_setBit cX3_setBit 3 none, Cond.methodLink RX4 77 yX3_empty, Cond.methodLink RX4 52 yX3_size]
def wsX4_pack : List Cond := .code yX4_pack cX4_pack 1 (some .int) :: ((wsX4_pack_r1 ++ wsX4_pack_r2) ++ wsX40 ++ wsX30)
def wsX4_unpack_r1 : List Cond := [Cond.fieldLink RX4 28 "CodedStore" "tape" "LCodedStore$Octets;", Cond.fieldLink RX4 38 "CodedStore" "decoded" "LCodedStore$Octets;", Cond.fieldLink RX4 48 "CodedStore" "failedPlace" "I", Cond.fieldLink RX4 32 "CodedStore" "loaded" "LCodedStore$Octets;", Cond.methodLink RX4 102 yX1_decode, Cond.static yX1_decode, Cond.initialized RX1, Cond.code yX1_decode cX1_decode 8 (some .int), Cond.methodLink RX1 9 yX3_empty, Cond.instanceMethod yX3_empty, Cond.selects RX3 yX3_empty yX3_empty, Cond.initialized RX3, Cond.code yX3_empty cX3_empty 1 none, Cond.fieldLink RX3 15 "CodedStore$Octets" "size" "I", Cond.methodLink RX1 14 yX3_size, Cond.instanceMethod yX3_size, Cond.selects RX3 yX3_size yX3_size, Cond.code yX3_size cX3_size 1 (some .int), Cond.methodLink RX1 32 yX3_at, Cond.instanceMethod yX3_at, Cond.selects RX3 yX3_at yX3_at, Cond.code yX3_at cX3_at 2 (some .int), Cond.fieldLink RX3 9 "CodedStore$Octets" "octets" "[I", Cond.methodLink RX1 46 yX1_decodeSingle]
def wsX4_unpack_r2 : List Cond := [Cond.static yX1_decodeSingle, Cond.code yX1_decodeSingle cX1_decodeSingle 3 (some .int), Cond.methodLink RX1 18 yX3_append, Cond.instanceMethod yX3_append, Cond.selects RX3 yX3_append yX3_append, Cond.code yX3_append cX3_append 2 none, Cond.methodLink RX1 50 yX1_decodeRow, Cond.static yX1_decodeRow, Cond.code yX1_decodeRow cX1_decodeRow 5 (some .int), Cond.methodLink RX1 53 yX3_repeat, Cond.instanceMethod yX3_repeat, Cond.selects RX3 yX3_repeat yX3_repeat, Cond.code yX3_repeat cX3_repeat 4 none, Cond.methodLink RX3 19 yX3_at, Cond.methodLink RX3 26 yX3_append, Cond.methodLink RX4 77 yX3_empty, Cond.methodLink RX4 73 yX3_becomeLike, Cond.instanceMethod yX3_becomeLike, Cond.selects RX3 yX3_becomeLike yX3_becomeLike, Cond.code yX3_becomeLike cX3_becomeLike 3 none, Cond.methodLink RX3 23 yX3_empty, Cond.methodLink RX4 52 yX3_size]
def wsX4_unpack : List Cond := .code yX4_unpack cX4_unpack 2 (some .int) :: ((wsX4_unpack_r1 ++ wsX4_unpack_r2) ++ wsX40 ++ wsX30)
def wsX4_place : List Cond := .code yX4_place cX4_place 1 (some .int) :: ([.fieldLink RX4 48 "CodedStore" "failedPlace" "I"] ++ wsX40)
def wsX5_init : List Cond := .code yX5_init cX5_init 1 none :: ([.methodLink RX5 1 objectInit, .instanceMethod objectInit, .code objectInit ⟨#[0xb1]⟩ 1 none, .arrayClass .int, .fieldLink RX5 7 "CodedStoreModel" "disk" "[I", .fieldLink RX5 13 "CodedStoreModel" "tape" "[I", .fieldLink RX5 16 "CodedStoreModel" "on" "Z", .fieldLink RX5 20 "CodedStoreModel" "until" "I", .fieldLink RX5 24 "CodedStoreModel" "place" "I", .fieldLink RX5 27 "CodedStoreModel" "loaded" "[I", .fieldLink RX5 30 "CodedStoreModel" "made" "[I", .fieldLink RX5 33 "CodedStoreModel" "hand" "[I", .arrayClass .boolean, .fieldLink RX5 36 "CodedStoreModel" "wasLive" "[Z", .fieldLink RX5 40 "CodedStoreModel" "size" "I"] ++ wsX50)
def wsX5_thrown : List Cond := .code yX5_thrown cX5_thrown 1 (some .int) :: ([.fieldLink RX5 43 "CodedStoreModel" "thrown" "I"] ++ wsX50)
def wsX5_feed : List Cond := .code yX5_feed cX5_feed 5 (some .int) :: ([.fieldLink RX5 40 "CodedStoreModel" "size" "I", .fieldLink RX5 43 "CodedStoreModel" "thrown" "I", .fieldLink RX5 13 "CodedStoreModel" "tape" "[I", .constantLong RX5 46 (255)] ++ wsX50)
def wsX5_alike : List Cond := .code yX5_alike cX5_alike 4 (some .int) :: ([.fieldLink RX5 48 "CodedStoreModel" "handSize" "I", .fieldLink RX5 33 "CodedStoreModel" "hand" "[I"] ++ wsX50)
def wsX5_put : List Cond := .code yX5_put cX5_put 2 none :: ([.fieldLink RX5 30 "CodedStoreModel" "made" "[I", .fieldLink RX5 51 "CodedStoreModel" "madeSize" "I"] ++ wsX50)
def wsX5_code : List Cond := .code yX5_code cX5_code 8 none :: ([.fieldLink RX5 51 "CodedStoreModel" "madeSize" "I", .fieldLink RX5 48 "CodedStoreModel" "handSize" "I", .fieldLink RX5 30 "CodedStoreModel" "made" "[I", .fieldLink RX5 33 "CodedStoreModel" "hand" "[I", .methodLink RX5 54 yX5_put, .instanceMethod yX5_put, .selects RX5 yX5_put yX5_put, .initialized RX5, .code yX5_put cX5_put 2 none, .methodLink RX5 58 yX5_alike, .instanceMethod yX5_alike, .selects RX5 yX5_alike yX5_alike, .code yX5_alike cX5_alike 4 (some .int)] ++ wsX50)
def wsX5_wrong : List Cond := .code yX5_wrong cX5_wrong 2 (some .boolean) :: ([.fieldLink RX5 24 "CodedStoreModel" "place" "I"] ++ wsX50)
def wsX5_decode : List Cond := .code yX5_decode cX5_decode 8 (some .boolean) :: ([.fieldLink RX5 51 "CodedStoreModel" "madeSize" "I", .fieldLink RX5 48 "CodedStoreModel" "handSize" "I", .fieldLink RX5 33 "CodedStoreModel" "hand" "[I", .fieldLink RX5 30 "CodedStoreModel" "made" "[I", .methodLink RX5 62 yX5_wrong, .instanceMethod yX5_wrong, .selects RX5 yX5_wrong yX5_wrong, .initialized RX5, .code yX5_wrong cX5_wrong 2 (some .boolean), .fieldLink RX5 24 "CodedStoreModel" "place" "I", .methodLink RX5 54 yX5_put, .instanceMethod yX5_put, .selects RX5 yX5_put yX5_put, .code yX5_put cX5_put 2 none] ++ wsX50)
def wsX5_load0 : List Cond := .code yX5_load0 cX5_load0 2 none :: ([.fieldLink RX5 51 "CodedStoreModel" "madeSize" "I", .fieldLink RX5 66 "CodedStoreModel" "loadedSize" "I", .fieldLink RX5 27 "CodedStoreModel" "loaded" "[I", .fieldLink RX5 30 "CodedStoreModel" "made" "[I"] ++ wsX50)
def wsX5_takeTape : List Cond := .code yX5_takeTape cX5_takeTape 2 none :: ([.fieldLink RX5 40 "CodedStoreModel" "size" "I", .fieldLink RX5 48 "CodedStoreModel" "handSize" "I", .fieldLink RX5 33 "CodedStoreModel" "hand" "[I", .fieldLink RX5 13 "CodedStoreModel" "tape" "[I"] ++ wsX50)
def wsX5_pack_r1 : List Cond := [Cond.fieldLink RX5 43 "CodedStoreModel" "thrown" "I", Cond.fieldLink RX5 66 "CodedStoreModel" "loadedSize" "I", Cond.methodLink RX5 69 yX5_takeTape, Cond.instanceMethod yX5_takeTape, Cond.selects RX5 yX5_takeTape yX5_takeTape, Cond.initialized RX5, Cond.code yX5_takeTape cX5_takeTape 2 none, Cond.fieldLink RX5 40 "CodedStoreModel" "size" "I", Cond.fieldLink RX5 48 "CodedStoreModel" "handSize" "I", Cond.fieldLink RX5 33 "CodedStoreModel" "hand" "[I", Cond.fieldLink RX5 13 "CodedStoreModel" "tape" "[I", Cond.methodLink RX5 72 yX5_code, Cond.instanceMethod yX5_code, Cond.selects RX5 yX5_code yX5_code, Cond.code yX5_code cX5_code 8 none, Cond.fieldLink RX5 51 "CodedStoreModel" "madeSize" "I", Cond.fieldLink RX5 30 "CodedStoreModel" "made" "[I", Cond.methodLink RX5 54 yX5_put, Cond.instanceMethod yX5_put, Cond.selects RX5 yX5_put yX5_put, Cond.code yX5_put cX5_put 2 none, Cond.methodLink RX5 58 yX5_alike, Cond.instanceMethod yX5_alike, Cond.selects RX5 yX5_alike yX5_alike]
def wsX5_pack_r2 : List Cond := [Cond.code yX5_alike cX5_alike 4 (some .int), Cond.methodLink RX5 75 yX5_load0, Cond.instanceMethod yX5_load0, Cond.selects RX5 yX5_load0 yX5_load0, Cond.code yX5_load0 cX5_load0 2 none, Cond.fieldLink RX5 27 "CodedStoreModel" "loaded" "[I"]
def wsX5_pack : List Cond := .code yX5_pack cX5_pack 1 (some .int) :: ((wsX5_pack_r1 ++ wsX5_pack_r2) ++ wsX50)
def wsX5_unpack_r1 : List Cond := [Cond.fieldLink RX5 43 "CodedStoreModel" "thrown" "I", Cond.fieldLink RX5 66 "CodedStoreModel" "loadedSize" "I", Cond.methodLink RX5 69 yX5_takeTape, Cond.instanceMethod yX5_takeTape, Cond.selects RX5 yX5_takeTape yX5_takeTape, Cond.initialized RX5, Cond.code yX5_takeTape cX5_takeTape 2 none, Cond.fieldLink RX5 40 "CodedStoreModel" "size" "I", Cond.fieldLink RX5 48 "CodedStoreModel" "handSize" "I", Cond.fieldLink RX5 33 "CodedStoreModel" "hand" "[I", Cond.fieldLink RX5 13 "CodedStoreModel" "tape" "[I", Cond.methodLink RX5 78 yX5_decode, Cond.instanceMethod yX5_decode, Cond.selects RX5 yX5_decode yX5_decode, Cond.code yX5_decode cX5_decode 8 (some .boolean), Cond.fieldLink RX5 51 "CodedStoreModel" "madeSize" "I", Cond.fieldLink RX5 30 "CodedStoreModel" "made" "[I", Cond.methodLink RX5 62 yX5_wrong, Cond.instanceMethod yX5_wrong, Cond.selects RX5 yX5_wrong yX5_wrong, Cond.code yX5_wrong cX5_wrong 2 (some .boolean), Cond.fieldLink RX5 24 "CodedStoreModel" "place" "I", Cond.methodLink RX5 54 yX5_put, Cond.instanceMethod yX5_put]
def wsX5_unpack_r2 : List Cond := [Cond.selects RX5 yX5_put yX5_put, Cond.code yX5_put cX5_put 2 none, Cond.methodLink RX5 75 yX5_load0, Cond.instanceMethod yX5_load0, Cond.selects RX5 yX5_load0 yX5_load0, Cond.code yX5_load0 cX5_load0 2 none, Cond.fieldLink RX5 27 "CodedStoreModel" "loaded" "[I"]
def wsX5_unpack : List Cond := .code yX5_unpack cX5_unpack 1 (some .int) :: ((wsX5_unpack_r1 ++ wsX5_unpack_r2) ++ wsX50)
def wsX5_place : List Cond := .code yX5_place cX5_place 1 (some .int) :: ([.fieldLink RX5 43 "CodedStoreModel" "thrown" "I", .fieldLink RX5 24 "CodedStoreModel" "place" "I"] ++ wsX50)
def wsX5_out : List Cond := .code yX5_out cX5_out 2 (some .int) :: ([.fieldLink RX5 43 "CodedStoreModel" "thrown" "I", .fieldLink RX5 66 "CodedStoreModel" "loadedSize" "I", .fieldLink RX5 27 "CodedStoreModel" "loaded" "[I"] ++ wsX50)
def wsX5_numberOf : List Cond := .code yX5_numberOf cX5_numberOf 2 (some .int) :: ([.fieldLink RX5 7 "CodedStoreModel" "disk" "[I"] ++ wsX50)
def wsX5_partOf : List Cond := .code yX5_partOf cX5_partOf 2 (some .int) :: ([.fieldLink RX5 7 "CodedStoreModel" "disk" "[I"] ++ wsX50)
def wsX5_partsOf : List Cond := .code yX5_partsOf cX5_partsOf 2 (some .int) :: ([.fieldLink RX5 7 "CodedStoreModel" "disk" "[I"] ++ wsX50)
def wsX5_formOf : List Cond := .code yX5_formOf cX5_formOf 2 (some .int) :: ([.fieldLink RX5 7 "CodedStoreModel" "disk" "[I"] ++ wsX50)
def wsX5_keyOf : List Cond := .code yX5_keyOf cX5_keyOf 2 (some .int) :: ([.fieldLink RX5 7 "CodedStoreModel" "disk" "[I"] ++ wsX50)
def wsX5_isWhole : List Cond := .code yX5_isWhole cX5_isWhole 4 (some .boolean) :: ([.methodLink RX5 82 yX5_numberOf, .instanceMethod yX5_numberOf, .selects RX5 yX5_numberOf yX5_numberOf, .initialized RX5, .code yX5_numberOf cX5_numberOf 2 (some .int), .fieldLink RX5 7 "CodedStoreModel" "disk" "[I", .methodLink RX5 86 yX5_partsOf, .instanceMethod yX5_partsOf, .selects RX5 yX5_partsOf yX5_partsOf, .code yX5_partsOf cX5_partsOf 2 (some .int)] ++ wsX50)
def wsX5_isLive : List Cond := .code yX5_isLive cX5_isLive 3 (some .boolean) :: ([.methodLink RX5 89 yX5_isWhole, .instanceMethod yX5_isWhole, .selects RX5 yX5_isWhole yX5_isWhole, .initialized RX5, .code yX5_isWhole cX5_isWhole 4 (some .boolean), .methodLink RX5 82 yX5_numberOf, .instanceMethod yX5_numberOf, .selects RX5 yX5_numberOf yX5_numberOf, .code yX5_numberOf cX5_numberOf 2 (some .int), .fieldLink RX5 7 "CodedStoreModel" "disk" "[I", .methodLink RX5 86 yX5_partsOf, .instanceMethod yX5_partsOf, .selects RX5 yX5_partsOf yX5_partsOf, .code yX5_partsOf cX5_partsOf 2 (some .int), .methodLink RX5 92 yX5_keyOf, .instanceMethod yX5_keyOf, .selects RX5 yX5_keyOf yX5_keyOf, .code yX5_keyOf cX5_keyOf 2 (some .int)] ++ wsX50)
def wsX5_find_r1 : List Cond := [Cond.methodLink RX5 82 yX5_numberOf, Cond.instanceMethod yX5_numberOf, Cond.selects RX5 yX5_numberOf yX5_numberOf, Cond.initialized RX5, Cond.code yX5_numberOf cX5_numberOf 2 (some .int), Cond.fieldLink RX5 7 "CodedStoreModel" "disk" "[I", Cond.methodLink RX5 92 yX5_keyOf, Cond.instanceMethod yX5_keyOf, Cond.selects RX5 yX5_keyOf yX5_keyOf, Cond.code yX5_keyOf cX5_keyOf 2 (some .int), Cond.methodLink RX5 95 yX5_partOf, Cond.instanceMethod yX5_partOf, Cond.selects RX5 yX5_partOf yX5_partOf, Cond.code yX5_partOf cX5_partOf 2 (some .int), Cond.methodLink RX5 98 yX5_isLive, Cond.instanceMethod yX5_isLive, Cond.selects RX5 yX5_isLive yX5_isLive, Cond.code yX5_isLive cX5_isLive 3 (some .boolean), Cond.methodLink RX5 89 yX5_isWhole, Cond.instanceMethod yX5_isWhole, Cond.selects RX5 yX5_isWhole yX5_isWhole, Cond.code yX5_isWhole cX5_isWhole 4 (some .boolean), Cond.methodLink RX5 86 yX5_partsOf, Cond.instanceMethod yX5_partsOf]
def wsX5_find_r2 : List Cond := [Cond.selects RX5 yX5_partsOf yX5_partsOf, Cond.code yX5_partsOf cX5_partsOf 2 (some .int)]
def wsX5_find : List Cond := .code yX5_find cX5_find 3 (some .int) :: ((wsX5_find_r1 ++ wsX5_find_r2) ++ wsX50)
def wsX5_isText_r1 : List Cond := [Cond.methodLink RX5 82 yX5_numberOf, Cond.instanceMethod yX5_numberOf, Cond.selects RX5 yX5_numberOf yX5_numberOf, Cond.initialized RX5, Cond.code yX5_numberOf cX5_numberOf 2 (some .int), Cond.fieldLink RX5 7 "CodedStoreModel" "disk" "[I", Cond.methodLink RX5 95 yX5_partOf, Cond.instanceMethod yX5_partOf, Cond.selects RX5 yX5_partOf yX5_partOf, Cond.code yX5_partOf cX5_partOf 2 (some .int), Cond.methodLink RX5 101 yX5_formOf, Cond.instanceMethod yX5_formOf, Cond.selects RX5 yX5_formOf yX5_formOf, Cond.code yX5_formOf cX5_formOf 2 (some .int), Cond.methodLink RX5 98 yX5_isLive, Cond.instanceMethod yX5_isLive, Cond.selects RX5 yX5_isLive yX5_isLive, Cond.code yX5_isLive cX5_isLive 3 (some .boolean), Cond.methodLink RX5 89 yX5_isWhole, Cond.instanceMethod yX5_isWhole, Cond.selects RX5 yX5_isWhole yX5_isWhole, Cond.code yX5_isWhole cX5_isWhole 4 (some .boolean), Cond.methodLink RX5 86 yX5_partsOf, Cond.instanceMethod yX5_partsOf]
def wsX5_isText_r2 : List Cond := [Cond.selects RX5 yX5_partsOf yX5_partsOf, Cond.code yX5_partsOf cX5_partsOf 2 (some .int), Cond.methodLink RX5 92 yX5_keyOf, Cond.instanceMethod yX5_keyOf, Cond.selects RX5 yX5_keyOf yX5_keyOf, Cond.code yX5_keyOf cX5_keyOf 2 (some .int)]
def wsX5_isText : List Cond := .code yX5_isText cX5_isText 2 (some .boolean) :: ((wsX5_isText_r1 ++ wsX5_isText_r2) ++ wsX50)
def wsX5_greatest : List Cond := .code yX5_greatest cX5_greatest 3 (some .int) :: ([.methodLink RX5 82 yX5_numberOf, .instanceMethod yX5_numberOf, .selects RX5 yX5_numberOf yX5_numberOf, .initialized RX5, .code yX5_numberOf cX5_numberOf 2 (some .int), .fieldLink RX5 7 "CodedStoreModel" "disk" "[I"] ++ wsX50)
def wsX5_mayWrite : List Cond := .code yX5_mayWrite cX5_mayWrite 1 (some .boolean) :: ([.fieldLink RX5 20 "CodedStoreModel" "until" "I", .fieldLink RX5 16 "CodedStoreModel" "on" "Z", .fieldLink RX5 104 "CodedStoreModel" "writes" "I"] ++ wsX50)
def wsX5_findLive : List Cond := .code yX5_findLive cX5_findLive 3 (some .int) :: ([.fieldLink RX5 36 "CodedStoreModel" "wasLive" "[Z", .methodLink RX5 98 yX5_isLive, .instanceMethod yX5_isLive, .selects RX5 yX5_isLive yX5_isLive, .initialized RX5, .code yX5_isLive cX5_isLive 3 (some .boolean), .methodLink RX5 89 yX5_isWhole, .instanceMethod yX5_isWhole, .selects RX5 yX5_isWhole yX5_isWhole, .code yX5_isWhole cX5_isWhole 4 (some .boolean), .methodLink RX5 82 yX5_numberOf, .instanceMethod yX5_numberOf, .selects RX5 yX5_numberOf yX5_numberOf, .code yX5_numberOf cX5_numberOf 2 (some .int), .fieldLink RX5 7 "CodedStoreModel" "disk" "[I", .methodLink RX5 86 yX5_partsOf, .instanceMethod yX5_partsOf, .selects RX5 yX5_partsOf yX5_partsOf, .code yX5_partsOf cX5_partsOf 2 (some .int), .methodLink RX5 92 yX5_keyOf, .instanceMethod yX5_keyOf, .selects RX5 yX5_keyOf yX5_keyOf, .code yX5_keyOf cX5_keyOf 2 (some .int)] ++ wsX50)
def wsX5_word4 : List Cond := .code yX5_word4 cX5_word4 4 (some .int) :: ([.fieldLink RX5 51 "CodedStoreModel" "madeSize" "I", .fieldLink RX5 30 "CodedStoreModel" "made" "[I"] ++ wsX50)
def wsX5_putRecord_r1 : List Cond := [Cond.fieldLink RX5 51 "CodedStoreModel" "madeSize" "I", Cond.fieldLink RX5 36 "CodedStoreModel" "wasLive" "[Z", Cond.fieldLink RX5 7 "CodedStoreModel" "disk" "[I", Cond.constant RX5 117 (65536), Cond.methodLink RX5 107 yX5_greatest, Cond.instanceMethod yX5_greatest, Cond.selects RX5 yX5_greatest yX5_greatest, Cond.initialized RX5, Cond.code yX5_greatest cX5_greatest 3 (some .int), Cond.methodLink RX5 82 yX5_numberOf, Cond.instanceMethod yX5_numberOf, Cond.selects RX5 yX5_numberOf yX5_numberOf, Cond.code yX5_numberOf cX5_numberOf 2 (some .int), Cond.methodLink RX5 111 yX5_findLive, Cond.instanceMethod yX5_findLive, Cond.selects RX5 yX5_findLive yX5_findLive, Cond.code yX5_findLive cX5_findLive 3 (some .int), Cond.methodLink RX5 98 yX5_isLive, Cond.instanceMethod yX5_isLive, Cond.selects RX5 yX5_isLive yX5_isLive, Cond.code yX5_isLive cX5_isLive 3 (some .boolean), Cond.methodLink RX5 89 yX5_isWhole, Cond.instanceMethod yX5_isWhole, Cond.selects RX5 yX5_isWhole yX5_isWhole]
def wsX5_putRecord_r2 : List Cond := [Cond.code yX5_isWhole cX5_isWhole 4 (some .boolean), Cond.methodLink RX5 86 yX5_partsOf, Cond.instanceMethod yX5_partsOf, Cond.selects RX5 yX5_partsOf yX5_partsOf, Cond.code yX5_partsOf cX5_partsOf 2 (some .int), Cond.methodLink RX5 92 yX5_keyOf, Cond.instanceMethod yX5_keyOf, Cond.selects RX5 yX5_keyOf yX5_keyOf, Cond.code yX5_keyOf cX5_keyOf 2 (some .int), Cond.methodLink RX5 114 yX5_mayWrite, Cond.instanceMethod yX5_mayWrite, Cond.selects RX5 yX5_mayWrite yX5_mayWrite, Cond.code yX5_mayWrite cX5_mayWrite 1 (some .boolean), Cond.fieldLink RX5 20 "CodedStoreModel" "until" "I", Cond.fieldLink RX5 16 "CodedStoreModel" "on" "Z", Cond.fieldLink RX5 104 "CodedStoreModel" "writes" "I", Cond.methodLink RX5 118 yX5_word4, Cond.instanceMethod yX5_word4, Cond.selects RX5 yX5_word4 yX5_word4, Cond.code yX5_word4 cX5_word4 4 (some .int), Cond.fieldLink RX5 30 "CodedStoreModel" "made" "[I"]
def wsX5_putRecord : List Cond := .code yX5_putRecord cX5_putRecord 10 (some .int) :: ((wsX5_putRecord_r1 ++ wsX5_putRecord_r2) ++ wsX50)
def wsX5_commit_r1 : List Cond := [Cond.fieldLink RX5 43 "CodedStoreModel" "thrown" "I", Cond.fieldLink RX5 16 "CodedStoreModel" "on" "Z", Cond.fieldLink RX5 51 "CodedStoreModel" "madeSize" "I", Cond.fieldLink RX5 48 "CodedStoreModel" "handSize" "I", Cond.fieldLink RX5 30 "CodedStoreModel" "made" "[I", Cond.fieldLink RX5 33 "CodedStoreModel" "hand" "[I", Cond.methodLink RX5 69 yX5_takeTape, Cond.instanceMethod yX5_takeTape, Cond.selects RX5 yX5_takeTape yX5_takeTape, Cond.initialized RX5, Cond.code yX5_takeTape cX5_takeTape 2 none, Cond.fieldLink RX5 40 "CodedStoreModel" "size" "I", Cond.fieldLink RX5 13 "CodedStoreModel" "tape" "[I", Cond.methodLink RX5 72 yX5_code, Cond.instanceMethod yX5_code, Cond.selects RX5 yX5_code yX5_code, Cond.code yX5_code cX5_code 8 none, Cond.methodLink RX5 54 yX5_put, Cond.instanceMethod yX5_put, Cond.selects RX5 yX5_put yX5_put, Cond.code yX5_put cX5_put 2 none, Cond.methodLink RX5 58 yX5_alike, Cond.instanceMethod yX5_alike, Cond.selects RX5 yX5_alike yX5_alike]
def wsX5_commit_r2 : List Cond := [Cond.code yX5_alike cX5_alike 4 (some .int), Cond.methodLink RX5 121 yX5_putRecord, Cond.instanceMethod yX5_putRecord, Cond.selects RX5 yX5_putRecord yX5_putRecord, Cond.code yX5_putRecord cX5_putRecord 10 (some .int), Cond.fieldLink RX5 36 "CodedStoreModel" "wasLive" "[Z", Cond.fieldLink RX5 7 "CodedStoreModel" "disk" "[I", Cond.constant RX5 117 (65536), Cond.methodLink RX5 107 yX5_greatest, Cond.instanceMethod yX5_greatest, Cond.selects RX5 yX5_greatest yX5_greatest, Cond.code yX5_greatest cX5_greatest 3 (some .int), Cond.methodLink RX5 82 yX5_numberOf, Cond.instanceMethod yX5_numberOf, Cond.selects RX5 yX5_numberOf yX5_numberOf, Cond.code yX5_numberOf cX5_numberOf 2 (some .int), Cond.methodLink RX5 111 yX5_findLive, Cond.instanceMethod yX5_findLive, Cond.selects RX5 yX5_findLive yX5_findLive, Cond.code yX5_findLive cX5_findLive 3 (some .int), Cond.methodLink RX5 98 yX5_isLive, Cond.instanceMethod yX5_isLive, Cond.selects RX5 yX5_isLive yX5_isLive, Cond.code yX5_isLive cX5_isLive 3 (some .boolean)]
def wsX5_commit_r3 : List Cond := [Cond.methodLink RX5 89 yX5_isWhole, Cond.instanceMethod yX5_isWhole, Cond.selects RX5 yX5_isWhole yX5_isWhole, Cond.code yX5_isWhole cX5_isWhole 4 (some .boolean), Cond.methodLink RX5 86 yX5_partsOf, Cond.instanceMethod yX5_partsOf, Cond.selects RX5 yX5_partsOf yX5_partsOf, Cond.code yX5_partsOf cX5_partsOf 2 (some .int), Cond.methodLink RX5 92 yX5_keyOf, Cond.instanceMethod yX5_keyOf, Cond.selects RX5 yX5_keyOf yX5_keyOf, Cond.code yX5_keyOf cX5_keyOf 2 (some .int), Cond.methodLink RX5 114 yX5_mayWrite, Cond.instanceMethod yX5_mayWrite, Cond.selects RX5 yX5_mayWrite yX5_mayWrite, Cond.code yX5_mayWrite cX5_mayWrite 1 (some .boolean), Cond.fieldLink RX5 20 "CodedStoreModel" "until" "I", Cond.fieldLink RX5 104 "CodedStoreModel" "writes" "I", Cond.methodLink RX5 118 yX5_word4, Cond.instanceMethod yX5_word4, Cond.selects RX5 yX5_word4 yX5_word4, Cond.code yX5_word4 cX5_word4 4 (some .int)]
def wsX5_commit : List Cond := .code yX5_commit cX5_commit 4 (some .int) :: ((wsX5_commit_r1 ++ (wsX5_commit_r2 ++ wsX5_commit_r3)) ++ wsX50)
def wsX5_delete_r1 : List Cond := [Cond.fieldLink RX5 43 "CodedStoreModel" "thrown" "I", Cond.fieldLink RX5 16 "CodedStoreModel" "on" "Z", Cond.fieldLink RX5 51 "CodedStoreModel" "madeSize" "I", Cond.methodLink RX5 124 yX5_find, Cond.instanceMethod yX5_find, Cond.selects RX5 yX5_find yX5_find, Cond.initialized RX5, Cond.code yX5_find cX5_find 3 (some .int), Cond.methodLink RX5 82 yX5_numberOf, Cond.instanceMethod yX5_numberOf, Cond.selects RX5 yX5_numberOf yX5_numberOf, Cond.code yX5_numberOf cX5_numberOf 2 (some .int), Cond.fieldLink RX5 7 "CodedStoreModel" "disk" "[I", Cond.methodLink RX5 92 yX5_keyOf, Cond.instanceMethod yX5_keyOf, Cond.selects RX5 yX5_keyOf yX5_keyOf, Cond.code yX5_keyOf cX5_keyOf 2 (some .int), Cond.methodLink RX5 95 yX5_partOf, Cond.instanceMethod yX5_partOf, Cond.selects RX5 yX5_partOf yX5_partOf, Cond.code yX5_partOf cX5_partOf 2 (some .int), Cond.methodLink RX5 98 yX5_isLive, Cond.instanceMethod yX5_isLive, Cond.selects RX5 yX5_isLive yX5_isLive]
def wsX5_delete_r2 : List Cond := [Cond.code yX5_isLive cX5_isLive 3 (some .boolean), Cond.methodLink RX5 89 yX5_isWhole, Cond.instanceMethod yX5_isWhole, Cond.selects RX5 yX5_isWhole yX5_isWhole, Cond.code yX5_isWhole cX5_isWhole 4 (some .boolean), Cond.methodLink RX5 86 yX5_partsOf, Cond.instanceMethod yX5_partsOf, Cond.selects RX5 yX5_partsOf yX5_partsOf, Cond.code yX5_partsOf cX5_partsOf 2 (some .int), Cond.methodLink RX5 101 yX5_formOf, Cond.instanceMethod yX5_formOf, Cond.selects RX5 yX5_formOf yX5_formOf, Cond.code yX5_formOf cX5_formOf 2 (some .int), Cond.methodLink RX5 121 yX5_putRecord, Cond.instanceMethod yX5_putRecord, Cond.selects RX5 yX5_putRecord yX5_putRecord, Cond.code yX5_putRecord cX5_putRecord 10 (some .int), Cond.fieldLink RX5 36 "CodedStoreModel" "wasLive" "[Z", Cond.constant RX5 117 (65536), Cond.methodLink RX5 107 yX5_greatest, Cond.instanceMethod yX5_greatest, Cond.selects RX5 yX5_greatest yX5_greatest, Cond.code yX5_greatest cX5_greatest 3 (some .int), Cond.methodLink RX5 111 yX5_findLive]
def wsX5_delete_r3 : List Cond := [Cond.instanceMethod yX5_findLive, Cond.selects RX5 yX5_findLive yX5_findLive, Cond.code yX5_findLive cX5_findLive 3 (some .int), Cond.methodLink RX5 114 yX5_mayWrite, Cond.instanceMethod yX5_mayWrite, Cond.selects RX5 yX5_mayWrite yX5_mayWrite, Cond.code yX5_mayWrite cX5_mayWrite 1 (some .boolean), Cond.fieldLink RX5 20 "CodedStoreModel" "until" "I", Cond.fieldLink RX5 104 "CodedStoreModel" "writes" "I", Cond.methodLink RX5 118 yX5_word4, Cond.instanceMethod yX5_word4, Cond.selects RX5 yX5_word4 yX5_word4, Cond.code yX5_word4 cX5_word4 4 (some .int), Cond.fieldLink RX5 30 "CodedStoreModel" "made" "[I"]
def wsX5_delete : List Cond := .code yX5_delete cX5_delete 3 (some .int) :: ((wsX5_delete_r1 ++ (wsX5_delete_r2 ++ wsX5_delete_r3)) ++ wsX50)
def wsX5_load_r1 : List Cond := [Cond.fieldLink RX5 43 "CodedStoreModel" "thrown" "I", Cond.fieldLink RX5 16 "CodedStoreModel" "on" "Z", Cond.fieldLink RX5 7 "CodedStoreModel" "disk" "[I", Cond.fieldLink RX5 48 "CodedStoreModel" "handSize" "I", Cond.fieldLink RX5 33 "CodedStoreModel" "hand" "[I", Cond.fieldLink RX5 51 "CodedStoreModel" "madeSize" "I", Cond.fieldLink RX5 30 "CodedStoreModel" "made" "[I", Cond.fieldLink RX5 66 "CodedStoreModel" "loadedSize" "I", Cond.methodLink RX5 124 yX5_find, Cond.instanceMethod yX5_find, Cond.selects RX5 yX5_find yX5_find, Cond.initialized RX5, Cond.code yX5_find cX5_find 3 (some .int), Cond.methodLink RX5 82 yX5_numberOf, Cond.instanceMethod yX5_numberOf, Cond.selects RX5 yX5_numberOf yX5_numberOf, Cond.code yX5_numberOf cX5_numberOf 2 (some .int), Cond.methodLink RX5 92 yX5_keyOf, Cond.instanceMethod yX5_keyOf, Cond.selects RX5 yX5_keyOf yX5_keyOf, Cond.code yX5_keyOf cX5_keyOf 2 (some .int), Cond.methodLink RX5 95 yX5_partOf, Cond.instanceMethod yX5_partOf, Cond.selects RX5 yX5_partOf yX5_partOf]
def wsX5_load_r2 : List Cond := [Cond.code yX5_partOf cX5_partOf 2 (some .int), Cond.methodLink RX5 98 yX5_isLive, Cond.instanceMethod yX5_isLive, Cond.selects RX5 yX5_isLive yX5_isLive, Cond.code yX5_isLive cX5_isLive 3 (some .boolean), Cond.methodLink RX5 89 yX5_isWhole, Cond.instanceMethod yX5_isWhole, Cond.selects RX5 yX5_isWhole yX5_isWhole, Cond.code yX5_isWhole cX5_isWhole 4 (some .boolean), Cond.methodLink RX5 86 yX5_partsOf, Cond.instanceMethod yX5_partsOf, Cond.selects RX5 yX5_partsOf yX5_partsOf, Cond.code yX5_partsOf cX5_partsOf 2 (some .int), Cond.methodLink RX5 101 yX5_formOf, Cond.instanceMethod yX5_formOf, Cond.selects RX5 yX5_formOf yX5_formOf, Cond.code yX5_formOf cX5_formOf 2 (some .int), Cond.methodLink RX5 78 yX5_decode, Cond.instanceMethod yX5_decode, Cond.selects RX5 yX5_decode yX5_decode, Cond.code yX5_decode cX5_decode 8 (some .boolean), Cond.methodLink RX5 62 yX5_wrong, Cond.instanceMethod yX5_wrong, Cond.selects RX5 yX5_wrong yX5_wrong]
def wsX5_load_r3 : List Cond := [Cond.code yX5_wrong cX5_wrong 2 (some .boolean), Cond.fieldLink RX5 24 "CodedStoreModel" "place" "I", Cond.methodLink RX5 54 yX5_put, Cond.instanceMethod yX5_put, Cond.selects RX5 yX5_put yX5_put, Cond.code yX5_put cX5_put 2 none, Cond.methodLink RX5 75 yX5_load0, Cond.instanceMethod yX5_load0, Cond.selects RX5 yX5_load0 yX5_load0, Cond.code yX5_load0 cX5_load0 2 none, Cond.fieldLink RX5 27 "CodedStoreModel" "loaded" "[I"]
def wsX5_load : List Cond := .code yX5_load cX5_load 6 (some .int) :: ((wsX5_load_r1 ++ (wsX5_load_r2 ++ wsX5_load_r3)) ++ wsX50)
def wsX5_zero : List Cond := .code yX5_zero cX5_zero 3 (some .boolean) :: ([.fieldLink RX5 7 "CodedStoreModel" "disk" "[I", .methodLink RX5 114 yX5_mayWrite, .instanceMethod yX5_mayWrite, .selects RX5 yX5_mayWrite yX5_mayWrite, .initialized RX5, .code yX5_mayWrite cX5_mayWrite 1 (some .boolean), .fieldLink RX5 20 "CodedStoreModel" "until" "I", .fieldLink RX5 16 "CodedStoreModel" "on" "Z", .fieldLink RX5 104 "CodedStoreModel" "writes" "I"] ++ wsX50)
def wsX5_clean_r1 : List Cond := [Cond.fieldLink RX5 43 "CodedStoreModel" "thrown" "I", Cond.fieldLink RX5 16 "CodedStoreModel" "on" "Z", Cond.fieldLink RX5 36 "CodedStoreModel" "wasLive" "[Z", Cond.methodLink RX5 111 yX5_findLive, Cond.instanceMethod yX5_findLive, Cond.selects RX5 yX5_findLive yX5_findLive, Cond.initialized RX5, Cond.code yX5_findLive cX5_findLive 3 (some .int), Cond.methodLink RX5 98 yX5_isLive, Cond.instanceMethod yX5_isLive, Cond.selects RX5 yX5_isLive yX5_isLive, Cond.code yX5_isLive cX5_isLive 3 (some .boolean), Cond.methodLink RX5 89 yX5_isWhole, Cond.instanceMethod yX5_isWhole, Cond.selects RX5 yX5_isWhole yX5_isWhole, Cond.code yX5_isWhole cX5_isWhole 4 (some .boolean), Cond.methodLink RX5 82 yX5_numberOf, Cond.instanceMethod yX5_numberOf, Cond.selects RX5 yX5_numberOf yX5_numberOf, Cond.code yX5_numberOf cX5_numberOf 2 (some .int), Cond.fieldLink RX5 7 "CodedStoreModel" "disk" "[I", Cond.methodLink RX5 86 yX5_partsOf, Cond.instanceMethod yX5_partsOf, Cond.selects RX5 yX5_partsOf yX5_partsOf]
def wsX5_clean_r2 : List Cond := [Cond.code yX5_partsOf cX5_partsOf 2 (some .int), Cond.methodLink RX5 92 yX5_keyOf, Cond.instanceMethod yX5_keyOf, Cond.selects RX5 yX5_keyOf yX5_keyOf, Cond.code yX5_keyOf cX5_keyOf 2 (some .int), Cond.methodLink RX5 127 yX5_zero, Cond.instanceMethod yX5_zero, Cond.selects RX5 yX5_zero yX5_zero, Cond.code yX5_zero cX5_zero 3 (some .boolean), Cond.methodLink RX5 114 yX5_mayWrite, Cond.instanceMethod yX5_mayWrite, Cond.selects RX5 yX5_mayWrite yX5_mayWrite, Cond.code yX5_mayWrite cX5_mayWrite 1 (some .boolean), Cond.fieldLink RX5 20 "CodedStoreModel" "until" "I", Cond.fieldLink RX5 104 "CodedStoreModel" "writes" "I", Cond.methodLink RX5 101 yX5_formOf, Cond.instanceMethod yX5_formOf, Cond.selects RX5 yX5_formOf yX5_formOf, Cond.code yX5_formOf cX5_formOf 2 (some .int)]
def wsX5_clean : List Cond := .code yX5_clean cX5_clean 4 (some .int) :: ((wsX5_clean_r1 ++ wsX5_clean_r2) ++ wsX50)
def wsX5_power : List Cond := .code yX5_power cX5_power 3 (some .int) :: ([.fieldLink RX5 16 "CodedStoreModel" "on" "Z", .fieldLink RX5 43 "CodedStoreModel" "thrown" "I", .fieldLink RX5 20 "CodedStoreModel" "until" "I"] ++ wsX50)
def wsX5_texts_r1 : List Cond := [Cond.methodLink RX5 130 yX5_isText, Cond.instanceMethod yX5_isText, Cond.selects RX5 yX5_isText yX5_isText, Cond.initialized RX5, Cond.code yX5_isText cX5_isText 2 (some .boolean), Cond.methodLink RX5 82 yX5_numberOf, Cond.instanceMethod yX5_numberOf, Cond.selects RX5 yX5_numberOf yX5_numberOf, Cond.code yX5_numberOf cX5_numberOf 2 (some .int), Cond.fieldLink RX5 7 "CodedStoreModel" "disk" "[I", Cond.methodLink RX5 95 yX5_partOf, Cond.instanceMethod yX5_partOf, Cond.selects RX5 yX5_partOf yX5_partOf, Cond.code yX5_partOf cX5_partOf 2 (some .int), Cond.methodLink RX5 101 yX5_formOf, Cond.instanceMethod yX5_formOf, Cond.selects RX5 yX5_formOf yX5_formOf, Cond.code yX5_formOf cX5_formOf 2 (some .int), Cond.methodLink RX5 98 yX5_isLive, Cond.instanceMethod yX5_isLive, Cond.selects RX5 yX5_isLive yX5_isLive, Cond.code yX5_isLive cX5_isLive 3 (some .boolean), Cond.methodLink RX5 89 yX5_isWhole, Cond.instanceMethod yX5_isWhole]
def wsX5_texts_r2 : List Cond := [Cond.selects RX5 yX5_isWhole yX5_isWhole, Cond.code yX5_isWhole cX5_isWhole 4 (some .boolean), Cond.methodLink RX5 86 yX5_partsOf, Cond.instanceMethod yX5_partsOf, Cond.selects RX5 yX5_partsOf yX5_partsOf, Cond.code yX5_partsOf cX5_partsOf 2 (some .int), Cond.methodLink RX5 92 yX5_keyOf, Cond.instanceMethod yX5_keyOf, Cond.selects RX5 yX5_keyOf yX5_keyOf, Cond.code yX5_keyOf cX5_keyOf 2 (some .int)]
def wsX5_texts : List Cond := .code yX5_texts cX5_texts 3 (some .int) :: ((wsX5_texts_r1 ++ wsX5_texts_r2) ++ wsX50)
def wsX5_recover_r1 : List Cond := [Cond.fieldLink RX5 43 "CodedStoreModel" "thrown" "I", Cond.fieldLink RX5 16 "CodedStoreModel" "on" "Z", Cond.fieldLink RX5 20 "CodedStoreModel" "until" "I", Cond.fieldLink RX5 40 "CodedStoreModel" "size" "I", Cond.fieldLink RX5 66 "CodedStoreModel" "loadedSize" "I", Cond.fieldLink RX5 24 "CodedStoreModel" "place" "I", Cond.methodLink RX5 133 yX5_texts, Cond.instanceMethod yX5_texts, Cond.selects RX5 yX5_texts yX5_texts, Cond.initialized RX5, Cond.code yX5_texts cX5_texts 3 (some .int), Cond.methodLink RX5 130 yX5_isText, Cond.instanceMethod yX5_isText, Cond.selects RX5 yX5_isText yX5_isText, Cond.code yX5_isText cX5_isText 2 (some .boolean), Cond.methodLink RX5 82 yX5_numberOf, Cond.instanceMethod yX5_numberOf, Cond.selects RX5 yX5_numberOf yX5_numberOf, Cond.code yX5_numberOf cX5_numberOf 2 (some .int), Cond.fieldLink RX5 7 "CodedStoreModel" "disk" "[I", Cond.methodLink RX5 95 yX5_partOf, Cond.instanceMethod yX5_partOf, Cond.selects RX5 yX5_partOf yX5_partOf, Cond.code yX5_partOf cX5_partOf 2 (some .int)]
def wsX5_recover_r2 : List Cond := [Cond.methodLink RX5 101 yX5_formOf, Cond.instanceMethod yX5_formOf, Cond.selects RX5 yX5_formOf yX5_formOf, Cond.code yX5_formOf cX5_formOf 2 (some .int), Cond.methodLink RX5 98 yX5_isLive, Cond.instanceMethod yX5_isLive, Cond.selects RX5 yX5_isLive yX5_isLive, Cond.code yX5_isLive cX5_isLive 3 (some .boolean), Cond.methodLink RX5 89 yX5_isWhole, Cond.instanceMethod yX5_isWhole, Cond.selects RX5 yX5_isWhole yX5_isWhole, Cond.code yX5_isWhole cX5_isWhole 4 (some .boolean), Cond.methodLink RX5 86 yX5_partsOf, Cond.instanceMethod yX5_partsOf, Cond.selects RX5 yX5_partsOf yX5_partsOf, Cond.code yX5_partsOf cX5_partsOf 2 (some .int), Cond.methodLink RX5 92 yX5_keyOf, Cond.instanceMethod yX5_keyOf, Cond.selects RX5 yX5_keyOf yX5_keyOf, Cond.code yX5_keyOf cX5_keyOf 2 (some .int)]
def wsX5_recover : List Cond := .code yX5_recover cX5_recover 1 (some .int) :: ((wsX5_recover_r1 ++ wsX5_recover_r2) ++ wsX50)
def wsX5_word : List Cond := .code yX5_word cX5_word 3 (some .int) :: ([.fieldLink RX5 43 "CodedStoreModel" "thrown" "I", .fieldLink RX5 7 "CodedStoreModel" "disk" "[I"] ++ wsX50)
def wsX5_told_r1 : List Cond := [Cond.fieldLink RX5 43 "CodedStoreModel" "thrown" "I", Cond.fieldLink RX5 36 "CodedStoreModel" "wasLive" "[Z", Cond.fieldLink RX5 104 "CodedStoreModel" "writes" "I", Cond.fieldLink RX5 16 "CodedStoreModel" "on" "Z", Cond.fieldLink RX5 40 "CodedStoreModel" "size" "I", Cond.methodLink RX5 111 yX5_findLive, Cond.instanceMethod yX5_findLive, Cond.selects RX5 yX5_findLive yX5_findLive, Cond.initialized RX5, Cond.code yX5_findLive cX5_findLive 3 (some .int), Cond.methodLink RX5 98 yX5_isLive, Cond.instanceMethod yX5_isLive, Cond.selects RX5 yX5_isLive yX5_isLive, Cond.code yX5_isLive cX5_isLive 3 (some .boolean), Cond.methodLink RX5 89 yX5_isWhole, Cond.instanceMethod yX5_isWhole, Cond.selects RX5 yX5_isWhole yX5_isWhole, Cond.code yX5_isWhole cX5_isWhole 4 (some .boolean), Cond.methodLink RX5 82 yX5_numberOf, Cond.instanceMethod yX5_numberOf, Cond.selects RX5 yX5_numberOf yX5_numberOf, Cond.code yX5_numberOf cX5_numberOf 2 (some .int), Cond.fieldLink RX5 7 "CodedStoreModel" "disk" "[I", Cond.methodLink RX5 86 yX5_partsOf]
def wsX5_told_r2 : List Cond := [Cond.instanceMethod yX5_partsOf, Cond.selects RX5 yX5_partsOf yX5_partsOf, Cond.code yX5_partsOf cX5_partsOf 2 (some .int), Cond.methodLink RX5 92 yX5_keyOf, Cond.instanceMethod yX5_keyOf, Cond.selects RX5 yX5_keyOf yX5_keyOf, Cond.code yX5_keyOf cX5_keyOf 2 (some .int), Cond.methodLink RX5 101 yX5_formOf, Cond.instanceMethod yX5_formOf, Cond.selects RX5 yX5_formOf yX5_formOf, Cond.code yX5_formOf cX5_formOf 2 (some .int), Cond.methodLink RX5 133 yX5_texts, Cond.instanceMethod yX5_texts, Cond.selects RX5 yX5_texts yX5_texts, Cond.code yX5_texts cX5_texts 3 (some .int), Cond.methodLink RX5 130 yX5_isText, Cond.instanceMethod yX5_isText, Cond.selects RX5 yX5_isText yX5_isText, Cond.code yX5_isText cX5_isText 2 (some .boolean), Cond.methodLink RX5 95 yX5_partOf, Cond.instanceMethod yX5_partOf, Cond.selects RX5 yX5_partOf yX5_partOf, Cond.code yX5_partOf cX5_partOf 2 (some .int), Cond.methodLink RX5 107 yX5_greatest]
def wsX5_told_r3 : List Cond := [Cond.instanceMethod yX5_greatest, Cond.selects RX5 yX5_greatest yX5_greatest, Cond.code yX5_greatest cX5_greatest 3 (some .int)]
def wsX5_told : List Cond := .code yX5_told cX5_told 5 (some .int) :: ((wsX5_told_r1 ++ (wsX5_told_r2 ++ wsX5_told_r3)) ++ wsX50)
def wsX5_number_r1 : List Cond := [Cond.fieldLink RX5 43 "CodedStoreModel" "thrown" "I", Cond.methodLink RX5 124 yX5_find, Cond.instanceMethod yX5_find, Cond.selects RX5 yX5_find yX5_find, Cond.initialized RX5, Cond.code yX5_find cX5_find 3 (some .int), Cond.methodLink RX5 82 yX5_numberOf, Cond.instanceMethod yX5_numberOf, Cond.selects RX5 yX5_numberOf yX5_numberOf, Cond.code yX5_numberOf cX5_numberOf 2 (some .int), Cond.fieldLink RX5 7 "CodedStoreModel" "disk" "[I", Cond.methodLink RX5 92 yX5_keyOf, Cond.instanceMethod yX5_keyOf, Cond.selects RX5 yX5_keyOf yX5_keyOf, Cond.code yX5_keyOf cX5_keyOf 2 (some .int), Cond.methodLink RX5 95 yX5_partOf, Cond.instanceMethod yX5_partOf, Cond.selects RX5 yX5_partOf yX5_partOf, Cond.code yX5_partOf cX5_partOf 2 (some .int), Cond.methodLink RX5 98 yX5_isLive, Cond.instanceMethod yX5_isLive, Cond.selects RX5 yX5_isLive yX5_isLive, Cond.code yX5_isLive cX5_isLive 3 (some .boolean), Cond.methodLink RX5 89 yX5_isWhole]
def wsX5_number_r2 : List Cond := [Cond.instanceMethod yX5_isWhole, Cond.selects RX5 yX5_isWhole yX5_isWhole, Cond.code yX5_isWhole cX5_isWhole 4 (some .boolean), Cond.methodLink RX5 86 yX5_partsOf, Cond.instanceMethod yX5_partsOf, Cond.selects RX5 yX5_partsOf yX5_partsOf, Cond.code yX5_partsOf cX5_partsOf 2 (some .int), Cond.methodLink RX5 101 yX5_formOf, Cond.instanceMethod yX5_formOf, Cond.selects RX5 yX5_formOf yX5_formOf, Cond.code yX5_formOf cX5_formOf 2 (some .int)]
def wsX5_number : List Cond := .code yX5_number cX5_number 3 (some .int) :: ((wsX5_number_r1 ++ wsX5_number_r2) ++ wsX50)
def wsX5_key_r1 : List Cond := [Cond.fieldLink RX5 43 "CodedStoreModel" "thrown" "I", Cond.methodLink RX5 130 yX5_isText, Cond.instanceMethod yX5_isText, Cond.selects RX5 yX5_isText yX5_isText, Cond.initialized RX5, Cond.code yX5_isText cX5_isText 2 (some .boolean), Cond.methodLink RX5 82 yX5_numberOf, Cond.instanceMethod yX5_numberOf, Cond.selects RX5 yX5_numberOf yX5_numberOf, Cond.code yX5_numberOf cX5_numberOf 2 (some .int), Cond.fieldLink RX5 7 "CodedStoreModel" "disk" "[I", Cond.methodLink RX5 95 yX5_partOf, Cond.instanceMethod yX5_partOf, Cond.selects RX5 yX5_partOf yX5_partOf, Cond.code yX5_partOf cX5_partOf 2 (some .int), Cond.methodLink RX5 101 yX5_formOf, Cond.instanceMethod yX5_formOf, Cond.selects RX5 yX5_formOf yX5_formOf, Cond.code yX5_formOf cX5_formOf 2 (some .int), Cond.methodLink RX5 98 yX5_isLive, Cond.instanceMethod yX5_isLive, Cond.selects RX5 yX5_isLive yX5_isLive, Cond.code yX5_isLive cX5_isLive 3 (some .boolean), Cond.methodLink RX5 89 yX5_isWhole]
def wsX5_key_r2 : List Cond := [Cond.instanceMethod yX5_isWhole, Cond.selects RX5 yX5_isWhole yX5_isWhole, Cond.code yX5_isWhole cX5_isWhole 4 (some .boolean), Cond.methodLink RX5 86 yX5_partsOf, Cond.instanceMethod yX5_partsOf, Cond.selects RX5 yX5_partsOf yX5_partsOf, Cond.code yX5_partsOf cX5_partsOf 2 (some .int), Cond.methodLink RX5 92 yX5_keyOf, Cond.instanceMethod yX5_keyOf, Cond.selects RX5 yX5_keyOf yX5_keyOf, Cond.code yX5_keyOf cX5_keyOf 2 (some .int)]
def wsX5_key : List Cond := .code yX5_key cX5_key 5 (some .int) :: ((wsX5_key_r1 ++ wsX5_key_r2) ++ wsX50)
def wsJ9_max_7cf53 : List Cond := .code yJ9_max_7cf53 cJ9_max_7cf53 2 (some .int) :: ([])
def wsJ9_min_7cf53 : List Cond := .code yJ9_min_7cf53 cJ9_min_7cf53 2 (some .int) :: ([])
def wsL_feed : List Cond := .codeWith yL_feed cL_feed 6 (some .int) [(0, 11, 14, 13)] :: ([.classLink RL 13 "java/lang/IllegalArgumentException", .methodLink RL 7 yX4_feed, .instanceMethod yX4_feed, .selects RX4 yX4_feed yX4_feed, .initialized RX4, .code yX4_feed cX4_feed 5 (some .int), .classLink RX4 56 "java/lang/IllegalArgumentException", .initialized "java/lang/IllegalArgumentException", .fieldLink RX4 28 "CodedStore" "tape" "LCodedStore$Octets;", .methodLink RX4 52 yX3_size, .instanceMethod yX3_size, .selects RX3 yX3_size yX3_size, .initialized RX3, .code yX3_size cX3_size 1 (some .int), .fieldLink RX3 15 "CodedStore$Octets" "size" "I", .methodLink RX4 59 yX3_append, .instanceMethod yX3_append, .selects RX3 yX3_append yX3_append, .code yX3_append cX3_append 2 none, .fieldLink RX3 9 "CodedStore$Octets" "octets" "[I"] ++ wsX40 ++ wsX30 ++ (vx_at0 RX4 58 "java/lang/IllegalArgumentException" ["java/lang/RuntimeException", "java/lang/Exception"]).filter goodWord)
def wsL_power_r1 : List Cond := [Cond.classLink RL 13 "java/lang/IllegalArgumentException", Cond.classLink RL 19 "java/lang/IllegalStateException", Cond.methodLink RL 15 yX4_power, Cond.instanceMethod yX4_power, Cond.selects RX4 yX4_power yX4_power, Cond.initialized RX4, Cond.code yX4_power cX4_power 3 (some .int), Cond.classLink RX4 56 "java/lang/IllegalArgumentException", Cond.initialized "java/lang/IllegalArgumentException", Cond.classLink RX4 119 "java/lang/IllegalStateException", Cond.initialized "java/lang/IllegalStateException", Cond.fieldLink RX4 10 "CodedStore" "disk" "LCodedStore$Disk;", Cond.methodLink RX4 63 yX2_isOn, Cond.instanceMethod yX2_isOn, Cond.selects RX2 yX2_isOn yX2_isOn, Cond.initialized RX2, Cond.code yX2_isOn cX2_isOn 1 (some .boolean), Cond.fieldLink RX2 15 "CodedStore$Disk" "on" "Z", Cond.methodLink RX4 122 yX2_writesLeft, Cond.instanceMethod yX2_writesLeft, Cond.selects RX2 yX2_writesLeft yX2_writesLeft, Cond.code yX2_writesLeft cX2_writesLeft 1 (some .int), Cond.fieldLink RX2 19 "CodedStore$Disk" "left" "I", Cond.methodLink RX4 125 yX2_allowWrites]
def wsL_power_r2 : List Cond := [Cond.instanceMethod yX2_allowWrites, Cond.selects RX2 yX2_allowWrites yX2_allowWrites, Cond.code yX2_allowWrites cX2_allowWrites 2 none]
def wsL_power : List Cond := .codeWith yL_power cL_power 4 (some .int) [(0, 9, 12, 13), (0, 9, 15, 19)] :: ((wsL_power_r1 ++ wsL_power_r2) ++ wsX40 ++ wsX20 ++ (vx_at0 RX4 58 "java/lang/IllegalArgumentException" ["java/lang/RuntimeException", "java/lang/Exception"]).filter goodWord ++ (vx_at0 RX4 121 "java/lang/IllegalStateException" ["java/lang/RuntimeException", "java/lang/Exception"]).filter goodWord)
def wsL_word : List Cond := .codeWith yL_word cL_word 5 (some .int) [(0, 10, 13, 25)] :: ([.classLink RL 25 "java/lang/IndexOutOfBoundsException", .methodLink RL 21 yX4_word, .instanceMethod yX4_word, .selects RX4 yX4_word yX4_word, .initialized RX4, .code yX4_word cX4_word 3 (some .int), .classLink RX4 134 "java/lang/IndexOutOfBoundsException", .initialized "java/lang/IndexOutOfBoundsException", .fieldLink RX4 10 "CodedStore" "disk" "LCodedStore$Disk;", .methodLink RX4 137 yX2_wordAt, .instanceMethod yX2_wordAt, .selects RX2 yX2_wordAt yX2_wordAt, .initialized RX2, .code yX2_wordAt cX2_wordAt 3 (some .int), .fieldLink RX2 9 "CodedStore$Disk" "words" "[I"] ++ wsX40 ++ wsX20 ++ (vx_at0 RX4 136 "java/lang/IndexOutOfBoundsException" ["java/lang/RuntimeException", "java/lang/Exception"]).filter goodWord)
def wsL_told_r1 : List Cond := [Cond.classLink RL 25 "java/lang/IndexOutOfBoundsException", Cond.methodLink RL 27 yX4_told, Cond.instanceMethod yX4_told, Cond.selects RX4 yX4_told yX4_told, Cond.initialized RX4, Cond.code yX4_told cX4_told 2 (some .int), Cond.classLink RX4 134 "java/lang/IndexOutOfBoundsException", Cond.initialized "java/lang/IndexOutOfBoundsException", Cond.fieldLink RX4 10 "CodedStore" "disk" "LCodedStore$Disk;", Cond.fieldLink RX4 28 "CodedStore" "tape" "LCodedStore$Octets;", Cond.methodLink RX4 84 yX4_surveyed, Cond.instanceMethod yX4_surveyed, Cond.selects RX4 yX4_surveyed yX4_surveyed, Cond.code yX4_surveyed cX4_surveyed 1 (some (.object "CodedStore$Catalog")), Cond.fieldLink RX4 21 "CodedStore" "catalog" "LCodedStore$Catalog;", Cond.methodLink RX4 161 yX0_survey, Cond.instanceMethod yX0_survey, Cond.selects RX0 yX0_survey yX0_survey, Cond.initialized RX0, Cond.code yX0_survey cX0_survey 2 none, Cond.fieldLink RX0 18 "CodedStore$Catalog" "surveyedAt" "I", Cond.fieldLink RX0 22 "CodedStore$Catalog" "disk" "LCodedStore$Disk;", Cond.fieldLink RX0 9 "CodedStore$Catalog" "whole" "[Z", Cond.fieldLink RX0 15 "CodedStore$Catalog" "live" "[Z"]
def wsL_told_r2 : List Cond := [Cond.methodLink RX0 26 yX2_writesDone, Cond.instanceMethod yX2_writesDone, Cond.selects RX2 yX2_writesDone yX2_writesDone, Cond.initialized RX2, Cond.code yX2_writesDone cX2_writesDone 1 (some .int), Cond.fieldLink RX2 23 "CodedStore$Disk" "done" "I", Cond.methodLink RX0 32 yX2_numberOf, Cond.instanceMethod yX2_numberOf, Cond.selects RX2 yX2_numberOf yX2_numberOf, Cond.code yX2_numberOf cX2_numberOf 2 (some .int), Cond.methodLink RX2 26 yX2_wordAt, Cond.instanceMethod yX2_wordAt, Cond.selects RX2 yX2_wordAt yX2_wordAt, Cond.code yX2_wordAt cX2_wordAt 3 (some .int), Cond.fieldLink RX2 9 "CodedStore$Disk" "words" "[I", Cond.methodLink RX0 36 yX0_hasAllParts, Cond.instanceMethod yX0_hasAllParts, Cond.selects RX0 yX0_hasAllParts yX0_hasAllParts, Cond.code yX0_hasAllParts cX0_hasAllParts 4 (some .boolean), Cond.methodLink RX0 43 yX2_partsOf, Cond.instanceMethod yX2_partsOf, Cond.selects RX2 yX2_partsOf yX2_partsOf, Cond.code yX2_partsOf cX2_partsOf 2 (some .int), Cond.methodLink RX0 40 yX0_isOutdone]
def wsL_told_r3 : List Cond := [Cond.instanceMethod yX0_isOutdone, Cond.selects RX0 yX0_isOutdone yX0_isOutdone, Cond.code yX0_isOutdone cX0_isOutdone 3 (some .boolean), Cond.methodLink RX0 46 yX2_keyOf, Cond.instanceMethod yX2_keyOf, Cond.selects RX2 yX2_keyOf yX2_keyOf, Cond.code yX2_keyOf cX2_keyOf 2 (some .int), Cond.methodLink RX4 131 yX0_countTexts, Cond.instanceMethod yX0_countTexts, Cond.selects RX0 yX0_countTexts yX0_countTexts, Cond.code yX0_countTexts cX0_countTexts 3 (some .int), Cond.methodLink RX0 58 yX0_isText, Cond.instanceMethod yX0_isText, Cond.selects RX0 yX0_isText yX0_isText, Cond.code yX0_isText cX0_isText 2 (some .boolean), Cond.methodLink RX0 49 yX0_isLive, Cond.instanceMethod yX0_isLive, Cond.selects RX0 yX0_isLive yX0_isLive, Cond.code yX0_isLive cX0_isLive 2 (some .boolean), Cond.methodLink RX0 55 yX2_partOf, Cond.instanceMethod yX2_partOf, Cond.selects RX2 yX2_partOf yX2_partOf, Cond.code yX2_partOf cX2_partOf 2 (some .int), Cond.methodLink RX0 52 yX2_formOf]
def wsL_told_r4 : List Cond := [Cond.instanceMethod yX2_formOf, Cond.selects RX2 yX2_formOf yX2_formOf, Cond.code yX2_formOf cX2_formOf 2 (some .int), Cond.methodLink RX4 140 yX0_countLive, Cond.instanceMethod yX0_countLive, Cond.selects RX0 yX0_countLive yX0_countLive, Cond.code yX0_countLive cX0_countLive 3 (some .int), Cond.methodLink RX4 143 yX0_countLiveGraves, Cond.instanceMethod yX0_countLiveGraves, Cond.selects RX0 yX0_countLiveGraves yX0_countLiveGraves, Cond.code yX0_countLiveGraves cX0_countLiveGraves 3 (some .int), Cond.methodLink RX0 64 yX0_isLiveGrave, Cond.instanceMethod yX0_isLiveGrave, Cond.selects RX0 yX0_isLiveGrave yX0_isLiveGrave, Cond.code yX0_isLiveGrave cX0_isLiveGrave 2 (some .boolean), Cond.methodLink RX4 146 yX2_greatestNumber, Cond.instanceMethod yX2_greatestNumber, Cond.selects RX2 yX2_greatestNumber yX2_greatestNumber, Cond.code yX2_greatestNumber cX2_greatestNumber 3 (some .int), Cond.methodLink RX2 34 Lib.Math.max.name, Cond.static Lib.Math.max.name, Cond.initialized "java/lang/Math", Cond.code Lib.Math.max.name Lib.Math.max.code 2 (some .int), Cond.methodLink RX2 30 yX2_numberOf]
def wsL_told_r5 : List Cond := [Cond.methodLink RX4 149 yX2_writesDone, Cond.methodLink RX4 63 yX2_isOn, Cond.instanceMethod yX2_isOn, Cond.selects RX2 yX2_isOn yX2_isOn, Cond.code yX2_isOn cX2_isOn 1 (some .boolean), Cond.fieldLink RX2 15 "CodedStore$Disk" "on" "Z", Cond.methodLink RX4 52 yX3_size, Cond.instanceMethod yX3_size, Cond.selects RX3 yX3_size yX3_size, Cond.initialized RX3, Cond.code yX3_size cX3_size 1 (some .int), Cond.fieldLink RX3 15 "CodedStore$Octets" "size" "I"]
def wsL_told : List Cond := .codeWith yL_told cL_told 4 (some .int) [(0, 9, 12, 25)] :: ((wsL_told_r1 ++ (wsL_told_r2 ++ (wsL_told_r3 ++ (wsL_told_r4 ++ wsL_told_r5)))) ++ wsX40 ++ wsX00 ++ wsX20 ++ wsX30 ++ (vx_at0 RX4 136 "java/lang/IndexOutOfBoundsException" ["java/lang/RuntimeException", "java/lang/Exception"]).filter goodWord)
def wsL_law0_r1 : List Cond := [Cond.classLink RL 8 RX4, Cond.instantiable RX4 9, Cond.initialized RX4, Cond.classLink RL 31 RX5, Cond.instantiable RX5 15, Cond.initialized RX5, Cond.arrayClass .long, Cond.constantLong RL 34 (4294967295), Cond.methodLink RL 30 yX4_init, Cond.instanceMethod yX4_init, Cond.code yX4_init cX4_init 1 none, Cond.methodLink RX4 1 objectInit, Cond.instanceMethod objectInit, Cond.code objectInit ⟨#[0xb1]⟩ 1 none, Cond.classLink RX4 7 RX2, Cond.instantiable RX2 4, Cond.initialized RX2, Cond.fieldLink RX4 10 "CodedStore" "disk" "LCodedStore$Disk;", Cond.classLink RX4 16 RX0, Cond.instantiable RX0 4, Cond.initialized RX0, Cond.fieldLink RX4 21 "CodedStore" "catalog" "LCodedStore$Catalog;", Cond.classLink RX4 25 RX3, Cond.instantiable RX3 2]
def wsL_law0_r2 : List Cond := [Cond.initialized RX3, Cond.fieldLink RX4 28 "CodedStore" "tape" "LCodedStore$Octets;", Cond.fieldLink RX4 32 "CodedStore" "loaded" "LCodedStore$Octets;", Cond.fieldLink RX4 35 "CodedStore" "content" "LCodedStore$Octets;", Cond.fieldLink RX4 38 "CodedStore" "decoded" "LCodedStore$Octets;", Cond.arrayClass .int, Cond.fieldLink RX4 41 "CodedStore" "row" "[I", Cond.fieldLink RX4 45 "CodedStore" "zeros" "[I", Cond.fieldLink RX4 48 "CodedStore" "failedPlace" "I", Cond.instanceMethod yX2_init, Cond.code yX2_init cX2_init 1 none, Cond.methodLink RX2 3 objectInit, Cond.fieldLink RX2 9 "CodedStore$Disk" "words" "[I", Cond.fieldLink RX2 15 "CodedStore$Disk" "on" "Z", Cond.fieldLink RX2 19 "CodedStore$Disk" "left" "I", Cond.methodLink RX4 18 yX0_init, Cond.instanceMethod yX0_init, Cond.code yX0_init cX0_init 2 none, Cond.methodLink RX0 3 objectInit, Cond.arrayClass .boolean, Cond.fieldLink RX0 9 "CodedStore$Catalog" "whole" "[Z", Cond.fieldLink RX0 15 "CodedStore$Catalog" "live" "[Z", Cond.fieldLink RX0 18 "CodedStore$Catalog" "surveyedAt" "I", Cond.fieldLink RX0 22 "CodedStore$Catalog" "disk" "LCodedStore$Disk;"]
def wsL_law0_r3 : List Cond := [Cond.instanceMethod yX3_init, Cond.code yX3_init cX3_init 1 none, Cond.methodLink RX3 3 objectInit, Cond.fieldLink RX3 9 "CodedStore$Octets" "octets" "[I", Cond.methodLink RL 33 yX5_init, Cond.instanceMethod yX5_init, Cond.code yX5_init cX5_init 1 none, Cond.methodLink RX5 1 objectInit, Cond.fieldLink RX5 7 "CodedStoreModel" "disk" "[I", Cond.fieldLink RX5 13 "CodedStoreModel" "tape" "[I", Cond.fieldLink RX5 16 "CodedStoreModel" "on" "Z", Cond.fieldLink RX5 20 "CodedStoreModel" "until" "I", Cond.fieldLink RX5 24 "CodedStoreModel" "place" "I", Cond.fieldLink RX5 27 "CodedStoreModel" "loaded" "[I", Cond.fieldLink RX5 30 "CodedStoreModel" "made" "[I", Cond.fieldLink RX5 33 "CodedStoreModel" "hand" "[I", Cond.fieldLink RX5 36 "CodedStoreModel" "wasLive" "[Z", Cond.fieldLink RX5 40 "CodedStoreModel" "size" "I", Cond.methodLink RL 36 yL_feed, Cond.static yL_feed, Cond.initialized RL, Cond.codeWith yL_feed cL_feed 6 (some .int) [(0, 11, 14, 13)], Cond.classLink RL 13 "java/lang/IllegalArgumentException", Cond.methodLink RL 7 yX4_feed]
def wsL_law0_r4 : List Cond := [Cond.instanceMethod yX4_feed, Cond.selects RX4 yX4_feed yX4_feed, Cond.code yX4_feed cX4_feed 5 (some .int), Cond.classLink RX4 56 "java/lang/IllegalArgumentException", Cond.initialized "java/lang/IllegalArgumentException", Cond.methodLink RX4 52 yX3_size, Cond.instanceMethod yX3_size, Cond.selects RX3 yX3_size yX3_size, Cond.code yX3_size cX3_size 1 (some .int), Cond.fieldLink RX3 15 "CodedStore$Octets" "size" "I", Cond.methodLink RX4 59 yX3_append, Cond.instanceMethod yX3_append, Cond.selects RX3 yX3_append yX3_append, Cond.code yX3_append cX3_append 2 none, Cond.methodLink RL 41 yX5_feed, Cond.instanceMethod yX5_feed, Cond.selects RX5 yX5_feed yX5_feed, Cond.code yX5_feed cX5_feed 5 (some .int), Cond.fieldLink RX5 43 "CodedStoreModel" "thrown" "I", Cond.constantLong RX5 46 (255), Cond.methodLink RL 42 yX5_thrown, Cond.instanceMethod yX5_thrown, Cond.selects RX5 yX5_thrown yX5_thrown, Cond.code yX5_thrown cX5_thrown 1 (some .int)]
def wsL_law0_r5 : List Cond := [Cond.methodLink RL 46 yX4_commit, Cond.instanceMethod yX4_commit, Cond.selects RX4 yX4_commit yX4_commit, Cond.code yX4_commit cX4_commit 3 (some .int), Cond.methodLink RX4 63 yX2_isOn, Cond.instanceMethod yX2_isOn, Cond.selects RX2 yX2_isOn yX2_isOn, Cond.code yX2_isOn cX2_isOn 1 (some .boolean), Cond.methodLink RX4 67 yX1_encode, Cond.static yX1_encode, Cond.initialized RX1, Cond.code yX1_encode cX1_encode 9 none, Cond.methodLink RX1 9 yX3_empty, Cond.instanceMethod yX3_empty, Cond.selects RX3 yX3_empty yX3_empty, Cond.code yX3_empty cX3_empty 1 none, Cond.methodLink RX1 14 yX3_size, Cond.methodLink RX1 18 yX3_append, Cond.methodLink RX1 22 yX1_bestDistance, Cond.static yX1_bestDistance, Cond.code yX1_bestDistance cX1_bestDistance 7 (some .int), Cond.methodLink RX1 40 Lib.Math.min.name, Cond.static Lib.Math.min.name, Cond.initialized "java/lang/Math"]
def wsL_law0_r6 : List Cond := [Cond.code Lib.Math.min.name Lib.Math.min.code 2 (some .int), Cond.methodLink RX1 36 yX1_rowLength, Cond.static yX1_rowLength, Cond.code yX1_rowLength cX1_rowLength 5 (some .int), Cond.methodLink RX1 32 yX3_at, Cond.instanceMethod yX3_at, Cond.selects RX3 yX3_at yX3_at, Cond.code yX3_at cX3_at 2 (some .int), Cond.methodLink RX1 28 yX3_setBit, Cond.instanceMethod yX3_setBit, Cond.selects RX3 yX3_setBit yX3_setBit, Cond.code yX3_setBit cX3_setBit 3 none, Cond.methodLink RX4 73 yX3_becomeLike, Cond.instanceMethod yX3_becomeLike, Cond.selects RX3 yX3_becomeLike yX3_becomeLike, Cond.code yX3_becomeLike cX3_becomeLike 3 none, Cond.methodLink RX3 23 yX3_empty, Cond.methodLink RX3 19 yX3_at, Cond.methodLink RX3 26 yX3_append, Cond.methodLink RX4 77 yX3_empty, Cond.methodLink RX4 80 yX4_putRecord, Cond.instanceMethod yX4_putRecord, Cond.selects RX4 yX4_putRecord yX4_putRecord, Cond.code yX4_putRecord cX4_putRecord 7 (some .int)]
def wsL_law0_r7 : List Cond := [Cond.methodLink RX4 164 yX4_partsFor, Cond.static yX4_partsFor, Cond.code yX4_partsFor cX4_partsFor 1 (some .int), Cond.methodLink RX4 84 yX4_surveyed, Cond.instanceMethod yX4_surveyed, Cond.selects RX4 yX4_surveyed yX4_surveyed, Cond.code yX4_surveyed cX4_surveyed 1 (some (.object "CodedStore$Catalog")), Cond.methodLink RX4 161 yX0_survey, Cond.instanceMethod yX0_survey, Cond.selects RX0 yX0_survey yX0_survey, Cond.code yX0_survey cX0_survey 2 none, Cond.methodLink RX0 26 yX2_writesDone, Cond.instanceMethod yX2_writesDone, Cond.selects RX2 yX2_writesDone yX2_writesDone, Cond.code yX2_writesDone cX2_writesDone 1 (some .int), Cond.fieldLink RX2 23 "CodedStore$Disk" "done" "I", Cond.methodLink RX0 32 yX2_numberOf, Cond.instanceMethod yX2_numberOf, Cond.selects RX2 yX2_numberOf yX2_numberOf, Cond.code yX2_numberOf cX2_numberOf 2 (some .int), Cond.methodLink RX2 26 yX2_wordAt, Cond.instanceMethod yX2_wordAt, Cond.selects RX2 yX2_wordAt yX2_wordAt, Cond.code yX2_wordAt cX2_wordAt 3 (some .int)]
def wsL_law0_r8 : List Cond := [Cond.methodLink RX0 36 yX0_hasAllParts, Cond.instanceMethod yX0_hasAllParts, Cond.selects RX0 yX0_hasAllParts yX0_hasAllParts, Cond.code yX0_hasAllParts cX0_hasAllParts 4 (some .boolean), Cond.methodLink RX0 43 yX2_partsOf, Cond.instanceMethod yX2_partsOf, Cond.selects RX2 yX2_partsOf yX2_partsOf, Cond.code yX2_partsOf cX2_partsOf 2 (some .int), Cond.methodLink RX0 40 yX0_isOutdone, Cond.instanceMethod yX0_isOutdone, Cond.selects RX0 yX0_isOutdone yX0_isOutdone, Cond.code yX0_isOutdone cX0_isOutdone 3 (some .boolean), Cond.methodLink RX0 46 yX2_keyOf, Cond.instanceMethod yX2_keyOf, Cond.selects RX2 yX2_keyOf yX2_keyOf, Cond.code yX2_keyOf cX2_keyOf 2 (some .int), Cond.methodLink RX4 140 yX0_countLive, Cond.instanceMethod yX0_countLive, Cond.selects RX0 yX0_countLive yX0_countLive, Cond.code yX0_countLive cX0_countLive 3 (some .int), Cond.methodLink RX0 49 yX0_isLive, Cond.instanceMethod yX0_isLive, Cond.selects RX0 yX0_isLive yX0_isLive, Cond.code yX0_isLive cX0_isLive 2 (some .boolean)]
def wsL_law0_r9 : List Cond := [Cond.methodLink RX4 146 yX2_greatestNumber, Cond.instanceMethod yX2_greatestNumber, Cond.selects RX2 yX2_greatestNumber yX2_greatestNumber, Cond.code yX2_greatestNumber cX2_greatestNumber 3 (some .int), Cond.methodLink RX2 34 Lib.Math.max.name, Cond.static Lib.Math.max.name, Cond.code Lib.Math.max.name Lib.Math.max.code 2 (some .int), Cond.methodLink RX2 30 yX2_numberOf, Cond.methodLink RX4 167 yX0_isLive, Cond.methodLink RX4 170 yX4_fillRow, Cond.instanceMethod yX4_fillRow, Cond.selects RX4 yX4_fillRow yX4_fillRow, Cond.code yX4_fillRow cX4_fillRow 7 none, Cond.constant RX4 174 (65536), Cond.methodLink RX4 175 yX3_fourFrom, Cond.instanceMethod yX3_fourFrom, Cond.selects RX3 yX3_fourFrom yX3_fourFrom, Cond.code yX3_fourFrom cX3_fourFrom 2 (some .int), Cond.methodLink RX4 112 yX2_write, Cond.instanceMethod yX2_write, Cond.selects RX2 yX2_write yX2_write, Cond.code yX2_write cX2_write 4 (some .boolean), Cond.methodLink RL 49 yX5_commit, Cond.instanceMethod yX5_commit]
def wsL_law0_r10 : List Cond := [Cond.selects RX5 yX5_commit yX5_commit, Cond.code yX5_commit cX5_commit 4 (some .int), Cond.fieldLink RX5 51 "CodedStoreModel" "madeSize" "I", Cond.fieldLink RX5 48 "CodedStoreModel" "handSize" "I", Cond.methodLink RX5 69 yX5_takeTape, Cond.instanceMethod yX5_takeTape, Cond.selects RX5 yX5_takeTape yX5_takeTape, Cond.code yX5_takeTape cX5_takeTape 2 none, Cond.methodLink RX5 72 yX5_code, Cond.instanceMethod yX5_code, Cond.selects RX5 yX5_code yX5_code, Cond.code yX5_code cX5_code 8 none, Cond.methodLink RX5 54 yX5_put, Cond.instanceMethod yX5_put, Cond.selects RX5 yX5_put yX5_put, Cond.code yX5_put cX5_put 2 none, Cond.methodLink RX5 58 yX5_alike, Cond.instanceMethod yX5_alike, Cond.selects RX5 yX5_alike yX5_alike, Cond.code yX5_alike cX5_alike 4 (some .int), Cond.methodLink RX5 121 yX5_putRecord, Cond.instanceMethod yX5_putRecord, Cond.selects RX5 yX5_putRecord yX5_putRecord, Cond.code yX5_putRecord cX5_putRecord 10 (some .int)]
def wsL_law0_r11 : List Cond := [Cond.constant RX5 117 (65536), Cond.methodLink RX5 107 yX5_greatest, Cond.instanceMethod yX5_greatest, Cond.selects RX5 yX5_greatest yX5_greatest, Cond.code yX5_greatest cX5_greatest 3 (some .int), Cond.methodLink RX5 82 yX5_numberOf, Cond.instanceMethod yX5_numberOf, Cond.selects RX5 yX5_numberOf yX5_numberOf, Cond.code yX5_numberOf cX5_numberOf 2 (some .int), Cond.methodLink RX5 111 yX5_findLive, Cond.instanceMethod yX5_findLive, Cond.selects RX5 yX5_findLive yX5_findLive, Cond.code yX5_findLive cX5_findLive 3 (some .int), Cond.methodLink RX5 98 yX5_isLive, Cond.instanceMethod yX5_isLive, Cond.selects RX5 yX5_isLive yX5_isLive, Cond.code yX5_isLive cX5_isLive 3 (some .boolean), Cond.methodLink RX5 89 yX5_isWhole, Cond.instanceMethod yX5_isWhole, Cond.selects RX5 yX5_isWhole yX5_isWhole, Cond.code yX5_isWhole cX5_isWhole 4 (some .boolean), Cond.methodLink RX5 86 yX5_partsOf, Cond.instanceMethod yX5_partsOf, Cond.selects RX5 yX5_partsOf yX5_partsOf]
def wsL_law0_r12 : List Cond := [Cond.code yX5_partsOf cX5_partsOf 2 (some .int), Cond.methodLink RX5 92 yX5_keyOf, Cond.instanceMethod yX5_keyOf, Cond.selects RX5 yX5_keyOf yX5_keyOf, Cond.code yX5_keyOf cX5_keyOf 2 (some .int), Cond.methodLink RX5 114 yX5_mayWrite, Cond.instanceMethod yX5_mayWrite, Cond.selects RX5 yX5_mayWrite yX5_mayWrite, Cond.code yX5_mayWrite cX5_mayWrite 1 (some .boolean), Cond.fieldLink RX5 104 "CodedStoreModel" "writes" "I", Cond.methodLink RX5 118 yX5_word4, Cond.instanceMethod yX5_word4, Cond.selects RX5 yX5_word4 yX5_word4, Cond.code yX5_word4 cX5_word4 4 (some .int), Cond.methodLink RL 50 yX4_delete, Cond.instanceMethod yX4_delete, Cond.selects RX4 yX4_delete yX4_delete, Cond.code yX4_delete cX4_delete 3 (some .int), Cond.methodLink RX4 88 yX0_firstBlock, Cond.instanceMethod yX0_firstBlock, Cond.selects RX0 yX0_firstBlock yX0_firstBlock, Cond.code yX0_firstBlock cX0_firstBlock 3 (some .int), Cond.methodLink RX0 55 yX2_partOf, Cond.instanceMethod yX2_partOf]
def wsL_law0_r13 : List Cond := [Cond.selects RX2 yX2_partOf yX2_partOf, Cond.code yX2_partOf cX2_partOf 2 (some .int), Cond.methodLink RX4 92 yX0_isText, Cond.instanceMethod yX0_isText, Cond.selects RX0 yX0_isText yX0_isText, Cond.code yX0_isText cX0_isText 2 (some .boolean), Cond.methodLink RX0 52 yX2_formOf, Cond.instanceMethod yX2_formOf, Cond.selects RX2 yX2_formOf yX2_formOf, Cond.code yX2_formOf cX2_formOf 2 (some .int), Cond.methodLink RL 53 yX5_delete, Cond.instanceMethod yX5_delete, Cond.selects RX5 yX5_delete yX5_delete, Cond.code yX5_delete cX5_delete 3 (some .int), Cond.methodLink RX5 124 yX5_find, Cond.instanceMethod yX5_find, Cond.selects RX5 yX5_find yX5_find, Cond.code yX5_find cX5_find 3 (some .int), Cond.methodLink RX5 95 yX5_partOf, Cond.instanceMethod yX5_partOf, Cond.selects RX5 yX5_partOf yX5_partOf, Cond.code yX5_partOf cX5_partOf 2 (some .int), Cond.methodLink RX5 101 yX5_formOf, Cond.instanceMethod yX5_formOf]
def wsL_law0_r14 : List Cond := [Cond.selects RX5 yX5_formOf yX5_formOf, Cond.code yX5_formOf cX5_formOf 2 (some .int), Cond.methodLink RL 54 yX4_load, Cond.instanceMethod yX4_load, Cond.selects RX4 yX4_load yX4_load, Cond.code yX4_load cX4_load 3 (some .int), Cond.methodLink RX4 96 yX4_gatherContent, Cond.instanceMethod yX4_gatherContent, Cond.selects RX4 yX4_gatherContent yX4_gatherContent, Cond.code yX4_gatherContent cX4_gatherContent 6 none, Cond.methodLink RX4 178 yX2_partsOf, Cond.methodLink RX4 152 yX2_numberOf, Cond.methodLink RX4 181 yX2_blockOf, Cond.instanceMethod yX2_blockOf, Cond.selects RX2 yX2_blockOf yX2_blockOf, Cond.code yX2_blockOf cX2_blockOf 4 (some .int), Cond.methodLink RX2 39 yX2_partOf, Cond.methodLink RX4 184 yX2_octetsOf, Cond.instanceMethod yX2_octetsOf, Cond.selects RX2 yX2_octetsOf yX2_octetsOf, Cond.code yX2_octetsOf cX2_octetsOf 2 (some .int), Cond.methodLink RX4 137 yX2_wordAt, Cond.methodLink RX4 99 yX2_formOf, Cond.methodLink RX4 102 yX1_decode]
def wsL_law0_r15 : List Cond := [Cond.static yX1_decode, Cond.code yX1_decode cX1_decode 8 (some .int), Cond.methodLink RX1 46 yX1_decodeSingle, Cond.static yX1_decodeSingle, Cond.code yX1_decodeSingle cX1_decodeSingle 3 (some .int), Cond.methodLink RX1 50 yX1_decodeRow, Cond.static yX1_decodeRow, Cond.code yX1_decodeRow cX1_decodeRow 5 (some .int), Cond.methodLink RX1 53 yX3_repeat, Cond.instanceMethod yX3_repeat, Cond.selects RX3 yX3_repeat yX3_repeat, Cond.code yX3_repeat cX3_repeat 4 none, Cond.methodLink RL 57 yX5_load, Cond.instanceMethod yX5_load, Cond.selects RX5 yX5_load yX5_load, Cond.code yX5_load cX5_load 6 (some .int), Cond.fieldLink RX5 66 "CodedStoreModel" "loadedSize" "I", Cond.methodLink RX5 78 yX5_decode, Cond.instanceMethod yX5_decode, Cond.selects RX5 yX5_decode yX5_decode, Cond.code yX5_decode cX5_decode 8 (some .boolean), Cond.methodLink RX5 62 yX5_wrong, Cond.instanceMethod yX5_wrong, Cond.selects RX5 yX5_wrong yX5_wrong]
def wsL_law0_r16 : List Cond := [Cond.code yX5_wrong cX5_wrong 2 (some .boolean), Cond.methodLink RX5 75 yX5_load0, Cond.instanceMethod yX5_load0, Cond.selects RX5 yX5_load0 yX5_load0, Cond.code yX5_load0 cX5_load0 2 none, Cond.methodLink RL 58 yX4_out, Cond.instanceMethod yX4_out, Cond.selects RX4 yX4_out yX4_out, Cond.code yX4_out cX4_out 2 (some .int), Cond.methodLink RX4 106 yX3_at, Cond.methodLink RL 61 yX5_out, Cond.instanceMethod yX5_out, Cond.selects RX5 yX5_out yX5_out, Cond.code yX5_out cX5_out 2 (some .int), Cond.methodLink RL 62 yX4_clean, Cond.instanceMethod yX4_clean, Cond.selects RX4 yX4_clean yX4_clean, Cond.code yX4_clean cX4_clean 3 (some .int), Cond.methodLink RX4 109 yX0_isLeftOver, Cond.instanceMethod yX0_isLeftOver, Cond.selects RX0 yX0_isLeftOver yX0_isLeftOver, Cond.code yX0_isLeftOver cX0_isLeftOver 2 (some .boolean), Cond.methodLink RX4 116 yX0_isLiveGrave, Cond.instanceMethod yX0_isLiveGrave]
def wsL_law0_r17 : List Cond := [Cond.selects RX0 yX0_isLiveGrave yX0_isLiveGrave, Cond.code yX0_isLiveGrave cX0_isLiveGrave 2 (some .boolean), Cond.methodLink RL 65 yX5_clean, Cond.instanceMethod yX5_clean, Cond.selects RX5 yX5_clean yX5_clean, Cond.code yX5_clean cX5_clean 4 (some .int), Cond.methodLink RX5 127 yX5_zero, Cond.instanceMethod yX5_zero, Cond.selects RX5 yX5_zero yX5_zero, Cond.code yX5_zero cX5_zero 3 (some .boolean), Cond.methodLink RL 66 yL_power, Cond.static yL_power, Cond.codeWith yL_power cL_power 4 (some .int) [(0, 9, 12, 13), (0, 9, 15, 19)], Cond.classLink RL 19 "java/lang/IllegalStateException", Cond.methodLink RL 15 yX4_power, Cond.instanceMethod yX4_power, Cond.selects RX4 yX4_power yX4_power, Cond.code yX4_power cX4_power 3 (some .int), Cond.classLink RX4 119 "java/lang/IllegalStateException", Cond.initialized "java/lang/IllegalStateException", Cond.methodLink RX4 122 yX2_writesLeft, Cond.instanceMethod yX2_writesLeft, Cond.selects RX2 yX2_writesLeft yX2_writesLeft, Cond.code yX2_writesLeft cX2_writesLeft 1 (some .int)]
def wsL_law0_r18 : List Cond := [Cond.methodLink RX4 125 yX2_allowWrites, Cond.instanceMethod yX2_allowWrites, Cond.selects RX2 yX2_allowWrites yX2_allowWrites, Cond.code yX2_allowWrites cX2_allowWrites 2 none, Cond.methodLink RL 69 yX5_power, Cond.instanceMethod yX5_power, Cond.selects RX5 yX5_power yX5_power, Cond.code yX5_power cX5_power 3 (some .int), Cond.methodLink RL 70 yX4_recover, Cond.instanceMethod yX4_recover, Cond.selects RX4 yX4_recover yX4_recover, Cond.code yX4_recover cX4_recover 1 (some .int), Cond.methodLink RX4 128 yX2_switchOn, Cond.instanceMethod yX2_switchOn, Cond.selects RX2 yX2_switchOn yX2_switchOn, Cond.code yX2_switchOn cX2_switchOn 1 none, Cond.methodLink RX4 131 yX0_countTexts, Cond.instanceMethod yX0_countTexts, Cond.selects RX0 yX0_countTexts yX0_countTexts, Cond.code yX0_countTexts cX0_countTexts 3 (some .int), Cond.methodLink RX0 58 yX0_isText, Cond.methodLink RL 73 yX5_recover, Cond.instanceMethod yX5_recover, Cond.selects RX5 yX5_recover yX5_recover]
def wsL_law0_r19 : List Cond := [Cond.code yX5_recover cX5_recover 1 (some .int), Cond.methodLink RX5 133 yX5_texts, Cond.instanceMethod yX5_texts, Cond.selects RX5 yX5_texts yX5_texts, Cond.code yX5_texts cX5_texts 3 (some .int), Cond.methodLink RX5 130 yX5_isText, Cond.instanceMethod yX5_isText, Cond.selects RX5 yX5_isText yX5_isText, Cond.code yX5_isText cX5_isText 2 (some .boolean), Cond.methodLink RL 74 yL_word, Cond.static yL_word, Cond.codeWith yL_word cL_word 5 (some .int) [(0, 10, 13, 25)], Cond.classLink RL 25 "java/lang/IndexOutOfBoundsException", Cond.methodLink RL 21 yX4_word, Cond.instanceMethod yX4_word, Cond.selects RX4 yX4_word yX4_word, Cond.code yX4_word cX4_word 3 (some .int), Cond.classLink RX4 134 "java/lang/IndexOutOfBoundsException", Cond.initialized "java/lang/IndexOutOfBoundsException", Cond.methodLink RL 77 yX5_word, Cond.instanceMethod yX5_word, Cond.selects RX5 yX5_word yX5_word, Cond.code yX5_word cX5_word 3 (some .int), Cond.methodLink RL 78 yL_told]
def wsL_law0_r20 : List Cond := [Cond.static yL_told, Cond.codeWith yL_told cL_told 4 (some .int) [(0, 9, 12, 25)], Cond.methodLink RL 27 yX4_told, Cond.instanceMethod yX4_told, Cond.selects RX4 yX4_told yX4_told, Cond.code yX4_told cX4_told 2 (some .int), Cond.methodLink RX4 143 yX0_countLiveGraves, Cond.instanceMethod yX0_countLiveGraves, Cond.selects RX0 yX0_countLiveGraves yX0_countLiveGraves, Cond.code yX0_countLiveGraves cX0_countLiveGraves 3 (some .int), Cond.methodLink RX0 64 yX0_isLiveGrave, Cond.methodLink RX4 149 yX2_writesDone, Cond.methodLink RL 80 yX5_told, Cond.instanceMethod yX5_told, Cond.selects RX5 yX5_told yX5_told, Cond.code yX5_told cX5_told 5 (some .int), Cond.methodLink RL 81 yX4_number, Cond.instanceMethod yX4_number, Cond.selects RX4 yX4_number yX4_number, Cond.code yX4_number cX4_number 3 (some .int), Cond.methodLink RL 84 yX5_number, Cond.instanceMethod yX5_number, Cond.selects RX5 yX5_number yX5_number, Cond.code yX5_number cX5_number 3 (some .int)]
def wsL_law0_r21 : List Cond := [Cond.methodLink RL 85 yX4_key, Cond.instanceMethod yX4_key, Cond.selects RX4 yX4_key yX4_key, Cond.code yX4_key cX4_key 3 (some .int), Cond.methodLink RX4 155 yX0_firstBlockOfRank, Cond.instanceMethod yX0_firstBlockOfRank, Cond.selects RX0 yX0_firstBlockOfRank yX0_firstBlockOfRank, Cond.code yX0_firstBlockOfRank cX0_firstBlockOfRank 3 (some .int), Cond.methodLink RX0 61 yX0_countTextsBelow, Cond.instanceMethod yX0_countTextsBelow, Cond.selects RX0 yX0_countTextsBelow yX0_countTextsBelow, Cond.code yX0_countTextsBelow cX0_countTextsBelow 4 (some .int), Cond.methodLink RX4 158 yX2_keyOf, Cond.methodLink RL 88 yX5_key, Cond.instanceMethod yX5_key, Cond.selects RX5 yX5_key yX5_key, Cond.code yX5_key cX5_key 5 (some .int), Cond.methodLink RL 89 yX4_pack, Cond.instanceMethod yX4_pack, Cond.selects RX4 yX4_pack yX4_pack, Cond.code yX4_pack cX4_pack 1 (some .int), Cond.methodLink RL 92 yX5_pack, Cond.instanceMethod yX5_pack, Cond.selects RX5 yX5_pack yX5_pack]
def wsL_law0_r22 : List Cond := [Cond.code yX5_pack cX5_pack 1 (some .int), Cond.methodLink RL 93 yX4_unpack, Cond.instanceMethod yX4_unpack, Cond.selects RX4 yX4_unpack yX4_unpack, Cond.code yX4_unpack cX4_unpack 2 (some .int), Cond.methodLink RL 96 yX5_unpack, Cond.instanceMethod yX5_unpack, Cond.selects RX5 yX5_unpack yX5_unpack, Cond.code yX5_unpack cX5_unpack 1 (some .int), Cond.methodLink RL 97 yX4_place, Cond.instanceMethod yX4_place, Cond.selects RX4 yX4_place yX4_place, Cond.code yX4_place cX4_place 1 (some .int), Cond.methodLink RL 100 yX5_place, Cond.instanceMethod yX5_place, Cond.selects RX5 yX5_place yX5_place, Cond.code yX5_place cX5_place 1 (some .int)]
def wsL_law0 : List Cond := (wsL_law0_r1 ++ (wsL_law0_r2 ++ (wsL_law0_r3 ++ (wsL_law0_r4 ++ (wsL_law0_r5 ++ (wsL_law0_r6 ++ (wsL_law0_r7 ++ (wsL_law0_r8 ++ (wsL_law0_r9 ++ (wsL_law0_r10 ++ (wsL_law0_r11 ++ (wsL_law0_r12 ++ (wsL_law0_r13 ++ (wsL_law0_r14 ++ (wsL_law0_r15 ++ (wsL_law0_r16 ++ (wsL_law0_r17 ++ (wsL_law0_r18 ++ (wsL_law0_r19 ++ (wsL_law0_r20 ++ (wsL_law0_r21 ++ wsL_law0_r22))))))))))))))))))))) ++ wsX40 ++ wsX50 ++ wsX20 ++ wsX00 ++ wsX30 ++ ([] : List Cond)
def wsL_law : List Cond := wsL_law0 ++ (vx_at0 RX4 58 "java/lang/IllegalArgumentException" ["java/lang/RuntimeException", "java/lang/Exception"]).filter goodWord ++ (vx_at0 RX4 121 "java/lang/IllegalStateException" ["java/lang/RuntimeException", "java/lang/Exception"]).filter goodWord ++ (vx_at0 RX4 136 "java/lang/IndexOutOfBoundsException" ["java/lang/RuntimeException", "java/lang/Exception"]).filter goodWord
theorem dX0_init_0 : decode cX0_init 0 = .ok (.aload_n 0, 1) := by decide +kernel
theorem dX0_init_1 : decode cX0_init 1 = .ok (.invokespecial 3, 3) := by decide +kernel
theorem dX0_init_4 : decode cX0_init 4 = .ok (.aload_n 0, 1) := by decide +kernel
theorem dX0_init_5 : decode cX0_init 5 = .ok (.bipush 64, 2) := by decide +kernel
theorem dX0_init_7 : decode cX0_init 7 = .ok (.newarray .boolean, 2) := by decide +kernel
theorem dX0_init_9 : decode cX0_init 9 = .ok (.putfield 9, 3) := by decide +kernel
theorem dX0_init_12 : decode cX0_init 12 = .ok (.aload_n 0, 1) := by decide +kernel
theorem dX0_init_13 : decode cX0_init 13 = .ok (.bipush 64, 2) := by decide +kernel
theorem dX0_init_15 : decode cX0_init 15 = .ok (.newarray .boolean, 2) := by decide +kernel
theorem dX0_init_17 : decode cX0_init 17 = .ok (.putfield 15, 3) := by decide +kernel
theorem dX0_init_20 : decode cX0_init 20 = .ok (.aload_n 0, 1) := by decide +kernel
theorem dX0_init_21 : decode cX0_init 21 = .ok (.iconst (-1), 1) := by decide +kernel
theorem dX0_init_22 : decode cX0_init 22 = .ok (.putfield 18, 3) := by decide +kernel
theorem dX0_init_25 : decode cX0_init 25 = .ok (.aload_n 0, 1) := by decide +kernel
theorem dX0_init_26 : decode cX0_init 26 = .ok (.aload_n 1, 1) := by decide +kernel
theorem dX0_init_27 : decode cX0_init 27 = .ok (.putfield 22, 3) := by decide +kernel
theorem dX0_init_30 : decode cX0_init 30 = .ok (.return_, 1) := by decide +kernel
set_option maxRecDepth 20000 in
theorem ggX0_survey_X2_writesDone : GoodIn wsX0_survey wsX2_writesDone := goodIn_r _ [9, 10, 41, 42, 43, 44] (by decide +kernel) (by decide +kernel)
set_option maxRecDepth 20000 in
theorem gX0_survey_X2_writesDone : GoodIn wsX0_survey (wsV RX0 26 RX2 yX2_writesDone wsX2_writesDone) := goodIn_app (goodIn_of _ (by decide +kernel)) ggX0_survey_X2_writesDone
set_option maxRecDepth 20000 in
theorem ggX0_survey_X2_numberOf : GoodIn wsX0_survey wsX2_numberOf := goodIn_r _ [14, 15, 16, 17, 8, 18, 19, 41, 42, 43, 44] (by decide +kernel) (by decide +kernel)
set_option maxRecDepth 20000 in
theorem gX0_survey_X2_numberOf : GoodIn wsX0_survey (wsV RX0 32 RX2 yX2_numberOf wsX2_numberOf) := goodIn_app (goodIn_of _ (by decide +kernel)) ggX0_survey_X2_numberOf
set_option maxRecDepth 20000 in
theorem ggX0_survey_X0_hasAllParts : GoodIn wsX0_survey wsX0_hasAllParts := goodIn_r _ [24, 2, 11, 12, 13, 8, 14, 15, 16, 17, 18, 19, 25, 26, 27, 28, 37, 38, 39, 40, 41, 42, 43, 44] (by decide +kernel) (by decide +kernel)
set_option maxRecDepth 20000 in
theorem gX0_survey_X0_hasAllParts : GoodIn wsX0_survey (wsV RX0 36 RX0 yX0_hasAllParts wsX0_hasAllParts) := goodIn_app (goodIn_of _ (by decide +kernel)) ggX0_survey_X0_hasAllParts
set_option maxRecDepth 20000 in
theorem ggX0_survey_X0_isOutdone : GoodIn wsX0_survey wsX0_isOutdone := goodIn_r _ [32, 3, 2, 33, 34, 35, 8, 36, 15, 16, 17, 18, 19, 11, 12, 13, 14, 37, 38, 39, 40, 41, 42, 43, 44] (by decide +kernel) (by decide +kernel)
set_option maxRecDepth 20000 in
theorem gX0_survey_X0_isOutdone : GoodIn wsX0_survey (wsV RX0 40 RX0 yX0_isOutdone wsX0_isOutdone) := goodIn_app (goodIn_of _ (by decide +kernel)) ggX0_survey_X0_isOutdone
theorem dX0_survey_0 : decode cX0_survey 0 = .ok (.aload_n 0, 1) := by decide +kernel
theorem dX0_survey_1 : decode cX0_survey 1 = .ok (.getfield 18, 3) := by decide +kernel
theorem dX0_survey_4 : decode cX0_survey 4 = .ok (.aload_n 0, 1) := by decide +kernel
theorem dX0_survey_5 : decode cX0_survey 5 = .ok (.getfield 22, 3) := by decide +kernel
theorem dX0_survey_8 : decode cX0_survey 8 = .ok (.invokevirtual 26, 3) := by decide +kernel
theorem dX0_survey_11 : decode cX0_survey 11 = .ok (.if_icmp .ne 4, 3) := by decide +kernel
theorem dX0_survey_14 : decode cX0_survey 14 = .ok (.return_, 1) := by decide +kernel
theorem dX0_survey_15 : decode cX0_survey 15 = .ok (.iconst 0, 1) := by decide +kernel
theorem dX0_survey_16 : decode cX0_survey 16 = .ok (.istore_n 1, 1) := by decide +kernel
theorem dX0_survey_17 : decode cX0_survey 17 = .ok (.iload_n 1, 1) := by decide +kernel
theorem dX0_survey_18 : decode cX0_survey 18 = .ok (.bipush 64, 2) := by decide +kernel
theorem dX0_survey_20 : decode cX0_survey 20 = .ok (.if_icmp .ge 39, 3) := by decide +kernel
theorem dX0_survey_23 : decode cX0_survey 23 = .ok (.aload_n 0, 1) := by decide +kernel
theorem dX0_survey_24 : decode cX0_survey 24 = .ok (.getfield 9, 3) := by decide +kernel
theorem dX0_survey_27 : decode cX0_survey 27 = .ok (.iload_n 1, 1) := by decide +kernel
theorem dX0_survey_28 : decode cX0_survey 28 = .ok (.aload_n 0, 1) := by decide +kernel
theorem dX0_survey_29 : decode cX0_survey 29 = .ok (.getfield 22, 3) := by decide +kernel
theorem dX0_survey_32 : decode cX0_survey 32 = .ok (.iload_n 1, 1) := by decide +kernel
theorem dX0_survey_33 : decode cX0_survey 33 = .ok (.invokevirtual 32, 3) := by decide +kernel
theorem dX0_survey_36 : decode cX0_survey 36 = .ok (.ifCond .eq 15, 3) := by decide +kernel
theorem dX0_survey_39 : decode cX0_survey 39 = .ok (.aload_n 0, 1) := by decide +kernel
theorem dX0_survey_40 : decode cX0_survey 40 = .ok (.iload_n 1, 1) := by decide +kernel
theorem dX0_survey_41 : decode cX0_survey 41 = .ok (.invokevirtual 36, 3) := by decide +kernel
theorem dX0_survey_44 : decode cX0_survey 44 = .ok (.ifCond .eq 7, 3) := by decide +kernel
theorem dX0_survey_47 : decode cX0_survey 47 = .ok (.iconst 1, 1) := by decide +kernel
theorem dX0_survey_48 : decode cX0_survey 48 = .ok (.goto 4, 3) := by decide +kernel
theorem dX0_survey_51 : decode cX0_survey 51 = .ok (.iconst 0, 1) := by decide +kernel
theorem dX0_survey_52 : decode cX0_survey 52 = .ok (.bastore, 1) := by decide +kernel
theorem dX0_survey_53 : decode cX0_survey 53 = .ok (.iinc 1 1, 3) := by decide +kernel
theorem dX0_survey_56 : decode cX0_survey 56 = .ok (.goto (-39), 3) := by decide +kernel
theorem dX0_survey_59 : decode cX0_survey 59 = .ok (.iconst 0, 1) := by decide +kernel
theorem dX0_survey_60 : decode cX0_survey 60 = .ok (.istore_n 1, 1) := by decide +kernel
theorem dX0_survey_61 : decode cX0_survey 61 = .ok (.iload_n 1, 1) := by decide +kernel
theorem dX0_survey_62 : decode cX0_survey 62 = .ok (.bipush 64, 2) := by decide +kernel
theorem dX0_survey_64 : decode cX0_survey 64 = .ok (.if_icmp .ge 37, 3) := by decide +kernel
theorem dX0_survey_67 : decode cX0_survey 67 = .ok (.aload_n 0, 1) := by decide +kernel
theorem dX0_survey_68 : decode cX0_survey 68 = .ok (.getfield 15, 3) := by decide +kernel
theorem dX0_survey_71 : decode cX0_survey 71 = .ok (.iload_n 1, 1) := by decide +kernel
theorem dX0_survey_72 : decode cX0_survey 72 = .ok (.aload_n 0, 1) := by decide +kernel
theorem dX0_survey_73 : decode cX0_survey 73 = .ok (.getfield 9, 3) := by decide +kernel
theorem dX0_survey_76 : decode cX0_survey 76 = .ok (.iload_n 1, 1) := by decide +kernel
theorem dX0_survey_77 : decode cX0_survey 77 = .ok (.baload, 1) := by decide +kernel
theorem dX0_survey_78 : decode cX0_survey 78 = .ok (.ifCond .eq 15, 3) := by decide +kernel
theorem dX0_survey_81 : decode cX0_survey 81 = .ok (.aload_n 0, 1) := by decide +kernel
theorem dX0_survey_82 : decode cX0_survey 82 = .ok (.iload_n 1, 1) := by decide +kernel
theorem dX0_survey_83 : decode cX0_survey 83 = .ok (.invokevirtual 40, 3) := by decide +kernel
theorem dX0_survey_86 : decode cX0_survey 86 = .ok (.ifCond .ne 7, 3) := by decide +kernel
theorem dX0_survey_89 : decode cX0_survey 89 = .ok (.iconst 1, 1) := by decide +kernel
theorem dX0_survey_90 : decode cX0_survey 90 = .ok (.goto 4, 3) := by decide +kernel
theorem dX0_survey_93 : decode cX0_survey 93 = .ok (.iconst 0, 1) := by decide +kernel
theorem dX0_survey_94 : decode cX0_survey 94 = .ok (.bastore, 1) := by decide +kernel
theorem dX0_survey_95 : decode cX0_survey 95 = .ok (.iinc 1 1, 3) := by decide +kernel
theorem dX0_survey_98 : decode cX0_survey 98 = .ok (.goto (-37), 3) := by decide +kernel
theorem dX0_survey_101 : decode cX0_survey 101 = .ok (.aload_n 0, 1) := by decide +kernel
theorem dX0_survey_102 : decode cX0_survey 102 = .ok (.aload_n 0, 1) := by decide +kernel
theorem dX0_survey_103 : decode cX0_survey 103 = .ok (.getfield 22, 3) := by decide +kernel
theorem dX0_survey_106 : decode cX0_survey 106 = .ok (.invokevirtual 26, 3) := by decide +kernel
theorem dX0_survey_109 : decode cX0_survey 109 = .ok (.putfield 18, 3) := by decide +kernel
theorem dX0_survey_112 : decode cX0_survey 112 = .ok (.return_, 1) := by decide +kernel
set_option maxRecDepth 20000 in
theorem ggX0_hasAllParts_X2_numberOf : GoodIn wsX0_hasAllParts wsX2_numberOf := goodIn_r _ [6, 7, 8, 9, 5, 10, 11, 20, 21, 22, 23] (by decide +kernel) (by decide +kernel)
set_option maxRecDepth 20000 in
theorem gX0_hasAllParts_X2_numberOf : GoodIn wsX0_hasAllParts (wsV RX0 32 RX2 yX2_numberOf wsX2_numberOf) := goodIn_app (goodIn_of _ (by decide +kernel)) ggX0_hasAllParts_X2_numberOf
set_option maxRecDepth 20000 in
theorem ggX0_hasAllParts_X2_partsOf : GoodIn wsX0_hasAllParts wsX2_partsOf := goodIn_r _ [15, 7, 8, 9, 5, 10, 11, 20, 21, 22, 23] (by decide +kernel) (by decide +kernel)
set_option maxRecDepth 20000 in
theorem gX0_hasAllParts_X2_partsOf : GoodIn wsX0_hasAllParts (wsV RX0 43 RX2 yX2_partsOf wsX2_partsOf) := goodIn_app (goodIn_of _ (by decide +kernel)) ggX0_hasAllParts_X2_partsOf
theorem dX0_hasAllParts_0 : decode cX0_hasAllParts 0 = .ok (.iconst 0, 1) := by decide +kernel
theorem dX0_hasAllParts_1 : decode cX0_hasAllParts 1 = .ok (.istore_n 2, 1) := by decide +kernel
theorem dX0_hasAllParts_2 : decode cX0_hasAllParts 2 = .ok (.iconst 0, 1) := by decide +kernel
theorem dX0_hasAllParts_3 : decode cX0_hasAllParts 3 = .ok (.istore_n 3, 1) := by decide +kernel
theorem dX0_hasAllParts_4 : decode cX0_hasAllParts 4 = .ok (.iload_n 3, 1) := by decide +kernel
theorem dX0_hasAllParts_5 : decode cX0_hasAllParts 5 = .ok (.bipush 64, 2) := by decide +kernel
theorem dX0_hasAllParts_7 : decode cX0_hasAllParts 7 = .ok (.if_icmp .ge 31, 3) := by decide +kernel
theorem dX0_hasAllParts_10 : decode cX0_hasAllParts 10 = .ok (.aload_n 0, 1) := by decide +kernel
theorem dX0_hasAllParts_11 : decode cX0_hasAllParts 11 = .ok (.getfield 22, 3) := by decide +kernel
theorem dX0_hasAllParts_14 : decode cX0_hasAllParts 14 = .ok (.iload_n 3, 1) := by decide +kernel
theorem dX0_hasAllParts_15 : decode cX0_hasAllParts 15 = .ok (.invokevirtual 32, 3) := by decide +kernel
theorem dX0_hasAllParts_18 : decode cX0_hasAllParts 18 = .ok (.aload_n 0, 1) := by decide +kernel
theorem dX0_hasAllParts_19 : decode cX0_hasAllParts 19 = .ok (.getfield 22, 3) := by decide +kernel
theorem dX0_hasAllParts_22 : decode cX0_hasAllParts 22 = .ok (.iload_n 1, 1) := by decide +kernel
theorem dX0_hasAllParts_23 : decode cX0_hasAllParts 23 = .ok (.invokevirtual 32, 3) := by decide +kernel
theorem dX0_hasAllParts_26 : decode cX0_hasAllParts 26 = .ok (.if_icmp .ne 6, 3) := by decide +kernel
theorem dX0_hasAllParts_29 : decode cX0_hasAllParts 29 = .ok (.iinc 2 1, 3) := by decide +kernel
theorem dX0_hasAllParts_32 : decode cX0_hasAllParts 32 = .ok (.iinc 3 1, 3) := by decide +kernel
theorem dX0_hasAllParts_35 : decode cX0_hasAllParts 35 = .ok (.goto (-31), 3) := by decide +kernel
theorem dX0_hasAllParts_38 : decode cX0_hasAllParts 38 = .ok (.iload_n 2, 1) := by decide +kernel
theorem dX0_hasAllParts_39 : decode cX0_hasAllParts 39 = .ok (.aload_n 0, 1) := by decide +kernel
theorem dX0_hasAllParts_40 : decode cX0_hasAllParts 40 = .ok (.getfield 22, 3) := by decide +kernel
theorem dX0_hasAllParts_43 : decode cX0_hasAllParts 43 = .ok (.iload_n 1, 1) := by decide +kernel
theorem dX0_hasAllParts_44 : decode cX0_hasAllParts 44 = .ok (.invokevirtual 43, 3) := by decide +kernel
theorem dX0_hasAllParts_47 : decode cX0_hasAllParts 47 = .ok (.if_icmp .ne 7, 3) := by decide +kernel
theorem dX0_hasAllParts_50 : decode cX0_hasAllParts 50 = .ok (.iconst 1, 1) := by decide +kernel
theorem dX0_hasAllParts_51 : decode cX0_hasAllParts 51 = .ok (.goto 4, 3) := by decide +kernel
theorem dX0_hasAllParts_54 : decode cX0_hasAllParts 54 = .ok (.iconst 0, 1) := by decide +kernel
theorem dX0_hasAllParts_55 : decode cX0_hasAllParts 55 = .ok (.ireturn, 1) := by decide +kernel
set_option maxRecDepth 20000 in
theorem ggX0_isOutdone_X2_keyOf : GoodIn wsX0_isOutdone wsX2_keyOf := goodIn_r _ [7, 8, 9, 10, 6, 11, 12, 21, 22, 23, 24] (by decide +kernel) (by decide +kernel)
set_option maxRecDepth 20000 in
theorem gX0_isOutdone_X2_keyOf : GoodIn wsX0_isOutdone (wsV RX0 46 RX2 yX2_keyOf wsX2_keyOf) := goodIn_app (goodIn_of _ (by decide +kernel)) ggX0_isOutdone_X2_keyOf
set_option maxRecDepth 20000 in
theorem ggX0_isOutdone_X2_numberOf : GoodIn wsX0_isOutdone wsX2_numberOf := goodIn_r _ [16, 8, 9, 10, 6, 11, 12, 21, 22, 23, 24] (by decide +kernel) (by decide +kernel)
set_option maxRecDepth 20000 in
theorem gX0_isOutdone_X2_numberOf : GoodIn wsX0_isOutdone (wsV RX0 32 RX2 yX2_numberOf wsX2_numberOf) := goodIn_app (goodIn_of _ (by decide +kernel)) ggX0_isOutdone_X2_numberOf
theorem dX0_isOutdone_0 : decode cX0_isOutdone 0 = .ok (.iconst 0, 1) := by decide +kernel
theorem dX0_isOutdone_1 : decode cX0_isOutdone 1 = .ok (.istore_n 2, 1) := by decide +kernel
theorem dX0_isOutdone_2 : decode cX0_isOutdone 2 = .ok (.iload_n 2, 1) := by decide +kernel
theorem dX0_isOutdone_3 : decode cX0_isOutdone 3 = .ok (.bipush 64, 2) := by decide +kernel
theorem dX0_isOutdone_5 : decode cX0_isOutdone 5 = .ok (.if_icmp .ge 58, 3) := by decide +kernel
theorem dX0_isOutdone_8 : decode cX0_isOutdone 8 = .ok (.aload_n 0, 1) := by decide +kernel
theorem dX0_isOutdone_9 : decode cX0_isOutdone 9 = .ok (.getfield 9, 3) := by decide +kernel
theorem dX0_isOutdone_12 : decode cX0_isOutdone 12 = .ok (.iload_n 2, 1) := by decide +kernel
theorem dX0_isOutdone_13 : decode cX0_isOutdone 13 = .ok (.baload, 1) := by decide +kernel
theorem dX0_isOutdone_14 : decode cX0_isOutdone 14 = .ok (.ifCond .eq 43, 3) := by decide +kernel
theorem dX0_isOutdone_17 : decode cX0_isOutdone 17 = .ok (.aload_n 0, 1) := by decide +kernel
theorem dX0_isOutdone_18 : decode cX0_isOutdone 18 = .ok (.getfield 22, 3) := by decide +kernel
theorem dX0_isOutdone_21 : decode cX0_isOutdone 21 = .ok (.iload_n 2, 1) := by decide +kernel
theorem dX0_isOutdone_22 : decode cX0_isOutdone 22 = .ok (.invokevirtual 46, 3) := by decide +kernel
theorem dX0_isOutdone_25 : decode cX0_isOutdone 25 = .ok (.aload_n 0, 1) := by decide +kernel
theorem dX0_isOutdone_26 : decode cX0_isOutdone 26 = .ok (.getfield 22, 3) := by decide +kernel
theorem dX0_isOutdone_29 : decode cX0_isOutdone 29 = .ok (.iload_n 1, 1) := by decide +kernel
theorem dX0_isOutdone_30 : decode cX0_isOutdone 30 = .ok (.invokevirtual 46, 3) := by decide +kernel
theorem dX0_isOutdone_33 : decode cX0_isOutdone 33 = .ok (.if_icmp .ne 24, 3) := by decide +kernel
theorem dX0_isOutdone_36 : decode cX0_isOutdone 36 = .ok (.aload_n 0, 1) := by decide +kernel
theorem dX0_isOutdone_37 : decode cX0_isOutdone 37 = .ok (.getfield 22, 3) := by decide +kernel
theorem dX0_isOutdone_40 : decode cX0_isOutdone 40 = .ok (.iload_n 2, 1) := by decide +kernel
theorem dX0_isOutdone_41 : decode cX0_isOutdone 41 = .ok (.invokevirtual 32, 3) := by decide +kernel
theorem dX0_isOutdone_44 : decode cX0_isOutdone 44 = .ok (.aload_n 0, 1) := by decide +kernel
theorem dX0_isOutdone_45 : decode cX0_isOutdone 45 = .ok (.getfield 22, 3) := by decide +kernel
theorem dX0_isOutdone_48 : decode cX0_isOutdone 48 = .ok (.iload_n 1, 1) := by decide +kernel
theorem dX0_isOutdone_49 : decode cX0_isOutdone 49 = .ok (.invokevirtual 32, 3) := by decide +kernel
theorem dX0_isOutdone_52 : decode cX0_isOutdone 52 = .ok (.if_icmp .le 5, 3) := by decide +kernel
theorem dX0_isOutdone_55 : decode cX0_isOutdone 55 = .ok (.iconst 1, 1) := by decide +kernel
theorem dX0_isOutdone_56 : decode cX0_isOutdone 56 = .ok (.ireturn, 1) := by decide +kernel
theorem dX0_isOutdone_57 : decode cX0_isOutdone 57 = .ok (.iinc 2 1, 3) := by decide +kernel
theorem dX0_isOutdone_60 : decode cX0_isOutdone 60 = .ok (.goto (-58), 3) := by decide +kernel
theorem dX0_isOutdone_63 : decode cX0_isOutdone 63 = .ok (.iconst 0, 1) := by decide +kernel
theorem dX0_isOutdone_64 : decode cX0_isOutdone 64 = .ok (.ireturn, 1) := by decide +kernel
theorem dX0_isLive_0 : decode cX0_isLive 0 = .ok (.iload_n 1, 1) := by decide +kernel
theorem dX0_isLive_1 : decode cX0_isLive 1 = .ok (.ifCond .lt 22, 3) := by decide +kernel
theorem dX0_isLive_4 : decode cX0_isLive 4 = .ok (.iload_n 1, 1) := by decide +kernel
theorem dX0_isLive_5 : decode cX0_isLive 5 = .ok (.bipush 64, 2) := by decide +kernel
theorem dX0_isLive_7 : decode cX0_isLive 7 = .ok (.if_icmp .ge 16, 3) := by decide +kernel
theorem dX0_isLive_10 : decode cX0_isLive 10 = .ok (.aload_n 0, 1) := by decide +kernel
theorem dX0_isLive_11 : decode cX0_isLive 11 = .ok (.getfield 15, 3) := by decide +kernel
theorem dX0_isLive_14 : decode cX0_isLive 14 = .ok (.iload_n 1, 1) := by decide +kernel
theorem dX0_isLive_15 : decode cX0_isLive 15 = .ok (.baload, 1) := by decide +kernel
theorem dX0_isLive_16 : decode cX0_isLive 16 = .ok (.ifCond .eq 7, 3) := by decide +kernel
theorem dX0_isLive_19 : decode cX0_isLive 19 = .ok (.iconst 1, 1) := by decide +kernel
theorem dX0_isLive_20 : decode cX0_isLive 20 = .ok (.goto 4, 3) := by decide +kernel
theorem dX0_isLive_23 : decode cX0_isLive 23 = .ok (.iconst 0, 1) := by decide +kernel
theorem dX0_isLive_24 : decode cX0_isLive 24 = .ok (.ireturn, 1) := by decide +kernel
set_option maxRecDepth 20000 in
theorem ggX0_isLeftOver_X0_isLive : GoodIn wsX0_isLeftOver wsX0_isLive := goodIn_r _ [6, 7, 18, 19, 20, 21] (by decide +kernel) (by decide +kernel)
set_option maxRecDepth 20000 in
theorem gX0_isLeftOver_X0_isLive : GoodIn wsX0_isLeftOver (wsV RX0 49 RX0 yX0_isLive wsX0_isLive) := goodIn_app (goodIn_of _ (by decide +kernel)) ggX0_isLeftOver_X0_isLive
set_option maxRecDepth 20000 in
theorem ggX0_isLeftOver_X2_numberOf : GoodIn wsX0_isLeftOver wsX2_numberOf := goodIn_r _ [12, 13, 14, 15, 11, 16, 17, 22, 23, 24, 25] (by decide +kernel) (by decide +kernel)
set_option maxRecDepth 20000 in
theorem gX0_isLeftOver_X2_numberOf : GoodIn wsX0_isLeftOver (wsV RX0 32 RX2 yX2_numberOf wsX2_numberOf) := goodIn_app (goodIn_of _ (by decide +kernel)) ggX0_isLeftOver_X2_numberOf
theorem dX0_isLeftOver_0 : decode cX0_isLeftOver 0 = .ok (.aload_n 0, 1) := by decide +kernel
theorem dX0_isLeftOver_1 : decode cX0_isLeftOver 1 = .ok (.iload_n 1, 1) := by decide +kernel
theorem dX0_isLeftOver_2 : decode cX0_isLeftOver 2 = .ok (.invokevirtual 49, 3) := by decide +kernel
theorem dX0_isLeftOver_5 : decode cX0_isLeftOver 5 = .ok (.ifCond .ne 18, 3) := by decide +kernel
theorem dX0_isLeftOver_8 : decode cX0_isLeftOver 8 = .ok (.aload_n 0, 1) := by decide +kernel
theorem dX0_isLeftOver_9 : decode cX0_isLeftOver 9 = .ok (.getfield 22, 3) := by decide +kernel
theorem dX0_isLeftOver_12 : decode cX0_isLeftOver 12 = .ok (.iload_n 1, 1) := by decide +kernel
theorem dX0_isLeftOver_13 : decode cX0_isLeftOver 13 = .ok (.invokevirtual 32, 3) := by decide +kernel
theorem dX0_isLeftOver_16 : decode cX0_isLeftOver 16 = .ok (.ifCond .eq 7, 3) := by decide +kernel
theorem dX0_isLeftOver_19 : decode cX0_isLeftOver 19 = .ok (.iconst 1, 1) := by decide +kernel
theorem dX0_isLeftOver_20 : decode cX0_isLeftOver 20 = .ok (.goto 4, 3) := by decide +kernel
theorem dX0_isLeftOver_23 : decode cX0_isLeftOver 23 = .ok (.iconst 0, 1) := by decide +kernel
theorem dX0_isLeftOver_24 : decode cX0_isLeftOver 24 = .ok (.ireturn, 1) := by decide +kernel
set_option maxRecDepth 20000 in
theorem ggX0_isLiveGrave_X0_isLive : GoodIn wsX0_isLiveGrave wsX0_isLive := goodIn_r _ [6, 7, 18, 19, 20, 21] (by decide +kernel) (by decide +kernel)
set_option maxRecDepth 20000 in
theorem gX0_isLiveGrave_X0_isLive : GoodIn wsX0_isLiveGrave (wsV RX0 49 RX0 yX0_isLive wsX0_isLive) := goodIn_app (goodIn_of _ (by decide +kernel)) ggX0_isLiveGrave_X0_isLive
set_option maxRecDepth 20000 in
theorem ggX0_isLiveGrave_X2_formOf : GoodIn wsX0_isLiveGrave wsX2_formOf := goodIn_r _ [12, 13, 14, 15, 11, 16, 17, 22, 23, 24, 25] (by decide +kernel) (by decide +kernel)
set_option maxRecDepth 20000 in
theorem gX0_isLiveGrave_X2_formOf : GoodIn wsX0_isLiveGrave (wsV RX0 52 RX2 yX2_formOf wsX2_formOf) := goodIn_app (goodIn_of _ (by decide +kernel)) ggX0_isLiveGrave_X2_formOf
theorem dX0_isLiveGrave_0 : decode cX0_isLiveGrave 0 = .ok (.aload_n 0, 1) := by decide +kernel
theorem dX0_isLiveGrave_1 : decode cX0_isLiveGrave 1 = .ok (.iload_n 1, 1) := by decide +kernel
theorem dX0_isLiveGrave_2 : decode cX0_isLiveGrave 2 = .ok (.invokevirtual 49, 3) := by decide +kernel
theorem dX0_isLiveGrave_5 : decode cX0_isLiveGrave 5 = .ok (.ifCond .eq 19, 3) := by decide +kernel
theorem dX0_isLiveGrave_8 : decode cX0_isLiveGrave 8 = .ok (.aload_n 0, 1) := by decide +kernel
theorem dX0_isLiveGrave_9 : decode cX0_isLiveGrave 9 = .ok (.getfield 22, 3) := by decide +kernel
theorem dX0_isLiveGrave_12 : decode cX0_isLiveGrave 12 = .ok (.iload_n 1, 1) := by decide +kernel
theorem dX0_isLiveGrave_13 : decode cX0_isLiveGrave 13 = .ok (.invokevirtual 52, 3) := by decide +kernel
theorem dX0_isLiveGrave_16 : decode cX0_isLiveGrave 16 = .ok (.iconst 2, 1) := by decide +kernel
theorem dX0_isLiveGrave_17 : decode cX0_isLiveGrave 17 = .ok (.if_icmp .ne 7, 3) := by decide +kernel
theorem dX0_isLiveGrave_20 : decode cX0_isLiveGrave 20 = .ok (.iconst 1, 1) := by decide +kernel
theorem dX0_isLiveGrave_21 : decode cX0_isLiveGrave 21 = .ok (.goto 4, 3) := by decide +kernel
theorem dX0_isLiveGrave_24 : decode cX0_isLiveGrave 24 = .ok (.iconst 0, 1) := by decide +kernel
theorem dX0_isLiveGrave_25 : decode cX0_isLiveGrave 25 = .ok (.ireturn, 1) := by decide +kernel
set_option maxRecDepth 20000 in
theorem ggX0_isText_X0_isLive : GoodIn wsX0_isText wsX0_isLive := goodIn_r _ [6, 7, 22, 23, 24, 25] (by decide +kernel) (by decide +kernel)
set_option maxRecDepth 20000 in
theorem gX0_isText_X0_isLive : GoodIn wsX0_isText (wsV RX0 49 RX0 yX0_isLive wsX0_isLive) := goodIn_app (goodIn_of _ (by decide +kernel)) ggX0_isText_X0_isLive
set_option maxRecDepth 20000 in
theorem ggX0_isText_X2_partOf : GoodIn wsX0_isText wsX2_partOf := goodIn_r _ [12, 13, 14, 15, 11, 16, 17, 26, 27, 28, 29] (by decide +kernel) (by decide +kernel)
set_option maxRecDepth 20000 in
theorem gX0_isText_X2_partOf : GoodIn wsX0_isText (wsV RX0 55 RX2 yX2_partOf wsX2_partOf) := goodIn_app (goodIn_of _ (by decide +kernel)) ggX0_isText_X2_partOf
set_option maxRecDepth 20000 in
theorem ggX0_isText_X2_formOf : GoodIn wsX0_isText wsX2_formOf := goodIn_r _ [21, 13, 14, 15, 11, 16, 17, 26, 27, 28, 29] (by decide +kernel) (by decide +kernel)
set_option maxRecDepth 20000 in
theorem gX0_isText_X2_formOf : GoodIn wsX0_isText (wsV RX0 52 RX2 yX2_formOf wsX2_formOf) := goodIn_app (goodIn_of _ (by decide +kernel)) ggX0_isText_X2_formOf
theorem dX0_isText_0 : decode cX0_isText 0 = .ok (.aload_n 0, 1) := by decide +kernel
theorem dX0_isText_1 : decode cX0_isText 1 = .ok (.iload_n 1, 1) := by decide +kernel
theorem dX0_isText_2 : decode cX0_isText 2 = .ok (.invokevirtual 49, 3) := by decide +kernel
theorem dX0_isText_5 : decode cX0_isText 5 = .ok (.ifCond .eq 30, 3) := by decide +kernel
theorem dX0_isText_8 : decode cX0_isText 8 = .ok (.aload_n 0, 1) := by decide +kernel
theorem dX0_isText_9 : decode cX0_isText 9 = .ok (.getfield 22, 3) := by decide +kernel
theorem dX0_isText_12 : decode cX0_isText 12 = .ok (.iload_n 1, 1) := by decide +kernel
theorem dX0_isText_13 : decode cX0_isText 13 = .ok (.invokevirtual 55, 3) := by decide +kernel
theorem dX0_isText_16 : decode cX0_isText 16 = .ok (.ifCond .ne 19, 3) := by decide +kernel
theorem dX0_isText_19 : decode cX0_isText 19 = .ok (.aload_n 0, 1) := by decide +kernel
theorem dX0_isText_20 : decode cX0_isText 20 = .ok (.getfield 22, 3) := by decide +kernel
theorem dX0_isText_23 : decode cX0_isText 23 = .ok (.iload_n 1, 1) := by decide +kernel
theorem dX0_isText_24 : decode cX0_isText 24 = .ok (.invokevirtual 52, 3) := by decide +kernel
theorem dX0_isText_27 : decode cX0_isText 27 = .ok (.iconst 2, 1) := by decide +kernel
theorem dX0_isText_28 : decode cX0_isText 28 = .ok (.if_icmp .eq 7, 3) := by decide +kernel
theorem dX0_isText_31 : decode cX0_isText 31 = .ok (.iconst 1, 1) := by decide +kernel
theorem dX0_isText_32 : decode cX0_isText 32 = .ok (.goto 4, 3) := by decide +kernel
theorem dX0_isText_35 : decode cX0_isText 35 = .ok (.iconst 0, 1) := by decide +kernel
theorem dX0_isText_36 : decode cX0_isText 36 = .ok (.ireturn, 1) := by decide +kernel
set_option maxRecDepth 20000 in
theorem ggX0_firstBlock_X0_isLive : GoodIn wsX0_firstBlock wsX0_isLive := goodIn_r _ [6, 7, 22, 23, 24, 25] (by decide +kernel) (by decide +kernel)
set_option maxRecDepth 20000 in
theorem gX0_firstBlock_X0_isLive : GoodIn wsX0_firstBlock (wsV RX0 49 RX0 yX0_isLive wsX0_isLive) := goodIn_app (goodIn_of _ (by decide +kernel)) ggX0_firstBlock_X0_isLive
set_option maxRecDepth 20000 in
theorem ggX0_firstBlock_X2_partOf : GoodIn wsX0_firstBlock wsX2_partOf := goodIn_r _ [12, 13, 14, 15, 11, 16, 17, 26, 27, 28, 29] (by decide +kernel) (by decide +kernel)
set_option maxRecDepth 20000 in
theorem gX0_firstBlock_X2_partOf : GoodIn wsX0_firstBlock (wsV RX0 55 RX2 yX2_partOf wsX2_partOf) := goodIn_app (goodIn_of _ (by decide +kernel)) ggX0_firstBlock_X2_partOf
set_option maxRecDepth 20000 in
theorem ggX0_firstBlock_X2_keyOf : GoodIn wsX0_firstBlock wsX2_keyOf := goodIn_r _ [21, 13, 14, 15, 11, 16, 17, 26, 27, 28, 29] (by decide +kernel) (by decide +kernel)
set_option maxRecDepth 20000 in
theorem gX0_firstBlock_X2_keyOf : GoodIn wsX0_firstBlock (wsV RX0 46 RX2 yX2_keyOf wsX2_keyOf) := goodIn_app (goodIn_of _ (by decide +kernel)) ggX0_firstBlock_X2_keyOf
theorem dX0_firstBlock_0 : decode cX0_firstBlock 0 = .ok (.iconst 0, 1) := by decide +kernel
theorem dX0_firstBlock_1 : decode cX0_firstBlock 1 = .ok (.istore_n 2, 1) := by decide +kernel
theorem dX0_firstBlock_2 : decode cX0_firstBlock 2 = .ok (.iload_n 2, 1) := by decide +kernel
theorem dX0_firstBlock_3 : decode cX0_firstBlock 3 = .ok (.bipush 64, 2) := by decide +kernel
theorem dX0_firstBlock_5 : decode cX0_firstBlock 5 = .ok (.if_icmp .ge 42, 3) := by decide +kernel
theorem dX0_firstBlock_8 : decode cX0_firstBlock 8 = .ok (.aload_n 0, 1) := by decide +kernel
theorem dX0_firstBlock_9 : decode cX0_firstBlock 9 = .ok (.iload_n 2, 1) := by decide +kernel
theorem dX0_firstBlock_10 : decode cX0_firstBlock 10 = .ok (.invokevirtual 49, 3) := by decide +kernel
theorem dX0_firstBlock_13 : decode cX0_firstBlock 13 = .ok (.ifCond .eq 28, 3) := by decide +kernel
theorem dX0_firstBlock_16 : decode cX0_firstBlock 16 = .ok (.aload_n 0, 1) := by decide +kernel
theorem dX0_firstBlock_17 : decode cX0_firstBlock 17 = .ok (.getfield 22, 3) := by decide +kernel
theorem dX0_firstBlock_20 : decode cX0_firstBlock 20 = .ok (.iload_n 2, 1) := by decide +kernel
theorem dX0_firstBlock_21 : decode cX0_firstBlock 21 = .ok (.invokevirtual 55, 3) := by decide +kernel
theorem dX0_firstBlock_24 : decode cX0_firstBlock 24 = .ok (.ifCond .ne 17, 3) := by decide +kernel
theorem dX0_firstBlock_27 : decode cX0_firstBlock 27 = .ok (.aload_n 0, 1) := by decide +kernel
theorem dX0_firstBlock_28 : decode cX0_firstBlock 28 = .ok (.getfield 22, 3) := by decide +kernel
theorem dX0_firstBlock_31 : decode cX0_firstBlock 31 = .ok (.iload_n 2, 1) := by decide +kernel
theorem dX0_firstBlock_32 : decode cX0_firstBlock 32 = .ok (.invokevirtual 46, 3) := by decide +kernel
theorem dX0_firstBlock_35 : decode cX0_firstBlock 35 = .ok (.iload_n 1, 1) := by decide +kernel
theorem dX0_firstBlock_36 : decode cX0_firstBlock 36 = .ok (.if_icmp .ne 5, 3) := by decide +kernel
theorem dX0_firstBlock_39 : decode cX0_firstBlock 39 = .ok (.iload_n 2, 1) := by decide +kernel
theorem dX0_firstBlock_40 : decode cX0_firstBlock 40 = .ok (.ireturn, 1) := by decide +kernel
theorem dX0_firstBlock_41 : decode cX0_firstBlock 41 = .ok (.iinc 2 1, 3) := by decide +kernel
theorem dX0_firstBlock_44 : decode cX0_firstBlock 44 = .ok (.goto (-42), 3) := by decide +kernel
theorem dX0_firstBlock_47 : decode cX0_firstBlock 47 = .ok (.iconst (-1), 1) := by decide +kernel
theorem dX0_firstBlock_48 : decode cX0_firstBlock 48 = .ok (.ireturn, 1) := by decide +kernel
set_option maxRecDepth 20000 in
theorem ggX0_firstBlockOfRank_X0_isText : GoodIn wsX0_firstBlockOfRank wsX0_isText := goodIn_r _ [6, 1, 7, 8, 9, 5, 10, 11, 12, 13, 14, 15, 16, 17, 18, 19, 20, 21, 22, 23, 24, 25, 34, 35, 36, 37, 38, 39, 40, 41] (by decide +kernel) (by decide +kernel)
set_option maxRecDepth 20000 in
theorem gX0_firstBlockOfRank_X0_isText : GoodIn wsX0_firstBlockOfRank (wsV RX0 58 RX0 yX0_isText wsX0_isText) := goodIn_app (goodIn_of _ (by decide +kernel)) ggX0_firstBlockOfRank_X0_isText
set_option maxRecDepth 20000 in
theorem ggX0_firstBlockOfRank_X2_keyOf : GoodIn wsX0_firstBlockOfRank wsX2_keyOf := goodIn_r _ [29, 17, 18, 19, 15, 20, 21, 38, 39, 40, 41] (by decide +kernel) (by decide +kernel)
set_option maxRecDepth 20000 in
theorem gX0_firstBlockOfRank_X2_keyOf : GoodIn wsX0_firstBlockOfRank (wsV RX0 46 RX2 yX2_keyOf wsX2_keyOf) := goodIn_app (goodIn_of _ (by decide +kernel)) ggX0_firstBlockOfRank_X2_keyOf
set_option maxRecDepth 20000 in
theorem ggX0_firstBlockOfRank_X0_countTextsBelow : GoodIn wsX0_firstBlockOfRank wsX0_countTextsBelow := goodIn_r _ [33, 1, 2, 3, 4, 5, 6, 7, 8, 9, 10, 11, 12, 13, 14, 15, 16, 17, 18, 19, 20, 21, 22, 23, 24, 25, 26, 27, 28, 29, 34, 35, 36, 37, 38, 39, 40, 41] (by decide +kernel) (by decide +kernel)
set_option maxRecDepth 20000 in
theorem gX0_firstBlockOfRank_X0_countTextsBelow : GoodIn wsX0_firstBlockOfRank (wsV RX0 61 RX0 yX0_countTextsBelow wsX0_countTextsBelow) := goodIn_app (goodIn_of _ (by decide +kernel)) ggX0_firstBlockOfRank_X0_countTextsBelow
theorem dX0_firstBlockOfRank_0 : decode cX0_firstBlockOfRank 0 = .ok (.iconst 0, 1) := by decide +kernel
theorem dX0_firstBlockOfRank_1 : decode cX0_firstBlockOfRank 1 = .ok (.istore_n 2, 1) := by decide +kernel
theorem dX0_firstBlockOfRank_2 : decode cX0_firstBlockOfRank 2 = .ok (.iload_n 2, 1) := by decide +kernel
theorem dX0_firstBlockOfRank_3 : decode cX0_firstBlockOfRank 3 = .ok (.bipush 64, 2) := by decide +kernel
theorem dX0_firstBlockOfRank_5 : decode cX0_firstBlockOfRank 5 = .ok (.if_icmp .ge 35, 3) := by decide +kernel
theorem dX0_firstBlockOfRank_8 : decode cX0_firstBlockOfRank 8 = .ok (.aload_n 0, 1) := by decide +kernel
theorem dX0_firstBlockOfRank_9 : decode cX0_firstBlockOfRank 9 = .ok (.iload_n 2, 1) := by decide +kernel
theorem dX0_firstBlockOfRank_10 : decode cX0_firstBlockOfRank 10 = .ok (.invokevirtual 58, 3) := by decide +kernel
theorem dX0_firstBlockOfRank_13 : decode cX0_firstBlockOfRank 13 = .ok (.ifCond .eq 21, 3) := by decide +kernel
theorem dX0_firstBlockOfRank_16 : decode cX0_firstBlockOfRank 16 = .ok (.aload_n 0, 1) := by decide +kernel
theorem dX0_firstBlockOfRank_17 : decode cX0_firstBlockOfRank 17 = .ok (.aload_n 0, 1) := by decide +kernel
theorem dX0_firstBlockOfRank_18 : decode cX0_firstBlockOfRank 18 = .ok (.getfield 22, 3) := by decide +kernel
theorem dX0_firstBlockOfRank_21 : decode cX0_firstBlockOfRank 21 = .ok (.iload_n 2, 1) := by decide +kernel
theorem dX0_firstBlockOfRank_22 : decode cX0_firstBlockOfRank 22 = .ok (.invokevirtual 46, 3) := by decide +kernel
theorem dX0_firstBlockOfRank_25 : decode cX0_firstBlockOfRank 25 = .ok (.invokevirtual 61, 3) := by decide +kernel
theorem dX0_firstBlockOfRank_28 : decode cX0_firstBlockOfRank 28 = .ok (.iload_n 1, 1) := by decide +kernel
theorem dX0_firstBlockOfRank_29 : decode cX0_firstBlockOfRank 29 = .ok (.if_icmp .ne 5, 3) := by decide +kernel
theorem dX0_firstBlockOfRank_32 : decode cX0_firstBlockOfRank 32 = .ok (.iload_n 2, 1) := by decide +kernel
theorem dX0_firstBlockOfRank_33 : decode cX0_firstBlockOfRank 33 = .ok (.ireturn, 1) := by decide +kernel
theorem dX0_firstBlockOfRank_34 : decode cX0_firstBlockOfRank 34 = .ok (.iinc 2 1, 3) := by decide +kernel
theorem dX0_firstBlockOfRank_37 : decode cX0_firstBlockOfRank 37 = .ok (.goto (-35), 3) := by decide +kernel
theorem dX0_firstBlockOfRank_40 : decode cX0_firstBlockOfRank 40 = .ok (.iconst (-1), 1) := by decide +kernel
theorem dX0_firstBlockOfRank_41 : decode cX0_firstBlockOfRank 41 = .ok (.ireturn, 1) := by decide +kernel
set_option maxRecDepth 20000 in
theorem ggX0_countTextsBelow_X0_isText : GoodIn wsX0_countTextsBelow wsX0_isText := goodIn_r _ [6, 1, 7, 8, 9, 5, 10, 11, 12, 13, 14, 15, 16, 17, 18, 19, 20, 21, 22, 23, 24, 25, 30, 31, 32, 33, 34, 35, 36, 37] (by decide +kernel) (by decide +kernel)
set_option maxRecDepth 20000 in
theorem gX0_countTextsBelow_X0_isText : GoodIn wsX0_countTextsBelow (wsV RX0 58 RX0 yX0_isText wsX0_isText) := goodIn_app (goodIn_of _ (by decide +kernel)) ggX0_countTextsBelow_X0_isText
set_option maxRecDepth 20000 in
theorem ggX0_countTextsBelow_X2_keyOf : GoodIn wsX0_countTextsBelow wsX2_keyOf := goodIn_r _ [29, 17, 18, 19, 15, 20, 21, 34, 35, 36, 37] (by decide +kernel) (by decide +kernel)
set_option maxRecDepth 20000 in
theorem gX0_countTextsBelow_X2_keyOf : GoodIn wsX0_countTextsBelow (wsV RX0 46 RX2 yX2_keyOf wsX2_keyOf) := goodIn_app (goodIn_of _ (by decide +kernel)) ggX0_countTextsBelow_X2_keyOf
theorem dX0_countTextsBelow_0 : decode cX0_countTextsBelow 0 = .ok (.iconst 0, 1) := by decide +kernel
theorem dX0_countTextsBelow_1 : decode cX0_countTextsBelow 1 = .ok (.istore_n 2, 1) := by decide +kernel
theorem dX0_countTextsBelow_2 : decode cX0_countTextsBelow 2 = .ok (.iconst 0, 1) := by decide +kernel
theorem dX0_countTextsBelow_3 : decode cX0_countTextsBelow 3 = .ok (.istore_n 3, 1) := by decide +kernel
theorem dX0_countTextsBelow_4 : decode cX0_countTextsBelow 4 = .ok (.iload_n 3, 1) := by decide +kernel
theorem dX0_countTextsBelow_5 : decode cX0_countTextsBelow 5 = .ok (.bipush 64, 2) := by decide +kernel
theorem dX0_countTextsBelow_7 : decode cX0_countTextsBelow 7 = .ok (.if_icmp .ge 32, 3) := by decide +kernel
theorem dX0_countTextsBelow_10 : decode cX0_countTextsBelow 10 = .ok (.aload_n 0, 1) := by decide +kernel
theorem dX0_countTextsBelow_11 : decode cX0_countTextsBelow 11 = .ok (.iload_n 3, 1) := by decide +kernel
theorem dX0_countTextsBelow_12 : decode cX0_countTextsBelow 12 = .ok (.invokevirtual 58, 3) := by decide +kernel
theorem dX0_countTextsBelow_15 : decode cX0_countTextsBelow 15 = .ok (.ifCond .eq 18, 3) := by decide +kernel
theorem dX0_countTextsBelow_18 : decode cX0_countTextsBelow 18 = .ok (.aload_n 0, 1) := by decide +kernel
theorem dX0_countTextsBelow_19 : decode cX0_countTextsBelow 19 = .ok (.getfield 22, 3) := by decide +kernel
theorem dX0_countTextsBelow_22 : decode cX0_countTextsBelow 22 = .ok (.iload_n 3, 1) := by decide +kernel
theorem dX0_countTextsBelow_23 : decode cX0_countTextsBelow 23 = .ok (.invokevirtual 46, 3) := by decide +kernel
theorem dX0_countTextsBelow_26 : decode cX0_countTextsBelow 26 = .ok (.iload_n 1, 1) := by decide +kernel
theorem dX0_countTextsBelow_27 : decode cX0_countTextsBelow 27 = .ok (.if_icmp .ge 6, 3) := by decide +kernel
theorem dX0_countTextsBelow_30 : decode cX0_countTextsBelow 30 = .ok (.iinc 2 1, 3) := by decide +kernel
theorem dX0_countTextsBelow_33 : decode cX0_countTextsBelow 33 = .ok (.iinc 3 1, 3) := by decide +kernel
theorem dX0_countTextsBelow_36 : decode cX0_countTextsBelow 36 = .ok (.goto (-32), 3) := by decide +kernel
theorem dX0_countTextsBelow_39 : decode cX0_countTextsBelow 39 = .ok (.iload_n 2, 1) := by decide +kernel
theorem dX0_countTextsBelow_40 : decode cX0_countTextsBelow 40 = .ok (.ireturn, 1) := by decide +kernel
set_option maxRecDepth 20000 in
theorem ggX0_countTexts_X0_isText : GoodIn wsX0_countTexts wsX0_isText := goodIn_r _ [5, 6, 7, 8, 9, 4, 10, 11, 12, 13, 14, 15, 16, 17, 18, 19, 20, 21, 22, 23, 24, 25, 26, 27, 28, 29, 30, 31, 32, 33] (by decide +kernel) (by decide +kernel)
set_option maxRecDepth 20000 in
theorem gX0_countTexts_X0_isText : GoodIn wsX0_countTexts (wsV RX0 58 RX0 yX0_isText wsX0_isText) := goodIn_app (goodIn_of _ (by decide +kernel)) ggX0_countTexts_X0_isText
theorem dX0_countTexts_0 : decode cX0_countTexts 0 = .ok (.iconst 0, 1) := by decide +kernel
theorem dX0_countTexts_1 : decode cX0_countTexts 1 = .ok (.istore_n 1, 1) := by decide +kernel
theorem dX0_countTexts_2 : decode cX0_countTexts 2 = .ok (.iconst 0, 1) := by decide +kernel
theorem dX0_countTexts_3 : decode cX0_countTexts 3 = .ok (.istore_n 2, 1) := by decide +kernel
theorem dX0_countTexts_4 : decode cX0_countTexts 4 = .ok (.iload_n 2, 1) := by decide +kernel
theorem dX0_countTexts_5 : decode cX0_countTexts 5 = .ok (.bipush 64, 2) := by decide +kernel
theorem dX0_countTexts_7 : decode cX0_countTexts 7 = .ok (.if_icmp .ge 20, 3) := by decide +kernel
theorem dX0_countTexts_10 : decode cX0_countTexts 10 = .ok (.aload_n 0, 1) := by decide +kernel
theorem dX0_countTexts_11 : decode cX0_countTexts 11 = .ok (.iload_n 2, 1) := by decide +kernel
theorem dX0_countTexts_12 : decode cX0_countTexts 12 = .ok (.invokevirtual 58, 3) := by decide +kernel
theorem dX0_countTexts_15 : decode cX0_countTexts 15 = .ok (.ifCond .eq 6, 3) := by decide +kernel
theorem dX0_countTexts_18 : decode cX0_countTexts 18 = .ok (.iinc 1 1, 3) := by decide +kernel
theorem dX0_countTexts_21 : decode cX0_countTexts 21 = .ok (.iinc 2 1, 3) := by decide +kernel
theorem dX0_countTexts_24 : decode cX0_countTexts 24 = .ok (.goto (-20), 3) := by decide +kernel
theorem dX0_countTexts_27 : decode cX0_countTexts 27 = .ok (.iload_n 1, 1) := by decide +kernel
theorem dX0_countTexts_28 : decode cX0_countTexts 28 = .ok (.ireturn, 1) := by decide +kernel
set_option maxRecDepth 20000 in
theorem ggX0_countLive_X0_isLive : GoodIn wsX0_countLive wsX0_isLive := goodIn_r _ [5, 6, 7, 8, 9, 10] (by decide +kernel) (by decide +kernel)
set_option maxRecDepth 20000 in
theorem gX0_countLive_X0_isLive : GoodIn wsX0_countLive (wsV RX0 49 RX0 yX0_isLive wsX0_isLive) := goodIn_app (goodIn_of _ (by decide +kernel)) ggX0_countLive_X0_isLive
theorem dX0_countLive_0 : decode cX0_countLive 0 = .ok (.iconst 0, 1) := by decide +kernel
theorem dX0_countLive_1 : decode cX0_countLive 1 = .ok (.istore_n 1, 1) := by decide +kernel
theorem dX0_countLive_2 : decode cX0_countLive 2 = .ok (.iconst 0, 1) := by decide +kernel
theorem dX0_countLive_3 : decode cX0_countLive 3 = .ok (.istore_n 2, 1) := by decide +kernel
theorem dX0_countLive_4 : decode cX0_countLive 4 = .ok (.iload_n 2, 1) := by decide +kernel
theorem dX0_countLive_5 : decode cX0_countLive 5 = .ok (.bipush 64, 2) := by decide +kernel
theorem dX0_countLive_7 : decode cX0_countLive 7 = .ok (.if_icmp .ge 20, 3) := by decide +kernel
theorem dX0_countLive_10 : decode cX0_countLive 10 = .ok (.aload_n 0, 1) := by decide +kernel
theorem dX0_countLive_11 : decode cX0_countLive 11 = .ok (.iload_n 2, 1) := by decide +kernel
theorem dX0_countLive_12 : decode cX0_countLive 12 = .ok (.invokevirtual 49, 3) := by decide +kernel
theorem dX0_countLive_15 : decode cX0_countLive 15 = .ok (.ifCond .eq 6, 3) := by decide +kernel
theorem dX0_countLive_18 : decode cX0_countLive 18 = .ok (.iinc 1 1, 3) := by decide +kernel
theorem dX0_countLive_21 : decode cX0_countLive 21 = .ok (.iinc 2 1, 3) := by decide +kernel
theorem dX0_countLive_24 : decode cX0_countLive 24 = .ok (.goto (-20), 3) := by decide +kernel
theorem dX0_countLive_27 : decode cX0_countLive 27 = .ok (.iload_n 1, 1) := by decide +kernel
theorem dX0_countLive_28 : decode cX0_countLive 28 = .ok (.ireturn, 1) := by decide +kernel
set_option maxRecDepth 20000 in
theorem ggX0_countLiveGraves_X0_isLiveGrave : GoodIn wsX0_countLiveGraves wsX0_isLiveGrave := goodIn_r _ [5, 6, 7, 8, 9, 4, 10, 11, 12, 13, 14, 15, 16, 17, 18, 19, 20, 21, 22, 23, 24, 25, 26, 27, 28, 29] (by decide +kernel) (by decide +kernel)
set_option maxRecDepth 20000 in
theorem gX0_countLiveGraves_X0_isLiveGrave : GoodIn wsX0_countLiveGraves (wsV RX0 64 RX0 yX0_isLiveGrave wsX0_isLiveGrave) := goodIn_app (goodIn_of _ (by decide +kernel)) ggX0_countLiveGraves_X0_isLiveGrave
theorem dX0_countLiveGraves_0 : decode cX0_countLiveGraves 0 = .ok (.iconst 0, 1) := by decide +kernel
theorem dX0_countLiveGraves_1 : decode cX0_countLiveGraves 1 = .ok (.istore_n 1, 1) := by decide +kernel
theorem dX0_countLiveGraves_2 : decode cX0_countLiveGraves 2 = .ok (.iconst 0, 1) := by decide +kernel
theorem dX0_countLiveGraves_3 : decode cX0_countLiveGraves 3 = .ok (.istore_n 2, 1) := by decide +kernel
theorem dX0_countLiveGraves_4 : decode cX0_countLiveGraves 4 = .ok (.iload_n 2, 1) := by decide +kernel
theorem dX0_countLiveGraves_5 : decode cX0_countLiveGraves 5 = .ok (.bipush 64, 2) := by decide +kernel
theorem dX0_countLiveGraves_7 : decode cX0_countLiveGraves 7 = .ok (.if_icmp .ge 20, 3) := by decide +kernel
theorem dX0_countLiveGraves_10 : decode cX0_countLiveGraves 10 = .ok (.aload_n 0, 1) := by decide +kernel
theorem dX0_countLiveGraves_11 : decode cX0_countLiveGraves 11 = .ok (.iload_n 2, 1) := by decide +kernel
theorem dX0_countLiveGraves_12 : decode cX0_countLiveGraves 12 = .ok (.invokevirtual 64, 3) := by decide +kernel
theorem dX0_countLiveGraves_15 : decode cX0_countLiveGraves 15 = .ok (.ifCond .eq 6, 3) := by decide +kernel
theorem dX0_countLiveGraves_18 : decode cX0_countLiveGraves 18 = .ok (.iinc 1 1, 3) := by decide +kernel
theorem dX0_countLiveGraves_21 : decode cX0_countLiveGraves 21 = .ok (.iinc 2 1, 3) := by decide +kernel
theorem dX0_countLiveGraves_24 : decode cX0_countLiveGraves 24 = .ok (.goto (-20), 3) := by decide +kernel
theorem dX0_countLiveGraves_27 : decode cX0_countLiveGraves 27 = .ok (.iload_n 1, 1) := by decide +kernel
theorem dX0_countLiveGraves_28 : decode cX0_countLiveGraves 28 = .ok (.ireturn, 1) := by decide +kernel
set_option maxRecDepth 20000 in
theorem ggX1_encode_X3_empty : GoodIn wsX1_encode wsX3_empty := goodIn_r _ [5, 6, 35, 36] (by decide +kernel) (by decide +kernel)
set_option maxRecDepth 20000 in
theorem gX1_encode_X3_empty : GoodIn wsX1_encode (wsV RX1 9 RX3 yX3_empty wsX3_empty) := goodIn_app (goodIn_of _ (by decide +kernel)) ggX1_encode_X3_empty
set_option maxRecDepth 20000 in
theorem ggX1_encode_X3_size : GoodIn wsX1_encode wsX3_size := goodIn_r _ [10, 6, 35, 36] (by decide +kernel) (by decide +kernel)
set_option maxRecDepth 20000 in
theorem gX1_encode_X3_size : GoodIn wsX1_encode (wsV RX1 14 RX3 yX3_size wsX3_size) := goodIn_app (goodIn_of _ (by decide +kernel)) ggX1_encode_X3_size
set_option maxRecDepth 20000 in
theorem ggX1_encode_X3_append : GoodIn wsX1_encode wsX3_append := goodIn_r _ [14, 6, 15, 35, 36] (by decide +kernel) (by decide +kernel)
set_option maxRecDepth 20000 in
theorem gX1_encode_X3_append : GoodIn wsX1_encode (wsV RX1 18 RX3 yX3_append wsX3_append) := goodIn_app (goodIn_of _ (by decide +kernel)) ggX1_encode_X3_append
set_option maxRecDepth 20000 in
theorem ggX1_encode_X1_bestDistance : GoodIn wsX1_encode wsX1_bestDistance := goodIn_r _ [19, 20, 21, 22, 23, 7, 8, 9, 4, 10, 6, 24, 25, 18, 26, 27, 28, 29, 30, 15, 35, 36] (by decide +kernel) (by decide +kernel)
set_option maxRecDepth 20000 in
theorem gX1_encode_X1_bestDistance : GoodIn wsX1_encode (va_wsS RX1 22 yX1_bestDistance wsX1_bestDistance) := goodIn_app (goodIn_of _ (by decide +kernel)) ggX1_encode_X1_bestDistance
set_option maxRecDepth 20000 in
theorem ggX1_encode_X3_setBit : GoodIn wsX1_encode wsX3_setBit := goodIn_r _ [34, 6, 15, 35, 36] (by decide +kernel) (by decide +kernel)
set_option maxRecDepth 20000 in
theorem gX1_encode_X3_setBit : GoodIn wsX1_encode (wsV RX1 28 RX3 yX3_setBit wsX3_setBit) := goodIn_app (goodIn_of _ (by decide +kernel)) ggX1_encode_X3_setBit
set_option maxRecDepth 20000 in
theorem ggX1_encode_X3_at : GoodIn wsX1_encode wsX3_at := goodIn_r _ [30, 6, 15, 35, 36] (by decide +kernel) (by decide +kernel)
set_option maxRecDepth 20000 in
theorem gX1_encode_X3_at : GoodIn wsX1_encode (wsV RX1 32 RX3 yX3_at wsX3_at) := goodIn_app (goodIn_of _ (by decide +kernel)) ggX1_encode_X3_at
set_option maxRecDepth 20000 in
theorem ggX1_encode_X1_rowLength : GoodIn wsX1_encode wsX1_rowLength := goodIn_r _ [26, 20, 21, 22, 23, 7, 8, 9, 4, 10, 6, 27, 28, 29, 30, 15, 35, 36] (by decide +kernel) (by decide +kernel)
set_option maxRecDepth 20000 in
theorem gX1_encode_X1_rowLength : GoodIn wsX1_encode (va_wsS RX1 36 yX1_rowLength wsX1_rowLength) := goodIn_app (goodIn_of _ (by decide +kernel)) ggX1_encode_X1_rowLength
theorem dX1_encode_0 : decode cX1_encode 0 = .ok (.aload_n 1, 1) := by decide +kernel
theorem dX1_encode_1 : decode cX1_encode 1 = .ok (.invokevirtual 9, 3) := by decide +kernel
theorem dX1_encode_4 : decode cX1_encode 4 = .ok (.iconst 0, 1) := by decide +kernel
theorem dX1_encode_5 : decode cX1_encode 5 = .ok (.istore_n 2, 1) := by decide +kernel
theorem dX1_encode_6 : decode cX1_encode 6 = .ok (.iconst 0, 1) := by decide +kernel
theorem dX1_encode_7 : decode cX1_encode 7 = .ok (.istore_n 3, 1) := by decide +kernel
theorem dX1_encode_8 : decode cX1_encode 8 = .ok (.iconst 0, 1) := by decide +kernel
theorem dX1_encode_9 : decode cX1_encode 9 = .ok (.istore 4, 2) := by decide +kernel
theorem dX1_encode_11 : decode cX1_encode 11 = .ok (.iconst 0, 1) := by decide +kernel
theorem dX1_encode_12 : decode cX1_encode 12 = .ok (.istore 5, 2) := by decide +kernel
theorem dX1_encode_14 : decode cX1_encode 14 = .ok (.iload 5, 2) := by decide +kernel
theorem dX1_encode_16 : decode cX1_encode 16 = .ok (.aload_n 0, 1) := by decide +kernel
theorem dX1_encode_17 : decode cX1_encode 17 = .ok (.invokevirtual 14, 3) := by decide +kernel
theorem dX1_encode_20 : decode cX1_encode 20 = .ok (.if_icmp .ge 115, 3) := by decide +kernel
theorem dX1_encode_23 : decode cX1_encode 23 = .ok (.iload 5, 2) := by decide +kernel
theorem dX1_encode_25 : decode cX1_encode 25 = .ok (.iload 4, 2) := by decide +kernel
theorem dX1_encode_27 : decode cX1_encode 27 = .ok (.if_icmp .ge 6, 3) := by decide +kernel
theorem dX1_encode_30 : decode cX1_encode 30 = .ok (.goto 99, 3) := by decide +kernel
theorem dX1_encode_33 : decode cX1_encode 33 = .ok (.iload_n 3, 1) := by decide +kernel
theorem dX1_encode_34 : decode cX1_encode 34 = .ok (.bipush 8, 2) := by decide +kernel
theorem dX1_encode_36 : decode cX1_encode 36 = .ok (.irem, 1) := by decide +kernel
theorem dX1_encode_37 : decode cX1_encode 37 = .ok (.istore 6, 2) := by decide +kernel
theorem dX1_encode_39 : decode cX1_encode 39 = .ok (.iload 6, 2) := by decide +kernel
theorem dX1_encode_41 : decode cX1_encode 41 = .ok (.ifCond .ne 13, 3) := by decide +kernel
theorem dX1_encode_44 : decode cX1_encode 44 = .ok (.aload_n 1, 1) := by decide +kernel
theorem dX1_encode_45 : decode cX1_encode 45 = .ok (.invokevirtual 14, 3) := by decide +kernel
theorem dX1_encode_48 : decode cX1_encode 48 = .ok (.istore_n 2, 1) := by decide +kernel
theorem dX1_encode_49 : decode cX1_encode 49 = .ok (.aload_n 1, 1) := by decide +kernel
theorem dX1_encode_50 : decode cX1_encode 50 = .ok (.iconst 0, 1) := by decide +kernel
theorem dX1_encode_51 : decode cX1_encode 51 = .ok (.invokevirtual 18, 3) := by decide +kernel
theorem dX1_encode_54 : decode cX1_encode 54 = .ok (.aload_n 0, 1) := by decide +kernel
theorem dX1_encode_55 : decode cX1_encode 55 = .ok (.iload 5, 2) := by decide +kernel
theorem dX1_encode_57 : decode cX1_encode 57 = .ok (.invokestatic 22, 3) := by decide +kernel
theorem dX1_encode_60 : decode cX1_encode 60 = .ok (.istore 7, 2) := by decide +kernel
theorem dX1_encode_62 : decode cX1_encode 62 = .ok (.iload 7, 2) := by decide +kernel
theorem dX1_encode_64 : decode cX1_encode 64 = .ok (.ifCond .ne 29, 3) := by decide +kernel
theorem dX1_encode_67 : decode cX1_encode 67 = .ok (.aload_n 1, 1) := by decide +kernel
theorem dX1_encode_68 : decode cX1_encode 68 = .ok (.iload_n 2, 1) := by decide +kernel
theorem dX1_encode_69 : decode cX1_encode 69 = .ok (.iload 6, 2) := by decide +kernel
theorem dX1_encode_71 : decode cX1_encode 71 = .ok (.invokevirtual 28, 3) := by decide +kernel
theorem dX1_encode_74 : decode cX1_encode 74 = .ok (.aload_n 1, 1) := by decide +kernel
theorem dX1_encode_75 : decode cX1_encode 75 = .ok (.aload_n 0, 1) := by decide +kernel
theorem dX1_encode_76 : decode cX1_encode 76 = .ok (.iload 5, 2) := by decide +kernel
theorem dX1_encode_78 : decode cX1_encode 78 = .ok (.invokevirtual 32, 3) := by decide +kernel
theorem dX1_encode_81 : decode cX1_encode 81 = .ok (.invokevirtual 18, 3) := by decide +kernel
theorem dX1_encode_84 : decode cX1_encode 84 = .ok (.iload 5, 2) := by decide +kernel
theorem dX1_encode_86 : decode cX1_encode 86 = .ok (.iconst 1, 1) := by decide +kernel
theorem dX1_encode_87 : decode cX1_encode 87 = .ok (.iadd, 1) := by decide +kernel
theorem dX1_encode_88 : decode cX1_encode 88 = .ok (.istore 4, 2) := by decide +kernel
theorem dX1_encode_90 : decode cX1_encode 90 = .ok (.goto 36, 3) := by decide +kernel
theorem dX1_encode_93 : decode cX1_encode 93 = .ok (.aload_n 0, 1) := by decide +kernel
theorem dX1_encode_94 : decode cX1_encode 94 = .ok (.iload 5, 2) := by decide +kernel
theorem dX1_encode_96 : decode cX1_encode 96 = .ok (.iload 7, 2) := by decide +kernel
theorem dX1_encode_98 : decode cX1_encode 98 = .ok (.invokestatic 36, 3) := by decide +kernel
theorem dX1_encode_101 : decode cX1_encode 101 = .ok (.istore 8, 2) := by decide +kernel
theorem dX1_encode_103 : decode cX1_encode 103 = .ok (.aload_n 1, 1) := by decide +kernel
theorem dX1_encode_104 : decode cX1_encode 104 = .ok (.iload 7, 2) := by decide +kernel
theorem dX1_encode_106 : decode cX1_encode 106 = .ok (.iconst 1, 1) := by decide +kernel
theorem dX1_encode_107 : decode cX1_encode 107 = .ok (.isub, 1) := by decide +kernel
theorem dX1_encode_108 : decode cX1_encode 108 = .ok (.invokevirtual 18, 3) := by decide +kernel
theorem dX1_encode_111 : decode cX1_encode 111 = .ok (.aload_n 1, 1) := by decide +kernel
theorem dX1_encode_112 : decode cX1_encode 112 = .ok (.iload 8, 2) := by decide +kernel
theorem dX1_encode_114 : decode cX1_encode 114 = .ok (.iconst 3, 1) := by decide +kernel
theorem dX1_encode_115 : decode cX1_encode 115 = .ok (.isub, 1) := by decide +kernel
theorem dX1_encode_116 : decode cX1_encode 116 = .ok (.invokevirtual 18, 3) := by decide +kernel
theorem dX1_encode_119 : decode cX1_encode 119 = .ok (.iload 5, 2) := by decide +kernel
theorem dX1_encode_121 : decode cX1_encode 121 = .ok (.iload 8, 2) := by decide +kernel
theorem dX1_encode_123 : decode cX1_encode 123 = .ok (.iadd, 1) := by decide +kernel
theorem dX1_encode_124 : decode cX1_encode 124 = .ok (.istore 4, 2) := by decide +kernel
theorem dX1_encode_126 : decode cX1_encode 126 = .ok (.iinc 3 1, 3) := by decide +kernel
theorem dX1_encode_129 : decode cX1_encode 129 = .ok (.iinc 5 1, 3) := by decide +kernel
theorem dX1_encode_132 : decode cX1_encode 132 = .ok (.goto (-118), 3) := by decide +kernel
theorem dX1_encode_135 : decode cX1_encode 135 = .ok (.return_, 1) := by decide +kernel
set_option maxRecDepth 20000 in
theorem ggX1_bestDistance_X3_size : GoodIn wsX1_bestDistance wsX3_size := goodIn_r _ [9, 10, 20, 21] (by decide +kernel) (by decide +kernel)
set_option maxRecDepth 20000 in
theorem gX1_bestDistance_X3_size : GoodIn wsX1_bestDistance (wsV RX1 14 RX3 yX3_size wsX3_size) := goodIn_app (goodIn_of _ (by decide +kernel)) ggX1_bestDistance_X3_size
set_option maxRecDepth 20000 in
theorem ggX1_bestDistance_X1_rowLength : GoodIn wsX1_bestDistance wsX1_rowLength := goodIn_r _ [14, 1, 2, 3, 4, 5, 6, 7, 8, 9, 10, 15, 16, 17, 18, 19, 20, 21] (by decide +kernel) (by decide +kernel)
set_option maxRecDepth 20000 in
theorem gX1_bestDistance_X1_rowLength : GoodIn wsX1_bestDistance (va_wsS RX1 36 yX1_rowLength wsX1_rowLength) := goodIn_app (goodIn_of _ (by decide +kernel)) ggX1_bestDistance_X1_rowLength
theorem dX1_bestDistance_0 : decode cX1_bestDistance 0 = .ok (.sipush 258, 3) := by decide +kernel
theorem dX1_bestDistance_3 : decode cX1_bestDistance 3 = .ok (.aload_n 0, 1) := by decide +kernel
theorem dX1_bestDistance_4 : decode cX1_bestDistance 4 = .ok (.invokevirtual 14, 3) := by decide +kernel
theorem dX1_bestDistance_7 : decode cX1_bestDistance 7 = .ok (.iload_n 1, 1) := by decide +kernel
theorem dX1_bestDistance_8 : decode cX1_bestDistance 8 = .ok (.isub, 1) := by decide +kernel
theorem dX1_bestDistance_9 : decode cX1_bestDistance 9 = .ok (.invokestatic 40, 3) := by decide +kernel
theorem dX1_bestDistance_12 : decode cX1_bestDistance 12 = .ok (.istore_n 2, 1) := by decide +kernel
theorem dX1_bestDistance_13 : decode cX1_bestDistance 13 = .ok (.iconst 2, 1) := by decide +kernel
theorem dX1_bestDistance_14 : decode cX1_bestDistance 14 = .ok (.istore_n 3, 1) := by decide +kernel
theorem dX1_bestDistance_15 : decode cX1_bestDistance 15 = .ok (.iconst 0, 1) := by decide +kernel
theorem dX1_bestDistance_16 : decode cX1_bestDistance 16 = .ok (.istore 4, 2) := by decide +kernel
theorem dX1_bestDistance_18 : decode cX1_bestDistance 18 = .ok (.iconst 1, 1) := by decide +kernel
theorem dX1_bestDistance_19 : decode cX1_bestDistance 19 = .ok (.istore 5, 2) := by decide +kernel
theorem dX1_bestDistance_21 : decode cX1_bestDistance 21 = .ok (.iload 5, 2) := by decide +kernel
theorem dX1_bestDistance_23 : decode cX1_bestDistance 23 = .ok (.sipush 256, 3) := by decide +kernel
theorem dX1_bestDistance_26 : decode cX1_bestDistance 26 = .ok (.if_icmp .gt 42, 3) := by decide +kernel
theorem dX1_bestDistance_29 : decode cX1_bestDistance 29 = .ok (.iload 5, 2) := by decide +kernel
theorem dX1_bestDistance_31 : decode cX1_bestDistance 31 = .ok (.iload_n 1, 1) := by decide +kernel
theorem dX1_bestDistance_32 : decode cX1_bestDistance 32 = .ok (.if_icmp .gt 36, 3) := by decide +kernel
theorem dX1_bestDistance_35 : decode cX1_bestDistance 35 = .ok (.iload_n 3, 1) := by decide +kernel
theorem dX1_bestDistance_36 : decode cX1_bestDistance 36 = .ok (.iload_n 2, 1) := by decide +kernel
theorem dX1_bestDistance_37 : decode cX1_bestDistance 37 = .ok (.if_icmp .ge 31, 3) := by decide +kernel
theorem dX1_bestDistance_40 : decode cX1_bestDistance 40 = .ok (.aload_n 0, 1) := by decide +kernel
theorem dX1_bestDistance_41 : decode cX1_bestDistance 41 = .ok (.iload_n 1, 1) := by decide +kernel
theorem dX1_bestDistance_42 : decode cX1_bestDistance 42 = .ok (.iload 5, 2) := by decide +kernel
theorem dX1_bestDistance_44 : decode cX1_bestDistance 44 = .ok (.invokestatic 36, 3) := by decide +kernel
theorem dX1_bestDistance_47 : decode cX1_bestDistance 47 = .ok (.istore 6, 2) := by decide +kernel
theorem dX1_bestDistance_49 : decode cX1_bestDistance 49 = .ok (.iload 6, 2) := by decide +kernel
theorem dX1_bestDistance_51 : decode cX1_bestDistance 51 = .ok (.iload_n 3, 1) := by decide +kernel
theorem dX1_bestDistance_52 : decode cX1_bestDistance 52 = .ok (.if_icmp .le 10, 3) := by decide +kernel
theorem dX1_bestDistance_55 : decode cX1_bestDistance 55 = .ok (.iload 6, 2) := by decide +kernel
theorem dX1_bestDistance_57 : decode cX1_bestDistance 57 = .ok (.istore_n 3, 1) := by decide +kernel
theorem dX1_bestDistance_58 : decode cX1_bestDistance 58 = .ok (.iload 5, 2) := by decide +kernel
theorem dX1_bestDistance_60 : decode cX1_bestDistance 60 = .ok (.istore 4, 2) := by decide +kernel
theorem dX1_bestDistance_62 : decode cX1_bestDistance 62 = .ok (.iinc 5 1, 3) := by decide +kernel
theorem dX1_bestDistance_65 : decode cX1_bestDistance 65 = .ok (.goto (-44), 3) := by decide +kernel
theorem dX1_bestDistance_68 : decode cX1_bestDistance 68 = .ok (.iload 4, 2) := by decide +kernel
theorem dX1_bestDistance_70 : decode cX1_bestDistance 70 = .ok (.ireturn, 1) := by decide +kernel
set_option maxRecDepth 20000 in
theorem ggX1_rowLength_X3_size : GoodIn wsX1_rowLength wsX3_size := goodIn_r _ [9, 10, 16, 17] (by decide +kernel) (by decide +kernel)
set_option maxRecDepth 20000 in
theorem gX1_rowLength_X3_size : GoodIn wsX1_rowLength (wsV RX1 14 RX3 yX3_size wsX3_size) := goodIn_app (goodIn_of _ (by decide +kernel)) ggX1_rowLength_X3_size
set_option maxRecDepth 20000 in
theorem ggX1_rowLength_X3_at : GoodIn wsX1_rowLength wsX3_at := goodIn_r _ [14, 10, 15, 16, 17] (by decide +kernel) (by decide +kernel)
set_option maxRecDepth 20000 in
theorem gX1_rowLength_X3_at : GoodIn wsX1_rowLength (wsV RX1 32 RX3 yX3_at wsX3_at) := goodIn_app (goodIn_of _ (by decide +kernel)) ggX1_rowLength_X3_at
theorem dX1_rowLength_0 : decode cX1_rowLength 0 = .ok (.sipush 258, 3) := by decide +kernel
theorem dX1_rowLength_3 : decode cX1_rowLength 3 = .ok (.aload_n 0, 1) := by decide +kernel
theorem dX1_rowLength_4 : decode cX1_rowLength 4 = .ok (.invokevirtual 14, 3) := by decide +kernel
theorem dX1_rowLength_7 : decode cX1_rowLength 7 = .ok (.iload_n 1, 1) := by decide +kernel
theorem dX1_rowLength_8 : decode cX1_rowLength 8 = .ok (.isub, 1) := by decide +kernel
theorem dX1_rowLength_9 : decode cX1_rowLength 9 = .ok (.invokestatic 40, 3) := by decide +kernel
theorem dX1_rowLength_12 : decode cX1_rowLength 12 = .ok (.istore_n 3, 1) := by decide +kernel
theorem dX1_rowLength_13 : decode cX1_rowLength 13 = .ok (.iconst 0, 1) := by decide +kernel
theorem dX1_rowLength_14 : decode cX1_rowLength 14 = .ok (.istore 4, 2) := by decide +kernel
theorem dX1_rowLength_16 : decode cX1_rowLength 16 = .ok (.iload 4, 2) := by decide +kernel
theorem dX1_rowLength_18 : decode cX1_rowLength 18 = .ok (.iload_n 3, 1) := by decide +kernel
theorem dX1_rowLength_19 : decode cX1_rowLength 19 = .ok (.if_icmp .ge 33, 3) := by decide +kernel
theorem dX1_rowLength_22 : decode cX1_rowLength 22 = .ok (.aload_n 0, 1) := by decide +kernel
theorem dX1_rowLength_23 : decode cX1_rowLength 23 = .ok (.iload_n 1, 1) := by decide +kernel
theorem dX1_rowLength_24 : decode cX1_rowLength 24 = .ok (.iload 4, 2) := by decide +kernel
theorem dX1_rowLength_26 : decode cX1_rowLength 26 = .ok (.iadd, 1) := by decide +kernel
theorem dX1_rowLength_27 : decode cX1_rowLength 27 = .ok (.invokevirtual 32, 3) := by decide +kernel
theorem dX1_rowLength_30 : decode cX1_rowLength 30 = .ok (.aload_n 0, 1) := by decide +kernel
theorem dX1_rowLength_31 : decode cX1_rowLength 31 = .ok (.iload_n 1, 1) := by decide +kernel
theorem dX1_rowLength_32 : decode cX1_rowLength 32 = .ok (.iload 4, 2) := by decide +kernel
theorem dX1_rowLength_34 : decode cX1_rowLength 34 = .ok (.iadd, 1) := by decide +kernel
theorem dX1_rowLength_35 : decode cX1_rowLength 35 = .ok (.iload_n 2, 1) := by decide +kernel
theorem dX1_rowLength_36 : decode cX1_rowLength 36 = .ok (.isub, 1) := by decide +kernel
theorem dX1_rowLength_37 : decode cX1_rowLength 37 = .ok (.invokevirtual 32, 3) := by decide +kernel
theorem dX1_rowLength_40 : decode cX1_rowLength 40 = .ok (.if_icmp .eq 6, 3) := by decide +kernel
theorem dX1_rowLength_43 : decode cX1_rowLength 43 = .ok (.iload 4, 2) := by decide +kernel
theorem dX1_rowLength_45 : decode cX1_rowLength 45 = .ok (.ireturn, 1) := by decide +kernel
theorem dX1_rowLength_46 : decode cX1_rowLength 46 = .ok (.iinc 4 1, 3) := by decide +kernel
theorem dX1_rowLength_49 : decode cX1_rowLength 49 = .ok (.goto (-33), 3) := by decide +kernel
theorem dX1_rowLength_52 : decode cX1_rowLength 52 = .ok (.iload_n 3, 1) := by decide +kernel
theorem dX1_rowLength_53 : decode cX1_rowLength 53 = .ok (.ireturn, 1) := by decide +kernel
set_option maxRecDepth 20000 in
theorem ggX1_decode_X3_empty : GoodIn wsX1_decode wsX3_empty := goodIn_r _ [5, 6, 33, 34] (by decide +kernel) (by decide +kernel)
set_option maxRecDepth 20000 in
theorem gX1_decode_X3_empty : GoodIn wsX1_decode (wsV RX1 9 RX3 yX3_empty wsX3_empty) := goodIn_app (goodIn_of _ (by decide +kernel)) ggX1_decode_X3_empty
set_option maxRecDepth 20000 in
theorem ggX1_decode_X3_size : GoodIn wsX1_decode wsX3_size := goodIn_r _ [10, 6, 33, 34] (by decide +kernel) (by decide +kernel)
set_option maxRecDepth 20000 in
theorem gX1_decode_X3_size : GoodIn wsX1_decode (wsV RX1 14 RX3 yX3_size wsX3_size) := goodIn_app (goodIn_of _ (by decide +kernel)) ggX1_decode_X3_size
set_option maxRecDepth 20000 in
theorem ggX1_decode_X3_at : GoodIn wsX1_decode wsX3_at := goodIn_r _ [14, 6, 15, 33, 34] (by decide +kernel) (by decide +kernel)
set_option maxRecDepth 20000 in
theorem gX1_decode_X3_at : GoodIn wsX1_decode (wsV RX1 32 RX3 yX3_at wsX3_at) := goodIn_app (goodIn_of _ (by decide +kernel)) ggX1_decode_X3_at
set_option maxRecDepth 20000 in
theorem ggX1_decode_X1_decodeSingle : GoodIn wsX1_decode wsX1_decodeSingle := goodIn_r _ [19, 7, 8, 9, 4, 10, 6, 11, 12, 13, 14, 15, 20, 21, 22, 23, 33, 34] (by decide +kernel) (by decide +kernel)
set_option maxRecDepth 20000 in
theorem gX1_decode_X1_decodeSingle : GoodIn wsX1_decode (va_wsS RX1 46 yX1_decodeSingle wsX1_decodeSingle) := goodIn_app (goodIn_of _ (by decide +kernel)) ggX1_decode_X1_decodeSingle
set_option maxRecDepth 20000 in
theorem ggX1_decode_X1_decodeRow : GoodIn wsX1_decode wsX1_decodeRow := goodIn_r _ [26, 7, 8, 9, 4, 10, 6, 11, 12, 13, 14, 15, 27, 28, 29, 30, 31, 32, 21, 22, 23, 33, 34] (by decide +kernel) (by decide +kernel)
set_option maxRecDepth 20000 in
theorem gX1_decode_X1_decodeRow : GoodIn wsX1_decode (va_wsS RX1 50 yX1_decodeRow wsX1_decodeRow) := goodIn_app (goodIn_of _ (by decide +kernel)) ggX1_decode_X1_decodeRow
theorem dX1_decode_0 : decode cX1_decode 0 = .ok (.aload_n 1, 1) := by decide +kernel
theorem dX1_decode_1 : decode cX1_decode 1 = .ok (.invokevirtual 9, 3) := by decide +kernel
theorem dX1_decode_4 : decode cX1_decode 4 = .ok (.iconst 0, 1) := by decide +kernel
theorem dX1_decode_5 : decode cX1_decode 5 = .ok (.istore_n 2, 1) := by decide +kernel
theorem dX1_decode_6 : decode cX1_decode 6 = .ok (.bipush 8, 2) := by decide +kernel
theorem dX1_decode_8 : decode cX1_decode 8 = .ok (.istore_n 3, 1) := by decide +kernel
theorem dX1_decode_9 : decode cX1_decode 9 = .ok (.iconst 0, 1) := by decide +kernel
theorem dX1_decode_10 : decode cX1_decode 10 = .ok (.istore 4, 2) := by decide +kernel
theorem dX1_decode_12 : decode cX1_decode 12 = .ok (.iconst 0, 1) := by decide +kernel
theorem dX1_decode_13 : decode cX1_decode 13 = .ok (.istore 5, 2) := by decide +kernel
theorem dX1_decode_15 : decode cX1_decode 15 = .ok (.iload 5, 2) := by decide +kernel
theorem dX1_decode_17 : decode cX1_decode 17 = .ok (.aload_n 0, 1) := by decide +kernel
theorem dX1_decode_18 : decode cX1_decode 18 = .ok (.invokevirtual 14, 3) := by decide +kernel
theorem dX1_decode_21 : decode cX1_decode 21 = .ok (.if_icmp .ge 113, 3) := by decide +kernel
theorem dX1_decode_24 : decode cX1_decode 24 = .ok (.iload 5, 2) := by decide +kernel
theorem dX1_decode_26 : decode cX1_decode 26 = .ok (.iload 4, 2) := by decide +kernel
theorem dX1_decode_28 : decode cX1_decode 28 = .ok (.if_icmp .ge 6, 3) := by decide +kernel
theorem dX1_decode_31 : decode cX1_decode 31 = .ok (.goto 97, 3) := by decide +kernel
theorem dX1_decode_34 : decode cX1_decode 34 = .ok (.iload_n 3, 1) := by decide +kernel
theorem dX1_decode_35 : decode cX1_decode 35 = .ok (.bipush 8, 2) := by decide +kernel
theorem dX1_decode_37 : decode cX1_decode 37 = .ok (.if_icmp .ne 17, 3) := by decide +kernel
theorem dX1_decode_40 : decode cX1_decode 40 = .ok (.iload 5, 2) := by decide +kernel
theorem dX1_decode_42 : decode cX1_decode 42 = .ok (.istore_n 2, 1) := by decide +kernel
theorem dX1_decode_43 : decode cX1_decode 43 = .ok (.iconst 0, 1) := by decide +kernel
theorem dX1_decode_44 : decode cX1_decode 44 = .ok (.istore_n 3, 1) := by decide +kernel
theorem dX1_decode_45 : decode cX1_decode 45 = .ok (.iload 5, 2) := by decide +kernel
theorem dX1_decode_47 : decode cX1_decode 47 = .ok (.iconst 1, 1) := by decide +kernel
theorem dX1_decode_48 : decode cX1_decode 48 = .ok (.iadd, 1) := by decide +kernel
theorem dX1_decode_49 : decode cX1_decode 49 = .ok (.istore 4, 2) := by decide +kernel
theorem dX1_decode_51 : decode cX1_decode 51 = .ok (.goto 77, 3) := by decide +kernel
theorem dX1_decode_54 : decode cX1_decode 54 = .ok (.aload_n 0, 1) := by decide +kernel
theorem dX1_decode_55 : decode cX1_decode 55 = .ok (.iload_n 2, 1) := by decide +kernel
theorem dX1_decode_56 : decode cX1_decode 56 = .ok (.invokevirtual 32, 3) := by decide +kernel
theorem dX1_decode_59 : decode cX1_decode 59 = .ok (.iload_n 3, 1) := by decide +kernel
theorem dX1_decode_60 : decode cX1_decode 60 = .ok (.ishr, 1) := by decide +kernel
theorem dX1_decode_61 : decode cX1_decode 61 = .ok (.iconst 1, 1) := by decide +kernel
theorem dX1_decode_62 : decode cX1_decode 62 = .ok (.iand, 1) := by decide +kernel
theorem dX1_decode_63 : decode cX1_decode 63 = .ok (.iconst 1, 1) := by decide +kernel
theorem dX1_decode_64 : decode cX1_decode 64 = .ok (.if_icmp .ne 7, 3) := by decide +kernel
theorem dX1_decode_67 : decode cX1_decode 67 = .ok (.iconst 1, 1) := by decide +kernel
theorem dX1_decode_68 : decode cX1_decode 68 = .ok (.goto 4, 3) := by decide +kernel
theorem dX1_decode_71 : decode cX1_decode 71 = .ok (.iconst 0, 1) := by decide +kernel
theorem dX1_decode_72 : decode cX1_decode 72 = .ok (.istore 6, 2) := by decide +kernel
theorem dX1_decode_74 : decode cX1_decode 74 = .ok (.iload 6, 2) := by decide +kernel
theorem dX1_decode_76 : decode cX1_decode 76 = .ok (.ifCond .eq 13, 3) := by decide +kernel
theorem dX1_decode_79 : decode cX1_decode 79 = .ok (.aload_n 0, 1) := by decide +kernel
theorem dX1_decode_80 : decode cX1_decode 80 = .ok (.iload 5, 2) := by decide +kernel
theorem dX1_decode_82 : decode cX1_decode 82 = .ok (.aload_n 1, 1) := by decide +kernel
theorem dX1_decode_83 : decode cX1_decode 83 = .ok (.invokestatic 46, 3) := by decide +kernel
theorem dX1_decode_86 : decode cX1_decode 86 = .ok (.goto 10, 3) := by decide +kernel
theorem dX1_decode_89 : decode cX1_decode 89 = .ok (.aload_n 0, 1) := by decide +kernel
theorem dX1_decode_90 : decode cX1_decode 90 = .ok (.iload 5, 2) := by decide +kernel
theorem dX1_decode_92 : decode cX1_decode 92 = .ok (.aload_n 1, 1) := by decide +kernel
theorem dX1_decode_93 : decode cX1_decode 93 = .ok (.invokestatic 50, 3) := by decide +kernel
theorem dX1_decode_96 : decode cX1_decode 96 = .ok (.istore 7, 2) := by decide +kernel
theorem dX1_decode_98 : decode cX1_decode 98 = .ok (.iload 7, 2) := by decide +kernel
theorem dX1_decode_100 : decode cX1_decode 100 = .ok (.iconst (-1), 1) := by decide +kernel
theorem dX1_decode_101 : decode cX1_decode 101 = .ok (.if_icmp .eq 6, 3) := by decide +kernel
theorem dX1_decode_104 : decode cX1_decode 104 = .ok (.iload 7, 2) := by decide +kernel
theorem dX1_decode_106 : decode cX1_decode 106 = .ok (.ireturn, 1) := by decide +kernel
theorem dX1_decode_107 : decode cX1_decode 107 = .ok (.iload 6, 2) := by decide +kernel
theorem dX1_decode_109 : decode cX1_decode 109 = .ok (.ifCond .eq 10, 3) := by decide +kernel
theorem dX1_decode_112 : decode cX1_decode 112 = .ok (.iload 5, 2) := by decide +kernel
theorem dX1_decode_114 : decode cX1_decode 114 = .ok (.iconst 1, 1) := by decide +kernel
theorem dX1_decode_115 : decode cX1_decode 115 = .ok (.iadd, 1) := by decide +kernel
theorem dX1_decode_116 : decode cX1_decode 116 = .ok (.goto 7, 3) := by decide +kernel
theorem dX1_decode_119 : decode cX1_decode 119 = .ok (.iload 5, 2) := by decide +kernel
theorem dX1_decode_121 : decode cX1_decode 121 = .ok (.iconst 2, 1) := by decide +kernel
theorem dX1_decode_122 : decode cX1_decode 122 = .ok (.iadd, 1) := by decide +kernel
theorem dX1_decode_123 : decode cX1_decode 123 = .ok (.istore 4, 2) := by decide +kernel
theorem dX1_decode_125 : decode cX1_decode 125 = .ok (.iinc 3 1, 3) := by decide +kernel
theorem dX1_decode_128 : decode cX1_decode 128 = .ok (.iinc 5 1, 3) := by decide +kernel
theorem dX1_decode_131 : decode cX1_decode 131 = .ok (.goto (-116), 3) := by decide +kernel
theorem dX1_decode_134 : decode cX1_decode 134 = .ok (.iload_n 3, 1) := by decide +kernel
theorem dX1_decode_135 : decode cX1_decode 135 = .ok (.ifCond .ne 10, 3) := by decide +kernel
theorem dX1_decode_138 : decode cX1_decode 138 = .ok (.aload_n 0, 1) := by decide +kernel
theorem dX1_decode_139 : decode cX1_decode 139 = .ok (.invokevirtual 14, 3) := by decide +kernel
theorem dX1_decode_142 : decode cX1_decode 142 = .ok (.ifCond .gt 13, 3) := by decide +kernel
theorem dX1_decode_145 : decode cX1_decode 145 = .ok (.aload_n 0, 1) := by decide +kernel
theorem dX1_decode_146 : decode cX1_decode 146 = .ok (.iload_n 2, 1) := by decide +kernel
theorem dX1_decode_147 : decode cX1_decode 147 = .ok (.invokevirtual 32, 3) := by decide +kernel
theorem dX1_decode_150 : decode cX1_decode 150 = .ok (.iload_n 3, 1) := by decide +kernel
theorem dX1_decode_151 : decode cX1_decode 151 = .ok (.ishr, 1) := by decide +kernel
theorem dX1_decode_152 : decode cX1_decode 152 = .ok (.ifCond .eq 7, 3) := by decide +kernel
theorem dX1_decode_155 : decode cX1_decode 155 = .ok (.iconst 1, 1) := by decide +kernel
theorem dX1_decode_156 : decode cX1_decode 156 = .ok (.goto 4, 3) := by decide +kernel
theorem dX1_decode_159 : decode cX1_decode 159 = .ok (.iconst 0, 1) := by decide +kernel
theorem dX1_decode_160 : decode cX1_decode 160 = .ok (.istore 5, 2) := by decide +kernel
theorem dX1_decode_162 : decode cX1_decode 162 = .ok (.iload 5, 2) := by decide +kernel
theorem dX1_decode_164 : decode cX1_decode 164 = .ok (.ifCond .eq 7, 3) := by decide +kernel
theorem dX1_decode_167 : decode cX1_decode 167 = .ok (.iload_n 2, 1) := by decide +kernel
theorem dX1_decode_168 : decode cX1_decode 168 = .ok (.goto 4, 3) := by decide +kernel
theorem dX1_decode_171 : decode cX1_decode 171 = .ok (.iconst (-1), 1) := by decide +kernel
theorem dX1_decode_172 : decode cX1_decode 172 = .ok (.ireturn, 1) := by decide +kernel
set_option maxRecDepth 20000 in
theorem ggX1_decodeSingle_X3_size : GoodIn wsX1_decodeSingle wsX3_size := goodIn_r _ [5, 6, 16, 17] (by decide +kernel) (by decide +kernel)
set_option maxRecDepth 20000 in
theorem gX1_decodeSingle_X3_size : GoodIn wsX1_decodeSingle (wsV RX1 14 RX3 yX3_size wsX3_size) := goodIn_app (goodIn_of _ (by decide +kernel)) ggX1_decodeSingle_X3_size
set_option maxRecDepth 20000 in
theorem ggX1_decodeSingle_X3_at : GoodIn wsX1_decodeSingle wsX3_at := goodIn_r _ [10, 6, 11, 16, 17] (by decide +kernel) (by decide +kernel)
set_option maxRecDepth 20000 in
theorem gX1_decodeSingle_X3_at : GoodIn wsX1_decodeSingle (wsV RX1 32 RX3 yX3_at wsX3_at) := goodIn_app (goodIn_of _ (by decide +kernel)) ggX1_decodeSingle_X3_at
set_option maxRecDepth 20000 in
theorem ggX1_decodeSingle_X3_append : GoodIn wsX1_decodeSingle wsX3_append := goodIn_r _ [15, 6, 11, 16, 17] (by decide +kernel) (by decide +kernel)
set_option maxRecDepth 20000 in
theorem gX1_decodeSingle_X3_append : GoodIn wsX1_decodeSingle (wsV RX1 18 RX3 yX3_append wsX3_append) := goodIn_app (goodIn_of _ (by decide +kernel)) ggX1_decodeSingle_X3_append
theorem dX1_decodeSingle_0 : decode cX1_decodeSingle 0 = .ok (.aload_n 2, 1) := by decide +kernel
theorem dX1_decodeSingle_1 : decode cX1_decodeSingle 1 = .ok (.invokevirtual 14, 3) := by decide +kernel
theorem dX1_decodeSingle_4 : decode cX1_decodeSingle 4 = .ok (.iconst 1, 1) := by decide +kernel
theorem dX1_decodeSingle_5 : decode cX1_decodeSingle 5 = .ok (.iadd, 1) := by decide +kernel
theorem dX1_decodeSingle_6 : decode cX1_decodeSingle 6 = .ok (.sipush 400, 3) := by decide +kernel
theorem dX1_decodeSingle_9 : decode cX1_decodeSingle 9 = .ok (.if_icmp .le 5, 3) := by decide +kernel
theorem dX1_decodeSingle_12 : decode cX1_decodeSingle 12 = .ok (.iload_n 1, 1) := by decide +kernel
theorem dX1_decodeSingle_13 : decode cX1_decodeSingle 13 = .ok (.ireturn, 1) := by decide +kernel
theorem dX1_decodeSingle_14 : decode cX1_decodeSingle 14 = .ok (.aload_n 2, 1) := by decide +kernel
theorem dX1_decodeSingle_15 : decode cX1_decodeSingle 15 = .ok (.aload_n 0, 1) := by decide +kernel
theorem dX1_decodeSingle_16 : decode cX1_decodeSingle 16 = .ok (.iload_n 1, 1) := by decide +kernel
theorem dX1_decodeSingle_17 : decode cX1_decodeSingle 17 = .ok (.invokevirtual 32, 3) := by decide +kernel
theorem dX1_decodeSingle_20 : decode cX1_decodeSingle 20 = .ok (.invokevirtual 18, 3) := by decide +kernel
theorem dX1_decodeSingle_23 : decode cX1_decodeSingle 23 = .ok (.iconst (-1), 1) := by decide +kernel
theorem dX1_decodeSingle_24 : decode cX1_decodeSingle 24 = .ok (.ireturn, 1) := by decide +kernel
set_option maxRecDepth 20000 in
theorem ggX1_decodeRow_X3_size : GoodIn wsX1_decodeRow wsX3_size := goodIn_r _ [5, 6, 21, 22] (by decide +kernel) (by decide +kernel)
set_option maxRecDepth 20000 in
theorem gX1_decodeRow_X3_size : GoodIn wsX1_decodeRow (wsV RX1 14 RX3 yX3_size wsX3_size) := goodIn_app (goodIn_of _ (by decide +kernel)) ggX1_decodeRow_X3_size
set_option maxRecDepth 20000 in
theorem ggX1_decodeRow_X3_at : GoodIn wsX1_decodeRow wsX3_at := goodIn_r _ [10, 6, 11, 21, 22] (by decide +kernel) (by decide +kernel)
set_option maxRecDepth 20000 in
theorem gX1_decodeRow_X3_at : GoodIn wsX1_decodeRow (wsV RX1 32 RX3 yX3_at wsX3_at) := goodIn_app (goodIn_of _ (by decide +kernel)) ggX1_decodeRow_X3_at
set_option maxRecDepth 20000 in
theorem ggX1_decodeRow_X3_repeat : GoodIn wsX1_decodeRow wsX3_repeat := goodIn_r _ [15, 6, 16, 8, 9, 4, 10, 11, 17, 18, 19, 20, 21, 22] (by decide +kernel) (by decide +kernel)
set_option maxRecDepth 20000 in
theorem gX1_decodeRow_X3_repeat : GoodIn wsX1_decodeRow (wsV RX1 53 RX3 yX3_repeat wsX3_repeat) := goodIn_app (goodIn_of _ (by decide +kernel)) ggX1_decodeRow_X3_repeat
theorem dX1_decodeRow_0 : decode cX1_decodeRow 0 = .ok (.iload_n 1, 1) := by decide +kernel
theorem dX1_decodeRow_1 : decode cX1_decodeRow 1 = .ok (.iconst 1, 1) := by decide +kernel
theorem dX1_decodeRow_2 : decode cX1_decodeRow 2 = .ok (.iadd, 1) := by decide +kernel
theorem dX1_decodeRow_3 : decode cX1_decodeRow 3 = .ok (.aload_n 0, 1) := by decide +kernel
theorem dX1_decodeRow_4 : decode cX1_decodeRow 4 = .ok (.invokevirtual 14, 3) := by decide +kernel
theorem dX1_decodeRow_7 : decode cX1_decodeRow 7 = .ok (.if_icmp .lt 8, 3) := by decide +kernel
theorem dX1_decodeRow_10 : decode cX1_decodeRow 10 = .ok (.aload_n 0, 1) := by decide +kernel
theorem dX1_decodeRow_11 : decode cX1_decodeRow 11 = .ok (.invokevirtual 14, 3) := by decide +kernel
theorem dX1_decodeRow_14 : decode cX1_decodeRow 14 = .ok (.ireturn, 1) := by decide +kernel
theorem dX1_decodeRow_15 : decode cX1_decodeRow 15 = .ok (.aload_n 0, 1) := by decide +kernel
theorem dX1_decodeRow_16 : decode cX1_decodeRow 16 = .ok (.iload_n 1, 1) := by decide +kernel
theorem dX1_decodeRow_17 : decode cX1_decodeRow 17 = .ok (.invokevirtual 32, 3) := by decide +kernel
theorem dX1_decodeRow_20 : decode cX1_decodeRow 20 = .ok (.iconst 1, 1) := by decide +kernel
theorem dX1_decodeRow_21 : decode cX1_decodeRow 21 = .ok (.iadd, 1) := by decide +kernel
theorem dX1_decodeRow_22 : decode cX1_decodeRow 22 = .ok (.istore_n 3, 1) := by decide +kernel
theorem dX1_decodeRow_23 : decode cX1_decodeRow 23 = .ok (.aload_n 0, 1) := by decide +kernel
theorem dX1_decodeRow_24 : decode cX1_decodeRow 24 = .ok (.iload_n 1, 1) := by decide +kernel
theorem dX1_decodeRow_25 : decode cX1_decodeRow 25 = .ok (.iconst 1, 1) := by decide +kernel
theorem dX1_decodeRow_26 : decode cX1_decodeRow 26 = .ok (.iadd, 1) := by decide +kernel
theorem dX1_decodeRow_27 : decode cX1_decodeRow 27 = .ok (.invokevirtual 32, 3) := by decide +kernel
theorem dX1_decodeRow_30 : decode cX1_decodeRow 30 = .ok (.iconst 3, 1) := by decide +kernel
theorem dX1_decodeRow_31 : decode cX1_decodeRow 31 = .ok (.iadd, 1) := by decide +kernel
theorem dX1_decodeRow_32 : decode cX1_decodeRow 32 = .ok (.istore 4, 2) := by decide +kernel
theorem dX1_decodeRow_34 : decode cX1_decodeRow 34 = .ok (.iload_n 3, 1) := by decide +kernel
theorem dX1_decodeRow_35 : decode cX1_decodeRow 35 = .ok (.aload_n 2, 1) := by decide +kernel
theorem dX1_decodeRow_36 : decode cX1_decodeRow 36 = .ok (.invokevirtual 14, 3) := by decide +kernel
theorem dX1_decodeRow_39 : decode cX1_decodeRow 39 = .ok (.if_icmp .gt 16, 3) := by decide +kernel
theorem dX1_decodeRow_42 : decode cX1_decodeRow 42 = .ok (.aload_n 2, 1) := by decide +kernel
theorem dX1_decodeRow_43 : decode cX1_decodeRow 43 = .ok (.invokevirtual 14, 3) := by decide +kernel
theorem dX1_decodeRow_46 : decode cX1_decodeRow 46 = .ok (.iload 4, 2) := by decide +kernel
theorem dX1_decodeRow_48 : decode cX1_decodeRow 48 = .ok (.iadd, 1) := by decide +kernel
theorem dX1_decodeRow_49 : decode cX1_decodeRow 49 = .ok (.sipush 400, 3) := by decide +kernel
theorem dX1_decodeRow_52 : decode cX1_decodeRow 52 = .ok (.if_icmp .le 5, 3) := by decide +kernel
theorem dX1_decodeRow_55 : decode cX1_decodeRow 55 = .ok (.iload_n 1, 1) := by decide +kernel
theorem dX1_decodeRow_56 : decode cX1_decodeRow 56 = .ok (.ireturn, 1) := by decide +kernel
theorem dX1_decodeRow_57 : decode cX1_decodeRow 57 = .ok (.aload_n 2, 1) := by decide +kernel
theorem dX1_decodeRow_58 : decode cX1_decodeRow 58 = .ok (.iload_n 3, 1) := by decide +kernel
theorem dX1_decodeRow_59 : decode cX1_decodeRow 59 = .ok (.iload 4, 2) := by decide +kernel
theorem dX1_decodeRow_61 : decode cX1_decodeRow 61 = .ok (.invokevirtual 53, 3) := by decide +kernel
theorem dX1_decodeRow_64 : decode cX1_decodeRow 64 = .ok (.iconst (-1), 1) := by decide +kernel
theorem dX1_decodeRow_65 : decode cX1_decodeRow 65 = .ok (.ireturn, 1) := by decide +kernel
theorem dX2_init_0 : decode cX2_init 0 = .ok (.aload_n 0, 1) := by decide +kernel
theorem dX2_init_1 : decode cX2_init 1 = .ok (.invokespecial 3, 3) := by decide +kernel
theorem dX2_init_4 : decode cX2_init 4 = .ok (.aload_n 0, 1) := by decide +kernel
theorem dX2_init_5 : decode cX2_init 5 = .ok (.sipush 512, 3) := by decide +kernel
theorem dX2_init_8 : decode cX2_init 8 = .ok (.newarray .int, 2) := by decide +kernel
theorem dX2_init_10 : decode cX2_init 10 = .ok (.putfield 9, 3) := by decide +kernel
theorem dX2_init_13 : decode cX2_init 13 = .ok (.aload_n 0, 1) := by decide +kernel
theorem dX2_init_14 : decode cX2_init 14 = .ok (.iconst 1, 1) := by decide +kernel
theorem dX2_init_15 : decode cX2_init 15 = .ok (.putfield 15, 3) := by decide +kernel
theorem dX2_init_18 : decode cX2_init 18 = .ok (.aload_n 0, 1) := by decide +kernel
theorem dX2_init_19 : decode cX2_init 19 = .ok (.iconst (-1), 1) := by decide +kernel
theorem dX2_init_20 : decode cX2_init 20 = .ok (.putfield 19, 3) := by decide +kernel
theorem dX2_init_23 : decode cX2_init 23 = .ok (.return_, 1) := by decide +kernel
theorem dX2_isOn_0 : decode cX2_isOn 0 = .ok (.aload_n 0, 1) := by decide +kernel
theorem dX2_isOn_1 : decode cX2_isOn 1 = .ok (.getfield 15, 3) := by decide +kernel
theorem dX2_isOn_4 : decode cX2_isOn 4 = .ok (.ireturn, 1) := by decide +kernel
theorem dX2_switchOn_0 : decode cX2_switchOn 0 = .ok (.aload_n 0, 1) := by decide +kernel
theorem dX2_switchOn_1 : decode cX2_switchOn 1 = .ok (.iconst 1, 1) := by decide +kernel
theorem dX2_switchOn_2 : decode cX2_switchOn 2 = .ok (.putfield 15, 3) := by decide +kernel
theorem dX2_switchOn_5 : decode cX2_switchOn 5 = .ok (.aload_n 0, 1) := by decide +kernel
theorem dX2_switchOn_6 : decode cX2_switchOn 6 = .ok (.iconst (-1), 1) := by decide +kernel
theorem dX2_switchOn_7 : decode cX2_switchOn 7 = .ok (.putfield 19, 3) := by decide +kernel
theorem dX2_switchOn_10 : decode cX2_switchOn 10 = .ok (.return_, 1) := by decide +kernel
theorem dX2_allowWrites_0 : decode cX2_allowWrites 0 = .ok (.aload_n 0, 1) := by decide +kernel
theorem dX2_allowWrites_1 : decode cX2_allowWrites 1 = .ok (.iload_n 1, 1) := by decide +kernel
theorem dX2_allowWrites_2 : decode cX2_allowWrites 2 = .ok (.putfield 19, 3) := by decide +kernel
theorem dX2_allowWrites_5 : decode cX2_allowWrites 5 = .ok (.return_, 1) := by decide +kernel
theorem dX2_writesLeft_0 : decode cX2_writesLeft 0 = .ok (.aload_n 0, 1) := by decide +kernel
theorem dX2_writesLeft_1 : decode cX2_writesLeft 1 = .ok (.getfield 19, 3) := by decide +kernel
theorem dX2_writesLeft_4 : decode cX2_writesLeft 4 = .ok (.ireturn, 1) := by decide +kernel
theorem dX2_writesDone_0 : decode cX2_writesDone 0 = .ok (.aload_n 0, 1) := by decide +kernel
theorem dX2_writesDone_1 : decode cX2_writesDone 1 = .ok (.getfield 23, 3) := by decide +kernel
theorem dX2_writesDone_4 : decode cX2_writesDone 4 = .ok (.ireturn, 1) := by decide +kernel
theorem dX2_write_0 : decode cX2_write 0 = .ok (.aload_n 0, 1) := by decide +kernel
theorem dX2_write_1 : decode cX2_write 1 = .ok (.getfield 15, 3) := by decide +kernel
theorem dX2_write_4 : decode cX2_write 4 = .ok (.ifCond .eq 24, 3) := by decide +kernel
theorem dX2_write_7 : decode cX2_write 7 = .ok (.iload_n 1, 1) := by decide +kernel
theorem dX2_write_8 : decode cX2_write 8 = .ok (.ifCond .lt 20, 3) := by decide +kernel
theorem dX2_write_11 : decode cX2_write 11 = .ok (.iload_n 1, 1) := by decide +kernel
theorem dX2_write_12 : decode cX2_write 12 = .ok (.bipush 64, 2) := by decide +kernel
theorem dX2_write_14 : decode cX2_write 14 = .ok (.if_icmp .ge 14, 3) := by decide +kernel
theorem dX2_write_17 : decode cX2_write 17 = .ok (.aload_n 2, 1) := by decide +kernel
theorem dX2_write_18 : decode cX2_write 18 = .ok (.ifnull 10, 3) := by decide +kernel
theorem dX2_write_21 : decode cX2_write 21 = .ok (.aload_n 2, 1) := by decide +kernel
theorem dX2_write_22 : decode cX2_write 22 = .ok (.arraylength, 1) := by decide +kernel
theorem dX2_write_23 : decode cX2_write 23 = .ok (.bipush 8, 2) := by decide +kernel
theorem dX2_write_25 : decode cX2_write 25 = .ok (.if_icmp .ge 5, 3) := by decide +kernel
theorem dX2_write_28 : decode cX2_write 28 = .ok (.iconst 0, 1) := by decide +kernel
theorem dX2_write_29 : decode cX2_write 29 = .ok (.ireturn, 1) := by decide +kernel
theorem dX2_write_30 : decode cX2_write 30 = .ok (.aload_n 0, 1) := by decide +kernel
theorem dX2_write_31 : decode cX2_write 31 = .ok (.getfield 19, 3) := by decide +kernel
theorem dX2_write_34 : decode cX2_write 34 = .ok (.ifCond .ne 10, 3) := by decide +kernel
theorem dX2_write_37 : decode cX2_write 37 = .ok (.aload_n 0, 1) := by decide +kernel
theorem dX2_write_38 : decode cX2_write 38 = .ok (.iconst 0, 1) := by decide +kernel
theorem dX2_write_39 : decode cX2_write 39 = .ok (.putfield 15, 3) := by decide +kernel
theorem dX2_write_42 : decode cX2_write 42 = .ok (.iconst 0, 1) := by decide +kernel
theorem dX2_write_43 : decode cX2_write 43 = .ok (.ireturn, 1) := by decide +kernel
theorem dX2_write_44 : decode cX2_write 44 = .ok (.iconst 0, 1) := by decide +kernel
theorem dX2_write_45 : decode cX2_write 45 = .ok (.istore_n 3, 1) := by decide +kernel
theorem dX2_write_46 : decode cX2_write 46 = .ok (.iload_n 3, 1) := by decide +kernel
theorem dX2_write_47 : decode cX2_write 47 = .ok (.bipush 8, 2) := by decide +kernel
theorem dX2_write_49 : decode cX2_write 49 = .ok (.if_icmp .ge 23, 3) := by decide +kernel
theorem dX2_write_52 : decode cX2_write 52 = .ok (.aload_n 0, 1) := by decide +kernel
theorem dX2_write_53 : decode cX2_write 53 = .ok (.getfield 9, 3) := by decide +kernel
theorem dX2_write_56 : decode cX2_write 56 = .ok (.iload_n 1, 1) := by decide +kernel
theorem dX2_write_57 : decode cX2_write 57 = .ok (.bipush 8, 2) := by decide +kernel
theorem dX2_write_59 : decode cX2_write 59 = .ok (.imul, 1) := by decide +kernel
theorem dX2_write_60 : decode cX2_write 60 = .ok (.iload_n 3, 1) := by decide +kernel
theorem dX2_write_61 : decode cX2_write 61 = .ok (.iadd, 1) := by decide +kernel
theorem dX2_write_62 : decode cX2_write 62 = .ok (.aload_n 2, 1) := by decide +kernel
theorem dX2_write_63 : decode cX2_write 63 = .ok (.iload_n 3, 1) := by decide +kernel
theorem dX2_write_64 : decode cX2_write 64 = .ok (.iaload, 1) := by decide +kernel
theorem dX2_write_65 : decode cX2_write 65 = .ok (.iastore, 1) := by decide +kernel
theorem dX2_write_66 : decode cX2_write 66 = .ok (.iinc 3 1, 3) := by decide +kernel
theorem dX2_write_69 : decode cX2_write 69 = .ok (.goto (-23), 3) := by decide +kernel
theorem dX2_write_72 : decode cX2_write 72 = .ok (.aload_n 0, 1) := by decide +kernel
theorem dX2_write_73 : decode cX2_write 73 = .ok (.getfield 19, 3) := by decide +kernel
theorem dX2_write_76 : decode cX2_write 76 = .ok (.ifCond .le 13, 3) := by decide +kernel
theorem dX2_write_79 : decode cX2_write 79 = .ok (.aload_n 0, 1) := by decide +kernel
theorem dX2_write_80 : decode cX2_write 80 = .ok (.dup, 1) := by decide +kernel
theorem dX2_write_81 : decode cX2_write 81 = .ok (.getfield 19, 3) := by decide +kernel
theorem dX2_write_84 : decode cX2_write 84 = .ok (.iconst 1, 1) := by decide +kernel
theorem dX2_write_85 : decode cX2_write 85 = .ok (.isub, 1) := by decide +kernel
theorem dX2_write_86 : decode cX2_write 86 = .ok (.putfield 19, 3) := by decide +kernel
theorem dX2_write_89 : decode cX2_write 89 = .ok (.aload_n 0, 1) := by decide +kernel
theorem dX2_write_90 : decode cX2_write 90 = .ok (.dup, 1) := by decide +kernel
theorem dX2_write_91 : decode cX2_write 91 = .ok (.getfield 23, 3) := by decide +kernel
theorem dX2_write_94 : decode cX2_write 94 = .ok (.iconst 1, 1) := by decide +kernel
theorem dX2_write_95 : decode cX2_write 95 = .ok (.iadd, 1) := by decide +kernel
theorem dX2_write_96 : decode cX2_write 96 = .ok (.putfield 23, 3) := by decide +kernel
theorem dX2_write_99 : decode cX2_write 99 = .ok (.iconst 1, 1) := by decide +kernel
theorem dX2_write_100 : decode cX2_write 100 = .ok (.ireturn, 1) := by decide +kernel
theorem dX2_wordAt_0 : decode cX2_wordAt 0 = .ok (.iload_n 1, 1) := by decide +kernel
theorem dX2_wordAt_1 : decode cX2_wordAt 1 = .ok (.ifCond .lt 19, 3) := by decide +kernel
theorem dX2_wordAt_4 : decode cX2_wordAt 4 = .ok (.iload_n 1, 1) := by decide +kernel
theorem dX2_wordAt_5 : decode cX2_wordAt 5 = .ok (.bipush 64, 2) := by decide +kernel
theorem dX2_wordAt_7 : decode cX2_wordAt 7 = .ok (.if_icmp .ge 13, 3) := by decide +kernel
theorem dX2_wordAt_10 : decode cX2_wordAt 10 = .ok (.iload_n 2, 1) := by decide +kernel
theorem dX2_wordAt_11 : decode cX2_wordAt 11 = .ok (.ifCond .lt 9, 3) := by decide +kernel
theorem dX2_wordAt_14 : decode cX2_wordAt 14 = .ok (.iload_n 2, 1) := by decide +kernel
theorem dX2_wordAt_15 : decode cX2_wordAt 15 = .ok (.bipush 8, 2) := by decide +kernel
theorem dX2_wordAt_17 : decode cX2_wordAt 17 = .ok (.if_icmp .lt 5, 3) := by decide +kernel
theorem dX2_wordAt_20 : decode cX2_wordAt 20 = .ok (.iconst 0, 1) := by decide +kernel
theorem dX2_wordAt_21 : decode cX2_wordAt 21 = .ok (.ireturn, 1) := by decide +kernel
theorem dX2_wordAt_22 : decode cX2_wordAt 22 = .ok (.aload_n 0, 1) := by decide +kernel
theorem dX2_wordAt_23 : decode cX2_wordAt 23 = .ok (.getfield 9, 3) := by decide +kernel
theorem dX2_wordAt_26 : decode cX2_wordAt 26 = .ok (.iload_n 1, 1) := by decide +kernel
theorem dX2_wordAt_27 : decode cX2_wordAt 27 = .ok (.bipush 8, 2) := by decide +kernel
theorem dX2_wordAt_29 : decode cX2_wordAt 29 = .ok (.imul, 1) := by decide +kernel
theorem dX2_wordAt_30 : decode cX2_wordAt 30 = .ok (.iload_n 2, 1) := by decide +kernel
theorem dX2_wordAt_31 : decode cX2_wordAt 31 = .ok (.iadd, 1) := by decide +kernel
theorem dX2_wordAt_32 : decode cX2_wordAt 32 = .ok (.iaload, 1) := by decide +kernel
theorem dX2_wordAt_33 : decode cX2_wordAt 33 = .ok (.ireturn, 1) := by decide +kernel
set_option maxRecDepth 20000 in
theorem ggX2_numberOf_X2_wordAt : GoodIn wsX2_numberOf wsX2_wordAt := goodIn_r _ [5, 6, 7, 8, 9, 10] (by decide +kernel) (by decide +kernel)
set_option maxRecDepth 20000 in
theorem gX2_numberOf_X2_wordAt : GoodIn wsX2_numberOf (wsV RX2 26 RX2 yX2_wordAt wsX2_wordAt) := goodIn_app (goodIn_of _ (by decide +kernel)) ggX2_numberOf_X2_wordAt
theorem dX2_numberOf_0 : decode cX2_numberOf 0 = .ok (.aload_n 0, 1) := by decide +kernel
theorem dX2_numberOf_1 : decode cX2_numberOf 1 = .ok (.iload_n 1, 1) := by decide +kernel
theorem dX2_numberOf_2 : decode cX2_numberOf 2 = .ok (.iconst 0, 1) := by decide +kernel
theorem dX2_numberOf_3 : decode cX2_numberOf 3 = .ok (.invokevirtual 26, 3) := by decide +kernel
theorem dX2_numberOf_6 : decode cX2_numberOf 6 = .ok (.ireturn, 1) := by decide +kernel
set_option maxRecDepth 20000 in
theorem ggX2_partOf_X2_wordAt : GoodIn wsX2_partOf wsX2_wordAt := goodIn_r _ [5, 6, 7, 8, 9, 10] (by decide +kernel) (by decide +kernel)
set_option maxRecDepth 20000 in
theorem gX2_partOf_X2_wordAt : GoodIn wsX2_partOf (wsV RX2 26 RX2 yX2_wordAt wsX2_wordAt) := goodIn_app (goodIn_of _ (by decide +kernel)) ggX2_partOf_X2_wordAt
theorem dX2_partOf_0 : decode cX2_partOf 0 = .ok (.aload_n 0, 1) := by decide +kernel
theorem dX2_partOf_1 : decode cX2_partOf 1 = .ok (.iload_n 1, 1) := by decide +kernel
theorem dX2_partOf_2 : decode cX2_partOf 2 = .ok (.iconst 1, 1) := by decide +kernel
theorem dX2_partOf_3 : decode cX2_partOf 3 = .ok (.invokevirtual 26, 3) := by decide +kernel
theorem dX2_partOf_6 : decode cX2_partOf 6 = .ok (.sipush 255, 3) := by decide +kernel
theorem dX2_partOf_9 : decode cX2_partOf 9 = .ok (.iand, 1) := by decide +kernel
theorem dX2_partOf_10 : decode cX2_partOf 10 = .ok (.ireturn, 1) := by decide +kernel
set_option maxRecDepth 20000 in
theorem ggX2_partsOf_X2_wordAt : GoodIn wsX2_partsOf wsX2_wordAt := goodIn_r _ [5, 6, 7, 8, 9, 10] (by decide +kernel) (by decide +kernel)
set_option maxRecDepth 20000 in
theorem gX2_partsOf_X2_wordAt : GoodIn wsX2_partsOf (wsV RX2 26 RX2 yX2_wordAt wsX2_wordAt) := goodIn_app (goodIn_of _ (by decide +kernel)) ggX2_partsOf_X2_wordAt
theorem dX2_partsOf_0 : decode cX2_partsOf 0 = .ok (.aload_n 0, 1) := by decide +kernel
theorem dX2_partsOf_1 : decode cX2_partsOf 1 = .ok (.iload_n 1, 1) := by decide +kernel
theorem dX2_partsOf_2 : decode cX2_partsOf 2 = .ok (.iconst 1, 1) := by decide +kernel
theorem dX2_partsOf_3 : decode cX2_partsOf 3 = .ok (.invokevirtual 26, 3) := by decide +kernel
theorem dX2_partsOf_6 : decode cX2_partsOf 6 = .ok (.bipush 8, 2) := by decide +kernel
theorem dX2_partsOf_8 : decode cX2_partsOf 8 = .ok (.ishr, 1) := by decide +kernel
theorem dX2_partsOf_9 : decode cX2_partsOf 9 = .ok (.sipush 255, 3) := by decide +kernel
theorem dX2_partsOf_12 : decode cX2_partsOf 12 = .ok (.iand, 1) := by decide +kernel
theorem dX2_partsOf_13 : decode cX2_partsOf 13 = .ok (.ireturn, 1) := by decide +kernel
set_option maxRecDepth 20000 in
theorem ggX2_formOf_X2_wordAt : GoodIn wsX2_formOf wsX2_wordAt := goodIn_r _ [5, 6, 7, 8, 9, 10] (by decide +kernel) (by decide +kernel)
set_option maxRecDepth 20000 in
theorem gX2_formOf_X2_wordAt : GoodIn wsX2_formOf (wsV RX2 26 RX2 yX2_wordAt wsX2_wordAt) := goodIn_app (goodIn_of _ (by decide +kernel)) ggX2_formOf_X2_wordAt
theorem dX2_formOf_0 : decode cX2_formOf 0 = .ok (.aload_n 0, 1) := by decide +kernel
theorem dX2_formOf_1 : decode cX2_formOf 1 = .ok (.iload_n 1, 1) := by decide +kernel
theorem dX2_formOf_2 : decode cX2_formOf 2 = .ok (.iconst 1, 1) := by decide +kernel
theorem dX2_formOf_3 : decode cX2_formOf 3 = .ok (.invokevirtual 26, 3) := by decide +kernel
theorem dX2_formOf_6 : decode cX2_formOf 6 = .ok (.bipush 16, 2) := by decide +kernel
theorem dX2_formOf_8 : decode cX2_formOf 8 = .ok (.ishr, 1) := by decide +kernel
theorem dX2_formOf_9 : decode cX2_formOf 9 = .ok (.ireturn, 1) := by decide +kernel
set_option maxRecDepth 20000 in
theorem ggX2_keyOf_X2_wordAt : GoodIn wsX2_keyOf wsX2_wordAt := goodIn_r _ [5, 6, 7, 8, 9, 10] (by decide +kernel) (by decide +kernel)
set_option maxRecDepth 20000 in
theorem gX2_keyOf_X2_wordAt : GoodIn wsX2_keyOf (wsV RX2 26 RX2 yX2_wordAt wsX2_wordAt) := goodIn_app (goodIn_of _ (by decide +kernel)) ggX2_keyOf_X2_wordAt
theorem dX2_keyOf_0 : decode cX2_keyOf 0 = .ok (.aload_n 0, 1) := by decide +kernel
theorem dX2_keyOf_1 : decode cX2_keyOf 1 = .ok (.iload_n 1, 1) := by decide +kernel
theorem dX2_keyOf_2 : decode cX2_keyOf 2 = .ok (.iconst 2, 1) := by decide +kernel
theorem dX2_keyOf_3 : decode cX2_keyOf 3 = .ok (.invokevirtual 26, 3) := by decide +kernel
theorem dX2_keyOf_6 : decode cX2_keyOf 6 = .ok (.ireturn, 1) := by decide +kernel
set_option maxRecDepth 20000 in
theorem ggX2_octetsOf_X2_wordAt : GoodIn wsX2_octetsOf wsX2_wordAt := goodIn_r _ [5, 6, 7, 8, 9, 10] (by decide +kernel) (by decide +kernel)
set_option maxRecDepth 20000 in
theorem gX2_octetsOf_X2_wordAt : GoodIn wsX2_octetsOf (wsV RX2 26 RX2 yX2_wordAt wsX2_wordAt) := goodIn_app (goodIn_of _ (by decide +kernel)) ggX2_octetsOf_X2_wordAt
theorem dX2_octetsOf_0 : decode cX2_octetsOf 0 = .ok (.aload_n 0, 1) := by decide +kernel
theorem dX2_octetsOf_1 : decode cX2_octetsOf 1 = .ok (.iload_n 1, 1) := by decide +kernel
theorem dX2_octetsOf_2 : decode cX2_octetsOf 2 = .ok (.iconst 3, 1) := by decide +kernel
theorem dX2_octetsOf_3 : decode cX2_octetsOf 3 = .ok (.invokevirtual 26, 3) := by decide +kernel
theorem dX2_octetsOf_6 : decode cX2_octetsOf 6 = .ok (.ireturn, 1) := by decide +kernel
set_option maxRecDepth 20000 in
theorem ggX2_greatestNumber_X2_numberOf : GoodIn wsX2_greatestNumber wsX2_numberOf := goodIn_r _ [9, 10, 11, 12, 8, 13, 14, 15, 16, 17, 18] (by decide +kernel) (by decide +kernel)
set_option maxRecDepth 20000 in
theorem gX2_greatestNumber_X2_numberOf : GoodIn wsX2_greatestNumber (wsV RX2 30 RX2 yX2_numberOf wsX2_numberOf) := goodIn_app (goodIn_of _ (by decide +kernel)) ggX2_greatestNumber_X2_numberOf
theorem dX2_greatestNumber_0 : decode cX2_greatestNumber 0 = .ok (.iconst 0, 1) := by decide +kernel
theorem dX2_greatestNumber_1 : decode cX2_greatestNumber 1 = .ok (.istore_n 1, 1) := by decide +kernel
theorem dX2_greatestNumber_2 : decode cX2_greatestNumber 2 = .ok (.iconst 0, 1) := by decide +kernel
theorem dX2_greatestNumber_3 : decode cX2_greatestNumber 3 = .ok (.istore_n 2, 1) := by decide +kernel
theorem dX2_greatestNumber_4 : decode cX2_greatestNumber 4 = .ok (.iload_n 2, 1) := by decide +kernel
theorem dX2_greatestNumber_5 : decode cX2_greatestNumber 5 = .ok (.bipush 64, 2) := by decide +kernel
theorem dX2_greatestNumber_7 : decode cX2_greatestNumber 7 = .ok (.if_icmp .ge 19, 3) := by decide +kernel
theorem dX2_greatestNumber_10 : decode cX2_greatestNumber 10 = .ok (.iload_n 1, 1) := by decide +kernel
theorem dX2_greatestNumber_11 : decode cX2_greatestNumber 11 = .ok (.aload_n 0, 1) := by decide +kernel
theorem dX2_greatestNumber_12 : decode cX2_greatestNumber 12 = .ok (.iload_n 2, 1) := by decide +kernel
theorem dX2_greatestNumber_13 : decode cX2_greatestNumber 13 = .ok (.invokevirtual 30, 3) := by decide +kernel
theorem dX2_greatestNumber_16 : decode cX2_greatestNumber 16 = .ok (.invokestatic 34, 3) := by decide +kernel
theorem dX2_greatestNumber_19 : decode cX2_greatestNumber 19 = .ok (.istore_n 1, 1) := by decide +kernel
theorem dX2_greatestNumber_20 : decode cX2_greatestNumber 20 = .ok (.iinc 2 1, 3) := by decide +kernel
theorem dX2_greatestNumber_23 : decode cX2_greatestNumber 23 = .ok (.goto (-19), 3) := by decide +kernel
theorem dX2_greatestNumber_26 : decode cX2_greatestNumber 26 = .ok (.iload_n 1, 1) := by decide +kernel
theorem dX2_greatestNumber_27 : decode cX2_greatestNumber 27 = .ok (.ireturn, 1) := by decide +kernel
set_option maxRecDepth 20000 in
theorem ggX2_blockOf_X2_numberOf : GoodIn wsX2_blockOf wsX2_numberOf := goodIn_r _ [5, 6, 7, 8, 4, 9, 10, 15, 16, 17, 18] (by decide +kernel) (by decide +kernel)
set_option maxRecDepth 20000 in
theorem gX2_blockOf_X2_numberOf : GoodIn wsX2_blockOf (wsV RX2 30 RX2 yX2_numberOf wsX2_numberOf) := goodIn_app (goodIn_of _ (by decide +kernel)) ggX2_blockOf_X2_numberOf
set_option maxRecDepth 20000 in
theorem ggX2_blockOf_X2_partOf : GoodIn wsX2_blockOf wsX2_partOf := goodIn_r _ [14, 6, 7, 8, 4, 9, 10, 15, 16, 17, 18] (by decide +kernel) (by decide +kernel)
set_option maxRecDepth 20000 in
theorem gX2_blockOf_X2_partOf : GoodIn wsX2_blockOf (wsV RX2 39 RX2 yX2_partOf wsX2_partOf) := goodIn_app (goodIn_of _ (by decide +kernel)) ggX2_blockOf_X2_partOf
theorem dX2_blockOf_0 : decode cX2_blockOf 0 = .ok (.iconst 0, 1) := by decide +kernel
theorem dX2_blockOf_1 : decode cX2_blockOf 1 = .ok (.istore_n 3, 1) := by decide +kernel
theorem dX2_blockOf_2 : decode cX2_blockOf 2 = .ok (.iload_n 3, 1) := by decide +kernel
theorem dX2_blockOf_3 : decode cX2_blockOf 3 = .ok (.bipush 64, 2) := by decide +kernel
theorem dX2_blockOf_5 : decode cX2_blockOf 5 = .ok (.if_icmp .ge 29, 3) := by decide +kernel
theorem dX2_blockOf_8 : decode cX2_blockOf 8 = .ok (.aload_n 0, 1) := by decide +kernel
theorem dX2_blockOf_9 : decode cX2_blockOf 9 = .ok (.iload_n 3, 1) := by decide +kernel
theorem dX2_blockOf_10 : decode cX2_blockOf 10 = .ok (.invokevirtual 30, 3) := by decide +kernel
theorem dX2_blockOf_13 : decode cX2_blockOf 13 = .ok (.iload_n 1, 1) := by decide +kernel
theorem dX2_blockOf_14 : decode cX2_blockOf 14 = .ok (.if_icmp .ne 14, 3) := by decide +kernel
theorem dX2_blockOf_17 : decode cX2_blockOf 17 = .ok (.aload_n 0, 1) := by decide +kernel
theorem dX2_blockOf_18 : decode cX2_blockOf 18 = .ok (.iload_n 3, 1) := by decide +kernel
theorem dX2_blockOf_19 : decode cX2_blockOf 19 = .ok (.invokevirtual 39, 3) := by decide +kernel
theorem dX2_blockOf_22 : decode cX2_blockOf 22 = .ok (.iload_n 2, 1) := by decide +kernel
theorem dX2_blockOf_23 : decode cX2_blockOf 23 = .ok (.if_icmp .ne 5, 3) := by decide +kernel
theorem dX2_blockOf_26 : decode cX2_blockOf 26 = .ok (.iload_n 3, 1) := by decide +kernel
theorem dX2_blockOf_27 : decode cX2_blockOf 27 = .ok (.ireturn, 1) := by decide +kernel
theorem dX2_blockOf_28 : decode cX2_blockOf 28 = .ok (.iinc 3 1, 3) := by decide +kernel
theorem dX2_blockOf_31 : decode cX2_blockOf 31 = .ok (.goto (-29), 3) := by decide +kernel
theorem dX2_blockOf_34 : decode cX2_blockOf 34 = .ok (.iconst (-1), 1) := by decide +kernel
theorem dX2_blockOf_35 : decode cX2_blockOf 35 = .ok (.ireturn, 1) := by decide +kernel
theorem dX3_init_0 : decode cX3_init 0 = .ok (.aload_n 0, 1) := by decide +kernel
theorem dX3_init_1 : decode cX3_init 1 = .ok (.invokespecial 3, 3) := by decide +kernel
theorem dX3_init_4 : decode cX3_init 4 = .ok (.aload_n 0, 1) := by decide +kernel
theorem dX3_init_5 : decode cX3_init 5 = .ok (.sipush 450, 3) := by decide +kernel
theorem dX3_init_8 : decode cX3_init 8 = .ok (.newarray .int, 2) := by decide +kernel
theorem dX3_init_10 : decode cX3_init 10 = .ok (.putfield 9, 3) := by decide +kernel
theorem dX3_init_13 : decode cX3_init 13 = .ok (.return_, 1) := by decide +kernel
theorem dX3_size_0 : decode cX3_size 0 = .ok (.aload_n 0, 1) := by decide +kernel
theorem dX3_size_1 : decode cX3_size 1 = .ok (.getfield 15, 3) := by decide +kernel
theorem dX3_size_4 : decode cX3_size 4 = .ok (.ireturn, 1) := by decide +kernel
theorem dX3_empty_0 : decode cX3_empty 0 = .ok (.aload_n 0, 1) := by decide +kernel
theorem dX3_empty_1 : decode cX3_empty 1 = .ok (.iconst 0, 1) := by decide +kernel
theorem dX3_empty_2 : decode cX3_empty 2 = .ok (.putfield 15, 3) := by decide +kernel
theorem dX3_empty_5 : decode cX3_empty 5 = .ok (.return_, 1) := by decide +kernel
theorem dX3_append_0 : decode cX3_append 0 = .ok (.aload_n 0, 1) := by decide +kernel
theorem dX3_append_1 : decode cX3_append 1 = .ok (.getfield 15, 3) := by decide +kernel
theorem dX3_append_4 : decode cX3_append 4 = .ok (.ifCond .lt 39, 3) := by decide +kernel
theorem dX3_append_7 : decode cX3_append 7 = .ok (.aload_n 0, 1) := by decide +kernel
theorem dX3_append_8 : decode cX3_append 8 = .ok (.getfield 15, 3) := by decide +kernel
theorem dX3_append_11 : decode cX3_append 11 = .ok (.aload_n 0, 1) := by decide +kernel
theorem dX3_append_12 : decode cX3_append 12 = .ok (.getfield 9, 3) := by decide +kernel
theorem dX3_append_15 : decode cX3_append 15 = .ok (.arraylength, 1) := by decide +kernel
theorem dX3_append_16 : decode cX3_append 16 = .ok (.if_icmp .ge 27, 3) := by decide +kernel
theorem dX3_append_19 : decode cX3_append 19 = .ok (.aload_n 0, 1) := by decide +kernel
theorem dX3_append_20 : decode cX3_append 20 = .ok (.getfield 9, 3) := by decide +kernel
theorem dX3_append_23 : decode cX3_append 23 = .ok (.aload_n 0, 1) := by decide +kernel
theorem dX3_append_24 : decode cX3_append 24 = .ok (.getfield 15, 3) := by decide +kernel
theorem dX3_append_27 : decode cX3_append 27 = .ok (.iload_n 1, 1) := by decide +kernel
theorem dX3_append_28 : decode cX3_append 28 = .ok (.sipush 255, 3) := by decide +kernel
theorem dX3_append_31 : decode cX3_append 31 = .ok (.iand, 1) := by decide +kernel
theorem dX3_append_32 : decode cX3_append 32 = .ok (.iastore, 1) := by decide +kernel
theorem dX3_append_33 : decode cX3_append 33 = .ok (.aload_n 0, 1) := by decide +kernel
theorem dX3_append_34 : decode cX3_append 34 = .ok (.dup, 1) := by decide +kernel
theorem dX3_append_35 : decode cX3_append 35 = .ok (.getfield 15, 3) := by decide +kernel
theorem dX3_append_38 : decode cX3_append 38 = .ok (.iconst 1, 1) := by decide +kernel
theorem dX3_append_39 : decode cX3_append 39 = .ok (.iadd, 1) := by decide +kernel
theorem dX3_append_40 : decode cX3_append 40 = .ok (.putfield 15, 3) := by decide +kernel
theorem dX3_append_43 : decode cX3_append 43 = .ok (.return_, 1) := by decide +kernel
theorem dX3_at_0 : decode cX3_at 0 = .ok (.iload_n 1, 1) := by decide +kernel
theorem dX3_at_1 : decode cX3_at 1 = .ok (.ifCond .lt 20, 3) := by decide +kernel
theorem dX3_at_4 : decode cX3_at 4 = .ok (.iload_n 1, 1) := by decide +kernel
theorem dX3_at_5 : decode cX3_at 5 = .ok (.aload_n 0, 1) := by decide +kernel
theorem dX3_at_6 : decode cX3_at 6 = .ok (.getfield 15, 3) := by decide +kernel
theorem dX3_at_9 : decode cX3_at 9 = .ok (.if_icmp .ge 12, 3) := by decide +kernel
theorem dX3_at_12 : decode cX3_at 12 = .ok (.iload_n 1, 1) := by decide +kernel
theorem dX3_at_13 : decode cX3_at 13 = .ok (.aload_n 0, 1) := by decide +kernel
theorem dX3_at_14 : decode cX3_at 14 = .ok (.getfield 9, 3) := by decide +kernel
theorem dX3_at_17 : decode cX3_at 17 = .ok (.arraylength, 1) := by decide +kernel
theorem dX3_at_18 : decode cX3_at 18 = .ok (.if_icmp .lt 5, 3) := by decide +kernel
theorem dX3_at_21 : decode cX3_at 21 = .ok (.iconst 0, 1) := by decide +kernel
theorem dX3_at_22 : decode cX3_at 22 = .ok (.ireturn, 1) := by decide +kernel
theorem dX3_at_23 : decode cX3_at 23 = .ok (.aload_n 0, 1) := by decide +kernel
theorem dX3_at_24 : decode cX3_at 24 = .ok (.getfield 9, 3) := by decide +kernel
theorem dX3_at_27 : decode cX3_at 27 = .ok (.iload_n 1, 1) := by decide +kernel
theorem dX3_at_28 : decode cX3_at 28 = .ok (.iaload, 1) := by decide +kernel
theorem dX3_at_29 : decode cX3_at 29 = .ok (.ireturn, 1) := by decide +kernel
theorem dX3_setBit_0 : decode cX3_setBit 0 = .ok (.iload_n 1, 1) := by decide +kernel
theorem dX3_setBit_1 : decode cX3_setBit 1 = .ok (.ifCond .lt 32, 3) := by decide +kernel
theorem dX3_setBit_4 : decode cX3_setBit 4 = .ok (.iload_n 1, 1) := by decide +kernel
theorem dX3_setBit_5 : decode cX3_setBit 5 = .ok (.aload_n 0, 1) := by decide +kernel
theorem dX3_setBit_6 : decode cX3_setBit 6 = .ok (.getfield 15, 3) := by decide +kernel
theorem dX3_setBit_9 : decode cX3_setBit 9 = .ok (.if_icmp .ge 24, 3) := by decide +kernel
theorem dX3_setBit_12 : decode cX3_setBit 12 = .ok (.iload_n 1, 1) := by decide +kernel
theorem dX3_setBit_13 : decode cX3_setBit 13 = .ok (.aload_n 0, 1) := by decide +kernel
theorem dX3_setBit_14 : decode cX3_setBit 14 = .ok (.getfield 9, 3) := by decide +kernel
theorem dX3_setBit_17 : decode cX3_setBit 17 = .ok (.arraylength, 1) := by decide +kernel
theorem dX3_setBit_18 : decode cX3_setBit 18 = .ok (.if_icmp .ge 15, 3) := by decide +kernel
theorem dX3_setBit_21 : decode cX3_setBit 21 = .ok (.aload_n 0, 1) := by decide +kernel
theorem dX3_setBit_22 : decode cX3_setBit 22 = .ok (.getfield 9, 3) := by decide +kernel
theorem dX3_setBit_25 : decode cX3_setBit 25 = .ok (.iload_n 1, 1) := by decide +kernel
theorem dX3_setBit_26 : decode cX3_setBit 26 = .ok (.dup2, 1) := by decide +kernel
theorem dX3_setBit_27 : decode cX3_setBit 27 = .ok (.iaload, 1) := by decide +kernel
theorem dX3_setBit_28 : decode cX3_setBit 28 = .ok (.iconst 1, 1) := by decide +kernel
theorem dX3_setBit_29 : decode cX3_setBit 29 = .ok (.iload_n 2, 1) := by decide +kernel
theorem dX3_setBit_30 : decode cX3_setBit 30 = .ok (.ishl, 1) := by decide +kernel
theorem dX3_setBit_31 : decode cX3_setBit 31 = .ok (.ior, 1) := by decide +kernel
theorem dX3_setBit_32 : decode cX3_setBit 32 = .ok (.iastore, 1) := by decide +kernel
theorem dX3_setBit_33 : decode cX3_setBit 33 = .ok (.return_, 1) := by decide +kernel
set_option maxRecDepth 20000 in
theorem ggX3_fourFrom_X3_at : GoodIn wsX3_fourFrom wsX3_at := goodIn_r _ [5, 6, 7, 8, 9] (by decide +kernel) (by decide +kernel)
set_option maxRecDepth 20000 in
theorem gX3_fourFrom_X3_at : GoodIn wsX3_fourFrom (wsV RX3 19 RX3 yX3_at wsX3_at) := goodIn_app (goodIn_of _ (by decide +kernel)) ggX3_fourFrom_X3_at
theorem dX3_fourFrom_0 : decode cX3_fourFrom 0 = .ok (.aload_n 0, 1) := by decide +kernel
theorem dX3_fourFrom_1 : decode cX3_fourFrom 1 = .ok (.iload_n 1, 1) := by decide +kernel
theorem dX3_fourFrom_2 : decode cX3_fourFrom 2 = .ok (.invokevirtual 19, 3) := by decide +kernel
theorem dX3_fourFrom_5 : decode cX3_fourFrom 5 = .ok (.aload_n 0, 1) := by decide +kernel
theorem dX3_fourFrom_6 : decode cX3_fourFrom 6 = .ok (.iload_n 1, 1) := by decide +kernel
theorem dX3_fourFrom_7 : decode cX3_fourFrom 7 = .ok (.iconst 1, 1) := by decide +kernel
theorem dX3_fourFrom_8 : decode cX3_fourFrom 8 = .ok (.iadd, 1) := by decide +kernel
theorem dX3_fourFrom_9 : decode cX3_fourFrom 9 = .ok (.invokevirtual 19, 3) := by decide +kernel
theorem dX3_fourFrom_12 : decode cX3_fourFrom 12 = .ok (.bipush 8, 2) := by decide +kernel
theorem dX3_fourFrom_14 : decode cX3_fourFrom 14 = .ok (.ishl, 1) := by decide +kernel
theorem dX3_fourFrom_15 : decode cX3_fourFrom 15 = .ok (.ior, 1) := by decide +kernel
theorem dX3_fourFrom_16 : decode cX3_fourFrom 16 = .ok (.aload_n 0, 1) := by decide +kernel
theorem dX3_fourFrom_17 : decode cX3_fourFrom 17 = .ok (.iload_n 1, 1) := by decide +kernel
theorem dX3_fourFrom_18 : decode cX3_fourFrom 18 = .ok (.iconst 2, 1) := by decide +kernel
theorem dX3_fourFrom_19 : decode cX3_fourFrom 19 = .ok (.iadd, 1) := by decide +kernel
theorem dX3_fourFrom_20 : decode cX3_fourFrom 20 = .ok (.invokevirtual 19, 3) := by decide +kernel
theorem dX3_fourFrom_23 : decode cX3_fourFrom 23 = .ok (.bipush 16, 2) := by decide +kernel
theorem dX3_fourFrom_25 : decode cX3_fourFrom 25 = .ok (.ishl, 1) := by decide +kernel
theorem dX3_fourFrom_26 : decode cX3_fourFrom 26 = .ok (.ior, 1) := by decide +kernel
theorem dX3_fourFrom_27 : decode cX3_fourFrom 27 = .ok (.aload_n 0, 1) := by decide +kernel
theorem dX3_fourFrom_28 : decode cX3_fourFrom 28 = .ok (.iload_n 1, 1) := by decide +kernel
theorem dX3_fourFrom_29 : decode cX3_fourFrom 29 = .ok (.iconst 3, 1) := by decide +kernel
theorem dX3_fourFrom_30 : decode cX3_fourFrom 30 = .ok (.iadd, 1) := by decide +kernel
theorem dX3_fourFrom_31 : decode cX3_fourFrom 31 = .ok (.invokevirtual 19, 3) := by decide +kernel
theorem dX3_fourFrom_34 : decode cX3_fourFrom 34 = .ok (.bipush 24, 2) := by decide +kernel
theorem dX3_fourFrom_36 : decode cX3_fourFrom 36 = .ok (.ishl, 1) := by decide +kernel
theorem dX3_fourFrom_37 : decode cX3_fourFrom 37 = .ok (.ior, 1) := by decide +kernel
theorem dX3_fourFrom_38 : decode cX3_fourFrom 38 = .ok (.ireturn, 1) := by decide +kernel
set_option maxRecDepth 20000 in
theorem ggX3_becomeLike_X3_empty : GoodIn wsX3_becomeLike wsX3_empty := goodIn_r _ [6, 1, 16, 17] (by decide +kernel) (by decide +kernel)
set_option maxRecDepth 20000 in
theorem gX3_becomeLike_X3_empty : GoodIn wsX3_becomeLike (wsV RX3 23 RX3 yX3_empty wsX3_empty) := goodIn_app (goodIn_of _ (by decide +kernel)) ggX3_becomeLike_X3_empty
set_option maxRecDepth 20000 in
theorem ggX3_becomeLike_X3_at : GoodIn wsX3_becomeLike wsX3_at := goodIn_r _ [10, 1, 11, 16, 17] (by decide +kernel) (by decide +kernel)
set_option maxRecDepth 20000 in
theorem gX3_becomeLike_X3_at : GoodIn wsX3_becomeLike (wsV RX3 19 RX3 yX3_at wsX3_at) := goodIn_app (goodIn_of _ (by decide +kernel)) ggX3_becomeLike_X3_at
set_option maxRecDepth 20000 in
theorem ggX3_becomeLike_X3_append : GoodIn wsX3_becomeLike wsX3_append := goodIn_r _ [15, 1, 11, 16, 17] (by decide +kernel) (by decide +kernel)
set_option maxRecDepth 20000 in
theorem gX3_becomeLike_X3_append : GoodIn wsX3_becomeLike (wsV RX3 26 RX3 yX3_append wsX3_append) := goodIn_app (goodIn_of _ (by decide +kernel)) ggX3_becomeLike_X3_append
theorem dX3_becomeLike_0 : decode cX3_becomeLike 0 = .ok (.aload_n 0, 1) := by decide +kernel
theorem dX3_becomeLike_1 : decode cX3_becomeLike 1 = .ok (.invokevirtual 23, 3) := by decide +kernel
theorem dX3_becomeLike_4 : decode cX3_becomeLike 4 = .ok (.iconst 0, 1) := by decide +kernel
theorem dX3_becomeLike_5 : decode cX3_becomeLike 5 = .ok (.istore_n 2, 1) := by decide +kernel
theorem dX3_becomeLike_6 : decode cX3_becomeLike 6 = .ok (.iload_n 2, 1) := by decide +kernel
theorem dX3_becomeLike_7 : decode cX3_becomeLike 7 = .ok (.aload_n 1, 1) := by decide +kernel
theorem dX3_becomeLike_8 : decode cX3_becomeLike 8 = .ok (.getfield 15, 3) := by decide +kernel
theorem dX3_becomeLike_11 : decode cX3_becomeLike 11 = .ok (.if_icmp .ge 18, 3) := by decide +kernel
theorem dX3_becomeLike_14 : decode cX3_becomeLike 14 = .ok (.aload_n 0, 1) := by decide +kernel
theorem dX3_becomeLike_15 : decode cX3_becomeLike 15 = .ok (.aload_n 1, 1) := by decide +kernel
theorem dX3_becomeLike_16 : decode cX3_becomeLike 16 = .ok (.iload_n 2, 1) := by decide +kernel
theorem dX3_becomeLike_17 : decode cX3_becomeLike 17 = .ok (.invokevirtual 19, 3) := by decide +kernel
theorem dX3_becomeLike_20 : decode cX3_becomeLike 20 = .ok (.invokevirtual 26, 3) := by decide +kernel
theorem dX3_becomeLike_23 : decode cX3_becomeLike 23 = .ok (.iinc 2 1, 3) := by decide +kernel
theorem dX3_becomeLike_26 : decode cX3_becomeLike 26 = .ok (.goto (-20), 3) := by decide +kernel
theorem dX3_becomeLike_29 : decode cX3_becomeLike 29 = .ok (.return_, 1) := by decide +kernel
set_option maxRecDepth 20000 in
theorem ggX3_repeat_X3_at : GoodIn wsX3_repeat wsX3_at := goodIn_r _ [6, 1, 7, 12, 13] (by decide +kernel) (by decide +kernel)
set_option maxRecDepth 20000 in
theorem gX3_repeat_X3_at : GoodIn wsX3_repeat (wsV RX3 19 RX3 yX3_at wsX3_at) := goodIn_app (goodIn_of _ (by decide +kernel)) ggX3_repeat_X3_at
set_option maxRecDepth 20000 in
theorem ggX3_repeat_X3_append : GoodIn wsX3_repeat wsX3_append := goodIn_r _ [11, 1, 7, 12, 13] (by decide +kernel) (by decide +kernel)
set_option maxRecDepth 20000 in
theorem gX3_repeat_X3_append : GoodIn wsX3_repeat (wsV RX3 26 RX3 yX3_append wsX3_append) := goodIn_app (goodIn_of _ (by decide +kernel)) ggX3_repeat_X3_append
theorem dX3_repeat_0 : decode cX3_repeat 0 = .ok (.iconst 0, 1) := by decide +kernel
theorem dX3_repeat_1 : decode cX3_repeat 1 = .ok (.istore_n 3, 1) := by decide +kernel
theorem dX3_repeat_2 : decode cX3_repeat 2 = .ok (.iload_n 3, 1) := by decide +kernel
theorem dX3_repeat_3 : decode cX3_repeat 3 = .ok (.iload_n 2, 1) := by decide +kernel
theorem dX3_repeat_4 : decode cX3_repeat 4 = .ok (.if_icmp .ge 23, 3) := by decide +kernel
theorem dX3_repeat_7 : decode cX3_repeat 7 = .ok (.aload_n 0, 1) := by decide +kernel
theorem dX3_repeat_8 : decode cX3_repeat 8 = .ok (.aload_n 0, 1) := by decide +kernel
theorem dX3_repeat_9 : decode cX3_repeat 9 = .ok (.aload_n 0, 1) := by decide +kernel
theorem dX3_repeat_10 : decode cX3_repeat 10 = .ok (.getfield 15, 3) := by decide +kernel
theorem dX3_repeat_13 : decode cX3_repeat 13 = .ok (.iload_n 1, 1) := by decide +kernel
theorem dX3_repeat_14 : decode cX3_repeat 14 = .ok (.isub, 1) := by decide +kernel
theorem dX3_repeat_15 : decode cX3_repeat 15 = .ok (.invokevirtual 19, 3) := by decide +kernel
theorem dX3_repeat_18 : decode cX3_repeat 18 = .ok (.invokevirtual 26, 3) := by decide +kernel
theorem dX3_repeat_21 : decode cX3_repeat 21 = .ok (.iinc 3 1, 3) := by decide +kernel
theorem dX3_repeat_24 : decode cX3_repeat 24 = .ok (.goto (-22), 3) := by decide +kernel
theorem dX3_repeat_27 : decode cX3_repeat 27 = .ok (.return_, 1) := by decide +kernel
abbrev vwCl : List vw_C := [(RX0, TX0, 4), (RX2, TX2, 4), (RX3, TX3, 2), (RX4, TX4, 9), (RX5, TX5, 15)]
end
section
/-! rows of this claim: naming, loops, branches over Nat -/
section ZZ
variable {p : Program} {l : Launch} {e : Env} {R : Room} {s : State} {m : MethodId} {args : Array Value} {below : List Frame} {meth : Method} {c : Code} {H : Heap} {locs : List Loc} {cells slots : Nat} {Q : State → Prop}
variable {pc : Nat} {ls : Array Slot} {rest st0 : List Value} {cc : ByteArray}
theorem zz_top {x y : Int32} (h : x = y) (k : W p l e R s m args below meth c H locs cells slots Q (F0 m pc ls (.int y :: rest))) : W p l e R s m args below meth c H locs cells slots Q (F0 m pc ls (.int x :: rest)) := h ▸ k
theorem zz_topL {x y : Int64} (h : x = y) (k : W p l e R s m args below meth c H locs cells slots Q (F0 m pc ls (.long y :: rest))) : W p l e R s m args below meth c H locs cells slots Q (F0 m pc ls (.long x :: rest)) := h ▸ k
theorem zz_loopR {σ : Type} (μ : σ → Nat) (Inv : σ → Array Slot → Prop) (x0 : σ) (h0 : Inv x0 ls) (step : ∀ (x : σ) (ls : Array Slot), Inv x ls → (∀ (y : σ) (ls' : Array Slot), Inv y ls' → μ y < μ x → W p l e R s m args below meth c H locs cells slots Q (F0 m pc ls' rest)) → W p l e R s m args below meth c H locs cells slots Q (F0 m pc ls rest)) : W p l e R s m args below meth c H locs cells slots Q (F0 m pc ls rest) := by
  have key : ∀ (n : Nat) (x : σ) (ls : Array Slot), Inv x ls → μ x < n → W p l e R s m args below meth c H locs cells slots Q (F0 m pc ls rest) := by
    intro n
    induction n with
    | zero => intro x ls _ h; exact absurd h (Nat.not_lt_zero _)
    | succ n ih => intro x ls hI h; exact step x ls hI (fun y ls' hy hm => ih y ls' hy (by omega))
  exact key _ x0 ls h0 (Nat.lt_succ_self _)
theorem zz_loopW {σ : Type} (μ : σ → Nat) (Inv : σ → Heap → List Loc → Array Slot → Prop) (x0 : σ) (h0 : Inv x0 H locs ls) (step : ∀ (x : σ) (H : Heap) (locs : List Loc) (ls : Array Slot), Inv x H locs ls → (∀ (y : σ) (H' : Heap) (locs' : List Loc) (ls' : Array Slot), Inv y H' locs' ls' → μ y < μ x → W p l e R s m args below meth c H' locs' cells slots Q (F0 m pc ls' rest)) → W p l e R s m args below meth c H locs cells slots Q (F0 m pc ls rest)) : W p l e R s m args below meth c H locs cells slots Q (F0 m pc ls rest) := by
  have key : ∀ (n : Nat) (x : σ) (H : Heap) (locs : List Loc) (ls : Array Slot), Inv x H locs ls → μ x < n → W p l e R s m args below meth c H locs cells slots Q (F0 m pc ls rest) := by
    intro n
    induction n with
    | zero => intro x H locs ls _ h; exact absurd h (Nat.not_lt_zero _)
    | succ n ih => intro x H locs ls hI h; exact step x H locs ls hI (fun y H' locs' ls' hy hm => ih y H' locs' ls' hy (by omega))
  exact key _ x0 H locs ls h0 (Nat.lt_succ_self _)
variable {off : Int} {tgt : Nat}
theorem zn_icmp_lt (hexec : p.tables.exec = Jvm.exec) (hb : c.code = cc) {x y : Nat} (hdg : decode cc pc = .ok (.if_icmp .lt off, 3)) (ht : (pc : Int) + off = (tgt : Int)) (hx : x < 2 ^ 31) (hy : y < 2 ^ 31) (kt : x < y → W p l e R s m args below meth c H locs cells slots Q (F0 m tgt ls rest)) (kf : y ≤ x → W p l e R s m args below meth c H locs cells slots Q (F0 m (pc + 3) ls rest)) : W p l e R s m args below meth c H locs cells slots Q (F0 m pc ls (.int (nI y) :: .int (nI x) :: rest)) :=
  lv_icmp_lt hexec hb hdg ht (fun h => kt ((nI_ltI hx hy).mp h)) (fun h => kf (Nat.le_of_not_lt (fun q => h ((nI_ltI hx hy).mpr q))))
theorem zn_icmp_ge (hexec : p.tables.exec = Jvm.exec) (hb : c.code = cc) {x y : Nat} (hdg : decode cc pc = .ok (.if_icmp .ge off, 3)) (ht : (pc : Int) + off = (tgt : Int)) (hx : x < 2 ^ 31) (hy : y < 2 ^ 31) (kt : y ≤ x → W p l e R s m args below meth c H locs cells slots Q (F0 m tgt ls rest)) (kf : x < y → W p l e R s m args below meth c H locs cells slots Q (F0 m (pc + 3) ls rest)) : W p l e R s m args below meth c H locs cells slots Q (F0 m pc ls (.int (nI y) :: .int (nI x) :: rest)) :=
  lv_icmp_ge hexec hb hdg ht (fun h => kt ((nI_leI hy hx).mp h)) (fun h => kf (Nat.lt_of_not_le (fun q => h ((nI_leI hy hx).mpr q))))
theorem zn_icmp_gt (hexec : p.tables.exec = Jvm.exec) (hb : c.code = cc) {x y : Nat} (hdg : decode cc pc = .ok (.if_icmp .gt off, 3)) (ht : (pc : Int) + off = (tgt : Int)) (hx : x < 2 ^ 31) (hy : y < 2 ^ 31) (kt : y < x → W p l e R s m args below meth c H locs cells slots Q (F0 m tgt ls rest)) (kf : x ≤ y → W p l e R s m args below meth c H locs cells slots Q (F0 m (pc + 3) ls rest)) : W p l e R s m args below meth c H locs cells slots Q (F0 m pc ls (.int (nI y) :: .int (nI x) :: rest)) :=
  lv_icmp_gt hexec hb hdg ht (fun h => kt ((nI_ltI hy hx).mp h)) (fun h => kf (Nat.le_of_not_lt (fun q => h ((nI_ltI hy hx).mpr q))))
theorem zn_icmp_le (hexec : p.tables.exec = Jvm.exec) (hb : c.code = cc) {x y : Nat} (hdg : decode cc pc = .ok (.if_icmp .le off, 3)) (ht : (pc : Int) + off = (tgt : Int)) (hx : x < 2 ^ 31) (hy : y < 2 ^ 31) (kt : x ≤ y → W p l e R s m args below meth c H locs cells slots Q (F0 m tgt ls rest)) (kf : y < x → W p l e R s m args below meth c H locs cells slots Q (F0 m (pc + 3) ls rest)) : W p l e R s m args below meth c H locs cells slots Q (F0 m pc ls (.int (nI y) :: .int (nI x) :: rest)) :=
  lv_icmp_le hexec hb hdg ht (fun h => kt ((nI_leI hx hy).mp h)) (fun h => kf (Nat.lt_of_not_le (fun q => h ((nI_leI hx hy).mpr q))))
theorem zn_icmp_eq (hexec : p.tables.exec = Jvm.exec) (hb : c.code = cc) {x y : Nat} (hdg : decode cc pc = .ok (.if_icmp .eq off, 3)) (ht : (pc : Int) + off = (tgt : Int)) (hx : x < 2 ^ 31) (hy : y < 2 ^ 31) (kt : x = y → W p l e R s m args below meth c H locs cells slots Q (F0 m tgt ls rest)) (kf : ¬ x = y → W p l e R s m args below meth c H locs cells slots Q (F0 m (pc + 3) ls rest)) : W p l e R s m args below meth c H locs cells slots Q (F0 m pc ls (.int (nI y) :: .int (nI x) :: rest)) :=
  lv_icmp_eq hexec hb hdg ht (fun h => kt ((nI_eq hx hy).mp h)) (fun h => kf (fun q => h ((nI_eq hx hy).mpr q)))
theorem zn_icmp_ne (hexec : p.tables.exec = Jvm.exec) (hb : c.code = cc) {x y : Nat} (hdg : decode cc pc = .ok (.if_icmp .ne off, 3)) (ht : (pc : Int) + off = (tgt : Int)) (hx : x < 2 ^ 31) (hy : y < 2 ^ 31) (kt : ¬ x = y → W p l e R s m args below meth c H locs cells slots Q (F0 m tgt ls rest)) (kf : x = y → W p l e R s m args below meth c H locs cells slots Q (F0 m (pc + 3) ls rest)) : W p l e R s m args below meth c H locs cells slots Q (F0 m pc ls (.int (nI y) :: .int (nI x) :: rest)) :=
  lv_icmp_ne hexec hb hdg ht (fun h => kt (fun q => h ((nI_eq hx hy).mpr q))) (fun h => kf ((nI_eq hx hy).mp h))
theorem zn_if_eq (hexec : p.tables.exec = Jvm.exec) (hb : c.code = cc) {x : Nat} (hdg : decode cc pc = .ok (.ifCond .eq off, 3)) (ht : (pc : Int) + off = (tgt : Int)) (hx : x < 2 ^ 31) (kt : x = 0 → W p l e R s m args below meth c H locs cells slots Q (F0 m tgt ls rest)) (kf : 0 < x → W p l e R s m args below meth c H locs cells slots Q (F0 m (pc + 3) ls rest)) : W p l e R s m args below meth c H locs cells slots Q (F0 m pc ls (.int (nI x) :: rest)) :=
  lv_if_eq hexec hb hdg ht (fun h => kt ((nI_eq hx (b := 0) (by decide)).mp h)) (fun h => kf (Nat.pos_of_ne_zero (fun q => h ((nI_eq hx (b := 0) (by decide)).mpr q))))
theorem zn_if_ne (hexec : p.tables.exec = Jvm.exec) (hb : c.code = cc) {x : Nat} (hdg : decode cc pc = .ok (.ifCond .ne off, 3)) (ht : (pc : Int) + off = (tgt : Int)) (hx : x < 2 ^ 31) (kt : 0 < x → W p l e R s m args below meth c H locs cells slots Q (F0 m tgt ls rest)) (kf : x = 0 → W p l e R s m args below meth c H locs cells slots Q (F0 m (pc + 3) ls rest)) : W p l e R s m args below meth c H locs cells slots Q (F0 m pc ls (.int (nI x) :: rest)) :=
  lv_if_ne hexec hb hdg ht (fun h => kt (Nat.pos_of_ne_zero (fun q => h ((nI_eq hx (b := 0) (by decide)).mpr q)))) (fun h => kf ((nI_eq hx (b := 0) (by decide)).mp h))
theorem zn_if_lt (hexec : p.tables.exec = Jvm.exec) (hb : c.code = cc) {x : Nat} (hdg : decode cc pc = .ok (.ifCond .lt off, 3)) (ht : (pc : Int) + off = (tgt : Int)) (hx : x < 2 ^ 31) (kf : W p l e R s m args below meth c H locs cells slots Q (F0 m (pc + 3) ls rest)) : W p l e R s m args below meth c H locs cells slots Q (F0 m pc ls (.int (nI x) :: rest)) :=
  lv_if_lt hexec hb hdg ht (fun h => absurd h (nI_pos hx)) (fun _ => kf)
theorem zn_if_ge (hexec : p.tables.exec = Jvm.exec) (hb : c.code = cc) {x : Nat} (hdg : decode cc pc = .ok (.ifCond .ge off, 3)) (ht : (pc : Int) + off = (tgt : Int)) (hx : x < 2 ^ 31) (kt : W p l e R s m args below meth c H locs cells slots Q (F0 m tgt ls rest)) : W p l e R s m args below meth c H locs cells slots Q (F0 m pc ls (.int (nI x) :: rest)) :=
  lv_if_ge hexec hb hdg ht (fun _ => kt) (fun h => absurd (nI_pos' hx) h)
theorem zn_if_gt (hexec : p.tables.exec = Jvm.exec) (hb : c.code = cc) {x : Nat} (hdg : decode cc pc = .ok (.ifCond .gt off, 3)) (ht : (pc : Int) + off = (tgt : Int)) (hx : x < 2 ^ 31) (kt : 0 < x → W p l e R s m args below meth c H locs cells slots Q (F0 m tgt ls rest)) (kf : x = 0 → W p l e R s m args below meth c H locs cells slots Q (F0 m (pc + 3) ls rest)) : W p l e R s m args below meth c H locs cells slots Q (F0 m pc ls (.int (nI x) :: rest)) :=
  lv_if_gt hexec hb hdg ht (fun h => kt ((nI_ltI (a := 0) (by decide) hx).mp h)) (fun h => kf (Nat.eq_zero_of_not_pos (fun q => h ((nI_ltI (a := 0) (by decide) hx).mpr q))))
theorem zn_if_le (hexec : p.tables.exec = Jvm.exec) (hb : c.code = cc) {x : Nat} (hdg : decode cc pc = .ok (.ifCond .le off, 3)) (ht : (pc : Int) + off = (tgt : Int)) (hx : x < 2 ^ 31) (kt : x = 0 → W p l e R s m args below meth c H locs cells slots Q (F0 m tgt ls rest)) (kf : 0 < x → W p l e R s m args below meth c H locs cells slots Q (F0 m (pc + 3) ls rest)) : W p l e R s m args below meth c H locs cells slots Q (F0 m pc ls (.int (nI x) :: rest)) :=
  lv_if_le hexec hb hdg ht (fun h => kt (Nat.le_zero.mp ((nI_leI (b := 0) hx (by decide)).mp h))) (fun h => kf (Nat.pos_of_ne_zero (fun q => h ((nI_leI (b := 0) hx (by decide)).mpr (Nat.le_of_eq q)))))
end ZZ
/-- an int of a truth -/
def bI (b : Bool) : Int32 := cond b 1 0
theorem bI_eq0 {b : Bool} : bI b = 0 ↔ b = false := by cases b <;> decide
theorem bI_t : bI true = nI 1 := rfl
theorem bI_f : bI false = nI 0 := rfl
theorem bI_d {c : Prop} [Decidable c] (h : c) : nI 1 = bI (decide c) := by rw [decide_eq_true h]; rfl
theorem bI_n {c : Prop} [Decidable c] (h : ¬ c) : nI 0 = bI (decide c) := by rw [decide_eq_false h]; rfl
theorem bI_1 {b : Bool} (h : b = true) : nI 1 = bI b := by rw [h]; rfl
theorem bI_0 {b : Bool} (h : b = false) : nI 0 = bI b := by rw [h]; rfl
def zz_isZ (v : Int32) : Prop := v = 0 ∨ v = 1
theorem zz_z0 : zz_isZ (nI 0) := Or.inl rfl
theorem zz_z1 : zz_isZ (nI 1) := Or.inr rfl
theorem zz_zb (b : Bool) : zz_isZ (bI b) := by cases b; exact Or.inl rfl; exact Or.inr rfl
theorem zz_narZ {v : Int32} (h : zz_isZ v) : narrow .boolean (.int v) = .int v := by rcases h with rfl | rfl <;> rfl
theorem zz_nar_b (b : Bool) : vp_nar .boolean (bI b) = bI b := by cases b <;> rfl
theorem zz_nar_0 : vp_nar .boolean (nI 0) = nI 0 := rfl
theorem zz_nar_1 : vp_nar .boolean (nI 1) = nI 1 := rfl
section ZB
variable {p : Program} {l : Launch} {e : Env} {R : Room} {s : State} {m : MethodId} {args : Array Value} {below : List Frame} {meth : Method} {c : Code} {H : Heap} {locs : List Loc} {cells slots : Nat} {Q : State → Prop}
variable {pc : Nat} {ls : Array Slot} {rest st0 : List Value} {cc : ByteArray} {off : Int} {tgt : Nat}
theorem zb_if_eq (hexec : p.tables.exec = Jvm.exec) (hb : c.code = cc) {x : Bool} (hdg : decode cc pc = .ok (.ifCond .eq off, 3)) (ht : (pc : Int) + off = (tgt : Int)) (kt : x = false → W p l e R s m args below meth c H locs cells slots Q (F0 m tgt ls rest)) (kf : x = true → W p l e R s m args below meth c H locs cells slots Q (F0 m (pc + 3) ls rest)) : W p l e R s m args below meth c H locs cells slots Q (F0 m pc ls (.int (bI x) :: rest)) :=
  lv_if_eq hexec hb hdg ht (fun h => kt (bI_eq0.mp h)) (fun h => kf (by cases x; exact absurd rfl h; rfl))
theorem zb_if_ne (hexec : p.tables.exec = Jvm.exec) (hb : c.code = cc) {x : Bool} (hdg : decode cc pc = .ok (.ifCond .ne off, 3)) (ht : (pc : Int) + off = (tgt : Int)) (kt : x = true → W p l e R s m args below meth c H locs cells slots Q (F0 m tgt ls rest)) (kf : x = false → W p l e R s m args below meth c H locs cells slots Q (F0 m (pc + 3) ls rest)) : W p l e R s m args below meth c H locs cells slots Q (F0 m pc ls (.int (bI x) :: rest)) :=
  lv_if_ne hexec hb hdg ht (fun h => kt (by cases x; exact absurd rfl h; rfl)) (fun h => kf (bI_eq0.mp h))
end ZB
theorem zz_blR {av : List Value} {D : va_G} {cl : List vw_C} {ws : va_W} {tys : List (ClassId × FieldType)} : FrameBlind (va_Pc av (fun U => va_P D cl ws U.heap ∧ va_K D cl tys U)) := fun a U g mk q => ⟨q.1, q.2.1, va_K.moved (u := U) (U := U.calling g mk a) (Vm.Alike.refl U.vm) q.2.2⟩
theorem zz_blW {av : List Value} {D : va_G} {cl : List vw_C} {ws : va_W} {tys : List (ClassId × FieldType)} {sz : Nat} : FrameBlind (va_Pc av (fun U => U.heap.size = sz ∧ va_P D cl ws U.heap ∧ va_K D cl tys U ∧ va_D (fun _ => True) ws)) := fun a U g mk q => ⟨q.1, q.2.1, q.2.2.1, va_K.moved (u := U) (U := U.calling g mk a) (Vm.Alike.refl U.vm) q.2.2.2.1, q.2.2.2.2⟩
end
section
/-! plain facts to paste, each family by itself; over the kit's nI, lN and upd -/
/-! ===== drawers: more things than places ===== -/
theorem fb_holes : ∀ (m n : Nat) (f : Nat → Nat), (∀ i, i < n → f i < m) → (∀ i j, i < j → j < n → f i ≠ f j) → n ≤ m := by
  intro m
  induction m with
  | zero =>
    intro n f h1 _
    rcases Nat.eq_zero_or_pos n with h | h
    · omega
    · exact absurd (h1 0 h) (Nat.not_lt_zero _)
  | succ m ih =>
    intro n f h1 h2
    by_cases hx : ∃ i, i < n ∧ f i = m
    · obtain ⟨a, ha, hfa⟩ := hx
      have hg := ih (n - 1) (fun i => if i < a then f i else f (i + 1)) (by
        intro i hi
        by_cases q : i < a
        · simp only [if_pos q]
          have b1 := h1 i (by omega)
          have b2 := h2 i a q ha
          omega
        · simp only [if_neg q]
          have b1 := h1 (i + 1) (by omega)
          have b2 := h2 a (i + 1) (by omega) (by omega)
          omega) (by
        intro i j hij hj
        by_cases q : i < a
        · by_cases r : j < a
          · simp only [if_pos q, if_pos r]
            exact h2 i j hij (by omega)
          · simp only [if_pos q, if_neg r]
            exact h2 i (j + 1) (by omega) (by omega)
        · have r : ¬ j < a := by omega
          simp only [if_neg q, if_neg r]
          exact h2 (i + 1) (j + 1) (by omega) (by omega))
      omega
    · have hg := ih n f (fun i hi => by
        have b1 := h1 i hi
        have b2 : f i ≠ m := fun e => hx ⟨i, hi, e⟩
        omega) h2
      omega
/-- two of them in one place -/
theorem fb_twice {m n : Nat} {f : Nat → Nat} (h : ∀ i, i < n → f i < m) (hm : m < n) : ∃ i j, i < j ∧ j < n ∧ f i = f j := by
  refine Classical.byContradiction fun hx => ?_
  have := fb_holes m n f h (fun i j hij hj e => hx ⟨i, j, hij, hj, e⟩)
  omega
/-- as many as places, none twice: each place is taken -/
theorem fb_onto {n : Nat} {f : Nat → Nat} (h : ∀ i, i < n → f i < n) (h2 : ∀ i j, i < j → j < n → f i ≠ f j) {y : Nat} (hy : y < n) : ∃ i, i < n ∧ f i = y := by
  refine Classical.byContradiction fun hx => ?_
  have hne : ∀ i, i < n → f i ≠ y := fun i hi e => hx ⟨i, hi, e⟩
  have := fb_holes (n - 1) n (fun i => if f i < y then f i else f i - 1) (by
    intro i hi
    have b1 := h i hi
    have b2 := hne i hi
    by_cases q : f i < y
    · simp only [if_pos q]; omega
    · simp only [if_neg q]; omega) (by
    intro i j hij hj
    have b1 := hne i (by omega)
    have b2 := hne j hj
    have b3 := h2 i j hij hj
    by_cases q : f i < y
    · by_cases r : f j < y
      · simp only [if_pos q, if_pos r]; exact b3
      · simp only [if_pos q, if_neg r]; omega
    · by_cases r : f j < y
      · simp only [if_neg q, if_pos r]; omega
      · simp only [if_neg q, if_neg r]; omega)
  omega
/-! ===== how many places have a property ===== -/
def fb_ct (p : Nat → Bool) : Nat → Nat
  | 0 => 0
  | n + 1 => fb_ct p n + (if p n then 1 else 0)
theorem fb_ct_succ (p : Nat → Bool) (n : Nat) : fb_ct p (n + 1) = fb_ct p n + (if p n then 1 else 0) := rfl
theorem fb_ct_le (p : Nat → Bool) : ∀ n, fb_ct p n ≤ n
  | 0 => Nat.le_refl _
  | n + 1 => by
    have h := fb_ct_le p n
    rw [fb_ct_succ]
    split <;> omega
theorem fb_ct_step (p : Nat → Bool) (m : Nat) : ∀ n, fb_ct p m ≤ fb_ct p (m + n)
  | 0 => Nat.le_refl _
  | n + 1 => by
    have h := fb_ct_step p m n
    show fb_ct p m ≤ fb_ct p (m + n + 1)
    rw [fb_ct_succ]
    omega
theorem fb_ct_mono (p : Nat → Bool) {m n : Nat} (h : m ≤ n) : fb_ct p m ≤ fb_ct p n := by
  have := fb_ct_step p m (n - m)
  rwa [Nat.add_sub_cancel' h] at this
theorem fb_ct_cong {p q : Nat → Bool} : ∀ {n : Nat}, (∀ k, k < n → p k = q k) → fb_ct p n = fb_ct q n
  | 0, _ => rfl
  | n + 1, h => by
    rw [fb_ct_succ, fb_ct_succ, fb_ct_cong (fun k hk => h k (by omega)), h n (by omega)]
/-- one place changed -/
theorem fb_ct_out (p : Nat → Bool) (b : Bool) {i n : Nat} (h : n ≤ i) : fb_ct (fun k => if k = i then b else p k) n = fb_ct p n :=
  fb_ct_cong fun k hk => if_neg (by omega)
theorem fb_ct_upd (p : Nat → Bool) (b : Bool) {i : Nat} : ∀ {n : Nat}, i < n → fb_ct (fun k => if k = i then b else p k) n + (if p i then 1 else 0) = fb_ct p n + (if b then 1 else 0)
  | 0, h => absurd h (Nat.not_lt_zero i)
  | n + 1, h => by
    rw [fb_ct_succ, fb_ct_succ]
    rcases Nat.lt_or_ge i n with q | q
    · have := fb_ct_upd p b q
      have e : (if n = i then b else p n) = p n := if_neg (by omega)
      rw [e]
      omega
    · have e : i = n := by omega
      subst e
      rw [fb_ct_out p b (Nat.le_refl _)]
      simp only [if_true]
      omega
theorem fb_ct_sub {p q : Nat → Bool} : ∀ {n : Nat}, (∀ k, k < n → p k = true → q k = true) → fb_ct p n ≤ fb_ct q n
  | 0, _ => Nat.le_refl _
  | n + 1, h => by
    have h1 := fb_ct_sub (n := n) (p := p) (q := q) (fun k hk => h k (by omega))
    have h2 := h n (by omega)
    rw [fb_ct_succ, fb_ct_succ]
    cases hp : p n <;> cases hq : q n <;> simp_all <;> omega
theorem fb_ct_or {p q : Nat → Bool} : ∀ {n : Nat}, (∀ k, k < n → ¬ (p k = true ∧ q k = true)) → fb_ct (fun k => p k || q k) n = fb_ct p n + fb_ct q n
  | 0, _ => rfl
  | n + 1, h => by
    have h1 := fb_ct_or (n := n) (p := p) (q := q) (fun k hk => h k (by omega))
    have h2 := h n (by omega)
    rw [fb_ct_succ, fb_ct_succ, fb_ct_succ, h1]
    cases hp : p n <;> cases hq : q n <;> simp_all <;> omega
theorem fb_ct_not (p : Nat → Bool) : ∀ n, fb_ct p n + fb_ct (fun k => !p k) n = n
  | 0 => rfl
  | n + 1 => by
    have h := fb_ct_not p n
    rw [fb_ct_succ, fb_ct_succ]
    cases p n <;> simp <;> omega
theorem fb_ct_split (p : Nat → Bool) (m : Nat) : ∀ n, fb_ct p (m + n) = fb_ct p m + fb_ct (fun k => p (m + k)) n
  | 0 => rfl
  | n + 1 => by
    have h := fb_ct_split p m n
    show fb_ct p (m + n + 1) = _
    rw [fb_ct_succ, fb_ct_succ, h, Nat.add_assoc]
theorem fb_ct_zero {p : Nat → Bool} : ∀ {n : Nat}, fb_ct p n = 0 ↔ ∀ k, k < n → p k = false
  | 0 => ⟨fun _ k hk => absurd hk (Nat.not_lt_zero k), fun _ => rfl⟩
  | n + 1 => by
    have h := fb_ct_zero (p := p) (n := n)
    rw [fb_ct_succ]
    constructor
    · intro e k hk
      have e1 : fb_ct p n = 0 := by omega
      rcases Nat.lt_or_ge k n with q | q
      · exact h.mp e1 k q
      · have ek : k = n := by omega
        subst ek
        cases hp : p k
        · rfl
        · simp [hp] at e
    · intro a
      rw [h.mpr (fun k hk => a k (by omega)), a n (by omega)]
      rfl
theorem fb_ct_pos {p : Nat → Bool} {n : Nat} : 0 < fb_ct p n ↔ ∃ k, k < n ∧ p k = true := by
  constructor
  · intro h
    refine Classical.byContradiction fun hx => ?_
    have := fb_ct_zero.mpr (fun k hk => by
      cases hp : p k
      · rfl
      · exact absurd ⟨k, hk, hp⟩ hx : ∀ k, k < n → p k = false)
    omega
  · rintro ⟨k, hk, hp⟩
    rcases Nat.eq_zero_or_pos (fb_ct p n) with e | e
    · have := fb_ct_zero.mp e k hk
      rw [this] at hp
      cases hp
    · exact e
theorem fb_ct_all {p : Nat → Bool} {n : Nat} : fb_ct p n = n ↔ ∀ k, k < n → p k = true := by
  have h := fb_ct_not p n
  constructor
  · intro e k hk
    have z : fb_ct (fun k => !p k) n = 0 := by omega
    have := fb_ct_zero.mp z k hk
    cases hp : p k
    · simp [hp] at this
    · rfl
  · intro a
    have z : fb_ct (fun k => !p k) n = 0 := fb_ct_zero.mpr (fun k hk => by simp [a k hk])
    omega
/-- the k-th place with the property -/
theorem fb_ct_kth {p : Nat → Bool} {k : Nat} : ∀ {n : Nat}, k < fb_ct p n → ∃ i, i < n ∧ p i = true ∧ fb_ct p i = k
  | 0, h => absurd h (Nat.not_lt_zero k)
  | n + 1, h => by
    rcases Nat.lt_or_ge k (fb_ct p n) with q | q
    · obtain ⟨i, h1, h2⟩ := fb_ct_kth q
      exact ⟨i, by omega, h2⟩
    · rw [fb_ct_succ] at h
      cases hp : p n
      · simp [hp] at h; omega
      · simp [hp] at h
        exact ⟨n, by omega, hp, by omega⟩
theorem fb_ct_kth_one {p : Nat → Bool} {i j : Nat} (hi : p i = true) (hj : p j = true) (e : fb_ct p i = fb_ct p j) : i = j := by
  have key : ∀ a b : Nat, a < b → p a = true → fb_ct p a < fb_ct p b := by
    intro a b hab ha
    have h := fb_ct_mono p (show a + 1 ≤ b from hab)
    rw [fb_ct_succ, ha] at h
    simp at h
    omega
  rcases Nat.lt_trichotomy i j with q | q | q
  · have := key i j q hi; omega
  · exact q
  · have := key j i q hj; omega
/-! ===== sums over a range: one place changed, parts, bounds ===== -/
def fb_sm (f : Nat → Nat) : Nat → Nat
  | 0 => 0
  | n + 1 => fb_sm f n + f n
theorem fb_sm_succ (f : Nat → Nat) (n : Nat) : fb_sm f (n + 1) = fb_sm f n + f n := rfl
theorem fb_sm_cong {f g : Nat → Nat} : ∀ {n : Nat}, (∀ k, k < n → f k = g k) → fb_sm f n = fb_sm g n
  | 0, _ => rfl
  | n + 1, h => by rw [fb_sm_succ, fb_sm_succ, fb_sm_cong (fun k hk => h k (by omega)), h n (by omega)]
theorem fb_sm_out (f : Nat → Nat) (v : Nat) {i n : Nat} (h : n ≤ i) : fb_sm (fun k => if k = i then v else f k) n = fb_sm f n :=
  fb_sm_cong fun k hk => if_neg (by omega)
theorem fb_sm_upd (f : Nat → Nat) (v : Nat) {i : Nat} : ∀ {n : Nat}, i < n → fb_sm (fun k => if k = i then v else f k) n + f i = fb_sm f n + v
  | 0, h => absurd h (Nat.not_lt_zero i)
  | n + 1, h => by
    rw [fb_sm_succ, fb_sm_succ]
    rcases Nat.lt_or_ge i n with q | q
    · have := fb_sm_upd f v q
      have e : (if n = i then v else f n) = f n := if_neg (by omega)
      rw [e]
      omega
    · have e : i = n := by omega
      subst e
      rw [fb_sm_out f v (Nat.le_refl _)]
      simp only [if_true]
      omega
theorem fb_sm_add (f g : Nat → Nat) : ∀ n, fb_sm (fun k => f k + g k) n = fb_sm f n + fb_sm g n
  | 0 => rfl
  | n + 1 => by
    have h := fb_sm_add f g n
    rw [fb_sm_succ, fb_sm_succ, fb_sm_succ, h]
    omega
theorem fb_sm_le {f g : Nat → Nat} : ∀ {n : Nat}, (∀ k, k < n → f k ≤ g k) → fb_sm f n ≤ fb_sm g n
  | 0, _ => Nat.le_refl _
  | n + 1, h => by
    have h1 := fb_sm_le (n := n) (f := f) (g := g) (fun k hk => h k (by omega))
    have h2 := h n (by omega)
    rw [fb_sm_succ, fb_sm_succ]
    omega
theorem fb_sm_const (c : Nat) : ∀ n, fb_sm (fun _ => c) n = n * c
  | 0 => by rw [Nat.zero_mul]; rfl
  | n + 1 => by rw [fb_sm_succ, fb_sm_const c n, Nat.succ_mul]
theorem fb_sm_bound {f : Nat → Nat} {c n : Nat} (h : ∀ k, k < n → f k ≤ c) : fb_sm f n ≤ n * c := by
  rw [← fb_sm_const c n]
  exact fb_sm_le h
theorem fb_sm_mono (f : Nat → Nat) (m : Nat) : ∀ n, fb_sm f m ≤ fb_sm f (m + n)
  | 0 => Nat.le_refl _
  | n + 1 => by
    have h := fb_sm_mono f m n
    show fb_sm f m ≤ fb_sm f (m + n + 1)
    rw [fb_sm_succ]
    omega
theorem fb_sm_part (f : Nat → Nat) {i n : Nat} (h : i < n) : fb_sm f i + f i ≤ fb_sm f n := by
  have := fb_sm_mono f (i + 1) (n - (i + 1))
  rw [fb_sm_succ, show i + 1 + (n - (i + 1)) = n by omega] at this
  exact this
theorem fb_sm_split (f : Nat → Nat) (m : Nat) : ∀ n, fb_sm f (m + n) = fb_sm f m + fb_sm (fun k => f (m + k)) n
  | 0 => rfl
  | n + 1 => by
    have h := fb_sm_split f m n
    show fb_sm f (m + n + 1) = _
    rw [fb_sm_succ, fb_sm_succ, h, Nat.add_assoc]
theorem fb_sm_zero {f : Nat → Nat} {n : Nat} (h : fb_sm f n = 0) : ∀ k, k < n → f k = 0 := fun k hk => by
  have := fb_sm_part f hk
  omega
/-- the same over whole numbers -/
def fb_si (f : Nat → Int) : Nat → Int
  | 0 => 0
  | n + 1 => fb_si f n + f n
theorem fb_si_succ (f : Nat → Int) (n : Nat) : fb_si f (n + 1) = fb_si f n + f n := rfl
theorem fb_si_cong {f g : Nat → Int} : ∀ {n : Nat}, (∀ k, k < n → f k = g k) → fb_si f n = fb_si g n
  | 0, _ => rfl
  | n + 1, h => by rw [fb_si_succ, fb_si_succ, fb_si_cong (fun k hk => h k (by omega)), h n (by omega)]
theorem fb_si_out (f : Nat → Int) (v : Int) {i n : Nat} (h : n ≤ i) : fb_si (fun k => if k = i then v else f k) n = fb_si f n :=
  fb_si_cong fun k hk => if_neg (by omega)
theorem fb_si_upd (f : Nat → Int) (v : Int) {i : Nat} : ∀ {n : Nat}, i < n → fb_si (fun k => if k = i then v else f k) n = fb_si f n - f i + v
  | 0, h => absurd h (Nat.not_lt_zero i)
  | n + 1, h => by
    rw [fb_si_succ, fb_si_succ]
    rcases Nat.lt_or_ge i n with q | q
    · have := fb_si_upd f v q
      have e : (if n = i then v else f n) = f n := if_neg (by omega)
      rw [e]
      omega
    · have e : i = n := by omega
      subst e
      rw [fb_si_out f v (Nat.le_refl _)]
      simp only [if_true]
      omega
theorem fb_si_add (f g : Nat → Int) : ∀ n, fb_si (fun k => f k + g k) n = fb_si f n + fb_si g n
  | 0 => rfl
  | n + 1 => by
    have h := fb_si_add f g n
    rw [fb_si_succ, fb_si_succ, fb_si_succ, h]
    omega
theorem fb_si_sub (f g : Nat → Int) : ∀ n, fb_si (fun k => f k - g k) n = fb_si f n - fb_si g n
  | 0 => rfl
  | n + 1 => by
    have h := fb_si_sub f g n
    rw [fb_si_succ, fb_si_succ, fb_si_succ, h]
    omega
theorem fb_si_mul (c : Int) (f : Nat → Int) : ∀ n, fb_si (fun k => c * f k) n = c * fb_si f n
  | 0 => (Int.mul_zero c).symm
  | n + 1 => by
    have h := fb_si_mul c f n
    rw [fb_si_succ, fb_si_succ, h, Int.mul_add]
theorem fb_si_split (f : Nat → Int) (m : Nat) : ∀ n, fb_si f (m + n) = fb_si f m + fb_si (fun k => f (m + k)) n
  | 0 => (Int.add_zero _).symm
  | n + 1 => by
    have h := fb_si_split f m n
    show fb_si f (m + n + 1) = _
    rw [fb_si_succ, fb_si_succ, h, Int.add_assoc]
theorem fb_si_nat (f : Nat → Nat) : ∀ n, fb_si (fun k => (f k : Int)) n = (fb_sm f n : Int)
  | 0 => rfl
  | n + 1 => by
    have h := fb_si_nat f n
    rw [fb_si_succ, fb_sm_succ, h]
    omega
theorem fb_si_bound {f : Nat → Int} {c : Int} (hc : 0 ≤ c) : ∀ {n : Nat}, (∀ k, k < n → -c ≤ f k ∧ f k ≤ c) → -(n * c) ≤ fb_si f n ∧ fb_si f n ≤ n * c
  | 0, _ => by simp [fb_si]
  | n + 1, h => by
    have h1 := fb_si_bound (n := n) (f := f) hc (fun k hk => h k (by omega))
    have h2 := h n (by omega)
    have e : ((n + 1 : Nat) : Int) * c = n * c + c := by rw [Int.natCast_add, Int.add_mul]; simp
    rw [fb_si_succ, e]
    omega
/-! ===== bits of a long that isn't negative ===== -/
theorem fb_andL (a b : Nat) : lN a &&& lN b = lN (a &&& b) := by
  apply Int64.toBitVec_inj.1
  show BitVec.ofNat 64 a &&& BitVec.ofNat 64 b = BitVec.ofNat 64 (a &&& b)
  apply BitVec.eq_of_getLsbD_eq
  intro i hi
  simp [hi]
theorem fb_orL (a b : Nat) : lN a ||| lN b = lN (a ||| b) := by
  apply Int64.toBitVec_inj.1
  show BitVec.ofNat 64 a ||| BitVec.ofNat 64 b = BitVec.ofNat 64 (a ||| b)
  apply BitVec.eq_of_getLsbD_eq
  intro i hi
  simp [hi]
theorem fb_xorL (a b : Nat) : lN a ^^^ lN b = lN (a ^^^ b) := by
  apply Int64.toBitVec_inj.1
  show BitVec.ofNat 64 a ^^^ BitVec.ofNat 64 b = BitVec.ofNat 64 (a ^^^ b)
  apply BitVec.eq_of_getLsbD_eq
  intro i hi
  simp [hi]
theorem fb_xorI (a b : Nat) : nI a ^^^ nI b = nI (a ^^^ b) := by
  apply Int32.toBitVec_inj.1
  show BitVec.ofNat 32 a ^^^ BitVec.ofNat 32 b = BitVec.ofNat 32 (a ^^^ b)
  apply BitVec.eq_of_getLsbD_eq
  intro i hi
  simp [hi]
theorem fb_maskL (n k : Nat) : lN n &&& lN (2 ^ k - 1) = lN (n % 2 ^ k) := by rw [fb_andL, Nat.and_two_pow_sub_one_eq_mod]
theorem fb_or_sumL {a k : Nat} (b : Nat) (h : a < 2 ^ k) : lN (2 ^ k * b) ||| lN a = lN (2 ^ k * b + a) := by rw [fb_orL, Nat.two_pow_add_eq_or_of_lt h]
theorem fb_lN_inj {a b : Nat} (ha : a < 2 ^ 63) (hb : b < 2 ^ 63) : lN a = lN b ↔ a = b := by
  constructor
  · intro h
    have h1 : (BitVec.ofNat 64 a).toNat = (BitVec.ofNat 64 b).toNat := congrArg (fun x : Int64 => x.toBitVec.toNat) h
    rw [BitVec.toNat_ofNat, BitVec.toNat_ofNat, Nat.mod_eq_of_lt (by omega), Nat.mod_eq_of_lt (by omega)] at h1
    exact h1
  · rintro rfl; rfl
theorem fb_bit_nat (n j : Nat) : n &&& 2 ^ j = 0 ↔ n.testBit j = false := by
  constructor
  · intro h
    have h1 : (n &&& 2 ^ j).testBit j = false := by rw [h]; simp
    rw [Nat.testBit_and] at h1
    simpa using h1
  · intro h
    apply Nat.eq_of_testBit_eq
    intro i
    rw [Nat.testBit_and]
    by_cases hi : j = i
    · subst hi; simp [h]
    · first | (simp [Nat.testBit_two_pow, hi]; done) | (simp [Nat.testBit_two_pow_of_ne hi]; done)
/-- one bit of a long -/
theorem fb_bitL {n j : Nat} (hj : j < 63) : lN n &&& lN (2 ^ j) = 0 ↔ n.testBit j = false := by
  have h2 : (2 : Nat) ^ j < 2 ^ 63 := Nat.pow_lt_pow_right (by decide) hj
  have hle : n &&& 2 ^ j ≤ 2 ^ j := Nat.and_le_right
  rw [fb_andL, ← fb_bit_nat, show (0 : Int64) = lN 0 from rfl]
  exact fb_lN_inj (by omega) (by decide)
/-- a bit set, a bit taken off -/
theorem fb_bit_set (n j i : Nat) : (n ||| 2 ^ j).testBit i = (n.testBit i || decide (i = j)) := by
  rw [Nat.testBit_or]
  by_cases h : j = i
  · subst h; simp
  · have h2 : ¬ i = j := fun e => h e.symm
    first | (simp [Nat.testBit_two_pow, h, h2]; done) | (simp [Nat.testBit_two_pow_of_ne h, h2]; done)
theorem fb_bit_flip (n j i : Nat) : (n ^^^ 2 ^ j).testBit i = (n.testBit i ^^ decide (i = j)) := by
  rw [Nat.testBit_xor]
  by_cases h : j = i
  · subst h; simp
  · have h2 : ¬ i = j := fun e => h e.symm
    first | (simp [Nat.testBit_two_pow, h, h2]; done) | (simp [Nat.testBit_two_pow_of_ne h, h2]; done)
/-! ===== a stretch of an array written over by a function ===== -/
def fb_put {α : Type} (f g : Nat → α) (a n : Nat) : Nat → α := fun k => if a ≤ k ∧ k < a + n then g (k - a) else f k
theorem fb_put_0 {α : Type} (f g : Nat → α) (a : Nat) : fb_put f g a 0 = f := funext fun k => if_neg (by omega)
theorem fb_put_in {α : Type} {f g : Nat → α} {a n k : Nat} (h1 : a ≤ k) (h2 : k < a + n) : fb_put f g a n k = g (k - a) := if_pos ⟨h1, h2⟩
theorem fb_put_out {α : Type} {f g : Nat → α} {a n k : Nat} (h : k < a ∨ a + n ≤ k) : fb_put f g a n k = f k := if_neg (by omega)
theorem fb_put_succ (f g : Nat → Int32) (a n : Nat) : upd (fb_put f g a n) (a + n) (g n) = fb_put f g a (n + 1) := by
  funext k
  by_cases h : k = a + n
  · subst h
    simp [upd, fb_put]
  · by_cases h1 : a ≤ k ∧ k < a + n
    · have h2 : a ≤ k ∧ k < a + (n + 1) := by omega
      simp only [upd, fb_put, if_neg h, if_pos h1, if_pos h2]
    · have h2 : ¬ (a ≤ k ∧ k < a + (n + 1)) := by omega
      simp only [upd, fb_put, if_neg h, if_neg h1, if_neg h2]
/-- .. from the far end down -/
theorem fb_put_down (f g : Nat → Int32) {a n m : Nat} (h : m < n) : upd (fb_put f (fun k => g (k + (m + 1))) (a + (m + 1)) (n - (m + 1))) (a + m) (g m) = fb_put f (fun k => g (k + m)) (a + m) (n - m) := by
  funext k
  by_cases h0 : k = a + m
  · subst h0
    simp only [upd, if_true]
    rw [fb_put_in (by omega) (by omega)]
    exact congrArg g (by omega)
  · simp only [upd, if_neg h0]
    by_cases h1 : a + (m + 1) ≤ k ∧ k < a + (m + 1) + (n - (m + 1))
    · rw [fb_put_in h1.1 h1.2, fb_put_in (by omega) (by omega)]
      exact congrArg g (by omega)
    · rw [fb_put_out (by omega), fb_put_out (by omega)]
theorem fb_put_cong {α : Type} {f f2 g g2 : Nat → α} {a n : Nat} (hf : ∀ k, (k < a ∨ a + n ≤ k) → f k = f2 k) (hg : ∀ k, k < n → g k = g2 k) : fb_put f g a n = fb_put f2 g2 a n := by
  funext k
  by_cases h : a ≤ k ∧ k < a + n
  · rw [fb_put_in h.1 h.2, fb_put_in h.1 h.2, hg _ (by omega)]
  · rw [fb_put_out (by omega), fb_put_out (by omega), hf _ (by omega)]
/-! ===== the least, the first, the best so far; that there is one alone ===== -/
theorem fb_first {p : Nat → Prop} [DecidablePred p] : ∀ {n : Nat}, (∃ i, i < n ∧ p i) → ∃ i, i < n ∧ p i ∧ ∀ j, j < i → ¬ p j
  | 0, h => by obtain ⟨i, hi, -⟩ := h; exact absurd hi (Nat.not_lt_zero i)
  | n + 1, h => by
    by_cases q : ∃ i, i < n ∧ p i
    · obtain ⟨i, h1, h2⟩ := fb_first q
      exact ⟨i, by omega, h2⟩
    · obtain ⟨i, h1, h2⟩ := h
      have e : i = n := by
        rcases Nat.lt_or_ge i n with r | r
        · exact absurd ⟨i, r, h2⟩ q
        · omega
      subst e
      exact ⟨i, by omega, h2, fun j hj hp => q ⟨j, hj, hp⟩⟩
theorem fb_first_one {p : Nat → Prop} {i j : Nat} (hi : p i) (hi2 : ∀ k, k < i → ¬ p k) (hj : p j) (hj2 : ∀ k, k < j → ¬ p k) : i = j := by
  rcases Nat.lt_trichotomy i j with q | q | q
  · exact absurd hi (hj2 i q)
  · exact q
  · exact absurd hj (hi2 j q)
theorem fb_last {p : Nat → Prop} [DecidablePred p] : ∀ {n : Nat}, (∃ i, i < n ∧ p i) → ∃ i, i < n ∧ p i ∧ ∀ j, i < j → j < n → ¬ p j
  | 0, h => by obtain ⟨i, hi, -⟩ := h; exact absurd hi (Nat.not_lt_zero i)
  | n + 1, h => by
    by_cases q : p n
    · exact ⟨n, by omega, q, fun j h1 h2 => by omega⟩
    · obtain ⟨i, h1, h2⟩ := h
      have hi : i < n := by
        rcases Nat.lt_or_ge i n with r | r
        · exact r
        · have e : i = n := by omega
          subst e
          exact absurd h2 q
      obtain ⟨i2, a1, a2, a3⟩ := fb_last (n := n) ⟨i, hi, h2⟩
      refine ⟨i2, by omega, a2, fun j b1 b2 => ?_⟩
      rcases Nat.lt_or_ge j n with r | r
      · exact a3 j b1 r
      · have e : j = n := by omega
        subst e
        exact q
/-- the first greatest -/
theorem fb_best (f : Nat → Int) : ∀ {n : Nat}, 0 < n → ∃ i, i < n ∧ (∀ j, j < n → f j ≤ f i) ∧ ∀ j, j < i → f j < f i
  | 0, h => absurd h (Nat.lt_irrefl 0)
  | 1, _ => ⟨0, by omega, fun j hj => by have e : j = 0 := by omega
                                         subst e; exact Int.le_refl _, fun j hj => absurd hj (Nat.not_lt_zero j)⟩
  | n + 2, _ => by
    obtain ⟨i, h1, h2, h3⟩ := fb_best f (n := n + 1) (by omega)
    by_cases q : f i < f (n + 1)
    · refine ⟨n + 1, by omega, fun j hj => ?_, fun j hj => ?_⟩
      · rcases Nat.lt_or_ge j (n + 1) with r | r
        · have := h2 j r; omega
        · have e : j = n + 1 := by omega
          subst e; exact Int.le_refl _
      · have := h2 j hj; omega
    · refine ⟨i, by omega, fun j hj => ?_, h3⟩
      rcases Nat.lt_or_ge j (n + 1) with r | r
      · exact h2 j r
      · have e : j = n + 1 := by omega
        subst e; omega
theorem fb_best_one {f : Nat → Int} {n i j : Nat} (hi : i < n) (hi2 : ∀ k, k < n → f k ≤ f i) (hi3 : ∀ k, k < i → f k < f i) (hj : j < n) (hj2 : ∀ k, k < n → f k ≤ f j) (hj3 : ∀ k, k < j → f k < f j) : i = j := by
  rcases Nat.lt_trichotomy i j with q | q | q
  · have a := hj3 i q
    have b := hi2 j hj
    omega
  · exact q
  · have a := hi3 j q
    have b := hj2 i hi
    omega
/-- the first least -/
theorem fb_low (f : Nat → Int) {n : Nat} (h : 0 < n) : ∃ i, i < n ∧ (∀ j, j < n → f i ≤ f j) ∧ ∀ j, j < i → f i < f j := by
  obtain ⟨i, h1, h2, h3⟩ := fb_best (fun k => -f k) h
  exact ⟨i, h1, fun j hj => by have := h2 j hj; omega, fun j hj => by have := h3 j hj; omega⟩
/-! ===== signed ints as whole numbers, within bounds ===== -/
theorem fb_rng (x : Int32) : -2147483648 ≤ x.toInt ∧ x.toInt < 2147483648 := by
  have h1 := Int32.le_toInt x
  have h2 := Int32.toInt_lt x
  omega
theorem fb_bmod {z : Int} (h1 : -2147483648 ≤ z) (h2 : z < 2147483648) : z.bmod (2 ^ 32) = z := by
  rw [Int.bmod_eq_of_le (by omega) (by omega)]
theorem fb_addI {x y : Int32} (h1 : -2147483648 ≤ x.toInt + y.toInt) (h2 : x.toInt + y.toInt < 2147483648) : (x + y).toInt = x.toInt + y.toInt := by
  rw [Int32.toInt_add, fb_bmod h1 h2]
theorem fb_subI {x y : Int32} (h1 : -2147483648 ≤ x.toInt - y.toInt) (h2 : x.toInt - y.toInt < 2147483648) : (x - y).toInt = x.toInt - y.toInt := by
  rw [Int32.toInt_sub, fb_bmod h1 h2]
theorem fb_mulI {x y : Int32} (h1 : -2147483648 ≤ x.toInt * y.toInt) (h2 : x.toInt * y.toInt < 2147483648) : (x * y).toInt = x.toInt * y.toInt := by
  rw [Int32.toInt_mul, fb_bmod h1 h2]
theorem fb_negI {x : Int32} (h : x.toInt ≠ -2147483648) : (-x).toInt = -x.toInt := by
  have := fb_rng x
  rw [Int32.toInt_neg, fb_bmod (by omega) (by omega)]
theorem fb_ofI {z : Int} (h1 : -2147483648 ≤ z) (h2 : z < 2147483648) : (Int32.ofInt z).toInt = z := by
  rw [Int32.toInt_ofInt, fb_bmod h1 h2]
theorem fb_asI (x : Int32) : Int32.ofInt x.toInt = x := Int32.ofInt_toInt x
theorem fb_rngL (x : Int64) : -9223372036854775808 ≤ x.toInt ∧ x.toInt < 9223372036854775808 := by
  have h1 := Int64.le_toInt x
  have h2 := Int64.toInt_lt x
  omega
theorem fb_bmodL {z : Int} (h1 : -9223372036854775808 ≤ z) (h2 : z < 9223372036854775808) : z.bmod (2 ^ 64) = z := by
  rw [Int.bmod_eq_of_le (by omega) (by omega)]
theorem fb_addL {x y : Int64} (h1 : -9223372036854775808 ≤ x.toInt + y.toInt) (h2 : x.toInt + y.toInt < 9223372036854775808) : (x + y).toInt = x.toInt + y.toInt := by
  rw [Int64.toInt_add, fb_bmodL h1 h2]
theorem fb_subL {x y : Int64} (h1 : -9223372036854775808 ≤ x.toInt - y.toInt) (h2 : x.toInt - y.toInt < 9223372036854775808) : (x - y).toInt = x.toInt - y.toInt := by
  rw [Int64.toInt_sub, fb_bmodL h1 h2]
theorem fb_mulL {x y : Int64} (h1 : -9223372036854775808 ≤ x.toInt * y.toInt) (h2 : x.toInt * y.toInt < 9223372036854775808) : (x * y).toInt = x.toInt * y.toInt := by
  rw [Int64.toInt_mul, fb_bmodL h1 h2]
/-! ===== cuts of what is narrow already ===== -/
theorem fb_byte {x : Int32} (h1 : -128 ≤ x.toInt) (h2 : x.toInt < 128) : x.toInt8.toInt32 = x := by
  apply Int32.toInt_inj.1
  rw [Int8.toInt_toInt32, Int32.toInt_toInt8, Int.bmod_eq_of_le (by omega) (by omega)]
theorem fb_short {x : Int32} (h1 : -32768 ≤ x.toInt) (h2 : x.toInt < 32768) : x.toInt16.toInt32 = x := by
  apply Int32.toInt_inj.1
  rw [Int16.toInt_toInt32, Int32.toInt_toInt16, Int.bmod_eq_of_le (by omega) (by omega)]
theorem fb_byte_rng (x : Int32) : -128 ≤ x.toInt8.toInt32.toInt ∧ x.toInt8.toInt32.toInt < 128 := by
  rw [Int8.toInt_toInt32]
  have h1 := Int8.le_toInt x.toInt8
  have h2 := Int8.toInt_lt x.toInt8
  omega
theorem fb_short_rng (x : Int32) : -32768 ≤ x.toInt16.toInt32.toInt ∧ x.toInt16.toInt32.toInt < 32768 := by
  rw [Int16.toInt_toInt32]
  have h1 := Int16.le_toInt x.toInt16
  have h2 := Int16.toInt_lt x.toInt16
  omega
theorem fb_byte_twice (x : Int32) : x.toInt8.toInt32.toInt8.toInt32 = x.toInt8.toInt32 := fb_byte (fb_byte_rng x).1 (fb_byte_rng x).2
theorem fb_short_twice (x : Int32) : x.toInt16.toInt32.toInt16.toInt32 = x.toInt16.toInt32 := fb_short (fb_short_rng x).1 (fb_short_rng x).2
theorem fb_char {n : Nat} (h : n < 65536) : (nI n).toUInt32.toUInt16.toUInt32.toInt32 = nI n := by
  apply Int32.toBitVec_inj.1
  apply BitVec.eq_of_toNat_eq
  have e1 : (nI n).toBitVec.toNat = n := by
    show (BitVec.ofNat 32 n).toNat = n
    rw [BitVec.toNat_ofNat, Nat.mod_eq_of_lt (by omega)]
  have e2 : ((nI n).toUInt32.toUInt16.toUInt32).toNat = n := by
    rw [UInt16.toNat_toUInt32, UInt32.toNat_toUInt16]
    show (nI n).toBitVec.toNat % 2 ^ 16 = n
    rw [e1, Nat.mod_eq_of_lt (by omega)]
  rw [e1]
  exact e2
end
section
/-! the numbers that both classes compute -/
/-- an octet: an int of 0 .. 255 -/
def zO (x : Int32) : Prop := ∃ y : Nat, y < 256 ∧ x = nI y
theorem zO_and {x : Int32} (h : zO x) : x &&& nI 255 = x := by
  obtain ⟨y, hy, rfl⟩ := h
  rw [pk_andN (n := y) (by omega) (m := nI 255) 8 rfl, Nat.mod_eq_of_lt hy]
theorem zO_of (x : Int32) : zO (x &&& nI 255) := by
  obtain ⟨j, h, e⟩ := pk_andE x (m := nI 255) 8 rfl
  exact ⟨j, h, e⟩
theorem zO_0 : zO (nI 0) := ⟨0, by decide, rfl⟩
/-- octet i of a row of n; 0 behind -/
def zat (f : Nat → Int32) (n i : Nat) : Int32 := if i < n then f i else nI 0
theorem zat_in {f : Nat → Int32} {n i : Nat} (h : i < n) : zat f n i = f i := if_pos h
theorem zat_out {f : Nat → Int32} {n i : Nat} (h : n ≤ i) : zat f n i = nI 0 := if_neg (Nat.not_lt.mpr h)
def zfour (f : Nat → Int32) (n i : Nat) : Int32 := ((zat f n i ||| (zat f n (i + 1) <<< (nI 8 &&& 31))) ||| (zat f n (i + 2) <<< (nI 16 &&& 31))) ||| (zat f n (i + 3) <<< (nI 24 &&& 31))
/-- k octets from d before on, behind n -/
def zrep (f : Nat → Int32) (n d : Nat) : Nat → Nat → Int32
  | 0 => f
  | k + 1 => upd (zrep f n d k) (n + k) (zrep f n d k (n + k - d))
theorem upd_at {f : Nat → Int32} {k : Nat} {x : Int32} : upd f k x k = x := pk_us
theorem upd_ne {f : Nat → Int32} {k j : Nat} {x : Int32} (h : j ≠ k) : upd f k x j = f j := pk_un h
theorem zrep_low (f : Nat → Int32) (n d : Nat) : ∀ (k j : Nat), j < n → zrep f n d k j = f j
  | 0, _, _ => rfl
  | k + 1, j, h => by rw [zrep, upd_ne (by omega), zrep_low f n d k j h]
theorem zrep_O (f : Nat → Int32) {n d : Nat} (hd : 0 < d) (hdn : d ≤ n) (h : ∀ j, j < n → zO (f j)) : ∀ (k j : Nat), j < n + k → zO (zrep f n d k j)
  | 0, j, hj => h j hj
  | k + 1, j, hj => by
    rw [zrep]
    by_cases e : j = n + k
    · rw [e, upd_at]; exact zrep_O f hd hdn h k _ (by omega)
    · rw [upd_ne e]; exact zrep_O f hd hdn h k j (by omega)
/-! the disk: words by block -/
def kNum (w : Nat → Int32) (b : Nat) : Int32 := w (8 * b)
def kTag (w : Nat → Int32) (b : Nat) : Int32 := w (8 * b + 1)
def kPart (w : Nat → Int32) (b : Nat) : Int32 := kTag w b &&& nI 255
def kParts (w : Nat → Int32) (b : Nat) : Int32 := (kTag w b >>> (nI 8 &&& 31)) &&& nI 255
def kForm (w : Nat → Int32) (b : Nat) : Int32 := kTag w b >>> (nI 16 &&& 31)
def kKey (w : Nat → Int32) (b : Nat) : Int32 := w (8 * b + 2)
def kOct (w : Nat → Int32) (b : Nat) : Int32 := w (8 * b + 3)
def kGr (w : Nat → Int32) : Nat → Int32
  | 0 => nI 0
  | n + 1 => if kGr w n < kNum w n then kNum w n else kGr w n
def zAny (q : Nat → Bool) : Nat → Bool
  | 0 => false
  | n + 1 => zAny q n || q n
theorem zAny_t {q : Nat → Bool} : ∀ {n : Nat}, zAny q n = true ↔ ∃ k, k < n ∧ q k = true
  | 0 => by simp [zAny]
  | n + 1 => by
    rw [zAny, Bool.or_eq_true, zAny_t]
    constructor
    · rintro (⟨k, h1, h2⟩ | h)
      · exact ⟨k, by omega, h2⟩
      · exact ⟨n, by omega, h⟩
    · rintro ⟨k, h1, h2⟩
      rcases Nat.lt_or_ge k n with h | h
      · exact Or.inl ⟨k, h, h2⟩
      · exact Or.inr (by rw [show n = k by omega]; exact h2)
theorem zAny_f {q : Nat → Bool} {n : Nat} (h : ∀ k, k < n → q k = false) : zAny q n = false := by
  rcases Bool.eq_false_or_eq_true (zAny q n) with e | e
  · obtain ⟨k, h1, h2⟩ := zAny_t.mp e
    rw [h k h1] at h2; cases h2
  · exact e
/-- the first place below n, or n -/
def zFst (q : Nat → Bool) : Nat → Nat
  | 0 => 0
  | n + 1 => if zFst q n < n then zFst q n else if q n then n else n + 1
theorem zFst_le (q : Nat → Bool) : ∀ n, zFst q n ≤ n
  | 0 => Nat.le_refl _
  | n + 1 => by
    have := zFst_le q n
    rw [zFst]; split
    · omega
    · split <;> omega
theorem zFst_is {q : Nat → Bool} : ∀ {n k : Nat}, k < n → q k = true → (∀ j, j < k → q j = false) → zFst q n = k
  | 0, k, h, _, _ => absurd h (Nat.not_lt_zero _)
  | n + 1, k, h, hk, hj => by
    rw [zFst]
    rcases Nat.lt_or_ge k n with q1 | q1
    · rw [zFst_is q1 hk hj, if_pos q1]
    · have e : k = n := by omega
      subst e
      have hn : zFst q k = k := by
        have h1 := zFst_le q k
        rcases Nat.lt_or_ge (zFst q k) k with h2 | h2
        · have : ∀ m, m ≤ k → zFst q m = m := by
            intro m
            induction m with
            | zero => intro _; rfl
            | succ m ih => intro hm; rw [zFst, ih (by omega), if_neg (Nat.lt_irrefl _), hj m (by omega)]; rfl
          exact this k (Nat.le_refl _)
        · omega
      rw [hn, if_neg (Nat.lt_irrefl _), hk]; rfl
theorem zFst_no {q : Nat → Bool} : ∀ {n : Nat}, (∀ j, j < n → q j = false) → zFst q n = n
  | 0, _ => rfl
  | n + 1, h => by rw [zFst, zFst_no (fun j hj => h j (by omega)), if_neg (Nat.lt_irrefl _), h n (by omega)]; rfl
theorem zFst_yes {q : Nat → Bool} : ∀ {n : Nat}, zFst q n < n → q (zFst q n) = true
  | 0, h => absurd h (Nat.not_lt_zero _)
  | n + 1, h => by
    have h1 := zFst_le q n
    rw [zFst] at h ⊢
    split
    · rename_i h2; exact zFst_yes h2
    · rename_i h2
      rw [if_neg h2] at h
      split
      · assumption
      · rename_i h3; rw [if_neg h3] at h; exact absurd h (Nat.lt_irrefl _)
theorem zFst_bel {q : Nat → Bool} : ∀ {n j : Nat}, j < zFst q n → q j = false
  | 0, j, h => absurd h (Nat.not_lt_zero _)
  | n + 1, j, h => by
    have h1 := zFst_le q n
    rw [zFst] at h
    split at h
    · exact zFst_bel h
    · rename_i h2
      have e : zFst q n = n := by omega
      split at h
      · exact zFst_bel (n := n) (by omega)
      · rename_i h3
        rcases Nat.lt_or_ge j n with h4 | h4
        · exact zFst_bel (n := n) (by omega)
        · rw [show j = n by omega]; exact Bool.eq_false_iff.mpr h3
/-- a first place as an int; -1 where there is none below n -/
def zFI (k n : Nat) : Int32 := if k < n then nI k else (-1)
def kSame (w : Nat → Int32) (b k : Nat) : Bool := decide (kNum w k = kNum w b)
def kAll (w : Nat → Int32) (b : Nat) : Bool := decide (nI (fb_ct (kSame w b) 64) = kParts w b)
def kWh (w : Nat → Int32) (b : Nat) : Bool := !decide (kNum w b = nI 0) && kAll w b
def kOd (w : Nat → Int32) (b k : Nat) : Bool := kWh w k && (decide (kKey w k = kKey w b) && decide (kNum w b < kNum w k))
def kOut (w : Nat → Int32) (b : Nat) : Bool := zAny (kOd w b) 64
def kLive (w : Nat → Int32) (b : Nat) : Bool := kWh w b && !kOut w b
def kText (L : Nat → Bool) (w : Nat → Int32) (b : Nat) : Bool := L b && (decide (kPart w b = nI 0) && !decide (kForm w b = nI 2))
def kGrave (L : Nat → Bool) (w : Nat → Int32) (b : Nat) : Bool := L b && decide (kForm w b = nI 2)
def kLeft (L : Nat → Bool) (w : Nat → Int32) (b : Nat) : Bool := !L b && !decide (kNum w b = nI 0)
def kIs (L : Nat → Bool) (w : Nat → Int32) (key : Int32) (b : Nat) : Bool := L b && (decide (kPart w b = nI 0) && decide (kKey w b = key))
def kTB (L : Nat → Bool) (w : Nat → Int32) (key : Int32) (b : Nat) : Bool := kText L w b && decide (kKey w b < key)
def kBelow (L : Nat → Bool) (w : Nat → Int32) (key : Int32) : Nat := fb_ct (kTB L w key) 64
def kRank (L : Nat → Bool) (w : Nat → Int32) (r : Int32) (b : Nat) : Bool := kText L w b && decide (nI (kBelow L w (kKey w b)) = r)
def kAt (w : Nat → Int32) (r q : Int32) (b : Nat) : Bool := decide (kNum w b = r) && decide (kPart w b = q)
def kDec (x : Int32) : Int32 := x - bI (decide (nI 0 < x))
theorem kDec_p {x : Int32} (h : nI 0 < x) : x - nI 1 = kDec x := by rw [kDec, decide_eq_true h]; rfl
theorem i_sub0 (x : Int32) : x - nI 0 = x := by show x - 0 = x; exact Int32.sub_zero x
theorem kDec_n {x : Int32} (h : ¬ nI 0 < x) : x = kDec x := by rw [kDec, decide_eq_false h]; exact (i_sub0 x).symm
theorem kct_y {q : Nat → Bool} {k : Nat} (h : q k = true) : fb_ct q k + 1 = fb_ct q (k + 1) := by rw [fb_ct_succ, h]; rfl
theorem kct_n {q : Nat → Bool} {k : Nat} (h : q k = false) : fb_ct q k = fb_ct q (k + 1) := by rw [fb_ct_succ, h]; rfl
theorem zFI_y {q : Nat → Bool} {n k : Nat} (hk : k < n) (h : q k = true) (hj : ∀ j, j < k → q j = false) : nI k = zFI (zFst q n) n := by rw [zFst_is hk h hj, zFI, if_pos hk]
theorem zFI_n {q : Nat → Bool} {n : Nat} (hj : ∀ j, j < n → q j = false) : (-1 : Int32) = zFI (zFst q n) n := by rw [zFst_no hj, zFI, if_neg (Nat.lt_irrefl _)]
theorem lt_step {q : Nat → Bool} {k : Nat} (h : ∀ j, j < k → q j = false) (hk : q k = false) : ∀ j, j < k + 1 → q j = false := fun j hj => by
  rcases Nat.lt_or_ge j k with e | e
  · exact h j e
  · rw [show j = k by omega]; exact hk
theorem arr_step {F : Nat → Int32} {g : Nat → Int32} {k : Nat} {x : Int32} (h : ∀ j, j < k → F j = g j) (hx : x = g k) : ∀ j, j < k + 1 → upd F k x j = g j := fun j hj => by
  by_cases e : j = k
  · rw [e, upd_at]; exact hx
  · rw [upd_ne e]; exact h j (by omega)
theorem no_lt0 {p : Nat → Prop} : ∀ j, j < 0 → p j := fun j h => absurd h (Nat.not_lt_zero j)
theorem b_and_f1 {x y : Bool} (h : x = false) : (x && y) = false := by rw [h]; rfl
theorem b_and_f2 {x y : Bool} (h : y = false) : (x && y) = false := by rw [h]; exact Bool.and_false x
theorem b_and_t {x y : Bool} (h : x = true) (h2 : y = true) : (x && y) = true := by rw [h, h2]; rfl
theorem d_t {c : Prop} [Decidable c] (h : c) : decide c = true := decide_eq_true h
theorem d_f {c : Prop} [Decidable c] (h : ¬ c) : decide c = false := decide_eq_false h
theorem nd_f {c : Prop} [Decidable c] (h : c) : (!decide c) = false := by rw [decide_eq_true h]; rfl
theorem nd_t {c : Prop} [Decidable c] (h : ¬ c) : (!decide c) = true := by rw [decide_eq_false h]; rfl
theorem n_f {x : Bool} (h : x = true) : (!x) = false := by rw [h]; rfl
theorem n_t {x : Bool} (h : x = false) : (!x) = true := by rw [h]; rfl
end
section
set_option maxHeartbeats 4000000 in
set_option maxRecDepth 100000 in
theorem c_X3_size (l : Launch) (dC : Nat → ClassId) (dI : Nat → Nat → Nat) (cyI cyZ : ClassId) (qo qa : Nat) (f : Nat → Int32) (n : Nat)  : Met l yX3_size wsX3_size ({ frames := 0, cells := 0, slots := 0, locals := 0 }) (va_Pc [.ref qo] (fun U => va_P (dC, dI) vwCl [(qo, .inr (2, [.ref qa, .int (nI n)])), (qa, .inl (cyI, 450, .inl f))] U.heap ∧ va_K (dC, dI) vwCl [(cyI, .int), (cyZ, .boolean)] U)) (vp_Si (fun r => r = nI n)) 0 0 (fun _ => False) := by
  refine Met.ofW (cc := cX3_size) (maxL := 1) (ret := (some .int)) (by decide) rfl ?_
  intro pz ez sS mM args below meth cC s₁ B hml hv
  obtain ⟨rfl, hP, hK⟩ := hv
  have hx := B.exec
  have hb := B.bytes
  have hr := B.returns
  have hts := atoms_spec (ws := wsX3_size) B.pre
  have hown : sS.vm.findClass RX3 = some mM.cls := findClass_of_methodNamed B.named
  have hlocks := B.notSynchronized
  have iwX3 : ∀ w ∈ wsX30, w ∈ wsX3_size := by decide +kernel
  have fk15 := hts (.fieldLink RX3 15 "CodedStore$Octets" "size" "I") (by decide +kernel)
  have hl := lv_entry ([.ref qo]) (n := 1) (Nat.le_of_ble_eq_true rfl)
  rw [lg_entry_eq]
  generalize (lg_sl ([.ref qo]) ++ List.replicate (1 - (lg_sl ([.ref qo])).length) Slot.unset).toArray = ls at hl ⊢
  have hl : lv_has ls 1 [(0, .ref qo)] := hl
  refine lv_aload_n hx hb dX3_size_0 rfl (lv_at hl 0 rfl) ?_
  refine va_get (D := (dC, dI)) (ci := 2) (v := .int (nI n)) (C := RX3) (T := TX3) (N := 2) hx hb hts iwX3 hown hK hP 0 rfl rfl 1 (by decide) fk15 (fun _ h9 => h9) rfl dX3_size_1 ?_
  have hret : nI n = nI n := rfl
  refine zz_top hret ?_
  exact W.iret hx hb hr (fun tS ht hW => ⟨_, rfl, rfl, ht⟩) (fun _ h => nomatch h) dX3_size_4
set_option maxHeartbeats 4000000 in
set_option maxRecDepth 100000 in
theorem c_X3_empty (l : Launch) (dC : Nat → ClassId) (dI : Nat → Nat → Nat) (cyI cyZ : ClassId) (qo qa : Nat) (sz : Nat) (f : Nat → Int32) (n : Nat)  : Met l yX3_empty wsX3_empty ({ frames := 0, cells := 0, slots := 0, locals := 0 }) (va_Pc [.ref qo] (fun U => U.heap.size = sz ∧ va_P (dC, dI) vwCl [(qo, .inr (2, [.ref qa, .int (nI n)])), (qa, .inl (cyI, 450, .inl f))] U.heap ∧ va_K (dC, dI) vwCl [(cyI, .int), (cyZ, .boolean)] U ∧ va_D (fun _ => True) [(qo, .inr (2, [.ref qa, .int (nI n)])), (qa, .inl (cyI, 450, .inl f))])) (va_Qv (S := Unit) (fun (_ : Unit) => True) (fun (_ : Unit) tS => va_P (dC, dI) vwCl [(qo, .inr (2, [.ref qa, .int (nI 0)])), (qa, .inl (cyI, 450, .inl f))] tS.heap ∧ va_K (dC, dI) vwCl [(cyI, .int), (cyZ, .boolean)] tS ∧ va_D (va_A [(qo, .inr (2, [.ref qa, .int (nI n)])), (qa, .inl (cyI, 450, .inl f))] sz) [(qo, .inr (2, [.ref qa, .int (nI 0)])), (qa, .inl (cyI, 450, .inl f))]) (va_A [(qo, .inr (2, [.ref qa, .int (nI n)])), (qa, .inl (cyI, 450, .inl f))] sz)) 0 0 (va_A [(qo, .inr (2, [.ref qa, .int (nI n)])), (qa, .inl (cyI, 450, .inl f))] sz) := by
  refine Met.ofW (cc := cX3_empty) (maxL := 1) (ret := none) (by decide) rfl ?_
  intro pz ez sS mM args below meth cC s₁ B hml hv
  obtain ⟨rfl, hsz, hP, hK, hD0⟩ := hv
  have hx := B.exec
  have hb := B.bytes
  have hr := B.returns
  have hts := atoms_spec (ws := wsX3_empty) B.pre
  have hown : sS.vm.findClass RX3 = some mM.cls := findClass_of_methodNamed B.named
  have hlocks := B.notSynchronized
  subst hsz
  have hD := hD0.self (sz := sS.heap.size)
  generalize hAe : va_A [(qo, .inr (2, [.ref qa, .int (nI n)])), (qa, .inl (cyI, 450, .inl f))] sS.heap.size = A at hD ⊢
  have hA : ∀ q : Nat, sS.heap.size ≤ q → A q := fun q h => by rw [← hAe]; exact Or.inr h
  have hS : va_S A sS.heap sS.heap [] := va_S.rf
  have hP : va_P (dC, dI) vwCl [(qo, .inr (2, [.ref qa, .int (nI n)])), (qa, .inl (cyI, 450, .inl f))] sS.heap := hP
  have iwX3 : ∀ w ∈ wsX30, w ∈ wsX3_empty := by decide +kernel
  have fk15 := hts (.fieldLink RX3 15 "CodedStore$Octets" "size" "I") (by decide +kernel)
  have hl := lv_entry ([.ref qo]) (n := 1) (Nat.le_of_ble_eq_true rfl)
  rw [lg_entry_eq]
  generalize (lg_sl ([.ref qo]) ++ List.replicate (1 - (lg_sl ([.ref qo])).length) Slot.unset).toArray = ls at hl ⊢
  have hl : lv_has ls 1 [(0, .ref qo)] := hl
  refine lv_aload_n hx hb dX3_empty_0 rfl (lv_at hl 0 rfl) ?_
  refine lv_iconst (v := nI 0) hx hb dX3_empty_1 (by decide) ?_
  refine va_put (D := (dC, dI)) (ci := 2) (v := .int (nI 0)) (ty := .int) (C := RX3) (T := TX3) (N := 2) hx hb hts iwX3 tyX3 tyX3_ok nmX3 hown hK hP hD hS 0 rfl rfl 1 (by decide) fk15 (fun _ h9 => h9) rfl (by decide +kernel) rfl rfl (Nat.le_of_ble_eq_true rfl) dX3_empty_2 (fun H locs hP hD hS => ?_)
  have hP : va_P (dC, dI) vwCl [(qo, .inr (2, [.ref qa, .int (nI 0)])), (qa, .inl (cyI, 450, .inl f))] H := hP
  have hD : va_D A [(qo, .inr (2, [.ref qa, .int (nI 0)])), (qa, .inl (cyI, 450, .inl f))] := hD
  have hP9 := hP.sub (ws' := [(qo, .inr (2, [.ref qa, .int (nI 0)])), (qa, .inl (cyI, 450, .inl f))]) [0, 1] rfl
  have hD9 := hD.sub (ws' := [(qo, .inr (2, [.ref qa, .int (nI 0)])), (qa, .inl (cyI, 450, .inl f))]) [0, 1] (by decide) rfl
  have hK9 := hK.sub (tys' := [(cyI, .int), (cyZ, .boolean)]) [0, 1] rfl
  exact W.vret hx hb hr (fun tS ht hW => ⟨⟨(), rfl, trivial, by rw [ht]; exact hP9, va_K.moved hW.alike hK9, hD9⟩, hS.F ht⟩) hS.2.2 dX3_empty_5
set_option maxHeartbeats 4000000 in
set_option maxRecDepth 100000 in
theorem c_X3_append (l : Launch) (dC : Nat → ClassId) (dI : Nat → Nat → Nat) (cyI cyZ : ClassId) (qo qa : Nat) (sz : Nat) (f : Nat → Int32) (n : Nat) (v : Int32) (hn : n < 450) : Met l yX3_append wsX3_append ({ frames := 0, cells := 0, slots := 0, locals := 0 }) (va_Pc [.ref qo, .int v] (fun U => U.heap.size = sz ∧ va_P (dC, dI) vwCl [(qo, .inr (2, [.ref qa, .int (nI n)])), (qa, .inl (cyI, 450, .inl f))] U.heap ∧ va_K (dC, dI) vwCl [(cyI, .int), (cyZ, .boolean)] U ∧ va_D (fun _ => True) [(qo, .inr (2, [.ref qa, .int (nI n)])), (qa, .inl (cyI, 450, .inl f))])) (va_Qv (S := Unit) (fun (_ : Unit) => True) (fun (_ : Unit) tS => va_P (dC, dI) vwCl [(qo, .inr (2, [.ref qa, .int (nI (n + 1))])), (qa, .inl (cyI, 450, .inl (upd f n (v &&& nI 255))))] tS.heap ∧ va_K (dC, dI) vwCl [(cyI, .int), (cyZ, .boolean)] tS ∧ va_D (va_A [(qo, .inr (2, [.ref qa, .int (nI n)])), (qa, .inl (cyI, 450, .inl f))] sz) [(qo, .inr (2, [.ref qa, .int (nI (n + 1))])), (qa, .inl (cyI, 450, .inl (upd f n (v &&& nI 255))))]) (va_A [(qo, .inr (2, [.ref qa, .int (nI n)])), (qa, .inl (cyI, 450, .inl f))] sz)) 0 0 (va_A [(qo, .inr (2, [.ref qa, .int (nI n)])), (qa, .inl (cyI, 450, .inl f))] sz) := by
  refine Met.ofW (cc := cX3_append) (maxL := 2) (ret := none) (by decide) rfl ?_
  intro pz ez sS mM args below meth cC s₁ B hml hv
  obtain ⟨rfl, hsz, hP, hK, hD0⟩ := hv
  have hx := B.exec
  have hb := B.bytes
  have hr := B.returns
  have hts := atoms_spec (ws := wsX3_append) B.pre
  have hown : sS.vm.findClass RX3 = some mM.cls := findClass_of_methodNamed B.named
  have hlocks := B.notSynchronized
  subst hsz
  have hD := hD0.self (sz := sS.heap.size)
  generalize hAe : va_A [(qo, .inr (2, [.ref qa, .int (nI n)])), (qa, .inl (cyI, 450, .inl f))] sS.heap.size = A at hD ⊢
  have hA : ∀ q : Nat, sS.heap.size ≤ q → A q := fun q h => by rw [← hAe]; exact Or.inr h
  have hS : va_S A sS.heap sS.heap [] := va_S.rf
  have hP : va_P (dC, dI) vwCl [(qo, .inr (2, [.ref qa, .int (nI n)])), (qa, .inl (cyI, 450, .inl f))] sS.heap := hP
  have iwX3 : ∀ w ∈ wsX30, w ∈ wsX3_append := by decide +kernel
  have fk9 := hts (.fieldLink RX3 9 "CodedStore$Octets" "octets" "[I") (by decide +kernel)
  have fk15 := hts (.fieldLink RX3 15 "CodedStore$Octets" "size" "I") (by decide +kernel)
  have hl := lv_entry ([.ref qo, .int v]) (n := 2) (Nat.le_of_ble_eq_true rfl)
  rw [lg_entry_eq]
  generalize (lg_sl ([.ref qo, .int v]) ++ List.replicate (2 - (lg_sl ([.ref qo, .int v])).length) Slot.unset).toArray = ls at hl ⊢
  have hl : lv_has ls 2 [(0, .ref qo), (1, .int v)] := hl
  refine lv_aload_n hx hb dX3_append_0 rfl (lv_at hl 0 rfl) ?_
  refine va_get (D := (dC, dI)) (ci := 2) (v := .int (nI n)) (C := RX3) (T := TX3) (N := 2) hx hb hts iwX3 hown hK hP 0 rfl rfl 1 (by decide) fk15 (fun _ h9 => h9) rfl dX3_append_1 ?_
  refine zn_if_lt (tgt := 43) hx hb dX3_append_4 (by decide) (by omega) ?_
  refine lv_aload_n hx hb dX3_append_7 rfl (lv_at hl 0 rfl) ?_
  refine va_get (D := (dC, dI)) (ci := 2) (v := .int (nI n)) (C := RX3) (T := TX3) (N := 2) hx hb hts iwX3 hown hK hP 0 rfl rfl 1 (by decide) fk15 (fun _ h9 => h9) rfl dX3_append_8 ?_
  refine lv_aload_n hx hb dX3_append_11 rfl (lv_at hl 0 rfl) ?_
  refine va_get (D := (dC, dI)) (ci := 2) (v := .ref qa) (C := RX3) (T := TX3) (N := 2) hx hb hts iwX3 hown hK hP 0 rfl rfl 0 (by decide) fk9 (fun _ h9 => h9) rfl dX3_append_12 ?_
  refine va_alen (v := nI 450) hx hb hK hP 1 0 rfl rfl rfl dX3_append_15 ?_
  refine zn_icmp_ge (tgt := 43) hx hb dX3_append_16 (by decide) (by omega) (by omega) (fun c_16 => ?_) (fun c_16 => ?_)
  ·
    exfalso
    omega
  ·
    refine lv_aload_n hx hb dX3_append_19 rfl (lv_at hl 0 rfl) ?_
    refine va_get (D := (dC, dI)) (ci := 2) (v := .ref qa) (C := RX3) (T := TX3) (N := 2) hx hb hts iwX3 hown hK hP 0 rfl rfl 0 (by decide) fk9 (fun _ h9 => h9) rfl dX3_append_20 ?_
    refine lv_aload_n hx hb dX3_append_23 rfl (lv_at hl 0 rfl) ?_
    refine va_get (D := (dC, dI)) (ci := 2) (v := .int (nI n)) (C := RX3) (T := TX3) (N := 2) hx hb hts iwX3 hown hK hP 0 rfl rfl 1 (by decide) fk15 (fun _ h9 => h9) rfl dX3_append_24 ?_
    refine lv_iload_n hx hb dX3_append_27 rfl (lv_at hl 1 rfl) ?_
    refine lv_sipush (v := nI 255) hx hb dX3_append_28 (by decide) ?_
    refine lv_iand hx hb dX3_append_31 ?_
    refine va_iast hx hb hK hP hD hS 1 0 rfl rfl (vp_in_nI (n := n) (by omega) (by decide)) dX3_append_32 (fun H locs hP hD hS => ?_)
    rw [nI_clamp (n := n) (by omega)] at hP hD
    have hP : va_P (dC, dI) vwCl [(qo, .inr (2, [.ref qa, .int (nI n)])), (qa, .inl (cyI, 450, .inl (upd f n (v &&& (nI 255)))))] H := hP
    have hD : va_D A [(qo, .inr (2, [.ref qa, .int (nI n)])), (qa, .inl (cyI, 450, .inl (upd f n (v &&& (nI 255)))))] := hD
    refine lv_aload_n hx hb dX3_append_33 rfl (lv_at hl 0 rfl) ?_
    refine lv_dup hx hb dX3_append_34 rfl ?_
    refine va_get (D := (dC, dI)) (ci := 2) (v := .int (nI n)) (C := RX3) (T := TX3) (N := 2) hx hb hts iwX3 hown hK hP 0 rfl rfl 1 (by decide) fk15 (fun _ h9 => h9) rfl dX3_append_35 ?_
    refine lv_iconst (v := nI 1) hx hb dX3_append_38 (by decide) ?_
    refine lv_iadd hx hb dX3_append_39 ?_
    refine zz_top (nI_add n 1) ?_
    refine va_put (D := (dC, dI)) (ci := 2) (v := .int (nI (n + 1))) (ty := .int) (C := RX3) (T := TX3) (N := 2) hx hb hts iwX3 tyX3 tyX3_ok nmX3 hown hK hP hD hS 0 rfl rfl 1 (by decide) fk15 (fun _ h9 => h9) rfl (by decide +kernel) rfl rfl (Nat.le_of_ble_eq_true rfl) dX3_append_40 (fun H locs hP hD hS => ?_)
    have hP : va_P (dC, dI) vwCl [(qo, .inr (2, [.ref qa, .int (nI (n + 1))])), (qa, .inl (cyI, 450, .inl (upd f n (v &&& (nI 255)))))] H := hP
    have hD : va_D A [(qo, .inr (2, [.ref qa, .int (nI (n + 1))])), (qa, .inl (cyI, 450, .inl (upd f n (v &&& (nI 255)))))] := hD
    -- qa : .inl (cyI, 450, .inl (upd f n (v &&& (nI 255))))  ~  .inl (cyI, 450, .inl (upd f n (v &&& nI 255)))
    have hP9 := hP.sub (ws' := [(qo, .inr (2, [.ref qa, .int (nI (n + 1))])), (qa, .inl (cyI, 450, .inl (upd f n (v &&& nI 255))))]) [0, 1] rfl
    have hD9 := hD.sub (ws' := [(qo, .inr (2, [.ref qa, .int (nI (n + 1))])), (qa, .inl (cyI, 450, .inl (upd f n (v &&& nI 255))))]) [0, 1] (by decide) rfl
    have hK9 := hK.sub (tys' := [(cyI, .int), (cyZ, .boolean)]) [0, 1] rfl
    exact W.vret hx hb hr (fun tS ht hW => ⟨⟨(), rfl, trivial, by rw [ht]; exact hP9, va_K.moved hW.alike hK9, hD9⟩, hS.F ht⟩) hS.2.2 dX3_append_43
set_option maxHeartbeats 4000000 in
set_option maxRecDepth 100000 in
theorem c_X3_at (l : Launch) (dC : Nat → ClassId) (dI : Nat → Nat → Nat) (cyI cyZ : ClassId) (qo qa : Nat) (f : Nat → Int32) (n i : Nat) (hn : n ≤ 450) (hi : i < 2147483648) : Met l yX3_at wsX3_at ({ frames := 0, cells := 0, slots := 0, locals := 0 }) (va_Pc [.ref qo, .int (nI i)] (fun U => va_P (dC, dI) vwCl [(qo, .inr (2, [.ref qa, .int (nI n)])), (qa, .inl (cyI, 450, .inl f))] U.heap ∧ va_K (dC, dI) vwCl [(cyI, .int), (cyZ, .boolean)] U)) (vp_Si (fun r => r = zat f n i)) 0 0 (fun _ => False) := by
  refine Met.ofW (cc := cX3_at) (maxL := 2) (ret := (some .int)) (by decide) rfl ?_
  intro pz ez sS mM args below meth cC s₁ B hml hv
  obtain ⟨rfl, hP, hK⟩ := hv
  have hx := B.exec
  have hb := B.bytes
  have hr := B.returns
  have hts := atoms_spec (ws := wsX3_at) B.pre
  have hown : sS.vm.findClass RX3 = some mM.cls := findClass_of_methodNamed B.named
  have hlocks := B.notSynchronized
  have iwX3 : ∀ w ∈ wsX30, w ∈ wsX3_at := by decide +kernel
  have fk9 := hts (.fieldLink RX3 9 "CodedStore$Octets" "octets" "[I") (by decide +kernel)
  have fk15 := hts (.fieldLink RX3 15 "CodedStore$Octets" "size" "I") (by decide +kernel)
  have hl := lv_entry ([.ref qo, .int (nI i)]) (n := 2) (Nat.le_of_ble_eq_true rfl)
  rw [lg_entry_eq]
  generalize (lg_sl ([.ref qo, .int (nI i)]) ++ List.replicate (2 - (lg_sl ([.ref qo, .int (nI i)])).length) Slot.unset).toArray = ls at hl ⊢
  have hl : lv_has ls 2 [(0, .ref qo), (1, .int (nI i))] := hl
  refine lv_iload_n hx hb dX3_at_0 rfl (lv_at hl 1 rfl) ?_
  refine zn_if_lt (tgt := 21) hx hb dX3_at_1 (by decide) (by omega) ?_
  refine lv_iload_n hx hb dX3_at_4 rfl (lv_at hl 1 rfl) ?_
  refine lv_aload_n hx hb dX3_at_5 rfl (lv_at hl 0 rfl) ?_
  refine va_get (D := (dC, dI)) (ci := 2) (v := .int (nI n)) (C := RX3) (T := TX3) (N := 2) hx hb hts iwX3 hown hK hP 0 rfl rfl 1 (by decide) fk15 (fun _ h9 => h9) rfl dX3_at_6 ?_
  refine zn_icmp_ge (tgt := 21) hx hb dX3_at_9 (by decide) (by omega) (by omega) (fun c_9 => ?_) (fun c_9 => ?_)
  ·
    refine lv_iconst (v := nI 0) hx hb dX3_at_21 (by decide) ?_
    have hret : nI 0 = zat f n i := (zat_out (by omega)).symm
    refine zz_top hret ?_
    exact W.iret hx hb hr (fun tS ht hW => ⟨_, rfl, rfl, ht⟩) (fun _ h => nomatch h) dX3_at_22
  ·
    refine lv_iload_n hx hb dX3_at_12 rfl (lv_at hl 1 rfl) ?_
    refine lv_aload_n hx hb dX3_at_13 rfl (lv_at hl 0 rfl) ?_
    refine va_get (D := (dC, dI)) (ci := 2) (v := .ref qa) (C := RX3) (T := TX3) (N := 2) hx hb hts iwX3 hown hK hP 0 rfl rfl 0 (by decide) fk9 (fun _ h9 => h9) rfl dX3_at_14 ?_
    refine va_alen (v := nI 450) hx hb hK hP 1 0 rfl rfl rfl dX3_at_17 ?_
    refine zn_icmp_lt (tgt := 23) hx hb dX3_at_18 (by decide) (by omega) (by omega) (fun c_18 => ?_) (fun c_18 => ?_)
    ·
      refine lv_aload_n hx hb dX3_at_23 rfl (lv_at hl 0 rfl) ?_
      refine va_get (D := (dC, dI)) (ci := 2) (v := .ref qa) (C := RX3) (T := TX3) (N := 2) hx hb hts iwX3 hown hK hP 0 rfl rfl 0 (by decide) fk9 (fun _ h9 => h9) rfl dX3_at_24 ?_
      refine lv_iload_n hx hb dX3_at_27 rfl (lv_at hl 1 rfl) ?_
      refine va_iald hx hb hK hP 1 0 rfl rfl (vp_in_nI (n := i) (by omega) (by decide)) dX3_at_28 ?_
      refine zz_top (congrArg f (nI_clamp (n := i) (by omega))) ?_
      have hret : f i = zat f n i := (zat_in (by omega)).symm
      refine zz_top hret ?_
      exact W.iret hx hb hr (fun tS ht hW => ⟨_, rfl, rfl, ht⟩) (fun _ h => nomatch h) dX3_at_29
    ·
      refine lv_iconst (v := nI 0) hx hb dX3_at_21 (by decide) ?_
      have hret : nI 0 = zat f n i := (zat_out (by omega)).symm
      refine zz_top hret ?_
      exact W.iret hx hb hr (fun tS ht hW => ⟨_, rfl, rfl, ht⟩) (fun _ h => nomatch h) dX3_at_22
set_option maxHeartbeats 4000000 in
set_option maxRecDepth 100000 in
theorem c_X3_at_in (l : Launch) (dC : Nat → ClassId) (dI : Nat → Nat → Nat) (cyI cyZ : ClassId) (qo qa : Nat) (f : Nat → Int32) (n i : Nat) (hn : n ≤ 450) (hi : i < n) : Met l yX3_at wsX3_at ({ frames := 0, cells := 0, slots := 0, locals := 0 }) (va_Pc [.ref qo, .int (nI i)] (fun U => va_P (dC, dI) vwCl [(qo, .inr (2, [.ref qa, .int (nI n)])), (qa, .inl (cyI, 450, .inl f))] U.heap ∧ va_K (dC, dI) vwCl [(cyI, .int), (cyZ, .boolean)] U)) (vp_Si (fun r => r = f i)) 0 0 (fun _ => False) := by
  refine Met.ofW (cc := cX3_at) (maxL := 2) (ret := (some .int)) (by decide) rfl ?_
  intro pz ez sS mM args below meth cC s₁ B hml hv
  obtain ⟨rfl, hP, hK⟩ := hv
  have hx := B.exec
  have hb := B.bytes
  have hr := B.returns
  have hts := atoms_spec (ws := wsX3_at) B.pre
  have hown : sS.vm.findClass RX3 = some mM.cls := findClass_of_methodNamed B.named
  have hlocks := B.notSynchronized
  have iwX3 : ∀ w ∈ wsX30, w ∈ wsX3_at := by decide +kernel
  have fk9 := hts (.fieldLink RX3 9 "CodedStore$Octets" "octets" "[I") (by decide +kernel)
  have fk15 := hts (.fieldLink RX3 15 "CodedStore$Octets" "size" "I") (by decide +kernel)
  have hl := lv_entry ([.ref qo, .int (nI i)]) (n := 2) (Nat.le_of_ble_eq_true rfl)
  rw [lg_entry_eq]
  generalize (lg_sl ([.ref qo, .int (nI i)]) ++ List.replicate (2 - (lg_sl ([.ref qo, .int (nI i)])).length) Slot.unset).toArray = ls at hl ⊢
  have hl : lv_has ls 2 [(0, .ref qo), (1, .int (nI i))] := hl
  refine lv_iload_n hx hb dX3_at_0 rfl (lv_at hl 1 rfl) ?_
  refine zn_if_lt (tgt := 21) hx hb dX3_at_1 (by decide) (by omega) ?_
  refine lv_iload_n hx hb dX3_at_4 rfl (lv_at hl 1 rfl) ?_
  refine lv_aload_n hx hb dX3_at_5 rfl (lv_at hl 0 rfl) ?_
  refine va_get (D := (dC, dI)) (ci := 2) (v := .int (nI n)) (C := RX3) (T := TX3) (N := 2) hx hb hts iwX3 hown hK hP 0 rfl rfl 1 (by decide) fk15 (fun _ h9 => h9) rfl dX3_at_6 ?_
  refine zn_icmp_ge (tgt := 21) hx hb dX3_at_9 (by decide) (by omega) (by omega) (fun c_9 => ?_) (fun c_9 => ?_)
  ·
    exfalso
    omega
  ·
    refine lv_iload_n hx hb dX3_at_12 rfl (lv_at hl 1 rfl) ?_
    refine lv_aload_n hx hb dX3_at_13 rfl (lv_at hl 0 rfl) ?_
    refine va_get (D := (dC, dI)) (ci := 2) (v := .ref qa) (C := RX3) (T := TX3) (N := 2) hx hb hts iwX3 hown hK hP 0 rfl rfl 0 (by decide) fk9 (fun _ h9 => h9) rfl dX3_at_14 ?_
    refine va_alen (v := nI 450) hx hb hK hP 1 0 rfl rfl rfl dX3_at_17 ?_
    refine zn_icmp_lt (tgt := 23) hx hb dX3_at_18 (by decide) (by omega) (by omega) (fun c_18 => ?_) (fun c_18 => ?_)
    ·
      refine lv_aload_n hx hb dX3_at_23 rfl (lv_at hl 0 rfl) ?_
      refine va_get (D := (dC, dI)) (ci := 2) (v := .ref qa) (C := RX3) (T := TX3) (N := 2) hx hb hts iwX3 hown hK hP 0 rfl rfl 0 (by decide) fk9 (fun _ h9 => h9) rfl dX3_at_24 ?_
      refine lv_iload_n hx hb dX3_at_27 rfl (lv_at hl 1 rfl) ?_
      refine va_iald hx hb hK hP 1 0 rfl rfl (vp_in_nI (n := i) (by omega) (by decide)) dX3_at_28 ?_
      refine zz_top (congrArg f (nI_clamp (n := i) (by omega))) ?_
      have hret : f i = f i := rfl
      refine zz_top hret ?_
      exact W.iret hx hb hr (fun tS ht hW => ⟨_, rfl, rfl, ht⟩) (fun _ h => nomatch h) dX3_at_29
    ·
      exfalso
      omega
set_option maxHeartbeats 4000000 in
set_option maxRecDepth 100000 in
theorem c_X3_setBit (l : Launch) (dC : Nat → ClassId) (dI : Nat → Nat → Nat) (cyI cyZ : ClassId) (qo qa : Nat) (sz : Nat) (f : Nat → Int32) (n i b : Nat) (hn : n ≤ 450) (hi : i < n) (hb9 : b < 8) : Met l yX3_setBit wsX3_setBit ({ frames := 0, cells := 0, slots := 0, locals := 0 }) (va_Pc [.ref qo, .int (nI i), .int (nI b)] (fun U => U.heap.size = sz ∧ va_P (dC, dI) vwCl [(qo, .inr (2, [.ref qa, .int (nI n)])), (qa, .inl (cyI, 450, .inl f))] U.heap ∧ va_K (dC, dI) vwCl [(cyI, .int), (cyZ, .boolean)] U ∧ va_D (fun _ => True) [(qo, .inr (2, [.ref qa, .int (nI n)])), (qa, .inl (cyI, 450, .inl f))])) (va_Qv (S := Unit) (fun (_ : Unit) => True) (fun (_ : Unit) tS => va_P (dC, dI) vwCl [(qo, .inr (2, [.ref qa, .int (nI n)])), (qa, .inl (cyI, 450, .inl (upd f i (f i ||| (nI 1 <<< (nI b &&& 31))))))] tS.heap ∧ va_K (dC, dI) vwCl [(cyI, .int), (cyZ, .boolean)] tS ∧ va_D (va_A [(qo, .inr (2, [.ref qa, .int (nI n)])), (qa, .inl (cyI, 450, .inl f))] sz) [(qo, .inr (2, [.ref qa, .int (nI n)])), (qa, .inl (cyI, 450, .inl (upd f i (f i ||| (nI 1 <<< (nI b &&& 31))))))]) (va_A [(qo, .inr (2, [.ref qa, .int (nI n)])), (qa, .inl (cyI, 450, .inl f))] sz)) 0 0 (va_A [(qo, .inr (2, [.ref qa, .int (nI n)])), (qa, .inl (cyI, 450, .inl f))] sz) := by
  refine Met.ofW (cc := cX3_setBit) (maxL := 3) (ret := none) (by decide) rfl ?_
  intro pz ez sS mM args below meth cC s₁ B hml hv
  obtain ⟨rfl, hsz, hP, hK, hD0⟩ := hv
  have hx := B.exec
  have hb := B.bytes
  have hr := B.returns
  have hts := atoms_spec (ws := wsX3_setBit) B.pre
  have hown : sS.vm.findClass RX3 = some mM.cls := findClass_of_methodNamed B.named
  have hlocks := B.notSynchronized
  subst hsz
  have hD := hD0.self (sz := sS.heap.size)
  generalize hAe : va_A [(qo, .inr (2, [.ref qa, .int (nI n)])), (qa, .inl (cyI, 450, .inl f))] sS.heap.size = A at hD ⊢
  have hA : ∀ q : Nat, sS.heap.size ≤ q → A q := fun q h => by rw [← hAe]; exact Or.inr h
  have hS : va_S A sS.heap sS.heap [] := va_S.rf
  have hP : va_P (dC, dI) vwCl [(qo, .inr (2, [.ref qa, .int (nI n)])), (qa, .inl (cyI, 450, .inl f))] sS.heap := hP
  have iwX3 : ∀ w ∈ wsX30, w ∈ wsX3_setBit := by decide +kernel
  have fk9 := hts (.fieldLink RX3 9 "CodedStore$Octets" "octets" "[I") (by decide +kernel)
  have fk15 := hts (.fieldLink RX3 15 "CodedStore$Octets" "size" "I") (by decide +kernel)
  have hl := lv_entry ([.ref qo, .int (nI i), .int (nI b)]) (n := 3) (Nat.le_of_ble_eq_true rfl)
  rw [lg_entry_eq]
  generalize (lg_sl ([.ref qo, .int (nI i), .int (nI b)]) ++ List.replicate (3 - (lg_sl ([.ref qo, .int (nI i), .int (nI b)])).length) Slot.unset).toArray = ls at hl ⊢
  have hl : lv_has ls 3 [(0, .ref qo), (1, .int (nI i)), (2, .int (nI b))] := hl
  refine lv_iload_n hx hb dX3_setBit_0 rfl (lv_at hl 1 rfl) ?_
  refine zn_if_lt (tgt := 33) hx hb dX3_setBit_1 (by decide) (by omega) ?_
  refine lv_iload_n hx hb dX3_setBit_4 rfl (lv_at hl 1 rfl) ?_
  refine lv_aload_n hx hb dX3_setBit_5 rfl (lv_at hl 0 rfl) ?_
  refine va_get (D := (dC, dI)) (ci := 2) (v := .int (nI n)) (C := RX3) (T := TX3) (N := 2) hx hb hts iwX3 hown hK hP 0 rfl rfl 1 (by decide) fk15 (fun _ h9 => h9) rfl dX3_setBit_6 ?_
  refine zn_icmp_ge (tgt := 33) hx hb dX3_setBit_9 (by decide) (by omega) (by omega) (fun c_9 => ?_) (fun c_9 => ?_)
  ·
    exfalso
    omega
  ·
    refine lv_iload_n hx hb dX3_setBit_12 rfl (lv_at hl 1 rfl) ?_
    refine lv_aload_n hx hb dX3_setBit_13 rfl (lv_at hl 0 rfl) ?_
    refine va_get (D := (dC, dI)) (ci := 2) (v := .ref qa) (C := RX3) (T := TX3) (N := 2) hx hb hts iwX3 hown hK hP 0 rfl rfl 0 (by decide) fk9 (fun _ h9 => h9) rfl dX3_setBit_14 ?_
    refine va_alen (v := nI 450) hx hb hK hP 1 0 rfl rfl rfl dX3_setBit_17 ?_
    refine zn_icmp_ge (tgt := 33) hx hb dX3_setBit_18 (by decide) (by omega) (by omega) (fun c_18 => ?_) (fun c_18 => ?_)
    ·
      exfalso
      omega
    ·
      refine lv_aload_n hx hb dX3_setBit_21 rfl (lv_at hl 0 rfl) ?_
      refine va_get (D := (dC, dI)) (ci := 2) (v := .ref qa) (C := RX3) (T := TX3) (N := 2) hx hb hts iwX3 hown hK hP 0 rfl rfl 0 (by decide) fk9 (fun _ h9 => h9) rfl dX3_setBit_22 ?_
      refine lv_iload_n hx hb dX3_setBit_25 rfl (lv_at hl 1 rfl) ?_
      refine lv_dup2_11 hx hb dX3_setBit_26 rfl rfl ?_
      refine va_iald hx hb hK hP 1 0 rfl rfl (vp_in_nI (n := i) (by omega) (by decide)) dX3_setBit_27 ?_
      refine zz_top (congrArg f (nI_clamp (n := i) (by omega))) ?_
      refine lv_iconst (v := nI 1) hx hb dX3_setBit_28 (by decide) ?_
      refine lv_iload_n hx hb dX3_setBit_29 rfl (lv_at hl 2 rfl) ?_
      refine lv_ishl hx hb dX3_setBit_30 ?_
      refine lv_ior hx hb dX3_setBit_31 ?_
      refine va_iast hx hb hK hP hD hS 1 0 rfl rfl (vp_in_nI (n := i) (by omega) (by decide)) dX3_setBit_32 (fun H locs hP hD hS => ?_)
      rw [nI_clamp (n := i) (by omega)] at hP hD
      have hP : va_P (dC, dI) vwCl [(qo, .inr (2, [.ref qa, .int (nI n)])), (qa, .inl (cyI, 450, .inl (upd f i ((f i) ||| ((nI 1) <<< ((nI b) &&& 31))))))] H := hP
      have hD : va_D A [(qo, .inr (2, [.ref qa, .int (nI n)])), (qa, .inl (cyI, 450, .inl (upd f i ((f i) ||| ((nI 1) <<< ((nI b) &&& 31))))))] := hD
      -- qa : .inl (cyI, 450, .inl (upd f i ((f i) ||| ((nI 1) <<< ((nI b) &&& 31)))))  ~  .inl (cyI, 450, .inl (upd f i (f i ||| (nI 1 <<< (nI b &&& 31)))))
      have hP9 := hP.sub (ws' := [(qo, .inr (2, [.ref qa, .int (nI n)])), (qa, .inl (cyI, 450, .inl (upd f i (f i ||| (nI 1 <<< (nI b &&& 31))))))]) [0, 1] rfl
      have hD9 := hD.sub (ws' := [(qo, .inr (2, [.ref qa, .int (nI n)])), (qa, .inl (cyI, 450, .inl (upd f i (f i ||| (nI 1 <<< (nI b &&& 31))))))]) [0, 1] (by decide) rfl
      have hK9 := hK.sub (tys' := [(cyI, .int), (cyZ, .boolean)]) [0, 1] rfl
      exact W.vret hx hb hr (fun tS ht hW => ⟨⟨(), rfl, trivial, by rw [ht]; exact hP9, va_K.moved hW.alike hK9, hD9⟩, hS.F ht⟩) hS.2.2 dX3_setBit_33
set_option maxHeartbeats 4000000 in
set_option maxRecDepth 100000 in
theorem c_X3_fourFrom (l : Launch) (dC : Nat → ClassId) (dI : Nat → Nat → Nat) (cyI cyZ : ClassId) (qo qa : Nat) (f : Nat → Int32) (n i : Nat) (hn : n ≤ 450) (hi : i < 2147483600) : Met l yX3_fourFrom wsX3_fourFrom ({ frames := 1, cells := 0, slots := 0, locals := 21 }) (va_Pc [.ref qo, .int (nI i)] (fun U => va_P (dC, dI) vwCl [(qo, .inr (2, [.ref qa, .int (nI n)])), (qa, .inl (cyI, 450, .inl f))] U.heap ∧ va_K (dC, dI) vwCl [(cyI, .int), (cyZ, .boolean)] U)) (vp_Si (fun r => r = zfour f n i)) 0 0 (fun _ => False) := by
  refine Met.ofW (cc := cX3_fourFrom) (maxL := 2) (ret := (some .int)) (by decide) rfl ?_
  intro pz ez sS mM args below meth cC s₁ B hml hv
  obtain ⟨rfl, hP, hK⟩ := hv
  have hx := B.exec
  have hb := B.bytes
  have hr := B.returns
  have hts := atoms_spec (ws := wsX3_fourFrom) B.pre
  have hown : sS.vm.findClass RX3 = some mM.cls := findClass_of_methodNamed B.named
  have hlocks := B.notSynchronized
  have hl := lv_entry ([.ref qo, .int (nI i)]) (n := 2) (Nat.le_of_ble_eq_true rfl)
  rw [lg_entry_eq]
  generalize (lg_sl ([.ref qo, .int (nI i)]) ++ List.replicate (2 - (lg_sl ([.ref qo, .int (nI i)])).length) Slot.unset).toArray = ls at hl ⊢
  have hl : lv_has ls 2 [(0, .ref qo), (1, .int (nI i))] := hl
  refine lv_aload_n hx hb dX3_fourFrom_0 rfl (lv_at hl 0 rfl) ?_
  refine lv_iload_n hx hb dX3_fourFrom_1 rfl (lv_at hl 1 rfl) ?_
  have hPc := hP.sub (ws' := [(qo, .inr (2, [.ref qa, .int (nI n)])), (qa, .inl (cyI, 450, .inl f))]) [0, 1] rfl
  have hKc := hK.sub (tys' := [(cyI, .int), (cyZ, .boolean)]) [0, 1] rfl
  refine vp_callSi (va_Run.run (va_runV (As := [.int (nI i)]) (rest := []) ⟨hx, hb, hml, hown, hts⟩ (c_X3_at l dC dI cyI cyZ qo qa f n i (by omega) (by omega)) (cwV 1 hts gX3_fourFrom_X3_at rfl rfl rfl (by decide +kernel) ⟨Nat.le_of_ble_eq_true rfl, Nat.le_of_ble_eq_true rfl⟩) ⟨zz_blR, va_recv hKc hPc (ci := 2) (q0 := 0) rfl rfl, fun U hU hW => ⟨rfl, by rw [hU]; exact hPc, va_K.moved hW.alike hKc⟩⟩ rfl rfl hl.1 rfl (lv_room (Nat.le_of_ble_eq_true rfl)) dX3_fourFrom_2 ⟨Nat.zero_le _, Nat.zero_le _⟩)) (fun r_2 hr_2 => ?_)
  have hr_2 : r_2 = zat f n i := hr_2
  subst hr_2
  refine lv_aload_n hx hb dX3_fourFrom_5 rfl (lv_at hl 0 rfl) ?_
  refine lv_iload_n hx hb dX3_fourFrom_6 rfl (lv_at hl 1 rfl) ?_
  refine lv_iconst (v := nI 1) hx hb dX3_fourFrom_7 (by decide) ?_
  refine lv_iadd hx hb dX3_fourFrom_8 ?_
  refine zz_top (nI_add i 1) ?_
  have hPc := hP.sub (ws' := [(qo, .inr (2, [.ref qa, .int (nI n)])), (qa, .inl (cyI, 450, .inl f))]) [0, 1] rfl
  have hKc := hK.sub (tys' := [(cyI, .int), (cyZ, .boolean)]) [0, 1] rfl
  refine vp_callSi (va_Run.run (va_runV (As := [.int (nI (i + 1))]) (rest := [.int (zat f n i)]) ⟨hx, hb, hml, hown, hts⟩ (c_X3_at l dC dI cyI cyZ qo qa f n (i + 1) (by omega) (by omega)) (cwV 1 hts gX3_fourFrom_X3_at rfl rfl rfl (by decide +kernel) ⟨Nat.le_of_ble_eq_true rfl, Nat.le_of_ble_eq_true rfl⟩) ⟨zz_blR, va_recv hKc hPc (ci := 2) (q0 := 0) rfl rfl, fun U hU hW => ⟨rfl, by rw [hU]; exact hPc, va_K.moved hW.alike hKc⟩⟩ rfl rfl hl.1 rfl (lv_room (Nat.le_of_ble_eq_true rfl)) dX3_fourFrom_9 ⟨Nat.zero_le _, Nat.zero_le _⟩)) (fun r_9 hr_9 => ?_)
  have hr_9 : r_9 = zat f n (i + 1) := hr_9
  subst hr_9
  refine lv_bipush (v := nI 8) hx hb dX3_fourFrom_12 (by decide) ?_
  refine lv_ishl hx hb dX3_fourFrom_14 ?_
  refine lv_ior hx hb dX3_fourFrom_15 ?_
  refine lv_aload_n hx hb dX3_fourFrom_16 rfl (lv_at hl 0 rfl) ?_
  refine lv_iload_n hx hb dX3_fourFrom_17 rfl (lv_at hl 1 rfl) ?_
  refine lv_iconst (v := nI 2) hx hb dX3_fourFrom_18 (by decide) ?_
  refine lv_iadd hx hb dX3_fourFrom_19 ?_
  refine zz_top (nI_add i 2) ?_
  have hPc := hP.sub (ws' := [(qo, .inr (2, [.ref qa, .int (nI n)])), (qa, .inl (cyI, 450, .inl f))]) [0, 1] rfl
  have hKc := hK.sub (tys' := [(cyI, .int), (cyZ, .boolean)]) [0, 1] rfl
  refine vp_callSi (va_Run.run (va_runV (As := [.int (nI (i + 2))]) (rest := [.int ((zat f n i) ||| ((zat f n (i + 1)) <<< ((nI 8) &&& 31)))]) ⟨hx, hb, hml, hown, hts⟩ (c_X3_at l dC dI cyI cyZ qo qa f n (i + 2) (by omega) (by omega)) (cwV 1 hts gX3_fourFrom_X3_at rfl rfl rfl (by decide +kernel) ⟨Nat.le_of_ble_eq_true rfl, Nat.le_of_ble_eq_true rfl⟩) ⟨zz_blR, va_recv hKc hPc (ci := 2) (q0 := 0) rfl rfl, fun U hU hW => ⟨rfl, by rw [hU]; exact hPc, va_K.moved hW.alike hKc⟩⟩ rfl rfl hl.1 rfl (lv_room (Nat.le_of_ble_eq_true rfl)) dX3_fourFrom_20 ⟨Nat.zero_le _, Nat.zero_le _⟩)) (fun r_20 hr_20 => ?_)
  have hr_20 : r_20 = zat f n (i + 2) := hr_20
  subst hr_20
  refine lv_bipush (v := nI 16) hx hb dX3_fourFrom_23 (by decide) ?_
  refine lv_ishl hx hb dX3_fourFrom_25 ?_
  refine lv_ior hx hb dX3_fourFrom_26 ?_
  refine lv_aload_n hx hb dX3_fourFrom_27 rfl (lv_at hl 0 rfl) ?_
  refine lv_iload_n hx hb dX3_fourFrom_28 rfl (lv_at hl 1 rfl) ?_
  refine lv_iconst (v := nI 3) hx hb dX3_fourFrom_29 (by decide) ?_
  refine lv_iadd hx hb dX3_fourFrom_30 ?_
  refine zz_top (nI_add i 3) ?_
  have hPc := hP.sub (ws' := [(qo, .inr (2, [.ref qa, .int (nI n)])), (qa, .inl (cyI, 450, .inl f))]) [0, 1] rfl
  have hKc := hK.sub (tys' := [(cyI, .int), (cyZ, .boolean)]) [0, 1] rfl
  refine vp_callSi (va_Run.run (va_runV (As := [.int (nI (i + 3))]) (rest := [.int (((zat f n i) ||| ((zat f n (i + 1)) <<< ((nI 8) &&& 31))) ||| ((zat f n (i + 2)) <<< ((nI 16) &&& 31)))]) ⟨hx, hb, hml, hown, hts⟩ (c_X3_at l dC dI cyI cyZ qo qa f n (i + 3) (by omega) (by omega)) (cwV 1 hts gX3_fourFrom_X3_at rfl rfl rfl (by decide +kernel) ⟨Nat.le_of_ble_eq_true rfl, Nat.le_of_ble_eq_true rfl⟩) ⟨zz_blR, va_recv hKc hPc (ci := 2) (q0 := 0) rfl rfl, fun U hU hW => ⟨rfl, by rw [hU]; exact hPc, va_K.moved hW.alike hKc⟩⟩ rfl rfl hl.1 rfl (lv_room (Nat.le_of_ble_eq_true rfl)) dX3_fourFrom_31 ⟨Nat.zero_le _, Nat.zero_le _⟩)) (fun r_31 hr_31 => ?_)
  have hr_31 : r_31 = zat f n (i + 3) := hr_31
  subst hr_31
  refine lv_bipush (v := nI 24) hx hb dX3_fourFrom_34 (by decide) ?_
  refine lv_ishl hx hb dX3_fourFrom_36 ?_
  refine lv_ior hx hb dX3_fourFrom_37 ?_
  have hret : (((zat f n i) ||| ((zat f n (i + 1)) <<< ((nI 8) &&& 31))) ||| ((zat f n (i + 2)) <<< ((nI 16) &&& 31))) ||| ((zat f n (i + 3)) <<< ((nI 24) &&& 31)) = zfour f n i := rfl
  refine zz_top hret ?_
  exact W.iret hx hb hr (fun tS ht hW => ⟨_, rfl, rfl, ht⟩) (fun _ h => nomatch h) dX3_fourFrom_38
set_option maxHeartbeats 4000000 in
set_option maxRecDepth 100000 in
theorem c_X3_becomeLike (l : Launch) (dC : Nat → ClassId) (dI : Nat → Nat → Nat) (cyI cyZ : ClassId) (qo qa qb qba : Nat) (sz : Nat) (f : Nat → Int32) (n : Nat) (g : Nat → Int32) (k : Nat) (hk : k ≤ 450) (hg : ∀ j, j < k → zO (g j)) : Met l yX3_becomeLike wsX3_becomeLike ({ frames := 1, cells := 0, slots := 0, locals := 21 }) (va_Pc [.ref qo, .ref qb] (fun U => U.heap.size = sz ∧ va_P (dC, dI) vwCl [(qo, .inr (2, [.ref qa, .int (nI n)])), (qa, .inl (cyI, 450, .inl f)), (qb, .inr (2, [.ref qba, .int (nI k)])), (qba, .inl (cyI, 450, .inl g))] U.heap ∧ va_K (dC, dI) vwCl [(cyI, .int), (cyZ, .boolean)] U ∧ va_D (fun _ => True) [(qo, .inr (2, [.ref qa, .int (nI n)])), (qa, .inl (cyI, 450, .inl f)), (qb, .inr (2, [.ref qba, .int (nI k)])), (qba, .inl (cyI, 450, .inl g))])) (va_Qv (S := (Nat → Int32)) (fun (f1 : (Nat → Int32)) => (∀ j, j < k → f1 j = g j)) (fun (f1 : (Nat → Int32)) tS => va_P (dC, dI) vwCl [(qo, .inr (2, [.ref qa, .int (nI k)])), (qa, .inl (cyI, 450, .inl f1)), (qb, .inr (2, [.ref qba, .int (nI k)])), (qba, .inl (cyI, 450, .inl g))] tS.heap ∧ va_K (dC, dI) vwCl [(cyI, .int), (cyZ, .boolean)] tS ∧ va_D (va_A [(qo, .inr (2, [.ref qa, .int (nI n)])), (qa, .inl (cyI, 450, .inl f)), (qb, .inr (2, [.ref qba, .int (nI k)])), (qba, .inl (cyI, 450, .inl g))] sz) [(qo, .inr (2, [.ref qa, .int (nI k)])), (qa, .inl (cyI, 450, .inl f1)), (qb, .inr (2, [.ref qba, .int (nI k)])), (qba, .inl (cyI, 450, .inl g))]) (va_A [(qo, .inr (2, [.ref qa, .int (nI n)])), (qa, .inl (cyI, 450, .inl f)), (qb, .inr (2, [.ref qba, .int (nI k)])), (qba, .inl (cyI, 450, .inl g))] sz)) 0 0 (va_A [(qo, .inr (2, [.ref qa, .int (nI n)])), (qa, .inl (cyI, 450, .inl f)), (qb, .inr (2, [.ref qba, .int (nI k)])), (qba, .inl (cyI, 450, .inl g))] sz) := by
  refine Met.ofW (cc := cX3_becomeLike) (maxL := 3) (ret := none) (by decide) rfl ?_
  intro pz ez sS mM args below meth cC s₁ B hml hv
  obtain ⟨rfl, hsz, hP, hK, hD0⟩ := hv
  have hx := B.exec
  have hb := B.bytes
  have hr := B.returns
  have hts := atoms_spec (ws := wsX3_becomeLike) B.pre
  have hown : sS.vm.findClass RX3 = some mM.cls := findClass_of_methodNamed B.named
  have hlocks := B.notSynchronized
  subst hsz
  have hD := hD0.self (sz := sS.heap.size)
  generalize hAe : va_A [(qo, .inr (2, [.ref qa, .int (nI n)])), (qa, .inl (cyI, 450, .inl f)), (qb, .inr (2, [.ref qba, .int (nI k)])), (qba, .inl (cyI, 450, .inl g))] sS.heap.size = A at hD ⊢
  have hA : ∀ q : Nat, sS.heap.size ≤ q → A q := fun q h => by rw [← hAe]; exact Or.inr h
  have hS : va_S A sS.heap sS.heap [] := va_S.rf
  have hP : va_P (dC, dI) vwCl [(qo, .inr (2, [.ref qa, .int (nI n)])), (qa, .inl (cyI, 450, .inl f)), (qb, .inr (2, [.ref qba, .int (nI k)])), (qba, .inl (cyI, 450, .inl g))] sS.heap := hP
  have iwX3 : ∀ w ∈ wsX30, w ∈ wsX3_becomeLike := by decide +kernel
  have fk15 := hts (.fieldLink RX3 15 "CodedStore$Octets" "size" "I") (by decide +kernel)
  have hl := lv_entry ([.ref qo, .ref qb]) (n := 3) (Nat.le_of_ble_eq_true rfl)
  rw [lg_entry_eq]
  generalize (lg_sl ([.ref qo, .ref qb]) ++ List.replicate (3 - (lg_sl ([.ref qo, .ref qb])).length) Slot.unset).toArray = ls at hl ⊢
  have hl : lv_has ls 3 [(0, .ref qo), (1, .ref qb)] := hl
  refine lv_aload_n hx hb dX3_becomeLike_0 rfl (lv_at hl 0 rfl) ?_
  have hPc := hP.sub (ws' := [(qo, .inr (2, [.ref qa, .int (nI n)])), (qa, .inl (cyI, 450, .inl f))]) [0, 1] rfl
  have hKc := hK.sub (tys' := [(cyI, .int), (cyZ, .boolean)]) [0, 1] rfl
  have hDc := hD.sub (ws' := [(qo, .inr (2, [.ref qa, .int (nI n)])), (qa, .inl (cyI, 450, .inl f))]) [0, 1] (by decide) rfl
  have hFc := va_free (wc := [(qo, .inr (2, [.ref qa, .int (nI n)])), (qa, .inl (cyI, 450, .inl f))]) hD hS hA [0, 1] rfl
  refine va_callv (va_runV (As := []) (rest := []) ⟨hx, hb, hml, hown, hts⟩ (c_X3_empty l dC dI cyI cyZ qo qa sS.heap.size f n) (cwV 0 hts gX3_becomeLike_X3_empty rfl rfl rfl (by decide +kernel) ⟨Nat.le_of_ble_eq_true rfl, Nat.le_of_ble_eq_true rfl⟩) ⟨zz_blW, va_recv hKc hPc (ci := 2) (q0 := 0) rfl rfl, fun U hU hW => ⟨rfl, by rw [hU], by rw [hU]; exact hPc, va_K.moved hW.alike hKc, hDc.weaken (fun _ _ _ _ => trivial)⟩⟩ rfl rfl hl.1 rfl (lv_room (Nat.le_of_ble_eq_true rfl)) dX3_becomeLike_1 ⟨Nat.zero_le _, Nat.zero_le _⟩) hS (fun q _ h => hFc q h) hFc (fun uU tS H1 locs ht9 hvm9 hw9 hB9 hz1 hk1 hS => ?_)
  obtain ⟨hP1, hK1, hD1⟩ := hB9
  rw [ht9] at hP1
  have hK1 := va_K.moved hvm9.symm hK1
  obtain ⟨hP, hD⟩ := va_join (wr := [(qb, .inr (2, [.ref qba, .int (nI k)])), (qba, .inl (cyI, 450, .inl g))]) (w1 := [(qo, .inr (2, [.ref qa, .int (nI 0)])), (qa, .inl (cyI, 450, .inl f))]) hP hD [0, 1] [2, 3] rfl rfl (by decide) (by decide) hk1 hFc hP1 hD1
  generalize H1 = H at hP hS ⊢
  have hP : va_P (dC, dI) vwCl [(qb, .inr (2, [.ref qba, .int (nI k)])), (qba, .inl (cyI, 450, .inl g)), (qo, .inr (2, [.ref qa, .int (nI 0)])), (qa, .inl (cyI, 450, .inl f))] H := hP
  have hD : va_D A [(qb, .inr (2, [.ref qba, .int (nI k)])), (qba, .inl (cyI, 450, .inl g)), (qo, .inr (2, [.ref qa, .int (nI 0)])), (qa, .inl (cyI, 450, .inl f))] := hD
  refine lv_iconst (v := nI 0) hx hb dX3_becomeLike_4 (by decide) ?_
  refine lv_istore_n (lv' := [(2, .int (nI 0)), (0, .ref qo), (1, .ref qb)]) hx hb dX3_becomeLike_5 rfl hl (by decide) rfl (fun ls hl => ?_)
  refine zz_loopW (pc := 6) (μ := fun (x : Nat × (Nat → Int32)) => match x with | (i, f1) => k - i) (Inv := fun (x : Nat × (Nat → Int32)) (H : Heap) (locs : List Loc) (ls : Array Slot) => match x with | (i, f1) => (i ≤ k) ∧ (∀ j, j < i → f1 j = g j) ∧ va_P (dC, dI) vwCl [(qb, .inr (2, [.ref qba, .int (nI k)])), (qba, .inl (cyI, 450, .inl g)), (qo, .inr (2, [.ref qa, .int (nI i)])), (qa, .inl (cyI, 450, .inl f1))] H ∧ va_D A [(qb, .inr (2, [.ref qba, .int (nI k)])), (qba, .inl (cyI, 450, .inl g)), (qo, .inr (2, [.ref qa, .int (nI i)])), (qa, .inl (cyI, 450, .inl f1))] ∧ va_S A sS.heap H locs ∧ lv_has ls 3 [(0, .ref qo), (1, .ref qb), (2, .int (nI i))]) (x0 := (0, f)) ⟨by omega, fun j hj => absurd hj (Nat.not_lt_zero _), hP, hD, hS, lv_sub hl [1, 2, 0] rfl⟩ ?_
  intro ⟨i, f1⟩ H locs ls hI ih6
  obtain ⟨hi, hf, hP, hD, hS, hl⟩ := hI
  have hl : lv_has ls 3 [(0, .ref qo), (1, .ref qb), (2, .int (nI i))] := hl
  have hP : va_P (dC, dI) vwCl [(qb, .inr (2, [.ref qba, .int (nI k)])), (qba, .inl (cyI, 450, .inl g)), (qo, .inr (2, [.ref qa, .int (nI i)])), (qa, .inl (cyI, 450, .inl f1))] H := hP
  have hD : va_D A [(qb, .inr (2, [.ref qba, .int (nI k)])), (qba, .inl (cyI, 450, .inl g)), (qo, .inr (2, [.ref qa, .int (nI i)])), (qa, .inl (cyI, 450, .inl f1))] := hD
  have hi : i ≤ k := hi
  have hf : ∀ j, j < i → f1 j = g j := hf
  refine lv_iload_n hx hb dX3_becomeLike_6 rfl (lv_at hl 2 rfl) ?_
  refine lv_aload_n hx hb dX3_becomeLike_7 rfl (lv_at hl 1 rfl) ?_
  refine va_get (D := (dC, dI)) (ci := 2) (v := .int (nI k)) (C := RX3) (T := TX3) (N := 2) hx hb hts iwX3 hown hK hP 0 rfl rfl 1 (by decide) fk15 (fun _ h9 => h9) rfl dX3_becomeLike_8 ?_
  refine zn_icmp_ge (tgt := 29) hx hb dX3_becomeLike_11 (by decide) (by omega) (by omega) (fun c_11 => ?_) (fun c_11 => ?_)
  ·
    have hik : k = i := by omega
    subst hik
    -- qo : .inr (2, [.ref qa, .int (nI i)])  ~  .inr (2, [.ref qa, .int (nI k)])
    have hP9 := hP.sub (ws' := [(qo, .inr (2, [.ref qa, .int (nI k)])), (qa, .inl (cyI, 450, .inl f1)), (qb, .inr (2, [.ref qba, .int (nI k)])), (qba, .inl (cyI, 450, .inl g))]) [2, 3, 0, 1] rfl
    have hD9 := hD.sub (ws' := [(qo, .inr (2, [.ref qa, .int (nI k)])), (qa, .inl (cyI, 450, .inl f1)), (qb, .inr (2, [.ref qba, .int (nI k)])), (qba, .inl (cyI, 450, .inl g))]) [2, 3, 0, 1] (by decide) rfl
    have hK9 := hK.sub (tys' := [(cyI, .int), (cyZ, .boolean)]) [0, 1] rfl
    exact W.vret hx hb hr (fun tS ht hW => ⟨⟨f1, rfl, fun j hj => hf j (by omega), by rw [ht]; exact hP9, va_K.moved hW.alike hK9, hD9⟩, hS.F ht⟩) hS.2.2 dX3_becomeLike_29
  ·
    refine lv_aload_n hx hb dX3_becomeLike_14 rfl (lv_at hl 0 rfl) ?_
    refine lv_aload_n hx hb dX3_becomeLike_15 rfl (lv_at hl 1 rfl) ?_
    refine lv_iload_n hx hb dX3_becomeLike_16 rfl (lv_at hl 2 rfl) ?_
    have hPc := hP.sub (ws' := [(qb, .inr (2, [.ref qba, .int (nI k)])), (qba, .inl (cyI, 450, .inl g))]) [0, 1] rfl
    have hKc := hK.sub (tys' := [(cyI, .int), (cyZ, .boolean)]) [0, 1] rfl
    refine vp_callSi (va_Run.run (va_runV (As := [.int (nI i)]) (rest := [.ref qo]) ⟨hx, hb, hml, hown, hts⟩ (c_X3_at_in l dC dI cyI cyZ qb qba g k i (by omega) (by omega)) (cwV 1 hts gX3_becomeLike_X3_at rfl rfl rfl (by decide +kernel) ⟨Nat.le_of_ble_eq_true rfl, Nat.le_of_ble_eq_true rfl⟩) ⟨zz_blR, va_recv hKc hPc (ci := 2) (q0 := 0) rfl rfl, fun U hU hW => ⟨rfl, by rw [hU]; exact hPc, va_K.moved hW.alike hKc⟩⟩ rfl rfl hl.1 rfl (lv_room (Nat.le_of_ble_eq_true rfl)) dX3_becomeLike_17 ⟨Nat.zero_le _, Nat.zero_le _⟩)) (fun r_17 hr_17 => ?_)
    have hr_17 : r_17 = g i := hr_17
    subst hr_17
    have hPc := hP.sub (ws' := [(qo, .inr (2, [.ref qa, .int (nI i)])), (qa, .inl (cyI, 450, .inl f1))]) [2, 3] rfl
    have hKc := hK.sub (tys' := [(cyI, .int), (cyZ, .boolean)]) [0, 1] rfl
    have hDc := hD.sub (ws' := [(qo, .inr (2, [.ref qa, .int (nI i)])), (qa, .inl (cyI, 450, .inl f1))]) [2, 3] (by decide) rfl
    have hFc := va_free (wc := [(qo, .inr (2, [.ref qa, .int (nI i)])), (qa, .inl (cyI, 450, .inl f1))]) hD hS hA [2, 3] rfl
    refine va_callv (va_runV (As := [.int (g i)]) (rest := []) ⟨hx, hb, hml, hown, hts⟩ (c_X3_append l dC dI cyI cyZ qo qa H.size f1 i (g i) (by omega)) (cwV 1 hts gX3_becomeLike_X3_append rfl rfl rfl (by decide +kernel) ⟨Nat.le_of_ble_eq_true rfl, Nat.le_of_ble_eq_true rfl⟩) ⟨zz_blW, va_recv hKc hPc (ci := 2) (q0 := 0) rfl rfl, fun U hU hW => ⟨rfl, by rw [hU], by rw [hU]; exact hPc, va_K.moved hW.alike hKc, hDc.weaken (fun _ _ _ _ => trivial)⟩⟩ rfl rfl hl.1 rfl (lv_room (Nat.le_of_ble_eq_true rfl)) dX3_becomeLike_20 ⟨Nat.zero_le _, Nat.zero_le _⟩) hS (fun q _ h => hFc q h) hFc (fun uU tS H1 locs ht9 hvm9 hw9 hB9 hz1 hk1 hS => ?_)
    obtain ⟨hP1, hK1, hD1⟩ := hB9
    rw [ht9] at hP1
    have hK1 := va_K.moved hvm9.symm hK1
    obtain ⟨hP, hD⟩ := va_join (wr := [(qb, .inr (2, [.ref qba, .int (nI k)])), (qba, .inl (cyI, 450, .inl g))]) (w1 := [(qo, .inr (2, [.ref qa, .int (nI (i + 1))])), (qa, .inl (cyI, 450, .inl (upd f1 i ((g i) &&& nI 255))))]) hP hD [2, 3] [0, 1] rfl rfl (by decide) (by decide) hk1 hFc hP1 hD1
    generalize H1 = H at hP hS ⊢
    have hP : va_P (dC, dI) vwCl [(qb, .inr (2, [.ref qba, .int (nI k)])), (qba, .inl (cyI, 450, .inl g)), (qo, .inr (2, [.ref qa, .int (nI (i + 1))])), (qa, .inl (cyI, 450, .inl (upd f1 i ((g i) &&& nI 255))))] H := hP
    have hD : va_D A [(qb, .inr (2, [.ref qba, .int (nI k)])), (qba, .inl (cyI, 450, .inl g)), (qo, .inr (2, [.ref qa, .int (nI (i + 1))])), (qa, .inl (cyI, 450, .inl (upd f1 i ((g i) &&& nI 255))))] := hD
    refine lv_iinc (v := nI (i + 1)) (lv' := [(2, .int (nI (i + 1))), (0, .ref qo), (1, .ref qb)]) hx hb dX3_becomeLike_23 hl (k := 2) rfl (nI_add i 1) (by decide) rfl (fun ls hl => ?_)
    refine lv_goto (tgt := 6) hx hb dX3_becomeLike_26 (by decide) ?_
    -- cell qa: .inl (cyI, 450, .inl (upd f1 i ((g i) &&& nI 255))) ~ .inl (cyI, 450, .inl (upd f1 i (g i &&& nI 255)))
    exact ih6 (i + 1, upd f1 i (g i &&& nI 255)) _ _ _ ⟨by omega, fun j hj => by
      by_cases e : j = i
      · rw [e, upd_at, zO_and (hg i (by omega))]
      · rw [upd_ne e]; exact hf j (by omega), hP, hD, hS, lv_sub hl [1, 2, 0] rfl⟩ (by first | omega | (dsimp only; omega))
set_option maxHeartbeats 4000000 in
set_option maxRecDepth 100000 in
theorem c_X3_repeat (l : Launch) (dC : Nat → ClassId) (dI : Nat → Nat → Nat) (cyI cyZ : ClassId) (qo qa : Nat) (sz : Nat) (f : Nat → Int32) (n d q : Nat) (hd0 : 0 < d) (hdn : d ≤ n) (hqn : n + q ≤ 450) (hf : ∀ j, j < n → zO (f j)) : Met l yX3_repeat wsX3_repeat ({ frames := 1, cells := 0, slots := 0, locals := 21 }) (va_Pc [.ref qo, .int (nI d), .int (nI q)] (fun U => U.heap.size = sz ∧ va_P (dC, dI) vwCl [(qo, .inr (2, [.ref qa, .int (nI n)])), (qa, .inl (cyI, 450, .inl f))] U.heap ∧ va_K (dC, dI) vwCl [(cyI, .int), (cyZ, .boolean)] U ∧ va_D (fun _ => True) [(qo, .inr (2, [.ref qa, .int (nI n)])), (qa, .inl (cyI, 450, .inl f))])) (va_Qv (S := Unit) (fun (_ : Unit) => True) (fun (_ : Unit) tS => va_P (dC, dI) vwCl [(qo, .inr (2, [.ref qa, .int (nI (n + q))])), (qa, .inl (cyI, 450, .inl (zrep f n d q)))] tS.heap ∧ va_K (dC, dI) vwCl [(cyI, .int), (cyZ, .boolean)] tS ∧ va_D (va_A [(qo, .inr (2, [.ref qa, .int (nI n)])), (qa, .inl (cyI, 450, .inl f))] sz) [(qo, .inr (2, [.ref qa, .int (nI (n + q))])), (qa, .inl (cyI, 450, .inl (zrep f n d q)))]) (va_A [(qo, .inr (2, [.ref qa, .int (nI n)])), (qa, .inl (cyI, 450, .inl f))] sz)) 0 0 (va_A [(qo, .inr (2, [.ref qa, .int (nI n)])), (qa, .inl (cyI, 450, .inl f))] sz) := by
  refine Met.ofW (cc := cX3_repeat) (maxL := 4) (ret := none) (by decide) rfl ?_
  intro pz ez sS mM args below meth cC s₁ B hml hv
  obtain ⟨rfl, hsz, hP, hK, hD0⟩ := hv
  have hx := B.exec
  have hb := B.bytes
  have hr := B.returns
  have hts := atoms_spec (ws := wsX3_repeat) B.pre
  have hown : sS.vm.findClass RX3 = some mM.cls := findClass_of_methodNamed B.named
  have hlocks := B.notSynchronized
  subst hsz
  have hD := hD0.self (sz := sS.heap.size)
  generalize hAe : va_A [(qo, .inr (2, [.ref qa, .int (nI n)])), (qa, .inl (cyI, 450, .inl f))] sS.heap.size = A at hD ⊢
  have hA : ∀ q : Nat, sS.heap.size ≤ q → A q := fun q h => by rw [← hAe]; exact Or.inr h
  have hS : va_S A sS.heap sS.heap [] := va_S.rf
  have hP : va_P (dC, dI) vwCl [(qo, .inr (2, [.ref qa, .int (nI n)])), (qa, .inl (cyI, 450, .inl f))] sS.heap := hP
  have iwX3 : ∀ w ∈ wsX30, w ∈ wsX3_repeat := by decide +kernel
  have fk15 := hts (.fieldLink RX3 15 "CodedStore$Octets" "size" "I") (by decide +kernel)
  have hl := lv_entry ([.ref qo, .int (nI d), .int (nI q)]) (n := 4) (Nat.le_of_ble_eq_true rfl)
  rw [lg_entry_eq]
  generalize (lg_sl ([.ref qo, .int (nI d), .int (nI q)]) ++ List.replicate (4 - (lg_sl ([.ref qo, .int (nI d), .int (nI q)])).length) Slot.unset).toArray = ls at hl ⊢
  have hl : lv_has ls 4 [(0, .ref qo), (1, .int (nI d)), (2, .int (nI q))] := hl
  refine lv_iconst (v := nI 0) hx hb dX3_repeat_0 (by decide) ?_
  refine lv_istore_n (lv' := [(3, .int (nI 0)), (0, .ref qo), (1, .int (nI d)), (2, .int (nI q))]) hx hb dX3_repeat_1 rfl hl (by decide) rfl (fun ls hl => ?_)
  refine zz_loopW (pc := 2) (μ := fun (i : Nat) => q - i) (Inv := fun (i : Nat) (H : Heap) (locs : List Loc) (ls : Array Slot) => (i ≤ q) ∧ va_P (dC, dI) vwCl [(qo, .inr (2, [.ref qa, .int (nI (n + i))])), (qa, .inl (cyI, 450, .inl (zrep f n d i)))] H ∧ va_D A [(qo, .inr (2, [.ref qa, .int (nI (n + i))])), (qa, .inl (cyI, 450, .inl (zrep f n d i)))] ∧ va_S A sS.heap H locs ∧ lv_has ls 4 [(0, .ref qo), (1, .int (nI d)), (2, .int (nI q)), (3, .int (nI i))]) (x0 := (0)) ⟨by omega, hP, hD, hS, lv_sub hl [1, 2, 3, 0] rfl⟩ ?_
  intro i H locs ls hI ih2
  obtain ⟨hi, hP, hD, hS, hl⟩ := hI
  have hl : lv_has ls 4 [(0, .ref qo), (1, .int (nI d)), (2, .int (nI q)), (3, .int (nI i))] := hl
  have hP : va_P (dC, dI) vwCl [(qo, .inr (2, [.ref qa, .int (nI (n + i))])), (qa, .inl (cyI, 450, .inl (zrep f n d i)))] H := hP
  have hD : va_D A [(qo, .inr (2, [.ref qa, .int (nI (n + i))])), (qa, .inl (cyI, 450, .inl (zrep f n d i)))] := hD
  have hi : i ≤ q := hi
  refine lv_iload_n hx hb dX3_repeat_2 rfl (lv_at hl 3 rfl) ?_
  refine lv_iload_n hx hb dX3_repeat_3 rfl (lv_at hl 2 rfl) ?_
  refine zn_icmp_ge (tgt := 27) hx hb dX3_repeat_4 (by decide) (by omega) (by omega) (fun c_4 => ?_) (fun c_4 => ?_)
  ·
    have hiq : q = i := by omega
    subst hiq
    -- qo : .inr (2, [.ref qa, .int (nI (n + i))])  ~  .inr (2, [.ref qa, .int (nI (n + q))])
    -- qa : .inl (cyI, 450, .inl (zrep f n d i))  ~  .inl (cyI, 450, .inl (zrep f n d q))
    have hP9 := hP.sub (ws' := [(qo, .inr (2, [.ref qa, .int (nI (n + q))])), (qa, .inl (cyI, 450, .inl (zrep f n d q)))]) [0, 1] rfl
    have hD9 := hD.sub (ws' := [(qo, .inr (2, [.ref qa, .int (nI (n + q))])), (qa, .inl (cyI, 450, .inl (zrep f n d q)))]) [0, 1] (by decide) rfl
    have hK9 := hK.sub (tys' := [(cyI, .int), (cyZ, .boolean)]) [0, 1] rfl
    exact W.vret hx hb hr (fun tS ht hW => ⟨⟨(), rfl, trivial, by rw [ht]; exact hP9, va_K.moved hW.alike hK9, hD9⟩, hS.F ht⟩) hS.2.2 dX3_repeat_27
  ·
    refine lv_aload_n hx hb dX3_repeat_7 rfl (lv_at hl 0 rfl) ?_
    refine lv_aload_n hx hb dX3_repeat_8 rfl (lv_at hl 0 rfl) ?_
    refine lv_aload_n hx hb dX3_repeat_9 rfl (lv_at hl 0 rfl) ?_
    refine va_get (D := (dC, dI)) (ci := 2) (v := .int (nI (n + i))) (C := RX3) (T := TX3) (N := 2) hx hb hts iwX3 hown hK hP 0 rfl rfl 1 (by decide) fk15 (fun _ h9 => h9) rfl dX3_repeat_10 ?_
    refine lv_iload_n hx hb dX3_repeat_13 rfl (lv_at hl 1 rfl) ?_
    refine lv_isub hx hb dX3_repeat_14 ?_
    refine zz_top (pk_sub (a := n + i) (b := d) (by omega)) ?_
    have hPc := hP.sub (ws' := [(qo, .inr (2, [.ref qa, .int (nI (n + i))])), (qa, .inl (cyI, 450, .inl (zrep f n d i)))]) [0, 1] rfl
    have hKc := hK.sub (tys' := [(cyI, .int), (cyZ, .boolean)]) [0, 1] rfl
    refine vp_callSi (va_Run.run (va_runV (As := [.int (nI ((n + i) - d))]) (rest := [.ref qo]) ⟨hx, hb, hml, hown, hts⟩ (c_X3_at_in l dC dI cyI cyZ qo qa (zrep f n d i) (n + i) ((n + i) - d) (by omega) (by omega)) (cwV 1 hts gX3_repeat_X3_at rfl rfl rfl (by decide +kernel) ⟨Nat.le_of_ble_eq_true rfl, Nat.le_of_ble_eq_true rfl⟩) ⟨zz_blR, va_recv hKc hPc (ci := 2) (q0 := 0) rfl rfl, fun U hU hW => ⟨rfl, by rw [hU]; exact hPc, va_K.moved hW.alike hKc⟩⟩ rfl rfl hl.1 rfl (lv_room (Nat.le_of_ble_eq_true rfl)) dX3_repeat_15 ⟨Nat.zero_le _, Nat.zero_le _⟩)) (fun r_15 hr_15 => ?_)
    have hr_15 : r_15 = (zrep f n d i) ((n + i) - d) := hr_15
    subst hr_15
    have hPc := hP.sub (ws' := [(qo, .inr (2, [.ref qa, .int (nI (n + i))])), (qa, .inl (cyI, 450, .inl (zrep f n d i)))]) [0, 1] rfl
    have hKc := hK.sub (tys' := [(cyI, .int), (cyZ, .boolean)]) [0, 1] rfl
    have hDc := hD.sub (ws' := [(qo, .inr (2, [.ref qa, .int (nI (n + i))])), (qa, .inl (cyI, 450, .inl (zrep f n d i)))]) [0, 1] (by decide) rfl
    have hFc := va_free (wc := [(qo, .inr (2, [.ref qa, .int (nI (n + i))])), (qa, .inl (cyI, 450, .inl (zrep f n d i)))]) hD hS hA [0, 1] rfl
    refine va_callv (va_runV (As := [.int ((zrep f n d i) ((n + i) - d))]) (rest := []) ⟨hx, hb, hml, hown, hts⟩ (c_X3_append l dC dI cyI cyZ qo qa H.size (zrep f n d i) (n + i) ((zrep f n d i) ((n + i) - d)) (by omega)) (cwV 1 hts gX3_repeat_X3_append rfl rfl rfl (by decide +kernel) ⟨Nat.le_of_ble_eq_true rfl, Nat.le_of_ble_eq_true rfl⟩) ⟨zz_blW, va_recv hKc hPc (ci := 2) (q0 := 0) rfl rfl, fun U hU hW => ⟨rfl, by rw [hU], by rw [hU]; exact hPc, va_K.moved hW.alike hKc, hDc.weaken (fun _ _ _ _ => trivial)⟩⟩ rfl rfl hl.1 rfl (lv_room (Nat.le_of_ble_eq_true rfl)) dX3_repeat_18 ⟨Nat.zero_le _, Nat.zero_le _⟩) hS (fun q _ h => hFc q h) hFc (fun uU tS H1 locs ht9 hvm9 hw9 hB9 hz1 hk1 hS => ?_)
    obtain ⟨hP1, hK1, hD1⟩ := hB9
    rw [ht9] at hP1
    have hK1 := va_K.moved hvm9.symm hK1
    obtain ⟨hP, hD⟩ := va_join (wr := []) (w1 := [(qo, .inr (2, [.ref qa, .int (nI ((n + i) + 1))])), (qa, .inl (cyI, 450, .inl (upd (zrep f n d i) (n + i) (((zrep f n d i) ((n + i) - d)) &&& nI 255))))]) hP hD [0, 1] [] rfl rfl (by decide) (by decide) hk1 hFc hP1 hD1
    generalize H1 = H at hP hS ⊢
    have hP : va_P (dC, dI) vwCl [(qo, .inr (2, [.ref qa, .int (nI ((n + i) + 1))])), (qa, .inl (cyI, 450, .inl (upd (zrep f n d i) (n + i) (((zrep f n d i) ((n + i) - d)) &&& nI 255))))] H := hP
    have hD : va_D A [(qo, .inr (2, [.ref qa, .int (nI ((n + i) + 1))])), (qa, .inl (cyI, 450, .inl (upd (zrep f n d i) (n + i) (((zrep f n d i) ((n + i) - d)) &&& nI 255))))] := hD
    have eqc : upd (zrep f n d i) (n + i) (((zrep f n d i) ((n + i) - d)) &&& nI 255) = zrep f n d (i + 1) := by rw [zrep, zO_and (zrep_O f hd0 hdn hf i _ (by omega))]
    rw [eqc] at hP hD
    have hP : va_P (dC, dI) vwCl [(qo, .inr (2, [.ref qa, .int (nI ((n + i) + 1))])), (qa, .inl (cyI, 450, .inl (zrep f n d (i + 1))))] H := hP
    have hD : va_D A [(qo, .inr (2, [.ref qa, .int (nI ((n + i) + 1))])), (qa, .inl (cyI, 450, .inl (zrep f n d (i + 1))))] := hD
    refine lv_iinc (v := nI (i + 1)) (lv' := [(3, .int (nI (i + 1))), (0, .ref qo), (1, .int (nI d)), (2, .int (nI q))]) hx hb dX3_repeat_21 hl (k := 3) rfl (nI_add i 1) (by decide) rfl (fun ls hl => ?_)
    refine lv_goto (tgt := 2) hx hb dX3_repeat_24 (by decide) ?_
    -- cell qo: .inr (2, [.ref qa, .int (nI ((n + i) + 1))]) ~ .inr (2, [.ref qa, .int (nI (n + (i + 1)))])
    exact ih2 (i + 1) _ _ _ ⟨by omega, hP, hD, hS, lv_sub hl [1, 2, 3, 0] rfl⟩ (by first | omega | (dsimp only; omega))
end
section
set_option maxHeartbeats 4000000 in
set_option maxRecDepth 100000 in
theorem c_X2_isOn (l : Launch) (dC : Nat → ClassId) (dI : Nat → Nat → Nat) (cyI cyZ : ClassId) (qd qw : Nat) (w : Nat → Int32) (on : Bool) (lf : Int32) (dn : Nat)  : Met l yX2_isOn wsX2_isOn ({ frames := 0, cells := 0, slots := 0, locals := 0 }) (va_Pc [.ref qd] (fun U => va_P (dC, dI) vwCl [(qd, .inr (1, [.ref qw, .int (bI on), .int lf, .int (nI dn)])), (qw, .inl (cyI, 512, .inl w))] U.heap ∧ va_K (dC, dI) vwCl [(cyI, .int), (cyZ, .boolean)] U)) (vp_Si (fun r => r = bI on)) 0 0 (fun _ => False) := by
  refine Met.ofW (cc := cX2_isOn) (maxL := 1) (ret := (some .boolean)) (by decide) rfl ?_
  intro pz ez sS mM args below meth cC s₁ B hml hv
  obtain ⟨rfl, hP, hK⟩ := hv
  have hx := B.exec
  have hb := B.bytes
  have hr := B.returns
  have hts := atoms_spec (ws := wsX2_isOn) B.pre
  have hown : sS.vm.findClass RX2 = some mM.cls := findClass_of_methodNamed B.named
  have hlocks := B.notSynchronized
  have iwX2 : ∀ w ∈ wsX20, w ∈ wsX2_isOn := by decide +kernel
  have fk15 := hts (.fieldLink RX2 15 "CodedStore$Disk" "on" "Z") (by decide +kernel)
  have hl := lv_entry ([.ref qd]) (n := 1) (Nat.le_of_ble_eq_true rfl)
  rw [lg_entry_eq]
  generalize (lg_sl ([.ref qd]) ++ List.replicate (1 - (lg_sl ([.ref qd])).length) Slot.unset).toArray = ls at hl ⊢
  have hl : lv_has ls 1 [(0, .ref qd)] := hl
  refine lv_aload_n hx hb dX2_isOn_0 rfl (lv_at hl 0 rfl) ?_
  refine va_get (D := (dC, dI)) (ci := 1) (v := .int (bI on)) (C := RX2) (T := TX2) (N := 4) hx hb hts iwX2 hown hK hP 0 rfl rfl 1 (by decide) fk15 (fun _ h9 => h9) rfl dX2_isOn_1 ?_
  have hret : bI on = bI on := rfl
  refine zz_top hret ?_
  exact W.zret hx hb hr (zz_narZ (by first | exact zz_zb _ | exact zz_z0 | exact zz_z1)) (fun tS ht hW => ⟨_, rfl, rfl, ht⟩) (fun _ h => nomatch h) dX2_isOn_4
set_option maxHeartbeats 4000000 in
set_option maxRecDepth 100000 in
theorem c_X2_switchOn (l : Launch) (dC : Nat → ClassId) (dI : Nat → Nat → Nat) (cyI cyZ : ClassId) (qd qw : Nat) (sz : Nat) (w : Nat → Int32) (on : Bool) (lf : Int32) (dn : Nat)  : Met l yX2_switchOn wsX2_switchOn ({ frames := 0, cells := 0, slots := 0, locals := 0 }) (va_Pc [.ref qd] (fun U => U.heap.size = sz ∧ va_P (dC, dI) vwCl [(qd, .inr (1, [.ref qw, .int (bI on), .int lf, .int (nI dn)])), (qw, .inl (cyI, 512, .inl w))] U.heap ∧ va_K (dC, dI) vwCl [(cyI, .int), (cyZ, .boolean)] U ∧ va_D (fun _ => True) [(qd, .inr (1, [.ref qw, .int (bI on), .int lf, .int (nI dn)])), (qw, .inl (cyI, 512, .inl w))])) (va_Qv (S := Unit) (fun (_ : Unit) => True) (fun (_ : Unit) tS => va_P (dC, dI) vwCl [(qd, .inr (1, [.ref qw, .int (bI true), .int (-1), .int (nI dn)])), (qw, .inl (cyI, 512, .inl w))] tS.heap ∧ va_K (dC, dI) vwCl [(cyI, .int), (cyZ, .boolean)] tS ∧ va_D (va_A [(qd, .inr (1, [.ref qw, .int (bI on), .int lf, .int (nI dn)])), (qw, .inl (cyI, 512, .inl w))] sz) [(qd, .inr (1, [.ref qw, .int (bI true), .int (-1), .int (nI dn)])), (qw, .inl (cyI, 512, .inl w))]) (va_A [(qd, .inr (1, [.ref qw, .int (bI on), .int lf, .int (nI dn)])), (qw, .inl (cyI, 512, .inl w))] sz)) 0 0 (va_A [(qd, .inr (1, [.ref qw, .int (bI on), .int lf, .int (nI dn)])), (qw, .inl (cyI, 512, .inl w))] sz) := by
  refine Met.ofW (cc := cX2_switchOn) (maxL := 1) (ret := none) (by decide) rfl ?_
  intro pz ez sS mM args below meth cC s₁ B hml hv
  obtain ⟨rfl, hsz, hP, hK, hD0⟩ := hv
  have hx := B.exec
  have hb := B.bytes
  have hr := B.returns
  have hts := atoms_spec (ws := wsX2_switchOn) B.pre
  have hown : sS.vm.findClass RX2 = some mM.cls := findClass_of_methodNamed B.named
  have hlocks := B.notSynchronized
  subst hsz
  have hD := hD0.self (sz := sS.heap.size)
  generalize hAe : va_A [(qd, .inr (1, [.ref qw, .int (bI on), .int lf, .int (nI dn)])), (qw, .inl (cyI, 512, .inl w))] sS.heap.size = A at hD ⊢
  have hA : ∀ q : Nat, sS.heap.size ≤ q → A q := fun q h => by rw [← hAe]; exact Or.inr h
  have hS : va_S A sS.heap sS.heap [] := va_S.rf
  have hP : va_P (dC, dI) vwCl [(qd, .inr (1, [.ref qw, .int (bI on), .int lf, .int (nI dn)])), (qw, .inl (cyI, 512, .inl w))] sS.heap := hP
  have iwX2 : ∀ w ∈ wsX20, w ∈ wsX2_switchOn := by decide +kernel
  have fk15 := hts (.fieldLink RX2 15 "CodedStore$Disk" "on" "Z") (by decide +kernel)
  have fk19 := hts (.fieldLink RX2 19 "CodedStore$Disk" "left" "I") (by decide +kernel)
  have hl := lv_entry ([.ref qd]) (n := 1) (Nat.le_of_ble_eq_true rfl)
  rw [lg_entry_eq]
  generalize (lg_sl ([.ref qd]) ++ List.replicate (1 - (lg_sl ([.ref qd])).length) Slot.unset).toArray = ls at hl ⊢
  have hl : lv_has ls 1 [(0, .ref qd)] := hl
  refine lv_aload_n hx hb dX2_switchOn_0 rfl (lv_at hl 0 rfl) ?_
  refine lv_iconst (v := nI 1) hx hb dX2_switchOn_1 (by decide) ?_
  refine va_put (D := (dC, dI)) (ci := 1) (v := .int (nI 1)) (ty := .boolean) (C := RX2) (T := TX2) (N := 4) hx hb hts iwX2 tyX2 tyX2_ok nmX2 hown hK hP hD hS 0 rfl rfl 1 (by decide) fk15 (fun _ h9 => h9) rfl (by decide +kernel) rfl rfl (Nat.le_of_ble_eq_true rfl) dX2_switchOn_2 (fun H locs hP hD hS => ?_)
  have hP : va_P (dC, dI) vwCl [(qd, .inr (1, [.ref qw, .int (nI 1), .int lf, .int (nI dn)])), (qw, .inl (cyI, 512, .inl w))] H := hP
  have hD : va_D A [(qd, .inr (1, [.ref qw, .int (nI 1), .int lf, .int (nI dn)])), (qw, .inl (cyI, 512, .inl w))] := hD
  refine lv_aload_n hx hb dX2_switchOn_5 rfl (lv_at hl 0 rfl) ?_
  refine lv_iconst (v := (-1)) hx hb dX2_switchOn_6 (by decide) ?_
  refine va_put (D := (dC, dI)) (ci := 1) (v := .int (-1)) (ty := .int) (C := RX2) (T := TX2) (N := 4) hx hb hts iwX2 tyX2 tyX2_ok nmX2 hown hK hP hD hS 0 rfl rfl 2 (by decide) fk19 (fun _ h9 => h9) rfl (by decide +kernel) rfl rfl (Nat.le_of_ble_eq_true rfl) dX2_switchOn_7 (fun H locs hP hD hS => ?_)
  have hP : va_P (dC, dI) vwCl [(qd, .inr (1, [.ref qw, .int (nI 1), .int (-1), .int (nI dn)])), (qw, .inl (cyI, 512, .inl w))] H := hP
  have hD : va_D A [(qd, .inr (1, [.ref qw, .int (nI 1), .int (-1), .int (nI dn)])), (qw, .inl (cyI, 512, .inl w))] := hD
  -- qd : .inr (1, [.ref qw, .int (nI 1), .int (-1), .int (nI dn)])  ~  .inr (1, [.ref qw, .int (bI true), .int (-1), .int (nI dn)])
  have hP9 := hP.sub (ws' := [(qd, .inr (1, [.ref qw, .int (bI true), .int (-1), .int (nI dn)])), (qw, .inl (cyI, 512, .inl w))]) [0, 1] rfl
  have hD9 := hD.sub (ws' := [(qd, .inr (1, [.ref qw, .int (bI true), .int (-1), .int (nI dn)])), (qw, .inl (cyI, 512, .inl w))]) [0, 1] (by decide) rfl
  have hK9 := hK.sub (tys' := [(cyI, .int), (cyZ, .boolean)]) [0, 1] rfl
  exact W.vret hx hb hr (fun tS ht hW => ⟨⟨(), rfl, trivial, by rw [ht]; exact hP9, va_K.moved hW.alike hK9, hD9⟩, hS.F ht⟩) hS.2.2 dX2_switchOn_10
set_option maxHeartbeats 4000000 in
set_option maxRecDepth 100000 in
theorem c_X2_allowWrites (l : Launch) (dC : Nat → ClassId) (dI : Nat → Nat → Nat) (cyI cyZ : ClassId) (qd qw : Nat) (sz : Nat) (w : Nat → Int32) (on : Bool) (lf : Int32) (dn : Nat) (v : Int32)  : Met l yX2_allowWrites wsX2_allowWrites ({ frames := 0, cells := 0, slots := 0, locals := 0 }) (va_Pc [.ref qd, .int v] (fun U => U.heap.size = sz ∧ va_P (dC, dI) vwCl [(qd, .inr (1, [.ref qw, .int (bI on), .int lf, .int (nI dn)])), (qw, .inl (cyI, 512, .inl w))] U.heap ∧ va_K (dC, dI) vwCl [(cyI, .int), (cyZ, .boolean)] U ∧ va_D (fun _ => True) [(qd, .inr (1, [.ref qw, .int (bI on), .int lf, .int (nI dn)])), (qw, .inl (cyI, 512, .inl w))])) (va_Qv (S := Unit) (fun (_ : Unit) => True) (fun (_ : Unit) tS => va_P (dC, dI) vwCl [(qd, .inr (1, [.ref qw, .int (bI on), .int v, .int (nI dn)])), (qw, .inl (cyI, 512, .inl w))] tS.heap ∧ va_K (dC, dI) vwCl [(cyI, .int), (cyZ, .boolean)] tS ∧ va_D (va_A [(qd, .inr (1, [.ref qw, .int (bI on), .int lf, .int (nI dn)])), (qw, .inl (cyI, 512, .inl w))] sz) [(qd, .inr (1, [.ref qw, .int (bI on), .int v, .int (nI dn)])), (qw, .inl (cyI, 512, .inl w))]) (va_A [(qd, .inr (1, [.ref qw, .int (bI on), .int lf, .int (nI dn)])), (qw, .inl (cyI, 512, .inl w))] sz)) 0 0 (va_A [(qd, .inr (1, [.ref qw, .int (bI on), .int lf, .int (nI dn)])), (qw, .inl (cyI, 512, .inl w))] sz) := by
  refine Met.ofW (cc := cX2_allowWrites) (maxL := 2) (ret := none) (by decide) rfl ?_
  intro pz ez sS mM args below meth cC s₁ B hml hv
  obtain ⟨rfl, hsz, hP, hK, hD0⟩ := hv
  have hx := B.exec
  have hb := B.bytes
  have hr := B.returns
  have hts := atoms_spec (ws := wsX2_allowWrites) B.pre
  have hown : sS.vm.findClass RX2 = some mM.cls := findClass_of_methodNamed B.named
  have hlocks := B.notSynchronized
  subst hsz
  have hD := hD0.self (sz := sS.heap.size)
  generalize hAe : va_A [(qd, .inr (1, [.ref qw, .int (bI on), .int lf, .int (nI dn)])), (qw, .inl (cyI, 512, .inl w))] sS.heap.size = A at hD ⊢
  have hA : ∀ q : Nat, sS.heap.size ≤ q → A q := fun q h => by rw [← hAe]; exact Or.inr h
  have hS : va_S A sS.heap sS.heap [] := va_S.rf
  have hP : va_P (dC, dI) vwCl [(qd, .inr (1, [.ref qw, .int (bI on), .int lf, .int (nI dn)])), (qw, .inl (cyI, 512, .inl w))] sS.heap := hP
  have iwX2 : ∀ w ∈ wsX20, w ∈ wsX2_allowWrites := by decide +kernel
  have fk19 := hts (.fieldLink RX2 19 "CodedStore$Disk" "left" "I") (by decide +kernel)
  have hl := lv_entry ([.ref qd, .int v]) (n := 2) (Nat.le_of_ble_eq_true rfl)
  rw [lg_entry_eq]
  generalize (lg_sl ([.ref qd, .int v]) ++ List.replicate (2 - (lg_sl ([.ref qd, .int v])).length) Slot.unset).toArray = ls at hl ⊢
  have hl : lv_has ls 2 [(0, .ref qd), (1, .int v)] := hl
  refine lv_aload_n hx hb dX2_allowWrites_0 rfl (lv_at hl 0 rfl) ?_
  refine lv_iload_n hx hb dX2_allowWrites_1 rfl (lv_at hl 1 rfl) ?_
  refine va_put (D := (dC, dI)) (ci := 1) (v := .int v) (ty := .int) (C := RX2) (T := TX2) (N := 4) hx hb hts iwX2 tyX2 tyX2_ok nmX2 hown hK hP hD hS 0 rfl rfl 2 (by decide) fk19 (fun _ h9 => h9) rfl (by decide +kernel) rfl rfl (Nat.le_of_ble_eq_true rfl) dX2_allowWrites_2 (fun H locs hP hD hS => ?_)
  have hP : va_P (dC, dI) vwCl [(qd, .inr (1, [.ref qw, .int (bI on), .int v, .int (nI dn)])), (qw, .inl (cyI, 512, .inl w))] H := hP
  have hD : va_D A [(qd, .inr (1, [.ref qw, .int (bI on), .int v, .int (nI dn)])), (qw, .inl (cyI, 512, .inl w))] := hD
  have hP9 := hP.sub (ws' := [(qd, .inr (1, [.ref qw, .int (bI on), .int v, .int (nI dn)])), (qw, .inl (cyI, 512, .inl w))]) [0, 1] rfl
  have hD9 := hD.sub (ws' := [(qd, .inr (1, [.ref qw, .int (bI on), .int v, .int (nI dn)])), (qw, .inl (cyI, 512, .inl w))]) [0, 1] (by decide) rfl
  have hK9 := hK.sub (tys' := [(cyI, .int), (cyZ, .boolean)]) [0, 1] rfl
  exact W.vret hx hb hr (fun tS ht hW => ⟨⟨(), rfl, trivial, by rw [ht]; exact hP9, va_K.moved hW.alike hK9, hD9⟩, hS.F ht⟩) hS.2.2 dX2_allowWrites_5
set_option maxHeartbeats 4000000 in
set_option maxRecDepth 100000 in
theorem c_X2_writesLeft (l : Launch) (dC : Nat → ClassId) (dI : Nat → Nat → Nat) (cyI cyZ : ClassId) (qd qw : Nat) (w : Nat → Int32) (on : Bool) (lf : Int32) (dn : Nat)  : Met l yX2_writesLeft wsX2_writesLeft ({ frames := 0, cells := 0, slots := 0, locals := 0 }) (va_Pc [.ref qd] (fun U => va_P (dC, dI) vwCl [(qd, .inr (1, [.ref qw, .int (bI on), .int lf, .int (nI dn)])), (qw, .inl (cyI, 512, .inl w))] U.heap ∧ va_K (dC, dI) vwCl [(cyI, .int), (cyZ, .boolean)] U)) (vp_Si (fun r => r = lf)) 0 0 (fun _ => False) := by
  refine Met.ofW (cc := cX2_writesLeft) (maxL := 1) (ret := (some .int)) (by decide) rfl ?_
  intro pz ez sS mM args below meth cC s₁ B hml hv
  obtain ⟨rfl, hP, hK⟩ := hv
  have hx := B.exec
  have hb := B.bytes
  have hr := B.returns
  have hts := atoms_spec (ws := wsX2_writesLeft) B.pre
  have hown : sS.vm.findClass RX2 = some mM.cls := findClass_of_methodNamed B.named
  have hlocks := B.notSynchronized
  have iwX2 : ∀ w ∈ wsX20, w ∈ wsX2_writesLeft := by decide +kernel
  have fk19 := hts (.fieldLink RX2 19 "CodedStore$Disk" "left" "I") (by decide +kernel)
  have hl := lv_entry ([.ref qd]) (n := 1) (Nat.le_of_ble_eq_true rfl)
  rw [lg_entry_eq]
  generalize (lg_sl ([.ref qd]) ++ List.replicate (1 - (lg_sl ([.ref qd])).length) Slot.unset).toArray = ls at hl ⊢
  have hl : lv_has ls 1 [(0, .ref qd)] := hl
  refine lv_aload_n hx hb dX2_writesLeft_0 rfl (lv_at hl 0 rfl) ?_
  refine va_get (D := (dC, dI)) (ci := 1) (v := .int lf) (C := RX2) (T := TX2) (N := 4) hx hb hts iwX2 hown hK hP 0 rfl rfl 2 (by decide) fk19 (fun _ h9 => h9) rfl dX2_writesLeft_1 ?_
  have hret : lf = lf := rfl
  refine zz_top hret ?_
  exact W.iret hx hb hr (fun tS ht hW => ⟨_, rfl, rfl, ht⟩) (fun _ h => nomatch h) dX2_writesLeft_4
set_option maxHeartbeats 4000000 in
set_option maxRecDepth 100000 in
theorem c_X2_writesDone (l : Launch) (dC : Nat → ClassId) (dI : Nat → Nat → Nat) (cyI cyZ : ClassId) (qd qw : Nat) (w : Nat → Int32) (on : Bool) (lf : Int32) (dn : Nat)  : Met l yX2_writesDone wsX2_writesDone ({ frames := 0, cells := 0, slots := 0, locals := 0 }) (va_Pc [.ref qd] (fun U => va_P (dC, dI) vwCl [(qd, .inr (1, [.ref qw, .int (bI on), .int lf, .int (nI dn)])), (qw, .inl (cyI, 512, .inl w))] U.heap ∧ va_K (dC, dI) vwCl [(cyI, .int), (cyZ, .boolean)] U)) (vp_Si (fun r => r = nI dn)) 0 0 (fun _ => False) := by
  refine Met.ofW (cc := cX2_writesDone) (maxL := 1) (ret := (some .int)) (by decide) rfl ?_
  intro pz ez sS mM args below meth cC s₁ B hml hv
  obtain ⟨rfl, hP, hK⟩ := hv
  have hx := B.exec
  have hb := B.bytes
  have hr := B.returns
  have hts := atoms_spec (ws := wsX2_writesDone) B.pre
  have hown : sS.vm.findClass RX2 = some mM.cls := findClass_of_methodNamed B.named
  have hlocks := B.notSynchronized
  have iwX2 : ∀ w ∈ wsX20, w ∈ wsX2_writesDone := by decide +kernel
  have fk23 := hts (.fieldLink RX2 23 "CodedStore$Disk" "done" "I") (by decide +kernel)
  have hl := lv_entry ([.ref qd]) (n := 1) (Nat.le_of_ble_eq_true rfl)
  rw [lg_entry_eq]
  generalize (lg_sl ([.ref qd]) ++ List.replicate (1 - (lg_sl ([.ref qd])).length) Slot.unset).toArray = ls at hl ⊢
  have hl : lv_has ls 1 [(0, .ref qd)] := hl
  refine lv_aload_n hx hb dX2_writesDone_0 rfl (lv_at hl 0 rfl) ?_
  refine va_get (D := (dC, dI)) (ci := 1) (v := .int (nI dn)) (C := RX2) (T := TX2) (N := 4) hx hb hts iwX2 hown hK hP 0 rfl rfl 3 (by decide) fk23 (fun _ h9 => h9) rfl dX2_writesDone_1 ?_
  have hret : nI dn = nI dn := rfl
  refine zz_top hret ?_
  exact W.iret hx hb hr (fun tS ht hW => ⟨_, rfl, rfl, ht⟩) (fun _ h => nomatch h) dX2_writesDone_4
set_option maxHeartbeats 4000000 in
set_option maxRecDepth 100000 in
theorem c_X2_write_off (l : Launch) (dC : Nat → ClassId) (dI : Nat → Nat → Nat) (cyI cyZ : ClassId) (qd qw qr : Nat) (sz : Nat) (w : Nat → Int32) (lf : Int32) (dn : Nat) (row : Nat → Int32) (b : Nat) (hb9 : b < 64) (hz : lf = nI 0) : Met l yX2_write wsX2_write ({ frames := 0, cells := 0, slots := 0, locals := 0 }) (va_Pc [.ref qd, .int (nI b), .ref qr] (fun U => U.heap.size = sz ∧ va_P (dC, dI) vwCl [(qd, .inr (1, [.ref qw, .int (bI true), .int lf, .int (nI dn)])), (qw, .inl (cyI, 512, .inl w)), (qr, .inl (cyI, 8, .inl row))] U.heap ∧ va_K (dC, dI) vwCl [(cyI, .int), (cyZ, .boolean)] U ∧ va_D (fun _ => True) [(qd, .inr (1, [.ref qw, .int (bI true), .int lf, .int (nI dn)])), (qw, .inl (cyI, 512, .inl w)), (qr, .inl (cyI, 8, .inl row))])) (va_Qi (S := Unit) (fun (r : Int32) (_ : Unit) => r = bI false) (fun (_ : Unit) tS => va_P (dC, dI) vwCl [(qd, .inr (1, [.ref qw, .int (bI false), .int lf, .int (nI dn)])), (qw, .inl (cyI, 512, .inl w)), (qr, .inl (cyI, 8, .inl row))] tS.heap ∧ va_K (dC, dI) vwCl [(cyI, .int), (cyZ, .boolean)] tS ∧ va_D (va_A [(qd, .inr (1, [.ref qw, .int (bI true), .int lf, .int (nI dn)])), (qw, .inl (cyI, 512, .inl w)), (qr, .inl (cyI, 8, .inl row))] sz) [(qd, .inr (1, [.ref qw, .int (bI false), .int lf, .int (nI dn)])), (qw, .inl (cyI, 512, .inl w)), (qr, .inl (cyI, 8, .inl row))]) (va_A [(qd, .inr (1, [.ref qw, .int (bI true), .int lf, .int (nI dn)])), (qw, .inl (cyI, 512, .inl w)), (qr, .inl (cyI, 8, .inl row))] sz)) 0 0 (va_A [(qd, .inr (1, [.ref qw, .int (bI true), .int lf, .int (nI dn)])), (qw, .inl (cyI, 512, .inl w)), (qr, .inl (cyI, 8, .inl row))] sz) := by
  refine Met.ofW (cc := cX2_write) (maxL := 4) (ret := (some .boolean)) (by decide) rfl ?_
  intro pz ez sS mM args below meth cC s₁ B hml hv
  obtain ⟨rfl, hsz, hP, hK, hD0⟩ := hv
  have hx := B.exec
  have hb := B.bytes
  have hr := B.returns
  have hts := atoms_spec (ws := wsX2_write) B.pre
  have hown : sS.vm.findClass RX2 = some mM.cls := findClass_of_methodNamed B.named
  have hlocks := B.notSynchronized
  subst hsz
  have hD := hD0.self (sz := sS.heap.size)
  generalize hAe : va_A [(qd, .inr (1, [.ref qw, .int (bI true), .int lf, .int (nI dn)])), (qw, .inl (cyI, 512, .inl w)), (qr, .inl (cyI, 8, .inl row))] sS.heap.size = A at hD ⊢
  have hA : ∀ q : Nat, sS.heap.size ≤ q → A q := fun q h => by rw [← hAe]; exact Or.inr h
  have hS : va_S A sS.heap sS.heap [] := va_S.rf
  have hP : va_P (dC, dI) vwCl [(qd, .inr (1, [.ref qw, .int (bI true), .int lf, .int (nI dn)])), (qw, .inl (cyI, 512, .inl w)), (qr, .inl (cyI, 8, .inl row))] sS.heap := hP
  have iwX2 : ∀ w ∈ wsX20, w ∈ wsX2_write := by decide +kernel
  have fk15 := hts (.fieldLink RX2 15 "CodedStore$Disk" "on" "Z") (by decide +kernel)
  have fk19 := hts (.fieldLink RX2 19 "CodedStore$Disk" "left" "I") (by decide +kernel)
  have hl := lv_entry ([.ref qd, .int (nI b), .ref qr]) (n := 4) (Nat.le_of_ble_eq_true rfl)
  rw [lg_entry_eq]
  generalize (lg_sl ([.ref qd, .int (nI b), .ref qr]) ++ List.replicate (4 - (lg_sl ([.ref qd, .int (nI b), .ref qr])).length) Slot.unset).toArray = ls at hl ⊢
  have hl : lv_has ls 4 [(0, .ref qd), (1, .int (nI b)), (2, .ref qr)] := hl
  refine lv_aload_n hx hb dX2_write_0 rfl (lv_at hl 0 rfl) ?_
  refine va_get (D := (dC, dI)) (ci := 1) (v := .int (bI true)) (C := RX2) (T := TX2) (N := 4) hx hb hts iwX2 hown hK hP 0 rfl rfl 1 (by decide) fk15 (fun _ h9 => h9) rfl dX2_write_1 ?_
  refine zb_if_eq (tgt := 28) hx hb dX2_write_4 (by decide) (fun c_4 => ?_) (fun c_4 => ?_)
  ·
    exfalso
    exact absurd c_4 (by decide)
  ·
    refine lv_iload_n hx hb dX2_write_7 rfl (lv_at hl 1 rfl) ?_
    refine zn_if_lt (tgt := 28) hx hb dX2_write_8 (by decide) (by omega) ?_
    refine lv_iload_n hx hb dX2_write_11 rfl (lv_at hl 1 rfl) ?_
    refine lv_bipush (v := nI 64) hx hb dX2_write_12 (by decide) ?_
    refine zn_icmp_ge (tgt := 28) hx hb dX2_write_14 (by decide) (by omega) (by omega) (fun c_14 => ?_) (fun c_14 => ?_)
    ·
      exfalso
      omega
    ·
      refine lv_aload_n hx hb dX2_write_17 rfl (lv_at hl 2 rfl) ?_
      refine lv_ifnull hx hb dX2_write_18 ?_
      refine lv_aload_n hx hb dX2_write_21 rfl (lv_at hl 2 rfl) ?_
      refine va_alen (v := nI 8) hx hb hK hP 2 0 rfl rfl rfl dX2_write_22 ?_
      refine lv_bipush (v := nI 8) hx hb dX2_write_23 (by decide) ?_
      refine zn_icmp_ge (tgt := 30) hx hb dX2_write_25 (by decide) (by omega) (by omega) (fun c_25 => ?_) (fun c_25 => ?_)
      ·
        refine lv_aload_n hx hb dX2_write_30 rfl (lv_at hl 0 rfl) ?_
        refine va_get (D := (dC, dI)) (ci := 1) (v := .int lf) (C := RX2) (T := TX2) (N := 4) hx hb hts iwX2 hown hK hP 0 rfl rfl 2 (by decide) fk19 (fun _ h9 => h9) rfl dX2_write_31 ?_
        refine lv_if_ne (tgt := 44) hx hb dX2_write_34 (by decide) (fun c_34 => absurd hz c_34) (fun c_34 => ?_)
        refine lv_aload_n hx hb dX2_write_37 rfl (lv_at hl 0 rfl) ?_
        refine lv_iconst (v := nI 0) hx hb dX2_write_38 (by decide) ?_
        refine va_put (D := (dC, dI)) (ci := 1) (v := .int (nI 0)) (ty := .boolean) (C := RX2) (T := TX2) (N := 4) hx hb hts iwX2 tyX2 tyX2_ok nmX2 hown hK hP hD hS 0 rfl rfl 1 (by decide) fk15 (fun _ h9 => h9) rfl (by decide +kernel) rfl rfl (Nat.le_of_ble_eq_true rfl) dX2_write_39 (fun H locs hP hD hS => ?_)
        have hP : va_P (dC, dI) vwCl [(qd, .inr (1, [.ref qw, .int (nI 0), .int lf, .int (nI dn)])), (qw, .inl (cyI, 512, .inl w)), (qr, .inl (cyI, 8, .inl row))] H := hP
        have hD : va_D A [(qd, .inr (1, [.ref qw, .int (nI 0), .int lf, .int (nI dn)])), (qw, .inl (cyI, 512, .inl w)), (qr, .inl (cyI, 8, .inl row))] := hD
        refine lv_iconst (v := nI 0) hx hb dX2_write_42 (by decide) ?_
        -- qd : .inr (1, [.ref qw, .int (nI 0), .int lf, .int (nI dn)])  ~  .inr (1, [.ref qw, .int (bI false), .int lf, .int (nI dn)])
        have hP9 := hP.sub (ws' := [(qd, .inr (1, [.ref qw, .int (bI false), .int lf, .int (nI dn)])), (qw, .inl (cyI, 512, .inl w)), (qr, .inl (cyI, 8, .inl row))]) [0, 1, 2] rfl
        have hD9 := hD.sub (ws' := [(qd, .inr (1, [.ref qw, .int (bI false), .int lf, .int (nI dn)])), (qw, .inl (cyI, 512, .inl w)), (qr, .inl (cyI, 8, .inl row))]) [0, 1, 2] (by decide) rfl
        have hK9 := hK.sub (tys' := [(cyI, .int), (cyZ, .boolean)]) [0, 1] rfl
        have hret : nI 0 = bI false := rfl
        refine zz_top hret ?_
        exact W.zret hx hb hr (zz_narZ (by first | exact zz_zb _ | exact zz_z0 | exact zz_z1)) (fun tS ht hW => ⟨⟨_, (), rfl, rfl, by rw [ht]; exact hP9, va_K.moved hW.alike hK9, hD9⟩, hS.F ht⟩) hS.2.2 dX2_write_43
      ·
        exfalso
        omega
set_option maxHeartbeats 4000000 in
set_option maxRecDepth 100000 in
theorem c_X2_write_on (l : Launch) (dC : Nat → ClassId) (dI : Nat → Nat → Nat) (cyI cyZ : ClassId) (qd qw qr : Nat) (sz : Nat) (w : Nat → Int32) (lf : Int32) (dn : Nat) (row : Nat → Int32) (b : Nat) (hb9 : b < 64) (hz : ¬ lf = nI 0) : Met l yX2_write wsX2_write ({ frames := 0, cells := 0, slots := 0, locals := 0 }) (va_Pc [.ref qd, .int (nI b), .ref qr] (fun U => U.heap.size = sz ∧ va_P (dC, dI) vwCl [(qd, .inr (1, [.ref qw, .int (bI true), .int lf, .int (nI dn)])), (qw, .inl (cyI, 512, .inl w)), (qr, .inl (cyI, 8, .inl row))] U.heap ∧ va_K (dC, dI) vwCl [(cyI, .int), (cyZ, .boolean)] U ∧ va_D (fun _ => True) [(qd, .inr (1, [.ref qw, .int (bI true), .int lf, .int (nI dn)])), (qw, .inl (cyI, 512, .inl w)), (qr, .inl (cyI, 8, .inl row))])) (va_Qi (S := Unit) (fun (r : Int32) (_ : Unit) => r = bI true) (fun (_ : Unit) tS => va_P (dC, dI) vwCl [(qd, .inr (1, [.ref qw, .int (bI true), .int (kDec lf), .int (nI (dn + 1))])), (qw, .inl (cyI, 512, .inl (fb_put w row (8 * b) 8))), (qr, .inl (cyI, 8, .inl row))] tS.heap ∧ va_K (dC, dI) vwCl [(cyI, .int), (cyZ, .boolean)] tS ∧ va_D (va_A [(qd, .inr (1, [.ref qw, .int (bI true), .int lf, .int (nI dn)])), (qw, .inl (cyI, 512, .inl w)), (qr, .inl (cyI, 8, .inl row))] sz) [(qd, .inr (1, [.ref qw, .int (bI true), .int (kDec lf), .int (nI (dn + 1))])), (qw, .inl (cyI, 512, .inl (fb_put w row (8 * b) 8))), (qr, .inl (cyI, 8, .inl row))]) (va_A [(qd, .inr (1, [.ref qw, .int (bI true), .int lf, .int (nI dn)])), (qw, .inl (cyI, 512, .inl w)), (qr, .inl (cyI, 8, .inl row))] sz)) 0 0 (va_A [(qd, .inr (1, [.ref qw, .int (bI true), .int lf, .int (nI dn)])), (qw, .inl (cyI, 512, .inl w)), (qr, .inl (cyI, 8, .inl row))] sz) := by
  refine Met.ofW (cc := cX2_write) (maxL := 4) (ret := (some .boolean)) (by decide) rfl ?_
  intro pz ez sS mM args below meth cC s₁ B hml hv
  obtain ⟨rfl, hsz, hP, hK, hD0⟩ := hv
  have hx := B.exec
  have hb := B.bytes
  have hr := B.returns
  have hts := atoms_spec (ws := wsX2_write) B.pre
  have hown : sS.vm.findClass RX2 = some mM.cls := findClass_of_methodNamed B.named
  have hlocks := B.notSynchronized
  subst hsz
  have hD := hD0.self (sz := sS.heap.size)
  generalize hAe : va_A [(qd, .inr (1, [.ref qw, .int (bI true), .int lf, .int (nI dn)])), (qw, .inl (cyI, 512, .inl w)), (qr, .inl (cyI, 8, .inl row))] sS.heap.size = A at hD ⊢
  have hA : ∀ q : Nat, sS.heap.size ≤ q → A q := fun q h => by rw [← hAe]; exact Or.inr h
  have hS : va_S A sS.heap sS.heap [] := va_S.rf
  have hP : va_P (dC, dI) vwCl [(qd, .inr (1, [.ref qw, .int (bI true), .int lf, .int (nI dn)])), (qw, .inl (cyI, 512, .inl w)), (qr, .inl (cyI, 8, .inl row))] sS.heap := hP
  have iwX2 : ∀ w ∈ wsX20, w ∈ wsX2_write := by decide +kernel
  have fk9 := hts (.fieldLink RX2 9 "CodedStore$Disk" "words" "[I") (by decide +kernel)
  have fk15 := hts (.fieldLink RX2 15 "CodedStore$Disk" "on" "Z") (by decide +kernel)
  have fk19 := hts (.fieldLink RX2 19 "CodedStore$Disk" "left" "I") (by decide +kernel)
  have fk23 := hts (.fieldLink RX2 23 "CodedStore$Disk" "done" "I") (by decide +kernel)
  have hl := lv_entry ([.ref qd, .int (nI b), .ref qr]) (n := 4) (Nat.le_of_ble_eq_true rfl)
  rw [lg_entry_eq]
  generalize (lg_sl ([.ref qd, .int (nI b), .ref qr]) ++ List.replicate (4 - (lg_sl ([.ref qd, .int (nI b), .ref qr])).length) Slot.unset).toArray = ls at hl ⊢
  have hl : lv_has ls 4 [(0, .ref qd), (1, .int (nI b)), (2, .ref qr)] := hl
  refine lv_aload_n hx hb dX2_write_0 rfl (lv_at hl 0 rfl) ?_
  refine va_get (D := (dC, dI)) (ci := 1) (v := .int (bI true)) (C := RX2) (T := TX2) (N := 4) hx hb hts iwX2 hown hK hP 0 rfl rfl 1 (by decide) fk15 (fun _ h9 => h9) rfl dX2_write_1 ?_
  refine zb_if_eq (tgt := 28) hx hb dX2_write_4 (by decide) (fun c_4 => ?_) (fun c_4 => ?_)
  ·
    exfalso
    exact absurd c_4 (by decide)
  ·
    refine lv_iload_n hx hb dX2_write_7 rfl (lv_at hl 1 rfl) ?_
    refine zn_if_lt (tgt := 28) hx hb dX2_write_8 (by decide) (by omega) ?_
    refine lv_iload_n hx hb dX2_write_11 rfl (lv_at hl 1 rfl) ?_
    refine lv_bipush (v := nI 64) hx hb dX2_write_12 (by decide) ?_
    refine zn_icmp_ge (tgt := 28) hx hb dX2_write_14 (by decide) (by omega) (by omega) (fun c_14 => ?_) (fun c_14 => ?_)
    ·
      exfalso
      omega
    ·
      refine lv_aload_n hx hb dX2_write_17 rfl (lv_at hl 2 rfl) ?_
      refine lv_ifnull hx hb dX2_write_18 ?_
      refine lv_aload_n hx hb dX2_write_21 rfl (lv_at hl 2 rfl) ?_
      refine va_alen (v := nI 8) hx hb hK hP 2 0 rfl rfl rfl dX2_write_22 ?_
      refine lv_bipush (v := nI 8) hx hb dX2_write_23 (by decide) ?_
      refine zn_icmp_ge (tgt := 30) hx hb dX2_write_25 (by decide) (by omega) (by omega) (fun c_25 => ?_) (fun c_25 => ?_)
      ·
        refine lv_aload_n hx hb dX2_write_30 rfl (lv_at hl 0 rfl) ?_
        refine va_get (D := (dC, dI)) (ci := 1) (v := .int lf) (C := RX2) (T := TX2) (N := 4) hx hb hts iwX2 hown hK hP 0 rfl rfl 2 (by decide) fk19 (fun _ h9 => h9) rfl dX2_write_31 ?_
        refine lv_if_ne (tgt := 44) hx hb dX2_write_34 (by decide) (fun c_34 => ?_) (fun c_34 => absurd c_34 hz)
        refine lv_iconst (v := nI 0) hx hb dX2_write_44 (by decide) ?_
        refine lv_istore_n (lv' := [(3, .int (nI 0)), (0, .ref qd), (1, .int (nI b)), (2, .ref qr)]) hx hb dX2_write_45 rfl hl (by decide) rfl (fun ls hl => ?_)
        refine zz_loopW (pc := 46) (μ := fun (x : Nat × (Nat → Int32)) => match x with | (i, w1) => 8 - i) (Inv := fun (x : Nat × (Nat → Int32)) (H : Heap) (locs : List Loc) (ls : Array Slot) => match x with | (i, w1) => (i ≤ 8) ∧ (w1 = fb_put w row (8 * b) i) ∧ va_P (dC, dI) vwCl [(qd, .inr (1, [.ref qw, .int (bI true), .int lf, .int (nI dn)])), (qw, .inl (cyI, 512, .inl w1)), (qr, .inl (cyI, 8, .inl row))] H ∧ va_D A [(qd, .inr (1, [.ref qw, .int (bI true), .int lf, .int (nI dn)])), (qw, .inl (cyI, 512, .inl w1)), (qr, .inl (cyI, 8, .inl row))] ∧ va_S A sS.heap H locs ∧ lv_has ls 4 [(0, .ref qd), (1, .int (nI b)), (2, .ref qr), (3, .int (nI i))]) (x0 := (0, w)) ⟨by omega, (fb_put_0 w row (8 * b)).symm, hP, hD, hS, lv_sub hl [1, 2, 3, 0] rfl⟩ ?_
        intro ⟨i, w1⟩ H locs ls hI ih46
        obtain ⟨hi, hw1, hP, hD, hS, hl⟩ := hI
        have hl : lv_has ls 4 [(0, .ref qd), (1, .int (nI b)), (2, .ref qr), (3, .int (nI i))] := hl
        have hP : va_P (dC, dI) vwCl [(qd, .inr (1, [.ref qw, .int (bI true), .int lf, .int (nI dn)])), (qw, .inl (cyI, 512, .inl w1)), (qr, .inl (cyI, 8, .inl row))] H := hP
        have hD : va_D A [(qd, .inr (1, [.ref qw, .int (bI true), .int lf, .int (nI dn)])), (qw, .inl (cyI, 512, .inl w1)), (qr, .inl (cyI, 8, .inl row))] := hD
        have hi : i ≤ 8 := hi
        have hw1 : w1 = fb_put w row (8 * b) i := hw1
        refine lv_iload_n hx hb dX2_write_46 rfl (lv_at hl 3 rfl) ?_
        refine lv_bipush (v := nI 8) hx hb dX2_write_47 (by decide) ?_
        refine zn_icmp_ge (tgt := 72) hx hb dX2_write_49 (by decide) (by omega) (by omega) (fun c_49 => ?_) (fun c_49 => ?_)
        ·
          refine lv_aload_n hx hb dX2_write_72 rfl (lv_at hl 0 rfl) ?_
          refine va_get (D := (dC, dI)) (ci := 1) (v := .int lf) (C := RX2) (T := TX2) (N := 4) hx hb hts iwX2 hown hK hP 0 rfl rfl 2 (by decide) fk19 (fun _ h9 => h9) rfl dX2_write_73 ?_
          refine lv_if_le (tgt := 89) hx hb dX2_write_76 (by decide) (fun c_76 => ?_) (fun c_76 => ?_)
          ·
            refine lv_aload_n hx hb dX2_write_89 rfl (lv_at hl 0 rfl) ?_
            refine lv_dup hx hb dX2_write_90 rfl ?_
            refine va_get (D := (dC, dI)) (ci := 1) (v := .int (nI dn)) (C := RX2) (T := TX2) (N := 4) hx hb hts iwX2 hown hK hP 0 rfl rfl 3 (by decide) fk23 (fun _ h9 => h9) rfl dX2_write_91 ?_
            refine lv_iconst (v := nI 1) hx hb dX2_write_94 (by decide) ?_
            refine lv_iadd hx hb dX2_write_95 ?_
            refine zz_top (nI_add dn 1) ?_
            refine va_put (D := (dC, dI)) (ci := 1) (v := .int (nI (dn + 1))) (ty := .int) (C := RX2) (T := TX2) (N := 4) hx hb hts iwX2 tyX2 tyX2_ok nmX2 hown hK hP hD hS 0 rfl rfl 3 (by decide) fk23 (fun _ h9 => h9) rfl (by decide +kernel) rfl rfl (Nat.le_of_ble_eq_true rfl) dX2_write_96 (fun H locs hP hD hS => ?_)
            have hP : va_P (dC, dI) vwCl [(qd, .inr (1, [.ref qw, .int (bI true), .int lf, .int (nI (dn + 1))])), (qw, .inl (cyI, 512, .inl w1)), (qr, .inl (cyI, 8, .inl row))] H := hP
            have hD : va_D A [(qd, .inr (1, [.ref qw, .int (bI true), .int lf, .int (nI (dn + 1))])), (qw, .inl (cyI, 512, .inl w1)), (qr, .inl (cyI, 8, .inl row))] := hD
            refine lv_iconst (v := nI 1) hx hb dX2_write_99 (by decide) ?_
            have e8 : i = 8 := by omega
            subst e8
            subst hw1
            rw [kDec_n (Int32.not_lt.mpr c_76)] at hP hD
            -- qd : .inr (1, [.ref qw, .int (bI true), .int lf, .int (nI (dn + 1))])  ~  .inr (1, [.ref qw, .int (bI true), .int (kDec lf), .int (nI (dn + 1))])
            -- qw : .inl (cyI, 512, .inl w1)  ~  .inl (cyI, 512, .inl (fb_put w row (8 * b) 8))
            have hP9 := hP.sub (ws' := [(qd, .inr (1, [.ref qw, .int (bI true), .int (kDec lf), .int (nI (dn + 1))])), (qw, .inl (cyI, 512, .inl (fb_put w row (8 * b) 8))), (qr, .inl (cyI, 8, .inl row))]) [0, 1, 2] rfl
            have hD9 := hD.sub (ws' := [(qd, .inr (1, [.ref qw, .int (bI true), .int (kDec lf), .int (nI (dn + 1))])), (qw, .inl (cyI, 512, .inl (fb_put w row (8 * b) 8))), (qr, .inl (cyI, 8, .inl row))]) [0, 1, 2] (by decide) rfl
            have hK9 := hK.sub (tys' := [(cyI, .int), (cyZ, .boolean)]) [0, 1] rfl
            have hret : nI 1 = bI true := rfl
            refine zz_top hret ?_
            exact W.zret hx hb hr (zz_narZ (by first | exact zz_zb _ | exact zz_z0 | exact zz_z1)) (fun tS ht hW => ⟨⟨_, (), rfl, rfl, by rw [ht]; exact hP9, va_K.moved hW.alike hK9, hD9⟩, hS.F ht⟩) hS.2.2 dX2_write_100
          ·
            refine lv_aload_n hx hb dX2_write_79 rfl (lv_at hl 0 rfl) ?_
            refine lv_dup hx hb dX2_write_80 rfl ?_
            refine va_get (D := (dC, dI)) (ci := 1) (v := .int lf) (C := RX2) (T := TX2) (N := 4) hx hb hts iwX2 hown hK hP 0 rfl rfl 2 (by decide) fk19 (fun _ h9 => h9) rfl dX2_write_81 ?_
            refine lv_iconst (v := nI 1) hx hb dX2_write_84 (by decide) ?_
            refine lv_isub hx hb dX2_write_85 ?_
            refine va_put (D := (dC, dI)) (ci := 1) (v := .int (lf - (nI 1))) (ty := .int) (C := RX2) (T := TX2) (N := 4) hx hb hts iwX2 tyX2 tyX2_ok nmX2 hown hK hP hD hS 0 rfl rfl 2 (by decide) fk19 (fun _ h9 => h9) rfl (by decide +kernel) rfl rfl (Nat.le_of_ble_eq_true rfl) dX2_write_86 (fun H locs hP hD hS => ?_)
            have hP : va_P (dC, dI) vwCl [(qd, .inr (1, [.ref qw, .int (bI true), .int (lf - (nI 1)), .int (nI dn)])), (qw, .inl (cyI, 512, .inl w1)), (qr, .inl (cyI, 8, .inl row))] H := hP
            have hD : va_D A [(qd, .inr (1, [.ref qw, .int (bI true), .int (lf - (nI 1)), .int (nI dn)])), (qw, .inl (cyI, 512, .inl w1)), (qr, .inl (cyI, 8, .inl row))] := hD
            refine lv_aload_n hx hb dX2_write_89 rfl (lv_at hl 0 rfl) ?_
            refine lv_dup hx hb dX2_write_90 rfl ?_
            refine va_get (D := (dC, dI)) (ci := 1) (v := .int (nI dn)) (C := RX2) (T := TX2) (N := 4) hx hb hts iwX2 hown hK hP 0 rfl rfl 3 (by decide) fk23 (fun _ h9 => h9) rfl dX2_write_91 ?_
            refine lv_iconst (v := nI 1) hx hb dX2_write_94 (by decide) ?_
            refine lv_iadd hx hb dX2_write_95 ?_
            refine zz_top (nI_add dn 1) ?_
            refine va_put (D := (dC, dI)) (ci := 1) (v := .int (nI (dn + 1))) (ty := .int) (C := RX2) (T := TX2) (N := 4) hx hb hts iwX2 tyX2 tyX2_ok nmX2 hown hK hP hD hS 0 rfl rfl 3 (by decide) fk23 (fun _ h9 => h9) rfl (by decide +kernel) rfl rfl (Nat.le_of_ble_eq_true rfl) dX2_write_96 (fun H locs hP hD hS => ?_)
            have hP : va_P (dC, dI) vwCl [(qd, .inr (1, [.ref qw, .int (bI true), .int (lf - (nI 1)), .int (nI (dn + 1))])), (qw, .inl (cyI, 512, .inl w1)), (qr, .inl (cyI, 8, .inl row))] H := hP
            have hD : va_D A [(qd, .inr (1, [.ref qw, .int (bI true), .int (lf - (nI 1)), .int (nI (dn + 1))])), (qw, .inl (cyI, 512, .inl w1)), (qr, .inl (cyI, 8, .inl row))] := hD
            refine lv_iconst (v := nI 1) hx hb dX2_write_99 (by decide) ?_
            have e8 : i = 8 := by omega
            subst e8
            subst hw1
            rw [kDec_p (Int32.not_le.mp c_76)] at hP hD
            -- qd : .inr (1, [.ref qw, .int (bI true), .int (lf - (nI 1)), .int (nI (dn + 1))])  ~  .inr (1, [.ref qw, .int (bI true), .int (kDec lf), .int (nI (dn + 1))])
            -- qw : .inl (cyI, 512, .inl w1)  ~  .inl (cyI, 512, .inl (fb_put w row (8 * b) 8))
            have hP9 := hP.sub (ws' := [(qd, .inr (1, [.ref qw, .int (bI true), .int (kDec lf), .int (nI (dn + 1))])), (qw, .inl (cyI, 512, .inl (fb_put w row (8 * b) 8))), (qr, .inl (cyI, 8, .inl row))]) [0, 1, 2] rfl
            have hD9 := hD.sub (ws' := [(qd, .inr (1, [.ref qw, .int (bI true), .int (kDec lf), .int (nI (dn + 1))])), (qw, .inl (cyI, 512, .inl (fb_put w row (8 * b) 8))), (qr, .inl (cyI, 8, .inl row))]) [0, 1, 2] (by decide) rfl
            have hK9 := hK.sub (tys' := [(cyI, .int), (cyZ, .boolean)]) [0, 1] rfl
            have hret : nI 1 = bI true := rfl
            refine zz_top hret ?_
            exact W.zret hx hb hr (zz_narZ (by first | exact zz_zb _ | exact zz_z0 | exact zz_z1)) (fun tS ht hW => ⟨⟨_, (), rfl, rfl, by rw [ht]; exact hP9, va_K.moved hW.alike hK9, hD9⟩, hS.F ht⟩) hS.2.2 dX2_write_100
        ·
          refine lv_aload_n hx hb dX2_write_52 rfl (lv_at hl 0 rfl) ?_
          refine va_get (D := (dC, dI)) (ci := 1) (v := .ref qw) (C := RX2) (T := TX2) (N := 4) hx hb hts iwX2 hown hK hP 0 rfl rfl 0 (by decide) fk9 (fun _ h9 => h9) rfl dX2_write_53 ?_
          refine lv_iload_n hx hb dX2_write_56 rfl (lv_at hl 1 rfl) ?_
          refine lv_bipush (v := nI 8) hx hb dX2_write_57 (by decide) ?_
          refine lv_imul hx hb dX2_write_59 ?_
          refine zz_top (pk_mul b 8) ?_
          refine lv_iload_n hx hb dX2_write_60 rfl (lv_at hl 3 rfl) ?_
          refine lv_iadd hx hb dX2_write_61 ?_
          refine zz_top (nI_add (b * 8) i) ?_
          refine lv_aload_n hx hb dX2_write_62 rfl (lv_at hl 2 rfl) ?_
          refine lv_iload_n hx hb dX2_write_63 rfl (lv_at hl 3 rfl) ?_
          refine va_iald hx hb hK hP 2 0 rfl rfl (vp_in_nI (n := i) (by omega) (by decide)) dX2_write_64 ?_
          refine zz_top (congrArg row (nI_clamp (n := i) (by omega))) ?_
          refine va_iast hx hb hK hP hD hS 1 0 rfl rfl (vp_in_nI (n := b * 8 + i) (by omega) (by decide)) dX2_write_65 (fun H locs hP hD hS => ?_)
          rw [nI_clamp (n := b * 8 + i) (by omega)] at hP hD
          have hP : va_P (dC, dI) vwCl [(qd, .inr (1, [.ref qw, .int (bI true), .int lf, .int (nI dn)])), (qw, .inl (cyI, 512, .inl (upd w1 (b * 8 + i) (row i)))), (qr, .inl (cyI, 8, .inl row))] H := hP
          have hD : va_D A [(qd, .inr (1, [.ref qw, .int (bI true), .int lf, .int (nI dn)])), (qw, .inl (cyI, 512, .inl (upd w1 (b * 8 + i) (row i)))), (qr, .inl (cyI, 8, .inl row))] := hD
          refine lv_iinc (v := nI (i + 1)) (lv' := [(3, .int (nI (i + 1))), (0, .ref qd), (1, .int (nI b)), (2, .ref qr)]) hx hb dX2_write_66 hl (k := 3) rfl (nI_add i 1) (by decide) rfl (fun ls hl => ?_)
          refine lv_goto (tgt := 46) hx hb dX2_write_69 (by decide) ?_
          exact ih46 (i + 1, upd w1 (b * 8 + i) (row i)) _ _ _ ⟨by omega, by rw [hw1, Nat.mul_comm b 8]; exact fb_put_succ w row (8 * b) i, hP, hD, hS, lv_sub hl [1, 2, 3, 0] rfl⟩ (by first | omega | (dsimp only; omega))
      ·
        exfalso
        omega
set_option maxHeartbeats 4000000 in
set_option maxRecDepth 100000 in
theorem c_X2_wordAt (l : Launch) (dC : Nat → ClassId) (dI : Nat → Nat → Nat) (cyI cyZ : ClassId) (qd qw : Nat) (w : Nat → Int32) (on : Bool) (lf : Int32) (dn : Nat) (b i : Nat) (hb9 : b < 64) (hi : i < 8) : Met l yX2_wordAt wsX2_wordAt ({ frames := 0, cells := 0, slots := 0, locals := 0 }) (va_Pc [.ref qd, .int (nI b), .int (nI i)] (fun U => va_P (dC, dI) vwCl [(qd, .inr (1, [.ref qw, .int (bI on), .int lf, .int (nI dn)])), (qw, .inl (cyI, 512, .inl w))] U.heap ∧ va_K (dC, dI) vwCl [(cyI, .int), (cyZ, .boolean)] U)) (vp_Si (fun r => r = w (8 * b + i))) 0 0 (fun _ => False) := by
  refine Met.ofW (cc := cX2_wordAt) (maxL := 3) (ret := (some .int)) (by decide) rfl ?_
  intro pz ez sS mM args below meth cC s₁ B hml hv
  obtain ⟨rfl, hP, hK⟩ := hv
  have hx := B.exec
  have hb := B.bytes
  have hr := B.returns
  have hts := atoms_spec (ws := wsX2_wordAt) B.pre
  have hown : sS.vm.findClass RX2 = some mM.cls := findClass_of_methodNamed B.named
  have hlocks := B.notSynchronized
  have iwX2 : ∀ w ∈ wsX20, w ∈ wsX2_wordAt := by decide +kernel
  have fk9 := hts (.fieldLink RX2 9 "CodedStore$Disk" "words" "[I") (by decide +kernel)
  have hl := lv_entry ([.ref qd, .int (nI b), .int (nI i)]) (n := 3) (Nat.le_of_ble_eq_true rfl)
  rw [lg_entry_eq]
  generalize (lg_sl ([.ref qd, .int (nI b), .int (nI i)]) ++ List.replicate (3 - (lg_sl ([.ref qd, .int (nI b), .int (nI i)])).length) Slot.unset).toArray = ls at hl ⊢
  have hl : lv_has ls 3 [(0, .ref qd), (1, .int (nI b)), (2, .int (nI i))] := hl
  refine lv_iload_n hx hb dX2_wordAt_0 rfl (lv_at hl 1 rfl) ?_
  refine zn_if_lt (tgt := 20) hx hb dX2_wordAt_1 (by decide) (by omega) ?_
  refine lv_iload_n hx hb dX2_wordAt_4 rfl (lv_at hl 1 rfl) ?_
  refine lv_bipush (v := nI 64) hx hb dX2_wordAt_5 (by decide) ?_
  refine zn_icmp_ge (tgt := 20) hx hb dX2_wordAt_7 (by decide) (by omega) (by omega) (fun c_7 => ?_) (fun c_7 => ?_)
  ·
    exfalso
    omega
  ·
    refine lv_iload_n hx hb dX2_wordAt_10 rfl (lv_at hl 2 rfl) ?_
    refine zn_if_lt (tgt := 20) hx hb dX2_wordAt_11 (by decide) (by omega) ?_
    refine lv_iload_n hx hb dX2_wordAt_14 rfl (lv_at hl 2 rfl) ?_
    refine lv_bipush (v := nI 8) hx hb dX2_wordAt_15 (by decide) ?_
    refine zn_icmp_lt (tgt := 22) hx hb dX2_wordAt_17 (by decide) (by omega) (by omega) (fun c_17 => ?_) (fun c_17 => ?_)
    ·
      refine lv_aload_n hx hb dX2_wordAt_22 rfl (lv_at hl 0 rfl) ?_
      refine va_get (D := (dC, dI)) (ci := 1) (v := .ref qw) (C := RX2) (T := TX2) (N := 4) hx hb hts iwX2 hown hK hP 0 rfl rfl 0 (by decide) fk9 (fun _ h9 => h9) rfl dX2_wordAt_23 ?_
      refine lv_iload_n hx hb dX2_wordAt_26 rfl (lv_at hl 1 rfl) ?_
      refine lv_bipush (v := nI 8) hx hb dX2_wordAt_27 (by decide) ?_
      refine lv_imul hx hb dX2_wordAt_29 ?_
      refine zz_top (pk_mul b 8) ?_
      refine lv_iload_n hx hb dX2_wordAt_30 rfl (lv_at hl 2 rfl) ?_
      refine lv_iadd hx hb dX2_wordAt_31 ?_
      refine zz_top (nI_add (b * 8) i) ?_
      refine va_iald hx hb hK hP 1 0 rfl rfl (vp_in_nI (n := b * 8 + i) (by omega) (by decide)) dX2_wordAt_32 ?_
      refine zz_top (congrArg w (nI_clamp (n := b * 8 + i) (by omega))) ?_
      have hret : w (b * 8 + i) = w (8 * b + i) := by rw [Nat.mul_comm b 8]
      refine zz_top hret ?_
      exact W.iret hx hb hr (fun tS ht hW => ⟨_, rfl, rfl, ht⟩) (fun _ h => nomatch h) dX2_wordAt_33
    ·
      exfalso
      omega
set_option maxHeartbeats 4000000 in
set_option maxRecDepth 100000 in
theorem c_X2_numberOf (l : Launch) (dC : Nat → ClassId) (dI : Nat → Nat → Nat) (cyI cyZ : ClassId) (qd qw : Nat) (w : Nat → Int32) (on : Bool) (lf : Int32) (dn : Nat) (b : Nat) (hb9 : b < 64) : Met l yX2_numberOf wsX2_numberOf ({ frames := 1, cells := 0, slots := 0, locals := 22 }) (va_Pc [.ref qd, .int (nI b)] (fun U => va_P (dC, dI) vwCl [(qd, .inr (1, [.ref qw, .int (bI on), .int lf, .int (nI dn)])), (qw, .inl (cyI, 512, .inl w))] U.heap ∧ va_K (dC, dI) vwCl [(cyI, .int), (cyZ, .boolean)] U)) (vp_Si (fun r => r = kNum w b)) 0 0 (fun _ => False) := by
  refine Met.ofW (cc := cX2_numberOf) (maxL := 2) (ret := (some .int)) (by decide) rfl ?_
  intro pz ez sS mM args below meth cC s₁ B hml hv
  obtain ⟨rfl, hP, hK⟩ := hv
  have hx := B.exec
  have hb := B.bytes
  have hr := B.returns
  have hts := atoms_spec (ws := wsX2_numberOf) B.pre
  have hown : sS.vm.findClass RX2 = some mM.cls := findClass_of_methodNamed B.named
  have hlocks := B.notSynchronized
  have hl := lv_entry ([.ref qd, .int (nI b)]) (n := 2) (Nat.le_of_ble_eq_true rfl)
  rw [lg_entry_eq]
  generalize (lg_sl ([.ref qd, .int (nI b)]) ++ List.replicate (2 - (lg_sl ([.ref qd, .int (nI b)])).length) Slot.unset).toArray = ls at hl ⊢
  have hl : lv_has ls 2 [(0, .ref qd), (1, .int (nI b))] := hl
  refine lv_aload_n hx hb dX2_numberOf_0 rfl (lv_at hl 0 rfl) ?_
  refine lv_iload_n hx hb dX2_numberOf_1 rfl (lv_at hl 1 rfl) ?_
  refine lv_iconst (v := nI 0) hx hb dX2_numberOf_2 (by decide) ?_
  have hPc := hP.sub (ws' := [(qd, .inr (1, [.ref qw, .int (bI on), .int lf, .int (nI dn)])), (qw, .inl (cyI, 512, .inl w))]) [0, 1] rfl
  have hKc := hK.sub (tys' := [(cyI, .int), (cyZ, .boolean)]) [0, 1] rfl
  refine vp_callSi (va_Run.run (va_runV (As := [.int (nI b), .int (nI 0)]) (rest := []) ⟨hx, hb, hml, hown, hts⟩ (c_X2_wordAt l dC dI cyI cyZ qd qw w on lf dn b 0 (by omega) (by omega)) (cwV 2 hts gX2_numberOf_X2_wordAt rfl rfl rfl (by decide +kernel) ⟨Nat.le_of_ble_eq_true rfl, Nat.le_of_ble_eq_true rfl⟩) ⟨zz_blR, va_recv hKc hPc (ci := 1) (q0 := 0) rfl rfl, fun U hU hW => ⟨rfl, by rw [hU]; exact hPc, va_K.moved hW.alike hKc⟩⟩ rfl rfl hl.1 rfl (lv_room (Nat.le_of_ble_eq_true rfl)) dX2_numberOf_3 ⟨Nat.zero_le _, Nat.zero_le _⟩)) (fun r_3 hr_3 => ?_)
  have hr_3 : r_3 = w (8 * b + 0) := hr_3
  subst hr_3
  have hret : w (8 * b + 0) = kNum w b := rfl
  refine zz_top hret ?_
  exact W.iret hx hb hr (fun tS ht hW => ⟨_, rfl, rfl, ht⟩) (fun _ h => nomatch h) dX2_numberOf_6
set_option maxHeartbeats 4000000 in
set_option maxRecDepth 100000 in
theorem c_X2_partOf (l : Launch) (dC : Nat → ClassId) (dI : Nat → Nat → Nat) (cyI cyZ : ClassId) (qd qw : Nat) (w : Nat → Int32) (on : Bool) (lf : Int32) (dn : Nat) (b : Nat) (hb9 : b < 64) : Met l yX2_partOf wsX2_partOf ({ frames := 1, cells := 0, slots := 0, locals := 22 }) (va_Pc [.ref qd, .int (nI b)] (fun U => va_P (dC, dI) vwCl [(qd, .inr (1, [.ref qw, .int (bI on), .int lf, .int (nI dn)])), (qw, .inl (cyI, 512, .inl w))] U.heap ∧ va_K (dC, dI) vwCl [(cyI, .int), (cyZ, .boolean)] U)) (vp_Si (fun r => r = kPart w b)) 0 0 (fun _ => False) := by
  refine Met.ofW (cc := cX2_partOf) (maxL := 2) (ret := (some .int)) (by decide) rfl ?_
  intro pz ez sS mM args below meth cC s₁ B hml hv
  obtain ⟨rfl, hP, hK⟩ := hv
  have hx := B.exec
  have hb := B.bytes
  have hr := B.returns
  have hts := atoms_spec (ws := wsX2_partOf) B.pre
  have hown : sS.vm.findClass RX2 = some mM.cls := findClass_of_methodNamed B.named
  have hlocks := B.notSynchronized
  have hl := lv_entry ([.ref qd, .int (nI b)]) (n := 2) (Nat.le_of_ble_eq_true rfl)
  rw [lg_entry_eq]
  generalize (lg_sl ([.ref qd, .int (nI b)]) ++ List.replicate (2 - (lg_sl ([.ref qd, .int (nI b)])).length) Slot.unset).toArray = ls at hl ⊢
  have hl : lv_has ls 2 [(0, .ref qd), (1, .int (nI b))] := hl
  refine lv_aload_n hx hb dX2_partOf_0 rfl (lv_at hl 0 rfl) ?_
  refine lv_iload_n hx hb dX2_partOf_1 rfl (lv_at hl 1 rfl) ?_
  refine lv_iconst (v := nI 1) hx hb dX2_partOf_2 (by decide) ?_
  have hPc := hP.sub (ws' := [(qd, .inr (1, [.ref qw, .int (bI on), .int lf, .int (nI dn)])), (qw, .inl (cyI, 512, .inl w))]) [0, 1] rfl
  have hKc := hK.sub (tys' := [(cyI, .int), (cyZ, .boolean)]) [0, 1] rfl
  refine vp_callSi (va_Run.run (va_runV (As := [.int (nI b), .int (nI 1)]) (rest := []) ⟨hx, hb, hml, hown, hts⟩ (c_X2_wordAt l dC dI cyI cyZ qd qw w on lf dn b 1 (by omega) (by omega)) (cwV 2 hts gX2_partOf_X2_wordAt rfl rfl rfl (by decide +kernel) ⟨Nat.le_of_ble_eq_true rfl, Nat.le_of_ble_eq_true rfl⟩) ⟨zz_blR, va_recv hKc hPc (ci := 1) (q0 := 0) rfl rfl, fun U hU hW => ⟨rfl, by rw [hU]; exact hPc, va_K.moved hW.alike hKc⟩⟩ rfl rfl hl.1 rfl (lv_room (Nat.le_of_ble_eq_true rfl)) dX2_partOf_3 ⟨Nat.zero_le _, Nat.zero_le _⟩)) (fun r_3 hr_3 => ?_)
  have hr_3 : r_3 = w (8 * b + 1) := hr_3
  subst hr_3
  refine lv_sipush (v := nI 255) hx hb dX2_partOf_6 (by decide) ?_
  refine lv_iand hx hb dX2_partOf_9 ?_
  have hret : (w (8 * b + 1)) &&& (nI 255) = kPart w b := rfl
  refine zz_top hret ?_
  exact W.iret hx hb hr (fun tS ht hW => ⟨_, rfl, rfl, ht⟩) (fun _ h => nomatch h) dX2_partOf_10
set_option maxHeartbeats 4000000 in
set_option maxRecDepth 100000 in
theorem c_X2_partsOf (l : Launch) (dC : Nat → ClassId) (dI : Nat → Nat → Nat) (cyI cyZ : ClassId) (qd qw : Nat) (w : Nat → Int32) (on : Bool) (lf : Int32) (dn : Nat) (b : Nat) (hb9 : b < 64) : Met l yX2_partsOf wsX2_partsOf ({ frames := 1, cells := 0, slots := 0, locals := 22 }) (va_Pc [.ref qd, .int (nI b)] (fun U => va_P (dC, dI) vwCl [(qd, .inr (1, [.ref qw, .int (bI on), .int lf, .int (nI dn)])), (qw, .inl (cyI, 512, .inl w))] U.heap ∧ va_K (dC, dI) vwCl [(cyI, .int), (cyZ, .boolean)] U)) (vp_Si (fun r => r = kParts w b)) 0 0 (fun _ => False) := by
  refine Met.ofW (cc := cX2_partsOf) (maxL := 2) (ret := (some .int)) (by decide) rfl ?_
  intro pz ez sS mM args below meth cC s₁ B hml hv
  obtain ⟨rfl, hP, hK⟩ := hv
  have hx := B.exec
  have hb := B.bytes
  have hr := B.returns
  have hts := atoms_spec (ws := wsX2_partsOf) B.pre
  have hown : sS.vm.findClass RX2 = some mM.cls := findClass_of_methodNamed B.named
  have hlocks := B.notSynchronized
  have hl := lv_entry ([.ref qd, .int (nI b)]) (n := 2) (Nat.le_of_ble_eq_true rfl)
  rw [lg_entry_eq]
  generalize (lg_sl ([.ref qd, .int (nI b)]) ++ List.replicate (2 - (lg_sl ([.ref qd, .int (nI b)])).length) Slot.unset).toArray = ls at hl ⊢
  have hl : lv_has ls 2 [(0, .ref qd), (1, .int (nI b))] := hl
  refine lv_aload_n hx hb dX2_partsOf_0 rfl (lv_at hl 0 rfl) ?_
  refine lv_iload_n hx hb dX2_partsOf_1 rfl (lv_at hl 1 rfl) ?_
  refine lv_iconst (v := nI 1) hx hb dX2_partsOf_2 (by decide) ?_
  have hPc := hP.sub (ws' := [(qd, .inr (1, [.ref qw, .int (bI on), .int lf, .int (nI dn)])), (qw, .inl (cyI, 512, .inl w))]) [0, 1] rfl
  have hKc := hK.sub (tys' := [(cyI, .int), (cyZ, .boolean)]) [0, 1] rfl
  refine vp_callSi (va_Run.run (va_runV (As := [.int (nI b), .int (nI 1)]) (rest := []) ⟨hx, hb, hml, hown, hts⟩ (c_X2_wordAt l dC dI cyI cyZ qd qw w on lf dn b 1 (by omega) (by omega)) (cwV 2 hts gX2_partsOf_X2_wordAt rfl rfl rfl (by decide +kernel) ⟨Nat.le_of_ble_eq_true rfl, Nat.le_of_ble_eq_true rfl⟩) ⟨zz_blR, va_recv hKc hPc (ci := 1) (q0 := 0) rfl rfl, fun U hU hW => ⟨rfl, by rw [hU]; exact hPc, va_K.moved hW.alike hKc⟩⟩ rfl rfl hl.1 rfl (lv_room (Nat.le_of_ble_eq_true rfl)) dX2_partsOf_3 ⟨Nat.zero_le _, Nat.zero_le _⟩)) (fun r_3 hr_3 => ?_)
  have hr_3 : r_3 = w (8 * b + 1) := hr_3
  subst hr_3
  refine lv_bipush (v := nI 8) hx hb dX2_partsOf_6 (by decide) ?_
  refine lv_ishr hx hb dX2_partsOf_8 ?_
  refine lv_sipush (v := nI 255) hx hb dX2_partsOf_9 (by decide) ?_
  refine lv_iand hx hb dX2_partsOf_12 ?_
  have hret : ((w (8 * b + 1)) >>> ((nI 8) &&& 31)) &&& (nI 255) = kParts w b := rfl
  refine zz_top hret ?_
  exact W.iret hx hb hr (fun tS ht hW => ⟨_, rfl, rfl, ht⟩) (fun _ h => nomatch h) dX2_partsOf_13
set_option maxHeartbeats 4000000 in
set_option maxRecDepth 100000 in
theorem c_X2_formOf (l : Launch) (dC : Nat → ClassId) (dI : Nat → Nat → Nat) (cyI cyZ : ClassId) (qd qw : Nat) (w : Nat → Int32) (on : Bool) (lf : Int32) (dn : Nat) (b : Nat) (hb9 : b < 64) : Met l yX2_formOf wsX2_formOf ({ frames := 1, cells := 0, slots := 0, locals := 22 }) (va_Pc [.ref qd, .int (nI b)] (fun U => va_P (dC, dI) vwCl [(qd, .inr (1, [.ref qw, .int (bI on), .int lf, .int (nI dn)])), (qw, .inl (cyI, 512, .inl w))] U.heap ∧ va_K (dC, dI) vwCl [(cyI, .int), (cyZ, .boolean)] U)) (vp_Si (fun r => r = kForm w b)) 0 0 (fun _ => False) := by
  refine Met.ofW (cc := cX2_formOf) (maxL := 2) (ret := (some .int)) (by decide) rfl ?_
  intro pz ez sS mM args below meth cC s₁ B hml hv
  obtain ⟨rfl, hP, hK⟩ := hv
  have hx := B.exec
  have hb := B.bytes
  have hr := B.returns
  have hts := atoms_spec (ws := wsX2_formOf) B.pre
  have hown : sS.vm.findClass RX2 = some mM.cls := findClass_of_methodNamed B.named
  have hlocks := B.notSynchronized
  have hl := lv_entry ([.ref qd, .int (nI b)]) (n := 2) (Nat.le_of_ble_eq_true rfl)
  rw [lg_entry_eq]
  generalize (lg_sl ([.ref qd, .int (nI b)]) ++ List.replicate (2 - (lg_sl ([.ref qd, .int (nI b)])).length) Slot.unset).toArray = ls at hl ⊢
  have hl : lv_has ls 2 [(0, .ref qd), (1, .int (nI b))] := hl
  refine lv_aload_n hx hb dX2_formOf_0 rfl (lv_at hl 0 rfl) ?_
  refine lv_iload_n hx hb dX2_formOf_1 rfl (lv_at hl 1 rfl) ?_
  refine lv_iconst (v := nI 1) hx hb dX2_formOf_2 (by decide) ?_
  have hPc := hP.sub (ws' := [(qd, .inr (1, [.ref qw, .int (bI on), .int lf, .int (nI dn)])), (qw, .inl (cyI, 512, .inl w))]) [0, 1] rfl
  have hKc := hK.sub (tys' := [(cyI, .int), (cyZ, .boolean)]) [0, 1] rfl
  refine vp_callSi (va_Run.run (va_runV (As := [.int (nI b), .int (nI 1)]) (rest := []) ⟨hx, hb, hml, hown, hts⟩ (c_X2_wordAt l dC dI cyI cyZ qd qw w on lf dn b 1 (by omega) (by omega)) (cwV 2 hts gX2_formOf_X2_wordAt rfl rfl rfl (by decide +kernel) ⟨Nat.le_of_ble_eq_true rfl, Nat.le_of_ble_eq_true rfl⟩) ⟨zz_blR, va_recv hKc hPc (ci := 1) (q0 := 0) rfl rfl, fun U hU hW => ⟨rfl, by rw [hU]; exact hPc, va_K.moved hW.alike hKc⟩⟩ rfl rfl hl.1 rfl (lv_room (Nat.le_of_ble_eq_true rfl)) dX2_formOf_3 ⟨Nat.zero_le _, Nat.zero_le _⟩)) (fun r_3 hr_3 => ?_)
  have hr_3 : r_3 = w (8 * b + 1) := hr_3
  subst hr_3
  refine lv_bipush (v := nI 16) hx hb dX2_formOf_6 (by decide) ?_
  refine lv_ishr hx hb dX2_formOf_8 ?_
  have hret : (w (8 * b + 1)) >>> ((nI 16) &&& 31) = kForm w b := rfl
  refine zz_top hret ?_
  exact W.iret hx hb hr (fun tS ht hW => ⟨_, rfl, rfl, ht⟩) (fun _ h => nomatch h) dX2_formOf_9
set_option maxHeartbeats 4000000 in
set_option maxRecDepth 100000 in
theorem c_X2_keyOf (l : Launch) (dC : Nat → ClassId) (dI : Nat → Nat → Nat) (cyI cyZ : ClassId) (qd qw : Nat) (w : Nat → Int32) (on : Bool) (lf : Int32) (dn : Nat) (b : Nat) (hb9 : b < 64) : Met l yX2_keyOf wsX2_keyOf ({ frames := 1, cells := 0, slots := 0, locals := 22 }) (va_Pc [.ref qd, .int (nI b)] (fun U => va_P (dC, dI) vwCl [(qd, .inr (1, [.ref qw, .int (bI on), .int lf, .int (nI dn)])), (qw, .inl (cyI, 512, .inl w))] U.heap ∧ va_K (dC, dI) vwCl [(cyI, .int), (cyZ, .boolean)] U)) (vp_Si (fun r => r = kKey w b)) 0 0 (fun _ => False) := by
  refine Met.ofW (cc := cX2_keyOf) (maxL := 2) (ret := (some .int)) (by decide) rfl ?_
  intro pz ez sS mM args below meth cC s₁ B hml hv
  obtain ⟨rfl, hP, hK⟩ := hv
  have hx := B.exec
  have hb := B.bytes
  have hr := B.returns
  have hts := atoms_spec (ws := wsX2_keyOf) B.pre
  have hown : sS.vm.findClass RX2 = some mM.cls := findClass_of_methodNamed B.named
  have hlocks := B.notSynchronized
  have hl := lv_entry ([.ref qd, .int (nI b)]) (n := 2) (Nat.le_of_ble_eq_true rfl)
  rw [lg_entry_eq]
  generalize (lg_sl ([.ref qd, .int (nI b)]) ++ List.replicate (2 - (lg_sl ([.ref qd, .int (nI b)])).length) Slot.unset).toArray = ls at hl ⊢
  have hl : lv_has ls 2 [(0, .ref qd), (1, .int (nI b))] := hl
  refine lv_aload_n hx hb dX2_keyOf_0 rfl (lv_at hl 0 rfl) ?_
  refine lv_iload_n hx hb dX2_keyOf_1 rfl (lv_at hl 1 rfl) ?_
  refine lv_iconst (v := nI 2) hx hb dX2_keyOf_2 (by decide) ?_
  have hPc := hP.sub (ws' := [(qd, .inr (1, [.ref qw, .int (bI on), .int lf, .int (nI dn)])), (qw, .inl (cyI, 512, .inl w))]) [0, 1] rfl
  have hKc := hK.sub (tys' := [(cyI, .int), (cyZ, .boolean)]) [0, 1] rfl
  refine vp_callSi (va_Run.run (va_runV (As := [.int (nI b), .int (nI 2)]) (rest := []) ⟨hx, hb, hml, hown, hts⟩ (c_X2_wordAt l dC dI cyI cyZ qd qw w on lf dn b 2 (by omega) (by omega)) (cwV 2 hts gX2_keyOf_X2_wordAt rfl rfl rfl (by decide +kernel) ⟨Nat.le_of_ble_eq_true rfl, Nat.le_of_ble_eq_true rfl⟩) ⟨zz_blR, va_recv hKc hPc (ci := 1) (q0 := 0) rfl rfl, fun U hU hW => ⟨rfl, by rw [hU]; exact hPc, va_K.moved hW.alike hKc⟩⟩ rfl rfl hl.1 rfl (lv_room (Nat.le_of_ble_eq_true rfl)) dX2_keyOf_3 ⟨Nat.zero_le _, Nat.zero_le _⟩)) (fun r_3 hr_3 => ?_)
  have hr_3 : r_3 = w (8 * b + 2) := hr_3
  subst hr_3
  have hret : w (8 * b + 2) = kKey w b := rfl
  refine zz_top hret ?_
  exact W.iret hx hb hr (fun tS ht hW => ⟨_, rfl, rfl, ht⟩) (fun _ h => nomatch h) dX2_keyOf_6
set_option maxHeartbeats 4000000 in
set_option maxRecDepth 100000 in
theorem c_X2_octetsOf (l : Launch) (dC : Nat → ClassId) (dI : Nat → Nat → Nat) (cyI cyZ : ClassId) (qd qw : Nat) (w : Nat → Int32) (on : Bool) (lf : Int32) (dn : Nat) (b : Nat) (hb9 : b < 64) : Met l yX2_octetsOf wsX2_octetsOf ({ frames := 1, cells := 0, slots := 0, locals := 22 }) (va_Pc [.ref qd, .int (nI b)] (fun U => va_P (dC, dI) vwCl [(qd, .inr (1, [.ref qw, .int (bI on), .int lf, .int (nI dn)])), (qw, .inl (cyI, 512, .inl w))] U.heap ∧ va_K (dC, dI) vwCl [(cyI, .int), (cyZ, .boolean)] U)) (vp_Si (fun r => r = kOct w b)) 0 0 (fun _ => False) := by
  refine Met.ofW (cc := cX2_octetsOf) (maxL := 2) (ret := (some .int)) (by decide) rfl ?_
  intro pz ez sS mM args below meth cC s₁ B hml hv
  obtain ⟨rfl, hP, hK⟩ := hv
  have hx := B.exec
  have hb := B.bytes
  have hr := B.returns
  have hts := atoms_spec (ws := wsX2_octetsOf) B.pre
  have hown : sS.vm.findClass RX2 = some mM.cls := findClass_of_methodNamed B.named
  have hlocks := B.notSynchronized
  have hl := lv_entry ([.ref qd, .int (nI b)]) (n := 2) (Nat.le_of_ble_eq_true rfl)
  rw [lg_entry_eq]
  generalize (lg_sl ([.ref qd, .int (nI b)]) ++ List.replicate (2 - (lg_sl ([.ref qd, .int (nI b)])).length) Slot.unset).toArray = ls at hl ⊢
  have hl : lv_has ls 2 [(0, .ref qd), (1, .int (nI b))] := hl
  refine lv_aload_n hx hb dX2_octetsOf_0 rfl (lv_at hl 0 rfl) ?_
  refine lv_iload_n hx hb dX2_octetsOf_1 rfl (lv_at hl 1 rfl) ?_
  refine lv_iconst (v := nI 3) hx hb dX2_octetsOf_2 (by decide) ?_
  have hPc := hP.sub (ws' := [(qd, .inr (1, [.ref qw, .int (bI on), .int lf, .int (nI dn)])), (qw, .inl (cyI, 512, .inl w))]) [0, 1] rfl
  have hKc := hK.sub (tys' := [(cyI, .int), (cyZ, .boolean)]) [0, 1] rfl
  refine vp_callSi (va_Run.run (va_runV (As := [.int (nI b), .int (nI 3)]) (rest := []) ⟨hx, hb, hml, hown, hts⟩ (c_X2_wordAt l dC dI cyI cyZ qd qw w on lf dn b 3 (by omega) (by omega)) (cwV 2 hts gX2_octetsOf_X2_wordAt rfl rfl rfl (by decide +kernel) ⟨Nat.le_of_ble_eq_true rfl, Nat.le_of_ble_eq_true rfl⟩) ⟨zz_blR, va_recv hKc hPc (ci := 1) (q0 := 0) rfl rfl, fun U hU hW => ⟨rfl, by rw [hU]; exact hPc, va_K.moved hW.alike hKc⟩⟩ rfl rfl hl.1 rfl (lv_room (Nat.le_of_ble_eq_true rfl)) dX2_octetsOf_3 ⟨Nat.zero_le _, Nat.zero_le _⟩)) (fun r_3 hr_3 => ?_)
  have hr_3 : r_3 = w (8 * b + 3) := hr_3
  subst hr_3
  have hret : w (8 * b + 3) = kOct w b := rfl
  refine zz_top hret ?_
  exact W.iret hx hb hr (fun tS ht hW => ⟨_, rfl, rfl, ht⟩) (fun _ h => nomatch h) dX2_octetsOf_6
set_option maxHeartbeats 4000000 in
set_option maxRecDepth 100000 in
theorem c_X2_greatestNumber (l : Launch) (dC : Nat → ClassId) (dI : Nat → Nat → Nat) (cyI cyZ : ClassId) (qd qw : Nat) (w : Nat → Int32) (on : Bool) (lf : Int32) (dn : Nat)  : Met l yX2_greatestNumber wsX2_greatestNumber ({ frames := 2, cells := 0, slots := 0, locals := 43 }) (va_Pc [.ref qd] (fun U => va_P (dC, dI) vwCl [(qd, .inr (1, [.ref qw, .int (bI on), .int lf, .int (nI dn)])), (qw, .inl (cyI, 512, .inl w))] U.heap ∧ va_K (dC, dI) vwCl [(cyI, .int), (cyZ, .boolean)] U)) (vp_Si (fun r => r = kGr w 64)) 0 0 (fun _ => False) := by
  refine Met.ofW (cc := cX2_greatestNumber) (maxL := 3) (ret := (some .int)) (by decide) rfl ?_
  intro pz ez sS mM args below meth cC s₁ B hml hv
  obtain ⟨rfl, hP, hK⟩ := hv
  have hx := B.exec
  have hb := B.bytes
  have hr := B.returns
  have hts := atoms_spec (ws := wsX2_greatestNumber) B.pre
  have hown : sS.vm.findClass RX2 = some mM.cls := findClass_of_methodNamed B.named
  have hlocks := B.notSynchronized
  have hl := lv_entry ([.ref qd]) (n := 3) (Nat.le_of_ble_eq_true rfl)
  rw [lg_entry_eq]
  generalize (lg_sl ([.ref qd]) ++ List.replicate (3 - (lg_sl ([.ref qd])).length) Slot.unset).toArray = ls at hl ⊢
  have hl : lv_has ls 3 [(0, .ref qd)] := hl
  refine lv_iconst (v := nI 0) hx hb dX2_greatestNumber_0 (by decide) ?_
  refine lv_istore_n (lv' := [(1, .int (nI 0)), (0, .ref qd)]) hx hb dX2_greatestNumber_1 rfl hl (by decide) rfl (fun ls hl => ?_)
  refine lv_iconst (v := nI 0) hx hb dX2_greatestNumber_2 (by decide) ?_
  refine lv_istore_n (lv' := [(2, .int (nI 0)), (1, .int (nI 0)), (0, .ref qd)]) hx hb dX2_greatestNumber_3 rfl hl (by decide) rfl (fun ls hl => ?_)
  refine zz_loopR (pc := 4) (μ := fun (k : Nat) => 64 - k) (Inv := fun (k : Nat) (ls : Array Slot) => (k ≤ 64) ∧ lv_has ls 3 [(0, .ref qd), (1, .int (kGr w k)), (2, .int (nI k))]) (x0 := (0)) ⟨by omega, lv_sub hl [2, 1, 0] rfl⟩ ?_
  intro k ls hI ih4
  obtain ⟨hk, hl⟩ := hI
  have hl : lv_has ls 3 [(0, .ref qd), (1, .int (kGr w k)), (2, .int (nI k))] := hl
  have hk : k ≤ 64 := hk
  refine lv_iload_n hx hb dX2_greatestNumber_4 rfl (lv_at hl 2 rfl) ?_
  refine lv_bipush (v := nI 64) hx hb dX2_greatestNumber_5 (by decide) ?_
  refine zn_icmp_ge (tgt := 26) hx hb dX2_greatestNumber_7 (by decide) (by omega) (by omega) (fun c_7 => ?_) (fun c_7 => ?_)
  ·
    refine lv_iload_n hx hb dX2_greatestNumber_26 rfl (lv_at hl 1 rfl) ?_
    have hret : kGr w k = kGr w 64 := by rw [show k = 64 by omega]
    refine zz_top hret ?_
    exact W.iret hx hb hr (fun tS ht hW => ⟨_, rfl, rfl, ht⟩) (fun _ h => nomatch h) dX2_greatestNumber_27
  ·
    refine lv_iload_n hx hb dX2_greatestNumber_10 rfl (lv_at hl 1 rfl) ?_
    refine lv_aload_n hx hb dX2_greatestNumber_11 rfl (lv_at hl 0 rfl) ?_
    refine lv_iload_n hx hb dX2_greatestNumber_12 rfl (lv_at hl 2 rfl) ?_
    have hPc := hP.sub (ws' := [(qd, .inr (1, [.ref qw, .int (bI on), .int lf, .int (nI dn)])), (qw, .inl (cyI, 512, .inl w))]) [0, 1] rfl
    have hKc := hK.sub (tys' := [(cyI, .int), (cyZ, .boolean)]) [0, 1] rfl
    refine vp_callSi (va_Run.run (va_runV (As := [.int (nI k)]) (rest := [.int (kGr w k)]) ⟨hx, hb, hml, hown, hts⟩ (c_X2_numberOf l dC dI cyI cyZ qd qw w on lf dn k (by omega)) (cwV 1 hts gX2_greatestNumber_X2_numberOf rfl rfl rfl (by decide +kernel) ⟨Nat.le_of_ble_eq_true rfl, Nat.le_of_ble_eq_true rfl⟩) ⟨zz_blR, va_recv hKc hPc (ci := 1) (q0 := 0) rfl rfl, fun U hU hW => ⟨rfl, by rw [hU]; exact hPc, va_K.moved hW.alike hKc⟩⟩ rfl rfl hl.1 rfl (lv_room (Nat.le_of_ble_eq_true rfl)) dX2_greatestNumber_13 ⟨Nat.zero_le _, Nat.zero_le _⟩)) (fun r_13 hr_13 => ?_)
    have hr_13 : r_13 = kNum w k := hr_13
    subst hr_13
    refine va_mmax hx hb (by rw [hml]; exact hl.1.symm) hown (hts (.methodLink RX2 34 Lib.Math.max.name) (by decide +kernel)) (hts (.static Lib.Math.max.name) (by decide +kernel)) (hts (.initialized "java/lang/Math") (by decide +kernel)) (hts (.code Lib.Math.max.name Lib.Math.max.code 2 (some .int)) (by decide +kernel)) (Nat.le_of_ble_eq_true rfl) (Nat.le_of_ble_eq_true rfl) (Nat.le_of_ble_eq_true rfl) (Nat.le_of_ble_eq_true rfl) dX2_greatestNumber_16 ?_
    refine zz_top (rfl) ?_
    refine lv_istore_n (lv' := [(1, .int (kGr w (k + 1))), (0, .ref qd), (2, .int (nI k))]) hx hb dX2_greatestNumber_19 rfl hl (by decide) rfl (fun ls hl => ?_)
    refine lv_iinc (v := nI (k + 1)) (lv' := [(2, .int (nI (k + 1))), (1, .int (kGr w (k + 1))), (0, .ref qd)]) hx hb dX2_greatestNumber_20 hl (k := 2) rfl (nI_add k 1) (by decide) rfl (fun ls hl => ?_)
    refine lv_goto (tgt := 4) hx hb dX2_greatestNumber_23 (by decide) ?_
    exact ih4 (k + 1) _ ⟨by omega, lv_sub hl [2, 1, 0] rfl⟩ (by first | omega | (dsimp only; omega))
set_option maxHeartbeats 4000000 in
set_option maxRecDepth 100000 in
theorem c_X2_blockOf (l : Launch) (dC : Nat → ClassId) (dI : Nat → Nat → Nat) (cyI cyZ : ClassId) (qd qw : Nat) (w : Nat → Int32) (on : Bool) (lf : Int32) (dn : Nat) (rc pt : Int32)  : Met l yX2_blockOf wsX2_blockOf ({ frames := 2, cells := 0, slots := 0, locals := 43 }) (va_Pc [.ref qd, .int rc, .int pt] (fun U => va_P (dC, dI) vwCl [(qd, .inr (1, [.ref qw, .int (bI on), .int lf, .int (nI dn)])), (qw, .inl (cyI, 512, .inl w))] U.heap ∧ va_K (dC, dI) vwCl [(cyI, .int), (cyZ, .boolean)] U)) (vp_Si (fun r => r = zFI (zFst (kAt w rc pt) 64) 64)) 0 0 (fun _ => False) := by
  refine Met.ofW (cc := cX2_blockOf) (maxL := 4) (ret := (some .int)) (by decide) rfl ?_
  intro pz ez sS mM args below meth cC s₁ B hml hv
  obtain ⟨rfl, hP, hK⟩ := hv
  have hx := B.exec
  have hb := B.bytes
  have hr := B.returns
  have hts := atoms_spec (ws := wsX2_blockOf) B.pre
  have hown : sS.vm.findClass RX2 = some mM.cls := findClass_of_methodNamed B.named
  have hlocks := B.notSynchronized
  have hl := lv_entry ([.ref qd, .int rc, .int pt]) (n := 4) (Nat.le_of_ble_eq_true rfl)
  rw [lg_entry_eq]
  generalize (lg_sl ([.ref qd, .int rc, .int pt]) ++ List.replicate (4 - (lg_sl ([.ref qd, .int rc, .int pt])).length) Slot.unset).toArray = ls at hl ⊢
  have hl : lv_has ls 4 [(0, .ref qd), (1, .int rc), (2, .int pt)] := hl
  refine lv_iconst (v := nI 0) hx hb dX2_blockOf_0 (by decide) ?_
  refine lv_istore_n (lv' := [(3, .int (nI 0)), (0, .ref qd), (1, .int rc), (2, .int pt)]) hx hb dX2_blockOf_1 rfl hl (by decide) rfl (fun ls hl => ?_)
  refine zz_loopR (pc := 2) (μ := fun (k : Nat) => 64 - k) (Inv := fun (k : Nat) (ls : Array Slot) => (k ≤ 64) ∧ (∀ j, j < k → kAt w rc pt j = false) ∧ lv_has ls 4 [(0, .ref qd), (1, .int rc), (2, .int pt), (3, .int (nI k))]) (x0 := (0)) ⟨by omega, no_lt0, lv_sub hl [1, 2, 3, 0] rfl⟩ ?_
  intro k ls hI ih2
  obtain ⟨hk, hj, hl⟩ := hI
  have hl : lv_has ls 4 [(0, .ref qd), (1, .int rc), (2, .int pt), (3, .int (nI k))] := hl
  have hk : k ≤ 64 := hk
  have hj : ∀ j, j < k → kAt w rc pt j = false := hj
  refine lv_iload_n hx hb dX2_blockOf_2 rfl (lv_at hl 3 rfl) ?_
  refine lv_bipush (v := nI 64) hx hb dX2_blockOf_3 (by decide) ?_
  refine zn_icmp_ge (tgt := 34) hx hb dX2_blockOf_5 (by decide) (by omega) (by omega) (fun c_5 => ?_) (fun c_5 => ?_)
  ·
    refine lv_iconst (v := (-1)) hx hb dX2_blockOf_34 (by decide) ?_
    have hret : (-1) = zFI (zFst (kAt w rc pt) 64) 64 := zFI_n (fun j h => hj j (by omega))
    refine zz_top hret ?_
    exact W.iret hx hb hr (fun tS ht hW => ⟨_, rfl, rfl, ht⟩) (fun _ h => nomatch h) dX2_blockOf_35
  ·
    refine lv_aload_n hx hb dX2_blockOf_8 rfl (lv_at hl 0 rfl) ?_
    refine lv_iload_n hx hb dX2_blockOf_9 rfl (lv_at hl 3 rfl) ?_
    have hPc := hP.sub (ws' := [(qd, .inr (1, [.ref qw, .int (bI on), .int lf, .int (nI dn)])), (qw, .inl (cyI, 512, .inl w))]) [0, 1] rfl
    have hKc := hK.sub (tys' := [(cyI, .int), (cyZ, .boolean)]) [0, 1] rfl
    refine vp_callSi (va_Run.run (va_runV (As := [.int (nI k)]) (rest := []) ⟨hx, hb, hml, hown, hts⟩ (c_X2_numberOf l dC dI cyI cyZ qd qw w on lf dn k (by omega)) (cwV 1 hts gX2_blockOf_X2_numberOf rfl rfl rfl (by decide +kernel) ⟨Nat.le_of_ble_eq_true rfl, Nat.le_of_ble_eq_true rfl⟩) ⟨zz_blR, va_recv hKc hPc (ci := 1) (q0 := 0) rfl rfl, fun U hU hW => ⟨rfl, by rw [hU]; exact hPc, va_K.moved hW.alike hKc⟩⟩ rfl rfl hl.1 rfl (lv_room (Nat.le_of_ble_eq_true rfl)) dX2_blockOf_10 ⟨Nat.zero_le _, Nat.zero_le _⟩)) (fun r_10 hr_10 => ?_)
    have hr_10 : r_10 = kNum w k := hr_10
    subst hr_10
    refine lv_iload_n hx hb dX2_blockOf_13 rfl (lv_at hl 1 rfl) ?_
    refine lv_icmp_ne (tgt := 28) hx hb dX2_blockOf_14 (by decide) (fun c_14 => ?_) (fun c_14 => ?_)
    ·
      refine lv_iinc (v := nI (k + 1)) (lv' := [(3, .int (nI (k + 1))), (0, .ref qd), (1, .int rc), (2, .int pt)]) hx hb dX2_blockOf_28 hl (k := 3) rfl (nI_add k 1) (by decide) rfl (fun ls hl => ?_)
      refine lv_goto (tgt := 2) hx hb dX2_blockOf_31 (by decide) ?_
      exact ih2 (k + 1) _ ⟨by omega, lt_step hj (by first | exact b_and_f1 (d_f c_14) | exact b_and_f2 (d_f c_23)), lv_sub hl [1, 2, 3, 0] rfl⟩ (by first | omega | (dsimp only; omega))
    ·
      refine lv_aload_n hx hb dX2_blockOf_17 rfl (lv_at hl 0 rfl) ?_
      refine lv_iload_n hx hb dX2_blockOf_18 rfl (lv_at hl 3 rfl) ?_
      have hPc := hP.sub (ws' := [(qd, .inr (1, [.ref qw, .int (bI on), .int lf, .int (nI dn)])), (qw, .inl (cyI, 512, .inl w))]) [0, 1] rfl
      have hKc := hK.sub (tys' := [(cyI, .int), (cyZ, .boolean)]) [0, 1] rfl
      refine vp_callSi (va_Run.run (va_runV (As := [.int (nI k)]) (rest := []) ⟨hx, hb, hml, hown, hts⟩ (c_X2_partOf l dC dI cyI cyZ qd qw w on lf dn k (by omega)) (cwV 1 hts gX2_blockOf_X2_partOf rfl rfl rfl (by decide +kernel) ⟨Nat.le_of_ble_eq_true rfl, Nat.le_of_ble_eq_true rfl⟩) ⟨zz_blR, va_recv hKc hPc (ci := 1) (q0 := 0) rfl rfl, fun U hU hW => ⟨rfl, by rw [hU]; exact hPc, va_K.moved hW.alike hKc⟩⟩ rfl rfl hl.1 rfl (lv_room (Nat.le_of_ble_eq_true rfl)) dX2_blockOf_19 ⟨Nat.zero_le _, Nat.zero_le _⟩)) (fun r_19 hr_19 => ?_)
      have hr_19 : r_19 = kPart w k := hr_19
      subst hr_19
      refine lv_iload_n hx hb dX2_blockOf_22 rfl (lv_at hl 2 rfl) ?_
      refine lv_icmp_ne (tgt := 28) hx hb dX2_blockOf_23 (by decide) (fun c_23 => ?_) (fun c_23 => ?_)
      ·
        refine lv_iinc (v := nI (k + 1)) (lv' := [(3, .int (nI (k + 1))), (0, .ref qd), (1, .int rc), (2, .int pt)]) hx hb dX2_blockOf_28 hl (k := 3) rfl (nI_add k 1) (by decide) rfl (fun ls hl => ?_)
        refine lv_goto (tgt := 2) hx hb dX2_blockOf_31 (by decide) ?_
        exact ih2 (k + 1) _ ⟨by omega, lt_step hj (by first | exact b_and_f1 (d_f c_14) | exact b_and_f2 (d_f c_23)), lv_sub hl [1, 2, 3, 0] rfl⟩ (by first | omega | (dsimp only; omega))
      ·
        refine lv_iload_n hx hb dX2_blockOf_26 rfl (lv_at hl 3 rfl) ?_
        have hret : nI k = zFI (zFst (kAt w rc pt) 64) 64 := zFI_y (by omega) (b_and_t (d_t c_14) (d_t c_23)) hj
        refine zz_top hret ?_
        exact W.iret hx hb hr (fun tS ht hW => ⟨_, rfl, rfl, ht⟩) (fun _ h => nomatch h) dX2_blockOf_27
end
section
set_option maxHeartbeats 4000000 in
set_option maxRecDepth 100000 in
theorem c_X0_hasAllParts (l : Launch) (dC : Nat → ClassId) (dI : Nat → Nat → Nat) (cyI cyZ : ClassId) (qc qwh qlv qd qw : Nat) (WH LV : Nat → Int32) (sa : Int32) (w : Nat → Int32) (on : Bool) (lf : Int32) (dn : Nat) (b : Nat) (hb9 : b < 64) : Met l yX0_hasAllParts wsX0_hasAllParts ({ frames := 2, cells := 0, slots := 0, locals := 43 }) (va_Pc [.ref qc, .int (nI b)] (fun U => va_P (dC, dI) vwCl [(qc, .inr (0, [.ref qd, .ref qwh, .ref qlv, .int sa])), (qwh, .inl (cyZ, 64, .inl WH)), (qlv, .inl (cyZ, 64, .inl LV)), (qd, .inr (1, [.ref qw, .int (bI on), .int lf, .int (nI dn)])), (qw, .inl (cyI, 512, .inl w))] U.heap ∧ va_K (dC, dI) vwCl [(cyI, .int), (cyZ, .boolean)] U)) (vp_Si (fun r => r = bI (kAll w b))) 0 0 (fun _ => False) := by
  refine Met.ofW (cc := cX0_hasAllParts) (maxL := 4) (ret := (some .boolean)) (by decide) rfl ?_
  intro pz ez sS mM args below meth cC s₁ B hml hv
  obtain ⟨rfl, hP, hK⟩ := hv
  have hx := B.exec
  have hb := B.bytes
  have hr := B.returns
  have hts := atoms_spec (ws := wsX0_hasAllParts) B.pre
  have hown : sS.vm.findClass RX0 = some mM.cls := findClass_of_methodNamed B.named
  have hlocks := B.notSynchronized
  have iwX0 : ∀ w ∈ wsX00, w ∈ wsX0_hasAllParts := by decide +kernel
  have fk22 := hts (.fieldLink RX0 22 "CodedStore$Catalog" "disk" "LCodedStore$Disk;") (by decide +kernel)
  have hl := lv_entry ([.ref qc, .int (nI b)]) (n := 4) (Nat.le_of_ble_eq_true rfl)
  rw [lg_entry_eq]
  generalize (lg_sl ([.ref qc, .int (nI b)]) ++ List.replicate (4 - (lg_sl ([.ref qc, .int (nI b)])).length) Slot.unset).toArray = ls at hl ⊢
  have hl : lv_has ls 4 [(0, .ref qc), (1, .int (nI b))] := hl
  refine lv_iconst (v := nI 0) hx hb dX0_hasAllParts_0 (by decide) ?_
  refine lv_istore_n (lv' := [(2, .int (nI 0)), (0, .ref qc), (1, .int (nI b))]) hx hb dX0_hasAllParts_1 rfl hl (by decide) rfl (fun ls hl => ?_)
  refine lv_iconst (v := nI 0) hx hb dX0_hasAllParts_2 (by decide) ?_
  refine lv_istore_n (lv' := [(3, .int (nI 0)), (2, .int (nI 0)), (0, .ref qc), (1, .int (nI b))]) hx hb dX0_hasAllParts_3 rfl hl (by decide) rfl (fun ls hl => ?_)
  refine zz_loopR (pc := 4) (μ := fun (k : Nat) => 64 - k) (Inv := fun (k : Nat) (ls : Array Slot) => (k ≤ 64) ∧ lv_has ls 4 [(0, .ref qc), (1, .int (nI b)), (2, .int (nI (fb_ct (kSame w b) k))), (3, .int (nI k))]) (x0 := (0)) ⟨by omega, lv_sub hl [2, 3, 1, 0] rfl⟩ ?_
  intro k ls hI ih4
  obtain ⟨hk, hl⟩ := hI
  have hl : lv_has ls 4 [(0, .ref qc), (1, .int (nI b)), (2, .int (nI (fb_ct (kSame w b) k))), (3, .int (nI k))] := hl
  have hk : k ≤ 64 := hk
  refine lv_iload_n hx hb dX0_hasAllParts_4 rfl (lv_at hl 3 rfl) ?_
  refine lv_bipush (v := nI 64) hx hb dX0_hasAllParts_5 (by decide) ?_
  refine zn_icmp_ge (tgt := 38) hx hb dX0_hasAllParts_7 (by decide) (by omega) (by omega) (fun c_7 => ?_) (fun c_7 => ?_)
  ·
    refine lv_iload_n hx hb dX0_hasAllParts_38 rfl (lv_at hl 2 rfl) ?_
    refine lv_aload_n hx hb dX0_hasAllParts_39 rfl (lv_at hl 0 rfl) ?_
    refine va_get (D := (dC, dI)) (ci := 0) (v := .ref qd) (C := RX0) (T := TX0) (N := 4) hx hb hts iwX0 hown hK hP 0 rfl rfl 0 (by decide) fk22 (fun _ h9 => h9) rfl dX0_hasAllParts_40 ?_
    refine lv_iload_n hx hb dX0_hasAllParts_43 rfl (lv_at hl 1 rfl) ?_
    have hPc := hP.sub (ws' := [(qd, .inr (1, [.ref qw, .int (bI on), .int lf, .int (nI dn)])), (qw, .inl (cyI, 512, .inl w))]) [3, 4] rfl
    have hKc := hK.sub (tys' := [(cyI, .int), (cyZ, .boolean)]) [0, 1] rfl
    refine vp_callSi (va_Run.run (va_runV (As := [.int (nI b)]) (rest := [.int (nI (fb_ct (kSame w b) k))]) ⟨hx, hb, hml, hown, hts⟩ (c_X2_partsOf l dC dI cyI cyZ qd qw w on lf dn b (by omega)) (cwV 1 hts gX0_hasAllParts_X2_partsOf rfl rfl rfl (by decide +kernel) ⟨Nat.le_of_ble_eq_true rfl, Nat.le_of_ble_eq_true rfl⟩) ⟨zz_blR, va_recv hKc hPc (ci := 1) (q0 := 0) rfl rfl, fun U hU hW => ⟨rfl, by rw [hU]; exact hPc, va_K.moved hW.alike hKc⟩⟩ rfl rfl hl.1 rfl (lv_room (Nat.le_of_ble_eq_true rfl)) dX0_hasAllParts_44 ⟨Nat.zero_le _, Nat.zero_le _⟩)) (fun r_44 hr_44 => ?_)
    have hr_44 : r_44 = kParts w b := hr_44
    subst hr_44
    refine lv_icmp_ne (tgt := 54) hx hb dX0_hasAllParts_47 (by decide) (fun c_47 => ?_) (fun c_47 => ?_)
    ·
      rw [show k = 64 by omega] at c_47
      refine lv_iconst (v := nI 0) hx hb dX0_hasAllParts_54 (by decide) ?_
      have hret : nI 0 = bI (kAll w b) := bI_n c_47
      refine zz_top hret ?_
      exact W.zret hx hb hr (zz_narZ (by first | exact zz_zb _ | exact zz_z0 | exact zz_z1)) (fun tS ht hW => ⟨_, rfl, rfl, ht⟩) (fun _ h => nomatch h) dX0_hasAllParts_55
    ·
      rw [show k = 64 by omega] at c_47
      refine lv_iconst (v := nI 1) hx hb dX0_hasAllParts_50 (by decide) ?_
      refine lv_goto (tgt := 55) hx hb dX0_hasAllParts_51 (by decide) ?_
      have hret : nI 1 = bI (kAll w b) := bI_d c_47
      refine zz_top hret ?_
      exact W.zret hx hb hr (zz_narZ (by first | exact zz_zb _ | exact zz_z0 | exact zz_z1)) (fun tS ht hW => ⟨_, rfl, rfl, ht⟩) (fun _ h => nomatch h) dX0_hasAllParts_55
  ·
    refine lv_aload_n hx hb dX0_hasAllParts_10 rfl (lv_at hl 0 rfl) ?_
    refine va_get (D := (dC, dI)) (ci := 0) (v := .ref qd) (C := RX0) (T := TX0) (N := 4) hx hb hts iwX0 hown hK hP 0 rfl rfl 0 (by decide) fk22 (fun _ h9 => h9) rfl dX0_hasAllParts_11 ?_
    refine lv_iload_n hx hb dX0_hasAllParts_14 rfl (lv_at hl 3 rfl) ?_
    have hPc := hP.sub (ws' := [(qd, .inr (1, [.ref qw, .int (bI on), .int lf, .int (nI dn)])), (qw, .inl (cyI, 512, .inl w))]) [3, 4] rfl
    have hKc := hK.sub (tys' := [(cyI, .int), (cyZ, .boolean)]) [0, 1] rfl
    refine vp_callSi (va_Run.run (va_runV (As := [.int (nI k)]) (rest := []) ⟨hx, hb, hml, hown, hts⟩ (c_X2_numberOf l dC dI cyI cyZ qd qw w on lf dn k (by omega)) (cwV 1 hts gX0_hasAllParts_X2_numberOf rfl rfl rfl (by decide +kernel) ⟨Nat.le_of_ble_eq_true rfl, Nat.le_of_ble_eq_true rfl⟩) ⟨zz_blR, va_recv hKc hPc (ci := 1) (q0 := 0) rfl rfl, fun U hU hW => ⟨rfl, by rw [hU]; exact hPc, va_K.moved hW.alike hKc⟩⟩ rfl rfl hl.1 rfl (lv_room (Nat.le_of_ble_eq_true rfl)) dX0_hasAllParts_15 ⟨Nat.zero_le _, Nat.zero_le _⟩)) (fun r_15 hr_15 => ?_)
    have hr_15 : r_15 = kNum w k := hr_15
    subst hr_15
    refine lv_aload_n hx hb dX0_hasAllParts_18 rfl (lv_at hl 0 rfl) ?_
    refine va_get (D := (dC, dI)) (ci := 0) (v := .ref qd) (C := RX0) (T := TX0) (N := 4) hx hb hts iwX0 hown hK hP 0 rfl rfl 0 (by decide) fk22 (fun _ h9 => h9) rfl dX0_hasAllParts_19 ?_
    refine lv_iload_n hx hb dX0_hasAllParts_22 rfl (lv_at hl 1 rfl) ?_
    have hPc := hP.sub (ws' := [(qd, .inr (1, [.ref qw, .int (bI on), .int lf, .int (nI dn)])), (qw, .inl (cyI, 512, .inl w))]) [3, 4] rfl
    have hKc := hK.sub (tys' := [(cyI, .int), (cyZ, .boolean)]) [0, 1] rfl
    refine vp_callSi (va_Run.run (va_runV (As := [.int (nI b)]) (rest := [.int (kNum w k)]) ⟨hx, hb, hml, hown, hts⟩ (c_X2_numberOf l dC dI cyI cyZ qd qw w on lf dn b (by omega)) (cwV 1 hts gX0_hasAllParts_X2_numberOf rfl rfl rfl (by decide +kernel) ⟨Nat.le_of_ble_eq_true rfl, Nat.le_of_ble_eq_true rfl⟩) ⟨zz_blR, va_recv hKc hPc (ci := 1) (q0 := 0) rfl rfl, fun U hU hW => ⟨rfl, by rw [hU]; exact hPc, va_K.moved hW.alike hKc⟩⟩ rfl rfl hl.1 rfl (lv_room (Nat.le_of_ble_eq_true rfl)) dX0_hasAllParts_23 ⟨Nat.zero_le _, Nat.zero_le _⟩)) (fun r_23 hr_23 => ?_)
    have hr_23 : r_23 = kNum w b := hr_23
    subst hr_23
    refine lv_icmp_ne (tgt := 32) hx hb dX0_hasAllParts_26 (by decide) (fun c_26 => ?_) (fun c_26 => ?_)
    ·
      refine lv_iinc (v := nI (k + 1)) (lv' := [(3, .int (nI (k + 1))), (0, .ref qc), (1, .int (nI b)), (2, .int (nI (fb_ct (kSame w b) k)))]) hx hb dX0_hasAllParts_32 hl (k := 3) rfl (nI_add k 1) (by decide) rfl (fun ls hl => ?_)
      refine lv_goto (tgt := 4) hx hb dX0_hasAllParts_35 (by decide) ?_
      rw [kct_n (q := kSame w b) (k := k) (d_f c_26)] at hl
      -- local 2: .int (nI (fb_ct (kSame w b) k)) ~ .int (nI (fb_ct (kSame w b) (k + 1)))
      exact ih4 (k + 1) _ ⟨by omega, lv_sub hl [1, 2, 3, 0] rfl⟩ (by first | omega | (dsimp only; omega))
    ·
      refine lv_iinc (v := nI (fb_ct (kSame w b) k + 1)) (lv' := [(2, .int (nI (fb_ct (kSame w b) k + 1))), (0, .ref qc), (1, .int (nI b)), (3, .int (nI k))]) hx hb dX0_hasAllParts_29 hl (k := 2) rfl (nI_add (fb_ct (kSame w b) k) 1) (by decide) rfl (fun ls hl => ?_)
      refine lv_iinc (v := nI (k + 1)) (lv' := [(3, .int (nI (k + 1))), (2, .int (nI (fb_ct (kSame w b) k + 1))), (0, .ref qc), (1, .int (nI b))]) hx hb dX0_hasAllParts_32 hl (k := 3) rfl (nI_add k 1) (by decide) rfl (fun ls hl => ?_)
      refine lv_goto (tgt := 4) hx hb dX0_hasAllParts_35 (by decide) ?_
      rw [kct_y (q := kSame w b) (k := k) (d_t c_26)] at hl
      -- local 2: .int (nI (fb_ct (kSame w b) k + 1)) ~ .int (nI (fb_ct (kSame w b) (k + 1)))
      exact ih4 (k + 1) _ ⟨by omega, lv_sub hl [2, 3, 1, 0] rfl⟩ (by first | omega | (dsimp only; omega))
set_option maxHeartbeats 4000000 in
set_option maxRecDepth 100000 in
theorem c_X0_isOutdone (l : Launch) (dC : Nat → ClassId) (dI : Nat → Nat → Nat) (cyI cyZ : ClassId) (qc qwh qlv qd qw : Nat) (WH LV : Nat → Int32) (sa : Int32) (w : Nat → Int32) (on : Bool) (lf : Int32) (dn : Nat) (b : Nat) (hb9 : b < 64) (HWH : ∀ j, j < 64 → WH j = bI (kWh w j)) : Met l yX0_isOutdone wsX0_isOutdone ({ frames := 2, cells := 0, slots := 0, locals := 43 }) (va_Pc [.ref qc, .int (nI b)] (fun U => va_P (dC, dI) vwCl [(qc, .inr (0, [.ref qd, .ref qwh, .ref qlv, .int sa])), (qwh, .inl (cyZ, 64, .inl WH)), (qlv, .inl (cyZ, 64, .inl LV)), (qd, .inr (1, [.ref qw, .int (bI on), .int lf, .int (nI dn)])), (qw, .inl (cyI, 512, .inl w))] U.heap ∧ va_K (dC, dI) vwCl [(cyI, .int), (cyZ, .boolean)] U)) (vp_Si (fun r => r = bI (kOut w b))) 0 0 (fun _ => False) := by
  refine Met.ofW (cc := cX0_isOutdone) (maxL := 3) (ret := (some .boolean)) (by decide) rfl ?_
  intro pz ez sS mM args below meth cC s₁ B hml hv
  obtain ⟨rfl, hP, hK⟩ := hv
  have hx := B.exec
  have hb := B.bytes
  have hr := B.returns
  have hts := atoms_spec (ws := wsX0_isOutdone) B.pre
  have hown : sS.vm.findClass RX0 = some mM.cls := findClass_of_methodNamed B.named
  have hlocks := B.notSynchronized
  have iwX0 : ∀ w ∈ wsX00, w ∈ wsX0_isOutdone := by decide +kernel
  have fk9 := hts (.fieldLink RX0 9 "CodedStore$Catalog" "whole" "[Z") (by decide +kernel)
  have fk22 := hts (.fieldLink RX0 22 "CodedStore$Catalog" "disk" "LCodedStore$Disk;") (by decide +kernel)
  have hl := lv_entry ([.ref qc, .int (nI b)]) (n := 3) (Nat.le_of_ble_eq_true rfl)
  rw [lg_entry_eq]
  generalize (lg_sl ([.ref qc, .int (nI b)]) ++ List.replicate (3 - (lg_sl ([.ref qc, .int (nI b)])).length) Slot.unset).toArray = ls at hl ⊢
  have hl : lv_has ls 3 [(0, .ref qc), (1, .int (nI b))] := hl
  refine lv_iconst (v := nI 0) hx hb dX0_isOutdone_0 (by decide) ?_
  refine lv_istore_n (lv' := [(2, .int (nI 0)), (0, .ref qc), (1, .int (nI b))]) hx hb dX0_isOutdone_1 rfl hl (by decide) rfl (fun ls hl => ?_)
  refine zz_loopR (pc := 2) (μ := fun (k : Nat) => 64 - k) (Inv := fun (k : Nat) (ls : Array Slot) => (k ≤ 64) ∧ (∀ j, j < k → kOd w b j = false) ∧ lv_has ls 3 [(0, .ref qc), (1, .int (nI b)), (2, .int (nI k))]) (x0 := (0)) ⟨by omega, no_lt0, lv_sub hl [1, 2, 0] rfl⟩ ?_
  intro k ls hI ih2
  obtain ⟨hk, hj, hl⟩ := hI
  have hl : lv_has ls 3 [(0, .ref qc), (1, .int (nI b)), (2, .int (nI k))] := hl
  have hk : k ≤ 64 := hk
  have hj : ∀ j, j < k → kOd w b j = false := hj
  refine lv_iload_n hx hb dX0_isOutdone_2 rfl (lv_at hl 2 rfl) ?_
  refine lv_bipush (v := nI 64) hx hb dX0_isOutdone_3 (by decide) ?_
  refine zn_icmp_ge (tgt := 63) hx hb dX0_isOutdone_5 (by decide) (by omega) (by omega) (fun c_5 => ?_) (fun c_5 => ?_)
  ·
    refine lv_iconst (v := nI 0) hx hb dX0_isOutdone_63 (by decide) ?_
    have hret : nI 0 = bI (kOut w b) := bI_0 (zAny_f (fun j h => hj j (by omega)))
    refine zz_top hret ?_
    exact W.zret hx hb hr (zz_narZ (by first | exact zz_zb _ | exact zz_z0 | exact zz_z1)) (fun tS ht hW => ⟨_, rfl, rfl, ht⟩) (fun _ h => nomatch h) dX0_isOutdone_64
  ·
    refine lv_aload_n hx hb dX0_isOutdone_8 rfl (lv_at hl 0 rfl) ?_
    refine va_get (D := (dC, dI)) (ci := 0) (v := .ref qwh) (C := RX0) (T := TX0) (N := 4) hx hb hts iwX0 hown hK hP 0 rfl rfl 1 (by decide) fk9 (fun _ h9 => h9) rfl dX0_isOutdone_9 ?_
    refine lv_iload_n hx hb dX0_isOutdone_12 rfl (lv_at hl 2 rfl) ?_
    refine va_zald hx hb hK hP 1 1 rfl rfl (vp_in_nI (n := k) (by omega) (by decide)) dX0_isOutdone_13 ?_
    refine zz_top (congrArg WH (nI_clamp (n := k) (by omega))) ?_
    refine zz_top (HWH k (by omega)) ?_
    refine zb_if_eq (tgt := 57) hx hb dX0_isOutdone_14 (by decide) (fun c_14 => ?_) (fun c_14 => ?_)
    ·
      refine lv_iinc (v := nI (k + 1)) (lv' := [(2, .int (nI (k + 1))), (0, .ref qc), (1, .int (nI b))]) hx hb dX0_isOutdone_57 hl (k := 2) rfl (nI_add k 1) (by decide) rfl (fun ls hl => ?_)
      refine lv_goto (tgt := 2) hx hb dX0_isOutdone_60 (by decide) ?_
      exact ih2 (k + 1) _ ⟨by omega, lt_step hj (by first | exact b_and_f1 c_14 | exact b_and_f2 (b_and_f1 (d_f c_33)) | exact b_and_f2 (b_and_f2 (d_f (Int32.not_lt.mpr c_52)))), lv_sub hl [1, 2, 0] rfl⟩ (by first | omega | (dsimp only; omega))
    ·
      refine lv_aload_n hx hb dX0_isOutdone_17 rfl (lv_at hl 0 rfl) ?_
      refine va_get (D := (dC, dI)) (ci := 0) (v := .ref qd) (C := RX0) (T := TX0) (N := 4) hx hb hts iwX0 hown hK hP 0 rfl rfl 0 (by decide) fk22 (fun _ h9 => h9) rfl dX0_isOutdone_18 ?_
      refine lv_iload_n hx hb dX0_isOutdone_21 rfl (lv_at hl 2 rfl) ?_
      have hPc := hP.sub (ws' := [(qd, .inr (1, [.ref qw, .int (bI on), .int lf, .int (nI dn)])), (qw, .inl (cyI, 512, .inl w))]) [3, 4] rfl
      have hKc := hK.sub (tys' := [(cyI, .int), (cyZ, .boolean)]) [0, 1] rfl
      refine vp_callSi (va_Run.run (va_runV (As := [.int (nI k)]) (rest := []) ⟨hx, hb, hml, hown, hts⟩ (c_X2_keyOf l dC dI cyI cyZ qd qw w on lf dn k (by omega)) (cwV 1 hts gX0_isOutdone_X2_keyOf rfl rfl rfl (by decide +kernel) ⟨Nat.le_of_ble_eq_true rfl, Nat.le_of_ble_eq_true rfl⟩) ⟨zz_blR, va_recv hKc hPc (ci := 1) (q0 := 0) rfl rfl, fun U hU hW => ⟨rfl, by rw [hU]; exact hPc, va_K.moved hW.alike hKc⟩⟩ rfl rfl hl.1 rfl (lv_room (Nat.le_of_ble_eq_true rfl)) dX0_isOutdone_22 ⟨Nat.zero_le _, Nat.zero_le _⟩)) (fun r_22 hr_22 => ?_)
      have hr_22 : r_22 = kKey w k := hr_22
      subst hr_22
      refine lv_aload_n hx hb dX0_isOutdone_25 rfl (lv_at hl 0 rfl) ?_
      refine va_get (D := (dC, dI)) (ci := 0) (v := .ref qd) (C := RX0) (T := TX0) (N := 4) hx hb hts iwX0 hown hK hP 0 rfl rfl 0 (by decide) fk22 (fun _ h9 => h9) rfl dX0_isOutdone_26 ?_
      refine lv_iload_n hx hb dX0_isOutdone_29 rfl (lv_at hl 1 rfl) ?_
      have hPc := hP.sub (ws' := [(qd, .inr (1, [.ref qw, .int (bI on), .int lf, .int (nI dn)])), (qw, .inl (cyI, 512, .inl w))]) [3, 4] rfl
      have hKc := hK.sub (tys' := [(cyI, .int), (cyZ, .boolean)]) [0, 1] rfl
      refine vp_callSi (va_Run.run (va_runV (As := [.int (nI b)]) (rest := [.int (kKey w k)]) ⟨hx, hb, hml, hown, hts⟩ (c_X2_keyOf l dC dI cyI cyZ qd qw w on lf dn b (by omega)) (cwV 1 hts gX0_isOutdone_X2_keyOf rfl rfl rfl (by decide +kernel) ⟨Nat.le_of_ble_eq_true rfl, Nat.le_of_ble_eq_true rfl⟩) ⟨zz_blR, va_recv hKc hPc (ci := 1) (q0 := 0) rfl rfl, fun U hU hW => ⟨rfl, by rw [hU]; exact hPc, va_K.moved hW.alike hKc⟩⟩ rfl rfl hl.1 rfl (lv_room (Nat.le_of_ble_eq_true rfl)) dX0_isOutdone_30 ⟨Nat.zero_le _, Nat.zero_le _⟩)) (fun r_30 hr_30 => ?_)
      have hr_30 : r_30 = kKey w b := hr_30
      subst hr_30
      refine lv_icmp_ne (tgt := 57) hx hb dX0_isOutdone_33 (by decide) (fun c_33 => ?_) (fun c_33 => ?_)
      ·
        refine lv_iinc (v := nI (k + 1)) (lv' := [(2, .int (nI (k + 1))), (0, .ref qc), (1, .int (nI b))]) hx hb dX0_isOutdone_57 hl (k := 2) rfl (nI_add k 1) (by decide) rfl (fun ls hl => ?_)
        refine lv_goto (tgt := 2) hx hb dX0_isOutdone_60 (by decide) ?_
        exact ih2 (k + 1) _ ⟨by omega, lt_step hj (by first | exact b_and_f1 c_14 | exact b_and_f2 (b_and_f1 (d_f c_33)) | exact b_and_f2 (b_and_f2 (d_f (Int32.not_lt.mpr c_52)))), lv_sub hl [1, 2, 0] rfl⟩ (by first | omega | (dsimp only; omega))
      ·
        refine lv_aload_n hx hb dX0_isOutdone_36 rfl (lv_at hl 0 rfl) ?_
        refine va_get (D := (dC, dI)) (ci := 0) (v := .ref qd) (C := RX0) (T := TX0) (N := 4) hx hb hts iwX0 hown hK hP 0 rfl rfl 0 (by decide) fk22 (fun _ h9 => h9) rfl dX0_isOutdone_37 ?_
        refine lv_iload_n hx hb dX0_isOutdone_40 rfl (lv_at hl 2 rfl) ?_
        have hPc := hP.sub (ws' := [(qd, .inr (1, [.ref qw, .int (bI on), .int lf, .int (nI dn)])), (qw, .inl (cyI, 512, .inl w))]) [3, 4] rfl
        have hKc := hK.sub (tys' := [(cyI, .int), (cyZ, .boolean)]) [0, 1] rfl
        refine vp_callSi (va_Run.run (va_runV (As := [.int (nI k)]) (rest := []) ⟨hx, hb, hml, hown, hts⟩ (c_X2_numberOf l dC dI cyI cyZ qd qw w on lf dn k (by omega)) (cwV 1 hts gX0_isOutdone_X2_numberOf rfl rfl rfl (by decide +kernel) ⟨Nat.le_of_ble_eq_true rfl, Nat.le_of_ble_eq_true rfl⟩) ⟨zz_blR, va_recv hKc hPc (ci := 1) (q0 := 0) rfl rfl, fun U hU hW => ⟨rfl, by rw [hU]; exact hPc, va_K.moved hW.alike hKc⟩⟩ rfl rfl hl.1 rfl (lv_room (Nat.le_of_ble_eq_true rfl)) dX0_isOutdone_41 ⟨Nat.zero_le _, Nat.zero_le _⟩)) (fun r_41 hr_41 => ?_)
        have hr_41 : r_41 = kNum w k := hr_41
        subst hr_41
        refine lv_aload_n hx hb dX0_isOutdone_44 rfl (lv_at hl 0 rfl) ?_
        refine va_get (D := (dC, dI)) (ci := 0) (v := .ref qd) (C := RX0) (T := TX0) (N := 4) hx hb hts iwX0 hown hK hP 0 rfl rfl 0 (by decide) fk22 (fun _ h9 => h9) rfl dX0_isOutdone_45 ?_
        refine lv_iload_n hx hb dX0_isOutdone_48 rfl (lv_at hl 1 rfl) ?_
        have hPc := hP.sub (ws' := [(qd, .inr (1, [.ref qw, .int (bI on), .int lf, .int (nI dn)])), (qw, .inl (cyI, 512, .inl w))]) [3, 4] rfl
        have hKc := hK.sub (tys' := [(cyI, .int), (cyZ, .boolean)]) [0, 1] rfl
        refine vp_callSi (va_Run.run (va_runV (As := [.int (nI b)]) (rest := [.int (kNum w k)]) ⟨hx, hb, hml, hown, hts⟩ (c_X2_numberOf l dC dI cyI cyZ qd qw w on lf dn b (by omega)) (cwV 1 hts gX0_isOutdone_X2_numberOf rfl rfl rfl (by decide +kernel) ⟨Nat.le_of_ble_eq_true rfl, Nat.le_of_ble_eq_true rfl⟩) ⟨zz_blR, va_recv hKc hPc (ci := 1) (q0 := 0) rfl rfl, fun U hU hW => ⟨rfl, by rw [hU]; exact hPc, va_K.moved hW.alike hKc⟩⟩ rfl rfl hl.1 rfl (lv_room (Nat.le_of_ble_eq_true rfl)) dX0_isOutdone_49 ⟨Nat.zero_le _, Nat.zero_le _⟩)) (fun r_49 hr_49 => ?_)
        have hr_49 : r_49 = kNum w b := hr_49
        subst hr_49
        refine lv_icmp_le (tgt := 57) hx hb dX0_isOutdone_52 (by decide) (fun c_52 => ?_) (fun c_52 => ?_)
        ·
          refine lv_iinc (v := nI (k + 1)) (lv' := [(2, .int (nI (k + 1))), (0, .ref qc), (1, .int (nI b))]) hx hb dX0_isOutdone_57 hl (k := 2) rfl (nI_add k 1) (by decide) rfl (fun ls hl => ?_)
          refine lv_goto (tgt := 2) hx hb dX0_isOutdone_60 (by decide) ?_
          exact ih2 (k + 1) _ ⟨by omega, lt_step hj (by first | exact b_and_f1 c_14 | exact b_and_f2 (b_and_f1 (d_f c_33)) | exact b_and_f2 (b_and_f2 (d_f (Int32.not_lt.mpr c_52)))), lv_sub hl [1, 2, 0] rfl⟩ (by first | omega | (dsimp only; omega))
        ·
          refine lv_iconst (v := nI 1) hx hb dX0_isOutdone_55 (by decide) ?_
          have hret : nI 1 = bI (kOut w b) := bI_1 (zAny_t.mpr ⟨k, by omega, b_and_t c_14 (b_and_t (d_t c_33) (d_t (Int32.not_le.mp c_52)))⟩)
          refine zz_top hret ?_
          exact W.zret hx hb hr (zz_narZ (by first | exact zz_zb _ | exact zz_z0 | exact zz_z1)) (fun tS ht hW => ⟨_, rfl, rfl, ht⟩) (fun _ h => nomatch h) dX0_isOutdone_56
set_option maxHeartbeats 4000000 in
set_option maxRecDepth 100000 in
theorem c_X0_survey (l : Launch) (dC : Nat → ClassId) (dI : Nat → Nat → Nat) (cyI cyZ : ClassId) (qc qwh qlv qd qw : Nat) (sz : Nat) (WH LV : Nat → Int32) (sa : Int32) (w : Nat → Int32) (on : Bool) (lf : Int32) (dn : Nat) (HS : sa = nI dn → ∀ j, j < 64 → LV j = bI (kLive w j)) : Met l yX0_survey wsX0_survey ({ frames := 3, cells := 0, slots := 0, locals := 66 }) (va_Pc [.ref qc] (fun U => U.heap.size = sz ∧ va_P (dC, dI) vwCl [(qc, .inr (0, [.ref qd, .ref qwh, .ref qlv, .int sa])), (qwh, .inl (cyZ, 64, .inl WH)), (qlv, .inl (cyZ, 64, .inl LV)), (qd, .inr (1, [.ref qw, .int (bI on), .int lf, .int (nI dn)])), (qw, .inl (cyI, 512, .inl w))] U.heap ∧ va_K (dC, dI) vwCl [(cyI, .int), (cyZ, .boolean)] U ∧ va_D (fun _ => True) [(qc, .inr (0, [.ref qd, .ref qwh, .ref qlv, .int sa])), (qwh, .inl (cyZ, 64, .inl WH)), (qlv, .inl (cyZ, 64, .inl LV)), (qd, .inr (1, [.ref qw, .int (bI on), .int lf, .int (nI dn)])), (qw, .inl (cyI, 512, .inl w))])) (va_Qv (S := (Nat → Int32) × (Nat → Int32)) (fun (uU : (Nat → Int32) × (Nat → Int32)) => match uU with | (WH1, LV1) => (∀ j, j < 64 → LV1 j = bI (kLive w j))) (fun (uU : (Nat → Int32) × (Nat → Int32)) tS => match uU with | (WH1, LV1) => va_P (dC, dI) vwCl [(qc, .inr (0, [.ref qd, .ref qwh, .ref qlv, .int (nI dn)])), (qwh, .inl (cyZ, 64, .inl WH1)), (qlv, .inl (cyZ, 64, .inl LV1)), (qd, .inr (1, [.ref qw, .int (bI on), .int lf, .int (nI dn)])), (qw, .inl (cyI, 512, .inl w))] tS.heap ∧ va_K (dC, dI) vwCl [(cyI, .int), (cyZ, .boolean)] tS ∧ va_D (va_A [(qc, .inr (0, [.ref qd, .ref qwh, .ref qlv, .int sa])), (qwh, .inl (cyZ, 64, .inl WH)), (qlv, .inl (cyZ, 64, .inl LV)), (qd, .inr (1, [.ref qw, .int (bI on), .int lf, .int (nI dn)])), (qw, .inl (cyI, 512, .inl w))] sz) [(qc, .inr (0, [.ref qd, .ref qwh, .ref qlv, .int (nI dn)])), (qwh, .inl (cyZ, 64, .inl WH1)), (qlv, .inl (cyZ, 64, .inl LV1)), (qd, .inr (1, [.ref qw, .int (bI on), .int lf, .int (nI dn)])), (qw, .inl (cyI, 512, .inl w))]) (va_A [(qc, .inr (0, [.ref qd, .ref qwh, .ref qlv, .int sa])), (qwh, .inl (cyZ, 64, .inl WH)), (qlv, .inl (cyZ, 64, .inl LV)), (qd, .inr (1, [.ref qw, .int (bI on), .int lf, .int (nI dn)])), (qw, .inl (cyI, 512, .inl w))] sz)) 0 0 (va_A [(qc, .inr (0, [.ref qd, .ref qwh, .ref qlv, .int sa])), (qwh, .inl (cyZ, 64, .inl WH)), (qlv, .inl (cyZ, 64, .inl LV)), (qd, .inr (1, [.ref qw, .int (bI on), .int lf, .int (nI dn)])), (qw, .inl (cyI, 512, .inl w))] sz) := by
  refine Met.ofW (cc := cX0_survey) (maxL := 2) (ret := none) (by decide) rfl ?_
  intro pz ez sS mM args below meth cC s₁ B hml hv
  obtain ⟨rfl, hsz, hP, hK, hD0⟩ := hv
  have hx := B.exec
  have hb := B.bytes
  have hr := B.returns
  have hts := atoms_spec (ws := wsX0_survey) B.pre
  have hown : sS.vm.findClass RX0 = some mM.cls := findClass_of_methodNamed B.named
  have hlocks := B.notSynchronized
  subst hsz
  have hD := hD0.self (sz := sS.heap.size)
  generalize hAe : va_A [(qc, .inr (0, [.ref qd, .ref qwh, .ref qlv, .int sa])), (qwh, .inl (cyZ, 64, .inl WH)), (qlv, .inl (cyZ, 64, .inl LV)), (qd, .inr (1, [.ref qw, .int (bI on), .int lf, .int (nI dn)])), (qw, .inl (cyI, 512, .inl w))] sS.heap.size = A at hD ⊢
  have hA : ∀ q : Nat, sS.heap.size ≤ q → A q := fun q h => by rw [← hAe]; exact Or.inr h
  have hS : va_S A sS.heap sS.heap [] := va_S.rf
  have hP : va_P (dC, dI) vwCl [(qc, .inr (0, [.ref qd, .ref qwh, .ref qlv, .int sa])), (qwh, .inl (cyZ, 64, .inl WH)), (qlv, .inl (cyZ, 64, .inl LV)), (qd, .inr (1, [.ref qw, .int (bI on), .int lf, .int (nI dn)])), (qw, .inl (cyI, 512, .inl w))] sS.heap := hP
  have iwX0 : ∀ w ∈ wsX00, w ∈ wsX0_survey := by decide +kernel
  have fk9 := hts (.fieldLink RX0 9 "CodedStore$Catalog" "whole" "[Z") (by decide +kernel)
  have fk15 := hts (.fieldLink RX0 15 "CodedStore$Catalog" "live" "[Z") (by decide +kernel)
  have fk18 := hts (.fieldLink RX0 18 "CodedStore$Catalog" "surveyedAt" "I") (by decide +kernel)
  have fk22 := hts (.fieldLink RX0 22 "CodedStore$Catalog" "disk" "LCodedStore$Disk;") (by decide +kernel)
  have hl := lv_entry ([.ref qc]) (n := 2) (Nat.le_of_ble_eq_true rfl)
  rw [lg_entry_eq]
  generalize (lg_sl ([.ref qc]) ++ List.replicate (2 - (lg_sl ([.ref qc])).length) Slot.unset).toArray = ls at hl ⊢
  have hl : lv_has ls 2 [(0, .ref qc)] := hl
  refine lv_aload_n hx hb dX0_survey_0 rfl (lv_at hl 0 rfl) ?_
  refine va_get (D := (dC, dI)) (ci := 0) (v := .int sa) (C := RX0) (T := TX0) (N := 4) hx hb hts iwX0 hown hK hP 0 rfl rfl 3 (by decide) fk18 (fun _ h9 => h9) rfl dX0_survey_1 ?_
  refine lv_aload_n hx hb dX0_survey_4 rfl (lv_at hl 0 rfl) ?_
  refine va_get (D := (dC, dI)) (ci := 0) (v := .ref qd) (C := RX0) (T := TX0) (N := 4) hx hb hts iwX0 hown hK hP 0 rfl rfl 0 (by decide) fk22 (fun _ h9 => h9) rfl dX0_survey_5 ?_
  have hPc := hP.sub (ws' := [(qd, .inr (1, [.ref qw, .int (bI on), .int lf, .int (nI dn)])), (qw, .inl (cyI, 512, .inl w))]) [3, 4] rfl
  have hKc := hK.sub (tys' := [(cyI, .int), (cyZ, .boolean)]) [0, 1] rfl
  refine vp_callSi (va_Run.run (va_runV (As := []) (rest := [.int sa]) ⟨hx, hb, hml, hown, hts⟩ (c_X2_writesDone l dC dI cyI cyZ qd qw w on lf dn) (cwV 0 hts gX0_survey_X2_writesDone rfl rfl rfl (by decide +kernel) ⟨Nat.le_of_ble_eq_true rfl, Nat.le_of_ble_eq_true rfl⟩) ⟨zz_blR, va_recv hKc hPc (ci := 1) (q0 := 0) rfl rfl, fun U hU hW => ⟨rfl, by rw [hU]; exact hPc, va_K.moved hW.alike hKc⟩⟩ rfl rfl hl.1 rfl (lv_room (Nat.le_of_ble_eq_true rfl)) dX0_survey_8 ⟨Nat.zero_le _, Nat.zero_le _⟩)) (fun r_8 hr_8 => ?_)
  have hr_8 : r_8 = nI dn := hr_8
  subst hr_8
  refine lv_icmp_ne (tgt := 15) hx hb dX0_survey_11 (by decide) (fun c_11 => ?_) (fun c_11 => ?_)
  ·
    refine lv_iconst (v := nI 0) hx hb dX0_survey_15 (by decide) ?_
    refine lv_istore_n (lv' := [(1, .int (nI 0)), (0, .ref qc)]) hx hb dX0_survey_16 rfl hl (by decide) rfl (fun ls hl => ?_)
    refine zz_loopW (pc := 17) (μ := fun (x : Nat × (Nat → Int32)) => match x with | (k, WH1) => 64 - k) (Inv := fun (x : Nat × (Nat → Int32)) (H : Heap) (locs : List Loc) (ls : Array Slot) => match x with | (k, WH1) => (k ≤ 64) ∧ (∀ j, j < k → WH1 j = bI (kWh w j)) ∧ va_P (dC, dI) vwCl [(qc, .inr (0, [.ref qd, .ref qwh, .ref qlv, .int sa])), (qwh, .inl (cyZ, 64, .inl WH1)), (qlv, .inl (cyZ, 64, .inl LV)), (qd, .inr (1, [.ref qw, .int (bI on), .int lf, .int (nI dn)])), (qw, .inl (cyI, 512, .inl w))] H ∧ va_D A [(qc, .inr (0, [.ref qd, .ref qwh, .ref qlv, .int sa])), (qwh, .inl (cyZ, 64, .inl WH1)), (qlv, .inl (cyZ, 64, .inl LV)), (qd, .inr (1, [.ref qw, .int (bI on), .int lf, .int (nI dn)])), (qw, .inl (cyI, 512, .inl w))] ∧ va_S A sS.heap H locs ∧ lv_has ls 2 [(0, .ref qc), (1, .int (nI k))]) (x0 := (0, WH)) ⟨by omega, no_lt0, hP, hD, hS, lv_sub hl [1, 0] rfl⟩ ?_
    intro ⟨k, WH1⟩ H locs ls hI ih17
    obtain ⟨hk, hWH, hP, hD, hS, hl⟩ := hI
    have hl : lv_has ls 2 [(0, .ref qc), (1, .int (nI k))] := hl
    have hP : va_P (dC, dI) vwCl [(qc, .inr (0, [.ref qd, .ref qwh, .ref qlv, .int sa])), (qwh, .inl (cyZ, 64, .inl WH1)), (qlv, .inl (cyZ, 64, .inl LV)), (qd, .inr (1, [.ref qw, .int (bI on), .int lf, .int (nI dn)])), (qw, .inl (cyI, 512, .inl w))] H := hP
    have hD : va_D A [(qc, .inr (0, [.ref qd, .ref qwh, .ref qlv, .int sa])), (qwh, .inl (cyZ, 64, .inl WH1)), (qlv, .inl (cyZ, 64, .inl LV)), (qd, .inr (1, [.ref qw, .int (bI on), .int lf, .int (nI dn)])), (qw, .inl (cyI, 512, .inl w))] := hD
    have hk : k ≤ 64 := hk
    have hWH : ∀ j, j < k → WH1 j = bI (kWh w j) := hWH
    refine lv_iload_n hx hb dX0_survey_17 rfl (lv_at hl 1 rfl) ?_
    refine lv_bipush (v := nI 64) hx hb dX0_survey_18 (by decide) ?_
    refine zn_icmp_ge (tgt := 59) hx hb dX0_survey_20 (by decide) (by omega) (by omega) (fun c_20 => ?_) (fun c_20 => ?_)
    ·
      refine lv_iconst (v := nI 0) hx hb dX0_survey_59 (by decide) ?_
      refine lv_istore_n (lv' := [(1, .int (nI 0)), (0, .ref qc)]) hx hb dX0_survey_60 rfl hl (by decide) rfl (fun ls hl => ?_)
      have HWH : ∀ j, j < 64 → WH1 j = bI (kWh w j) := fun j h => hWH j (by omega)
      refine zz_loopW (pc := 61) (μ := fun (x : Nat × (Nat → Int32)) => match x with | (k, LV1) => 64 - k) (Inv := fun (x : Nat × (Nat → Int32)) (H : Heap) (locs : List Loc) (ls : Array Slot) => match x with | (k, LV1) => (k ≤ 64) ∧ (∀ j, j < k → LV1 j = bI (kLive w j)) ∧ va_P (dC, dI) vwCl [(qc, .inr (0, [.ref qd, .ref qwh, .ref qlv, .int sa])), (qwh, .inl (cyZ, 64, .inl WH1)), (qlv, .inl (cyZ, 64, .inl LV1)), (qd, .inr (1, [.ref qw, .int (bI on), .int lf, .int (nI dn)])), (qw, .inl (cyI, 512, .inl w))] H ∧ va_D A [(qc, .inr (0, [.ref qd, .ref qwh, .ref qlv, .int sa])), (qwh, .inl (cyZ, 64, .inl WH1)), (qlv, .inl (cyZ, 64, .inl LV1)), (qd, .inr (1, [.ref qw, .int (bI on), .int lf, .int (nI dn)])), (qw, .inl (cyI, 512, .inl w))] ∧ va_S A sS.heap H locs ∧ lv_has ls 2 [(0, .ref qc), (1, .int (nI k))]) (x0 := (0, LV)) ⟨by omega, no_lt0, hP, hD, hS, lv_sub hl [1, 0] rfl⟩ ?_
      intro ⟨k, LV1⟩ H locs ls hI ih61
      obtain ⟨hk, hLV, hP, hD, hS, hl⟩ := hI
      have hl : lv_has ls 2 [(0, .ref qc), (1, .int (nI k))] := hl
      have hP : va_P (dC, dI) vwCl [(qc, .inr (0, [.ref qd, .ref qwh, .ref qlv, .int sa])), (qwh, .inl (cyZ, 64, .inl WH1)), (qlv, .inl (cyZ, 64, .inl LV1)), (qd, .inr (1, [.ref qw, .int (bI on), .int lf, .int (nI dn)])), (qw, .inl (cyI, 512, .inl w))] H := hP
      have hD : va_D A [(qc, .inr (0, [.ref qd, .ref qwh, .ref qlv, .int sa])), (qwh, .inl (cyZ, 64, .inl WH1)), (qlv, .inl (cyZ, 64, .inl LV1)), (qd, .inr (1, [.ref qw, .int (bI on), .int lf, .int (nI dn)])), (qw, .inl (cyI, 512, .inl w))] := hD
      have hk : k ≤ 64 := hk
      have hLV : ∀ j, j < k → LV1 j = bI (kLive w j) := hLV
      refine lv_iload_n hx hb dX0_survey_61 rfl (lv_at hl 1 rfl) ?_
      refine lv_bipush (v := nI 64) hx hb dX0_survey_62 (by decide) ?_
      refine zn_icmp_ge (tgt := 101) hx hb dX0_survey_64 (by decide) (by omega) (by omega) (fun c_64 => ?_) (fun c_64 => ?_)
      ·
        refine lv_aload_n hx hb dX0_survey_101 rfl (lv_at hl 0 rfl) ?_
        refine lv_aload_n hx hb dX0_survey_102 rfl (lv_at hl 0 rfl) ?_
        refine va_get (D := (dC, dI)) (ci := 0) (v := .ref qd) (C := RX0) (T := TX0) (N := 4) hx hb hts iwX0 hown hK hP 0 rfl rfl 0 (by decide) fk22 (fun _ h9 => h9) rfl dX0_survey_103 ?_
        have hPc := hP.sub (ws' := [(qd, .inr (1, [.ref qw, .int (bI on), .int lf, .int (nI dn)])), (qw, .inl (cyI, 512, .inl w))]) [3, 4] rfl
        have hKc := hK.sub (tys' := [(cyI, .int), (cyZ, .boolean)]) [0, 1] rfl
        refine vp_callSi (va_Run.run (va_runV (As := []) (rest := [.ref qc]) ⟨hx, hb, hml, hown, hts⟩ (c_X2_writesDone l dC dI cyI cyZ qd qw w on lf dn) (cwV 0 hts gX0_survey_X2_writesDone rfl rfl rfl (by decide +kernel) ⟨Nat.le_of_ble_eq_true rfl, Nat.le_of_ble_eq_true rfl⟩) ⟨zz_blR, va_recv hKc hPc (ci := 1) (q0 := 0) rfl rfl, fun U hU hW => ⟨rfl, by rw [hU]; exact hPc, va_K.moved hW.alike hKc⟩⟩ rfl rfl hl.1 rfl (lv_room (Nat.le_of_ble_eq_true rfl)) dX0_survey_106 ⟨Nat.zero_le _, Nat.zero_le _⟩)) (fun r_106 hr_106 => ?_)
        have hr_106 : r_106 = nI dn := hr_106
        subst hr_106
        refine va_put (D := (dC, dI)) (ci := 0) (v := .int (nI dn)) (ty := .int) (C := RX0) (T := TX0) (N := 4) hx hb hts iwX0 tyX0 tyX0_ok nmX0 hown hK hP hD hS 0 rfl rfl 3 (by decide) fk18 (fun _ h9 => h9) rfl (by decide +kernel) rfl rfl (Nat.le_of_ble_eq_true rfl) dX0_survey_109 (fun H locs hP hD hS => ?_)
        have hP : va_P (dC, dI) vwCl [(qc, .inr (0, [.ref qd, .ref qwh, .ref qlv, .int (nI dn)])), (qwh, .inl (cyZ, 64, .inl WH1)), (qlv, .inl (cyZ, 64, .inl LV1)), (qd, .inr (1, [.ref qw, .int (bI on), .int lf, .int (nI dn)])), (qw, .inl (cyI, 512, .inl w))] H := hP
        have hD : va_D A [(qc, .inr (0, [.ref qd, .ref qwh, .ref qlv, .int (nI dn)])), (qwh, .inl (cyZ, 64, .inl WH1)), (qlv, .inl (cyZ, 64, .inl LV1)), (qd, .inr (1, [.ref qw, .int (bI on), .int lf, .int (nI dn)])), (qw, .inl (cyI, 512, .inl w))] := hD
        have hP9 := hP.sub (ws' := [(qc, .inr (0, [.ref qd, .ref qwh, .ref qlv, .int (nI dn)])), (qwh, .inl (cyZ, 64, .inl WH1)), (qlv, .inl (cyZ, 64, .inl LV1)), (qd, .inr (1, [.ref qw, .int (bI on), .int lf, .int (nI dn)])), (qw, .inl (cyI, 512, .inl w))]) [0, 1, 2, 3, 4] rfl
        have hD9 := hD.sub (ws' := [(qc, .inr (0, [.ref qd, .ref qwh, .ref qlv, .int (nI dn)])), (qwh, .inl (cyZ, 64, .inl WH1)), (qlv, .inl (cyZ, 64, .inl LV1)), (qd, .inr (1, [.ref qw, .int (bI on), .int lf, .int (nI dn)])), (qw, .inl (cyI, 512, .inl w))]) [0, 1, 2, 3, 4] (by decide) rfl
        have hK9 := hK.sub (tys' := [(cyI, .int), (cyZ, .boolean)]) [0, 1] rfl
        exact W.vret hx hb hr (fun tS ht hW => ⟨⟨(WH1, LV1), rfl, fun j h => hLV j (by omega), by rw [ht]; exact hP9, va_K.moved hW.alike hK9, hD9⟩, hS.F ht⟩) hS.2.2 dX0_survey_112
      ·
        refine lv_aload_n hx hb dX0_survey_67 rfl (lv_at hl 0 rfl) ?_
        refine va_get (D := (dC, dI)) (ci := 0) (v := .ref qlv) (C := RX0) (T := TX0) (N := 4) hx hb hts iwX0 hown hK hP 0 rfl rfl 2 (by decide) fk15 (fun _ h9 => h9) rfl dX0_survey_68 ?_
        refine lv_iload_n hx hb dX0_survey_71 rfl (lv_at hl 1 rfl) ?_
        refine lv_aload_n hx hb dX0_survey_72 rfl (lv_at hl 0 rfl) ?_
        refine va_get (D := (dC, dI)) (ci := 0) (v := .ref qwh) (C := RX0) (T := TX0) (N := 4) hx hb hts iwX0 hown hK hP 0 rfl rfl 1 (by decide) fk9 (fun _ h9 => h9) rfl dX0_survey_73 ?_
        refine lv_iload_n hx hb dX0_survey_76 rfl (lv_at hl 1 rfl) ?_
        refine va_zald hx hb hK hP 1 1 rfl rfl (vp_in_nI (n := k) (by omega) (by decide)) dX0_survey_77 ?_
        refine zz_top (congrArg WH1 (nI_clamp (n := k) (by omega))) ?_
        refine zz_top (HWH k (by omega)) ?_
        refine zb_if_eq (tgt := 93) hx hb dX0_survey_78 (by decide) (fun c_78 => ?_) (fun c_78 => ?_)
        ·
          refine lv_iconst (v := nI 0) hx hb dX0_survey_93 (by decide) ?_
          refine va_zast hx hb hK hP hD hS 2 1 rfl rfl (vp_in_nI (n := k) (by omega) (by decide)) dX0_survey_94 (fun H locs hP hD hS => ?_)
          rw [nI_clamp (n := k) (by omega)] at hP hD
          rw [zz_nar_0] at hP hD
          have hP : va_P (dC, dI) vwCl [(qc, .inr (0, [.ref qd, .ref qwh, .ref qlv, .int sa])), (qwh, .inl (cyZ, 64, .inl WH1)), (qlv, .inl (cyZ, 64, .inl (upd LV1 k (nI 0)))), (qd, .inr (1, [.ref qw, .int (bI on), .int lf, .int (nI dn)])), (qw, .inl (cyI, 512, .inl w))] H := hP
          have hD : va_D A [(qc, .inr (0, [.ref qd, .ref qwh, .ref qlv, .int sa])), (qwh, .inl (cyZ, 64, .inl WH1)), (qlv, .inl (cyZ, 64, .inl (upd LV1 k (nI 0)))), (qd, .inr (1, [.ref qw, .int (bI on), .int lf, .int (nI dn)])), (qw, .inl (cyI, 512, .inl w))] := hD
          refine lv_iinc (v := nI (k + 1)) (lv' := [(1, .int (nI (k + 1))), (0, .ref qc)]) hx hb dX0_survey_95 hl (k := 1) rfl (nI_add k 1) (by decide) rfl (fun ls hl => ?_)
          refine lv_goto (tgt := 61) hx hb dX0_survey_98 (by decide) ?_
          exact ih61 (k + 1, upd LV1 k (nI 0)) _ _ _ ⟨by omega, arr_step hLV (by first | exact bI_0 (b_and_f1 c_78) | exact bI_0 (b_and_f2 (n_f c_86)) | exact bI_1 (b_and_t c_78 (n_t c_86))), hP, hD, hS, lv_sub hl [1, 0] rfl⟩ (by first | omega | (dsimp only; omega))
        ·
          refine lv_aload_n hx hb dX0_survey_81 rfl (lv_at hl 0 rfl) ?_
          refine lv_iload_n hx hb dX0_survey_82 rfl (lv_at hl 1 rfl) ?_
          have hPc := hP.sub (ws' := [(qc, .inr (0, [.ref qd, .ref qwh, .ref qlv, .int sa])), (qwh, .inl (cyZ, 64, .inl WH1)), (qlv, .inl (cyZ, 64, .inl LV1)), (qd, .inr (1, [.ref qw, .int (bI on), .int lf, .int (nI dn)])), (qw, .inl (cyI, 512, .inl w))]) [0, 1, 2, 3, 4] rfl
          have hKc := hK.sub (tys' := [(cyI, .int), (cyZ, .boolean)]) [0, 1] rfl
          refine vp_callSi (va_Run.run (va_runV (As := [.int (nI k)]) (rest := [.int (nI k), .ref qlv]) ⟨hx, hb, hml, hown, hts⟩ (c_X0_isOutdone l dC dI cyI cyZ qc qwh qlv qd qw WH1 LV1 sa w on lf dn k (by omega) (HWH)) (cwV 1 hts gX0_survey_X0_isOutdone rfl rfl rfl (by decide +kernel) ⟨Nat.le_of_ble_eq_true rfl, Nat.le_of_ble_eq_true rfl⟩) ⟨zz_blR, va_recv hKc hPc (ci := 0) (q0 := 0) rfl rfl, fun U hU hW => ⟨rfl, by rw [hU]; exact hPc, va_K.moved hW.alike hKc⟩⟩ rfl rfl hl.1 rfl (lv_room (Nat.le_of_ble_eq_true rfl)) dX0_survey_83 ⟨Nat.zero_le _, Nat.zero_le _⟩)) (fun r_83 hr_83 => ?_)
          have hr_83 : r_83 = bI (kOut w k) := hr_83
          subst hr_83
          refine zb_if_ne (tgt := 93) hx hb dX0_survey_86 (by decide) (fun c_86 => ?_) (fun c_86 => ?_)
          ·
            refine lv_iconst (v := nI 0) hx hb dX0_survey_93 (by decide) ?_
            refine va_zast hx hb hK hP hD hS 2 1 rfl rfl (vp_in_nI (n := k) (by omega) (by decide)) dX0_survey_94 (fun H locs hP hD hS => ?_)
            rw [nI_clamp (n := k) (by omega)] at hP hD
            rw [zz_nar_0] at hP hD
            have hP : va_P (dC, dI) vwCl [(qc, .inr (0, [.ref qd, .ref qwh, .ref qlv, .int sa])), (qwh, .inl (cyZ, 64, .inl WH1)), (qlv, .inl (cyZ, 64, .inl (upd LV1 k (nI 0)))), (qd, .inr (1, [.ref qw, .int (bI on), .int lf, .int (nI dn)])), (qw, .inl (cyI, 512, .inl w))] H := hP
            have hD : va_D A [(qc, .inr (0, [.ref qd, .ref qwh, .ref qlv, .int sa])), (qwh, .inl (cyZ, 64, .inl WH1)), (qlv, .inl (cyZ, 64, .inl (upd LV1 k (nI 0)))), (qd, .inr (1, [.ref qw, .int (bI on), .int lf, .int (nI dn)])), (qw, .inl (cyI, 512, .inl w))] := hD
            refine lv_iinc (v := nI (k + 1)) (lv' := [(1, .int (nI (k + 1))), (0, .ref qc)]) hx hb dX0_survey_95 hl (k := 1) rfl (nI_add k 1) (by decide) rfl (fun ls hl => ?_)
            refine lv_goto (tgt := 61) hx hb dX0_survey_98 (by decide) ?_
            exact ih61 (k + 1, upd LV1 k (nI 0)) _ _ _ ⟨by omega, arr_step hLV (by first | exact bI_0 (b_and_f1 c_78) | exact bI_0 (b_and_f2 (n_f c_86)) | exact bI_1 (b_and_t c_78 (n_t c_86))), hP, hD, hS, lv_sub hl [1, 0] rfl⟩ (by first | omega | (dsimp only; omega))
          ·
            refine lv_iconst (v := nI 1) hx hb dX0_survey_89 (by decide) ?_
            refine lv_goto (tgt := 94) hx hb dX0_survey_90 (by decide) ?_
            refine va_zast hx hb hK hP hD hS 2 1 rfl rfl (vp_in_nI (n := k) (by omega) (by decide)) dX0_survey_94 (fun H locs hP hD hS => ?_)
            rw [nI_clamp (n := k) (by omega)] at hP hD
            rw [zz_nar_1] at hP hD
            have hP : va_P (dC, dI) vwCl [(qc, .inr (0, [.ref qd, .ref qwh, .ref qlv, .int sa])), (qwh, .inl (cyZ, 64, .inl WH1)), (qlv, .inl (cyZ, 64, .inl (upd LV1 k (nI 1)))), (qd, .inr (1, [.ref qw, .int (bI on), .int lf, .int (nI dn)])), (qw, .inl (cyI, 512, .inl w))] H := hP
            have hD : va_D A [(qc, .inr (0, [.ref qd, .ref qwh, .ref qlv, .int sa])), (qwh, .inl (cyZ, 64, .inl WH1)), (qlv, .inl (cyZ, 64, .inl (upd LV1 k (nI 1)))), (qd, .inr (1, [.ref qw, .int (bI on), .int lf, .int (nI dn)])), (qw, .inl (cyI, 512, .inl w))] := hD
            refine lv_iinc (v := nI (k + 1)) (lv' := [(1, .int (nI (k + 1))), (0, .ref qc)]) hx hb dX0_survey_95 hl (k := 1) rfl (nI_add k 1) (by decide) rfl (fun ls hl => ?_)
            refine lv_goto (tgt := 61) hx hb dX0_survey_98 (by decide) ?_
            exact ih61 (k + 1, upd LV1 k (nI 1)) _ _ _ ⟨by omega, arr_step hLV (by first | exact bI_0 (b_and_f1 c_78) | exact bI_0 (b_and_f2 (n_f c_86)) | exact bI_1 (b_and_t c_78 (n_t c_86))), hP, hD, hS, lv_sub hl [1, 0] rfl⟩ (by first | omega | (dsimp only; omega))
    ·
      refine lv_aload_n hx hb dX0_survey_23 rfl (lv_at hl 0 rfl) ?_
      refine va_get (D := (dC, dI)) (ci := 0) (v := .ref qwh) (C := RX0) (T := TX0) (N := 4) hx hb hts iwX0 hown hK hP 0 rfl rfl 1 (by decide) fk9 (fun _ h9 => h9) rfl dX0_survey_24 ?_
      refine lv_iload_n hx hb dX0_survey_27 rfl (lv_at hl 1 rfl) ?_
      refine lv_aload_n hx hb dX0_survey_28 rfl (lv_at hl 0 rfl) ?_
      refine va_get (D := (dC, dI)) (ci := 0) (v := .ref qd) (C := RX0) (T := TX0) (N := 4) hx hb hts iwX0 hown hK hP 0 rfl rfl 0 (by decide) fk22 (fun _ h9 => h9) rfl dX0_survey_29 ?_
      refine lv_iload_n hx hb dX0_survey_32 rfl (lv_at hl 1 rfl) ?_
      have hPc := hP.sub (ws' := [(qd, .inr (1, [.ref qw, .int (bI on), .int lf, .int (nI dn)])), (qw, .inl (cyI, 512, .inl w))]) [3, 4] rfl
      have hKc := hK.sub (tys' := [(cyI, .int), (cyZ, .boolean)]) [0, 1] rfl
      refine vp_callSi (va_Run.run (va_runV (As := [.int (nI k)]) (rest := [.int (nI k), .ref qwh]) ⟨hx, hb, hml, hown, hts⟩ (c_X2_numberOf l dC dI cyI cyZ qd qw w on lf dn k (by omega)) (cwV 1 hts gX0_survey_X2_numberOf rfl rfl rfl (by decide +kernel) ⟨Nat.le_of_ble_eq_true rfl, Nat.le_of_ble_eq_true rfl⟩) ⟨zz_blR, va_recv hKc hPc (ci := 1) (q0 := 0) rfl rfl, fun U hU hW => ⟨rfl, by rw [hU]; exact hPc, va_K.moved hW.alike hKc⟩⟩ rfl rfl hl.1 rfl (lv_room (Nat.le_of_ble_eq_true rfl)) dX0_survey_33 ⟨Nat.zero_le _, Nat.zero_le _⟩)) (fun r_33 hr_33 => ?_)
      have hr_33 : r_33 = kNum w k := hr_33
      subst hr_33
      refine lv_if_eq (tgt := 51) hx hb dX0_survey_36 (by decide) (fun c_36 => ?_) (fun c_36 => ?_)
      ·
        refine lv_iconst (v := nI 0) hx hb dX0_survey_51 (by decide) ?_
        refine va_zast hx hb hK hP hD hS 1 1 rfl rfl (vp_in_nI (n := k) (by omega) (by decide)) dX0_survey_52 (fun H locs hP hD hS => ?_)
        rw [nI_clamp (n := k) (by omega)] at hP hD
        rw [zz_nar_0] at hP hD
        have hP : va_P (dC, dI) vwCl [(qc, .inr (0, [.ref qd, .ref qwh, .ref qlv, .int sa])), (qwh, .inl (cyZ, 64, .inl (upd WH1 k (nI 0)))), (qlv, .inl (cyZ, 64, .inl LV)), (qd, .inr (1, [.ref qw, .int (bI on), .int lf, .int (nI dn)])), (qw, .inl (cyI, 512, .inl w))] H := hP
        have hD : va_D A [(qc, .inr (0, [.ref qd, .ref qwh, .ref qlv, .int sa])), (qwh, .inl (cyZ, 64, .inl (upd WH1 k (nI 0)))), (qlv, .inl (cyZ, 64, .inl LV)), (qd, .inr (1, [.ref qw, .int (bI on), .int lf, .int (nI dn)])), (qw, .inl (cyI, 512, .inl w))] := hD
        refine lv_iinc (v := nI (k + 1)) (lv' := [(1, .int (nI (k + 1))), (0, .ref qc)]) hx hb dX0_survey_53 hl (k := 1) rfl (nI_add k 1) (by decide) rfl (fun ls hl => ?_)
        refine lv_goto (tgt := 17) hx hb dX0_survey_56 (by decide) ?_
        exact ih17 (k + 1, upd WH1 k (nI 0)) _ _ _ ⟨by omega, arr_step hWH (by first | exact bI_0 (b_and_f1 (nd_f c_36)) | exact bI_0 (b_and_f2 c_44) | exact bI_1 (b_and_t (nd_t c_36) c_44)), hP, hD, hS, lv_sub hl [1, 0] rfl⟩ (by first | omega | (dsimp only; omega))
      ·
        refine lv_aload_n hx hb dX0_survey_39 rfl (lv_at hl 0 rfl) ?_
        refine lv_iload_n hx hb dX0_survey_40 rfl (lv_at hl 1 rfl) ?_
        have hPc := hP.sub (ws' := [(qc, .inr (0, [.ref qd, .ref qwh, .ref qlv, .int sa])), (qwh, .inl (cyZ, 64, .inl WH1)), (qlv, .inl (cyZ, 64, .inl LV)), (qd, .inr (1, [.ref qw, .int (bI on), .int lf, .int (nI dn)])), (qw, .inl (cyI, 512, .inl w))]) [0, 1, 2, 3, 4] rfl
        have hKc := hK.sub (tys' := [(cyI, .int), (cyZ, .boolean)]) [0, 1] rfl
        refine vp_callSi (va_Run.run (va_runV (As := [.int (nI k)]) (rest := [.int (nI k), .ref qwh]) ⟨hx, hb, hml, hown, hts⟩ (c_X0_hasAllParts l dC dI cyI cyZ qc qwh qlv qd qw WH1 LV sa w on lf dn k (by omega)) (cwV 1 hts gX0_survey_X0_hasAllParts rfl rfl rfl (by decide +kernel) ⟨Nat.le_of_ble_eq_true rfl, Nat.le_of_ble_eq_true rfl⟩) ⟨zz_blR, va_recv hKc hPc (ci := 0) (q0 := 0) rfl rfl, fun U hU hW => ⟨rfl, by rw [hU]; exact hPc, va_K.moved hW.alike hKc⟩⟩ rfl rfl hl.1 rfl (lv_room (Nat.le_of_ble_eq_true rfl)) dX0_survey_41 ⟨Nat.zero_le _, Nat.zero_le _⟩)) (fun r_41 hr_41 => ?_)
        have hr_41 : r_41 = bI (kAll w k) := hr_41
        subst hr_41
        refine zb_if_eq (tgt := 51) hx hb dX0_survey_44 (by decide) (fun c_44 => ?_) (fun c_44 => ?_)
        ·
          refine lv_iconst (v := nI 0) hx hb dX0_survey_51 (by decide) ?_
          refine va_zast hx hb hK hP hD hS 1 1 rfl rfl (vp_in_nI (n := k) (by omega) (by decide)) dX0_survey_52 (fun H locs hP hD hS => ?_)
          rw [nI_clamp (n := k) (by omega)] at hP hD
          rw [zz_nar_0] at hP hD
          have hP : va_P (dC, dI) vwCl [(qc, .inr (0, [.ref qd, .ref qwh, .ref qlv, .int sa])), (qwh, .inl (cyZ, 64, .inl (upd WH1 k (nI 0)))), (qlv, .inl (cyZ, 64, .inl LV)), (qd, .inr (1, [.ref qw, .int (bI on), .int lf, .int (nI dn)])), (qw, .inl (cyI, 512, .inl w))] H := hP
          have hD : va_D A [(qc, .inr (0, [.ref qd, .ref qwh, .ref qlv, .int sa])), (qwh, .inl (cyZ, 64, .inl (upd WH1 k (nI 0)))), (qlv, .inl (cyZ, 64, .inl LV)), (qd, .inr (1, [.ref qw, .int (bI on), .int lf, .int (nI dn)])), (qw, .inl (cyI, 512, .inl w))] := hD
          refine lv_iinc (v := nI (k + 1)) (lv' := [(1, .int (nI (k + 1))), (0, .ref qc)]) hx hb dX0_survey_53 hl (k := 1) rfl (nI_add k 1) (by decide) rfl (fun ls hl => ?_)
          refine lv_goto (tgt := 17) hx hb dX0_survey_56 (by decide) ?_
          exact ih17 (k + 1, upd WH1 k (nI 0)) _ _ _ ⟨by omega, arr_step hWH (by first | exact bI_0 (b_and_f1 (nd_f c_36)) | exact bI_0 (b_and_f2 c_44) | exact bI_1 (b_and_t (nd_t c_36) c_44)), hP, hD, hS, lv_sub hl [1, 0] rfl⟩ (by first | omega | (dsimp only; omega))
        ·
          refine lv_iconst (v := nI 1) hx hb dX0_survey_47 (by decide) ?_
          refine lv_goto (tgt := 52) hx hb dX0_survey_48 (by decide) ?_
          refine va_zast hx hb hK hP hD hS 1 1 rfl rfl (vp_in_nI (n := k) (by omega) (by decide)) dX0_survey_52 (fun H locs hP hD hS => ?_)
          rw [nI_clamp (n := k) (by omega)] at hP hD
          rw [zz_nar_1] at hP hD
          have hP : va_P (dC, dI) vwCl [(qc, .inr (0, [.ref qd, .ref qwh, .ref qlv, .int sa])), (qwh, .inl (cyZ, 64, .inl (upd WH1 k (nI 1)))), (qlv, .inl (cyZ, 64, .inl LV)), (qd, .inr (1, [.ref qw, .int (bI on), .int lf, .int (nI dn)])), (qw, .inl (cyI, 512, .inl w))] H := hP
          have hD : va_D A [(qc, .inr (0, [.ref qd, .ref qwh, .ref qlv, .int sa])), (qwh, .inl (cyZ, 64, .inl (upd WH1 k (nI 1)))), (qlv, .inl (cyZ, 64, .inl LV)), (qd, .inr (1, [.ref qw, .int (bI on), .int lf, .int (nI dn)])), (qw, .inl (cyI, 512, .inl w))] := hD
          refine lv_iinc (v := nI (k + 1)) (lv' := [(1, .int (nI (k + 1))), (0, .ref qc)]) hx hb dX0_survey_53 hl (k := 1) rfl (nI_add k 1) (by decide) rfl (fun ls hl => ?_)
          refine lv_goto (tgt := 17) hx hb dX0_survey_56 (by decide) ?_
          exact ih17 (k + 1, upd WH1 k (nI 1)) _ _ _ ⟨by omega, arr_step hWH (by first | exact bI_0 (b_and_f1 (nd_f c_36)) | exact bI_0 (b_and_f2 c_44) | exact bI_1 (b_and_t (nd_t c_36) c_44)), hP, hD, hS, lv_sub hl [1, 0] rfl⟩ (by first | omega | (dsimp only; omega))
  ·
    subst c_11
    have hP9 := hP.sub (ws' := [(qc, .inr (0, [.ref qd, .ref qwh, .ref qlv, .int (nI dn)])), (qwh, .inl (cyZ, 64, .inl WH)), (qlv, .inl (cyZ, 64, .inl LV)), (qd, .inr (1, [.ref qw, .int (bI on), .int lf, .int (nI dn)])), (qw, .inl (cyI, 512, .inl w))]) [0, 1, 2, 3, 4] rfl
    have hD9 := hD.sub (ws' := [(qc, .inr (0, [.ref qd, .ref qwh, .ref qlv, .int (nI dn)])), (qwh, .inl (cyZ, 64, .inl WH)), (qlv, .inl (cyZ, 64, .inl LV)), (qd, .inr (1, [.ref qw, .int (bI on), .int lf, .int (nI dn)])), (qw, .inl (cyI, 512, .inl w))]) [0, 1, 2, 3, 4] (by decide) rfl
    have hK9 := hK.sub (tys' := [(cyI, .int), (cyZ, .boolean)]) [0, 1] rfl
    exact W.vret hx hb hr (fun tS ht hW => ⟨⟨(WH, LV), rfl, HS rfl, by rw [ht]; exact hP9, va_K.moved hW.alike hK9, hD9⟩, hS.F ht⟩) hS.2.2 dX0_survey_14
set_option maxHeartbeats 4000000 in
set_option maxRecDepth 100000 in
theorem c_X0_isLive (l : Launch) (dC : Nat → ClassId) (dI : Nat → Nat → Nat) (cyI cyZ : ClassId) (qc qwh qlv qd : Nat) (WH LV : Nat → Int32) (sa : Int32) (L : Nat → Bool) (b : Nat) (hb9 : b < 64) (HL : ∀ j, j < 64 → LV j = bI (L j)) : Met l yX0_isLive wsX0_isLive ({ frames := 0, cells := 0, slots := 0, locals := 0 }) (va_Pc [.ref qc, .int (nI b)] (fun U => va_P (dC, dI) vwCl [(qc, .inr (0, [.ref qd, .ref qwh, .ref qlv, .int sa])), (qwh, .inl (cyZ, 64, .inl WH)), (qlv, .inl (cyZ, 64, .inl LV))] U.heap ∧ va_K (dC, dI) vwCl [(cyI, .int), (cyZ, .boolean)] U)) (vp_Si (fun r => r = bI (L b))) 0 0 (fun _ => False) := by
  refine Met.ofW (cc := cX0_isLive) (maxL := 2) (ret := (some .boolean)) (by decide) rfl ?_
  intro pz ez sS mM args below meth cC s₁ B hml hv
  obtain ⟨rfl, hP, hK⟩ := hv
  have hx := B.exec
  have hb := B.bytes
  have hr := B.returns
  have hts := atoms_spec (ws := wsX0_isLive) B.pre
  have hown : sS.vm.findClass RX0 = some mM.cls := findClass_of_methodNamed B.named
  have hlocks := B.notSynchronized
  have iwX0 : ∀ w ∈ wsX00, w ∈ wsX0_isLive := by decide +kernel
  have fk15 := hts (.fieldLink RX0 15 "CodedStore$Catalog" "live" "[Z") (by decide +kernel)
  have hl := lv_entry ([.ref qc, .int (nI b)]) (n := 2) (Nat.le_of_ble_eq_true rfl)
  rw [lg_entry_eq]
  generalize (lg_sl ([.ref qc, .int (nI b)]) ++ List.replicate (2 - (lg_sl ([.ref qc, .int (nI b)])).length) Slot.unset).toArray = ls at hl ⊢
  have hl : lv_has ls 2 [(0, .ref qc), (1, .int (nI b))] := hl
  refine lv_iload_n hx hb dX0_isLive_0 rfl (lv_at hl 1 rfl) ?_
  refine zn_if_lt (tgt := 23) hx hb dX0_isLive_1 (by decide) (by omega) ?_
  refine lv_iload_n hx hb dX0_isLive_4 rfl (lv_at hl 1 rfl) ?_
  refine lv_bipush (v := nI 64) hx hb dX0_isLive_5 (by decide) ?_
  refine zn_icmp_ge (tgt := 23) hx hb dX0_isLive_7 (by decide) (by omega) (by omega) (fun c_7 => ?_) (fun c_7 => ?_)
  ·
    exfalso
    omega
  ·
    refine lv_aload_n hx hb dX0_isLive_10 rfl (lv_at hl 0 rfl) ?_
    refine va_get (D := (dC, dI)) (ci := 0) (v := .ref qlv) (C := RX0) (T := TX0) (N := 4) hx hb hts iwX0 hown hK hP 0 rfl rfl 2 (by decide) fk15 (fun _ h9 => h9) rfl dX0_isLive_11 ?_
    refine lv_iload_n hx hb dX0_isLive_14 rfl (lv_at hl 1 rfl) ?_
    refine va_zald hx hb hK hP 2 1 rfl rfl (vp_in_nI (n := b) (by omega) (by decide)) dX0_isLive_15 ?_
    refine zz_top (congrArg LV (nI_clamp (n := b) (by omega))) ?_
    refine zz_top (HL b hb9) ?_
    refine zb_if_eq (tgt := 23) hx hb dX0_isLive_16 (by decide) (fun c_16 => ?_) (fun c_16 => ?_)
    ·
      refine lv_iconst (v := nI 0) hx hb dX0_isLive_23 (by decide) ?_
      have hret : nI 0 = bI (L b) := bI_0 c_16
      refine zz_top hret ?_
      exact W.zret hx hb hr (zz_narZ (by first | exact zz_zb _ | exact zz_z0 | exact zz_z1)) (fun tS ht hW => ⟨_, rfl, rfl, ht⟩) (fun _ h => nomatch h) dX0_isLive_24
    ·
      refine lv_iconst (v := nI 1) hx hb dX0_isLive_19 (by decide) ?_
      refine lv_goto (tgt := 24) hx hb dX0_isLive_20 (by decide) ?_
      have hret : nI 1 = bI (L b) := bI_1 c_16
      refine zz_top hret ?_
      exact W.zret hx hb hr (zz_narZ (by first | exact zz_zb _ | exact zz_z0 | exact zz_z1)) (fun tS ht hW => ⟨_, rfl, rfl, ht⟩) (fun _ h => nomatch h) dX0_isLive_24
set_option maxHeartbeats 4000000 in
set_option maxRecDepth 100000 in
theorem c_X0_isLive_m (l : Launch) (dC : Nat → ClassId) (dI : Nat → Nat → Nat) (cyI cyZ : ClassId) (qc qwh qlv qd : Nat) (WH LV : Nat → Int32) (sa : Int32)  : Met l yX0_isLive wsX0_isLive ({ frames := 0, cells := 0, slots := 0, locals := 0 }) (va_Pc [.ref qc, .int (-1)] (fun U => va_P (dC, dI) vwCl [(qc, .inr (0, [.ref qd, .ref qwh, .ref qlv, .int sa])), (qwh, .inl (cyZ, 64, .inl WH)), (qlv, .inl (cyZ, 64, .inl LV))] U.heap ∧ va_K (dC, dI) vwCl [(cyI, .int), (cyZ, .boolean)] U)) (vp_Si (fun r => r = bI false)) 0 0 (fun _ => False) := by
  refine Met.ofW (cc := cX0_isLive) (maxL := 2) (ret := (some .boolean)) (by decide) rfl ?_
  intro pz ez sS mM args below meth cC s₁ B hml hv
  obtain ⟨rfl, hP, hK⟩ := hv
  have hx := B.exec
  have hb := B.bytes
  have hr := B.returns
  have hts := atoms_spec (ws := wsX0_isLive) B.pre
  have hown : sS.vm.findClass RX0 = some mM.cls := findClass_of_methodNamed B.named
  have hlocks := B.notSynchronized
  have hl := lv_entry ([.ref qc, .int (-1)]) (n := 2) (Nat.le_of_ble_eq_true rfl)
  rw [lg_entry_eq]
  generalize (lg_sl ([.ref qc, .int (-1)]) ++ List.replicate (2 - (lg_sl ([.ref qc, .int (-1)])).length) Slot.unset).toArray = ls at hl ⊢
  have hl : lv_has ls 2 [(0, .ref qc), (1, .int (-1))] := hl
  refine lv_iload_n hx hb dX0_isLive_0 rfl (lv_at hl 1 rfl) ?_
  refine lv_if_lt (tgt := 23) hx hb dX0_isLive_1 (by decide) (fun c_1 => ?_) (fun c_1 => absurd (by decide) c_1)
  refine lv_iconst (v := nI 0) hx hb dX0_isLive_23 (by decide) ?_
  have hret : nI 0 = bI false := rfl
  refine zz_top hret ?_
  exact W.zret hx hb hr (zz_narZ (by first | exact zz_zb _ | exact zz_z0 | exact zz_z1)) (fun tS ht hW => ⟨_, rfl, rfl, ht⟩) (fun _ h => nomatch h) dX0_isLive_24
set_option maxHeartbeats 4000000 in
set_option maxRecDepth 100000 in
theorem c_X0_isLeftOver (l : Launch) (dC : Nat → ClassId) (dI : Nat → Nat → Nat) (cyI cyZ : ClassId) (qc qwh qlv qd qw : Nat) (WH LV : Nat → Int32) (sa : Int32) (w : Nat → Int32) (on : Bool) (lf : Int32) (dn : Nat) (L : Nat → Bool) (b : Nat) (hb9 : b < 64) (HL : ∀ j, j < 64 → LV j = bI (L j)) : Met l yX0_isLeftOver wsX0_isLeftOver ({ frames := 2, cells := 0, slots := 0, locals := 43 }) (va_Pc [.ref qc, .int (nI b)] (fun U => va_P (dC, dI) vwCl [(qc, .inr (0, [.ref qd, .ref qwh, .ref qlv, .int sa])), (qwh, .inl (cyZ, 64, .inl WH)), (qlv, .inl (cyZ, 64, .inl LV)), (qd, .inr (1, [.ref qw, .int (bI on), .int lf, .int (nI dn)])), (qw, .inl (cyI, 512, .inl w))] U.heap ∧ va_K (dC, dI) vwCl [(cyI, .int), (cyZ, .boolean)] U)) (vp_Si (fun r => r = bI (kLeft L w b))) 0 0 (fun _ => False) := by
  refine Met.ofW (cc := cX0_isLeftOver) (maxL := 2) (ret := (some .boolean)) (by decide) rfl ?_
  intro pz ez sS mM args below meth cC s₁ B hml hv
  obtain ⟨rfl, hP, hK⟩ := hv
  have hx := B.exec
  have hb := B.bytes
  have hr := B.returns
  have hts := atoms_spec (ws := wsX0_isLeftOver) B.pre
  have hown : sS.vm.findClass RX0 = some mM.cls := findClass_of_methodNamed B.named
  have hlocks := B.notSynchronized
  have iwX0 : ∀ w ∈ wsX00, w ∈ wsX0_isLeftOver := by decide +kernel
  have fk22 := hts (.fieldLink RX0 22 "CodedStore$Catalog" "disk" "LCodedStore$Disk;") (by decide +kernel)
  have hl := lv_entry ([.ref qc, .int (nI b)]) (n := 2) (Nat.le_of_ble_eq_true rfl)
  rw [lg_entry_eq]
  generalize (lg_sl ([.ref qc, .int (nI b)]) ++ List.replicate (2 - (lg_sl ([.ref qc, .int (nI b)])).length) Slot.unset).toArray = ls at hl ⊢
  have hl : lv_has ls 2 [(0, .ref qc), (1, .int (nI b))] := hl
  refine lv_aload_n hx hb dX0_isLeftOver_0 rfl (lv_at hl 0 rfl) ?_
  refine lv_iload_n hx hb dX0_isLeftOver_1 rfl (lv_at hl 1 rfl) ?_
  have hPc := hP.sub (ws' := [(qc, .inr (0, [.ref qd, .ref qwh, .ref qlv, .int sa])), (qwh, .inl (cyZ, 64, .inl WH)), (qlv, .inl (cyZ, 64, .inl LV))]) [0, 1, 2] rfl
  have hKc := hK.sub (tys' := [(cyI, .int), (cyZ, .boolean)]) [0, 1] rfl
  refine vp_callSi (va_Run.run (va_runV (As := [.int (nI b)]) (rest := []) ⟨hx, hb, hml, hown, hts⟩ (c_X0_isLive l dC dI cyI cyZ qc qwh qlv qd WH LV sa L b (by omega) (HL)) (cwV 1 hts gX0_isLeftOver_X0_isLive rfl rfl rfl (by decide +kernel) ⟨Nat.le_of_ble_eq_true rfl, Nat.le_of_ble_eq_true rfl⟩) ⟨zz_blR, va_recv hKc hPc (ci := 0) (q0 := 0) rfl rfl, fun U hU hW => ⟨rfl, by rw [hU]; exact hPc, va_K.moved hW.alike hKc⟩⟩ rfl rfl hl.1 rfl (lv_room (Nat.le_of_ble_eq_true rfl)) dX0_isLeftOver_2 ⟨Nat.zero_le _, Nat.zero_le _⟩)) (fun r_2 hr_2 => ?_)
  have hr_2 : r_2 = bI (L b) := hr_2
  subst hr_2
  refine zb_if_ne (tgt := 23) hx hb dX0_isLeftOver_5 (by decide) (fun c_5 => ?_) (fun c_5 => ?_)
  ·
    refine lv_iconst (v := nI 0) hx hb dX0_isLeftOver_23 (by decide) ?_
    have hret : nI 0 = bI (kLeft L w b) := (by first  | exact bI_0 (b_and_f1 (n_f c_5)) | exact bI_0 (b_and_f2 (nd_f c_16)))
    refine zz_top hret ?_
    exact W.zret hx hb hr (zz_narZ (by first | exact zz_zb _ | exact zz_z0 | exact zz_z1)) (fun tS ht hW => ⟨_, rfl, rfl, ht⟩) (fun _ h => nomatch h) dX0_isLeftOver_24
  ·
    refine lv_aload_n hx hb dX0_isLeftOver_8 rfl (lv_at hl 0 rfl) ?_
    refine va_get (D := (dC, dI)) (ci := 0) (v := .ref qd) (C := RX0) (T := TX0) (N := 4) hx hb hts iwX0 hown hK hP 0 rfl rfl 0 (by decide) fk22 (fun _ h9 => h9) rfl dX0_isLeftOver_9 ?_
    refine lv_iload_n hx hb dX0_isLeftOver_12 rfl (lv_at hl 1 rfl) ?_
    have hPc := hP.sub (ws' := [(qd, .inr (1, [.ref qw, .int (bI on), .int lf, .int (nI dn)])), (qw, .inl (cyI, 512, .inl w))]) [3, 4] rfl
    have hKc := hK.sub (tys' := [(cyI, .int), (cyZ, .boolean)]) [0, 1] rfl
    refine vp_callSi (va_Run.run (va_runV (As := [.int (nI b)]) (rest := []) ⟨hx, hb, hml, hown, hts⟩ (c_X2_numberOf l dC dI cyI cyZ qd qw w on lf dn b (by omega)) (cwV 1 hts gX0_isLeftOver_X2_numberOf rfl rfl rfl (by decide +kernel) ⟨Nat.le_of_ble_eq_true rfl, Nat.le_of_ble_eq_true rfl⟩) ⟨zz_blR, va_recv hKc hPc (ci := 1) (q0 := 0) rfl rfl, fun U hU hW => ⟨rfl, by rw [hU]; exact hPc, va_K.moved hW.alike hKc⟩⟩ rfl rfl hl.1 rfl (lv_room (Nat.le_of_ble_eq_true rfl)) dX0_isLeftOver_13 ⟨Nat.zero_le _, Nat.zero_le _⟩)) (fun r_13 hr_13 => ?_)
    have hr_13 : r_13 = kNum w b := hr_13
    subst hr_13
    refine lv_if_eq (tgt := 23) hx hb dX0_isLeftOver_16 (by decide) (fun c_16 => ?_) (fun c_16 => ?_)
    ·
      refine lv_iconst (v := nI 0) hx hb dX0_isLeftOver_23 (by decide) ?_
      have hret : nI 0 = bI (kLeft L w b) := (by first  | exact bI_0 (b_and_f1 (n_f c_5)) | exact bI_0 (b_and_f2 (nd_f c_16)))
      refine zz_top hret ?_
      exact W.zret hx hb hr (zz_narZ (by first | exact zz_zb _ | exact zz_z0 | exact zz_z1)) (fun tS ht hW => ⟨_, rfl, rfl, ht⟩) (fun _ h => nomatch h) dX0_isLeftOver_24
    ·
      refine lv_iconst (v := nI 1) hx hb dX0_isLeftOver_19 (by decide) ?_
      refine lv_goto (tgt := 24) hx hb dX0_isLeftOver_20 (by decide) ?_
      have hret : nI 1 = bI (kLeft L w b) := (by first  | exact bI_1 (b_and_t (n_t c_5) (nd_t c_16)))
      refine zz_top hret ?_
      exact W.zret hx hb hr (zz_narZ (by first | exact zz_zb _ | exact zz_z0 | exact zz_z1)) (fun tS ht hW => ⟨_, rfl, rfl, ht⟩) (fun _ h => nomatch h) dX0_isLeftOver_24
set_option maxHeartbeats 4000000 in
set_option maxRecDepth 100000 in
theorem c_X0_isLiveGrave (l : Launch) (dC : Nat → ClassId) (dI : Nat → Nat → Nat) (cyI cyZ : ClassId) (qc qwh qlv qd qw : Nat) (WH LV : Nat → Int32) (sa : Int32) (w : Nat → Int32) (on : Bool) (lf : Int32) (dn : Nat) (L : Nat → Bool) (b : Nat) (hb9 : b < 64) (HL : ∀ j, j < 64 → LV j = bI (L j)) : Met l yX0_isLiveGrave wsX0_isLiveGrave ({ frames := 2, cells := 0, slots := 0, locals := 43 }) (va_Pc [.ref qc, .int (nI b)] (fun U => va_P (dC, dI) vwCl [(qc, .inr (0, [.ref qd, .ref qwh, .ref qlv, .int sa])), (qwh, .inl (cyZ, 64, .inl WH)), (qlv, .inl (cyZ, 64, .inl LV)), (qd, .inr (1, [.ref qw, .int (bI on), .int lf, .int (nI dn)])), (qw, .inl (cyI, 512, .inl w))] U.heap ∧ va_K (dC, dI) vwCl [(cyI, .int), (cyZ, .boolean)] U)) (vp_Si (fun r => r = bI (kGrave L w b))) 0 0 (fun _ => False) := by
  refine Met.ofW (cc := cX0_isLiveGrave) (maxL := 2) (ret := (some .boolean)) (by decide) rfl ?_
  intro pz ez sS mM args below meth cC s₁ B hml hv
  obtain ⟨rfl, hP, hK⟩ := hv
  have hx := B.exec
  have hb := B.bytes
  have hr := B.returns
  have hts := atoms_spec (ws := wsX0_isLiveGrave) B.pre
  have hown : sS.vm.findClass RX0 = some mM.cls := findClass_of_methodNamed B.named
  have hlocks := B.notSynchronized
  have iwX0 : ∀ w ∈ wsX00, w ∈ wsX0_isLiveGrave := by decide +kernel
  have fk22 := hts (.fieldLink RX0 22 "CodedStore$Catalog" "disk" "LCodedStore$Disk;") (by decide +kernel)
  have hl := lv_entry ([.ref qc, .int (nI b)]) (n := 2) (Nat.le_of_ble_eq_true rfl)
  rw [lg_entry_eq]
  generalize (lg_sl ([.ref qc, .int (nI b)]) ++ List.replicate (2 - (lg_sl ([.ref qc, .int (nI b)])).length) Slot.unset).toArray = ls at hl ⊢
  have hl : lv_has ls 2 [(0, .ref qc), (1, .int (nI b))] := hl
  refine lv_aload_n hx hb dX0_isLiveGrave_0 rfl (lv_at hl 0 rfl) ?_
  refine lv_iload_n hx hb dX0_isLiveGrave_1 rfl (lv_at hl 1 rfl) ?_
  have hPc := hP.sub (ws' := [(qc, .inr (0, [.ref qd, .ref qwh, .ref qlv, .int sa])), (qwh, .inl (cyZ, 64, .inl WH)), (qlv, .inl (cyZ, 64, .inl LV))]) [0, 1, 2] rfl
  have hKc := hK.sub (tys' := [(cyI, .int), (cyZ, .boolean)]) [0, 1] rfl
  refine vp_callSi (va_Run.run (va_runV (As := [.int (nI b)]) (rest := []) ⟨hx, hb, hml, hown, hts⟩ (c_X0_isLive l dC dI cyI cyZ qc qwh qlv qd WH LV sa L b (by omega) (HL)) (cwV 1 hts gX0_isLiveGrave_X0_isLive rfl rfl rfl (by decide +kernel) ⟨Nat.le_of_ble_eq_true rfl, Nat.le_of_ble_eq_true rfl⟩) ⟨zz_blR, va_recv hKc hPc (ci := 0) (q0 := 0) rfl rfl, fun U hU hW => ⟨rfl, by rw [hU]; exact hPc, va_K.moved hW.alike hKc⟩⟩ rfl rfl hl.1 rfl (lv_room (Nat.le_of_ble_eq_true rfl)) dX0_isLiveGrave_2 ⟨Nat.zero_le _, Nat.zero_le _⟩)) (fun r_2 hr_2 => ?_)
  have hr_2 : r_2 = bI (L b) := hr_2
  subst hr_2
  refine zb_if_eq (tgt := 24) hx hb dX0_isLiveGrave_5 (by decide) (fun c_5 => ?_) (fun c_5 => ?_)
  ·
    refine lv_iconst (v := nI 0) hx hb dX0_isLiveGrave_24 (by decide) ?_
    have hret : nI 0 = bI (kGrave L w b) := (by first  | exact bI_0 (b_and_f1 c_5) | exact bI_0 (b_and_f2 (d_f c_17)))
    refine zz_top hret ?_
    exact W.zret hx hb hr (zz_narZ (by first | exact zz_zb _ | exact zz_z0 | exact zz_z1)) (fun tS ht hW => ⟨_, rfl, rfl, ht⟩) (fun _ h => nomatch h) dX0_isLiveGrave_25
  ·
    refine lv_aload_n hx hb dX0_isLiveGrave_8 rfl (lv_at hl 0 rfl) ?_
    refine va_get (D := (dC, dI)) (ci := 0) (v := .ref qd) (C := RX0) (T := TX0) (N := 4) hx hb hts iwX0 hown hK hP 0 rfl rfl 0 (by decide) fk22 (fun _ h9 => h9) rfl dX0_isLiveGrave_9 ?_
    refine lv_iload_n hx hb dX0_isLiveGrave_12 rfl (lv_at hl 1 rfl) ?_
    have hPc := hP.sub (ws' := [(qd, .inr (1, [.ref qw, .int (bI on), .int lf, .int (nI dn)])), (qw, .inl (cyI, 512, .inl w))]) [3, 4] rfl
    have hKc := hK.sub (tys' := [(cyI, .int), (cyZ, .boolean)]) [0, 1] rfl
    refine vp_callSi (va_Run.run (va_runV (As := [.int (nI b)]) (rest := []) ⟨hx, hb, hml, hown, hts⟩ (c_X2_formOf l dC dI cyI cyZ qd qw w on lf dn b (by omega)) (cwV 1 hts gX0_isLiveGrave_X2_formOf rfl rfl rfl (by decide +kernel) ⟨Nat.le_of_ble_eq_true rfl, Nat.le_of_ble_eq_true rfl⟩) ⟨zz_blR, va_recv hKc hPc (ci := 1) (q0 := 0) rfl rfl, fun U hU hW => ⟨rfl, by rw [hU]; exact hPc, va_K.moved hW.alike hKc⟩⟩ rfl rfl hl.1 rfl (lv_room (Nat.le_of_ble_eq_true rfl)) dX0_isLiveGrave_13 ⟨Nat.zero_le _, Nat.zero_le _⟩)) (fun r_13 hr_13 => ?_)
    have hr_13 : r_13 = kForm w b := hr_13
    subst hr_13
    refine lv_iconst (v := nI 2) hx hb dX0_isLiveGrave_16 (by decide) ?_
    refine lv_icmp_ne (tgt := 24) hx hb dX0_isLiveGrave_17 (by decide) (fun c_17 => ?_) (fun c_17 => ?_)
    ·
      refine lv_iconst (v := nI 0) hx hb dX0_isLiveGrave_24 (by decide) ?_
      have hret : nI 0 = bI (kGrave L w b) := (by first  | exact bI_0 (b_and_f1 c_5) | exact bI_0 (b_and_f2 (d_f c_17)))
      refine zz_top hret ?_
      exact W.zret hx hb hr (zz_narZ (by first | exact zz_zb _ | exact zz_z0 | exact zz_z1)) (fun tS ht hW => ⟨_, rfl, rfl, ht⟩) (fun _ h => nomatch h) dX0_isLiveGrave_25
    ·
      refine lv_iconst (v := nI 1) hx hb dX0_isLiveGrave_20 (by decide) ?_
      refine lv_goto (tgt := 25) hx hb dX0_isLiveGrave_21 (by decide) ?_
      have hret : nI 1 = bI (kGrave L w b) := (by first  | exact bI_1 (b_and_t c_5 (d_t c_17)))
      refine zz_top hret ?_
      exact W.zret hx hb hr (zz_narZ (by first | exact zz_zb _ | exact zz_z0 | exact zz_z1)) (fun tS ht hW => ⟨_, rfl, rfl, ht⟩) (fun _ h => nomatch h) dX0_isLiveGrave_25
set_option maxHeartbeats 4000000 in
set_option maxRecDepth 100000 in
theorem c_X0_isText (l : Launch) (dC : Nat → ClassId) (dI : Nat → Nat → Nat) (cyI cyZ : ClassId) (qc qwh qlv qd qw : Nat) (WH LV : Nat → Int32) (sa : Int32) (w : Nat → Int32) (on : Bool) (lf : Int32) (dn : Nat) (L : Nat → Bool) (b : Nat) (hb9 : b < 64) (HL : ∀ j, j < 64 → LV j = bI (L j)) : Met l yX0_isText wsX0_isText ({ frames := 2, cells := 0, slots := 0, locals := 43 }) (va_Pc [.ref qc, .int (nI b)] (fun U => va_P (dC, dI) vwCl [(qc, .inr (0, [.ref qd, .ref qwh, .ref qlv, .int sa])), (qwh, .inl (cyZ, 64, .inl WH)), (qlv, .inl (cyZ, 64, .inl LV)), (qd, .inr (1, [.ref qw, .int (bI on), .int lf, .int (nI dn)])), (qw, .inl (cyI, 512, .inl w))] U.heap ∧ va_K (dC, dI) vwCl [(cyI, .int), (cyZ, .boolean)] U)) (vp_Si (fun r => r = bI (kText L w b))) 0 0 (fun _ => False) := by
  refine Met.ofW (cc := cX0_isText) (maxL := 2) (ret := (some .boolean)) (by decide) rfl ?_
  intro pz ez sS mM args below meth cC s₁ B hml hv
  obtain ⟨rfl, hP, hK⟩ := hv
  have hx := B.exec
  have hb := B.bytes
  have hr := B.returns
  have hts := atoms_spec (ws := wsX0_isText) B.pre
  have hown : sS.vm.findClass RX0 = some mM.cls := findClass_of_methodNamed B.named
  have hlocks := B.notSynchronized
  have iwX0 : ∀ w ∈ wsX00, w ∈ wsX0_isText := by decide +kernel
  have fk22 := hts (.fieldLink RX0 22 "CodedStore$Catalog" "disk" "LCodedStore$Disk;") (by decide +kernel)
  have hl := lv_entry ([.ref qc, .int (nI b)]) (n := 2) (Nat.le_of_ble_eq_true rfl)
  rw [lg_entry_eq]
  generalize (lg_sl ([.ref qc, .int (nI b)]) ++ List.replicate (2 - (lg_sl ([.ref qc, .int (nI b)])).length) Slot.unset).toArray = ls at hl ⊢
  have hl : lv_has ls 2 [(0, .ref qc), (1, .int (nI b))] := hl
  refine lv_aload_n hx hb dX0_isText_0 rfl (lv_at hl 0 rfl) ?_
  refine lv_iload_n hx hb dX0_isText_1 rfl (lv_at hl 1 rfl) ?_
  have hPc := hP.sub (ws' := [(qc, .inr (0, [.ref qd, .ref qwh, .ref qlv, .int sa])), (qwh, .inl (cyZ, 64, .inl WH)), (qlv, .inl (cyZ, 64, .inl LV))]) [0, 1, 2] rfl
  have hKc := hK.sub (tys' := [(cyI, .int), (cyZ, .boolean)]) [0, 1] rfl
  refine vp_callSi (va_Run.run (va_runV (As := [.int (nI b)]) (rest := []) ⟨hx, hb, hml, hown, hts⟩ (c_X0_isLive l dC dI cyI cyZ qc qwh qlv qd WH LV sa L b (by omega) (HL)) (cwV 1 hts gX0_isText_X0_isLive rfl rfl rfl (by decide +kernel) ⟨Nat.le_of_ble_eq_true rfl, Nat.le_of_ble_eq_true rfl⟩) ⟨zz_blR, va_recv hKc hPc (ci := 0) (q0 := 0) rfl rfl, fun U hU hW => ⟨rfl, by rw [hU]; exact hPc, va_K.moved hW.alike hKc⟩⟩ rfl rfl hl.1 rfl (lv_room (Nat.le_of_ble_eq_true rfl)) dX0_isText_2 ⟨Nat.zero_le _, Nat.zero_le _⟩)) (fun r_2 hr_2 => ?_)
  have hr_2 : r_2 = bI (L b) := hr_2
  subst hr_2
  refine zb_if_eq (tgt := 35) hx hb dX0_isText_5 (by decide) (fun c_5 => ?_) (fun c_5 => ?_)
  ·
    refine lv_iconst (v := nI 0) hx hb dX0_isText_35 (by decide) ?_
    have hret : nI 0 = bI (kText L w b) := (by first  | exact bI_0 (b_and_f1 c_5) | exact bI_0 (b_and_f2 (b_and_f1 (d_f c_16))) | exact bI_0 (b_and_f2 (b_and_f2 (nd_f c_28))))
    refine zz_top hret ?_
    exact W.zret hx hb hr (zz_narZ (by first | exact zz_zb _ | exact zz_z0 | exact zz_z1)) (fun tS ht hW => ⟨_, rfl, rfl, ht⟩) (fun _ h => nomatch h) dX0_isText_36
  ·
    refine lv_aload_n hx hb dX0_isText_8 rfl (lv_at hl 0 rfl) ?_
    refine va_get (D := (dC, dI)) (ci := 0) (v := .ref qd) (C := RX0) (T := TX0) (N := 4) hx hb hts iwX0 hown hK hP 0 rfl rfl 0 (by decide) fk22 (fun _ h9 => h9) rfl dX0_isText_9 ?_
    refine lv_iload_n hx hb dX0_isText_12 rfl (lv_at hl 1 rfl) ?_
    have hPc := hP.sub (ws' := [(qd, .inr (1, [.ref qw, .int (bI on), .int lf, .int (nI dn)])), (qw, .inl (cyI, 512, .inl w))]) [3, 4] rfl
    have hKc := hK.sub (tys' := [(cyI, .int), (cyZ, .boolean)]) [0, 1] rfl
    refine vp_callSi (va_Run.run (va_runV (As := [.int (nI b)]) (rest := []) ⟨hx, hb, hml, hown, hts⟩ (c_X2_partOf l dC dI cyI cyZ qd qw w on lf dn b (by omega)) (cwV 1 hts gX0_isText_X2_partOf rfl rfl rfl (by decide +kernel) ⟨Nat.le_of_ble_eq_true rfl, Nat.le_of_ble_eq_true rfl⟩) ⟨zz_blR, va_recv hKc hPc (ci := 1) (q0 := 0) rfl rfl, fun U hU hW => ⟨rfl, by rw [hU]; exact hPc, va_K.moved hW.alike hKc⟩⟩ rfl rfl hl.1 rfl (lv_room (Nat.le_of_ble_eq_true rfl)) dX0_isText_13 ⟨Nat.zero_le _, Nat.zero_le _⟩)) (fun r_13 hr_13 => ?_)
    have hr_13 : r_13 = kPart w b := hr_13
    subst hr_13
    refine lv_if_ne (tgt := 35) hx hb dX0_isText_16 (by decide) (fun c_16 => ?_) (fun c_16 => ?_)
    ·
      refine lv_iconst (v := nI 0) hx hb dX0_isText_35 (by decide) ?_
      have hret : nI 0 = bI (kText L w b) := (by first  | exact bI_0 (b_and_f1 c_5) | exact bI_0 (b_and_f2 (b_and_f1 (d_f c_16))) | exact bI_0 (b_and_f2 (b_and_f2 (nd_f c_28))))
      refine zz_top hret ?_
      exact W.zret hx hb hr (zz_narZ (by first | exact zz_zb _ | exact zz_z0 | exact zz_z1)) (fun tS ht hW => ⟨_, rfl, rfl, ht⟩) (fun _ h => nomatch h) dX0_isText_36
    ·
      refine lv_aload_n hx hb dX0_isText_19 rfl (lv_at hl 0 rfl) ?_
      refine va_get (D := (dC, dI)) (ci := 0) (v := .ref qd) (C := RX0) (T := TX0) (N := 4) hx hb hts iwX0 hown hK hP 0 rfl rfl 0 (by decide) fk22 (fun _ h9 => h9) rfl dX0_isText_20 ?_
      refine lv_iload_n hx hb dX0_isText_23 rfl (lv_at hl 1 rfl) ?_
      have hPc := hP.sub (ws' := [(qd, .inr (1, [.ref qw, .int (bI on), .int lf, .int (nI dn)])), (qw, .inl (cyI, 512, .inl w))]) [3, 4] rfl
      have hKc := hK.sub (tys' := [(cyI, .int), (cyZ, .boolean)]) [0, 1] rfl
      refine vp_callSi (va_Run.run (va_runV (As := [.int (nI b)]) (rest := []) ⟨hx, hb, hml, hown, hts⟩ (c_X2_formOf l dC dI cyI cyZ qd qw w on lf dn b (by omega)) (cwV 1 hts gX0_isText_X2_formOf rfl rfl rfl (by decide +kernel) ⟨Nat.le_of_ble_eq_true rfl, Nat.le_of_ble_eq_true rfl⟩) ⟨zz_blR, va_recv hKc hPc (ci := 1) (q0 := 0) rfl rfl, fun U hU hW => ⟨rfl, by rw [hU]; exact hPc, va_K.moved hW.alike hKc⟩⟩ rfl rfl hl.1 rfl (lv_room (Nat.le_of_ble_eq_true rfl)) dX0_isText_24 ⟨Nat.zero_le _, Nat.zero_le _⟩)) (fun r_24 hr_24 => ?_)
      have hr_24 : r_24 = kForm w b := hr_24
      subst hr_24
      refine lv_iconst (v := nI 2) hx hb dX0_isText_27 (by decide) ?_
      refine lv_icmp_eq (tgt := 35) hx hb dX0_isText_28 (by decide) (fun c_28 => ?_) (fun c_28 => ?_)
      ·
        refine lv_iconst (v := nI 0) hx hb dX0_isText_35 (by decide) ?_
        have hret : nI 0 = bI (kText L w b) := (by first  | exact bI_0 (b_and_f1 c_5) | exact bI_0 (b_and_f2 (b_and_f1 (d_f c_16))) | exact bI_0 (b_and_f2 (b_and_f2 (nd_f c_28))))
        refine zz_top hret ?_
        exact W.zret hx hb hr (zz_narZ (by first | exact zz_zb _ | exact zz_z0 | exact zz_z1)) (fun tS ht hW => ⟨_, rfl, rfl, ht⟩) (fun _ h => nomatch h) dX0_isText_36
      ·
        refine lv_iconst (v := nI 1) hx hb dX0_isText_31 (by decide) ?_
        refine lv_goto (tgt := 36) hx hb dX0_isText_32 (by decide) ?_
        have hret : nI 1 = bI (kText L w b) := (by first  | exact bI_1 (b_and_t c_5 (b_and_t (d_t c_16) (nd_t c_28))))
        refine zz_top hret ?_
        exact W.zret hx hb hr (zz_narZ (by first | exact zz_zb _ | exact zz_z0 | exact zz_z1)) (fun tS ht hW => ⟨_, rfl, rfl, ht⟩) (fun _ h => nomatch h) dX0_isText_36
set_option maxHeartbeats 4000000 in
set_option maxRecDepth 100000 in
theorem c_X0_isText_m (l : Launch) (dC : Nat → ClassId) (dI : Nat → Nat → Nat) (cyI cyZ : ClassId) (qc qwh qlv qd qw : Nat) (WH LV : Nat → Int32) (sa : Int32) (w : Nat → Int32) (on : Bool) (lf : Int32) (dn : Nat)  : Met l yX0_isText wsX0_isText ({ frames := 2, cells := 0, slots := 0, locals := 43 }) (va_Pc [.ref qc, .int (-1)] (fun U => va_P (dC, dI) vwCl [(qc, .inr (0, [.ref qd, .ref qwh, .ref qlv, .int sa])), (qwh, .inl (cyZ, 64, .inl WH)), (qlv, .inl (cyZ, 64, .inl LV)), (qd, .inr (1, [.ref qw, .int (bI on), .int lf, .int (nI dn)])), (qw, .inl (cyI, 512, .inl w))] U.heap ∧ va_K (dC, dI) vwCl [(cyI, .int), (cyZ, .boolean)] U)) (vp_Si (fun r => r = bI false)) 0 0 (fun _ => False) := by
  refine Met.ofW (cc := cX0_isText) (maxL := 2) (ret := (some .boolean)) (by decide) rfl ?_
  intro pz ez sS mM args below meth cC s₁ B hml hv
  obtain ⟨rfl, hP, hK⟩ := hv
  have hx := B.exec
  have hb := B.bytes
  have hr := B.returns
  have hts := atoms_spec (ws := wsX0_isText) B.pre
  have hown : sS.vm.findClass RX0 = some mM.cls := findClass_of_methodNamed B.named
  have hlocks := B.notSynchronized
  have hl := lv_entry ([.ref qc, .int (-1)]) (n := 2) (Nat.le_of_ble_eq_true rfl)
  rw [lg_entry_eq]
  generalize (lg_sl ([.ref qc, .int (-1)]) ++ List.replicate (2 - (lg_sl ([.ref qc, .int (-1)])).length) Slot.unset).toArray = ls at hl ⊢
  have hl : lv_has ls 2 [(0, .ref qc), (1, .int (-1))] := hl
  refine lv_aload_n hx hb dX0_isText_0 rfl (lv_at hl 0 rfl) ?_
  refine lv_iload_n hx hb dX0_isText_1 rfl (lv_at hl 1 rfl) ?_
  have hPc := hP.sub (ws' := [(qc, .inr (0, [.ref qd, .ref qwh, .ref qlv, .int sa])), (qwh, .inl (cyZ, 64, .inl WH)), (qlv, .inl (cyZ, 64, .inl LV))]) [0, 1, 2] rfl
  have hKc := hK.sub (tys' := [(cyI, .int), (cyZ, .boolean)]) [0, 1] rfl
  refine vp_callSi (va_Run.run (va_runV (As := [.int (-1)]) (rest := []) ⟨hx, hb, hml, hown, hts⟩ (c_X0_isLive_m l dC dI cyI cyZ qc qwh qlv qd WH LV sa) (cwV 1 hts gX0_isText_X0_isLive rfl rfl rfl (by decide +kernel) ⟨Nat.le_of_ble_eq_true rfl, Nat.le_of_ble_eq_true rfl⟩) ⟨zz_blR, va_recv hKc hPc (ci := 0) (q0 := 0) rfl rfl, fun U hU hW => ⟨rfl, by rw [hU]; exact hPc, va_K.moved hW.alike hKc⟩⟩ rfl rfl hl.1 rfl (lv_room (Nat.le_of_ble_eq_true rfl)) dX0_isText_2 ⟨Nat.zero_le _, Nat.zero_le _⟩)) (fun r_2 hr_2 => ?_)
  have hr_2 : r_2 = bI false := hr_2
  subst hr_2
  refine zb_if_eq (tgt := 35) hx hb dX0_isText_5 (by decide) (fun c_5 => ?_) (fun c_5 => ?_)
  ·
    refine lv_iconst (v := nI 0) hx hb dX0_isText_35 (by decide) ?_
    have hret : nI 0 = bI false := rfl
    refine zz_top hret ?_
    exact W.zret hx hb hr (zz_narZ (by first | exact zz_zb _ | exact zz_z0 | exact zz_z1)) (fun tS ht hW => ⟨_, rfl, rfl, ht⟩) (fun _ h => nomatch h) dX0_isText_36
  ·
    exfalso
    exact absurd c_5 (by decide)
set_option maxHeartbeats 4000000 in
set_option maxRecDepth 100000 in
theorem c_X0_firstBlock (l : Launch) (dC : Nat → ClassId) (dI : Nat → Nat → Nat) (cyI cyZ : ClassId) (qc qwh qlv qd qw : Nat) (WH LV : Nat → Int32) (sa : Int32) (w : Nat → Int32) (on : Bool) (lf : Int32) (dn : Nat) (L : Nat → Bool) (ky : Int32) (HL : ∀ j, j < 64 → LV j = bI (L j)) : Met l yX0_firstBlock wsX0_firstBlock ({ frames := 2, cells := 0, slots := 0, locals := 43 }) (va_Pc [.ref qc, .int ky] (fun U => va_P (dC, dI) vwCl [(qc, .inr (0, [.ref qd, .ref qwh, .ref qlv, .int sa])), (qwh, .inl (cyZ, 64, .inl WH)), (qlv, .inl (cyZ, 64, .inl LV)), (qd, .inr (1, [.ref qw, .int (bI on), .int lf, .int (nI dn)])), (qw, .inl (cyI, 512, .inl w))] U.heap ∧ va_K (dC, dI) vwCl [(cyI, .int), (cyZ, .boolean)] U)) (vp_Si (fun r => r = zFI (zFst (kIs L w ky) 64) 64)) 0 0 (fun _ => False) := by
  refine Met.ofW (cc := cX0_firstBlock) (maxL := 3) (ret := (some .int)) (by decide) rfl ?_
  intro pz ez sS mM args below meth cC s₁ B hml hv
  obtain ⟨rfl, hP, hK⟩ := hv
  have hx := B.exec
  have hb := B.bytes
  have hr := B.returns
  have hts := atoms_spec (ws := wsX0_firstBlock) B.pre
  have hown : sS.vm.findClass RX0 = some mM.cls := findClass_of_methodNamed B.named
  have hlocks := B.notSynchronized
  have iwX0 : ∀ w ∈ wsX00, w ∈ wsX0_firstBlock := by decide +kernel
  have fk22 := hts (.fieldLink RX0 22 "CodedStore$Catalog" "disk" "LCodedStore$Disk;") (by decide +kernel)
  have hl := lv_entry ([.ref qc, .int ky]) (n := 3) (Nat.le_of_ble_eq_true rfl)
  rw [lg_entry_eq]
  generalize (lg_sl ([.ref qc, .int ky]) ++ List.replicate (3 - (lg_sl ([.ref qc, .int ky])).length) Slot.unset).toArray = ls at hl ⊢
  have hl : lv_has ls 3 [(0, .ref qc), (1, .int ky)] := hl
  refine lv_iconst (v := nI 0) hx hb dX0_firstBlock_0 (by decide) ?_
  refine lv_istore_n (lv' := [(2, .int (nI 0)), (0, .ref qc), (1, .int ky)]) hx hb dX0_firstBlock_1 rfl hl (by decide) rfl (fun ls hl => ?_)
  refine zz_loopR (pc := 2) (μ := fun (k : Nat) => 64 - k) (Inv := fun (k : Nat) (ls : Array Slot) => (k ≤ 64) ∧ (∀ j, j < k → kIs L w ky j = false) ∧ lv_has ls 3 [(0, .ref qc), (1, .int ky), (2, .int (nI k))]) (x0 := (0)) ⟨by omega, no_lt0, lv_sub hl [1, 2, 0] rfl⟩ ?_
  intro k ls hI ih2
  obtain ⟨hk, hj, hl⟩ := hI
  have hl : lv_has ls 3 [(0, .ref qc), (1, .int ky), (2, .int (nI k))] := hl
  have hk : k ≤ 64 := hk
  have hj : ∀ j, j < k → kIs L w ky j = false := hj
  refine lv_iload_n hx hb dX0_firstBlock_2 rfl (lv_at hl 2 rfl) ?_
  refine lv_bipush (v := nI 64) hx hb dX0_firstBlock_3 (by decide) ?_
  refine zn_icmp_ge (tgt := 47) hx hb dX0_firstBlock_5 (by decide) (by omega) (by omega) (fun c_5 => ?_) (fun c_5 => ?_)
  ·
    refine lv_iconst (v := (-1)) hx hb dX0_firstBlock_47 (by decide) ?_
    have hret : (-1) = zFI (zFst (kIs L w ky) 64) 64 := zFI_n (fun j h => hj j (by omega))
    refine zz_top hret ?_
    exact W.iret hx hb hr (fun tS ht hW => ⟨_, rfl, rfl, ht⟩) (fun _ h => nomatch h) dX0_firstBlock_48
  ·
    refine lv_aload_n hx hb dX0_firstBlock_8 rfl (lv_at hl 0 rfl) ?_
    refine lv_iload_n hx hb dX0_firstBlock_9 rfl (lv_at hl 2 rfl) ?_
    have hPc := hP.sub (ws' := [(qc, .inr (0, [.ref qd, .ref qwh, .ref qlv, .int sa])), (qwh, .inl (cyZ, 64, .inl WH)), (qlv, .inl (cyZ, 64, .inl LV))]) [0, 1, 2] rfl
    have hKc := hK.sub (tys' := [(cyI, .int), (cyZ, .boolean)]) [0, 1] rfl
    refine vp_callSi (va_Run.run (va_runV (As := [.int (nI k)]) (rest := []) ⟨hx, hb, hml, hown, hts⟩ (c_X0_isLive l dC dI cyI cyZ qc qwh qlv qd WH LV sa L k (by omega) (HL)) (cwV 1 hts gX0_firstBlock_X0_isLive rfl rfl rfl (by decide +kernel) ⟨Nat.le_of_ble_eq_true rfl, Nat.le_of_ble_eq_true rfl⟩) ⟨zz_blR, va_recv hKc hPc (ci := 0) (q0 := 0) rfl rfl, fun U hU hW => ⟨rfl, by rw [hU]; exact hPc, va_K.moved hW.alike hKc⟩⟩ rfl rfl hl.1 rfl (lv_room (Nat.le_of_ble_eq_true rfl)) dX0_firstBlock_10 ⟨Nat.zero_le _, Nat.zero_le _⟩)) (fun r_10 hr_10 => ?_)
    have hr_10 : r_10 = bI (L k) := hr_10
    subst hr_10
    refine zb_if_eq (tgt := 41) hx hb dX0_firstBlock_13 (by decide) (fun c_13 => ?_) (fun c_13 => ?_)
    ·
      refine lv_iinc (v := nI (k + 1)) (lv' := [(2, .int (nI (k + 1))), (0, .ref qc), (1, .int ky)]) hx hb dX0_firstBlock_41 hl (k := 2) rfl (nI_add k 1) (by decide) rfl (fun ls hl => ?_)
      refine lv_goto (tgt := 2) hx hb dX0_firstBlock_44 (by decide) ?_
      exact ih2 (k + 1) _ ⟨by omega, lt_step hj (by first | exact b_and_f1 c_13 | exact b_and_f2 (b_and_f1 (d_f c_24)) | exact b_and_f2 (b_and_f2 (d_f c_36))), lv_sub hl [1, 2, 0] rfl⟩ (by first | omega | (dsimp only; omega))
    ·
      refine lv_aload_n hx hb dX0_firstBlock_16 rfl (lv_at hl 0 rfl) ?_
      refine va_get (D := (dC, dI)) (ci := 0) (v := .ref qd) (C := RX0) (T := TX0) (N := 4) hx hb hts iwX0 hown hK hP 0 rfl rfl 0 (by decide) fk22 (fun _ h9 => h9) rfl dX0_firstBlock_17 ?_
      refine lv_iload_n hx hb dX0_firstBlock_20 rfl (lv_at hl 2 rfl) ?_
      have hPc := hP.sub (ws' := [(qd, .inr (1, [.ref qw, .int (bI on), .int lf, .int (nI dn)])), (qw, .inl (cyI, 512, .inl w))]) [3, 4] rfl
      have hKc := hK.sub (tys' := [(cyI, .int), (cyZ, .boolean)]) [0, 1] rfl
      refine vp_callSi (va_Run.run (va_runV (As := [.int (nI k)]) (rest := []) ⟨hx, hb, hml, hown, hts⟩ (c_X2_partOf l dC dI cyI cyZ qd qw w on lf dn k (by omega)) (cwV 1 hts gX0_firstBlock_X2_partOf rfl rfl rfl (by decide +kernel) ⟨Nat.le_of_ble_eq_true rfl, Nat.le_of_ble_eq_true rfl⟩) ⟨zz_blR, va_recv hKc hPc (ci := 1) (q0 := 0) rfl rfl, fun U hU hW => ⟨rfl, by rw [hU]; exact hPc, va_K.moved hW.alike hKc⟩⟩ rfl rfl hl.1 rfl (lv_room (Nat.le_of_ble_eq_true rfl)) dX0_firstBlock_21 ⟨Nat.zero_le _, Nat.zero_le _⟩)) (fun r_21 hr_21 => ?_)
      have hr_21 : r_21 = kPart w k := hr_21
      subst hr_21
      refine lv_if_ne (tgt := 41) hx hb dX0_firstBlock_24 (by decide) (fun c_24 => ?_) (fun c_24 => ?_)
      ·
        refine lv_iinc (v := nI (k + 1)) (lv' := [(2, .int (nI (k + 1))), (0, .ref qc), (1, .int ky)]) hx hb dX0_firstBlock_41 hl (k := 2) rfl (nI_add k 1) (by decide) rfl (fun ls hl => ?_)
        refine lv_goto (tgt := 2) hx hb dX0_firstBlock_44 (by decide) ?_
        exact ih2 (k + 1) _ ⟨by omega, lt_step hj (by first | exact b_and_f1 c_13 | exact b_and_f2 (b_and_f1 (d_f c_24)) | exact b_and_f2 (b_and_f2 (d_f c_36))), lv_sub hl [1, 2, 0] rfl⟩ (by first | omega | (dsimp only; omega))
      ·
        refine lv_aload_n hx hb dX0_firstBlock_27 rfl (lv_at hl 0 rfl) ?_
        refine va_get (D := (dC, dI)) (ci := 0) (v := .ref qd) (C := RX0) (T := TX0) (N := 4) hx hb hts iwX0 hown hK hP 0 rfl rfl 0 (by decide) fk22 (fun _ h9 => h9) rfl dX0_firstBlock_28 ?_
        refine lv_iload_n hx hb dX0_firstBlock_31 rfl (lv_at hl 2 rfl) ?_
        have hPc := hP.sub (ws' := [(qd, .inr (1, [.ref qw, .int (bI on), .int lf, .int (nI dn)])), (qw, .inl (cyI, 512, .inl w))]) [3, 4] rfl
        have hKc := hK.sub (tys' := [(cyI, .int), (cyZ, .boolean)]) [0, 1] rfl
        refine vp_callSi (va_Run.run (va_runV (As := [.int (nI k)]) (rest := []) ⟨hx, hb, hml, hown, hts⟩ (c_X2_keyOf l dC dI cyI cyZ qd qw w on lf dn k (by omega)) (cwV 1 hts gX0_firstBlock_X2_keyOf rfl rfl rfl (by decide +kernel) ⟨Nat.le_of_ble_eq_true rfl, Nat.le_of_ble_eq_true rfl⟩) ⟨zz_blR, va_recv hKc hPc (ci := 1) (q0 := 0) rfl rfl, fun U hU hW => ⟨rfl, by rw [hU]; exact hPc, va_K.moved hW.alike hKc⟩⟩ rfl rfl hl.1 rfl (lv_room (Nat.le_of_ble_eq_true rfl)) dX0_firstBlock_32 ⟨Nat.zero_le _, Nat.zero_le _⟩)) (fun r_32 hr_32 => ?_)
        have hr_32 : r_32 = kKey w k := hr_32
        subst hr_32
        refine lv_iload_n hx hb dX0_firstBlock_35 rfl (lv_at hl 1 rfl) ?_
        refine lv_icmp_ne (tgt := 41) hx hb dX0_firstBlock_36 (by decide) (fun c_36 => ?_) (fun c_36 => ?_)
        ·
          refine lv_iinc (v := nI (k + 1)) (lv' := [(2, .int (nI (k + 1))), (0, .ref qc), (1, .int ky)]) hx hb dX0_firstBlock_41 hl (k := 2) rfl (nI_add k 1) (by decide) rfl (fun ls hl => ?_)
          refine lv_goto (tgt := 2) hx hb dX0_firstBlock_44 (by decide) ?_
          exact ih2 (k + 1) _ ⟨by omega, lt_step hj (by first | exact b_and_f1 c_13 | exact b_and_f2 (b_and_f1 (d_f c_24)) | exact b_and_f2 (b_and_f2 (d_f c_36))), lv_sub hl [1, 2, 0] rfl⟩ (by first | omega | (dsimp only; omega))
        ·
          refine lv_iload_n hx hb dX0_firstBlock_39 rfl (lv_at hl 2 rfl) ?_
          have hret : nI k = zFI (zFst (kIs L w ky) 64) 64 := zFI_y (by omega) (b_and_t c_13 (b_and_t (d_t c_24) (d_t c_36))) hj
          refine zz_top hret ?_
          exact W.iret hx hb hr (fun tS ht hW => ⟨_, rfl, rfl, ht⟩) (fun _ h => nomatch h) dX0_firstBlock_40
set_option maxHeartbeats 4000000 in
set_option maxRecDepth 100000 in
theorem c_X0_countTextsBelow (l : Launch) (dC : Nat → ClassId) (dI : Nat → Nat → Nat) (cyI cyZ : ClassId) (qc qwh qlv qd qw : Nat) (WH LV : Nat → Int32) (sa : Int32) (w : Nat → Int32) (on : Bool) (lf : Int32) (dn : Nat) (L : Nat → Bool) (ky : Int32) (HL : ∀ j, j < 64 → LV j = bI (L j)) : Met l yX0_countTextsBelow wsX0_countTextsBelow ({ frames := 3, cells := 0, slots := 0, locals := 64 }) (va_Pc [.ref qc, .int ky] (fun U => va_P (dC, dI) vwCl [(qc, .inr (0, [.ref qd, .ref qwh, .ref qlv, .int sa])), (qwh, .inl (cyZ, 64, .inl WH)), (qlv, .inl (cyZ, 64, .inl LV)), (qd, .inr (1, [.ref qw, .int (bI on), .int lf, .int (nI dn)])), (qw, .inl (cyI, 512, .inl w))] U.heap ∧ va_K (dC, dI) vwCl [(cyI, .int), (cyZ, .boolean)] U)) (vp_Si (fun r => r = nI (kBelow L w ky))) 0 0 (fun _ => False) := by
  refine Met.ofW (cc := cX0_countTextsBelow) (maxL := 4) (ret := (some .int)) (by decide) rfl ?_
  intro pz ez sS mM args below meth cC s₁ B hml hv
  obtain ⟨rfl, hP, hK⟩ := hv
  have hx := B.exec
  have hb := B.bytes
  have hr := B.returns
  have hts := atoms_spec (ws := wsX0_countTextsBelow) B.pre
  have hown : sS.vm.findClass RX0 = some mM.cls := findClass_of_methodNamed B.named
  have hlocks := B.notSynchronized
  have iwX0 : ∀ w ∈ wsX00, w ∈ wsX0_countTextsBelow := by decide +kernel
  have fk22 := hts (.fieldLink RX0 22 "CodedStore$Catalog" "disk" "LCodedStore$Disk;") (by decide +kernel)
  have hl := lv_entry ([.ref qc, .int ky]) (n := 4) (Nat.le_of_ble_eq_true rfl)
  rw [lg_entry_eq]
  generalize (lg_sl ([.ref qc, .int ky]) ++ List.replicate (4 - (lg_sl ([.ref qc, .int ky])).length) Slot.unset).toArray = ls at hl ⊢
  have hl : lv_has ls 4 [(0, .ref qc), (1, .int ky)] := hl
  refine lv_iconst (v := nI 0) hx hb dX0_countTextsBelow_0 (by decide) ?_
  refine lv_istore_n (lv' := [(2, .int (nI 0)), (0, .ref qc), (1, .int ky)]) hx hb dX0_countTextsBelow_1 rfl hl (by decide) rfl (fun ls hl => ?_)
  refine lv_iconst (v := nI 0) hx hb dX0_countTextsBelow_2 (by decide) ?_
  refine lv_istore_n (lv' := [(3, .int (nI 0)), (2, .int (nI 0)), (0, .ref qc), (1, .int ky)]) hx hb dX0_countTextsBelow_3 rfl hl (by decide) rfl (fun ls hl => ?_)
  refine zz_loopR (pc := 4) (μ := fun (k : Nat) => 64 - k) (Inv := fun (k : Nat) (ls : Array Slot) => (k ≤ 64) ∧ lv_has ls 4 [(0, .ref qc), (1, .int ky), (2, .int (nI (fb_ct (kTB L w ky) k))), (3, .int (nI k))]) (x0 := (0)) ⟨by omega, lv_sub hl [2, 3, 1, 0] rfl⟩ ?_
  intro k ls hI ih4
  obtain ⟨hk, hl⟩ := hI
  have hl : lv_has ls 4 [(0, .ref qc), (1, .int ky), (2, .int (nI (fb_ct (kTB L w ky) k))), (3, .int (nI k))] := hl
  have hk : k ≤ 64 := hk
  refine lv_iload_n hx hb dX0_countTextsBelow_4 rfl (lv_at hl 3 rfl) ?_
  refine lv_bipush (v := nI 64) hx hb dX0_countTextsBelow_5 (by decide) ?_
  refine zn_icmp_ge (tgt := 39) hx hb dX0_countTextsBelow_7 (by decide) (by omega) (by omega) (fun c_7 => ?_) (fun c_7 => ?_)
  ·
    refine lv_iload_n hx hb dX0_countTextsBelow_39 rfl (lv_at hl 2 rfl) ?_
    have hret : nI (fb_ct (kTB L w ky) k) = nI (kBelow L w ky) := by rw [show k = 64 by omega]; rfl
    refine zz_top hret ?_
    exact W.iret hx hb hr (fun tS ht hW => ⟨_, rfl, rfl, ht⟩) (fun _ h => nomatch h) dX0_countTextsBelow_40
  ·
    refine lv_aload_n hx hb dX0_countTextsBelow_10 rfl (lv_at hl 0 rfl) ?_
    refine lv_iload_n hx hb dX0_countTextsBelow_11 rfl (lv_at hl 3 rfl) ?_
    have hPc := hP.sub (ws' := [(qc, .inr (0, [.ref qd, .ref qwh, .ref qlv, .int sa])), (qwh, .inl (cyZ, 64, .inl WH)), (qlv, .inl (cyZ, 64, .inl LV)), (qd, .inr (1, [.ref qw, .int (bI on), .int lf, .int (nI dn)])), (qw, .inl (cyI, 512, .inl w))]) [0, 1, 2, 3, 4] rfl
    have hKc := hK.sub (tys' := [(cyI, .int), (cyZ, .boolean)]) [0, 1] rfl
    refine vp_callSi (va_Run.run (va_runV (As := [.int (nI k)]) (rest := []) ⟨hx, hb, hml, hown, hts⟩ (c_X0_isText l dC dI cyI cyZ qc qwh qlv qd qw WH LV sa w on lf dn L k (by omega) (HL)) (cwV 1 hts gX0_countTextsBelow_X0_isText rfl rfl rfl (by decide +kernel) ⟨Nat.le_of_ble_eq_true rfl, Nat.le_of_ble_eq_true rfl⟩) ⟨zz_blR, va_recv hKc hPc (ci := 0) (q0 := 0) rfl rfl, fun U hU hW => ⟨rfl, by rw [hU]; exact hPc, va_K.moved hW.alike hKc⟩⟩ rfl rfl hl.1 rfl (lv_room (Nat.le_of_ble_eq_true rfl)) dX0_countTextsBelow_12 ⟨Nat.zero_le _, Nat.zero_le _⟩)) (fun r_12 hr_12 => ?_)
    have hr_12 : r_12 = bI (kText L w k) := hr_12
    subst hr_12
    refine zb_if_eq (tgt := 33) hx hb dX0_countTextsBelow_15 (by decide) (fun c_15 => ?_) (fun c_15 => ?_)
    ·
      refine lv_iinc (v := nI (k + 1)) (lv' := [(3, .int (nI (k + 1))), (0, .ref qc), (1, .int ky), (2, .int (nI (fb_ct (kTB L w ky) k)))]) hx hb dX0_countTextsBelow_33 hl (k := 3) rfl (nI_add k 1) (by decide) rfl (fun ls hl => ?_)
      refine lv_goto (tgt := 4) hx hb dX0_countTextsBelow_36 (by decide) ?_
      rw [kct_n (q := kTB L w ky) (k := k) (by first | exact b_and_f1 c_15 | exact b_and_f2 (d_f (Int32.not_lt.mpr c_27)))] at hl
      -- local 2: .int (nI (fb_ct (kTB L w ky) k)) ~ .int (nI (fb_ct (kTB L w ky) (k + 1)))
      exact ih4 (k + 1) _ ⟨by omega, lv_sub hl [1, 2, 3, 0] rfl⟩ (by first | omega | (dsimp only; omega))
    ·
      refine lv_aload_n hx hb dX0_countTextsBelow_18 rfl (lv_at hl 0 rfl) ?_
      refine va_get (D := (dC, dI)) (ci := 0) (v := .ref qd) (C := RX0) (T := TX0) (N := 4) hx hb hts iwX0 hown hK hP 0 rfl rfl 0 (by decide) fk22 (fun _ h9 => h9) rfl dX0_countTextsBelow_19 ?_
      refine lv_iload_n hx hb dX0_countTextsBelow_22 rfl (lv_at hl 3 rfl) ?_
      have hPc := hP.sub (ws' := [(qd, .inr (1, [.ref qw, .int (bI on), .int lf, .int (nI dn)])), (qw, .inl (cyI, 512, .inl w))]) [3, 4] rfl
      have hKc := hK.sub (tys' := [(cyI, .int), (cyZ, .boolean)]) [0, 1] rfl
      refine vp_callSi (va_Run.run (va_runV (As := [.int (nI k)]) (rest := []) ⟨hx, hb, hml, hown, hts⟩ (c_X2_keyOf l dC dI cyI cyZ qd qw w on lf dn k (by omega)) (cwV 1 hts gX0_countTextsBelow_X2_keyOf rfl rfl rfl (by decide +kernel) ⟨Nat.le_of_ble_eq_true rfl, Nat.le_of_ble_eq_true rfl⟩) ⟨zz_blR, va_recv hKc hPc (ci := 1) (q0 := 0) rfl rfl, fun U hU hW => ⟨rfl, by rw [hU]; exact hPc, va_K.moved hW.alike hKc⟩⟩ rfl rfl hl.1 rfl (lv_room (Nat.le_of_ble_eq_true rfl)) dX0_countTextsBelow_23 ⟨Nat.zero_le _, Nat.zero_le _⟩)) (fun r_23 hr_23 => ?_)
      have hr_23 : r_23 = kKey w k := hr_23
      subst hr_23
      refine lv_iload_n hx hb dX0_countTextsBelow_26 rfl (lv_at hl 1 rfl) ?_
      refine lv_icmp_ge (tgt := 33) hx hb dX0_countTextsBelow_27 (by decide) (fun c_27 => ?_) (fun c_27 => ?_)
      ·
        refine lv_iinc (v := nI (k + 1)) (lv' := [(3, .int (nI (k + 1))), (0, .ref qc), (1, .int ky), (2, .int (nI (fb_ct (kTB L w ky) k)))]) hx hb dX0_countTextsBelow_33 hl (k := 3) rfl (nI_add k 1) (by decide) rfl (fun ls hl => ?_)
        refine lv_goto (tgt := 4) hx hb dX0_countTextsBelow_36 (by decide) ?_
        rw [kct_n (q := kTB L w ky) (k := k) (by first | exact b_and_f1 c_15 | exact b_and_f2 (d_f (Int32.not_lt.mpr c_27)))] at hl
        -- local 2: .int (nI (fb_ct (kTB L w ky) k)) ~ .int (nI (fb_ct (kTB L w ky) (k + 1)))
        exact ih4 (k + 1) _ ⟨by omega, lv_sub hl [1, 2, 3, 0] rfl⟩ (by first | omega | (dsimp only; omega))
      ·
        refine lv_iinc (v := nI (fb_ct (kTB L w ky) k + 1)) (lv' := [(2, .int (nI (fb_ct (kTB L w ky) k + 1))), (0, .ref qc), (1, .int ky), (3, .int (nI k))]) hx hb dX0_countTextsBelow_30 hl (k := 2) rfl (nI_add (fb_ct (kTB L w ky) k) 1) (by decide) rfl (fun ls hl => ?_)
        refine lv_iinc (v := nI (k + 1)) (lv' := [(3, .int (nI (k + 1))), (2, .int (nI (fb_ct (kTB L w ky) k + 1))), (0, .ref qc), (1, .int ky)]) hx hb dX0_countTextsBelow_33 hl (k := 3) rfl (nI_add k 1) (by decide) rfl (fun ls hl => ?_)
        refine lv_goto (tgt := 4) hx hb dX0_countTextsBelow_36 (by decide) ?_
        rw [kct_y (q := kTB L w ky) (k := k) (b_and_t c_15 (d_t (Int32.not_le.mp c_27)))] at hl
        -- local 2: .int (nI (fb_ct (kTB L w ky) k + 1)) ~ .int (nI (fb_ct (kTB L w ky) (k + 1)))
        exact ih4 (k + 1) _ ⟨by omega, lv_sub hl [2, 3, 1, 0] rfl⟩ (by first | omega | (dsimp only; omega))
set_option maxHeartbeats 4000000 in
set_option maxRecDepth 100000 in
theorem c_X0_firstBlockOfRank (l : Launch) (dC : Nat → ClassId) (dI : Nat → Nat → Nat) (cyI cyZ : ClassId) (qc qwh qlv qd qw : Nat) (WH LV : Nat → Int32) (sa : Int32) (w : Nat → Int32) (on : Bool) (lf : Int32) (dn : Nat) (L : Nat → Bool) (rk : Int32) (HL : ∀ j, j < 64 → LV j = bI (L j)) : Met l yX0_firstBlockOfRank wsX0_firstBlockOfRank ({ frames := 4, cells := 0, slots := 0, locals := 87 }) (va_Pc [.ref qc, .int rk] (fun U => va_P (dC, dI) vwCl [(qc, .inr (0, [.ref qd, .ref qwh, .ref qlv, .int sa])), (qwh, .inl (cyZ, 64, .inl WH)), (qlv, .inl (cyZ, 64, .inl LV)), (qd, .inr (1, [.ref qw, .int (bI on), .int lf, .int (nI dn)])), (qw, .inl (cyI, 512, .inl w))] U.heap ∧ va_K (dC, dI) vwCl [(cyI, .int), (cyZ, .boolean)] U)) (vp_Si (fun r => r = zFI (zFst (kRank L w rk) 64) 64)) 0 0 (fun _ => False) := by
  refine Met.ofW (cc := cX0_firstBlockOfRank) (maxL := 3) (ret := (some .int)) (by decide) rfl ?_
  intro pz ez sS mM args below meth cC s₁ B hml hv
  obtain ⟨rfl, hP, hK⟩ := hv
  have hx := B.exec
  have hb := B.bytes
  have hr := B.returns
  have hts := atoms_spec (ws := wsX0_firstBlockOfRank) B.pre
  have hown : sS.vm.findClass RX0 = some mM.cls := findClass_of_methodNamed B.named
  have hlocks := B.notSynchronized
  have iwX0 : ∀ w ∈ wsX00, w ∈ wsX0_firstBlockOfRank := by decide +kernel
  have fk22 := hts (.fieldLink RX0 22 "CodedStore$Catalog" "disk" "LCodedStore$Disk;") (by decide +kernel)
  have hl := lv_entry ([.ref qc, .int rk]) (n := 3) (Nat.le_of_ble_eq_true rfl)
  rw [lg_entry_eq]
  generalize (lg_sl ([.ref qc, .int rk]) ++ List.replicate (3 - (lg_sl ([.ref qc, .int rk])).length) Slot.unset).toArray = ls at hl ⊢
  have hl : lv_has ls 3 [(0, .ref qc), (1, .int rk)] := hl
  refine lv_iconst (v := nI 0) hx hb dX0_firstBlockOfRank_0 (by decide) ?_
  refine lv_istore_n (lv' := [(2, .int (nI 0)), (0, .ref qc), (1, .int rk)]) hx hb dX0_firstBlockOfRank_1 rfl hl (by decide) rfl (fun ls hl => ?_)
  refine zz_loopR (pc := 2) (μ := fun (k : Nat) => 64 - k) (Inv := fun (k : Nat) (ls : Array Slot) => (k ≤ 64) ∧ (∀ j, j < k → kRank L w rk j = false) ∧ lv_has ls 3 [(0, .ref qc), (1, .int rk), (2, .int (nI k))]) (x0 := (0)) ⟨by omega, no_lt0, lv_sub hl [1, 2, 0] rfl⟩ ?_
  intro k ls hI ih2
  obtain ⟨hk, hj, hl⟩ := hI
  have hl : lv_has ls 3 [(0, .ref qc), (1, .int rk), (2, .int (nI k))] := hl
  have hk : k ≤ 64 := hk
  have hj : ∀ j, j < k → kRank L w rk j = false := hj
  refine lv_iload_n hx hb dX0_firstBlockOfRank_2 rfl (lv_at hl 2 rfl) ?_
  refine lv_bipush (v := nI 64) hx hb dX0_firstBlockOfRank_3 (by decide) ?_
  refine zn_icmp_ge (tgt := 40) hx hb dX0_firstBlockOfRank_5 (by decide) (by omega) (by omega) (fun c_5 => ?_) (fun c_5 => ?_)
  ·
    refine lv_iconst (v := (-1)) hx hb dX0_firstBlockOfRank_40 (by decide) ?_
    have hret : (-1) = zFI (zFst (kRank L w rk) 64) 64 := zFI_n (fun j h => hj j (by omega))
    refine zz_top hret ?_
    exact W.iret hx hb hr (fun tS ht hW => ⟨_, rfl, rfl, ht⟩) (fun _ h => nomatch h) dX0_firstBlockOfRank_41
  ·
    refine lv_aload_n hx hb dX0_firstBlockOfRank_8 rfl (lv_at hl 0 rfl) ?_
    refine lv_iload_n hx hb dX0_firstBlockOfRank_9 rfl (lv_at hl 2 rfl) ?_
    have hPc := hP.sub (ws' := [(qc, .inr (0, [.ref qd, .ref qwh, .ref qlv, .int sa])), (qwh, .inl (cyZ, 64, .inl WH)), (qlv, .inl (cyZ, 64, .inl LV)), (qd, .inr (1, [.ref qw, .int (bI on), .int lf, .int (nI dn)])), (qw, .inl (cyI, 512, .inl w))]) [0, 1, 2, 3, 4] rfl
    have hKc := hK.sub (tys' := [(cyI, .int), (cyZ, .boolean)]) [0, 1] rfl
    refine vp_callSi (va_Run.run (va_runV (As := [.int (nI k)]) (rest := []) ⟨hx, hb, hml, hown, hts⟩ (c_X0_isText l dC dI cyI cyZ qc qwh qlv qd qw WH LV sa w on lf dn L k (by omega) (HL)) (cwV 1 hts gX0_firstBlockOfRank_X0_isText rfl rfl rfl (by decide +kernel) ⟨Nat.le_of_ble_eq_true rfl, Nat.le_of_ble_eq_true rfl⟩) ⟨zz_blR, va_recv hKc hPc (ci := 0) (q0 := 0) rfl rfl, fun U hU hW => ⟨rfl, by rw [hU]; exact hPc, va_K.moved hW.alike hKc⟩⟩ rfl rfl hl.1 rfl (lv_room (Nat.le_of_ble_eq_true rfl)) dX0_firstBlockOfRank_10 ⟨Nat.zero_le _, Nat.zero_le _⟩)) (fun r_10 hr_10 => ?_)
    have hr_10 : r_10 = bI (kText L w k) := hr_10
    subst hr_10
    refine zb_if_eq (tgt := 34) hx hb dX0_firstBlockOfRank_13 (by decide) (fun c_13 => ?_) (fun c_13 => ?_)
    ·
      refine lv_iinc (v := nI (k + 1)) (lv' := [(2, .int (nI (k + 1))), (0, .ref qc), (1, .int rk)]) hx hb dX0_firstBlockOfRank_34 hl (k := 2) rfl (nI_add k 1) (by decide) rfl (fun ls hl => ?_)
      refine lv_goto (tgt := 2) hx hb dX0_firstBlockOfRank_37 (by decide) ?_
      exact ih2 (k + 1) _ ⟨by omega, lt_step hj (by first | exact b_and_f1 c_13 | exact b_and_f2 (d_f c_29)), lv_sub hl [1, 2, 0] rfl⟩ (by first | omega | (dsimp only; omega))
    ·
      refine lv_aload_n hx hb dX0_firstBlockOfRank_16 rfl (lv_at hl 0 rfl) ?_
      refine lv_aload_n hx hb dX0_firstBlockOfRank_17 rfl (lv_at hl 0 rfl) ?_
      refine va_get (D := (dC, dI)) (ci := 0) (v := .ref qd) (C := RX0) (T := TX0) (N := 4) hx hb hts iwX0 hown hK hP 0 rfl rfl 0 (by decide) fk22 (fun _ h9 => h9) rfl dX0_firstBlockOfRank_18 ?_
      refine lv_iload_n hx hb dX0_firstBlockOfRank_21 rfl (lv_at hl 2 rfl) ?_
      have hPc := hP.sub (ws' := [(qd, .inr (1, [.ref qw, .int (bI on), .int lf, .int (nI dn)])), (qw, .inl (cyI, 512, .inl w))]) [3, 4] rfl
      have hKc := hK.sub (tys' := [(cyI, .int), (cyZ, .boolean)]) [0, 1] rfl
      refine vp_callSi (va_Run.run (va_runV (As := [.int (nI k)]) (rest := [.ref qc]) ⟨hx, hb, hml, hown, hts⟩ (c_X2_keyOf l dC dI cyI cyZ qd qw w on lf dn k (by omega)) (cwV 1 hts gX0_firstBlockOfRank_X2_keyOf rfl rfl rfl (by decide +kernel) ⟨Nat.le_of_ble_eq_true rfl, Nat.le_of_ble_eq_true rfl⟩) ⟨zz_blR, va_recv hKc hPc (ci := 1) (q0 := 0) rfl rfl, fun U hU hW => ⟨rfl, by rw [hU]; exact hPc, va_K.moved hW.alike hKc⟩⟩ rfl rfl hl.1 rfl (lv_room (Nat.le_of_ble_eq_true rfl)) dX0_firstBlockOfRank_22 ⟨Nat.zero_le _, Nat.zero_le _⟩)) (fun r_22 hr_22 => ?_)
      have hr_22 : r_22 = kKey w k := hr_22
      subst hr_22
      have hPc := hP.sub (ws' := [(qc, .inr (0, [.ref qd, .ref qwh, .ref qlv, .int sa])), (qwh, .inl (cyZ, 64, .inl WH)), (qlv, .inl (cyZ, 64, .inl LV)), (qd, .inr (1, [.ref qw, .int (bI on), .int lf, .int (nI dn)])), (qw, .inl (cyI, 512, .inl w))]) [0, 1, 2, 3, 4] rfl
      have hKc := hK.sub (tys' := [(cyI, .int), (cyZ, .boolean)]) [0, 1] rfl
      refine vp_callSi (va_Run.run (va_runV (As := [.int (kKey w k)]) (rest := []) ⟨hx, hb, hml, hown, hts⟩ (c_X0_countTextsBelow l dC dI cyI cyZ qc qwh qlv qd qw WH LV sa w on lf dn L (kKey w k) (HL)) (cwV 1 hts gX0_firstBlockOfRank_X0_countTextsBelow rfl rfl rfl (by decide +kernel) ⟨Nat.le_of_ble_eq_true rfl, Nat.le_of_ble_eq_true rfl⟩) ⟨zz_blR, va_recv hKc hPc (ci := 0) (q0 := 0) rfl rfl, fun U hU hW => ⟨rfl, by rw [hU]; exact hPc, va_K.moved hW.alike hKc⟩⟩ rfl rfl hl.1 rfl (lv_room (Nat.le_of_ble_eq_true rfl)) dX0_firstBlockOfRank_25 ⟨Nat.zero_le _, Nat.zero_le _⟩)) (fun r_25 hr_25 => ?_)
      have hr_25 : r_25 = nI (kBelow L w (kKey w k)) := hr_25
      subst hr_25
      refine lv_iload_n hx hb dX0_firstBlockOfRank_28 rfl (lv_at hl 1 rfl) ?_
      refine lv_icmp_ne (tgt := 34) hx hb dX0_firstBlockOfRank_29 (by decide) (fun c_29 => ?_) (fun c_29 => ?_)
      ·
        refine lv_iinc (v := nI (k + 1)) (lv' := [(2, .int (nI (k + 1))), (0, .ref qc), (1, .int rk)]) hx hb dX0_firstBlockOfRank_34 hl (k := 2) rfl (nI_add k 1) (by decide) rfl (fun ls hl => ?_)
        refine lv_goto (tgt := 2) hx hb dX0_firstBlockOfRank_37 (by decide) ?_
        exact ih2 (k + 1) _ ⟨by omega, lt_step hj (by first | exact b_and_f1 c_13 | exact b_and_f2 (d_f c_29)), lv_sub hl [1, 2, 0] rfl⟩ (by first | omega | (dsimp only; omega))
      ·
        refine lv_iload_n hx hb dX0_firstBlockOfRank_32 rfl (lv_at hl 2 rfl) ?_
        have hret : nI k = zFI (zFst (kRank L w rk) 64) 64 := zFI_y (by omega) (b_and_t c_13 (d_t c_29)) hj
        refine zz_top hret ?_
        exact W.iret hx hb hr (fun tS ht hW => ⟨_, rfl, rfl, ht⟩) (fun _ h => nomatch h) dX0_firstBlockOfRank_33
set_option maxHeartbeats 4000000 in
set_option maxRecDepth 100000 in
theorem c_X0_countTexts (l : Launch) (dC : Nat → ClassId) (dI : Nat → Nat → Nat) (cyI cyZ : ClassId) (qc qwh qlv qd qw : Nat) (WH LV : Nat → Int32) (sa : Int32) (w : Nat → Int32) (on : Bool) (lf : Int32) (dn : Nat) (L : Nat → Bool) (HL : ∀ j, j < 64 → LV j = bI (L j)) : Met l yX0_countTexts wsX0_countTexts ({ frames := 3, cells := 0, slots := 0, locals := 64 }) (va_Pc [.ref qc] (fun U => va_P (dC, dI) vwCl [(qc, .inr (0, [.ref qd, .ref qwh, .ref qlv, .int sa])), (qwh, .inl (cyZ, 64, .inl WH)), (qlv, .inl (cyZ, 64, .inl LV)), (qd, .inr (1, [.ref qw, .int (bI on), .int lf, .int (nI dn)])), (qw, .inl (cyI, 512, .inl w))] U.heap ∧ va_K (dC, dI) vwCl [(cyI, .int), (cyZ, .boolean)] U)) (vp_Si (fun r => r = nI (fb_ct (kText L w) 64))) 0 0 (fun _ => False) := by
  refine Met.ofW (cc := cX0_countTexts) (maxL := 3) (ret := (some .int)) (by decide) rfl ?_
  intro pz ez sS mM args below meth cC s₁ B hml hv
  obtain ⟨rfl, hP, hK⟩ := hv
  have hx := B.exec
  have hb := B.bytes
  have hr := B.returns
  have hts := atoms_spec (ws := wsX0_countTexts) B.pre
  have hown : sS.vm.findClass RX0 = some mM.cls := findClass_of_methodNamed B.named
  have hlocks := B.notSynchronized
  have hl := lv_entry ([.ref qc]) (n := 3) (Nat.le_of_ble_eq_true rfl)
  rw [lg_entry_eq]
  generalize (lg_sl ([.ref qc]) ++ List.replicate (3 - (lg_sl ([.ref qc])).length) Slot.unset).toArray = ls at hl ⊢
  have hl : lv_has ls 3 [(0, .ref qc)] := hl
  refine lv_iconst (v := nI 0) hx hb dX0_countTexts_0 (by decide) ?_
  refine lv_istore_n (lv' := [(1, .int (nI 0)), (0, .ref qc)]) hx hb dX0_countTexts_1 rfl hl (by decide) rfl (fun ls hl => ?_)
  refine lv_iconst (v := nI 0) hx hb dX0_countTexts_2 (by decide) ?_
  refine lv_istore_n (lv' := [(2, .int (nI 0)), (1, .int (nI 0)), (0, .ref qc)]) hx hb dX0_countTexts_3 rfl hl (by decide) rfl (fun ls hl => ?_)
  refine zz_loopR (pc := 4) (μ := fun (k : Nat) => 64 - k) (Inv := fun (k : Nat) (ls : Array Slot) => (k ≤ 64) ∧ lv_has ls 3 [(0, .ref qc), (1, .int (nI (fb_ct (kText L w) k))), (2, .int (nI k))]) (x0 := (0)) ⟨by omega, lv_sub hl [2, 1, 0] rfl⟩ ?_
  intro k ls hI ih4
  obtain ⟨hk, hl⟩ := hI
  have hl : lv_has ls 3 [(0, .ref qc), (1, .int (nI (fb_ct (kText L w) k))), (2, .int (nI k))] := hl
  have hk : k ≤ 64 := hk
  refine lv_iload_n hx hb dX0_countTexts_4 rfl (lv_at hl 2 rfl) ?_
  refine lv_bipush (v := nI 64) hx hb dX0_countTexts_5 (by decide) ?_
  refine zn_icmp_ge (tgt := 27) hx hb dX0_countTexts_7 (by decide) (by omega) (by omega) (fun c_7 => ?_) (fun c_7 => ?_)
  ·
    refine lv_iload_n hx hb dX0_countTexts_27 rfl (lv_at hl 1 rfl) ?_
    have hret : nI (fb_ct (kText L w) k) = nI (fb_ct (kText L w) 64) := by rw [show k = 64 by omega]
    refine zz_top hret ?_
    exact W.iret hx hb hr (fun tS ht hW => ⟨_, rfl, rfl, ht⟩) (fun _ h => nomatch h) dX0_countTexts_28
  ·
    refine lv_aload_n hx hb dX0_countTexts_10 rfl (lv_at hl 0 rfl) ?_
    refine lv_iload_n hx hb dX0_countTexts_11 rfl (lv_at hl 2 rfl) ?_
    have hPc := hP.sub (ws' := [(qc, .inr (0, [.ref qd, .ref qwh, .ref qlv, .int sa])), (qwh, .inl (cyZ, 64, .inl WH)), (qlv, .inl (cyZ, 64, .inl LV)), (qd, .inr (1, [.ref qw, .int (bI on), .int lf, .int (nI dn)])), (qw, .inl (cyI, 512, .inl w))]) [0, 1, 2, 3, 4] rfl
    have hKc := hK.sub (tys' := [(cyI, .int), (cyZ, .boolean)]) [0, 1] rfl
    refine vp_callSi (va_Run.run (va_runV (As := [.int (nI k)]) (rest := []) ⟨hx, hb, hml, hown, hts⟩ (c_X0_isText l dC dI cyI cyZ qc qwh qlv qd qw WH LV sa w on lf dn L k (by omega) (HL)) (cwV 1 hts gX0_countTexts_X0_isText rfl rfl rfl (by decide +kernel) ⟨Nat.le_of_ble_eq_true rfl, Nat.le_of_ble_eq_true rfl⟩) ⟨zz_blR, va_recv hKc hPc (ci := 0) (q0 := 0) rfl rfl, fun U hU hW => ⟨rfl, by rw [hU]; exact hPc, va_K.moved hW.alike hKc⟩⟩ rfl rfl hl.1 rfl (lv_room (Nat.le_of_ble_eq_true rfl)) dX0_countTexts_12 ⟨Nat.zero_le _, Nat.zero_le _⟩)) (fun r_12 hr_12 => ?_)
    have hr_12 : r_12 = bI (kText L w k) := hr_12
    subst hr_12
    refine zb_if_eq (tgt := 21) hx hb dX0_countTexts_15 (by decide) (fun c_15 => ?_) (fun c_15 => ?_)
    ·
      refine lv_iinc (v := nI (k + 1)) (lv' := [(2, .int (nI (k + 1))), (0, .ref qc), (1, .int (nI (fb_ct (kText L w) k)))]) hx hb dX0_countTexts_21 hl (k := 2) rfl (nI_add k 1) (by decide) rfl (fun ls hl => ?_)
      refine lv_goto (tgt := 4) hx hb dX0_countTexts_24 (by decide) ?_
      rw [kct_n (q := kText L w) (k := k) (c_15)] at hl
      -- local 1: .int (nI (fb_ct (kText L w) k)) ~ .int (nI (fb_ct (kText L w) (k + 1)))
      exact ih4 (k + 1) _ ⟨by omega, lv_sub hl [1, 2, 0] rfl⟩ (by first | omega | (dsimp only; omega))
    ·
      refine lv_iinc (v := nI (fb_ct (kText L w) k + 1)) (lv' := [(1, .int (nI (fb_ct (kText L w) k + 1))), (0, .ref qc), (2, .int (nI k))]) hx hb dX0_countTexts_18 hl (k := 1) rfl (nI_add (fb_ct (kText L w) k) 1) (by decide) rfl (fun ls hl => ?_)
      refine lv_iinc (v := nI (k + 1)) (lv' := [(2, .int (nI (k + 1))), (1, .int (nI (fb_ct (kText L w) k + 1))), (0, .ref qc)]) hx hb dX0_countTexts_21 hl (k := 2) rfl (nI_add k 1) (by decide) rfl (fun ls hl => ?_)
      refine lv_goto (tgt := 4) hx hb dX0_countTexts_24 (by decide) ?_
      rw [kct_y (q := kText L w) (k := k) (c_15)] at hl
      -- local 1: .int (nI (fb_ct (kText L w) k + 1)) ~ .int (nI (fb_ct (kText L w) (k + 1)))
      exact ih4 (k + 1) _ ⟨by omega, lv_sub hl [2, 1, 0] rfl⟩ (by first | omega | (dsimp only; omega))
set_option maxHeartbeats 4000000 in
set_option maxRecDepth 100000 in
theorem c_X0_countLive (l : Launch) (dC : Nat → ClassId) (dI : Nat → Nat → Nat) (cyI cyZ : ClassId) (qc qwh qlv qd : Nat) (WH LV : Nat → Int32) (sa : Int32) (L : Nat → Bool) (HL : ∀ j, j < 64 → LV j = bI (L j)) : Met l yX0_countLive wsX0_countLive ({ frames := 1, cells := 0, slots := 0, locals := 21 }) (va_Pc [.ref qc] (fun U => va_P (dC, dI) vwCl [(qc, .inr (0, [.ref qd, .ref qwh, .ref qlv, .int sa])), (qwh, .inl (cyZ, 64, .inl WH)), (qlv, .inl (cyZ, 64, .inl LV))] U.heap ∧ va_K (dC, dI) vwCl [(cyI, .int), (cyZ, .boolean)] U)) (vp_Si (fun r => r = nI (fb_ct L 64))) 0 0 (fun _ => False) := by
  refine Met.ofW (cc := cX0_countLive) (maxL := 3) (ret := (some .int)) (by decide) rfl ?_
  intro pz ez sS mM args below meth cC s₁ B hml hv
  obtain ⟨rfl, hP, hK⟩ := hv
  have hx := B.exec
  have hb := B.bytes
  have hr := B.returns
  have hts := atoms_spec (ws := wsX0_countLive) B.pre
  have hown : sS.vm.findClass RX0 = some mM.cls := findClass_of_methodNamed B.named
  have hlocks := B.notSynchronized
  have hl := lv_entry ([.ref qc]) (n := 3) (Nat.le_of_ble_eq_true rfl)
  rw [lg_entry_eq]
  generalize (lg_sl ([.ref qc]) ++ List.replicate (3 - (lg_sl ([.ref qc])).length) Slot.unset).toArray = ls at hl ⊢
  have hl : lv_has ls 3 [(0, .ref qc)] := hl
  refine lv_iconst (v := nI 0) hx hb dX0_countLive_0 (by decide) ?_
  refine lv_istore_n (lv' := [(1, .int (nI 0)), (0, .ref qc)]) hx hb dX0_countLive_1 rfl hl (by decide) rfl (fun ls hl => ?_)
  refine lv_iconst (v := nI 0) hx hb dX0_countLive_2 (by decide) ?_
  refine lv_istore_n (lv' := [(2, .int (nI 0)), (1, .int (nI 0)), (0, .ref qc)]) hx hb dX0_countLive_3 rfl hl (by decide) rfl (fun ls hl => ?_)
  refine zz_loopR (pc := 4) (μ := fun (k : Nat) => 64 - k) (Inv := fun (k : Nat) (ls : Array Slot) => (k ≤ 64) ∧ lv_has ls 3 [(0, .ref qc), (1, .int (nI (fb_ct L k))), (2, .int (nI k))]) (x0 := (0)) ⟨by omega, lv_sub hl [2, 1, 0] rfl⟩ ?_
  intro k ls hI ih4
  obtain ⟨hk, hl⟩ := hI
  have hl : lv_has ls 3 [(0, .ref qc), (1, .int (nI (fb_ct L k))), (2, .int (nI k))] := hl
  have hk : k ≤ 64 := hk
  refine lv_iload_n hx hb dX0_countLive_4 rfl (lv_at hl 2 rfl) ?_
  refine lv_bipush (v := nI 64) hx hb dX0_countLive_5 (by decide) ?_
  refine zn_icmp_ge (tgt := 27) hx hb dX0_countLive_7 (by decide) (by omega) (by omega) (fun c_7 => ?_) (fun c_7 => ?_)
  ·
    refine lv_iload_n hx hb dX0_countLive_27 rfl (lv_at hl 1 rfl) ?_
    have hret : nI (fb_ct L k) = nI (fb_ct L 64) := by rw [show k = 64 by omega]
    refine zz_top hret ?_
    exact W.iret hx hb hr (fun tS ht hW => ⟨_, rfl, rfl, ht⟩) (fun _ h => nomatch h) dX0_countLive_28
  ·
    refine lv_aload_n hx hb dX0_countLive_10 rfl (lv_at hl 0 rfl) ?_
    refine lv_iload_n hx hb dX0_countLive_11 rfl (lv_at hl 2 rfl) ?_
    have hPc := hP.sub (ws' := [(qc, .inr (0, [.ref qd, .ref qwh, .ref qlv, .int sa])), (qwh, .inl (cyZ, 64, .inl WH)), (qlv, .inl (cyZ, 64, .inl LV))]) [0, 1, 2] rfl
    have hKc := hK.sub (tys' := [(cyI, .int), (cyZ, .boolean)]) [0, 1] rfl
    refine vp_callSi (va_Run.run (va_runV (As := [.int (nI k)]) (rest := []) ⟨hx, hb, hml, hown, hts⟩ (c_X0_isLive l dC dI cyI cyZ qc qwh qlv qd WH LV sa L k (by omega) (HL)) (cwV 1 hts gX0_countLive_X0_isLive rfl rfl rfl (by decide +kernel) ⟨Nat.le_of_ble_eq_true rfl, Nat.le_of_ble_eq_true rfl⟩) ⟨zz_blR, va_recv hKc hPc (ci := 0) (q0 := 0) rfl rfl, fun U hU hW => ⟨rfl, by rw [hU]; exact hPc, va_K.moved hW.alike hKc⟩⟩ rfl rfl hl.1 rfl (lv_room (Nat.le_of_ble_eq_true rfl)) dX0_countLive_12 ⟨Nat.zero_le _, Nat.zero_le _⟩)) (fun r_12 hr_12 => ?_)
    have hr_12 : r_12 = bI (L k) := hr_12
    subst hr_12
    refine zb_if_eq (tgt := 21) hx hb dX0_countLive_15 (by decide) (fun c_15 => ?_) (fun c_15 => ?_)
    ·
      refine lv_iinc (v := nI (k + 1)) (lv' := [(2, .int (nI (k + 1))), (0, .ref qc), (1, .int (nI (fb_ct L k)))]) hx hb dX0_countLive_21 hl (k := 2) rfl (nI_add k 1) (by decide) rfl (fun ls hl => ?_)
      refine lv_goto (tgt := 4) hx hb dX0_countLive_24 (by decide) ?_
      rw [kct_n (q := L) (k := k) (c_15)] at hl
      -- local 1: .int (nI (fb_ct L k)) ~ .int (nI (fb_ct L (k + 1)))
      exact ih4 (k + 1) _ ⟨by omega, lv_sub hl [1, 2, 0] rfl⟩ (by first | omega | (dsimp only; omega))
    ·
      refine lv_iinc (v := nI (fb_ct L k + 1)) (lv' := [(1, .int (nI (fb_ct L k + 1))), (0, .ref qc), (2, .int (nI k))]) hx hb dX0_countLive_18 hl (k := 1) rfl (nI_add (fb_ct L k) 1) (by decide) rfl (fun ls hl => ?_)
      refine lv_iinc (v := nI (k + 1)) (lv' := [(2, .int (nI (k + 1))), (1, .int (nI (fb_ct L k + 1))), (0, .ref qc)]) hx hb dX0_countLive_21 hl (k := 2) rfl (nI_add k 1) (by decide) rfl (fun ls hl => ?_)
      refine lv_goto (tgt := 4) hx hb dX0_countLive_24 (by decide) ?_
      rw [kct_y (q := L) (k := k) (c_15)] at hl
      -- local 1: .int (nI (fb_ct L k + 1)) ~ .int (nI (fb_ct L (k + 1)))
      exact ih4 (k + 1) _ ⟨by omega, lv_sub hl [2, 1, 0] rfl⟩ (by first | omega | (dsimp only; omega))
set_option maxHeartbeats 4000000 in
set_option maxRecDepth 100000 in
theorem c_X0_countLiveGraves (l : Launch) (dC : Nat → ClassId) (dI : Nat → Nat → Nat) (cyI cyZ : ClassId) (qc qwh qlv qd qw : Nat) (WH LV : Nat → Int32) (sa : Int32) (w : Nat → Int32) (on : Bool) (lf : Int32) (dn : Nat) (L : Nat → Bool) (HL : ∀ j, j < 64 → LV j = bI (L j)) : Met l yX0_countLiveGraves wsX0_countLiveGraves ({ frames := 3, cells := 0, slots := 0, locals := 64 }) (va_Pc [.ref qc] (fun U => va_P (dC, dI) vwCl [(qc, .inr (0, [.ref qd, .ref qwh, .ref qlv, .int sa])), (qwh, .inl (cyZ, 64, .inl WH)), (qlv, .inl (cyZ, 64, .inl LV)), (qd, .inr (1, [.ref qw, .int (bI on), .int lf, .int (nI dn)])), (qw, .inl (cyI, 512, .inl w))] U.heap ∧ va_K (dC, dI) vwCl [(cyI, .int), (cyZ, .boolean)] U)) (vp_Si (fun r => r = nI (fb_ct (kGrave L w) 64))) 0 0 (fun _ => False) := by
  refine Met.ofW (cc := cX0_countLiveGraves) (maxL := 3) (ret := (some .int)) (by decide) rfl ?_
  intro pz ez sS mM args below meth cC s₁ B hml hv
  obtain ⟨rfl, hP, hK⟩ := hv
  have hx := B.exec
  have hb := B.bytes
  have hr := B.returns
  have hts := atoms_spec (ws := wsX0_countLiveGraves) B.pre
  have hown : sS.vm.findClass RX0 = some mM.cls := findClass_of_methodNamed B.named
  have hlocks := B.notSynchronized
  have hl := lv_entry ([.ref qc]) (n := 3) (Nat.le_of_ble_eq_true rfl)
  rw [lg_entry_eq]
  generalize (lg_sl ([.ref qc]) ++ List.replicate (3 - (lg_sl ([.ref qc])).length) Slot.unset).toArray = ls at hl ⊢
  have hl : lv_has ls 3 [(0, .ref qc)] := hl
  refine lv_iconst (v := nI 0) hx hb dX0_countLiveGraves_0 (by decide) ?_
  refine lv_istore_n (lv' := [(1, .int (nI 0)), (0, .ref qc)]) hx hb dX0_countLiveGraves_1 rfl hl (by decide) rfl (fun ls hl => ?_)
  refine lv_iconst (v := nI 0) hx hb dX0_countLiveGraves_2 (by decide) ?_
  refine lv_istore_n (lv' := [(2, .int (nI 0)), (1, .int (nI 0)), (0, .ref qc)]) hx hb dX0_countLiveGraves_3 rfl hl (by decide) rfl (fun ls hl => ?_)
  refine zz_loopR (pc := 4) (μ := fun (k : Nat) => 64 - k) (Inv := fun (k : Nat) (ls : Array Slot) => (k ≤ 64) ∧ lv_has ls 3 [(0, .ref qc), (1, .int (nI (fb_ct (kGrave L w) k))), (2, .int (nI k))]) (x0 := (0)) ⟨by omega, lv_sub hl [2, 1, 0] rfl⟩ ?_
  intro k ls hI ih4
  obtain ⟨hk, hl⟩ := hI
  have hl : lv_has ls 3 [(0, .ref qc), (1, .int (nI (fb_ct (kGrave L w) k))), (2, .int (nI k))] := hl
  have hk : k ≤ 64 := hk
  refine lv_iload_n hx hb dX0_countLiveGraves_4 rfl (lv_at hl 2 rfl) ?_
  refine lv_bipush (v := nI 64) hx hb dX0_countLiveGraves_5 (by decide) ?_
  refine zn_icmp_ge (tgt := 27) hx hb dX0_countLiveGraves_7 (by decide) (by omega) (by omega) (fun c_7 => ?_) (fun c_7 => ?_)
  ·
    refine lv_iload_n hx hb dX0_countLiveGraves_27 rfl (lv_at hl 1 rfl) ?_
    have hret : nI (fb_ct (kGrave L w) k) = nI (fb_ct (kGrave L w) 64) := by rw [show k = 64 by omega]
    refine zz_top hret ?_
    exact W.iret hx hb hr (fun tS ht hW => ⟨_, rfl, rfl, ht⟩) (fun _ h => nomatch h) dX0_countLiveGraves_28
  ·
    refine lv_aload_n hx hb dX0_countLiveGraves_10 rfl (lv_at hl 0 rfl) ?_
    refine lv_iload_n hx hb dX0_countLiveGraves_11 rfl (lv_at hl 2 rfl) ?_
    have hPc := hP.sub (ws' := [(qc, .inr (0, [.ref qd, .ref qwh, .ref qlv, .int sa])), (qwh, .inl (cyZ, 64, .inl WH)), (qlv, .inl (cyZ, 64, .inl LV)), (qd, .inr (1, [.ref qw, .int (bI on), .int lf, .int (nI dn)])), (qw, .inl (cyI, 512, .inl w))]) [0, 1, 2, 3, 4] rfl
    have hKc := hK.sub (tys' := [(cyI, .int), (cyZ, .boolean)]) [0, 1] rfl
    refine vp_callSi (va_Run.run (va_runV (As := [.int (nI k)]) (rest := []) ⟨hx, hb, hml, hown, hts⟩ (c_X0_isLiveGrave l dC dI cyI cyZ qc qwh qlv qd qw WH LV sa w on lf dn L k (by omega) (HL)) (cwV 1 hts gX0_countLiveGraves_X0_isLiveGrave rfl rfl rfl (by decide +kernel) ⟨Nat.le_of_ble_eq_true rfl, Nat.le_of_ble_eq_true rfl⟩) ⟨zz_blR, va_recv hKc hPc (ci := 0) (q0 := 0) rfl rfl, fun U hU hW => ⟨rfl, by rw [hU]; exact hPc, va_K.moved hW.alike hKc⟩⟩ rfl rfl hl.1 rfl (lv_room (Nat.le_of_ble_eq_true rfl)) dX0_countLiveGraves_12 ⟨Nat.zero_le _, Nat.zero_le _⟩)) (fun r_12 hr_12 => ?_)
    have hr_12 : r_12 = bI (kGrave L w k) := hr_12
    subst hr_12
    refine zb_if_eq (tgt := 21) hx hb dX0_countLiveGraves_15 (by decide) (fun c_15 => ?_) (fun c_15 => ?_)
    ·
      refine lv_iinc (v := nI (k + 1)) (lv' := [(2, .int (nI (k + 1))), (0, .ref qc), (1, .int (nI (fb_ct (kGrave L w) k)))]) hx hb dX0_countLiveGraves_21 hl (k := 2) rfl (nI_add k 1) (by decide) rfl (fun ls hl => ?_)
      refine lv_goto (tgt := 4) hx hb dX0_countLiveGraves_24 (by decide) ?_
      rw [kct_n (q := kGrave L w) (k := k) (c_15)] at hl
      -- local 1: .int (nI (fb_ct (kGrave L w) k)) ~ .int (nI (fb_ct (kGrave L w) (k + 1)))
      exact ih4 (k + 1) _ ⟨by omega, lv_sub hl [1, 2, 0] rfl⟩ (by first | omega | (dsimp only; omega))
    ·
      refine lv_iinc (v := nI (fb_ct (kGrave L w) k + 1)) (lv' := [(1, .int (nI (fb_ct (kGrave L w) k + 1))), (0, .ref qc), (2, .int (nI k))]) hx hb dX0_countLiveGraves_18 hl (k := 1) rfl (nI_add (fb_ct (kGrave L w) k) 1) (by decide) rfl (fun ls hl => ?_)
      refine lv_iinc (v := nI (k + 1)) (lv' := [(2, .int (nI (k + 1))), (1, .int (nI (fb_ct (kGrave L w) k + 1))), (0, .ref qc)]) hx hb dX0_countLiveGraves_21 hl (k := 2) rfl (nI_add k 1) (by decide) rfl (fun ls hl => ?_)
      refine lv_goto (tgt := 4) hx hb dX0_countLiveGraves_24 (by decide) ?_
      rw [kct_y (q := kGrave L w) (k := k) (c_15)] at hl
      -- local 1: .int (nI (fb_ct (kGrave L w) k + 1)) ~ .int (nI (fb_ct (kGrave L w) (k + 1)))
      exact ih4 (k + 1) _ ⟨by omega, lv_sub hl [2, 1, 0] rfl⟩ (by first | omega | (dsimp only; omega))
end
section
/-! the coder's numbers: a row t of n octets -/
def zMis (t : Nat → Int32) (i d j : Nat) : Bool := !decide (t (i + j) = t (i + j - d))
def zCap (n i : Nat) : Nat := min 258 (n - i)
/-- how many octets from i on are as those from d before on -/
def zRun (t : Nat → Int32) (n i d : Nat) : Nat := zFst (zMis t i d) (zCap n i)
theorem zRun_le (t : Nat → Int32) (n i d : Nat) : zRun t n i d ≤ zCap n i := zFst_le _ _
/-- the best of the distances 1 .. k: distance, length -/
def zBst (t : Nat → Int32) (n i : Nat) : Nat → Nat × Nat
  | 0 => (0, 0)
  | k + 1 => if (zBst t n i k).2 < zRun t n i (k + 1) then (k + 1, zRun t n i (k + 1)) else zBst t n i k
def zB (t : Nat → Int32) (n i : Nat) : Nat × Nat := zBst t n i (min 256 i)
theorem zBst_le (t : Nat → Int32) (n i : Nat) : ∀ k, (zBst t n i k).2 ≤ zCap n i ∧ (zBst t n i k).1 ≤ k ∧ (0 < (zBst t n i k).2 → 0 < (zBst t n i k).1)
  | 0 => ⟨Nat.zero_le _, Nat.le_refl _, fun h => absurd h (Nat.lt_irrefl _)⟩
  | k + 1 => by
    have h := zBst_le t n i k
    rw [zBst]; split
    · exact ⟨zRun_le _ _ _ _, Nat.le_refl _, fun _ => Nat.succ_pos _⟩
    · exact ⟨h.1, Nat.le_succ_of_le h.2.1, h.2.2⟩
theorem zBst_stop {t : Nat → Int32} {n i k : Nat} (h : zCap n i ≤ (zBst t n i k).2) : ∀ j, zBst t n i (k + j) = zBst t n i k
  | 0 => rfl
  | j + 1 => by
    have ih := zBst_stop h j
    show zBst t n i ((k + j) + 1) = _
    rw [zBst, ih, if_neg]
    have := zRun_le t n i (k + j + 1)
    omega
theorem zB_in (t : Nat → Int32) (n i : Nat) : (zB t n i).2 ≤ zCap n i ∧ (zB t n i).1 ≤ 256 ∧ (zB t n i).1 ≤ i ∧ (0 < (zB t n i).2 → 0 < (zB t n i).1) := by
  have h := zBst_le t n i (min 256 i)
  refine ⟨h.1, ?_, ?_, h.2.2⟩
  · exact Nat.le_trans h.2.1 (Nat.min_le_left _ _)
  · exact Nat.le_trans h.2.1 (Nat.min_le_right _ _)
theorem zcap_le (n i : Nat) : zCap n i ≤ 258 ∧ zCap n i ≤ n - i := ⟨Nat.min_le_left _ _, Nat.min_le_right _ _⟩
/-- the class's answer: the best distance where three octets or more are alike, else 0 -/
def zBD (t : Nat → Int32) (n i : Nat) : Nat := if 3 ≤ (zB t n i).2 then (zB t n i).1 else 0
def zLo (t : Nat → Int32) (n i k : Nat) : Nat := max 2 (zBst t n i k).2
def zBk (t : Nat → Int32) (n i k : Nat) : Nat := if 3 ≤ (zBst t n i k).2 then (zBst t n i k).1 else 0
theorem zBk_y {t : Nat → Int32} {n i k : Nat} (h : zLo t n i k < zRun t n i (k + 1)) : zLo t n i (k + 1) = zRun t n i (k + 1) ∧ zBk t n i (k + 1) = k + 1 := by
  have h1 : (zBst t n i k).2 < zRun t n i (k + 1) := by unfold zLo at h; omega
  unfold zLo at h
  unfold zLo zBk
  rw [zBst, if_pos h1]
  have h3 : 2 < zRun t n i (k + 1) := by omega
  refine ⟨?_, if_pos h3⟩
  show max 2 (zRun t n i (k + 1)) = _
  omega
theorem zBk_n {t : Nat → Int32} {n i k : Nat} (h : zRun t n i (k + 1) ≤ zLo t n i k) : zLo t n i (k + 1) = zLo t n i k ∧ zBk t n i (k + 1) = zBk t n i k := by
  unfold zLo at h
  by_cases h1 : (zBst t n i k).2 < zRun t n i (k + 1)
  · have h2 : zRun t n i (k + 1) ≤ 2 := by omega
    unfold zLo zBk
    rw [zBst, if_pos h1]
    refine ⟨?_, ?_⟩
    · show max 2 (zRun t n i (k + 1)) = _
      omega
    · rw [if_neg (show ¬ 3 ≤ (k + 1, zRun t n i (k + 1)).2 from by show ¬ 3 ≤ zRun t n i (k + 1); omega), if_neg (by omega)]
  · unfold zLo zBk
    rw [zBst, if_neg h1]
    exact ⟨rfl, rfl⟩
theorem zBk_end {t : Nat → Int32} {n i k : Nat} (hk : k ≤ min 256 i) (h : k = min 256 i ∨ zCap n i ≤ zLo t n i k) : zBk t n i k = zBD t n i := by
  rcases h with h | h
  · rw [h]; rfl
  · by_cases h2 : zCap n i ≤ (zBst t n i k).2
    · have e : zB t n i = zBst t n i k := by
        unfold zB
        have := zBst_stop h2 (min 256 i - k)
        rwa [Nat.add_sub_cancel' hk] at this
      unfold zBk zBD; rw [e]
    · unfold zLo at h
      have h3 := (zBst_le t n i k).1
      have h4 := (zB_in t n i).1
      unfold zBk zBD
      rw [if_neg (by omega), if_neg (by omega)]
theorem zBD_0 {t : Nat → Int32} {n i : Nat} : zBD t n i = 0 ↔ ¬ 3 ≤ (zB t n i).2 := by
  unfold zBD
  have := zB_in t n i
  split <;> omega
theorem zBD_p {t : Nat → Int32} {n i : Nat} (h : 3 ≤ (zB t n i).2) : zBD t n i = (zB t n i).1 := if_pos h
theorem zBst_run (t : Nat → Int32) (n i : Nat) : ∀ k, 0 < (zBst t n i k).2 → zRun t n i (zBst t n i k).1 = (zBst t n i k).2
  | 0, h => absurd h (Nat.lt_irrefl _)
  | k + 1, h => by
    rw [zBst] at h ⊢
    split
    · rfl
    · rename_i q; rw [if_neg q] at h; exact zBst_run t n i k h
/-- the coder: fuel, place, how many are out, the flag's place, items, what is out -/
def eF (t : Nat → Int32) (n : Nat) : Nat → Nat → Nat → Nat → Nat → (Nat → Int32) → Nat × (Nat → Int32)
  | 0, _, m, _, _, o => (m, o)
  | f + 1, i, m, g, k, o =>
    if i < n then
      if 3 ≤ (zB t n i).2 then
        eF t n f (i + (zB t n i).2) ((if k % 8 = 0 then m + 1 else m) + 2) (if k % 8 = 0 then m else g) (k + 1)
          (upd (upd (if k % 8 = 0 then upd o m (nI 0) else o) (if k % 8 = 0 then m + 1 else m) (nI ((zB t n i).1 - 1))) ((if k % 8 = 0 then m + 1 else m) + 1) (nI ((zB t n i).2 - 3)))
      else
        eF t n f (i + 1) ((if k % 8 = 0 then m + 1 else m) + 1) (if k % 8 = 0 then m else g) (k + 1)
          (upd (upd (if k % 8 = 0 then upd o m (nI 0) else o) (if k % 8 = 0 then m else g) ((if k % 8 = 0 then upd o m (nI 0) else o) (if k % 8 = 0 then m else g) ||| (nI 1 <<< (nI (k % 8) &&& 31)))) (if k % 8 = 0 then m + 1 else m) (t i))
    else (m, o)
def zE (t : Nat → Int32) (n : Nat) : Nat × (Nat → Int32) := eF t n n 0 0 0 0 (fun _ => nI 0)
theorem eF_end {t : Nat → Int32} {n f i m g k : Nat} {o : Nat → Int32} (h : n ≤ i) : eF t n f i m g k o = (m, o) := by
  cases f with
  | zero => rfl
  | succ f => rw [eF, if_neg (by omega)]
theorem eF_row0 {t : Nat → Int32} {n f i m g k : Nat} {o : Nat → Int32} (hi : i < n) (hk : k % 8 = 0) (hb : 3 ≤ (zB t n i).2) :
    eF t n (f + 1) i m g k o = eF t n f (i + (zB t n i).2) (m + 3) m (k + 1) (upd (upd (upd o m (nI 0)) (m + 1) (nI ((zB t n i).1 - 1))) (m + 2) (nI ((zB t n i).2 - 3))) := by
  rw [eF, if_pos hi, if_pos hb, if_pos hk, if_pos hk, if_pos hk]
theorem eF_row1 {t : Nat → Int32} {n f i m g k : Nat} {o : Nat → Int32} (hi : i < n) (hk : ¬ k % 8 = 0) (hb : 3 ≤ (zB t n i).2) :
    eF t n (f + 1) i m g k o = eF t n f (i + (zB t n i).2) (m + 2) g (k + 1) (upd (upd o m (nI ((zB t n i).1 - 1))) (m + 1) (nI ((zB t n i).2 - 3))) := by
  rw [eF, if_pos hi, if_pos hb, if_neg hk, if_neg hk, if_neg hk]
theorem eF_one0 {t : Nat → Int32} {n f i m g k : Nat} {o : Nat → Int32} (hi : i < n) (hk : k % 8 = 0) (hb : ¬ 3 ≤ (zB t n i).2) :
    eF t n (f + 1) i m g k o = eF t n f (i + 1) (m + 2) m (k + 1) (upd (upd (upd o m (nI 0)) m (upd o m (nI 0) m ||| (nI 1 <<< (nI (k % 8) &&& 31)))) (m + 1) (t i)) := by
  rw [eF, if_pos hi, if_neg hb, if_pos hk, if_pos hk, if_pos hk]
theorem eF_one1 {t : Nat → Int32} {n f i m g k : Nat} {o : Nat → Int32} (hi : i < n) (hk : ¬ k % 8 = 0) (hb : ¬ 3 ≤ (zB t n i).2) :
    eF t n (f + 1) i m g k o = eF t n f (i + 1) (m + 1) g (k + 1) (upd (upd o g (o g ||| (nI 1 <<< (nI (k % 8) &&& 31)))) m (t i)) := by
  rw [eF, if_pos hi, if_neg hb, if_neg hk, if_neg hk, if_neg hk]
theorem upd_cong {f g : Nat → Int32} {m k : Nat} {x y : Int32} (h : ∀ j, j < m → f j = g j) (e : x = y) : ∀ j, j < m → upd f k x j = upd g k y j := fun j hj => by
  by_cases q : j = k
  · rw [q, upd_at, upd_at, e]
  · rw [upd_ne q, upd_ne q, h j hj]
theorem upd_new {f g : Nat → Int32} {m : Nat} {x y : Int32} (h : ∀ j, j < m → f j = g j) (e : x = y) : ∀ j, j < m + 1 → upd f m x j = upd g m y j := fun j hj => by
  by_cases q : j = m
  · rw [q, upd_at, upd_at, e]
  · rw [upd_ne q, upd_ne q, h j (by omega)]
theorem zrep_cong {f g : Nat → Int32} {n d : Nat} (hd : 0 < d) (hdn : d ≤ n) (h : ∀ j, j < n → f j = g j) : ∀ (k j : Nat), j < n + k → zrep f n d k j = zrep g n d k j
  | 0, j, hj => h j hj
  | k + 1, j, hj => by
    rw [zrep, zrep]
    by_cases e : j = n + k
    · rw [e, upd_at, upd_at, zrep_cong hd hdn h k _ (by omega)]
    · rw [upd_ne e, upd_ne e, zrep_cong hd hdn h k j (by omega)]
def vN (x : Int32) : Nat := x.toNatClampNeg
theorem zO_vN {x : Int32} (h : zO x) : x = nI (vN x) ∧ vN x < 256 := by
  obtain ⟨y, hy, rfl⟩ := h
  have : vN (nI y) = y := nI_clamp (by omega)
  rw [this]; exact ⟨rfl, hy⟩
/-- the reader: fuel, place, bit (8: a flag is due), the flag's place, how many are out, what is out; 0 or the fault's place + 1 -/
def dF (t : Nat → Int32) (n : Nat) : Nat → Nat → Nat → Nat → Nat → (Nat → Int32) → Nat × Nat × (Nat → Int32)
  | 0, _, _, _, m, o => (0, m, o)
  | f + 1, i, b, g, m, o =>
    if i < n then
      if b = 8 then dF t n f (i + 1) 0 i m o
      else if (t g >>> (nI b &&& 31)) &&& nI 1 = nI 1 then
        if 400 < m + 1 then (i + 1, m, o) else dF t n f (i + 1) (b + 1) g (m + 1) (upd o m (t i))
      else if n ≤ i + 1 then (n + 1, m, o)
      else if m < vN (t i) + 1 ∨ 400 < m + (vN (t (i + 1)) + 3) then (i + 1, m, o)
      else dF t n f (i + 2) (b + 1) g (m + (vN (t (i + 1)) + 3)) (zrep o m (vN (t i) + 1) (vN (t (i + 1)) + 3))
    else if n = 0 then (0, m, o)
    else if b = 0 ∨ ¬ t g >>> (nI b &&& 31) = nI 0 then (g + 1, m, o) else (0, m, o)
def zD (t : Nat → Int32) (n : Nat) : Nat × Nat × (Nat → Int32) := dF t n (n + 1) 0 8 0 0 (fun _ => nI 0)
def zPl (k : Nat) : Int32 := if k = 0 then (-1) else nI (k - 1)
theorem zPl_0 : zPl 0 = (-1) := rfl
theorem zPl_s (k : Nat) : zPl (k + 1) = nI k := by unfold zPl; rw [if_neg (Nat.succ_ne_zero k)]; rfl
theorem zmin {x y : Nat} (hx : x < 2 ^ 31) (hy : y < 2 ^ 31) : (if nI y < nI x then nI y else nI x) = nI (min x y) := by
  by_cases h : y < x
  · rw [if_pos ((nI_ltI hy hx).mpr h)]; congr 1; omega
  · rw [if_neg (fun q => h ((nI_ltI hy hx).mp q))]; congr 1; omega
theorem zBD_pos {t : Nat → Int32} {n i : Nat} (h : 0 < zBD t n i) : 3 ≤ (zB t n i).2 := by
  rcases Nat.lt_or_ge (zB t n i).2 3 with q | q
  · have := zBD_0.mpr (show ¬ 3 ≤ (zB t n i).2 by omega); omega
  · exact q
theorem nI_nm1 {x : Nat} (h : x < 2 ^ 31) : ¬ nI x = (-1) := fun e => absurd (show nI x < 0 by rw [e]; decide) (nI_pos h)
theorem dF_flag {t : Nat → Int32} {n f i g m : Nat} {o : Nat → Int32} (hi : i < n) : dF t n (f + 1) i 8 g m o = dF t n f (i + 1) 0 i m o := by
  rw [dF, if_pos hi, if_pos rfl]
theorem dF_oneB {t : Nat → Int32} {n f i b g m : Nat} {o : Nat → Int32} (hi : i < n) (hb : ¬ b = 8) (h : (t g >>> (nI b &&& 31)) &&& nI 1 = nI 1) (hm : 400 < m + 1) : dF t n (f + 1) i b g m o = (i + 1, m, o) := by
  rw [dF, if_pos hi, if_neg hb, if_pos h, if_pos hm]
theorem dF_one {t : Nat → Int32} {n f i b g m : Nat} {o : Nat → Int32} (hi : i < n) (hb : ¬ b = 8) (h : (t g >>> (nI b &&& 31)) &&& nI 1 = nI 1) (hm : ¬ 400 < m + 1) : dF t n (f + 1) i b g m o = dF t n f (i + 1) (b + 1) g (m + 1) (upd o m (t i)) := by
  rw [dF, if_pos hi, if_neg hb, if_pos h, if_neg hm]
theorem dF_half {t : Nat → Int32} {n f i b g m : Nat} {o : Nat → Int32} (hi : i < n) (hb : ¬ b = 8) (h : ¬ (t g >>> (nI b &&& 31)) &&& nI 1 = nI 1) (hm : n ≤ i + 1) : dF t n (f + 1) i b g m o = (n + 1, m, o) := by
  rw [dF, if_pos hi, if_neg hb, if_neg h, if_pos hm]
theorem dF_rowB {t : Nat → Int32} {n f i b g m : Nat} {o : Nat → Int32} (hi : i < n) (hb : ¬ b = 8) (h : ¬ (t g >>> (nI b &&& 31)) &&& nI 1 = nI 1) (hm : ¬ n ≤ i + 1) (hq : m < vN (t i) + 1 ∨ 400 < m + (vN (t (i + 1)) + 3)) : dF t n (f + 1) i b g m o = (i + 1, m, o) := by
  rw [dF, if_pos hi, if_neg hb, if_neg h, if_neg hm, if_pos hq]
theorem dF_row {t : Nat → Int32} {n f i b g m : Nat} {o : Nat → Int32} (hi : i < n) (hb : ¬ b = 8) (h : ¬ (t g >>> (nI b &&& 31)) &&& nI 1 = nI 1) (hm : ¬ n ≤ i + 1) (hq : ¬ (m < vN (t i) + 1 ∨ 400 < m + (vN (t (i + 1)) + 3))) : dF t n (f + 1) i b g m o = dF t n f (i + 2) (b + 1) g (m + (vN (t (i + 1)) + 3)) (zrep o m (vN (t i) + 1) (vN (t (i + 1)) + 3)) := by
  rw [dF, if_pos hi, if_neg hb, if_neg h, if_neg hm, if_neg hq]
theorem dF_end0 {t : Nat → Int32} {f i b g m : Nat} {o : Nat → Int32} : dF t 0 (f + 1) i b g m o = (0, m, o) := by
  rw [dF, if_neg (Nat.not_lt_zero _), if_pos rfl]
theorem dF_endB {t : Nat → Int32} {n f i b g m : Nat} {o : Nat → Int32} (hi : n ≤ i) (hn : 0 < n) (h : b = 0 ∨ ¬ t g >>> (nI b &&& 31) = nI 0) : dF t n (f + 1) i b g m o = (g + 1, m, o) := by
  rw [dF, if_neg (by omega), if_neg (by omega), if_pos h]
theorem dF_endG {t : Nat → Int32} {n f i b g m : Nat} {o : Nat → Int32} (hi : n ≤ i) (h : ¬ (b = 0 ∨ ¬ t g >>> (nI b &&& 31) = nI 0)) : dF t n (f + 1) i b g m o = (0, m, o) := by
  rw [dF, if_neg (by omega)]
  split
  · rfl
  · first | rfl | rw [if_neg h]
theorem arr_O {F : Nat → Int32} {m : Nat} {x : Int32} (h : ∀ j, j < m → zO (F j)) (hx : zO x) : ∀ j, j < m + 1 → zO (upd F m x j) := fun j hj => by
  by_cases e : j = m
  · rw [e, upd_at]; exact hx
  · rw [upd_ne e]; exact h j (by omega)
theorem zBD_le (t : Nat → Int32) (n i : Nat) : zBD t n i ≤ 256 ∧ zBD t n i ≤ i := by
  have := zB_in t n i
  unfold zBD
  split
  · exact ⟨this.2.1, this.2.2.1⟩
  · omega
end
section
set_option maxHeartbeats 4000000 in
set_option maxRecDepth 100000 in
theorem c_X1_rowLength (l : Launch) (dC : Nat → ClassId) (dI : Nat → Nat → Nat) (cyI cyZ : ClassId) (qo qa : Nat) (t : Nat → Int32) (n i d : Nat) (hn : n ≤ 450) (hi : i < n) (hd0 : 0 < d) (hd1 : d ≤ i) : Met l yX1_rowLength wsX1_rowLength ({ frames := 1, cells := 0, slots := 0, locals := 21 }) (va_Pc [.ref qo, .int (nI i), .int (nI d)] (fun U => va_P (dC, dI) vwCl [(qo, .inr (2, [.ref qa, .int (nI n)])), (qa, .inl (cyI, 450, .inl t))] U.heap ∧ va_K (dC, dI) vwCl [(cyI, .int), (cyZ, .boolean)] U)) (vp_Si (fun r => r = nI (zRun t n i d))) 0 0 (fun _ => False) := by
  refine Met.ofW (cc := cX1_rowLength) (maxL := 5) (ret := (some .int)) (by decide) rfl ?_
  intro pz ez sS mM args below meth cC s₁ B hml hv
  obtain ⟨rfl, hP, hK⟩ := hv
  have hx := B.exec
  have hb := B.bytes
  have hr := B.returns
  have hts := atoms_spec (ws := wsX1_rowLength) B.pre
  have hown : sS.vm.findClass RX1 = some mM.cls := findClass_of_methodNamed B.named
  have hlocks := B.notSynchronized
  have hl := lv_entry ([.ref qo, .int (nI i), .int (nI d)]) (n := 5) (Nat.le_of_ble_eq_true rfl)
  rw [lg_entry_eq]
  generalize (lg_sl ([.ref qo, .int (nI i), .int (nI d)]) ++ List.replicate (5 - (lg_sl ([.ref qo, .int (nI i), .int (nI d)])).length) Slot.unset).toArray = ls at hl ⊢
  have hl : lv_has ls 5 [(0, .ref qo), (1, .int (nI i)), (2, .int (nI d))] := hl
  obtain ⟨zc1, zc2⟩ := zcap_le n i
  refine lv_sipush (v := nI 258) hx hb dX1_rowLength_0 (by decide) ?_
  refine lv_aload_n hx hb dX1_rowLength_3 rfl (lv_at hl 0 rfl) ?_
  have hPc := hP.sub (ws' := [(qo, .inr (2, [.ref qa, .int (nI n)])), (qa, .inl (cyI, 450, .inl t))]) [0, 1] rfl
  have hKc := hK.sub (tys' := [(cyI, .int), (cyZ, .boolean)]) [0, 1] rfl
  refine vp_callSi (va_Run.run (va_runV (As := []) (rest := [.int (nI 258)]) ⟨hx, hb, hml, hown, hts⟩ (c_X3_size l dC dI cyI cyZ qo qa t n) (cwV 0 hts gX1_rowLength_X3_size rfl rfl rfl (by decide +kernel) ⟨Nat.le_of_ble_eq_true rfl, Nat.le_of_ble_eq_true rfl⟩) ⟨zz_blR, va_recv hKc hPc (ci := 2) (q0 := 0) rfl rfl, fun U hU hW => ⟨rfl, by rw [hU]; exact hPc, va_K.moved hW.alike hKc⟩⟩ rfl rfl hl.1 rfl (lv_room (Nat.le_of_ble_eq_true rfl)) dX1_rowLength_4 ⟨Nat.zero_le _, Nat.zero_le _⟩)) (fun r_4 hr_4 => ?_)
  have hr_4 : r_4 = nI n := hr_4
  subst hr_4
  refine lv_iload_n hx hb dX1_rowLength_7 rfl (lv_at hl 1 rfl) ?_
  refine lv_isub hx hb dX1_rowLength_8 ?_
  refine zz_top (pk_sub (a := n) (b := i) (by omega)) ?_
  refine va_mmin hx hb (by rw [hml]; exact hl.1.symm) hown (hts (.methodLink RX1 40 Lib.Math.min.name) (by decide +kernel)) (hts (.static Lib.Math.min.name) (by decide +kernel)) (hts (.initialized "java/lang/Math") (by decide +kernel)) (hts (.code Lib.Math.min.name Lib.Math.min.code 2 (some .int)) (by decide +kernel)) (Nat.le_of_ble_eq_true rfl) (Nat.le_of_ble_eq_true rfl) (Nat.le_of_ble_eq_true rfl) (Nat.le_of_ble_eq_true rfl) dX1_rowLength_9 ?_
  refine zz_top (zmin (by omega) (by omega)) ?_
  refine lv_istore_n (lv' := [(3, .int (nI (zCap n i))), (0, .ref qo), (1, .int (nI i)), (2, .int (nI d))]) hx hb dX1_rowLength_12 rfl hl (by decide) rfl (fun ls hl => ?_)
  refine lv_iconst (v := nI 0) hx hb dX1_rowLength_13 (by decide) ?_
  refine lv_istore (lv' := [(4, .int (nI 0)), (3, .int (nI (zCap n i))), (0, .ref qo), (1, .int (nI i)), (2, .int (nI d))]) hx hb dX1_rowLength_14 hl (by decide) rfl (fun ls hl => ?_)
  refine zz_loopR (pc := 16) (μ := fun (k : Nat) => zCap n i - k) (Inv := fun (k : Nat) (ls : Array Slot) => (k ≤ zCap n i) ∧ (∀ j, j < k → zMis t i d j = false) ∧ lv_has ls 5 [(0, .ref qo), (1, .int (nI i)), (2, .int (nI d)), (3, .int (nI (zCap n i))), (4, .int (nI k))]) (x0 := (0)) ⟨by omega, no_lt0, lv_sub hl [2, 3, 4, 1, 0] rfl⟩ ?_
  intro k ls hI ih16
  obtain ⟨hk, hj, hl⟩ := hI
  have hl : lv_has ls 5 [(0, .ref qo), (1, .int (nI i)), (2, .int (nI d)), (3, .int (nI (zCap n i))), (4, .int (nI k))] := hl
  have hk : k ≤ zCap n i := hk
  have hj : ∀ j, j < k → zMis t i d j = false := hj
  refine lv_iload hx hb dX1_rowLength_16 (lv_at hl 4 rfl) ?_
  refine lv_iload_n hx hb dX1_rowLength_18 rfl (lv_at hl 3 rfl) ?_
  refine zn_icmp_ge (tgt := 52) hx hb dX1_rowLength_19 (by decide) (by omega) (by omega) (fun c_19 => ?_) (fun c_19 => ?_)
  ·
    refine lv_iload_n hx hb dX1_rowLength_52 rfl (lv_at hl 3 rfl) ?_
    have hret : nI (zCap n i) = nI (zRun t n i d) := congrArg nI (zFst_no (fun j h => hj j (by omega))).symm
    refine zz_top hret ?_
    exact W.iret hx hb hr (fun tS ht hW => ⟨_, rfl, rfl, ht⟩) (fun _ h => nomatch h) dX1_rowLength_53
  ·
    refine lv_aload_n hx hb dX1_rowLength_22 rfl (lv_at hl 0 rfl) ?_
    refine lv_iload_n hx hb dX1_rowLength_23 rfl (lv_at hl 1 rfl) ?_
    refine lv_iload hx hb dX1_rowLength_24 (lv_at hl 4 rfl) ?_
    refine lv_iadd hx hb dX1_rowLength_26 ?_
    refine zz_top (nI_add i k) ?_
    have hPc := hP.sub (ws' := [(qo, .inr (2, [.ref qa, .int (nI n)])), (qa, .inl (cyI, 450, .inl t))]) [0, 1] rfl
    have hKc := hK.sub (tys' := [(cyI, .int), (cyZ, .boolean)]) [0, 1] rfl
    refine vp_callSi (va_Run.run (va_runV (As := [.int (nI (i + k))]) (rest := []) ⟨hx, hb, hml, hown, hts⟩ (c_X3_at_in l dC dI cyI cyZ qo qa t n (i + k) (by omega) (by omega)) (cwV 1 hts gX1_rowLength_X3_at rfl rfl rfl (by decide +kernel) ⟨Nat.le_of_ble_eq_true rfl, Nat.le_of_ble_eq_true rfl⟩) ⟨zz_blR, va_recv hKc hPc (ci := 2) (q0 := 0) rfl rfl, fun U hU hW => ⟨rfl, by rw [hU]; exact hPc, va_K.moved hW.alike hKc⟩⟩ rfl rfl hl.1 rfl (lv_room (Nat.le_of_ble_eq_true rfl)) dX1_rowLength_27 ⟨Nat.zero_le _, Nat.zero_le _⟩)) (fun r_27 hr_27 => ?_)
    have hr_27 : r_27 = t (i + k) := hr_27
    subst hr_27
    refine lv_aload_n hx hb dX1_rowLength_30 rfl (lv_at hl 0 rfl) ?_
    refine lv_iload_n hx hb dX1_rowLength_31 rfl (lv_at hl 1 rfl) ?_
    refine lv_iload hx hb dX1_rowLength_32 (lv_at hl 4 rfl) ?_
    refine lv_iadd hx hb dX1_rowLength_34 ?_
    refine zz_top (nI_add i k) ?_
    refine lv_iload_n hx hb dX1_rowLength_35 rfl (lv_at hl 2 rfl) ?_
    refine lv_isub hx hb dX1_rowLength_36 ?_
    refine zz_top (pk_sub (a := i + k) (b := d) (by omega)) ?_
    have hPc := hP.sub (ws' := [(qo, .inr (2, [.ref qa, .int (nI n)])), (qa, .inl (cyI, 450, .inl t))]) [0, 1] rfl
    have hKc := hK.sub (tys' := [(cyI, .int), (cyZ, .boolean)]) [0, 1] rfl
    refine vp_callSi (va_Run.run (va_runV (As := [.int (nI ((i + k) - d))]) (rest := [.int (t (i + k))]) ⟨hx, hb, hml, hown, hts⟩ (c_X3_at_in l dC dI cyI cyZ qo qa t n ((i + k) - d) (by omega) (by omega)) (cwV 1 hts gX1_rowLength_X3_at rfl rfl rfl (by decide +kernel) ⟨Nat.le_of_ble_eq_true rfl, Nat.le_of_ble_eq_true rfl⟩) ⟨zz_blR, va_recv hKc hPc (ci := 2) (q0 := 0) rfl rfl, fun U hU hW => ⟨rfl, by rw [hU]; exact hPc, va_K.moved hW.alike hKc⟩⟩ rfl rfl hl.1 rfl (lv_room (Nat.le_of_ble_eq_true rfl)) dX1_rowLength_37 ⟨Nat.zero_le _, Nat.zero_le _⟩)) (fun r_37 hr_37 => ?_)
    have hr_37 : r_37 = t ((i + k) - d) := hr_37
    subst hr_37
    refine lv_icmp_eq (tgt := 46) hx hb dX1_rowLength_40 (by decide) (fun c_40 => ?_) (fun c_40 => ?_)
    ·
      refine lv_iinc (v := nI (k + 1)) (lv' := [(4, .int (nI (k + 1))), (0, .ref qo), (1, .int (nI i)), (2, .int (nI d)), (3, .int (nI (zCap n i)))]) hx hb dX1_rowLength_46 hl (k := 4) rfl (nI_add k 1) (by decide) rfl (fun ls hl => ?_)
      refine lv_goto (tgt := 16) hx hb dX1_rowLength_49 (by decide) ?_
      exact ih16 (k + 1) _ ⟨by omega, lt_step hj (nd_f c_40), lv_sub hl [1, 2, 3, 4, 0] rfl⟩ (by first | omega | (dsimp only; omega))
    ·
      refine lv_iload hx hb dX1_rowLength_43 (lv_at hl 4 rfl) ?_
      have hret : nI k = nI (zRun t n i d) := congrArg nI (zFst_is (by omega) (nd_t c_40) hj).symm
      refine zz_top hret ?_
      exact W.iret hx hb hr (fun tS ht hW => ⟨_, rfl, rfl, ht⟩) (fun _ h => nomatch h) dX1_rowLength_45
set_option maxHeartbeats 4000000 in
set_option maxRecDepth 100000 in
theorem c_X1_bestDistance (l : Launch) (dC : Nat → ClassId) (dI : Nat → Nat → Nat) (cyI cyZ : ClassId) (qo qa : Nat) (t : Nat → Int32) (n i : Nat) (hn : n ≤ 450) (hi : i < n) : Met l yX1_bestDistance wsX1_bestDistance ({ frames := 2, cells := 0, slots := 0, locals := 45 }) (va_Pc [.ref qo, .int (nI i)] (fun U => va_P (dC, dI) vwCl [(qo, .inr (2, [.ref qa, .int (nI n)])), (qa, .inl (cyI, 450, .inl t))] U.heap ∧ va_K (dC, dI) vwCl [(cyI, .int), (cyZ, .boolean)] U)) (vp_Si (fun r => r = nI (zBD t n i))) 0 0 (fun _ => False) := by
  refine Met.ofW (cc := cX1_bestDistance) (maxL := 7) (ret := (some .int)) (by decide) rfl ?_
  intro pz ez sS mM args below meth cC s₁ B hml hv
  obtain ⟨rfl, hP, hK⟩ := hv
  have hx := B.exec
  have hb := B.bytes
  have hr := B.returns
  have hts := atoms_spec (ws := wsX1_bestDistance) B.pre
  have hown : sS.vm.findClass RX1 = some mM.cls := findClass_of_methodNamed B.named
  have hlocks := B.notSynchronized
  have hl := lv_entry ([.ref qo, .int (nI i)]) (n := 7) (Nat.le_of_ble_eq_true rfl)
  rw [lg_entry_eq]
  generalize (lg_sl ([.ref qo, .int (nI i)]) ++ List.replicate (7 - (lg_sl ([.ref qo, .int (nI i)])).length) Slot.unset).toArray = ls at hl ⊢
  have hl : lv_has ls 7 [(0, .ref qo), (1, .int (nI i))] := hl
  obtain ⟨zc1, zc2⟩ := zcap_le n i
  refine lv_sipush (v := nI 258) hx hb dX1_bestDistance_0 (by decide) ?_
  refine lv_aload_n hx hb dX1_bestDistance_3 rfl (lv_at hl 0 rfl) ?_
  have hPc := hP.sub (ws' := [(qo, .inr (2, [.ref qa, .int (nI n)])), (qa, .inl (cyI, 450, .inl t))]) [0, 1] rfl
  have hKc := hK.sub (tys' := [(cyI, .int), (cyZ, .boolean)]) [0, 1] rfl
  refine vp_callSi (va_Run.run (va_runV (As := []) (rest := [.int (nI 258)]) ⟨hx, hb, hml, hown, hts⟩ (c_X3_size l dC dI cyI cyZ qo qa t n) (cwV 0 hts gX1_bestDistance_X3_size rfl rfl rfl (by decide +kernel) ⟨Nat.le_of_ble_eq_true rfl, Nat.le_of_ble_eq_true rfl⟩) ⟨zz_blR, va_recv hKc hPc (ci := 2) (q0 := 0) rfl rfl, fun U hU hW => ⟨rfl, by rw [hU]; exact hPc, va_K.moved hW.alike hKc⟩⟩ rfl rfl hl.1 rfl (lv_room (Nat.le_of_ble_eq_true rfl)) dX1_bestDistance_4 ⟨Nat.zero_le _, Nat.zero_le _⟩)) (fun r_4 hr_4 => ?_)
  have hr_4 : r_4 = nI n := hr_4
  subst hr_4
  refine lv_iload_n hx hb dX1_bestDistance_7 rfl (lv_at hl 1 rfl) ?_
  refine lv_isub hx hb dX1_bestDistance_8 ?_
  refine zz_top (pk_sub (a := n) (b := i) (by omega)) ?_
  refine va_mmin hx hb (by rw [hml]; exact hl.1.symm) hown (hts (.methodLink RX1 40 Lib.Math.min.name) (by decide +kernel)) (hts (.static Lib.Math.min.name) (by decide +kernel)) (hts (.initialized "java/lang/Math") (by decide +kernel)) (hts (.code Lib.Math.min.name Lib.Math.min.code 2 (some .int)) (by decide +kernel)) (Nat.le_of_ble_eq_true rfl) (Nat.le_of_ble_eq_true rfl) (Nat.le_of_ble_eq_true rfl) (Nat.le_of_ble_eq_true rfl) dX1_bestDistance_9 ?_
  refine zz_top (zmin (by omega) (by omega)) ?_
  refine lv_istore_n (lv' := [(2, .int (nI (zCap n i))), (0, .ref qo), (1, .int (nI i))]) hx hb dX1_bestDistance_12 rfl hl (by decide) rfl (fun ls hl => ?_)
  refine lv_iconst (v := nI 2) hx hb dX1_bestDistance_13 (by decide) ?_
  refine lv_istore_n (lv' := [(3, .int (nI 2)), (2, .int (nI (zCap n i))), (0, .ref qo), (1, .int (nI i))]) hx hb dX1_bestDistance_14 rfl hl (by decide) rfl (fun ls hl => ?_)
  refine lv_iconst (v := nI 0) hx hb dX1_bestDistance_15 (by decide) ?_
  refine lv_istore (lv' := [(4, .int (nI 0)), (3, .int (nI 2)), (2, .int (nI (zCap n i))), (0, .ref qo), (1, .int (nI i))]) hx hb dX1_bestDistance_16 hl (by decide) rfl (fun ls hl => ?_)
  refine lv_iconst (v := nI 1) hx hb dX1_bestDistance_18 (by decide) ?_
  refine lv_istore (lv' := [(5, .int (nI 1)), (4, .int (nI 0)), (3, .int (nI 2)), (2, .int (nI (zCap n i))), (0, .ref qo), (1, .int (nI i))]) hx hb dX1_bestDistance_19 hl (by decide) rfl (fun ls hl => ?_)
  refine zz_loopR (pc := 21) (μ := fun (k : Nat) => 300 - k) (Inv := fun (k : Nat) (ls : Array Slot) => (k ≤ min 256 i) ∧ lv_has ls 7 [(0, .ref qo), (1, .int (nI i)), (2, .int (nI (zCap n i))), (3, .int (nI (zLo t n i k))), (4, .int (nI (zBk t n i k))), (5, .int (nI (k + 1)))]) (x0 := (0)) ⟨by omega, lv_sub hl [4, 5, 3, 2, 1, 0] rfl⟩ ?_
  intro k ls hI ih21
  obtain ⟨hk, hl⟩ := hI
  have hl : lv_has ls 7 [(0, .ref qo), (1, .int (nI i)), (2, .int (nI (zCap n i))), (3, .int (nI (zLo t n i k))), (4, .int (nI (zBk t n i k))), (5, .int (nI (k + 1)))] := hl
  have hk : k ≤ min 256 i := hk
  have hlo : zLo t n i k ≤ 258 := by have := (zBst_le t n i k).1; unfold zLo; omega
  have hru : zRun t n i (k + 1) ≤ 258 := by have := zRun_le t n i (k + 1); omega
  refine lv_iload hx hb dX1_bestDistance_21 (lv_at hl 5 rfl) ?_
  refine lv_sipush (v := nI 256) hx hb dX1_bestDistance_23 (by decide) ?_
  refine zn_icmp_gt (tgt := 68) hx hb dX1_bestDistance_26 (by decide) (by omega) (by omega) (fun c_26 => ?_) (fun c_26 => ?_)
  ·
    refine lv_iload hx hb dX1_bestDistance_68 (lv_at hl 4 rfl) ?_
    have hret : nI (zBk t n i k) = nI (zBD t n i) := by first | exact congrArg nI (zBk_end hk (Or.inr c_37)) | exact congrArg nI (zBk_end hk (Or.inl (by omega)))
    refine zz_top hret ?_
    exact W.iret hx hb hr (fun tS ht hW => ⟨_, rfl, rfl, ht⟩) (fun _ h => nomatch h) dX1_bestDistance_70
  ·
    refine lv_iload hx hb dX1_bestDistance_29 (lv_at hl 5 rfl) ?_
    refine lv_iload_n hx hb dX1_bestDistance_31 rfl (lv_at hl 1 rfl) ?_
    refine zn_icmp_gt (tgt := 68) hx hb dX1_bestDistance_32 (by decide) (by omega) (by omega) (fun c_32 => ?_) (fun c_32 => ?_)
    ·
      refine lv_iload hx hb dX1_bestDistance_68 (lv_at hl 4 rfl) ?_
      have hret : nI (zBk t n i k) = nI (zBD t n i) := by first | exact congrArg nI (zBk_end hk (Or.inr c_37)) | exact congrArg nI (zBk_end hk (Or.inl (by omega)))
      refine zz_top hret ?_
      exact W.iret hx hb hr (fun tS ht hW => ⟨_, rfl, rfl, ht⟩) (fun _ h => nomatch h) dX1_bestDistance_70
    ·
      refine lv_iload_n hx hb dX1_bestDistance_35 rfl (lv_at hl 3 rfl) ?_
      refine lv_iload_n hx hb dX1_bestDistance_36 rfl (lv_at hl 2 rfl) ?_
      refine zn_icmp_ge (tgt := 68) hx hb dX1_bestDistance_37 (by decide) (by omega) (by omega) (fun c_37 => ?_) (fun c_37 => ?_)
      ·
        refine lv_iload hx hb dX1_bestDistance_68 (lv_at hl 4 rfl) ?_
        have hret : nI (zBk t n i k) = nI (zBD t n i) := by first | exact congrArg nI (zBk_end hk (Or.inr c_37)) | exact congrArg nI (zBk_end hk (Or.inl (by omega)))
        refine zz_top hret ?_
        exact W.iret hx hb hr (fun tS ht hW => ⟨_, rfl, rfl, ht⟩) (fun _ h => nomatch h) dX1_bestDistance_70
      ·
        refine lv_aload_n hx hb dX1_bestDistance_40 rfl (lv_at hl 0 rfl) ?_
        refine lv_iload_n hx hb dX1_bestDistance_41 rfl (lv_at hl 1 rfl) ?_
        refine lv_iload hx hb dX1_bestDistance_42 (lv_at hl 5 rfl) ?_
        have hPc := hP.sub (ws' := [(qo, .inr (2, [.ref qa, .int (nI n)])), (qa, .inl (cyI, 450, .inl t))]) [0, 1] rfl
        have hKc := hK.sub (tys' := [(cyI, .int), (cyZ, .boolean)]) [0, 1] rfl
        refine vp_callSi (va_Run.run (va_runS (As := [.ref qo, .int (nI i), .int (nI (k + 1))]) (rest := []) ⟨hx, hb, hml, hown, hts⟩ (c_X1_rowLength l dC dI cyI cyZ qo qa t n i (k + 1) (by omega) (by omega) (by omega) (by omega)) (va_cwS 3 hts gX1_bestDistance_X1_rowLength rfl rfl rfl (by decide +kernel) ⟨Nat.le_of_ble_eq_true rfl, Nat.le_of_ble_eq_true rfl⟩) ⟨zz_blR, fun U hU hW => ⟨rfl, by rw [hU]; exact hPc, va_K.moved hW.alike hKc⟩⟩ rfl rfl hl.1 rfl (lv_room (Nat.le_of_ble_eq_true rfl)) dX1_bestDistance_44 ⟨Nat.zero_le _, Nat.zero_le _⟩)) (fun r_44 hr_44 => ?_)
        have hr_44 : r_44 = nI (zRun t n i (k + 1)) := hr_44
        subst hr_44
        refine lv_istore (lv' := [(6, .int (nI (zRun t n i (k + 1)))), (0, .ref qo), (1, .int (nI i)), (2, .int (nI (zCap n i))), (3, .int (nI (zLo t n i k))), (4, .int (nI (zBk t n i k))), (5, .int (nI (k + 1)))]) hx hb dX1_bestDistance_47 hl (by decide) rfl (fun ls hl => ?_)
        refine lv_iload hx hb dX1_bestDistance_49 (lv_at hl 0 rfl) ?_
        refine lv_iload_n hx hb dX1_bestDistance_51 rfl (lv_at hl 4 rfl) ?_
        refine zn_icmp_le (tgt := 62) hx hb dX1_bestDistance_52 (by decide) (by omega) (by omega) (fun c_52 => ?_) (fun c_52 => ?_)
        ·
          refine lv_iinc (v := nI (k + 2)) (lv' := [(5, .int (nI (k + 2))), (6, .int (nI (zRun t n i (k + 1)))), (0, .ref qo), (1, .int (nI i)), (2, .int (nI (zCap n i))), (3, .int (nI (zLo t n i k))), (4, .int (nI (zBk t n i k)))]) hx hb dX1_bestDistance_62 hl (k := 6) rfl (nI_add (k + 1) 1) (by decide) rfl (fun ls hl => ?_)
          refine lv_goto (tgt := 21) hx hb dX1_bestDistance_65 (by decide) ?_
          obtain ⟨e1, e2⟩ := zBk_n c_52
          -- local 3: .int (nI (zLo t n i k)) ~ .int (nI (zLo t n i (k + 1)))
          -- local 4: .int (nI (zBk t n i k)) ~ .int (nI (zBk t n i (k + 1)))
          -- local 5: .int (nI (k + 2)) ~ .int (nI ((k + 1) + 1))
          exact ih21 (k + 1) _ ⟨by omega, lv_sub hl [2, 3, 4, 5, 6, 0] (by rw [e1, e2]; rfl)⟩ (by first | omega | (dsimp only; omega))
        ·
          refine lv_iload hx hb dX1_bestDistance_55 (lv_at hl 0 rfl) ?_
          refine lv_istore_n (lv' := [(3, .int (nI (zRun t n i (k + 1)))), (6, .int (nI (zRun t n i (k + 1)))), (0, .ref qo), (1, .int (nI i)), (2, .int (nI (zCap n i))), (4, .int (nI (zBk t n i k))), (5, .int (nI (k + 1)))]) hx hb dX1_bestDistance_57 rfl hl (by decide) rfl (fun ls hl => ?_)
          refine lv_iload hx hb dX1_bestDistance_58 (lv_at hl 6 rfl) ?_
          refine lv_istore (lv' := [(4, .int (nI (k + 1))), (3, .int (nI (zRun t n i (k + 1)))), (6, .int (nI (zRun t n i (k + 1)))), (0, .ref qo), (1, .int (nI i)), (2, .int (nI (zCap n i))), (5, .int (nI (k + 1)))]) hx hb dX1_bestDistance_60 hl (by decide) rfl (fun ls hl => ?_)
          refine lv_iinc (v := nI (k + 2)) (lv' := [(5, .int (nI (k + 2))), (4, .int (nI (k + 1))), (3, .int (nI (zRun t n i (k + 1)))), (6, .int (nI (zRun t n i (k + 1)))), (0, .ref qo), (1, .int (nI i)), (2, .int (nI (zCap n i)))]) hx hb dX1_bestDistance_62 hl (k := 6) rfl (nI_add (k + 1) 1) (by decide) rfl (fun ls hl => ?_)
          refine lv_goto (tgt := 21) hx hb dX1_bestDistance_65 (by decide) ?_
          obtain ⟨e1, e2⟩ := zBk_y c_52
          -- local 3: .int (nI (zRun t n i (k + 1))) ~ .int (nI (zLo t n i (k + 1)))
          -- local 4: .int (nI (k + 1)) ~ .int (nI (zBk t n i (k + 1)))
          -- local 5: .int (nI (k + 2)) ~ .int (nI ((k + 1) + 1))
          exact ih21 (k + 1) _ ⟨by omega, lv_sub hl [4, 5, 6, 2, 1, 0] (by rw [e1, e2]; rfl)⟩ (by first | omega | (dsimp only; omega))
set_option maxHeartbeats 4000000 in
set_option maxRecDepth 100000 in
theorem c_X1_encode (l : Launch) (dC : Nat → ClassId) (dI : Nat → Nat → Nat) (cyI cyZ : ClassId) (qo qa qb qba : Nat) (sz : Nat) (t : Nat → Int32) (n : Nat) (F0 : Nat → Int32) (m0 : Nat) (hn : n ≤ 400) (ht : ∀ j, j < n → zO (t j)) : Met l yX1_encode wsX1_encode ({ frames := 3, cells := 0, slots := 0, locals := 71 }) (va_Pc [.ref qo, .ref qb] (fun U => U.heap.size = sz ∧ va_P (dC, dI) vwCl [(qo, .inr (2, [.ref qa, .int (nI n)])), (qa, .inl (cyI, 450, .inl t)), (qb, .inr (2, [.ref qba, .int (nI m0)])), (qba, .inl (cyI, 450, .inl F0))] U.heap ∧ va_K (dC, dI) vwCl [(cyI, .int), (cyZ, .boolean)] U ∧ va_D (fun _ => True) [(qo, .inr (2, [.ref qa, .int (nI n)])), (qa, .inl (cyI, 450, .inl t)), (qb, .inr (2, [.ref qba, .int (nI m0)])), (qba, .inl (cyI, 450, .inl F0))])) (va_Qv (S := Nat × (Nat → Int32)) (fun (uU : Nat × (Nat → Int32)) => match uU with | (m1, F1) => (m1 = (zE t n).1) ∧ (∀ j, j < m1 → F1 j = (zE t n).2 j) ∧ (m1 ≤ 450)) (fun (uU : Nat × (Nat → Int32)) tS => match uU with | (m1, F1) => va_P (dC, dI) vwCl [(qo, .inr (2, [.ref qa, .int (nI n)])), (qa, .inl (cyI, 450, .inl t)), (qb, .inr (2, [.ref qba, .int (nI m1)])), (qba, .inl (cyI, 450, .inl F1))] tS.heap ∧ va_K (dC, dI) vwCl [(cyI, .int), (cyZ, .boolean)] tS ∧ va_D (va_A [(qo, .inr (2, [.ref qa, .int (nI n)])), (qa, .inl (cyI, 450, .inl t)), (qb, .inr (2, [.ref qba, .int (nI m0)])), (qba, .inl (cyI, 450, .inl F0))] sz) [(qo, .inr (2, [.ref qa, .int (nI n)])), (qa, .inl (cyI, 450, .inl t)), (qb, .inr (2, [.ref qba, .int (nI m1)])), (qba, .inl (cyI, 450, .inl F1))]) (va_A [(qo, .inr (2, [.ref qa, .int (nI n)])), (qa, .inl (cyI, 450, .inl t)), (qb, .inr (2, [.ref qba, .int (nI m0)])), (qba, .inl (cyI, 450, .inl F0))] sz)) 0 0 (va_A [(qo, .inr (2, [.ref qa, .int (nI n)])), (qa, .inl (cyI, 450, .inl t)), (qb, .inr (2, [.ref qba, .int (nI m0)])), (qba, .inl (cyI, 450, .inl F0))] sz) := by
  refine Met.ofW (cc := cX1_encode) (maxL := 9) (ret := none) (by decide) rfl ?_
  intro pz ez sS mM args below meth cC s₁ B hml hv
  obtain ⟨rfl, hsz, hP, hK, hD0⟩ := hv
  have hx := B.exec
  have hb := B.bytes
  have hr := B.returns
  have hts := atoms_spec (ws := wsX1_encode) B.pre
  have hown : sS.vm.findClass RX1 = some mM.cls := findClass_of_methodNamed B.named
  have hlocks := B.notSynchronized
  subst hsz
  have hD := hD0.self (sz := sS.heap.size)
  generalize hAe : va_A [(qo, .inr (2, [.ref qa, .int (nI n)])), (qa, .inl (cyI, 450, .inl t)), (qb, .inr (2, [.ref qba, .int (nI m0)])), (qba, .inl (cyI, 450, .inl F0))] sS.heap.size = A at hD ⊢
  have hA : ∀ q : Nat, sS.heap.size ≤ q → A q := fun q h => by rw [← hAe]; exact Or.inr h
  have hS : va_S A sS.heap sS.heap [] := va_S.rf
  have hP : va_P (dC, dI) vwCl [(qo, .inr (2, [.ref qa, .int (nI n)])), (qa, .inl (cyI, 450, .inl t)), (qb, .inr (2, [.ref qba, .int (nI m0)])), (qba, .inl (cyI, 450, .inl F0))] sS.heap := hP
  have hl := lv_entry ([.ref qo, .ref qb]) (n := 9) (Nat.le_of_ble_eq_true rfl)
  rw [lg_entry_eq]
  generalize (lg_sl ([.ref qo, .ref qb]) ++ List.replicate (9 - (lg_sl ([.ref qo, .ref qb])).length) Slot.unset).toArray = ls at hl ⊢
  have hl : lv_has ls 9 [(0, .ref qo), (1, .ref qb)] := hl
  refine lv_aload_n hx hb dX1_encode_0 rfl (lv_at hl 1 rfl) ?_
  have hPc := hP.sub (ws' := [(qb, .inr (2, [.ref qba, .int (nI m0)])), (qba, .inl (cyI, 450, .inl F0))]) [2, 3] rfl
  have hKc := hK.sub (tys' := [(cyI, .int), (cyZ, .boolean)]) [0, 1] rfl
  have hDc := hD.sub (ws' := [(qb, .inr (2, [.ref qba, .int (nI m0)])), (qba, .inl (cyI, 450, .inl F0))]) [2, 3] (by decide) rfl
  have hFc := va_free (wc := [(qb, .inr (2, [.ref qba, .int (nI m0)])), (qba, .inl (cyI, 450, .inl F0))]) hD hS hA [2, 3] rfl
  refine va_callv (va_runV (As := []) (rest := []) ⟨hx, hb, hml, hown, hts⟩ (c_X3_empty l dC dI cyI cyZ qb qba sS.heap.size F0 m0) (cwV 0 hts gX1_encode_X3_empty rfl rfl rfl (by decide +kernel) ⟨Nat.le_of_ble_eq_true rfl, Nat.le_of_ble_eq_true rfl⟩) ⟨zz_blW, va_recv hKc hPc (ci := 2) (q0 := 0) rfl rfl, fun U hU hW => ⟨rfl, by rw [hU], by rw [hU]; exact hPc, va_K.moved hW.alike hKc, hDc.weaken (fun _ _ _ _ => trivial)⟩⟩ rfl rfl hl.1 rfl (lv_room (Nat.le_of_ble_eq_true rfl)) dX1_encode_1 ⟨Nat.zero_le _, Nat.zero_le _⟩) hS (fun q _ h => hFc q h) hFc (fun uU tS H1 locs ht9 hvm9 hw9 hB9 hz1 hk1 hS => ?_)
  obtain ⟨hP1, hK1, hD1⟩ := hB9
  rw [ht9] at hP1
  have hK1 := va_K.moved hvm9.symm hK1
  obtain ⟨hP, hD⟩ := va_join (wr := [(qo, .inr (2, [.ref qa, .int (nI n)])), (qa, .inl (cyI, 450, .inl t))]) (w1 := [(qb, .inr (2, [.ref qba, .int (nI 0)])), (qba, .inl (cyI, 450, .inl F0))]) hP hD [2, 3] [0, 1] rfl rfl (by decide) (by decide) hk1 hFc hP1 hD1
  generalize H1 = H at hP hS ⊢
  have hP : va_P (dC, dI) vwCl [(qo, .inr (2, [.ref qa, .int (nI n)])), (qa, .inl (cyI, 450, .inl t)), (qb, .inr (2, [.ref qba, .int (nI 0)])), (qba, .inl (cyI, 450, .inl F0))] H := hP
  have hD : va_D A [(qo, .inr (2, [.ref qa, .int (nI n)])), (qa, .inl (cyI, 450, .inl t)), (qb, .inr (2, [.ref qba, .int (nI 0)])), (qba, .inl (cyI, 450, .inl F0))] := hD
  refine lv_iconst (v := nI 0) hx hb dX1_encode_4 (by decide) ?_
  refine lv_istore_n (lv' := [(2, .int (nI 0)), (0, .ref qo), (1, .ref qb)]) hx hb dX1_encode_5 rfl hl (by decide) rfl (fun ls hl => ?_)
  refine lv_iconst (v := nI 0) hx hb dX1_encode_6 (by decide) ?_
  refine lv_istore_n (lv' := [(3, .int (nI 0)), (2, .int (nI 0)), (0, .ref qo), (1, .ref qb)]) hx hb dX1_encode_7 rfl hl (by decide) rfl (fun ls hl => ?_)
  refine lv_iconst (v := nI 0) hx hb dX1_encode_8 (by decide) ?_
  refine lv_istore (lv' := [(4, .int (nI 0)), (3, .int (nI 0)), (2, .int (nI 0)), (0, .ref qo), (1, .ref qb)]) hx hb dX1_encode_9 hl (by decide) rfl (fun ls hl => ?_)
  refine lv_iconst (v := nI 0) hx hb dX1_encode_11 (by decide) ?_
  refine lv_istore (lv' := [(5, .int (nI 0)), (4, .int (nI 0)), (3, .int (nI 0)), (2, .int (nI 0)), (0, .ref qo), (1, .ref qb)]) hx hb dX1_encode_12 hl (by decide) rfl (fun ls hl => ?_)
  refine zz_loopW (pc := 14) (μ := fun (x : Nat × Nat × Nat × Nat × Nat × Nat × (Nat → Int32) × (Nat → Int32)) => match x with | (i, nx, m, g, k, f, o, F) => n - i) (Inv := fun (x : Nat × Nat × Nat × Nat × Nat × Nat × (Nat → Int32) × (Nat → Int32)) (H : Heap) (locs : List Loc) (ls : Array Slot) => match x with | (i, nx, m, g, k, f, o, F) => (i ≤ nx) ∧ (nx ≤ n) ∧ (n ≤ nx + f) ∧ (k ≤ nx) ∧ (m ≤ nx + (k + 7) / 8) ∧ (0 < k % 8 → g < m) ∧ (eF t n f nx m g k o = zE t n) ∧ (∀ j, j < m → F j = o j) ∧ va_P (dC, dI) vwCl [(qo, .inr (2, [.ref qa, .int (nI n)])), (qa, .inl (cyI, 450, .inl t)), (qb, .inr (2, [.ref qba, .int (nI m)])), (qba, .inl (cyI, 450, .inl F))] H ∧ va_D A [(qo, .inr (2, [.ref qa, .int (nI n)])), (qa, .inl (cyI, 450, .inl t)), (qb, .inr (2, [.ref qba, .int (nI m)])), (qba, .inl (cyI, 450, .inl F))] ∧ va_S A sS.heap H locs ∧ lv_has ls 9 [(0, .ref qo), (1, .ref qb), (2, .int (nI g)), (3, .int (nI k)), (4, .int (nI nx)), (5, .int (nI i))]) (x0 := (0, 0, 0, 0, 0, n, fun _ => nI 0, F0)) ⟨by omega, by omega, by omega, by omega, by omega, by omega, rfl, no_lt0, hP, hD, hS, lv_sub hl [4, 5, 3, 2, 1, 0] rfl⟩ ?_
  intro ⟨i, nx, m, g, k, f, o, F⟩ H locs ls hI ih14
  obtain ⟨hi1, hi2, hf, hk1, hm, hg, hE, hF, hP, hD, hS, hl⟩ := hI
  have hl : lv_has ls 9 [(0, .ref qo), (1, .ref qb), (2, .int (nI g)), (3, .int (nI k)), (4, .int (nI nx)), (5, .int (nI i))] := hl
  have hP : va_P (dC, dI) vwCl [(qo, .inr (2, [.ref qa, .int (nI n)])), (qa, .inl (cyI, 450, .inl t)), (qb, .inr (2, [.ref qba, .int (nI m)])), (qba, .inl (cyI, 450, .inl F))] H := hP
  have hD : va_D A [(qo, .inr (2, [.ref qa, .int (nI n)])), (qa, .inl (cyI, 450, .inl t)), (qb, .inr (2, [.ref qba, .int (nI m)])), (qba, .inl (cyI, 450, .inl F))] := hD
  have hi1 : i ≤ nx := hi1
  have hi2 : nx ≤ n := hi2
  have hf : n ≤ nx + f := hf
  have hk1 : k ≤ nx := hk1
  have hm : m ≤ nx + (k + 7) / 8 := hm
  have hg : 0 < k % 8 → g < m := hg
  have hE : eF t n f nx m g k o = zE t n := hE
  have hF : ∀ j, j < m → F j = o j := hF
  have hgm : 0 < k % 8 → g < 450 := fun h => by have := hg h; omega
  refine lv_iload hx hb dX1_encode_14 (lv_at hl 5 rfl) ?_
  refine lv_aload_n hx hb dX1_encode_16 rfl (lv_at hl 0 rfl) ?_
  have hPc := hP.sub (ws' := [(qo, .inr (2, [.ref qa, .int (nI n)])), (qa, .inl (cyI, 450, .inl t))]) [0, 1] rfl
  have hKc := hK.sub (tys' := [(cyI, .int), (cyZ, .boolean)]) [0, 1] rfl
  refine vp_callSi (va_Run.run (va_runV (As := []) (rest := [.int (nI i)]) ⟨hx, hb, hml, hown, hts⟩ (c_X3_size l dC dI cyI cyZ qo qa t n) (cwV 0 hts gX1_encode_X3_size rfl rfl rfl (by decide +kernel) ⟨Nat.le_of_ble_eq_true rfl, Nat.le_of_ble_eq_true rfl⟩) ⟨zz_blR, va_recv hKc hPc (ci := 2) (q0 := 0) rfl rfl, fun U hU hW => ⟨rfl, by rw [hU]; exact hPc, va_K.moved hW.alike hKc⟩⟩ rfl rfl hl.1 rfl (lv_room (Nat.le_of_ble_eq_true rfl)) dX1_encode_17 ⟨Nat.zero_le _, Nat.zero_le _⟩)) (fun r_17 hr_17 => ?_)
  have hr_17 : r_17 = nI n := hr_17
  subst hr_17
  refine zn_icmp_ge (tgt := 135) hx hb dX1_encode_20 (by decide) (by omega) (by omega) (fun c_20 => ?_) (fun c_20 => ?_)
  ·
    have e135 : nx = n := by omega
    have hE2 : (m, o) = zE t n := by rw [← hE]; exact (eF_end (by omega)).symm
    have hP9 := hP.sub (ws' := [(qo, .inr (2, [.ref qa, .int (nI n)])), (qa, .inl (cyI, 450, .inl t)), (qb, .inr (2, [.ref qba, .int (nI m)])), (qba, .inl (cyI, 450, .inl F))]) [0, 1, 2, 3] rfl
    have hD9 := hD.sub (ws' := [(qo, .inr (2, [.ref qa, .int (nI n)])), (qa, .inl (cyI, 450, .inl t)), (qb, .inr (2, [.ref qba, .int (nI m)])), (qba, .inl (cyI, 450, .inl F))]) [0, 1, 2, 3] (by decide) rfl
    have hK9 := hK.sub (tys' := [(cyI, .int), (cyZ, .boolean)]) [0, 1] rfl
    exact W.vret hx hb hr (fun tS ht hW => ⟨⟨(m, F), rfl, ⟨by rw [← hE2], by rw [← hE2]; exact hF, by omega⟩, by rw [ht]; exact hP9, va_K.moved hW.alike hK9, hD9⟩, hS.F ht⟩) hS.2.2 dX1_encode_135
  ·
    refine lv_iload hx hb dX1_encode_23 (lv_at hl 5 rfl) ?_
    refine lv_iload hx hb dX1_encode_25 (lv_at hl 4 rfl) ?_
    refine zn_icmp_ge (tgt := 33) hx hb dX1_encode_27 (by decide) (by omega) (by omega) (fun c_27 => ?_) (fun c_27 => ?_)
    ·
      have e27 : i = nx := by omega
      subst e27
      have hi9 : i < n := by omega
      have hz9 := zBD_le t n i
      obtain ⟨f9, e9⟩ : ∃ f9, f = f9 + 1 := ⟨f - 1, by omega⟩
      subst e9
      refine lv_iload_n hx hb dX1_encode_33 rfl (lv_at hl 3 rfl) ?_
      refine lv_bipush (v := nI 8) hx hb dX1_encode_34 (by decide) ?_
      refine lv_irem hx hb dX1_encode_36 (by decide) ?_
      refine zz_top (pk_rem (a := k) (d := 8) (by omega) (by decide) (by decide)) ?_
      refine lv_istore (lv' := [(6, .int (nI (k % 8))), (0, .ref qo), (1, .ref qb), (2, .int (nI g)), (3, .int (nI k)), (4, .int (nI i)), (5, .int (nI i))]) hx hb dX1_encode_37 hl (by decide) rfl (fun ls hl => ?_)
      refine lv_iload hx hb dX1_encode_39 (lv_at hl 0 rfl) ?_
      refine zn_if_ne (tgt := 54) hx hb dX1_encode_41 (by decide) (by omega) (fun c_41 => ?_) (fun c_41 => ?_)
      ·
        refine lv_aload_n hx hb dX1_encode_54 rfl (lv_at hl 1 rfl) ?_
        refine lv_iload hx hb dX1_encode_55 (lv_at hl 6 rfl) ?_
        have hPc := hP.sub (ws' := [(qo, .inr (2, [.ref qa, .int (nI n)])), (qa, .inl (cyI, 450, .inl t))]) [0, 1] rfl
        have hKc := hK.sub (tys' := [(cyI, .int), (cyZ, .boolean)]) [0, 1] rfl
        refine vp_callSi (va_Run.run (va_runS (As := [.ref qo, .int (nI i)]) (rest := []) ⟨hx, hb, hml, hown, hts⟩ (c_X1_bestDistance l dC dI cyI cyZ qo qa t n i (by omega) (by omega)) (va_cwS 2 hts gX1_encode_X1_bestDistance rfl rfl rfl (by decide +kernel) ⟨Nat.le_of_ble_eq_true rfl, Nat.le_of_ble_eq_true rfl⟩) ⟨zz_blR, fun U hU hW => ⟨rfl, by rw [hU]; exact hPc, va_K.moved hW.alike hKc⟩⟩ rfl rfl hl.1 rfl (lv_room (Nat.le_of_ble_eq_true rfl)) dX1_encode_57 ⟨Nat.zero_le _, Nat.zero_le _⟩)) (fun r_57 hr_57 => ?_)
        have hr_57 : r_57 = nI (zBD t n i) := hr_57
        subst hr_57
        refine lv_istore (lv' := [(7, .int (nI (zBD t n i))), (6, .int (nI (k % 8))), (0, .ref qo), (1, .ref qb), (2, .int (nI g)), (3, .int (nI k)), (4, .int (nI i)), (5, .int (nI i))]) hx hb dX1_encode_60 hl (by decide) rfl (fun ls hl => ?_)
        refine lv_iload hx hb dX1_encode_62 (lv_at hl 0 rfl) ?_
        refine zn_if_ne (tgt := 93) hx hb dX1_encode_64 (by decide) (by omega) (fun c_64 => ?_) (fun c_64 => ?_)
        ·
          have hb3 := zBD_pos c_64
          have eB := zBD_p hb3
          obtain ⟨z1, z2, z3, z4⟩ := zB_in t n i
          have z5 := z4 (by omega)
          obtain ⟨zc1, zc2⟩ := zcap_le n i
          refine lv_aload_n hx hb dX1_encode_93 rfl (lv_at hl 2 rfl) ?_
          refine lv_iload hx hb dX1_encode_94 (lv_at hl 7 rfl) ?_
          refine lv_iload hx hb dX1_encode_96 (lv_at hl 0 rfl) ?_
          have hPc := hP.sub (ws' := [(qo, .inr (2, [.ref qa, .int (nI n)])), (qa, .inl (cyI, 450, .inl t))]) [0, 1] rfl
          have hKc := hK.sub (tys' := [(cyI, .int), (cyZ, .boolean)]) [0, 1] rfl
          refine vp_callSi (va_Run.run (va_runS (As := [.ref qo, .int (nI i), .int (nI (zBD t n i))]) (rest := []) ⟨hx, hb, hml, hown, hts⟩ (c_X1_rowLength l dC dI cyI cyZ qo qa t n i (zBD t n i) (by omega) (by omega) (by omega) (by omega)) (va_cwS 3 hts gX1_encode_X1_rowLength rfl rfl rfl (by decide +kernel) ⟨Nat.le_of_ble_eq_true rfl, Nat.le_of_ble_eq_true rfl⟩) ⟨zz_blR, fun U hU hW => ⟨rfl, by rw [hU]; exact hPc, va_K.moved hW.alike hKc⟩⟩ rfl rfl hl.1 rfl (lv_room (Nat.le_of_ble_eq_true rfl)) dX1_encode_98 ⟨Nat.zero_le _, Nat.zero_le _⟩)) (fun r_98 hr_98 => ?_)
          have hr_98 : r_98 = nI (zRun t n i (zBD t n i)) := hr_98
          subst hr_98
          have eR : zRun t n i (zBD t n i) = (zB t n i).2 := by rw [eB]; exact zBst_run t n i _ (by show 0 < (zB t n i).2; omega)
          refine zz_top (congrArg nI eR) ?_
          refine lv_istore (lv' := [(8, .int (nI ((zB t n i).2))), (7, .int (nI (zBD t n i))), (6, .int (nI (k % 8))), (0, .ref qo), (1, .ref qb), (2, .int (nI g)), (3, .int (nI k)), (4, .int (nI i)), (5, .int (nI i))]) hx hb dX1_encode_101 hl (by decide) rfl (fun ls hl => ?_)
          refine lv_aload_n hx hb dX1_encode_103 rfl (lv_at hl 4 rfl) ?_
          refine lv_iload hx hb dX1_encode_104 (lv_at hl 1 rfl) ?_
          refine zz_top (congrArg nI eB) ?_
          refine lv_iconst (v := nI 1) hx hb dX1_encode_106 (by decide) ?_
          refine lv_isub hx hb dX1_encode_107 ?_
          refine zz_top (pk_sub (a := (zB t n i).1) (b := 1) (by omega)) ?_
          have hPc := hP.sub (ws' := [(qb, .inr (2, [.ref qba, .int (nI m)])), (qba, .inl (cyI, 450, .inl F))]) [2, 3] rfl
          have hKc := hK.sub (tys' := [(cyI, .int), (cyZ, .boolean)]) [0, 1] rfl
          have hDc := hD.sub (ws' := [(qb, .inr (2, [.ref qba, .int (nI m)])), (qba, .inl (cyI, 450, .inl F))]) [2, 3] (by decide) rfl
          have hFc := va_free (wc := [(qb, .inr (2, [.ref qba, .int (nI m)])), (qba, .inl (cyI, 450, .inl F))]) hD hS hA [2, 3] rfl
          refine va_callv (va_runV (As := [.int (nI (((zB t n i).1) - 1))]) (rest := []) ⟨hx, hb, hml, hown, hts⟩ (c_X3_append l dC dI cyI cyZ qb qba H.size F m (nI (((zB t n i).1) - 1)) (by omega)) (cwV 1 hts gX1_encode_X3_append rfl rfl rfl (by decide +kernel) ⟨Nat.le_of_ble_eq_true rfl, Nat.le_of_ble_eq_true rfl⟩) ⟨zz_blW, va_recv hKc hPc (ci := 2) (q0 := 0) rfl rfl, fun U hU hW => ⟨rfl, by rw [hU], by rw [hU]; exact hPc, va_K.moved hW.alike hKc, hDc.weaken (fun _ _ _ _ => trivial)⟩⟩ rfl rfl hl.1 rfl (lv_room (Nat.le_of_ble_eq_true rfl)) dX1_encode_108 ⟨Nat.zero_le _, Nat.zero_le _⟩) hS (fun q _ h => hFc q h) hFc (fun uU tS H1 locs ht9 hvm9 hw9 hB9 hz1 hk1 hS => ?_)
          obtain ⟨hP1, hK1, hD1⟩ := hB9
          rw [ht9] at hP1
          have hK1 := va_K.moved hvm9.symm hK1
          obtain ⟨hP, hD⟩ := va_join (wr := [(qo, .inr (2, [.ref qa, .int (nI n)])), (qa, .inl (cyI, 450, .inl t))]) (w1 := [(qb, .inr (2, [.ref qba, .int (nI (m + 1))])), (qba, .inl (cyI, 450, .inl (upd F m ((nI (((zB t n i).1) - 1)) &&& nI 255))))]) hP hD [2, 3] [0, 1] rfl rfl (by decide) (by decide) hk1 hFc hP1 hD1
          generalize H1 = H at hP hS ⊢
          have hP : va_P (dC, dI) vwCl [(qo, .inr (2, [.ref qa, .int (nI n)])), (qa, .inl (cyI, 450, .inl t)), (qb, .inr (2, [.ref qba, .int (nI (m + 1))])), (qba, .inl (cyI, 450, .inl (upd F m ((nI (((zB t n i).1) - 1)) &&& nI 255))))] H := hP
          have hD : va_D A [(qo, .inr (2, [.ref qa, .int (nI n)])), (qa, .inl (cyI, 450, .inl t)), (qb, .inr (2, [.ref qba, .int (nI (m + 1))])), (qba, .inl (cyI, 450, .inl (upd F m ((nI (((zB t n i).1) - 1)) &&& nI 255))))] := hD
          have eqm : (nI (((zB t n i).1) - 1)) &&& nI 255 = (nI (((zB t n i).1) - 1)) := zO_and (⟨_, by omega, rfl⟩)
          rw [eqm] at hP hD
          have hP : va_P (dC, dI) vwCl [(qo, .inr (2, [.ref qa, .int (nI n)])), (qa, .inl (cyI, 450, .inl t)), (qb, .inr (2, [.ref qba, .int (nI (m + 1))])), (qba, .inl (cyI, 450, .inl (upd F m (nI (((zB t n i).1) - 1)))))] H := hP
          have hD : va_D A [(qo, .inr (2, [.ref qa, .int (nI n)])), (qa, .inl (cyI, 450, .inl t)), (qb, .inr (2, [.ref qba, .int (nI (m + 1))])), (qba, .inl (cyI, 450, .inl (upd F m (nI (((zB t n i).1) - 1)))))] := hD
          refine lv_aload_n hx hb dX1_encode_111 rfl (lv_at hl 4 rfl) ?_
          refine lv_iload hx hb dX1_encode_112 (lv_at hl 0 rfl) ?_
          refine lv_iconst (v := nI 3) hx hb dX1_encode_114 (by decide) ?_
          refine lv_isub hx hb dX1_encode_115 ?_
          refine zz_top (pk_sub (a := (zB t n i).2) (b := 3) (by omega)) ?_
          have hPc := hP.sub (ws' := [(qb, .inr (2, [.ref qba, .int (nI (m + 1))])), (qba, .inl (cyI, 450, .inl (upd F m (nI (((zB t n i).1) - 1)))))]) [2, 3] rfl
          have hKc := hK.sub (tys' := [(cyI, .int), (cyZ, .boolean)]) [0, 1] rfl
          have hDc := hD.sub (ws' := [(qb, .inr (2, [.ref qba, .int (nI (m + 1))])), (qba, .inl (cyI, 450, .inl (upd F m (nI (((zB t n i).1) - 1)))))]) [2, 3] (by decide) rfl
          have hFc := va_free (wc := [(qb, .inr (2, [.ref qba, .int (nI (m + 1))])), (qba, .inl (cyI, 450, .inl (upd F m (nI (((zB t n i).1) - 1)))))]) hD hS hA [2, 3] rfl
          refine va_callv (va_runV (As := [.int (nI (((zB t n i).2) - 3))]) (rest := []) ⟨hx, hb, hml, hown, hts⟩ (c_X3_append l dC dI cyI cyZ qb qba H.size (upd F m (nI (((zB t n i).1) - 1))) (m + 1) (nI (((zB t n i).2) - 3)) (by omega)) (cwV 1 hts gX1_encode_X3_append rfl rfl rfl (by decide +kernel) ⟨Nat.le_of_ble_eq_true rfl, Nat.le_of_ble_eq_true rfl⟩) ⟨zz_blW, va_recv hKc hPc (ci := 2) (q0 := 0) rfl rfl, fun U hU hW => ⟨rfl, by rw [hU], by rw [hU]; exact hPc, va_K.moved hW.alike hKc, hDc.weaken (fun _ _ _ _ => trivial)⟩⟩ rfl rfl hl.1 rfl (lv_room (Nat.le_of_ble_eq_true rfl)) dX1_encode_116 ⟨Nat.zero_le _, Nat.zero_le _⟩) hS (fun q _ h => hFc q h) hFc (fun uU tS H1 locs ht9 hvm9 hw9 hB9 hz1 hk1 hS => ?_)
          obtain ⟨hP1, hK1, hD1⟩ := hB9
          rw [ht9] at hP1
          have hK1 := va_K.moved hvm9.symm hK1
          obtain ⟨hP, hD⟩ := va_join (wr := [(qo, .inr (2, [.ref qa, .int (nI n)])), (qa, .inl (cyI, 450, .inl t))]) (w1 := [(qb, .inr (2, [.ref qba, .int (nI ((m + 1) + 1))])), (qba, .inl (cyI, 450, .inl (upd (upd F m (nI (((zB t n i).1) - 1))) (m + 1) ((nI (((zB t n i).2) - 3)) &&& nI 255))))]) hP hD [2, 3] [0, 1] rfl rfl (by decide) (by decide) hk1 hFc hP1 hD1
          generalize H1 = H at hP hS ⊢
          have hP : va_P (dC, dI) vwCl [(qo, .inr (2, [.ref qa, .int (nI n)])), (qa, .inl (cyI, 450, .inl t)), (qb, .inr (2, [.ref qba, .int (nI ((m + 1) + 1))])), (qba, .inl (cyI, 450, .inl (upd (upd F m (nI (((zB t n i).1) - 1))) (m + 1) ((nI (((zB t n i).2) - 3)) &&& nI 255))))] H := hP
          have hD : va_D A [(qo, .inr (2, [.ref qa, .int (nI n)])), (qa, .inl (cyI, 450, .inl t)), (qb, .inr (2, [.ref qba, .int (nI ((m + 1) + 1))])), (qba, .inl (cyI, 450, .inl (upd (upd F m (nI (((zB t n i).1) - 1))) (m + 1) ((nI (((zB t n i).2) - 3)) &&& nI 255))))] := hD
          have eqm : (nI (((zB t n i).2) - 3)) &&& nI 255 = (nI (((zB t n i).2) - 3)) := zO_and (⟨_, by omega, rfl⟩)
          rw [eqm] at hP hD
          have hP : va_P (dC, dI) vwCl [(qo, .inr (2, [.ref qa, .int (nI n)])), (qa, .inl (cyI, 450, .inl t)), (qb, .inr (2, [.ref qba, .int (nI ((m + 1) + 1))])), (qba, .inl (cyI, 450, .inl (upd (upd F m (nI (((zB t n i).1) - 1))) (m + 1) (nI (((zB t n i).2) - 3)))))] H := hP
          have hD : va_D A [(qo, .inr (2, [.ref qa, .int (nI n)])), (qa, .inl (cyI, 450, .inl t)), (qb, .inr (2, [.ref qba, .int (nI ((m + 1) + 1))])), (qba, .inl (cyI, 450, .inl (upd (upd F m (nI (((zB t n i).1) - 1))) (m + 1) (nI (((zB t n i).2) - 3)))))] := hD
          refine lv_iload hx hb dX1_encode_119 (lv_at hl 8 rfl) ?_
          refine lv_iload hx hb dX1_encode_121 (lv_at hl 0 rfl) ?_
          refine lv_iadd hx hb dX1_encode_123 ?_
          refine zz_top (nI_add i ((zB t n i).2)) ?_
          refine lv_istore (lv' := [(4, .int (nI (i + ((zB t n i).2)))), (8, .int (nI ((zB t n i).2))), (7, .int (nI (zBD t n i))), (6, .int (nI (k % 8))), (0, .ref qo), (1, .ref qb), (2, .int (nI g)), (3, .int (nI k)), (5, .int (nI i))]) hx hb dX1_encode_124 hl (by decide) rfl (fun ls hl => ?_)
          refine lv_iinc (v := nI (k + 1)) (lv' := [(3, .int (nI (k + 1))), (4, .int (nI (i + ((zB t n i).2)))), (8, .int (nI ((zB t n i).2))), (7, .int (nI (zBD t n i))), (6, .int (nI (k % 8))), (0, .ref qo), (1, .ref qb), (2, .int (nI g)), (5, .int (nI i))]) hx hb dX1_encode_126 hl (k := 7) rfl (nI_add k 1) (by decide) rfl (fun ls hl => ?_)
          refine lv_iinc (v := nI (i + 1)) (lv' := [(5, .int (nI (i + 1))), (3, .int (nI (k + 1))), (4, .int (nI (i + ((zB t n i).2)))), (8, .int (nI ((zB t n i).2))), (7, .int (nI (zBD t n i))), (6, .int (nI (k % 8))), (0, .ref qo), (1, .ref qb), (2, .int (nI g))]) hx hb dX1_encode_129 hl (k := 8) rfl (nI_add i 1) (by decide) rfl (fun ls hl => ?_)
          refine lv_goto (tgt := 14) hx hb dX1_encode_132 (by decide) ?_
          exact ih14 (i + 1, i + ((zB t n i).2), (m + 1) + 1, g, k + 1, f9, upd (upd (o) (m) (nI ((zB t n i).1 - 1))) (m + 1) (nI ((zB t n i).2 - 3)), upd (upd F m (nI (((zB t n i).1) - 1))) (m + 1) (nI (((zB t n i).2) - 3))) _ _ _ ⟨by omega, by omega, by omega, by omega, by omega, fun _ => by omega, (eF_row1 hi9 (Nat.pos_iff_ne_zero.mp c_41) hb3).symm.trans hE, upd_new (upd_new hF rfl) rfl, hP, hD, hS, lv_sub hl [6, 7, 8, 1, 2, 0] rfl⟩ (by first | omega | (dsimp only; omega))
        ·
          refine lv_aload_n hx hb dX1_encode_67 rfl (lv_at hl 3 rfl) ?_
          refine lv_iload_n hx hb dX1_encode_68 rfl (lv_at hl 4 rfl) ?_
          refine lv_iload hx hb dX1_encode_69 (lv_at hl 1 rfl) ?_
          have hPc := hP.sub (ws' := [(qb, .inr (2, [.ref qba, .int (nI m)])), (qba, .inl (cyI, 450, .inl F))]) [2, 3] rfl
          have hKc := hK.sub (tys' := [(cyI, .int), (cyZ, .boolean)]) [0, 1] rfl
          have hDc := hD.sub (ws' := [(qb, .inr (2, [.ref qba, .int (nI m)])), (qba, .inl (cyI, 450, .inl F))]) [2, 3] (by decide) rfl
          have hFc := va_free (wc := [(qb, .inr (2, [.ref qba, .int (nI m)])), (qba, .inl (cyI, 450, .inl F))]) hD hS hA [2, 3] rfl
          refine va_callv (va_runV (As := [.int (nI g), .int (nI (k % 8))]) (rest := []) ⟨hx, hb, hml, hown, hts⟩ (c_X3_setBit l dC dI cyI cyZ qb qba H.size F m g (k % 8) (by omega) (by omega) (by omega)) (cwV 2 hts gX1_encode_X3_setBit rfl rfl rfl (by decide +kernel) ⟨Nat.le_of_ble_eq_true rfl, Nat.le_of_ble_eq_true rfl⟩) ⟨zz_blW, va_recv hKc hPc (ci := 2) (q0 := 0) rfl rfl, fun U hU hW => ⟨rfl, by rw [hU], by rw [hU]; exact hPc, va_K.moved hW.alike hKc, hDc.weaken (fun _ _ _ _ => trivial)⟩⟩ rfl rfl hl.1 rfl (lv_room (Nat.le_of_ble_eq_true rfl)) dX1_encode_71 ⟨Nat.zero_le _, Nat.zero_le _⟩) hS (fun q _ h => hFc q h) hFc (fun uU tS H1 locs ht9 hvm9 hw9 hB9 hz1 hk1 hS => ?_)
          obtain ⟨hP1, hK1, hD1⟩ := hB9
          rw [ht9] at hP1
          have hK1 := va_K.moved hvm9.symm hK1
          obtain ⟨hP, hD⟩ := va_join (wr := [(qo, .inr (2, [.ref qa, .int (nI n)])), (qa, .inl (cyI, 450, .inl t))]) (w1 := [(qb, .inr (2, [.ref qba, .int (nI m)])), (qba, .inl (cyI, 450, .inl (upd F g (F g ||| (nI 1 <<< (nI (k % 8) &&& 31))))))]) hP hD [2, 3] [0, 1] rfl rfl (by decide) (by decide) hk1 hFc hP1 hD1
          generalize H1 = H at hP hS ⊢
          have hP : va_P (dC, dI) vwCl [(qo, .inr (2, [.ref qa, .int (nI n)])), (qa, .inl (cyI, 450, .inl t)), (qb, .inr (2, [.ref qba, .int (nI m)])), (qba, .inl (cyI, 450, .inl (upd F g (F g ||| (nI 1 <<< (nI (k % 8) &&& 31))))))] H := hP
          have hD : va_D A [(qo, .inr (2, [.ref qa, .int (nI n)])), (qa, .inl (cyI, 450, .inl t)), (qb, .inr (2, [.ref qba, .int (nI m)])), (qba, .inl (cyI, 450, .inl (upd F g (F g ||| (nI 1 <<< (nI (k % 8) &&& 31))))))] := hD
          refine lv_aload_n hx hb dX1_encode_74 rfl (lv_at hl 3 rfl) ?_
          refine lv_aload_n hx hb dX1_encode_75 rfl (lv_at hl 2 rfl) ?_
          refine lv_iload hx hb dX1_encode_76 (lv_at hl 7 rfl) ?_
          have hPc := hP.sub (ws' := [(qo, .inr (2, [.ref qa, .int (nI n)])), (qa, .inl (cyI, 450, .inl t))]) [0, 1] rfl
          have hKc := hK.sub (tys' := [(cyI, .int), (cyZ, .boolean)]) [0, 1] rfl
          refine vp_callSi (va_Run.run (va_runV (As := [.int (nI i)]) (rest := [.ref qb]) ⟨hx, hb, hml, hown, hts⟩ (c_X3_at_in l dC dI cyI cyZ qo qa t n i (by omega) (by omega)) (cwV 1 hts gX1_encode_X3_at rfl rfl rfl (by decide +kernel) ⟨Nat.le_of_ble_eq_true rfl, Nat.le_of_ble_eq_true rfl⟩) ⟨zz_blR, va_recv hKc hPc (ci := 2) (q0 := 0) rfl rfl, fun U hU hW => ⟨rfl, by rw [hU]; exact hPc, va_K.moved hW.alike hKc⟩⟩ rfl rfl hl.1 rfl (lv_room (Nat.le_of_ble_eq_true rfl)) dX1_encode_78 ⟨Nat.zero_le _, Nat.zero_le _⟩)) (fun r_78 hr_78 => ?_)
          have hr_78 : r_78 = t i := hr_78
          subst hr_78
          have hPc := hP.sub (ws' := [(qb, .inr (2, [.ref qba, .int (nI m)])), (qba, .inl (cyI, 450, .inl (upd F g (F g ||| (nI 1 <<< (nI (k % 8) &&& 31))))))]) [2, 3] rfl
          have hKc := hK.sub (tys' := [(cyI, .int), (cyZ, .boolean)]) [0, 1] rfl
          have hDc := hD.sub (ws' := [(qb, .inr (2, [.ref qba, .int (nI m)])), (qba, .inl (cyI, 450, .inl (upd F g (F g ||| (nI 1 <<< (nI (k % 8) &&& 31))))))]) [2, 3] (by decide) rfl
          have hFc := va_free (wc := [(qb, .inr (2, [.ref qba, .int (nI m)])), (qba, .inl (cyI, 450, .inl (upd F g (F g ||| (nI 1 <<< (nI (k % 8) &&& 31))))))]) hD hS hA [2, 3] rfl
          refine va_callv (va_runV (As := [.int (t i)]) (rest := []) ⟨hx, hb, hml, hown, hts⟩ (c_X3_append l dC dI cyI cyZ qb qba H.size (upd F g (F g ||| (nI 1 <<< (nI (k % 8) &&& 31)))) m (t i) (by omega)) (cwV 1 hts gX1_encode_X3_append rfl rfl rfl (by decide +kernel) ⟨Nat.le_of_ble_eq_true rfl, Nat.le_of_ble_eq_true rfl⟩) ⟨zz_blW, va_recv hKc hPc (ci := 2) (q0 := 0) rfl rfl, fun U hU hW => ⟨rfl, by rw [hU], by rw [hU]; exact hPc, va_K.moved hW.alike hKc, hDc.weaken (fun _ _ _ _ => trivial)⟩⟩ rfl rfl hl.1 rfl (lv_room (Nat.le_of_ble_eq_true rfl)) dX1_encode_81 ⟨Nat.zero_le _, Nat.zero_le _⟩) hS (fun q _ h => hFc q h) hFc (fun uU tS H1 locs ht9 hvm9 hw9 hB9 hz1 hk1 hS => ?_)
          obtain ⟨hP1, hK1, hD1⟩ := hB9
          rw [ht9] at hP1
          have hK1 := va_K.moved hvm9.symm hK1
          obtain ⟨hP, hD⟩ := va_join (wr := [(qo, .inr (2, [.ref qa, .int (nI n)])), (qa, .inl (cyI, 450, .inl t))]) (w1 := [(qb, .inr (2, [.ref qba, .int (nI (m + 1))])), (qba, .inl (cyI, 450, .inl (upd (upd F g (F g ||| (nI 1 <<< (nI (k % 8) &&& 31)))) m ((t i) &&& nI 255))))]) hP hD [2, 3] [0, 1] rfl rfl (by decide) (by decide) hk1 hFc hP1 hD1
          generalize H1 = H at hP hS ⊢
          have hP : va_P (dC, dI) vwCl [(qo, .inr (2, [.ref qa, .int (nI n)])), (qa, .inl (cyI, 450, .inl t)), (qb, .inr (2, [.ref qba, .int (nI (m + 1))])), (qba, .inl (cyI, 450, .inl (upd (upd F g (F g ||| (nI 1 <<< (nI (k % 8) &&& 31)))) m ((t i) &&& nI 255))))] H := hP
          have hD : va_D A [(qo, .inr (2, [.ref qa, .int (nI n)])), (qa, .inl (cyI, 450, .inl t)), (qb, .inr (2, [.ref qba, .int (nI (m + 1))])), (qba, .inl (cyI, 450, .inl (upd (upd F g (F g ||| (nI 1 <<< (nI (k % 8) &&& 31)))) m ((t i) &&& nI 255))))] := hD
          have eqm : (t i) &&& nI 255 = (t i) := zO_and (ht i hi9)
          rw [eqm] at hP hD
          have hP : va_P (dC, dI) vwCl [(qo, .inr (2, [.ref qa, .int (nI n)])), (qa, .inl (cyI, 450, .inl t)), (qb, .inr (2, [.ref qba, .int (nI (m + 1))])), (qba, .inl (cyI, 450, .inl (upd (upd F g (F g ||| (nI 1 <<< (nI (k % 8) &&& 31)))) m (t i))))] H := hP
          have hD : va_D A [(qo, .inr (2, [.ref qa, .int (nI n)])), (qa, .inl (cyI, 450, .inl t)), (qb, .inr (2, [.ref qba, .int (nI (m + 1))])), (qba, .inl (cyI, 450, .inl (upd (upd F g (F g ||| (nI 1 <<< (nI (k % 8) &&& 31)))) m (t i))))] := hD
          refine lv_iload hx hb dX1_encode_84 (lv_at hl 7 rfl) ?_
          refine lv_iconst (v := nI 1) hx hb dX1_encode_86 (by decide) ?_
          refine lv_iadd hx hb dX1_encode_87 ?_
          refine zz_top (nI_add i 1) ?_
          refine lv_istore (lv' := [(4, .int (nI (i + 1))), (7, .int (nI (zBD t n i))), (6, .int (nI (k % 8))), (0, .ref qo), (1, .ref qb), (2, .int (nI g)), (3, .int (nI k)), (5, .int (nI i))]) hx hb dX1_encode_88 hl (by decide) rfl (fun ls hl => ?_)
          refine lv_goto (tgt := 126) hx hb dX1_encode_90 (by decide) ?_
          refine lv_iinc (v := nI (k + 1)) (lv' := [(3, .int (nI (k + 1))), (4, .int (nI (i + 1))), (7, .int (nI (zBD t n i))), (6, .int (nI (k % 8))), (0, .ref qo), (1, .ref qb), (2, .int (nI g)), (5, .int (nI i))]) hx hb dX1_encode_126 hl (k := 6) rfl (nI_add k 1) (by decide) rfl (fun ls hl => ?_)
          refine lv_iinc (v := nI (i + 1)) (lv' := [(5, .int (nI (i + 1))), (3, .int (nI (k + 1))), (4, .int (nI (i + 1))), (7, .int (nI (zBD t n i))), (6, .int (nI (k % 8))), (0, .ref qo), (1, .ref qb), (2, .int (nI g))]) hx hb dX1_encode_129 hl (k := 7) rfl (nI_add i 1) (by decide) rfl (fun ls hl => ?_)
          refine lv_goto (tgt := 14) hx hb dX1_encode_132 (by decide) ?_
          exact ih14 (i + 1, i + 1, m + 1, g, k + 1, f9, upd (upd (o) g ((o) g ||| (nI 1 <<< (nI (k % 8) &&& 31)))) (m) (t i), upd (upd F g (F g ||| (nI 1 <<< (nI (k % 8) &&& 31)))) m (t i)) _ _ _ ⟨by omega, by omega, by omega, by omega, by omega, fun _ => by omega, (eF_one1 hi9 (Nat.pos_iff_ne_zero.mp c_41) (zBD_0.mp c_64)).symm.trans hE, upd_new (upd_cong hF (congrArg (fun y => y ||| (nI 1 <<< (nI (k % 8) &&& 31))) (hF g (by omega)))) rfl, hP, hD, hS, lv_sub hl [5, 6, 7, 1, 2, 0] rfl⟩ (by first | omega | (dsimp only; omega))
      ·
        refine lv_aload_n hx hb dX1_encode_44 rfl (lv_at hl 2 rfl) ?_
        have hPc := hP.sub (ws' := [(qb, .inr (2, [.ref qba, .int (nI m)])), (qba, .inl (cyI, 450, .inl F))]) [2, 3] rfl
        have hKc := hK.sub (tys' := [(cyI, .int), (cyZ, .boolean)]) [0, 1] rfl
        refine vp_callSi (va_Run.run (va_runV (As := []) (rest := []) ⟨hx, hb, hml, hown, hts⟩ (c_X3_size l dC dI cyI cyZ qb qba F m) (cwV 0 hts gX1_encode_X3_size rfl rfl rfl (by decide +kernel) ⟨Nat.le_of_ble_eq_true rfl, Nat.le_of_ble_eq_true rfl⟩) ⟨zz_blR, va_recv hKc hPc (ci := 2) (q0 := 0) rfl rfl, fun U hU hW => ⟨rfl, by rw [hU]; exact hPc, va_K.moved hW.alike hKc⟩⟩ rfl rfl hl.1 rfl (lv_room (Nat.le_of_ble_eq_true rfl)) dX1_encode_45 ⟨Nat.zero_le _, Nat.zero_le _⟩)) (fun r_45 hr_45 => ?_)
        have hr_45 : r_45 = nI m := hr_45
        subst hr_45
        refine lv_istore_n (lv' := [(2, .int (nI m)), (6, .int (nI (k % 8))), (0, .ref qo), (1, .ref qb), (3, .int (nI k)), (4, .int (nI i)), (5, .int (nI i))]) hx hb dX1_encode_48 rfl hl (by decide) rfl (fun ls hl => ?_)
        refine lv_aload_n hx hb dX1_encode_49 rfl (lv_at hl 3 rfl) ?_
        refine lv_iconst (v := nI 0) hx hb dX1_encode_50 (by decide) ?_
        have hPc := hP.sub (ws' := [(qb, .inr (2, [.ref qba, .int (nI m)])), (qba, .inl (cyI, 450, .inl F))]) [2, 3] rfl
        have hKc := hK.sub (tys' := [(cyI, .int), (cyZ, .boolean)]) [0, 1] rfl
        have hDc := hD.sub (ws' := [(qb, .inr (2, [.ref qba, .int (nI m)])), (qba, .inl (cyI, 450, .inl F))]) [2, 3] (by decide) rfl
        have hFc := va_free (wc := [(qb, .inr (2, [.ref qba, .int (nI m)])), (qba, .inl (cyI, 450, .inl F))]) hD hS hA [2, 3] rfl
        refine va_callv (va_runV (As := [.int (nI 0)]) (rest := []) ⟨hx, hb, hml, hown, hts⟩ (c_X3_append l dC dI cyI cyZ qb qba H.size F m (nI 0) (by omega)) (cwV 1 hts gX1_encode_X3_append rfl rfl rfl (by decide +kernel) ⟨Nat.le_of_ble_eq_true rfl, Nat.le_of_ble_eq_true rfl⟩) ⟨zz_blW, va_recv hKc hPc (ci := 2) (q0 := 0) rfl rfl, fun U hU hW => ⟨rfl, by rw [hU], by rw [hU]; exact hPc, va_K.moved hW.alike hKc, hDc.weaken (fun _ _ _ _ => trivial)⟩⟩ rfl rfl hl.1 rfl (lv_room (Nat.le_of_ble_eq_true rfl)) dX1_encode_51 ⟨Nat.zero_le _, Nat.zero_le _⟩) hS (fun q _ h => hFc q h) hFc (fun uU tS H1 locs ht9 hvm9 hw9 hB9 hz1 hk1 hS => ?_)
        obtain ⟨hP1, hK1, hD1⟩ := hB9
        rw [ht9] at hP1
        have hK1 := va_K.moved hvm9.symm hK1
        obtain ⟨hP, hD⟩ := va_join (wr := [(qo, .inr (2, [.ref qa, .int (nI n)])), (qa, .inl (cyI, 450, .inl t))]) (w1 := [(qb, .inr (2, [.ref qba, .int (nI (m + 1))])), (qba, .inl (cyI, 450, .inl (upd F m ((nI 0) &&& nI 255))))]) hP hD [2, 3] [0, 1] rfl rfl (by decide) (by decide) hk1 hFc hP1 hD1
        generalize H1 = H at hP hS ⊢
        have hP : va_P (dC, dI) vwCl [(qo, .inr (2, [.ref qa, .int (nI n)])), (qa, .inl (cyI, 450, .inl t)), (qb, .inr (2, [.ref qba, .int (nI (m + 1))])), (qba, .inl (cyI, 450, .inl (upd F m ((nI 0) &&& nI 255))))] H := hP
        have hD : va_D A [(qo, .inr (2, [.ref qa, .int (nI n)])), (qa, .inl (cyI, 450, .inl t)), (qb, .inr (2, [.ref qba, .int (nI (m + 1))])), (qba, .inl (cyI, 450, .inl (upd F m ((nI 0) &&& nI 255))))] := hD
        have eqm : (nI 0) &&& nI 255 = (nI 0) := zO_and (zO_0)
        rw [eqm] at hP hD
        have hP : va_P (dC, dI) vwCl [(qo, .inr (2, [.ref qa, .int (nI n)])), (qa, .inl (cyI, 450, .inl t)), (qb, .inr (2, [.ref qba, .int (nI (m + 1))])), (qba, .inl (cyI, 450, .inl (upd F m (nI 0))))] H := hP
        have hD : va_D A [(qo, .inr (2, [.ref qa, .int (nI n)])), (qa, .inl (cyI, 450, .inl t)), (qb, .inr (2, [.ref qba, .int (nI (m + 1))])), (qba, .inl (cyI, 450, .inl (upd F m (nI 0))))] := hD
        refine lv_aload_n hx hb dX1_encode_54 rfl (lv_at hl 2 rfl) ?_
        refine lv_iload hx hb dX1_encode_55 (lv_at hl 6 rfl) ?_
        have hPc := hP.sub (ws' := [(qo, .inr (2, [.ref qa, .int (nI n)])), (qa, .inl (cyI, 450, .inl t))]) [0, 1] rfl
        have hKc := hK.sub (tys' := [(cyI, .int), (cyZ, .boolean)]) [0, 1] rfl
        refine vp_callSi (va_Run.run (va_runS (As := [.ref qo, .int (nI i)]) (rest := []) ⟨hx, hb, hml, hown, hts⟩ (c_X1_bestDistance l dC dI cyI cyZ qo qa t n i (by omega) (by omega)) (va_cwS 2 hts gX1_encode_X1_bestDistance rfl rfl rfl (by decide +kernel) ⟨Nat.le_of_ble_eq_true rfl, Nat.le_of_ble_eq_true rfl⟩) ⟨zz_blR, fun U hU hW => ⟨rfl, by rw [hU]; exact hPc, va_K.moved hW.alike hKc⟩⟩ rfl rfl hl.1 rfl (lv_room (Nat.le_of_ble_eq_true rfl)) dX1_encode_57 ⟨Nat.zero_le _, Nat.zero_le _⟩)) (fun r_57 hr_57 => ?_)
        have hr_57 : r_57 = nI (zBD t n i) := hr_57
        subst hr_57
        refine lv_istore (lv' := [(7, .int (nI (zBD t n i))), (2, .int (nI m)), (6, .int (nI (k % 8))), (0, .ref qo), (1, .ref qb), (3, .int (nI k)), (4, .int (nI i)), (5, .int (nI i))]) hx hb dX1_encode_60 hl (by decide) rfl (fun ls hl => ?_)
        refine lv_iload hx hb dX1_encode_62 (lv_at hl 0 rfl) ?_
        refine zn_if_ne (tgt := 93) hx hb dX1_encode_64 (by decide) (by omega) (fun c_64 => ?_) (fun c_64 => ?_)
        ·
          have hb3 := zBD_pos c_64
          have eB := zBD_p hb3
          obtain ⟨z1, z2, z3, z4⟩ := zB_in t n i
          have z5 := z4 (by omega)
          obtain ⟨zc1, zc2⟩ := zcap_le n i
          refine lv_aload_n hx hb dX1_encode_93 rfl (lv_at hl 3 rfl) ?_
          refine lv_iload hx hb dX1_encode_94 (lv_at hl 7 rfl) ?_
          refine lv_iload hx hb dX1_encode_96 (lv_at hl 0 rfl) ?_
          have hPc := hP.sub (ws' := [(qo, .inr (2, [.ref qa, .int (nI n)])), (qa, .inl (cyI, 450, .inl t))]) [0, 1] rfl
          have hKc := hK.sub (tys' := [(cyI, .int), (cyZ, .boolean)]) [0, 1] rfl
          refine vp_callSi (va_Run.run (va_runS (As := [.ref qo, .int (nI i), .int (nI (zBD t n i))]) (rest := []) ⟨hx, hb, hml, hown, hts⟩ (c_X1_rowLength l dC dI cyI cyZ qo qa t n i (zBD t n i) (by omega) (by omega) (by omega) (by omega)) (va_cwS 3 hts gX1_encode_X1_rowLength rfl rfl rfl (by decide +kernel) ⟨Nat.le_of_ble_eq_true rfl, Nat.le_of_ble_eq_true rfl⟩) ⟨zz_blR, fun U hU hW => ⟨rfl, by rw [hU]; exact hPc, va_K.moved hW.alike hKc⟩⟩ rfl rfl hl.1 rfl (lv_room (Nat.le_of_ble_eq_true rfl)) dX1_encode_98 ⟨Nat.zero_le _, Nat.zero_le _⟩)) (fun r_98 hr_98 => ?_)
          have hr_98 : r_98 = nI (zRun t n i (zBD t n i)) := hr_98
          subst hr_98
          have eR : zRun t n i (zBD t n i) = (zB t n i).2 := by rw [eB]; exact zBst_run t n i _ (by show 0 < (zB t n i).2; omega)
          refine zz_top (congrArg nI eR) ?_
          refine lv_istore (lv' := [(8, .int (nI ((zB t n i).2))), (7, .int (nI (zBD t n i))), (2, .int (nI m)), (6, .int (nI (k % 8))), (0, .ref qo), (1, .ref qb), (3, .int (nI k)), (4, .int (nI i)), (5, .int (nI i))]) hx hb dX1_encode_101 hl (by decide) rfl (fun ls hl => ?_)
          refine lv_aload_n hx hb dX1_encode_103 rfl (lv_at hl 5 rfl) ?_
          refine lv_iload hx hb dX1_encode_104 (lv_at hl 1 rfl) ?_
          refine zz_top (congrArg nI eB) ?_
          refine lv_iconst (v := nI 1) hx hb dX1_encode_106 (by decide) ?_
          refine lv_isub hx hb dX1_encode_107 ?_
          refine zz_top (pk_sub (a := (zB t n i).1) (b := 1) (by omega)) ?_
          have hPc := hP.sub (ws' := [(qb, .inr (2, [.ref qba, .int (nI (m + 1))])), (qba, .inl (cyI, 450, .inl (upd F m (nI 0))))]) [2, 3] rfl
          have hKc := hK.sub (tys' := [(cyI, .int), (cyZ, .boolean)]) [0, 1] rfl
          have hDc := hD.sub (ws' := [(qb, .inr (2, [.ref qba, .int (nI (m + 1))])), (qba, .inl (cyI, 450, .inl (upd F m (nI 0))))]) [2, 3] (by decide) rfl
          have hFc := va_free (wc := [(qb, .inr (2, [.ref qba, .int (nI (m + 1))])), (qba, .inl (cyI, 450, .inl (upd F m (nI 0))))]) hD hS hA [2, 3] rfl
          refine va_callv (va_runV (As := [.int (nI (((zB t n i).1) - 1))]) (rest := []) ⟨hx, hb, hml, hown, hts⟩ (c_X3_append l dC dI cyI cyZ qb qba H.size (upd F m (nI 0)) (m + 1) (nI (((zB t n i).1) - 1)) (by omega)) (cwV 1 hts gX1_encode_X3_append rfl rfl rfl (by decide +kernel) ⟨Nat.le_of_ble_eq_true rfl, Nat.le_of_ble_eq_true rfl⟩) ⟨zz_blW, va_recv hKc hPc (ci := 2) (q0 := 0) rfl rfl, fun U hU hW => ⟨rfl, by rw [hU], by rw [hU]; exact hPc, va_K.moved hW.alike hKc, hDc.weaken (fun _ _ _ _ => trivial)⟩⟩ rfl rfl hl.1 rfl (lv_room (Nat.le_of_ble_eq_true rfl)) dX1_encode_108 ⟨Nat.zero_le _, Nat.zero_le _⟩) hS (fun q _ h => hFc q h) hFc (fun uU tS H1 locs ht9 hvm9 hw9 hB9 hz1 hk1 hS => ?_)
          obtain ⟨hP1, hK1, hD1⟩ := hB9
          rw [ht9] at hP1
          have hK1 := va_K.moved hvm9.symm hK1
          obtain ⟨hP, hD⟩ := va_join (wr := [(qo, .inr (2, [.ref qa, .int (nI n)])), (qa, .inl (cyI, 450, .inl t))]) (w1 := [(qb, .inr (2, [.ref qba, .int (nI ((m + 1) + 1))])), (qba, .inl (cyI, 450, .inl (upd (upd F m (nI 0)) (m + 1) ((nI (((zB t n i).1) - 1)) &&& nI 255))))]) hP hD [2, 3] [0, 1] rfl rfl (by decide) (by decide) hk1 hFc hP1 hD1
          generalize H1 = H at hP hS ⊢
          have hP : va_P (dC, dI) vwCl [(qo, .inr (2, [.ref qa, .int (nI n)])), (qa, .inl (cyI, 450, .inl t)), (qb, .inr (2, [.ref qba, .int (nI ((m + 1) + 1))])), (qba, .inl (cyI, 450, .inl (upd (upd F m (nI 0)) (m + 1) ((nI (((zB t n i).1) - 1)) &&& nI 255))))] H := hP
          have hD : va_D A [(qo, .inr (2, [.ref qa, .int (nI n)])), (qa, .inl (cyI, 450, .inl t)), (qb, .inr (2, [.ref qba, .int (nI ((m + 1) + 1))])), (qba, .inl (cyI, 450, .inl (upd (upd F m (nI 0)) (m + 1) ((nI (((zB t n i).1) - 1)) &&& nI 255))))] := hD
          have eqm : (nI (((zB t n i).1) - 1)) &&& nI 255 = (nI (((zB t n i).1) - 1)) := zO_and (⟨_, by omega, rfl⟩)
          rw [eqm] at hP hD
          have hP : va_P (dC, dI) vwCl [(qo, .inr (2, [.ref qa, .int (nI n)])), (qa, .inl (cyI, 450, .inl t)), (qb, .inr (2, [.ref qba, .int (nI ((m + 1) + 1))])), (qba, .inl (cyI, 450, .inl (upd (upd F m (nI 0)) (m + 1) (nI (((zB t n i).1) - 1)))))] H := hP
          have hD : va_D A [(qo, .inr (2, [.ref qa, .int (nI n)])), (qa, .inl (cyI, 450, .inl t)), (qb, .inr (2, [.ref qba, .int (nI ((m + 1) + 1))])), (qba, .inl (cyI, 450, .inl (upd (upd F m (nI 0)) (m + 1) (nI (((zB t n i).1) - 1)))))] := hD
          refine lv_aload_n hx hb dX1_encode_111 rfl (lv_at hl 5 rfl) ?_
          refine lv_iload hx hb dX1_encode_112 (lv_at hl 0 rfl) ?_
          refine lv_iconst (v := nI 3) hx hb dX1_encode_114 (by decide) ?_
          refine lv_isub hx hb dX1_encode_115 ?_
          refine zz_top (pk_sub (a := (zB t n i).2) (b := 3) (by omega)) ?_
          have hPc := hP.sub (ws' := [(qb, .inr (2, [.ref qba, .int (nI ((m + 1) + 1))])), (qba, .inl (cyI, 450, .inl (upd (upd F m (nI 0)) (m + 1) (nI (((zB t n i).1) - 1)))))]) [2, 3] rfl
          have hKc := hK.sub (tys' := [(cyI, .int), (cyZ, .boolean)]) [0, 1] rfl
          have hDc := hD.sub (ws' := [(qb, .inr (2, [.ref qba, .int (nI ((m + 1) + 1))])), (qba, .inl (cyI, 450, .inl (upd (upd F m (nI 0)) (m + 1) (nI (((zB t n i).1) - 1)))))]) [2, 3] (by decide) rfl
          have hFc := va_free (wc := [(qb, .inr (2, [.ref qba, .int (nI ((m + 1) + 1))])), (qba, .inl (cyI, 450, .inl (upd (upd F m (nI 0)) (m + 1) (nI (((zB t n i).1) - 1)))))]) hD hS hA [2, 3] rfl
          refine va_callv (va_runV (As := [.int (nI (((zB t n i).2) - 3))]) (rest := []) ⟨hx, hb, hml, hown, hts⟩ (c_X3_append l dC dI cyI cyZ qb qba H.size (upd (upd F m (nI 0)) (m + 1) (nI (((zB t n i).1) - 1))) ((m + 1) + 1) (nI (((zB t n i).2) - 3)) (by omega)) (cwV 1 hts gX1_encode_X3_append rfl rfl rfl (by decide +kernel) ⟨Nat.le_of_ble_eq_true rfl, Nat.le_of_ble_eq_true rfl⟩) ⟨zz_blW, va_recv hKc hPc (ci := 2) (q0 := 0) rfl rfl, fun U hU hW => ⟨rfl, by rw [hU], by rw [hU]; exact hPc, va_K.moved hW.alike hKc, hDc.weaken (fun _ _ _ _ => trivial)⟩⟩ rfl rfl hl.1 rfl (lv_room (Nat.le_of_ble_eq_true rfl)) dX1_encode_116 ⟨Nat.zero_le _, Nat.zero_le _⟩) hS (fun q _ h => hFc q h) hFc (fun uU tS H1 locs ht9 hvm9 hw9 hB9 hz1 hk1 hS => ?_)
          obtain ⟨hP1, hK1, hD1⟩ := hB9
          rw [ht9] at hP1
          have hK1 := va_K.moved hvm9.symm hK1
          obtain ⟨hP, hD⟩ := va_join (wr := [(qo, .inr (2, [.ref qa, .int (nI n)])), (qa, .inl (cyI, 450, .inl t))]) (w1 := [(qb, .inr (2, [.ref qba, .int (nI (((m + 1) + 1) + 1))])), (qba, .inl (cyI, 450, .inl (upd (upd (upd F m (nI 0)) (m + 1) (nI (((zB t n i).1) - 1))) ((m + 1) + 1) ((nI (((zB t n i).2) - 3)) &&& nI 255))))]) hP hD [2, 3] [0, 1] rfl rfl (by decide) (by decide) hk1 hFc hP1 hD1
          generalize H1 = H at hP hS ⊢
          have hP : va_P (dC, dI) vwCl [(qo, .inr (2, [.ref qa, .int (nI n)])), (qa, .inl (cyI, 450, .inl t)), (qb, .inr (2, [.ref qba, .int (nI (((m + 1) + 1) + 1))])), (qba, .inl (cyI, 450, .inl (upd (upd (upd F m (nI 0)) (m + 1) (nI (((zB t n i).1) - 1))) ((m + 1) + 1) ((nI (((zB t n i).2) - 3)) &&& nI 255))))] H := hP
          have hD : va_D A [(qo, .inr (2, [.ref qa, .int (nI n)])), (qa, .inl (cyI, 450, .inl t)), (qb, .inr (2, [.ref qba, .int (nI (((m + 1) + 1) + 1))])), (qba, .inl (cyI, 450, .inl (upd (upd (upd F m (nI 0)) (m + 1) (nI (((zB t n i).1) - 1))) ((m + 1) + 1) ((nI (((zB t n i).2) - 3)) &&& nI 255))))] := hD
          have eqm : (nI (((zB t n i).2) - 3)) &&& nI 255 = (nI (((zB t n i).2) - 3)) := zO_and (⟨_, by omega, rfl⟩)
          rw [eqm] at hP hD
          have hP : va_P (dC, dI) vwCl [(qo, .inr (2, [.ref qa, .int (nI n)])), (qa, .inl (cyI, 450, .inl t)), (qb, .inr (2, [.ref qba, .int (nI (((m + 1) + 1) + 1))])), (qba, .inl (cyI, 450, .inl (upd (upd (upd F m (nI 0)) (m + 1) (nI (((zB t n i).1) - 1))) ((m + 1) + 1) (nI (((zB t n i).2) - 3)))))] H := hP
          have hD : va_D A [(qo, .inr (2, [.ref qa, .int (nI n)])), (qa, .inl (cyI, 450, .inl t)), (qb, .inr (2, [.ref qba, .int (nI (((m + 1) + 1) + 1))])), (qba, .inl (cyI, 450, .inl (upd (upd (upd F m (nI 0)) (m + 1) (nI (((zB t n i).1) - 1))) ((m + 1) + 1) (nI (((zB t n i).2) - 3)))))] := hD
          refine lv_iload hx hb dX1_encode_119 (lv_at hl 8 rfl) ?_
          refine lv_iload hx hb dX1_encode_121 (lv_at hl 0 rfl) ?_
          refine lv_iadd hx hb dX1_encode_123 ?_
          refine zz_top (nI_add i ((zB t n i).2)) ?_
          refine lv_istore (lv' := [(4, .int (nI (i + ((zB t n i).2)))), (8, .int (nI ((zB t n i).2))), (7, .int (nI (zBD t n i))), (2, .int (nI m)), (6, .int (nI (k % 8))), (0, .ref qo), (1, .ref qb), (3, .int (nI k)), (5, .int (nI i))]) hx hb dX1_encode_124 hl (by decide) rfl (fun ls hl => ?_)
          refine lv_iinc (v := nI (k + 1)) (lv' := [(3, .int (nI (k + 1))), (4, .int (nI (i + ((zB t n i).2)))), (8, .int (nI ((zB t n i).2))), (7, .int (nI (zBD t n i))), (2, .int (nI m)), (6, .int (nI (k % 8))), (0, .ref qo), (1, .ref qb), (5, .int (nI i))]) hx hb dX1_encode_126 hl (k := 7) rfl (nI_add k 1) (by decide) rfl (fun ls hl => ?_)
          refine lv_iinc (v := nI (i + 1)) (lv' := [(5, .int (nI (i + 1))), (3, .int (nI (k + 1))), (4, .int (nI (i + ((zB t n i).2)))), (8, .int (nI ((zB t n i).2))), (7, .int (nI (zBD t n i))), (2, .int (nI m)), (6, .int (nI (k % 8))), (0, .ref qo), (1, .ref qb)]) hx hb dX1_encode_129 hl (k := 8) rfl (nI_add i 1) (by decide) rfl (fun ls hl => ?_)
          refine lv_goto (tgt := 14) hx hb dX1_encode_132 (by decide) ?_
          exact ih14 (i + 1, i + ((zB t n i).2), ((m + 1) + 1) + 1, m, k + 1, f9, upd (upd (upd o m (nI 0)) (m + 1) (nI ((zB t n i).1 - 1))) (m + 2) (nI ((zB t n i).2 - 3)), upd (upd (upd F m (nI 0)) (m + 1) (nI (((zB t n i).1) - 1))) ((m + 1) + 1) (nI (((zB t n i).2) - 3))) _ _ _ ⟨by omega, by omega, by omega, by omega, by omega, fun _ => by omega, (eF_row0 hi9 c_41 hb3).symm.trans hE, upd_new (upd_new (upd_new hF rfl) rfl) rfl, hP, hD, hS, lv_sub hl [7, 8, 5, 1, 2, 0] rfl⟩ (by first | omega | (dsimp only; omega))
        ·
          refine lv_aload_n hx hb dX1_encode_67 rfl (lv_at hl 4 rfl) ?_
          refine lv_iload_n hx hb dX1_encode_68 rfl (lv_at hl 1 rfl) ?_
          refine lv_iload hx hb dX1_encode_69 (lv_at hl 2 rfl) ?_
          have hPc := hP.sub (ws' := [(qb, .inr (2, [.ref qba, .int (nI (m + 1))])), (qba, .inl (cyI, 450, .inl (upd F m (nI 0))))]) [2, 3] rfl
          have hKc := hK.sub (tys' := [(cyI, .int), (cyZ, .boolean)]) [0, 1] rfl
          have hDc := hD.sub (ws' := [(qb, .inr (2, [.ref qba, .int (nI (m + 1))])), (qba, .inl (cyI, 450, .inl (upd F m (nI 0))))]) [2, 3] (by decide) rfl
          have hFc := va_free (wc := [(qb, .inr (2, [.ref qba, .int (nI (m + 1))])), (qba, .inl (cyI, 450, .inl (upd F m (nI 0))))]) hD hS hA [2, 3] rfl
          refine va_callv (va_runV (As := [.int (nI m), .int (nI (k % 8))]) (rest := []) ⟨hx, hb, hml, hown, hts⟩ (c_X3_setBit l dC dI cyI cyZ qb qba H.size (upd F m (nI 0)) (m + 1) m (k % 8) (by omega) (by omega) (by omega)) (cwV 2 hts gX1_encode_X3_setBit rfl rfl rfl (by decide +kernel) ⟨Nat.le_of_ble_eq_true rfl, Nat.le_of_ble_eq_true rfl⟩) ⟨zz_blW, va_recv hKc hPc (ci := 2) (q0 := 0) rfl rfl, fun U hU hW => ⟨rfl, by rw [hU], by rw [hU]; exact hPc, va_K.moved hW.alike hKc, hDc.weaken (fun _ _ _ _ => trivial)⟩⟩ rfl rfl hl.1 rfl (lv_room (Nat.le_of_ble_eq_true rfl)) dX1_encode_71 ⟨Nat.zero_le _, Nat.zero_le _⟩) hS (fun q _ h => hFc q h) hFc (fun uU tS H1 locs ht9 hvm9 hw9 hB9 hz1 hk1 hS => ?_)
          obtain ⟨hP1, hK1, hD1⟩ := hB9
          rw [ht9] at hP1
          have hK1 := va_K.moved hvm9.symm hK1
          obtain ⟨hP, hD⟩ := va_join (wr := [(qo, .inr (2, [.ref qa, .int (nI n)])), (qa, .inl (cyI, 450, .inl t))]) (w1 := [(qb, .inr (2, [.ref qba, .int (nI (m + 1))])), (qba, .inl (cyI, 450, .inl (upd (upd F m (nI 0)) m ((upd F m (nI 0)) m ||| (nI 1 <<< (nI (k % 8) &&& 31))))))]) hP hD [2, 3] [0, 1] rfl rfl (by decide) (by decide) hk1 hFc hP1 hD1
          generalize H1 = H at hP hS ⊢
          have hP : va_P (dC, dI) vwCl [(qo, .inr (2, [.ref qa, .int (nI n)])), (qa, .inl (cyI, 450, .inl t)), (qb, .inr (2, [.ref qba, .int (nI (m + 1))])), (qba, .inl (cyI, 450, .inl (upd (upd F m (nI 0)) m ((upd F m (nI 0)) m ||| (nI 1 <<< (nI (k % 8) &&& 31))))))] H := hP
          have hD : va_D A [(qo, .inr (2, [.ref qa, .int (nI n)])), (qa, .inl (cyI, 450, .inl t)), (qb, .inr (2, [.ref qba, .int (nI (m + 1))])), (qba, .inl (cyI, 450, .inl (upd (upd F m (nI 0)) m ((upd F m (nI 0)) m ||| (nI 1 <<< (nI (k % 8) &&& 31))))))] := hD
          refine lv_aload_n hx hb dX1_encode_74 rfl (lv_at hl 4 rfl) ?_
          refine lv_aload_n hx hb dX1_encode_75 rfl (lv_at hl 3 rfl) ?_
          refine lv_iload hx hb dX1_encode_76 (lv_at hl 7 rfl) ?_
          have hPc := hP.sub (ws' := [(qo, .inr (2, [.ref qa, .int (nI n)])), (qa, .inl (cyI, 450, .inl t))]) [0, 1] rfl
          have hKc := hK.sub (tys' := [(cyI, .int), (cyZ, .boolean)]) [0, 1] rfl
          refine vp_callSi (va_Run.run (va_runV (As := [.int (nI i)]) (rest := [.ref qb]) ⟨hx, hb, hml, hown, hts⟩ (c_X3_at_in l dC dI cyI cyZ qo qa t n i (by omega) (by omega)) (cwV 1 hts gX1_encode_X3_at rfl rfl rfl (by decide +kernel) ⟨Nat.le_of_ble_eq_true rfl, Nat.le_of_ble_eq_true rfl⟩) ⟨zz_blR, va_recv hKc hPc (ci := 2) (q0 := 0) rfl rfl, fun U hU hW => ⟨rfl, by rw [hU]; exact hPc, va_K.moved hW.alike hKc⟩⟩ rfl rfl hl.1 rfl (lv_room (Nat.le_of_ble_eq_true rfl)) dX1_encode_78 ⟨Nat.zero_le _, Nat.zero_le _⟩)) (fun r_78 hr_78 => ?_)
          have hr_78 : r_78 = t i := hr_78
          subst hr_78
          have hPc := hP.sub (ws' := [(qb, .inr (2, [.ref qba, .int (nI (m + 1))])), (qba, .inl (cyI, 450, .inl (upd (upd F m (nI 0)) m ((upd F m (nI 0)) m ||| (nI 1 <<< (nI (k % 8) &&& 31))))))]) [2, 3] rfl
          have hKc := hK.sub (tys' := [(cyI, .int), (cyZ, .boolean)]) [0, 1] rfl
          have hDc := hD.sub (ws' := [(qb, .inr (2, [.ref qba, .int (nI (m + 1))])), (qba, .inl (cyI, 450, .inl (upd (upd F m (nI 0)) m ((upd F m (nI 0)) m ||| (nI 1 <<< (nI (k % 8) &&& 31))))))]) [2, 3] (by decide) rfl
          have hFc := va_free (wc := [(qb, .inr (2, [.ref qba, .int (nI (m + 1))])), (qba, .inl (cyI, 450, .inl (upd (upd F m (nI 0)) m ((upd F m (nI 0)) m ||| (nI 1 <<< (nI (k % 8) &&& 31))))))]) hD hS hA [2, 3] rfl
          refine va_callv (va_runV (As := [.int (t i)]) (rest := []) ⟨hx, hb, hml, hown, hts⟩ (c_X3_append l dC dI cyI cyZ qb qba H.size (upd (upd F m (nI 0)) m ((upd F m (nI 0)) m ||| (nI 1 <<< (nI (k % 8) &&& 31)))) (m + 1) (t i) (by omega)) (cwV 1 hts gX1_encode_X3_append rfl rfl rfl (by decide +kernel) ⟨Nat.le_of_ble_eq_true rfl, Nat.le_of_ble_eq_true rfl⟩) ⟨zz_blW, va_recv hKc hPc (ci := 2) (q0 := 0) rfl rfl, fun U hU hW => ⟨rfl, by rw [hU], by rw [hU]; exact hPc, va_K.moved hW.alike hKc, hDc.weaken (fun _ _ _ _ => trivial)⟩⟩ rfl rfl hl.1 rfl (lv_room (Nat.le_of_ble_eq_true rfl)) dX1_encode_81 ⟨Nat.zero_le _, Nat.zero_le _⟩) hS (fun q _ h => hFc q h) hFc (fun uU tS H1 locs ht9 hvm9 hw9 hB9 hz1 hk1 hS => ?_)
          obtain ⟨hP1, hK1, hD1⟩ := hB9
          rw [ht9] at hP1
          have hK1 := va_K.moved hvm9.symm hK1
          obtain ⟨hP, hD⟩ := va_join (wr := [(qo, .inr (2, [.ref qa, .int (nI n)])), (qa, .inl (cyI, 450, .inl t))]) (w1 := [(qb, .inr (2, [.ref qba, .int (nI ((m + 1) + 1))])), (qba, .inl (cyI, 450, .inl (upd (upd (upd F m (nI 0)) m ((upd F m (nI 0)) m ||| (nI 1 <<< (nI (k % 8) &&& 31)))) (m + 1) ((t i) &&& nI 255))))]) hP hD [2, 3] [0, 1] rfl rfl (by decide) (by decide) hk1 hFc hP1 hD1
          generalize H1 = H at hP hS ⊢
          have hP : va_P (dC, dI) vwCl [(qo, .inr (2, [.ref qa, .int (nI n)])), (qa, .inl (cyI, 450, .inl t)), (qb, .inr (2, [.ref qba, .int (nI ((m + 1) + 1))])), (qba, .inl (cyI, 450, .inl (upd (upd (upd F m (nI 0)) m ((upd F m (nI 0)) m ||| (nI 1 <<< (nI (k % 8) &&& 31)))) (m + 1) ((t i) &&& nI 255))))] H := hP
          have hD : va_D A [(qo, .inr (2, [.ref qa, .int (nI n)])), (qa, .inl (cyI, 450, .inl t)), (qb, .inr (2, [.ref qba, .int (nI ((m + 1) + 1))])), (qba, .inl (cyI, 450, .inl (upd (upd (upd F m (nI 0)) m ((upd F m (nI 0)) m ||| (nI 1 <<< (nI (k % 8) &&& 31)))) (m + 1) ((t i) &&& nI 255))))] := hD
          have eqm : (t i) &&& nI 255 = (t i) := zO_and (ht i hi9)
          rw [eqm] at hP hD
          have hP : va_P (dC, dI) vwCl [(qo, .inr (2, [.ref qa, .int (nI n)])), (qa, .inl (cyI, 450, .inl t)), (qb, .inr (2, [.ref qba, .int (nI ((m + 1) + 1))])), (qba, .inl (cyI, 450, .inl (upd (upd (upd F m (nI 0)) m ((upd F m (nI 0)) m ||| (nI 1 <<< (nI (k % 8) &&& 31)))) (m + 1) (t i))))] H := hP
          have hD : va_D A [(qo, .inr (2, [.ref qa, .int (nI n)])), (qa, .inl (cyI, 450, .inl t)), (qb, .inr (2, [.ref qba, .int (nI ((m + 1) + 1))])), (qba, .inl (cyI, 450, .inl (upd (upd (upd F m (nI 0)) m ((upd F m (nI 0)) m ||| (nI 1 <<< (nI (k % 8) &&& 31)))) (m + 1) (t i))))] := hD
          refine lv_iload hx hb dX1_encode_84 (lv_at hl 7 rfl) ?_
          refine lv_iconst (v := nI 1) hx hb dX1_encode_86 (by decide) ?_
          refine lv_iadd hx hb dX1_encode_87 ?_
          refine zz_top (nI_add i 1) ?_
          refine lv_istore (lv' := [(4, .int (nI (i + 1))), (7, .int (nI (zBD t n i))), (2, .int (nI m)), (6, .int (nI (k % 8))), (0, .ref qo), (1, .ref qb), (3, .int (nI k)), (5, .int (nI i))]) hx hb dX1_encode_88 hl (by decide) rfl (fun ls hl => ?_)
          refine lv_goto (tgt := 126) hx hb dX1_encode_90 (by decide) ?_
          refine lv_iinc (v := nI (k + 1)) (lv' := [(3, .int (nI (k + 1))), (4, .int (nI (i + 1))), (7, .int (nI (zBD t n i))), (2, .int (nI m)), (6, .int (nI (k % 8))), (0, .ref qo), (1, .ref qb), (5, .int (nI i))]) hx hb dX1_encode_126 hl (k := 6) rfl (nI_add k 1) (by decide) rfl (fun ls hl => ?_)
          refine lv_iinc (v := nI (i + 1)) (lv' := [(5, .int (nI (i + 1))), (3, .int (nI (k + 1))), (4, .int (nI (i + 1))), (7, .int (nI (zBD t n i))), (2, .int (nI m)), (6, .int (nI (k % 8))), (0, .ref qo), (1, .ref qb)]) hx hb dX1_encode_129 hl (k := 7) rfl (nI_add i 1) (by decide) rfl (fun ls hl => ?_)
          refine lv_goto (tgt := 14) hx hb dX1_encode_132 (by decide) ?_
          exact ih14 (i + 1, i + 1, (m + 1) + 1, m, k + 1, f9, upd (upd (upd o m (nI 0)) m ((upd o m (nI 0)) m ||| (nI 1 <<< (nI (k % 8) &&& 31)))) (m + 1) (t i), upd (upd (upd F m (nI 0)) m ((upd F m (nI 0)) m ||| (nI 1 <<< (nI (k % 8) &&& 31)))) (m + 1) (t i)) _ _ _ ⟨by omega, by omega, by omega, by omega, by omega, fun _ => by omega, (eF_one0 hi9 c_41 (zBD_0.mp c_64)).symm.trans hE, upd_new (upd_cong (upd_new hF rfl) (congrArg (fun y => y ||| (nI 1 <<< (nI (k % 8) &&& 31))) ((upd_new hF rfl) m (by omega)))) rfl, hP, hD, hS, lv_sub hl [6, 7, 4, 1, 2, 0] rfl⟩ (by first | omega | (dsimp only; omega))
    ·
      refine lv_goto (tgt := 129) hx hb dX1_encode_30 (by decide) ?_
      refine lv_iinc (v := nI (i + 1)) (lv' := [(5, .int (nI (i + 1))), (0, .ref qo), (1, .ref qb), (2, .int (nI g)), (3, .int (nI k)), (4, .int (nI nx))]) hx hb dX1_encode_129 hl (k := 5) rfl (nI_add i 1) (by decide) rfl (fun ls hl => ?_)
      refine lv_goto (tgt := 14) hx hb dX1_encode_132 (by decide) ?_
      exact ih14 (i + 1, nx, m, g, k, f, o, F) _ _ _ ⟨by omega, by omega, by omega, by omega, by omega, hg, hE, hF, hP, hD, hS, lv_sub hl [1, 2, 3, 4, 5, 0] rfl⟩ (by first | omega | (dsimp only; omega))
set_option maxHeartbeats 4000000 in
set_option maxRecDepth 100000 in
theorem c_X1_single_bad (l : Launch) (dC : Nat → ClassId) (dI : Nat → Nat → Nat) (cyI cyZ : ClassId) (qo qa qb qba : Nat) (t : Nat → Int32) (n : Nat) (F : Nat → Int32) (m i : Nat) (hn : n ≤ 450) (hi : i < n) (hm : m ≤ 400) (hz : 400 < m + 1) : Met l yX1_decodeSingle wsX1_decodeSingle ({ frames := 1, cells := 0, slots := 0, locals := 21 }) (va_Pc [.ref qo, .int (nI i), .ref qb] (fun U => va_P (dC, dI) vwCl [(qo, .inr (2, [.ref qa, .int (nI n)])), (qa, .inl (cyI, 450, .inl t)), (qb, .inr (2, [.ref qba, .int (nI m)])), (qba, .inl (cyI, 450, .inl F))] U.heap ∧ va_K (dC, dI) vwCl [(cyI, .int), (cyZ, .boolean)] U)) (vp_Si (fun r => r = nI i)) 0 0 (fun _ => False) := by
  refine Met.ofW (cc := cX1_decodeSingle) (maxL := 3) (ret := (some .int)) (by decide) rfl ?_
  intro pz ez sS mM args below meth cC s₁ B hml hv
  obtain ⟨rfl, hP, hK⟩ := hv
  have hx := B.exec
  have hb := B.bytes
  have hr := B.returns
  have hts := atoms_spec (ws := wsX1_decodeSingle) B.pre
  have hown : sS.vm.findClass RX1 = some mM.cls := findClass_of_methodNamed B.named
  have hlocks := B.notSynchronized
  have hl := lv_entry ([.ref qo, .int (nI i), .ref qb]) (n := 3) (Nat.le_of_ble_eq_true rfl)
  rw [lg_entry_eq]
  generalize (lg_sl ([.ref qo, .int (nI i), .ref qb]) ++ List.replicate (3 - (lg_sl ([.ref qo, .int (nI i), .ref qb])).length) Slot.unset).toArray = ls at hl ⊢
  have hl : lv_has ls 3 [(0, .ref qo), (1, .int (nI i)), (2, .ref qb)] := hl
  refine lv_aload_n hx hb dX1_decodeSingle_0 rfl (lv_at hl 2 rfl) ?_
  have hPc := hP.sub (ws' := [(qb, .inr (2, [.ref qba, .int (nI m)])), (qba, .inl (cyI, 450, .inl F))]) [2, 3] rfl
  have hKc := hK.sub (tys' := [(cyI, .int), (cyZ, .boolean)]) [0, 1] rfl
  refine vp_callSi (va_Run.run (va_runV (As := []) (rest := []) ⟨hx, hb, hml, hown, hts⟩ (c_X3_size l dC dI cyI cyZ qb qba F m) (cwV 0 hts gX1_decodeSingle_X3_size rfl rfl rfl (by decide +kernel) ⟨Nat.le_of_ble_eq_true rfl, Nat.le_of_ble_eq_true rfl⟩) ⟨zz_blR, va_recv hKc hPc (ci := 2) (q0 := 0) rfl rfl, fun U hU hW => ⟨rfl, by rw [hU]; exact hPc, va_K.moved hW.alike hKc⟩⟩ rfl rfl hl.1 rfl (lv_room (Nat.le_of_ble_eq_true rfl)) dX1_decodeSingle_1 ⟨Nat.zero_le _, Nat.zero_le _⟩)) (fun r_1 hr_1 => ?_)
  have hr_1 : r_1 = nI m := hr_1
  subst hr_1
  refine lv_iconst (v := nI 1) hx hb dX1_decodeSingle_4 (by decide) ?_
  refine lv_iadd hx hb dX1_decodeSingle_5 ?_
  refine zz_top (nI_add m 1) ?_
  refine lv_sipush (v := nI 400) hx hb dX1_decodeSingle_6 (by decide) ?_
  refine zn_icmp_le (tgt := 14) hx hb dX1_decodeSingle_9 (by decide) (by omega) (by omega) (fun c_9 => ?_) (fun c_9 => ?_)
  ·
    exfalso
    omega
  ·
    refine lv_iload_n hx hb dX1_decodeSingle_12 rfl (lv_at hl 1 rfl) ?_
    have hret : nI i = nI i := rfl
    refine zz_top hret ?_
    exact W.iret hx hb hr (fun tS ht hW => ⟨_, rfl, rfl, ht⟩) (fun _ h => nomatch h) dX1_decodeSingle_13
set_option maxHeartbeats 4000000 in
set_option maxRecDepth 100000 in
theorem c_X1_single_ok (l : Launch) (dC : Nat → ClassId) (dI : Nat → Nat → Nat) (cyI cyZ : ClassId) (qo qa qb qba : Nat) (sz : Nat) (t : Nat → Int32) (n : Nat) (F : Nat → Int32) (m i : Nat) (hn : n ≤ 450) (hi : i < n) (hz : ¬ 400 < m + 1) (ht : ∀ j, j < n → zO (t j)) : Met l yX1_decodeSingle wsX1_decodeSingle ({ frames := 1, cells := 0, slots := 0, locals := 21 }) (va_Pc [.ref qo, .int (nI i), .ref qb] (fun U => U.heap.size = sz ∧ va_P (dC, dI) vwCl [(qo, .inr (2, [.ref qa, .int (nI n)])), (qa, .inl (cyI, 450, .inl t)), (qb, .inr (2, [.ref qba, .int (nI m)])), (qba, .inl (cyI, 450, .inl F))] U.heap ∧ va_K (dC, dI) vwCl [(cyI, .int), (cyZ, .boolean)] U ∧ va_D (fun _ => True) [(qo, .inr (2, [.ref qa, .int (nI n)])), (qa, .inl (cyI, 450, .inl t)), (qb, .inr (2, [.ref qba, .int (nI m)])), (qba, .inl (cyI, 450, .inl F))])) (va_Qi (S := Unit) (fun (r : Int32) (_ : Unit) => r = (-1)) (fun (_ : Unit) tS => va_P (dC, dI) vwCl [(qo, .inr (2, [.ref qa, .int (nI n)])), (qa, .inl (cyI, 450, .inl t)), (qb, .inr (2, [.ref qba, .int (nI (m + 1))])), (qba, .inl (cyI, 450, .inl (upd F m (t i))))] tS.heap ∧ va_K (dC, dI) vwCl [(cyI, .int), (cyZ, .boolean)] tS ∧ va_D (va_A [(qo, .inr (2, [.ref qa, .int (nI n)])), (qa, .inl (cyI, 450, .inl t)), (qb, .inr (2, [.ref qba, .int (nI m)])), (qba, .inl (cyI, 450, .inl F))] sz) [(qo, .inr (2, [.ref qa, .int (nI n)])), (qa, .inl (cyI, 450, .inl t)), (qb, .inr (2, [.ref qba, .int (nI (m + 1))])), (qba, .inl (cyI, 450, .inl (upd F m (t i))))]) (va_A [(qo, .inr (2, [.ref qa, .int (nI n)])), (qa, .inl (cyI, 450, .inl t)), (qb, .inr (2, [.ref qba, .int (nI m)])), (qba, .inl (cyI, 450, .inl F))] sz)) 0 0 (va_A [(qo, .inr (2, [.ref qa, .int (nI n)])), (qa, .inl (cyI, 450, .inl t)), (qb, .inr (2, [.ref qba, .int (nI m)])), (qba, .inl (cyI, 450, .inl F))] sz) := by
  refine Met.ofW (cc := cX1_decodeSingle) (maxL := 3) (ret := (some .int)) (by decide) rfl ?_
  intro pz ez sS mM args below meth cC s₁ B hml hv
  obtain ⟨rfl, hsz, hP, hK, hD0⟩ := hv
  have hx := B.exec
  have hb := B.bytes
  have hr := B.returns
  have hts := atoms_spec (ws := wsX1_decodeSingle) B.pre
  have hown : sS.vm.findClass RX1 = some mM.cls := findClass_of_methodNamed B.named
  have hlocks := B.notSynchronized
  subst hsz
  have hD := hD0.self (sz := sS.heap.size)
  generalize hAe : va_A [(qo, .inr (2, [.ref qa, .int (nI n)])), (qa, .inl (cyI, 450, .inl t)), (qb, .inr (2, [.ref qba, .int (nI m)])), (qba, .inl (cyI, 450, .inl F))] sS.heap.size = A at hD ⊢
  have hA : ∀ q : Nat, sS.heap.size ≤ q → A q := fun q h => by rw [← hAe]; exact Or.inr h
  have hS : va_S A sS.heap sS.heap [] := va_S.rf
  have hP : va_P (dC, dI) vwCl [(qo, .inr (2, [.ref qa, .int (nI n)])), (qa, .inl (cyI, 450, .inl t)), (qb, .inr (2, [.ref qba, .int (nI m)])), (qba, .inl (cyI, 450, .inl F))] sS.heap := hP
  have hl := lv_entry ([.ref qo, .int (nI i), .ref qb]) (n := 3) (Nat.le_of_ble_eq_true rfl)
  rw [lg_entry_eq]
  generalize (lg_sl ([.ref qo, .int (nI i), .ref qb]) ++ List.replicate (3 - (lg_sl ([.ref qo, .int (nI i), .ref qb])).length) Slot.unset).toArray = ls at hl ⊢
  have hl : lv_has ls 3 [(0, .ref qo), (1, .int (nI i)), (2, .ref qb)] := hl
  refine lv_aload_n hx hb dX1_decodeSingle_0 rfl (lv_at hl 2 rfl) ?_
  have hPc := hP.sub (ws' := [(qb, .inr (2, [.ref qba, .int (nI m)])), (qba, .inl (cyI, 450, .inl F))]) [2, 3] rfl
  have hKc := hK.sub (tys' := [(cyI, .int), (cyZ, .boolean)]) [0, 1] rfl
  refine vp_callSi (va_Run.run (va_runV (As := []) (rest := []) ⟨hx, hb, hml, hown, hts⟩ (c_X3_size l dC dI cyI cyZ qb qba F m) (cwV 0 hts gX1_decodeSingle_X3_size rfl rfl rfl (by decide +kernel) ⟨Nat.le_of_ble_eq_true rfl, Nat.le_of_ble_eq_true rfl⟩) ⟨zz_blR, va_recv hKc hPc (ci := 2) (q0 := 0) rfl rfl, fun U hU hW => ⟨rfl, by rw [hU]; exact hPc, va_K.moved hW.alike hKc⟩⟩ rfl rfl hl.1 rfl (lv_room (Nat.le_of_ble_eq_true rfl)) dX1_decodeSingle_1 ⟨Nat.zero_le _, Nat.zero_le _⟩)) (fun r_1 hr_1 => ?_)
  have hr_1 : r_1 = nI m := hr_1
  subst hr_1
  refine lv_iconst (v := nI 1) hx hb dX1_decodeSingle_4 (by decide) ?_
  refine lv_iadd hx hb dX1_decodeSingle_5 ?_
  refine zz_top (nI_add m 1) ?_
  refine lv_sipush (v := nI 400) hx hb dX1_decodeSingle_6 (by decide) ?_
  refine zn_icmp_le (tgt := 14) hx hb dX1_decodeSingle_9 (by decide) (by omega) (by omega) (fun c_9 => ?_) (fun c_9 => ?_)
  ·
    refine lv_aload_n hx hb dX1_decodeSingle_14 rfl (lv_at hl 2 rfl) ?_
    refine lv_aload_n hx hb dX1_decodeSingle_15 rfl (lv_at hl 0 rfl) ?_
    refine lv_iload_n hx hb dX1_decodeSingle_16 rfl (lv_at hl 1 rfl) ?_
    have hPc := hP.sub (ws' := [(qo, .inr (2, [.ref qa, .int (nI n)])), (qa, .inl (cyI, 450, .inl t))]) [0, 1] rfl
    have hKc := hK.sub (tys' := [(cyI, .int), (cyZ, .boolean)]) [0, 1] rfl
    refine vp_callSi (va_Run.run (va_runV (As := [.int (nI i)]) (rest := [.ref qb]) ⟨hx, hb, hml, hown, hts⟩ (c_X3_at_in l dC dI cyI cyZ qo qa t n i (by omega) (by omega)) (cwV 1 hts gX1_decodeSingle_X3_at rfl rfl rfl (by decide +kernel) ⟨Nat.le_of_ble_eq_true rfl, Nat.le_of_ble_eq_true rfl⟩) ⟨zz_blR, va_recv hKc hPc (ci := 2) (q0 := 0) rfl rfl, fun U hU hW => ⟨rfl, by rw [hU]; exact hPc, va_K.moved hW.alike hKc⟩⟩ rfl rfl hl.1 rfl (lv_room (Nat.le_of_ble_eq_true rfl)) dX1_decodeSingle_17 ⟨Nat.zero_le _, Nat.zero_le _⟩)) (fun r_17 hr_17 => ?_)
    have hr_17 : r_17 = t i := hr_17
    subst hr_17
    have hPc := hP.sub (ws' := [(qb, .inr (2, [.ref qba, .int (nI m)])), (qba, .inl (cyI, 450, .inl F))]) [2, 3] rfl
    have hKc := hK.sub (tys' := [(cyI, .int), (cyZ, .boolean)]) [0, 1] rfl
    have hDc := hD.sub (ws' := [(qb, .inr (2, [.ref qba, .int (nI m)])), (qba, .inl (cyI, 450, .inl F))]) [2, 3] (by decide) rfl
    have hFc := va_free (wc := [(qb, .inr (2, [.ref qba, .int (nI m)])), (qba, .inl (cyI, 450, .inl F))]) hD hS hA [2, 3] rfl
    refine va_callv (va_runV (As := [.int (t i)]) (rest := []) ⟨hx, hb, hml, hown, hts⟩ (c_X3_append l dC dI cyI cyZ qb qba sS.heap.size F m (t i) (by omega)) (cwV 1 hts gX1_decodeSingle_X3_append rfl rfl rfl (by decide +kernel) ⟨Nat.le_of_ble_eq_true rfl, Nat.le_of_ble_eq_true rfl⟩) ⟨zz_blW, va_recv hKc hPc (ci := 2) (q0 := 0) rfl rfl, fun U hU hW => ⟨rfl, by rw [hU], by rw [hU]; exact hPc, va_K.moved hW.alike hKc, hDc.weaken (fun _ _ _ _ => trivial)⟩⟩ rfl rfl hl.1 rfl (lv_room (Nat.le_of_ble_eq_true rfl)) dX1_decodeSingle_20 ⟨Nat.zero_le _, Nat.zero_le _⟩) hS (fun q _ h => hFc q h) hFc (fun uU tS H1 locs ht9 hvm9 hw9 hB9 hz1 hk1 hS => ?_)
    obtain ⟨hP1, hK1, hD1⟩ := hB9
    rw [ht9] at hP1
    have hK1 := va_K.moved hvm9.symm hK1
    obtain ⟨hP, hD⟩ := va_join (wr := [(qo, .inr (2, [.ref qa, .int (nI n)])), (qa, .inl (cyI, 450, .inl t))]) (w1 := [(qb, .inr (2, [.ref qba, .int (nI (m + 1))])), (qba, .inl (cyI, 450, .inl (upd F m ((t i) &&& nI 255))))]) hP hD [2, 3] [0, 1] rfl rfl (by decide) (by decide) hk1 hFc hP1 hD1
    generalize H1 = H at hP hS ⊢
    have hP : va_P (dC, dI) vwCl [(qo, .inr (2, [.ref qa, .int (nI n)])), (qa, .inl (cyI, 450, .inl t)), (qb, .inr (2, [.ref qba, .int (nI (m + 1))])), (qba, .inl (cyI, 450, .inl (upd F m ((t i) &&& nI 255))))] H := hP
    have hD : va_D A [(qo, .inr (2, [.ref qa, .int (nI n)])), (qa, .inl (cyI, 450, .inl t)), (qb, .inr (2, [.ref qba, .int (nI (m + 1))])), (qba, .inl (cyI, 450, .inl (upd F m ((t i) &&& nI 255))))] := hD
    have eqm : (t i) &&& nI 255 = (t i) := zO_and (ht i hi)
    rw [eqm] at hP hD
    have hP : va_P (dC, dI) vwCl [(qo, .inr (2, [.ref qa, .int (nI n)])), (qa, .inl (cyI, 450, .inl t)), (qb, .inr (2, [.ref qba, .int (nI (m + 1))])), (qba, .inl (cyI, 450, .inl (upd F m (t i))))] H := hP
    have hD : va_D A [(qo, .inr (2, [.ref qa, .int (nI n)])), (qa, .inl (cyI, 450, .inl t)), (qb, .inr (2, [.ref qba, .int (nI (m + 1))])), (qba, .inl (cyI, 450, .inl (upd F m (t i))))] := hD
    refine lv_iconst (v := (-1)) hx hb dX1_decodeSingle_23 (by decide) ?_
    have hP9 := hP.sub (ws' := [(qo, .inr (2, [.ref qa, .int (nI n)])), (qa, .inl (cyI, 450, .inl t)), (qb, .inr (2, [.ref qba, .int (nI (m + 1))])), (qba, .inl (cyI, 450, .inl (upd F m (t i))))]) [0, 1, 2, 3] rfl
    have hD9 := hD.sub (ws' := [(qo, .inr (2, [.ref qa, .int (nI n)])), (qa, .inl (cyI, 450, .inl t)), (qb, .inr (2, [.ref qba, .int (nI (m + 1))])), (qba, .inl (cyI, 450, .inl (upd F m (t i))))]) [0, 1, 2, 3] (by decide) rfl
    have hK9 := hK.sub (tys' := [(cyI, .int), (cyZ, .boolean)]) [0, 1] rfl
    exact W.iret hx hb hr (fun tS ht hW => ⟨⟨_, (), rfl, rfl, by rw [ht]; exact hP9, va_K.moved hW.alike hK9, hD9⟩, hS.F ht⟩) hS.2.2 dX1_decodeSingle_24
  ·
    exfalso
    omega
set_option maxHeartbeats 4000000 in
set_option maxRecDepth 100000 in
theorem c_X1_row_half (l : Launch) (dC : Nat → ClassId) (dI : Nat → Nat → Nat) (cyI cyZ : ClassId) (qo qa qb qba : Nat) (t : Nat → Int32) (n : Nat) (F : Nat → Int32) (m i : Nat) (hn : n ≤ 450) (hi : i < n) (hz : n ≤ i + 1) : Met l yX1_decodeRow wsX1_decodeRow ({ frames := 2, cells := 0, slots := 0, locals := 44 }) (va_Pc [.ref qo, .int (nI i), .ref qb] (fun U => va_P (dC, dI) vwCl [(qo, .inr (2, [.ref qa, .int (nI n)])), (qa, .inl (cyI, 450, .inl t)), (qb, .inr (2, [.ref qba, .int (nI m)])), (qba, .inl (cyI, 450, .inl F))] U.heap ∧ va_K (dC, dI) vwCl [(cyI, .int), (cyZ, .boolean)] U)) (vp_Si (fun r => r = nI n)) 0 0 (fun _ => False) := by
  refine Met.ofW (cc := cX1_decodeRow) (maxL := 5) (ret := (some .int)) (by decide) rfl ?_
  intro pz ez sS mM args below meth cC s₁ B hml hv
  obtain ⟨rfl, hP, hK⟩ := hv
  have hx := B.exec
  have hb := B.bytes
  have hr := B.returns
  have hts := atoms_spec (ws := wsX1_decodeRow) B.pre
  have hown : sS.vm.findClass RX1 = some mM.cls := findClass_of_methodNamed B.named
  have hlocks := B.notSynchronized
  have hl := lv_entry ([.ref qo, .int (nI i), .ref qb]) (n := 5) (Nat.le_of_ble_eq_true rfl)
  rw [lg_entry_eq]
  generalize (lg_sl ([.ref qo, .int (nI i), .ref qb]) ++ List.replicate (5 - (lg_sl ([.ref qo, .int (nI i), .ref qb])).length) Slot.unset).toArray = ls at hl ⊢
  have hl : lv_has ls 5 [(0, .ref qo), (1, .int (nI i)), (2, .ref qb)] := hl
  refine lv_iload_n hx hb dX1_decodeRow_0 rfl (lv_at hl 1 rfl) ?_
  refine lv_iconst (v := nI 1) hx hb dX1_decodeRow_1 (by decide) ?_
  refine lv_iadd hx hb dX1_decodeRow_2 ?_
  refine zz_top (nI_add i 1) ?_
  refine lv_aload_n hx hb dX1_decodeRow_3 rfl (lv_at hl 0 rfl) ?_
  have hPc := hP.sub (ws' := [(qo, .inr (2, [.ref qa, .int (nI n)])), (qa, .inl (cyI, 450, .inl t))]) [0, 1] rfl
  have hKc := hK.sub (tys' := [(cyI, .int), (cyZ, .boolean)]) [0, 1] rfl
  refine vp_callSi (va_Run.run (va_runV (As := []) (rest := [.int (nI (i + 1))]) ⟨hx, hb, hml, hown, hts⟩ (c_X3_size l dC dI cyI cyZ qo qa t n) (cwV 0 hts gX1_decodeRow_X3_size rfl rfl rfl (by decide +kernel) ⟨Nat.le_of_ble_eq_true rfl, Nat.le_of_ble_eq_true rfl⟩) ⟨zz_blR, va_recv hKc hPc (ci := 2) (q0 := 0) rfl rfl, fun U hU hW => ⟨rfl, by rw [hU]; exact hPc, va_K.moved hW.alike hKc⟩⟩ rfl rfl hl.1 rfl (lv_room (Nat.le_of_ble_eq_true rfl)) dX1_decodeRow_4 ⟨Nat.zero_le _, Nat.zero_le _⟩)) (fun r_4 hr_4 => ?_)
  have hr_4 : r_4 = nI n := hr_4
  subst hr_4
  refine zn_icmp_lt (tgt := 15) hx hb dX1_decodeRow_7 (by decide) (by omega) (by omega) (fun c_7 => ?_) (fun c_7 => ?_)
  ·
    exfalso
    omega
  ·
    refine lv_aload_n hx hb dX1_decodeRow_10 rfl (lv_at hl 0 rfl) ?_
    have hPc := hP.sub (ws' := [(qo, .inr (2, [.ref qa, .int (nI n)])), (qa, .inl (cyI, 450, .inl t))]) [0, 1] rfl
    have hKc := hK.sub (tys' := [(cyI, .int), (cyZ, .boolean)]) [0, 1] rfl
    refine vp_callSi (va_Run.run (va_runV (As := []) (rest := []) ⟨hx, hb, hml, hown, hts⟩ (c_X3_size l dC dI cyI cyZ qo qa t n) (cwV 0 hts gX1_decodeRow_X3_size rfl rfl rfl (by decide +kernel) ⟨Nat.le_of_ble_eq_true rfl, Nat.le_of_ble_eq_true rfl⟩) ⟨zz_blR, va_recv hKc hPc (ci := 2) (q0 := 0) rfl rfl, fun U hU hW => ⟨rfl, by rw [hU]; exact hPc, va_K.moved hW.alike hKc⟩⟩ rfl rfl hl.1 rfl (lv_room (Nat.le_of_ble_eq_true rfl)) dX1_decodeRow_11 ⟨Nat.zero_le _, Nat.zero_le _⟩)) (fun r_11 hr_11 => ?_)
    have hr_11 : r_11 = nI n := hr_11
    subst hr_11
    have hret : nI n = nI n := rfl
    refine zz_top hret ?_
    exact W.iret hx hb hr (fun tS ht hW => ⟨_, rfl, rfl, ht⟩) (fun _ h => nomatch h) dX1_decodeRow_14
set_option maxHeartbeats 4000000 in
set_option maxRecDepth 100000 in
theorem c_X1_row_bad (l : Launch) (dC : Nat → ClassId) (dI : Nat → Nat → Nat) (cyI cyZ : ClassId) (qo qa qb qba : Nat) (t : Nat → Int32) (n : Nat) (F : Nat → Int32) (m i : Nat) (hn : n ≤ 450) (hi : i < n) (hm : m ≤ 400) (hz : ¬ n ≤ i + 1) (hz2 : m < vN (t i) + 1 ∨ 400 < m + (vN (t (i + 1)) + 3)) (ht : ∀ j, j < n → zO (t j)) : Met l yX1_decodeRow wsX1_decodeRow ({ frames := 2, cells := 0, slots := 0, locals := 44 }) (va_Pc [.ref qo, .int (nI i), .ref qb] (fun U => va_P (dC, dI) vwCl [(qo, .inr (2, [.ref qa, .int (nI n)])), (qa, .inl (cyI, 450, .inl t)), (qb, .inr (2, [.ref qba, .int (nI m)])), (qba, .inl (cyI, 450, .inl F))] U.heap ∧ va_K (dC, dI) vwCl [(cyI, .int), (cyZ, .boolean)] U)) (vp_Si (fun r => r = nI i)) 0 0 (fun _ => False) := by
  refine Met.ofW (cc := cX1_decodeRow) (maxL := 5) (ret := (some .int)) (by decide) rfl ?_
  intro pz ez sS mM args below meth cC s₁ B hml hv
  obtain ⟨rfl, hP, hK⟩ := hv
  have hx := B.exec
  have hb := B.bytes
  have hr := B.returns
  have hts := atoms_spec (ws := wsX1_decodeRow) B.pre
  have hown : sS.vm.findClass RX1 = some mM.cls := findClass_of_methodNamed B.named
  have hlocks := B.notSynchronized
  have hl := lv_entry ([.ref qo, .int (nI i), .ref qb]) (n := 5) (Nat.le_of_ble_eq_true rfl)
  rw [lg_entry_eq]
  generalize (lg_sl ([.ref qo, .int (nI i), .ref qb]) ++ List.replicate (5 - (lg_sl ([.ref qo, .int (nI i), .ref qb])).length) Slot.unset).toArray = ls at hl ⊢
  have hl : lv_has ls 5 [(0, .ref qo), (1, .int (nI i)), (2, .ref qb)] := hl
  have v1 := (zO_vN (ht i (by omega))).2
  have v2 := (zO_vN (ht (i + 1) (by omega))).2
  refine lv_iload_n hx hb dX1_decodeRow_0 rfl (lv_at hl 1 rfl) ?_
  refine lv_iconst (v := nI 1) hx hb dX1_decodeRow_1 (by decide) ?_
  refine lv_iadd hx hb dX1_decodeRow_2 ?_
  refine zz_top (nI_add i 1) ?_
  refine lv_aload_n hx hb dX1_decodeRow_3 rfl (lv_at hl 0 rfl) ?_
  have hPc := hP.sub (ws' := [(qo, .inr (2, [.ref qa, .int (nI n)])), (qa, .inl (cyI, 450, .inl t))]) [0, 1] rfl
  have hKc := hK.sub (tys' := [(cyI, .int), (cyZ, .boolean)]) [0, 1] rfl
  refine vp_callSi (va_Run.run (va_runV (As := []) (rest := [.int (nI (i + 1))]) ⟨hx, hb, hml, hown, hts⟩ (c_X3_size l dC dI cyI cyZ qo qa t n) (cwV 0 hts gX1_decodeRow_X3_size rfl rfl rfl (by decide +kernel) ⟨Nat.le_of_ble_eq_true rfl, Nat.le_of_ble_eq_true rfl⟩) ⟨zz_blR, va_recv hKc hPc (ci := 2) (q0 := 0) rfl rfl, fun U hU hW => ⟨rfl, by rw [hU]; exact hPc, va_K.moved hW.alike hKc⟩⟩ rfl rfl hl.1 rfl (lv_room (Nat.le_of_ble_eq_true rfl)) dX1_decodeRow_4 ⟨Nat.zero_le _, Nat.zero_le _⟩)) (fun r_4 hr_4 => ?_)
  have hr_4 : r_4 = nI n := hr_4
  subst hr_4
  refine zn_icmp_lt (tgt := 15) hx hb dX1_decodeRow_7 (by decide) (by omega) (by omega) (fun c_7 => ?_) (fun c_7 => ?_)
  ·
    refine lv_aload_n hx hb dX1_decodeRow_15 rfl (lv_at hl 0 rfl) ?_
    refine lv_iload_n hx hb dX1_decodeRow_16 rfl (lv_at hl 1 rfl) ?_
    have hPc := hP.sub (ws' := [(qo, .inr (2, [.ref qa, .int (nI n)])), (qa, .inl (cyI, 450, .inl t))]) [0, 1] rfl
    have hKc := hK.sub (tys' := [(cyI, .int), (cyZ, .boolean)]) [0, 1] rfl
    refine vp_callSi (va_Run.run (va_runV (As := [.int (nI i)]) (rest := []) ⟨hx, hb, hml, hown, hts⟩ (c_X3_at_in l dC dI cyI cyZ qo qa t n i (by omega) (by omega)) (cwV 1 hts gX1_decodeRow_X3_at rfl rfl rfl (by decide +kernel) ⟨Nat.le_of_ble_eq_true rfl, Nat.le_of_ble_eq_true rfl⟩) ⟨zz_blR, va_recv hKc hPc (ci := 2) (q0 := 0) rfl rfl, fun U hU hW => ⟨rfl, by rw [hU]; exact hPc, va_K.moved hW.alike hKc⟩⟩ rfl rfl hl.1 rfl (lv_room (Nat.le_of_ble_eq_true rfl)) dX1_decodeRow_17 ⟨Nat.zero_le _, Nat.zero_le _⟩)) (fun r_17 hr_17 => ?_)
    have hr_17 : r_17 = t i := hr_17
    subst hr_17
    refine zz_top ((zO_vN (ht i (by omega))).1) ?_
    refine lv_iconst (v := nI 1) hx hb dX1_decodeRow_20 (by decide) ?_
    refine lv_iadd hx hb dX1_decodeRow_21 ?_
    refine zz_top (nI_add (vN (t i)) 1) ?_
    refine lv_istore_n (lv' := [(3, .int (nI (vN (t i) + 1))), (0, .ref qo), (1, .int (nI i)), (2, .ref qb)]) hx hb dX1_decodeRow_22 rfl hl (by decide) rfl (fun ls hl => ?_)
    refine lv_aload_n hx hb dX1_decodeRow_23 rfl (lv_at hl 1 rfl) ?_
    refine lv_iload_n hx hb dX1_decodeRow_24 rfl (lv_at hl 2 rfl) ?_
    refine lv_iconst (v := nI 1) hx hb dX1_decodeRow_25 (by decide) ?_
    refine lv_iadd hx hb dX1_decodeRow_26 ?_
    refine zz_top (nI_add i 1) ?_
    have hPc := hP.sub (ws' := [(qo, .inr (2, [.ref qa, .int (nI n)])), (qa, .inl (cyI, 450, .inl t))]) [0, 1] rfl
    have hKc := hK.sub (tys' := [(cyI, .int), (cyZ, .boolean)]) [0, 1] rfl
    refine vp_callSi (va_Run.run (va_runV (As := [.int (nI (i + 1))]) (rest := []) ⟨hx, hb, hml, hown, hts⟩ (c_X3_at_in l dC dI cyI cyZ qo qa t n (i + 1) (by omega) (by omega)) (cwV 1 hts gX1_decodeRow_X3_at rfl rfl rfl (by decide +kernel) ⟨Nat.le_of_ble_eq_true rfl, Nat.le_of_ble_eq_true rfl⟩) ⟨zz_blR, va_recv hKc hPc (ci := 2) (q0 := 0) rfl rfl, fun U hU hW => ⟨rfl, by rw [hU]; exact hPc, va_K.moved hW.alike hKc⟩⟩ rfl rfl hl.1 rfl (lv_room (Nat.le_of_ble_eq_true rfl)) dX1_decodeRow_27 ⟨Nat.zero_le _, Nat.zero_le _⟩)) (fun r_27 hr_27 => ?_)
    have hr_27 : r_27 = t (i + 1) := hr_27
    subst hr_27
    refine zz_top ((zO_vN (ht (i + 1) (by omega))).1) ?_
    refine lv_iconst (v := nI 3) hx hb dX1_decodeRow_30 (by decide) ?_
    refine lv_iadd hx hb dX1_decodeRow_31 ?_
    refine zz_top (nI_add (vN (t (i + 1))) 3) ?_
    refine lv_istore (lv' := [(4, .int (nI (vN (t (i + 1)) + 3))), (3, .int (nI (vN (t i) + 1))), (0, .ref qo), (1, .int (nI i)), (2, .ref qb)]) hx hb dX1_decodeRow_32 hl (by decide) rfl (fun ls hl => ?_)
    refine lv_iload_n hx hb dX1_decodeRow_34 rfl (lv_at hl 1 rfl) ?_
    refine lv_aload_n hx hb dX1_decodeRow_35 rfl (lv_at hl 4 rfl) ?_
    have hPc := hP.sub (ws' := [(qb, .inr (2, [.ref qba, .int (nI m)])), (qba, .inl (cyI, 450, .inl F))]) [2, 3] rfl
    have hKc := hK.sub (tys' := [(cyI, .int), (cyZ, .boolean)]) [0, 1] rfl
    refine vp_callSi (va_Run.run (va_runV (As := []) (rest := [.int (nI (vN (t i) + 1))]) ⟨hx, hb, hml, hown, hts⟩ (c_X3_size l dC dI cyI cyZ qb qba F m) (cwV 0 hts gX1_decodeRow_X3_size rfl rfl rfl (by decide +kernel) ⟨Nat.le_of_ble_eq_true rfl, Nat.le_of_ble_eq_true rfl⟩) ⟨zz_blR, va_recv hKc hPc (ci := 2) (q0 := 0) rfl rfl, fun U hU hW => ⟨rfl, by rw [hU]; exact hPc, va_K.moved hW.alike hKc⟩⟩ rfl rfl hl.1 rfl (lv_room (Nat.le_of_ble_eq_true rfl)) dX1_decodeRow_36 ⟨Nat.zero_le _, Nat.zero_le _⟩)) (fun r_36 hr_36 => ?_)
    have hr_36 : r_36 = nI m := hr_36
    subst hr_36
    refine zn_icmp_gt (tgt := 55) hx hb dX1_decodeRow_39 (by decide) (by omega) (by omega) (fun c_39 => ?_) (fun c_39 => ?_)
    ·
      refine lv_iload_n hx hb dX1_decodeRow_55 rfl (lv_at hl 3 rfl) ?_
      have hret : nI i = nI i := rfl
      refine zz_top hret ?_
      exact W.iret hx hb hr (fun tS ht hW => ⟨_, rfl, rfl, ht⟩) (fun _ h => nomatch h) dX1_decodeRow_56
    ·
      refine lv_aload_n hx hb dX1_decodeRow_42 rfl (lv_at hl 4 rfl) ?_
      have hPc := hP.sub (ws' := [(qb, .inr (2, [.ref qba, .int (nI m)])), (qba, .inl (cyI, 450, .inl F))]) [2, 3] rfl
      have hKc := hK.sub (tys' := [(cyI, .int), (cyZ, .boolean)]) [0, 1] rfl
      refine vp_callSi (va_Run.run (va_runV (As := []) (rest := []) ⟨hx, hb, hml, hown, hts⟩ (c_X3_size l dC dI cyI cyZ qb qba F m) (cwV 0 hts gX1_decodeRow_X3_size rfl rfl rfl (by decide +kernel) ⟨Nat.le_of_ble_eq_true rfl, Nat.le_of_ble_eq_true rfl⟩) ⟨zz_blR, va_recv hKc hPc (ci := 2) (q0 := 0) rfl rfl, fun U hU hW => ⟨rfl, by rw [hU]; exact hPc, va_K.moved hW.alike hKc⟩⟩ rfl rfl hl.1 rfl (lv_room (Nat.le_of_ble_eq_true rfl)) dX1_decodeRow_43 ⟨Nat.zero_le _, Nat.zero_le _⟩)) (fun r_43 hr_43 => ?_)
      have hr_43 : r_43 = nI m := hr_43
      subst hr_43
      refine lv_iload hx hb dX1_decodeRow_46 (lv_at hl 0 rfl) ?_
      refine lv_iadd hx hb dX1_decodeRow_48 ?_
      refine zz_top (nI_add m (vN (t (i + 1)) + 3)) ?_
      refine lv_sipush (v := nI 400) hx hb dX1_decodeRow_49 (by decide) ?_
      refine zn_icmp_le (tgt := 57) hx hb dX1_decodeRow_52 (by decide) (by omega) (by omega) (fun c_52 => ?_) (fun c_52 => ?_)
      ·
        exfalso
        omega
      ·
        refine lv_iload_n hx hb dX1_decodeRow_55 rfl (lv_at hl 3 rfl) ?_
        have hret : nI i = nI i := rfl
        refine zz_top hret ?_
        exact W.iret hx hb hr (fun tS ht hW => ⟨_, rfl, rfl, ht⟩) (fun _ h => nomatch h) dX1_decodeRow_56
  ·
    exfalso
    omega
set_option maxHeartbeats 4000000 in
set_option maxRecDepth 100000 in
theorem c_X1_row_ok (l : Launch) (dC : Nat → ClassId) (dI : Nat → Nat → Nat) (cyI cyZ : ClassId) (qo qa qb qba : Nat) (sz : Nat) (t : Nat → Int32) (n : Nat) (F : Nat → Int32) (m i : Nat) (hn : n ≤ 450) (hi : i < n) (hz : ¬ n ≤ i + 1) (hz2 : ¬ (m < vN (t i) + 1 ∨ 400 < m + (vN (t (i + 1)) + 3))) (ht : ∀ j, j < n → zO (t j)) (hO : ∀ j, j < m → zO (F j)) : Met l yX1_decodeRow wsX1_decodeRow ({ frames := 2, cells := 0, slots := 0, locals := 44 }) (va_Pc [.ref qo, .int (nI i), .ref qb] (fun U => U.heap.size = sz ∧ va_P (dC, dI) vwCl [(qo, .inr (2, [.ref qa, .int (nI n)])), (qa, .inl (cyI, 450, .inl t)), (qb, .inr (2, [.ref qba, .int (nI m)])), (qba, .inl (cyI, 450, .inl F))] U.heap ∧ va_K (dC, dI) vwCl [(cyI, .int), (cyZ, .boolean)] U ∧ va_D (fun _ => True) [(qo, .inr (2, [.ref qa, .int (nI n)])), (qa, .inl (cyI, 450, .inl t)), (qb, .inr (2, [.ref qba, .int (nI m)])), (qba, .inl (cyI, 450, .inl F))])) (va_Qi (S := Unit) (fun (r : Int32) (_ : Unit) => r = (-1)) (fun (_ : Unit) tS => va_P (dC, dI) vwCl [(qo, .inr (2, [.ref qa, .int (nI n)])), (qa, .inl (cyI, 450, .inl t)), (qb, .inr (2, [.ref qba, .int (nI (m + (vN (t (i + 1)) + 3)))])), (qba, .inl (cyI, 450, .inl (zrep F m (vN (t i) + 1) (vN (t (i + 1)) + 3))))] tS.heap ∧ va_K (dC, dI) vwCl [(cyI, .int), (cyZ, .boolean)] tS ∧ va_D (va_A [(qo, .inr (2, [.ref qa, .int (nI n)])), (qa, .inl (cyI, 450, .inl t)), (qb, .inr (2, [.ref qba, .int (nI m)])), (qba, .inl (cyI, 450, .inl F))] sz) [(qo, .inr (2, [.ref qa, .int (nI n)])), (qa, .inl (cyI, 450, .inl t)), (qb, .inr (2, [.ref qba, .int (nI (m + (vN (t (i + 1)) + 3)))])), (qba, .inl (cyI, 450, .inl (zrep F m (vN (t i) + 1) (vN (t (i + 1)) + 3))))]) (va_A [(qo, .inr (2, [.ref qa, .int (nI n)])), (qa, .inl (cyI, 450, .inl t)), (qb, .inr (2, [.ref qba, .int (nI m)])), (qba, .inl (cyI, 450, .inl F))] sz)) 0 0 (va_A [(qo, .inr (2, [.ref qa, .int (nI n)])), (qa, .inl (cyI, 450, .inl t)), (qb, .inr (2, [.ref qba, .int (nI m)])), (qba, .inl (cyI, 450, .inl F))] sz) := by
  refine Met.ofW (cc := cX1_decodeRow) (maxL := 5) (ret := (some .int)) (by decide) rfl ?_
  intro pz ez sS mM args below meth cC s₁ B hml hv
  obtain ⟨rfl, hsz, hP, hK, hD0⟩ := hv
  have hx := B.exec
  have hb := B.bytes
  have hr := B.returns
  have hts := atoms_spec (ws := wsX1_decodeRow) B.pre
  have hown : sS.vm.findClass RX1 = some mM.cls := findClass_of_methodNamed B.named
  have hlocks := B.notSynchronized
  subst hsz
  have hD := hD0.self (sz := sS.heap.size)
  generalize hAe : va_A [(qo, .inr (2, [.ref qa, .int (nI n)])), (qa, .inl (cyI, 450, .inl t)), (qb, .inr (2, [.ref qba, .int (nI m)])), (qba, .inl (cyI, 450, .inl F))] sS.heap.size = A at hD ⊢
  have hA : ∀ q : Nat, sS.heap.size ≤ q → A q := fun q h => by rw [← hAe]; exact Or.inr h
  have hS : va_S A sS.heap sS.heap [] := va_S.rf
  have hP : va_P (dC, dI) vwCl [(qo, .inr (2, [.ref qa, .int (nI n)])), (qa, .inl (cyI, 450, .inl t)), (qb, .inr (2, [.ref qba, .int (nI m)])), (qba, .inl (cyI, 450, .inl F))] sS.heap := hP
  have hl := lv_entry ([.ref qo, .int (nI i), .ref qb]) (n := 5) (Nat.le_of_ble_eq_true rfl)
  rw [lg_entry_eq]
  generalize (lg_sl ([.ref qo, .int (nI i), .ref qb]) ++ List.replicate (5 - (lg_sl ([.ref qo, .int (nI i), .ref qb])).length) Slot.unset).toArray = ls at hl ⊢
  have hl : lv_has ls 5 [(0, .ref qo), (1, .int (nI i)), (2, .ref qb)] := hl
  have v1 := (zO_vN (ht i (by omega))).2
  have v2 := (zO_vN (ht (i + 1) (by omega))).2
  refine lv_iload_n hx hb dX1_decodeRow_0 rfl (lv_at hl 1 rfl) ?_
  refine lv_iconst (v := nI 1) hx hb dX1_decodeRow_1 (by decide) ?_
  refine lv_iadd hx hb dX1_decodeRow_2 ?_
  refine zz_top (nI_add i 1) ?_
  refine lv_aload_n hx hb dX1_decodeRow_3 rfl (lv_at hl 0 rfl) ?_
  have hPc := hP.sub (ws' := [(qo, .inr (2, [.ref qa, .int (nI n)])), (qa, .inl (cyI, 450, .inl t))]) [0, 1] rfl
  have hKc := hK.sub (tys' := [(cyI, .int), (cyZ, .boolean)]) [0, 1] rfl
  refine vp_callSi (va_Run.run (va_runV (As := []) (rest := [.int (nI (i + 1))]) ⟨hx, hb, hml, hown, hts⟩ (c_X3_size l dC dI cyI cyZ qo qa t n) (cwV 0 hts gX1_decodeRow_X3_size rfl rfl rfl (by decide +kernel) ⟨Nat.le_of_ble_eq_true rfl, Nat.le_of_ble_eq_true rfl⟩) ⟨zz_blR, va_recv hKc hPc (ci := 2) (q0 := 0) rfl rfl, fun U hU hW => ⟨rfl, by rw [hU]; exact hPc, va_K.moved hW.alike hKc⟩⟩ rfl rfl hl.1 rfl (lv_room (Nat.le_of_ble_eq_true rfl)) dX1_decodeRow_4 ⟨Nat.zero_le _, Nat.zero_le _⟩)) (fun r_4 hr_4 => ?_)
  have hr_4 : r_4 = nI n := hr_4
  subst hr_4
  refine zn_icmp_lt (tgt := 15) hx hb dX1_decodeRow_7 (by decide) (by omega) (by omega) (fun c_7 => ?_) (fun c_7 => ?_)
  ·
    refine lv_aload_n hx hb dX1_decodeRow_15 rfl (lv_at hl 0 rfl) ?_
    refine lv_iload_n hx hb dX1_decodeRow_16 rfl (lv_at hl 1 rfl) ?_
    have hPc := hP.sub (ws' := [(qo, .inr (2, [.ref qa, .int (nI n)])), (qa, .inl (cyI, 450, .inl t))]) [0, 1] rfl
    have hKc := hK.sub (tys' := [(cyI, .int), (cyZ, .boolean)]) [0, 1] rfl
    refine vp_callSi (va_Run.run (va_runV (As := [.int (nI i)]) (rest := []) ⟨hx, hb, hml, hown, hts⟩ (c_X3_at_in l dC dI cyI cyZ qo qa t n i (by omega) (by omega)) (cwV 1 hts gX1_decodeRow_X3_at rfl rfl rfl (by decide +kernel) ⟨Nat.le_of_ble_eq_true rfl, Nat.le_of_ble_eq_true rfl⟩) ⟨zz_blR, va_recv hKc hPc (ci := 2) (q0 := 0) rfl rfl, fun U hU hW => ⟨rfl, by rw [hU]; exact hPc, va_K.moved hW.alike hKc⟩⟩ rfl rfl hl.1 rfl (lv_room (Nat.le_of_ble_eq_true rfl)) dX1_decodeRow_17 ⟨Nat.zero_le _, Nat.zero_le _⟩)) (fun r_17 hr_17 => ?_)
    have hr_17 : r_17 = t i := hr_17
    subst hr_17
    refine zz_top ((zO_vN (ht i (by omega))).1) ?_
    refine lv_iconst (v := nI 1) hx hb dX1_decodeRow_20 (by decide) ?_
    refine lv_iadd hx hb dX1_decodeRow_21 ?_
    refine zz_top (nI_add (vN (t i)) 1) ?_
    refine lv_istore_n (lv' := [(3, .int (nI (vN (t i) + 1))), (0, .ref qo), (1, .int (nI i)), (2, .ref qb)]) hx hb dX1_decodeRow_22 rfl hl (by decide) rfl (fun ls hl => ?_)
    refine lv_aload_n hx hb dX1_decodeRow_23 rfl (lv_at hl 1 rfl) ?_
    refine lv_iload_n hx hb dX1_decodeRow_24 rfl (lv_at hl 2 rfl) ?_
    refine lv_iconst (v := nI 1) hx hb dX1_decodeRow_25 (by decide) ?_
    refine lv_iadd hx hb dX1_decodeRow_26 ?_
    refine zz_top (nI_add i 1) ?_
    have hPc := hP.sub (ws' := [(qo, .inr (2, [.ref qa, .int (nI n)])), (qa, .inl (cyI, 450, .inl t))]) [0, 1] rfl
    have hKc := hK.sub (tys' := [(cyI, .int), (cyZ, .boolean)]) [0, 1] rfl
    refine vp_callSi (va_Run.run (va_runV (As := [.int (nI (i + 1))]) (rest := []) ⟨hx, hb, hml, hown, hts⟩ (c_X3_at_in l dC dI cyI cyZ qo qa t n (i + 1) (by omega) (by omega)) (cwV 1 hts gX1_decodeRow_X3_at rfl rfl rfl (by decide +kernel) ⟨Nat.le_of_ble_eq_true rfl, Nat.le_of_ble_eq_true rfl⟩) ⟨zz_blR, va_recv hKc hPc (ci := 2) (q0 := 0) rfl rfl, fun U hU hW => ⟨rfl, by rw [hU]; exact hPc, va_K.moved hW.alike hKc⟩⟩ rfl rfl hl.1 rfl (lv_room (Nat.le_of_ble_eq_true rfl)) dX1_decodeRow_27 ⟨Nat.zero_le _, Nat.zero_le _⟩)) (fun r_27 hr_27 => ?_)
    have hr_27 : r_27 = t (i + 1) := hr_27
    subst hr_27
    refine zz_top ((zO_vN (ht (i + 1) (by omega))).1) ?_
    refine lv_iconst (v := nI 3) hx hb dX1_decodeRow_30 (by decide) ?_
    refine lv_iadd hx hb dX1_decodeRow_31 ?_
    refine zz_top (nI_add (vN (t (i + 1))) 3) ?_
    refine lv_istore (lv' := [(4, .int (nI (vN (t (i + 1)) + 3))), (3, .int (nI (vN (t i) + 1))), (0, .ref qo), (1, .int (nI i)), (2, .ref qb)]) hx hb dX1_decodeRow_32 hl (by decide) rfl (fun ls hl => ?_)
    refine lv_iload_n hx hb dX1_decodeRow_34 rfl (lv_at hl 1 rfl) ?_
    refine lv_aload_n hx hb dX1_decodeRow_35 rfl (lv_at hl 4 rfl) ?_
    have hPc := hP.sub (ws' := [(qb, .inr (2, [.ref qba, .int (nI m)])), (qba, .inl (cyI, 450, .inl F))]) [2, 3] rfl
    have hKc := hK.sub (tys' := [(cyI, .int), (cyZ, .boolean)]) [0, 1] rfl
    refine vp_callSi (va_Run.run (va_runV (As := []) (rest := [.int (nI (vN (t i) + 1))]) ⟨hx, hb, hml, hown, hts⟩ (c_X3_size l dC dI cyI cyZ qb qba F m) (cwV 0 hts gX1_decodeRow_X3_size rfl rfl rfl (by decide +kernel) ⟨Nat.le_of_ble_eq_true rfl, Nat.le_of_ble_eq_true rfl⟩) ⟨zz_blR, va_recv hKc hPc (ci := 2) (q0 := 0) rfl rfl, fun U hU hW => ⟨rfl, by rw [hU]; exact hPc, va_K.moved hW.alike hKc⟩⟩ rfl rfl hl.1 rfl (lv_room (Nat.le_of_ble_eq_true rfl)) dX1_decodeRow_36 ⟨Nat.zero_le _, Nat.zero_le _⟩)) (fun r_36 hr_36 => ?_)
    have hr_36 : r_36 = nI m := hr_36
    subst hr_36
    refine zn_icmp_gt (tgt := 55) hx hb dX1_decodeRow_39 (by decide) (by omega) (by omega) (fun c_39 => ?_) (fun c_39 => ?_)
    ·
      exfalso
      omega
    ·
      refine lv_aload_n hx hb dX1_decodeRow_42 rfl (lv_at hl 4 rfl) ?_
      have hPc := hP.sub (ws' := [(qb, .inr (2, [.ref qba, .int (nI m)])), (qba, .inl (cyI, 450, .inl F))]) [2, 3] rfl
      have hKc := hK.sub (tys' := [(cyI, .int), (cyZ, .boolean)]) [0, 1] rfl
      refine vp_callSi (va_Run.run (va_runV (As := []) (rest := []) ⟨hx, hb, hml, hown, hts⟩ (c_X3_size l dC dI cyI cyZ qb qba F m) (cwV 0 hts gX1_decodeRow_X3_size rfl rfl rfl (by decide +kernel) ⟨Nat.le_of_ble_eq_true rfl, Nat.le_of_ble_eq_true rfl⟩) ⟨zz_blR, va_recv hKc hPc (ci := 2) (q0 := 0) rfl rfl, fun U hU hW => ⟨rfl, by rw [hU]; exact hPc, va_K.moved hW.alike hKc⟩⟩ rfl rfl hl.1 rfl (lv_room (Nat.le_of_ble_eq_true rfl)) dX1_decodeRow_43 ⟨Nat.zero_le _, Nat.zero_le _⟩)) (fun r_43 hr_43 => ?_)
      have hr_43 : r_43 = nI m := hr_43
      subst hr_43
      refine lv_iload hx hb dX1_decodeRow_46 (lv_at hl 0 rfl) ?_
      refine lv_iadd hx hb dX1_decodeRow_48 ?_
      refine zz_top (nI_add m (vN (t (i + 1)) + 3)) ?_
      refine lv_sipush (v := nI 400) hx hb dX1_decodeRow_49 (by decide) ?_
      refine zn_icmp_le (tgt := 57) hx hb dX1_decodeRow_52 (by decide) (by omega) (by omega) (fun c_52 => ?_) (fun c_52 => ?_)
      ·
        refine lv_aload_n hx hb dX1_decodeRow_57 rfl (lv_at hl 4 rfl) ?_
        refine lv_iload_n hx hb dX1_decodeRow_58 rfl (lv_at hl 1 rfl) ?_
        refine lv_iload hx hb dX1_decodeRow_59 (lv_at hl 0 rfl) ?_
        have hPc := hP.sub (ws' := [(qb, .inr (2, [.ref qba, .int (nI m)])), (qba, .inl (cyI, 450, .inl F))]) [2, 3] rfl
        have hKc := hK.sub (tys' := [(cyI, .int), (cyZ, .boolean)]) [0, 1] rfl
        have hDc := hD.sub (ws' := [(qb, .inr (2, [.ref qba, .int (nI m)])), (qba, .inl (cyI, 450, .inl F))]) [2, 3] (by decide) rfl
        have hFc := va_free (wc := [(qb, .inr (2, [.ref qba, .int (nI m)])), (qba, .inl (cyI, 450, .inl F))]) hD hS hA [2, 3] rfl
        refine va_callv (va_runV (As := [.int (nI (vN (t i) + 1)), .int (nI (vN (t (i + 1)) + 3))]) (rest := []) ⟨hx, hb, hml, hown, hts⟩ (c_X3_repeat l dC dI cyI cyZ qb qba sS.heap.size F m (vN (t i) + 1) (vN (t (i + 1)) + 3) (by omega) (by omega) (by omega) (hO)) (cwV 2 hts gX1_decodeRow_X3_repeat rfl rfl rfl (by decide +kernel) ⟨Nat.le_of_ble_eq_true rfl, Nat.le_of_ble_eq_true rfl⟩) ⟨zz_blW, va_recv hKc hPc (ci := 2) (q0 := 0) rfl rfl, fun U hU hW => ⟨rfl, by rw [hU], by rw [hU]; exact hPc, va_K.moved hW.alike hKc, hDc.weaken (fun _ _ _ _ => trivial)⟩⟩ rfl rfl hl.1 rfl (lv_room (Nat.le_of_ble_eq_true rfl)) dX1_decodeRow_61 ⟨Nat.zero_le _, Nat.zero_le _⟩) hS (fun q _ h => hFc q h) hFc (fun uU tS H1 locs ht9 hvm9 hw9 hB9 hz1 hk1 hS => ?_)
        obtain ⟨hP1, hK1, hD1⟩ := hB9
        rw [ht9] at hP1
        have hK1 := va_K.moved hvm9.symm hK1
        obtain ⟨hP, hD⟩ := va_join (wr := [(qo, .inr (2, [.ref qa, .int (nI n)])), (qa, .inl (cyI, 450, .inl t))]) (w1 := [(qb, .inr (2, [.ref qba, .int (nI (m + (vN (t (i + 1)) + 3)))])), (qba, .inl (cyI, 450, .inl (zrep F m (vN (t i) + 1) (vN (t (i + 1)) + 3))))]) hP hD [2, 3] [0, 1] rfl rfl (by decide) (by decide) hk1 hFc hP1 hD1
        generalize H1 = H at hP hS ⊢
        have hP : va_P (dC, dI) vwCl [(qo, .inr (2, [.ref qa, .int (nI n)])), (qa, .inl (cyI, 450, .inl t)), (qb, .inr (2, [.ref qba, .int (nI (m + (vN (t (i + 1)) + 3)))])), (qba, .inl (cyI, 450, .inl (zrep F m (vN (t i) + 1) (vN (t (i + 1)) + 3))))] H := hP
        have hD : va_D A [(qo, .inr (2, [.ref qa, .int (nI n)])), (qa, .inl (cyI, 450, .inl t)), (qb, .inr (2, [.ref qba, .int (nI (m + (vN (t (i + 1)) + 3)))])), (qba, .inl (cyI, 450, .inl (zrep F m (vN (t i) + 1) (vN (t (i + 1)) + 3))))] := hD
        refine lv_iconst (v := (-1)) hx hb dX1_decodeRow_64 (by decide) ?_
        have hP9 := hP.sub (ws' := [(qo, .inr (2, [.ref qa, .int (nI n)])), (qa, .inl (cyI, 450, .inl t)), (qb, .inr (2, [.ref qba, .int (nI (m + (vN (t (i + 1)) + 3)))])), (qba, .inl (cyI, 450, .inl (zrep F m (vN (t i) + 1) (vN (t (i + 1)) + 3))))]) [0, 1, 2, 3] rfl
        have hD9 := hD.sub (ws' := [(qo, .inr (2, [.ref qa, .int (nI n)])), (qa, .inl (cyI, 450, .inl t)), (qb, .inr (2, [.ref qba, .int (nI (m + (vN (t (i + 1)) + 3)))])), (qba, .inl (cyI, 450, .inl (zrep F m (vN (t i) + 1) (vN (t (i + 1)) + 3))))]) [0, 1, 2, 3] (by decide) rfl
        have hK9 := hK.sub (tys' := [(cyI, .int), (cyZ, .boolean)]) [0, 1] rfl
        exact W.iret hx hb hr (fun tS ht hW => ⟨⟨_, (), rfl, rfl, by rw [ht]; exact hP9, va_K.moved hW.alike hK9, hD9⟩, hS.F ht⟩) hS.2.2 dX1_decodeRow_65
      ·
        exfalso
        omega
  ·
    exfalso
    omega
set_option maxHeartbeats 4000000 in
set_option maxRecDepth 100000 in
theorem c_X1_decode (l : Launch) (dC : Nat → ClassId) (dI : Nat → Nat → Nat) (cyI cyZ : ClassId) (qo qa qb qba : Nat) (sz : Nat) (t : Nat → Int32) (n : Nat) (F0 : Nat → Int32) (m0 : Nat) (hn : n ≤ 450) (ht : ∀ j, j < n → zO (t j)) : Met l yX1_decode wsX1_decode ({ frames := 3, cells := 0, slots := 0, locals := 68 }) (va_Pc [.ref qo, .ref qb] (fun U => U.heap.size = sz ∧ va_P (dC, dI) vwCl [(qo, .inr (2, [.ref qa, .int (nI n)])), (qa, .inl (cyI, 450, .inl t)), (qb, .inr (2, [.ref qba, .int (nI m0)])), (qba, .inl (cyI, 450, .inl F0))] U.heap ∧ va_K (dC, dI) vwCl [(cyI, .int), (cyZ, .boolean)] U ∧ va_D (fun _ => True) [(qo, .inr (2, [.ref qa, .int (nI n)])), (qa, .inl (cyI, 450, .inl t)), (qb, .inr (2, [.ref qba, .int (nI m0)])), (qba, .inl (cyI, 450, .inl F0))])) (va_Qi (S := Nat × (Nat → Int32)) (fun (r : Int32) (uU : Nat × (Nat → Int32)) => match uU with | (m1, F1) => r = zPl (zD t n).1 ∧ (m1 = (zD t n).2.1) ∧ (∀ j, j < m1 → F1 j = (zD t n).2.2 j) ∧ (∀ j, j < m1 → zO (F1 j)) ∧ (m1 ≤ 400)) (fun (uU : Nat × (Nat → Int32)) tS => match uU with | (m1, F1) => va_P (dC, dI) vwCl [(qo, .inr (2, [.ref qa, .int (nI n)])), (qa, .inl (cyI, 450, .inl t)), (qb, .inr (2, [.ref qba, .int (nI m1)])), (qba, .inl (cyI, 450, .inl F1))] tS.heap ∧ va_K (dC, dI) vwCl [(cyI, .int), (cyZ, .boolean)] tS ∧ va_D (va_A [(qo, .inr (2, [.ref qa, .int (nI n)])), (qa, .inl (cyI, 450, .inl t)), (qb, .inr (2, [.ref qba, .int (nI m0)])), (qba, .inl (cyI, 450, .inl F0))] sz) [(qo, .inr (2, [.ref qa, .int (nI n)])), (qa, .inl (cyI, 450, .inl t)), (qb, .inr (2, [.ref qba, .int (nI m1)])), (qba, .inl (cyI, 450, .inl F1))]) (va_A [(qo, .inr (2, [.ref qa, .int (nI n)])), (qa, .inl (cyI, 450, .inl t)), (qb, .inr (2, [.ref qba, .int (nI m0)])), (qba, .inl (cyI, 450, .inl F0))] sz)) 0 0 (va_A [(qo, .inr (2, [.ref qa, .int (nI n)])), (qa, .inl (cyI, 450, .inl t)), (qb, .inr (2, [.ref qba, .int (nI m0)])), (qba, .inl (cyI, 450, .inl F0))] sz) := by
  refine Met.ofW (cc := cX1_decode) (maxL := 8) (ret := (some .int)) (by decide) rfl ?_
  intro pz ez sS mM args below meth cC s₁ B hml hv
  obtain ⟨rfl, hsz, hP, hK, hD0⟩ := hv
  have hx := B.exec
  have hb := B.bytes
  have hr := B.returns
  have hts := atoms_spec (ws := wsX1_decode) B.pre
  have hown : sS.vm.findClass RX1 = some mM.cls := findClass_of_methodNamed B.named
  have hlocks := B.notSynchronized
  subst hsz
  have hD := hD0.self (sz := sS.heap.size)
  generalize hAe : va_A [(qo, .inr (2, [.ref qa, .int (nI n)])), (qa, .inl (cyI, 450, .inl t)), (qb, .inr (2, [.ref qba, .int (nI m0)])), (qba, .inl (cyI, 450, .inl F0))] sS.heap.size = A at hD ⊢
  have hA : ∀ q : Nat, sS.heap.size ≤ q → A q := fun q h => by rw [← hAe]; exact Or.inr h
  have hS : va_S A sS.heap sS.heap [] := va_S.rf
  have hP : va_P (dC, dI) vwCl [(qo, .inr (2, [.ref qa, .int (nI n)])), (qa, .inl (cyI, 450, .inl t)), (qb, .inr (2, [.ref qba, .int (nI m0)])), (qba, .inl (cyI, 450, .inl F0))] sS.heap := hP
  have hl := lv_entry ([.ref qo, .ref qb]) (n := 8) (Nat.le_of_ble_eq_true rfl)
  rw [lg_entry_eq]
  generalize (lg_sl ([.ref qo, .ref qb]) ++ List.replicate (8 - (lg_sl ([.ref qo, .ref qb])).length) Slot.unset).toArray = ls at hl ⊢
  have hl : lv_has ls 8 [(0, .ref qo), (1, .ref qb)] := hl
  refine lv_aload_n hx hb dX1_decode_0 rfl (lv_at hl 1 rfl) ?_
  have hPc := hP.sub (ws' := [(qb, .inr (2, [.ref qba, .int (nI m0)])), (qba, .inl (cyI, 450, .inl F0))]) [2, 3] rfl
  have hKc := hK.sub (tys' := [(cyI, .int), (cyZ, .boolean)]) [0, 1] rfl
  have hDc := hD.sub (ws' := [(qb, .inr (2, [.ref qba, .int (nI m0)])), (qba, .inl (cyI, 450, .inl F0))]) [2, 3] (by decide) rfl
  have hFc := va_free (wc := [(qb, .inr (2, [.ref qba, .int (nI m0)])), (qba, .inl (cyI, 450, .inl F0))]) hD hS hA [2, 3] rfl
  refine va_callv (va_runV (As := []) (rest := []) ⟨hx, hb, hml, hown, hts⟩ (c_X3_empty l dC dI cyI cyZ qb qba sS.heap.size F0 m0) (cwV 0 hts gX1_decode_X3_empty rfl rfl rfl (by decide +kernel) ⟨Nat.le_of_ble_eq_true rfl, Nat.le_of_ble_eq_true rfl⟩) ⟨zz_blW, va_recv hKc hPc (ci := 2) (q0 := 0) rfl rfl, fun U hU hW => ⟨rfl, by rw [hU], by rw [hU]; exact hPc, va_K.moved hW.alike hKc, hDc.weaken (fun _ _ _ _ => trivial)⟩⟩ rfl rfl hl.1 rfl (lv_room (Nat.le_of_ble_eq_true rfl)) dX1_decode_1 ⟨Nat.zero_le _, Nat.zero_le _⟩) hS (fun q _ h => hFc q h) hFc (fun uU tS H1 locs ht9 hvm9 hw9 hB9 hz1 hk1 hS => ?_)
  obtain ⟨hP1, hK1, hD1⟩ := hB9
  rw [ht9] at hP1
  have hK1 := va_K.moved hvm9.symm hK1
  obtain ⟨hP, hD⟩ := va_join (wr := [(qo, .inr (2, [.ref qa, .int (nI n)])), (qa, .inl (cyI, 450, .inl t))]) (w1 := [(qb, .inr (2, [.ref qba, .int (nI 0)])), (qba, .inl (cyI, 450, .inl F0))]) hP hD [2, 3] [0, 1] rfl rfl (by decide) (by decide) hk1 hFc hP1 hD1
  generalize H1 = H at hP hS ⊢
  have hP : va_P (dC, dI) vwCl [(qo, .inr (2, [.ref qa, .int (nI n)])), (qa, .inl (cyI, 450, .inl t)), (qb, .inr (2, [.ref qba, .int (nI 0)])), (qba, .inl (cyI, 450, .inl F0))] H := hP
  have hD : va_D A [(qo, .inr (2, [.ref qa, .int (nI n)])), (qa, .inl (cyI, 450, .inl t)), (qb, .inr (2, [.ref qba, .int (nI 0)])), (qba, .inl (cyI, 450, .inl F0))] := hD
  refine lv_iconst (v := nI 0) hx hb dX1_decode_4 (by decide) ?_
  refine lv_istore_n (lv' := [(2, .int (nI 0)), (0, .ref qo), (1, .ref qb)]) hx hb dX1_decode_5 rfl hl (by decide) rfl (fun ls hl => ?_)
  refine lv_bipush (v := nI 8) hx hb dX1_decode_6 (by decide) ?_
  refine lv_istore_n (lv' := [(3, .int (nI 8)), (2, .int (nI 0)), (0, .ref qo), (1, .ref qb)]) hx hb dX1_decode_8 rfl hl (by decide) rfl (fun ls hl => ?_)
  refine lv_iconst (v := nI 0) hx hb dX1_decode_9 (by decide) ?_
  refine lv_istore (lv' := [(4, .int (nI 0)), (3, .int (nI 8)), (2, .int (nI 0)), (0, .ref qo), (1, .ref qb)]) hx hb dX1_decode_10 hl (by decide) rfl (fun ls hl => ?_)
  refine lv_iconst (v := nI 0) hx hb dX1_decode_12 (by decide) ?_
  refine lv_istore (lv' := [(5, .int (nI 0)), (4, .int (nI 0)), (3, .int (nI 8)), (2, .int (nI 0)), (0, .ref qo), (1, .ref qb)]) hx hb dX1_decode_13 hl (by decide) rfl (fun ls hl => ?_)
  refine zz_loopW (pc := 15) (μ := fun (x : Nat × Nat × Nat × Nat × Nat × Nat × (Nat → Int32) × (Nat → Int32)) => match x with | (i, nx, m, g, b, f, o, F) => n - i) (Inv := fun (x : Nat × Nat × Nat × Nat × Nat × Nat × (Nat → Int32) × (Nat → Int32)) (H : Heap) (locs : List Loc) (ls : Array Slot) => match x with | (i, nx, m, g, b, f, o, F) => (i ≤ nx) ∧ (nx ≤ n) ∧ (n + 1 ≤ nx + f) ∧ (b ≤ 8) ∧ (m ≤ 400) ∧ (b < 8 → g < nx) ∧ (0 < n → g < n) ∧ (g ≤ n) ∧ (n = 0 → b = 8) ∧ (dF t n f nx b g m o = zD t n) ∧ (∀ j, j < m → F j = o j) ∧ (∀ j, j < m → zO (F j)) ∧ va_P (dC, dI) vwCl [(qo, .inr (2, [.ref qa, .int (nI n)])), (qa, .inl (cyI, 450, .inl t)), (qb, .inr (2, [.ref qba, .int (nI m)])), (qba, .inl (cyI, 450, .inl F))] H ∧ va_D A [(qo, .inr (2, [.ref qa, .int (nI n)])), (qa, .inl (cyI, 450, .inl t)), (qb, .inr (2, [.ref qba, .int (nI m)])), (qba, .inl (cyI, 450, .inl F))] ∧ va_S A sS.heap H locs ∧ lv_has ls 8 [(0, .ref qo), (1, .ref qb), (2, .int (nI g)), (3, .int (nI b)), (4, .int (nI nx)), (5, .int (nI i))]) (x0 := (0, 0, 0, 0, 8, n + 1, fun _ => nI 0, F0)) ⟨by omega, by omega, by omega, by omega, by omega, by omega, by omega, by omega, fun _ => rfl, rfl, no_lt0, no_lt0, hP, hD, hS, lv_sub hl [4, 5, 3, 2, 1, 0] rfl⟩ ?_
  intro ⟨i, nx, m, g, b, f, o, F⟩ H locs ls hI ih15
  obtain ⟨hi1, hi2, hf, hb8, hm, hg, hgn, hg9, hb80, hE, hF, hO, hP, hD, hS, hl⟩ := hI
  have hl : lv_has ls 8 [(0, .ref qo), (1, .ref qb), (2, .int (nI g)), (3, .int (nI b)), (4, .int (nI nx)), (5, .int (nI i))] := hl
  have hP : va_P (dC, dI) vwCl [(qo, .inr (2, [.ref qa, .int (nI n)])), (qa, .inl (cyI, 450, .inl t)), (qb, .inr (2, [.ref qba, .int (nI m)])), (qba, .inl (cyI, 450, .inl F))] H := hP
  have hD : va_D A [(qo, .inr (2, [.ref qa, .int (nI n)])), (qa, .inl (cyI, 450, .inl t)), (qb, .inr (2, [.ref qba, .int (nI m)])), (qba, .inl (cyI, 450, .inl F))] := hD
  have hi1 : i ≤ nx := hi1
  have hi2 : nx ≤ n := hi2
  have hf : n + 1 ≤ nx + f := hf
  have hb8 : b ≤ 8 := hb8
  have hm : m ≤ 400 := hm
  have hg : b < 8 → g < nx := hg
  have hgn : 0 < n → g < n := hgn
  have hg9 : g ≤ n := hg9
  have hb80 : n = 0 → b = 8 := hb80
  have hE : dF t n f nx b g m o = zD t n := hE
  have hF : ∀ j, j < m → F j = o j := hF
  have hO : ∀ j, j < m → zO (F j) := hO
  refine lv_iload hx hb dX1_decode_15 (lv_at hl 5 rfl) ?_
  refine lv_aload_n hx hb dX1_decode_17 rfl (lv_at hl 0 rfl) ?_
  have hPc := hP.sub (ws' := [(qo, .inr (2, [.ref qa, .int (nI n)])), (qa, .inl (cyI, 450, .inl t))]) [0, 1] rfl
  have hKc := hK.sub (tys' := [(cyI, .int), (cyZ, .boolean)]) [0, 1] rfl
  refine vp_callSi (va_Run.run (va_runV (As := []) (rest := [.int (nI i)]) ⟨hx, hb, hml, hown, hts⟩ (c_X3_size l dC dI cyI cyZ qo qa t n) (cwV 0 hts gX1_decode_X3_size rfl rfl rfl (by decide +kernel) ⟨Nat.le_of_ble_eq_true rfl, Nat.le_of_ble_eq_true rfl⟩) ⟨zz_blR, va_recv hKc hPc (ci := 2) (q0 := 0) rfl rfl, fun U hU hW => ⟨rfl, by rw [hU]; exact hPc, va_K.moved hW.alike hKc⟩⟩ rfl rfl hl.1 rfl (lv_room (Nat.le_of_ble_eq_true rfl)) dX1_decode_18 ⟨Nat.zero_le _, Nat.zero_le _⟩)) (fun r_18 hr_18 => ?_)
  have hr_18 : r_18 = nI n := hr_18
  subst hr_18
  refine zn_icmp_ge (tgt := 134) hx hb dX1_decode_21 (by decide) (by omega) (by omega) (fun c_21 => ?_) (fun c_21 => ?_)
  ·
    refine lv_iload_n hx hb dX1_decode_134 rfl (lv_at hl 3 rfl) ?_
    refine zn_if_ne (tgt := 145) hx hb dX1_decode_135 (by decide) (by omega) (fun c_135 => ?_) (fun c_135 => ?_)
    ·
      refine lv_aload_n hx hb dX1_decode_145 rfl (lv_at hl 0 rfl) ?_
      refine lv_iload_n hx hb dX1_decode_146 rfl (lv_at hl 2 rfl) ?_
      have hPc := hP.sub (ws' := [(qo, .inr (2, [.ref qa, .int (nI n)])), (qa, .inl (cyI, 450, .inl t))]) [0, 1] rfl
      have hKc := hK.sub (tys' := [(cyI, .int), (cyZ, .boolean)]) [0, 1] rfl
      refine vp_callSi (va_Run.run (va_runV (As := [.int (nI g)]) (rest := []) ⟨hx, hb, hml, hown, hts⟩ (c_X3_at l dC dI cyI cyZ qo qa t n g (by omega) (by omega)) (cwV 1 hts gX1_decode_X3_at rfl rfl rfl (by decide +kernel) ⟨Nat.le_of_ble_eq_true rfl, Nat.le_of_ble_eq_true rfl⟩) ⟨zz_blR, va_recv hKc hPc (ci := 2) (q0 := 0) rfl rfl, fun U hU hW => ⟨rfl, by rw [hU]; exact hPc, va_K.moved hW.alike hKc⟩⟩ rfl rfl hl.1 rfl (lv_room (Nat.le_of_ble_eq_true rfl)) dX1_decode_147 ⟨Nat.zero_le _, Nat.zero_le _⟩)) (fun r_147 hr_147 => ?_)
      have hr_147 : r_147 = zat t n g := hr_147
      subst hr_147
      refine lv_iload_n hx hb dX1_decode_150 rfl (lv_at hl 3 rfl) ?_
      refine lv_ishr hx hb dX1_decode_151 ?_
      refine lv_if_eq (tgt := 159) hx hb dX1_decode_152 (by decide) (fun c_152 => ?_) (fun c_152 => ?_)
      ·
        refine lv_iconst (v := nI 0) hx hb dX1_decode_159 (by decide) ?_
        refine lv_istore (lv' := [(5, .int (nI 0)), (0, .ref qo), (1, .ref qb), (2, .int (nI g)), (3, .int (nI b)), (4, .int (nI nx))]) hx hb dX1_decode_160 hl (by decide) rfl (fun ls hl => ?_)
        refine lv_iload hx hb dX1_decode_162 (lv_at hl 0 rfl) ?_
        refine lv_if_eq (tgt := 171) hx hb dX1_decode_164 (by decide) (fun c_164 => ?_) (fun c_164 => absurd (by decide) c_164)
        refine lv_iconst (v := (-1)) hx hb dX1_decode_171 (by decide) ?_
        have e172 : nx = n := by omega
        obtain ⟨f9, e9⟩ : ∃ f9, f = f9 + 1 := ⟨f - 1, by omega⟩
        subst e9
        have hE2 : zD t n = (0, m, o) := by
          rw [← hE]
          rcases Nat.eq_zero_or_pos n with q | q
          · subst q; exact dF_end0
          · rw [zat_in (hgn q)] at c_152
            exact dF_endG (by omega) (fun h => h.elim (fun h => by omega) (fun h => h c_152))
        have hP9 := hP.sub (ws' := [(qo, .inr (2, [.ref qa, .int (nI n)])), (qa, .inl (cyI, 450, .inl t)), (qb, .inr (2, [.ref qba, .int (nI m)])), (qba, .inl (cyI, 450, .inl F))]) [0, 1, 2, 3] rfl
        have hD9 := hD.sub (ws' := [(qo, .inr (2, [.ref qa, .int (nI n)])), (qa, .inl (cyI, 450, .inl t)), (qb, .inr (2, [.ref qba, .int (nI m)])), (qba, .inl (cyI, 450, .inl F))]) [0, 1, 2, 3] (by decide) rfl
        have hK9 := hK.sub (tys' := [(cyI, .int), (cyZ, .boolean)]) [0, 1] rfl
        have hret : (-1) = zPl (zD t n).1 := by rw [hE2]; rfl
        refine zz_top hret ?_
        exact W.iret hx hb hr (fun tS ht hW => ⟨⟨_, (m, F), rfl, ⟨rfl, by rw [hE2], by rw [hE2]; exact hF, hO, by omega⟩, by rw [ht]; exact hP9, va_K.moved hW.alike hK9, hD9⟩, hS.F ht⟩) hS.2.2 dX1_decode_172
      ·
        refine lv_iconst (v := nI 1) hx hb dX1_decode_155 (by decide) ?_
        refine lv_goto (tgt := 160) hx hb dX1_decode_156 (by decide) ?_
        refine lv_istore (lv' := [(5, .int (nI 1)), (0, .ref qo), (1, .ref qb), (2, .int (nI g)), (3, .int (nI b)), (4, .int (nI nx))]) hx hb dX1_decode_160 hl (by decide) rfl (fun ls hl => ?_)
        refine lv_iload hx hb dX1_decode_162 (lv_at hl 0 rfl) ?_
        refine lv_if_eq (tgt := 171) hx hb dX1_decode_164 (by decide) (fun c_164 => absurd c_164 (by decide)) (fun c_164 => ?_)
        refine lv_iload_n hx hb dX1_decode_167 rfl (lv_at hl 3 rfl) ?_
        refine lv_goto (tgt := 172) hx hb dX1_decode_168 (by decide) ?_
        have e172 : nx = n := by omega
        obtain ⟨f9, e9⟩ : ∃ f9, f = f9 + 1 := ⟨f - 1, by omega⟩
        subst e9
        have hn0 : 0 < n := by first | omega | (rcases Nat.eq_zero_or_pos n with q | q; (rw [zat_out (by omega)] at c_152; rw [hb80 q] at c_152; exact absurd (by decide) c_152); exact q)
        have hE2 : zD t n = (g + 1, m, o) := by
          rw [← hE]
          exact dF_endB (by omega) hn0 (by first | exact Or.inl (by omega) | (rw [zat_in (hgn hn0)] at c_152; exact Or.inr c_152))
        have hP9 := hP.sub (ws' := [(qo, .inr (2, [.ref qa, .int (nI n)])), (qa, .inl (cyI, 450, .inl t)), (qb, .inr (2, [.ref qba, .int (nI m)])), (qba, .inl (cyI, 450, .inl F))]) [0, 1, 2, 3] rfl
        have hD9 := hD.sub (ws' := [(qo, .inr (2, [.ref qa, .int (nI n)])), (qa, .inl (cyI, 450, .inl t)), (qb, .inr (2, [.ref qba, .int (nI m)])), (qba, .inl (cyI, 450, .inl F))]) [0, 1, 2, 3] (by decide) rfl
        have hK9 := hK.sub (tys' := [(cyI, .int), (cyZ, .boolean)]) [0, 1] rfl
        have hret : nI g = zPl (zD t n).1 := by rw [hE2]; exact (zPl_s _).symm
        refine zz_top hret ?_
        exact W.iret hx hb hr (fun tS ht hW => ⟨⟨_, (m, F), rfl, ⟨rfl, by rw [hE2], by rw [hE2]; exact hF, hO, by omega⟩, by rw [ht]; exact hP9, va_K.moved hW.alike hK9, hD9⟩, hS.F ht⟩) hS.2.2 dX1_decode_172
    ·
      refine lv_aload_n hx hb dX1_decode_138 rfl (lv_at hl 0 rfl) ?_
      have hPc := hP.sub (ws' := [(qo, .inr (2, [.ref qa, .int (nI n)])), (qa, .inl (cyI, 450, .inl t))]) [0, 1] rfl
      have hKc := hK.sub (tys' := [(cyI, .int), (cyZ, .boolean)]) [0, 1] rfl
      refine vp_callSi (va_Run.run (va_runV (As := []) (rest := []) ⟨hx, hb, hml, hown, hts⟩ (c_X3_size l dC dI cyI cyZ qo qa t n) (cwV 0 hts gX1_decode_X3_size rfl rfl rfl (by decide +kernel) ⟨Nat.le_of_ble_eq_true rfl, Nat.le_of_ble_eq_true rfl⟩) ⟨zz_blR, va_recv hKc hPc (ci := 2) (q0 := 0) rfl rfl, fun U hU hW => ⟨rfl, by rw [hU]; exact hPc, va_K.moved hW.alike hKc⟩⟩ rfl rfl hl.1 rfl (lv_room (Nat.le_of_ble_eq_true rfl)) dX1_decode_139 ⟨Nat.zero_le _, Nat.zero_le _⟩)) (fun r_139 hr_139 => ?_)
      have hr_139 : r_139 = nI n := hr_139
      subst hr_139
      refine zn_if_gt (tgt := 155) hx hb dX1_decode_142 (by decide) (by omega) (fun c_142 => ?_) (fun c_142 => ?_)
      ·
        refine lv_iconst (v := nI 1) hx hb dX1_decode_155 (by decide) ?_
        refine lv_goto (tgt := 160) hx hb dX1_decode_156 (by decide) ?_
        refine lv_istore (lv' := [(5, .int (nI 1)), (0, .ref qo), (1, .ref qb), (2, .int (nI g)), (3, .int (nI b)), (4, .int (nI nx))]) hx hb dX1_decode_160 hl (by decide) rfl (fun ls hl => ?_)
        refine lv_iload hx hb dX1_decode_162 (lv_at hl 0 rfl) ?_
        refine lv_if_eq (tgt := 171) hx hb dX1_decode_164 (by decide) (fun c_164 => absurd c_164 (by decide)) (fun c_164 => ?_)
        refine lv_iload_n hx hb dX1_decode_167 rfl (lv_at hl 3 rfl) ?_
        refine lv_goto (tgt := 172) hx hb dX1_decode_168 (by decide) ?_
        have e172 : nx = n := by omega
        obtain ⟨f9, e9⟩ : ∃ f9, f = f9 + 1 := ⟨f - 1, by omega⟩
        subst e9
        have hn0 : 0 < n := by first | omega | (rcases Nat.eq_zero_or_pos n with q | q; (rw [zat_out (by omega)] at c_152; rw [hb80 q] at c_152; exact absurd (by decide) c_152); exact q)
        have hE2 : zD t n = (g + 1, m, o) := by
          rw [← hE]
          exact dF_endB (by omega) hn0 (by first | exact Or.inl (by omega) | (rw [zat_in (hgn hn0)] at c_152; exact Or.inr c_152))
        have hP9 := hP.sub (ws' := [(qo, .inr (2, [.ref qa, .int (nI n)])), (qa, .inl (cyI, 450, .inl t)), (qb, .inr (2, [.ref qba, .int (nI m)])), (qba, .inl (cyI, 450, .inl F))]) [0, 1, 2, 3] rfl
        have hD9 := hD.sub (ws' := [(qo, .inr (2, [.ref qa, .int (nI n)])), (qa, .inl (cyI, 450, .inl t)), (qb, .inr (2, [.ref qba, .int (nI m)])), (qba, .inl (cyI, 450, .inl F))]) [0, 1, 2, 3] (by decide) rfl
        have hK9 := hK.sub (tys' := [(cyI, .int), (cyZ, .boolean)]) [0, 1] rfl
        have hret : nI g = zPl (zD t n).1 := by rw [hE2]; exact (zPl_s _).symm
        refine zz_top hret ?_
        exact W.iret hx hb hr (fun tS ht hW => ⟨⟨_, (m, F), rfl, ⟨rfl, by rw [hE2], by rw [hE2]; exact hF, hO, by omega⟩, by rw [ht]; exact hP9, va_K.moved hW.alike hK9, hD9⟩, hS.F ht⟩) hS.2.2 dX1_decode_172
      ·
        refine lv_aload_n hx hb dX1_decode_145 rfl (lv_at hl 0 rfl) ?_
        refine lv_iload_n hx hb dX1_decode_146 rfl (lv_at hl 2 rfl) ?_
        have hPc := hP.sub (ws' := [(qo, .inr (2, [.ref qa, .int (nI n)])), (qa, .inl (cyI, 450, .inl t))]) [0, 1] rfl
        have hKc := hK.sub (tys' := [(cyI, .int), (cyZ, .boolean)]) [0, 1] rfl
        refine vp_callSi (va_Run.run (va_runV (As := [.int (nI g)]) (rest := []) ⟨hx, hb, hml, hown, hts⟩ (c_X3_at l dC dI cyI cyZ qo qa t n g (by omega) (by omega)) (cwV 1 hts gX1_decode_X3_at rfl rfl rfl (by decide +kernel) ⟨Nat.le_of_ble_eq_true rfl, Nat.le_of_ble_eq_true rfl⟩) ⟨zz_blR, va_recv hKc hPc (ci := 2) (q0 := 0) rfl rfl, fun U hU hW => ⟨rfl, by rw [hU]; exact hPc, va_K.moved hW.alike hKc⟩⟩ rfl rfl hl.1 rfl (lv_room (Nat.le_of_ble_eq_true rfl)) dX1_decode_147 ⟨Nat.zero_le _, Nat.zero_le _⟩)) (fun r_147 hr_147 => ?_)
        have hr_147 : r_147 = zat t n g := hr_147
        subst hr_147
        refine lv_iload_n hx hb dX1_decode_150 rfl (lv_at hl 3 rfl) ?_
        refine lv_ishr hx hb dX1_decode_151 ?_
        refine lv_if_eq (tgt := 159) hx hb dX1_decode_152 (by decide) (fun c_152 => ?_) (fun c_152 => ?_)
        ·
          refine lv_iconst (v := nI 0) hx hb dX1_decode_159 (by decide) ?_
          refine lv_istore (lv' := [(5, .int (nI 0)), (0, .ref qo), (1, .ref qb), (2, .int (nI g)), (3, .int (nI b)), (4, .int (nI nx))]) hx hb dX1_decode_160 hl (by decide) rfl (fun ls hl => ?_)
          refine lv_iload hx hb dX1_decode_162 (lv_at hl 0 rfl) ?_
          refine lv_if_eq (tgt := 171) hx hb dX1_decode_164 (by decide) (fun c_164 => ?_) (fun c_164 => absurd (by decide) c_164)
          refine lv_iconst (v := (-1)) hx hb dX1_decode_171 (by decide) ?_
          have e172 : nx = n := by omega
          obtain ⟨f9, e9⟩ : ∃ f9, f = f9 + 1 := ⟨f - 1, by omega⟩
          subst e9
          have hE2 : zD t n = (0, m, o) := by
            rw [← hE]
            rcases Nat.eq_zero_or_pos n with q | q
            · subst q; exact dF_end0
            · rw [zat_in (hgn q)] at c_152
              exact dF_endG (by omega) (fun h => h.elim (fun h => by omega) (fun h => h c_152))
          have hP9 := hP.sub (ws' := [(qo, .inr (2, [.ref qa, .int (nI n)])), (qa, .inl (cyI, 450, .inl t)), (qb, .inr (2, [.ref qba, .int (nI m)])), (qba, .inl (cyI, 450, .inl F))]) [0, 1, 2, 3] rfl
          have hD9 := hD.sub (ws' := [(qo, .inr (2, [.ref qa, .int (nI n)])), (qa, .inl (cyI, 450, .inl t)), (qb, .inr (2, [.ref qba, .int (nI m)])), (qba, .inl (cyI, 450, .inl F))]) [0, 1, 2, 3] (by decide) rfl
          have hK9 := hK.sub (tys' := [(cyI, .int), (cyZ, .boolean)]) [0, 1] rfl
          have hret : (-1) = zPl (zD t n).1 := by rw [hE2]; rfl
          refine zz_top hret ?_
          exact W.iret hx hb hr (fun tS ht hW => ⟨⟨_, (m, F), rfl, ⟨rfl, by rw [hE2], by rw [hE2]; exact hF, hO, by omega⟩, by rw [ht]; exact hP9, va_K.moved hW.alike hK9, hD9⟩, hS.F ht⟩) hS.2.2 dX1_decode_172
        ·
          refine lv_iconst (v := nI 1) hx hb dX1_decode_155 (by decide) ?_
          refine lv_goto (tgt := 160) hx hb dX1_decode_156 (by decide) ?_
          refine lv_istore (lv' := [(5, .int (nI 1)), (0, .ref qo), (1, .ref qb), (2, .int (nI g)), (3, .int (nI b)), (4, .int (nI nx))]) hx hb dX1_decode_160 hl (by decide) rfl (fun ls hl => ?_)
          refine lv_iload hx hb dX1_decode_162 (lv_at hl 0 rfl) ?_
          refine lv_if_eq (tgt := 171) hx hb dX1_decode_164 (by decide) (fun c_164 => absurd c_164 (by decide)) (fun c_164 => ?_)
          refine lv_iload_n hx hb dX1_decode_167 rfl (lv_at hl 3 rfl) ?_
          refine lv_goto (tgt := 172) hx hb dX1_decode_168 (by decide) ?_
          have e172 : nx = n := by omega
          obtain ⟨f9, e9⟩ : ∃ f9, f = f9 + 1 := ⟨f - 1, by omega⟩
          subst e9
          have hn0 : 0 < n := by first | omega | (rcases Nat.eq_zero_or_pos n with q | q; (rw [zat_out (by omega)] at c_152; rw [hb80 q] at c_152; exact absurd (by decide) c_152); exact q)
          have hE2 : zD t n = (g + 1, m, o) := by
            rw [← hE]
            exact dF_endB (by omega) hn0 (by first | exact Or.inl (by omega) | (rw [zat_in (hgn hn0)] at c_152; exact Or.inr c_152))
          have hP9 := hP.sub (ws' := [(qo, .inr (2, [.ref qa, .int (nI n)])), (qa, .inl (cyI, 450, .inl t)), (qb, .inr (2, [.ref qba, .int (nI m)])), (qba, .inl (cyI, 450, .inl F))]) [0, 1, 2, 3] rfl
          have hD9 := hD.sub (ws' := [(qo, .inr (2, [.ref qa, .int (nI n)])), (qa, .inl (cyI, 450, .inl t)), (qb, .inr (2, [.ref qba, .int (nI m)])), (qba, .inl (cyI, 450, .inl F))]) [0, 1, 2, 3] (by decide) rfl
          have hK9 := hK.sub (tys' := [(cyI, .int), (cyZ, .boolean)]) [0, 1] rfl
          have hret : nI g = zPl (zD t n).1 := by rw [hE2]; exact (zPl_s _).symm
          refine zz_top hret ?_
          exact W.iret hx hb hr (fun tS ht hW => ⟨⟨_, (m, F), rfl, ⟨rfl, by rw [hE2], by rw [hE2]; exact hF, hO, by omega⟩, by rw [ht]; exact hP9, va_K.moved hW.alike hK9, hD9⟩, hS.F ht⟩) hS.2.2 dX1_decode_172
  ·
    refine lv_iload hx hb dX1_decode_24 (lv_at hl 5 rfl) ?_
    refine lv_iload hx hb dX1_decode_26 (lv_at hl 4 rfl) ?_
    refine zn_icmp_ge (tgt := 34) hx hb dX1_decode_28 (by decide) (by omega) (by omega) (fun c_28 => ?_) (fun c_28 => ?_)
    ·
      have e28 : i = nx := by omega
      subst e28
      have hi9 : i < n := by omega
      obtain ⟨f9, e9⟩ : ∃ f9, f = f9 + 1 := ⟨f - 1, by omega⟩
      subst e9
      refine lv_iload_n hx hb dX1_decode_34 rfl (lv_at hl 3 rfl) ?_
      refine lv_bipush (v := nI 8) hx hb dX1_decode_35 (by decide) ?_
      refine zn_icmp_ne (tgt := 54) hx hb dX1_decode_37 (by decide) (by omega) (by omega) (fun c_37 => ?_) (fun c_37 => ?_)
      ·
        have hg9 := hg (by omega)
        refine lv_aload_n hx hb dX1_decode_54 rfl (lv_at hl 0 rfl) ?_
        refine lv_iload_n hx hb dX1_decode_55 rfl (lv_at hl 2 rfl) ?_
        have hPc := hP.sub (ws' := [(qo, .inr (2, [.ref qa, .int (nI n)])), (qa, .inl (cyI, 450, .inl t))]) [0, 1] rfl
        have hKc := hK.sub (tys' := [(cyI, .int), (cyZ, .boolean)]) [0, 1] rfl
        refine vp_callSi (va_Run.run (va_runV (As := [.int (nI g)]) (rest := []) ⟨hx, hb, hml, hown, hts⟩ (c_X3_at_in l dC dI cyI cyZ qo qa t n g (by omega) (by omega)) (cwV 1 hts gX1_decode_X3_at rfl rfl rfl (by decide +kernel) ⟨Nat.le_of_ble_eq_true rfl, Nat.le_of_ble_eq_true rfl⟩) ⟨zz_blR, va_recv hKc hPc (ci := 2) (q0 := 0) rfl rfl, fun U hU hW => ⟨rfl, by rw [hU]; exact hPc, va_K.moved hW.alike hKc⟩⟩ rfl rfl hl.1 rfl (lv_room (Nat.le_of_ble_eq_true rfl)) dX1_decode_56 ⟨Nat.zero_le _, Nat.zero_le _⟩)) (fun r_56 hr_56 => ?_)
        have hr_56 : r_56 = t g := hr_56
        subst hr_56
        refine lv_iload_n hx hb dX1_decode_59 rfl (lv_at hl 3 rfl) ?_
        refine lv_ishr hx hb dX1_decode_60 ?_
        refine lv_iconst (v := nI 1) hx hb dX1_decode_61 (by decide) ?_
        refine lv_iand hx hb dX1_decode_62 ?_
        refine lv_iconst (v := nI 1) hx hb dX1_decode_63 (by decide) ?_
        refine lv_icmp_ne (tgt := 71) hx hb dX1_decode_64 (by decide) (fun c_64 => ?_) (fun c_64 => ?_)
        ·
          refine lv_iconst (v := nI 0) hx hb dX1_decode_71 (by decide) ?_
          refine lv_istore (lv' := [(6, .int (nI 0)), (0, .ref qo), (1, .ref qb), (2, .int (nI g)), (3, .int (nI b)), (4, .int (nI i)), (5, .int (nI i))]) hx hb dX1_decode_72 hl (by decide) rfl (fun ls hl => ?_)
          refine lv_iload hx hb dX1_decode_74 (lv_at hl 0 rfl) ?_
          refine lv_if_eq (tgt := 89) hx hb dX1_decode_76 (by decide) (fun c_76 => ?_) (fun c_76 => absurd (by decide) c_76)
          refine lv_aload_n hx hb dX1_decode_89 rfl (lv_at hl 1 rfl) ?_
          refine lv_iload hx hb dX1_decode_90 (lv_at hl 6 rfl) ?_
          refine lv_aload_n hx hb dX1_decode_92 rfl (lv_at hl 2 rfl) ?_
          by_cases q1 : n ≤ i + 1
          ·
            have hPc := hP.sub (ws' := [(qo, .inr (2, [.ref qa, .int (nI n)])), (qa, .inl (cyI, 450, .inl t)), (qb, .inr (2, [.ref qba, .int (nI m)])), (qba, .inl (cyI, 450, .inl F))]) [0, 1, 2, 3] rfl
            have hKc := hK.sub (tys' := [(cyI, .int), (cyZ, .boolean)]) [0, 1] rfl
            refine vp_callSi (va_Run.run (va_runS (As := [.ref qo, .int (nI i), .ref qb]) (rest := []) ⟨hx, hb, hml, hown, hts⟩ (c_X1_row_half l dC dI cyI cyZ qo qa qb qba t n F m i (by omega) (by omega) (q1)) (va_cwS 3 hts gX1_decode_X1_decodeRow rfl rfl rfl (by decide +kernel) ⟨Nat.le_of_ble_eq_true rfl, Nat.le_of_ble_eq_true rfl⟩) ⟨zz_blR, fun U hU hW => ⟨rfl, by rw [hU]; exact hPc, va_K.moved hW.alike hKc⟩⟩ rfl rfl hl.1 rfl (lv_room (Nat.le_of_ble_eq_true rfl)) dX1_decode_93 ⟨Nat.zero_le _, Nat.zero_le _⟩)) (fun r_93 hr_93 => ?_)
            have hr_93 : r_93 = nI n := hr_93
            subst hr_93
            refine lv_istore (lv' := [(7, .int (nI n)), (6, .int (nI 0)), (0, .ref qo), (1, .ref qb), (2, .int (nI g)), (3, .int (nI b)), (4, .int (nI i)), (5, .int (nI i))]) hx hb dX1_decode_96 hl (by decide) rfl (fun ls hl => ?_)
            refine lv_iload hx hb dX1_decode_98 (lv_at hl 0 rfl) ?_
            refine lv_iconst (v := (-1)) hx hb dX1_decode_100 (by decide) ?_
            refine lv_icmp_eq (tgt := 107) hx hb dX1_decode_101 (by decide) (fun c_101 => absurd c_101 (nI_nm1 (by omega))) (fun c_101 => ?_)
            refine lv_iload hx hb dX1_decode_104 (lv_at hl 0 rfl) ?_
            have hE2 : zD t n = (n + 1, m, o) := by
              rw [← hE]
              first | exact dF_oneB hi9 c_37 c_64 q3 | exact dF_half hi9 c_37 c_64 q1 | exact dF_rowB hi9 c_37 c_64 q1 q2
            have hP9 := hP.sub (ws' := [(qo, .inr (2, [.ref qa, .int (nI n)])), (qa, .inl (cyI, 450, .inl t)), (qb, .inr (2, [.ref qba, .int (nI m)])), (qba, .inl (cyI, 450, .inl F))]) [0, 1, 2, 3] rfl
            have hD9 := hD.sub (ws' := [(qo, .inr (2, [.ref qa, .int (nI n)])), (qa, .inl (cyI, 450, .inl t)), (qb, .inr (2, [.ref qba, .int (nI m)])), (qba, .inl (cyI, 450, .inl F))]) [0, 1, 2, 3] (by decide) rfl
            have hK9 := hK.sub (tys' := [(cyI, .int), (cyZ, .boolean)]) [0, 1] rfl
            have hret : nI n = zPl (zD t n).1 := by rw [hE2]; exact (zPl_s _).symm
            refine zz_top hret ?_
            exact W.iret hx hb hr (fun tS ht hW => ⟨⟨_, (m, F), rfl, ⟨rfl, by rw [hE2], by rw [hE2]; exact hF, hO, by omega⟩, by rw [ht]; exact hP9, va_K.moved hW.alike hK9, hD9⟩, hS.F ht⟩) hS.2.2 dX1_decode_106
          ·
            have v1 := (zO_vN (ht i (by omega))).2
            have v2 := (zO_vN (ht (i + 1) (by omega))).2
            by_cases q2 : m < vN (t i) + 1 ∨ 400 < m + (vN (t (i + 1)) + 3)
            ·
              have hPc := hP.sub (ws' := [(qo, .inr (2, [.ref qa, .int (nI n)])), (qa, .inl (cyI, 450, .inl t)), (qb, .inr (2, [.ref qba, .int (nI m)])), (qba, .inl (cyI, 450, .inl F))]) [0, 1, 2, 3] rfl
              have hKc := hK.sub (tys' := [(cyI, .int), (cyZ, .boolean)]) [0, 1] rfl
              refine vp_callSi (va_Run.run (va_runS (As := [.ref qo, .int (nI i), .ref qb]) (rest := []) ⟨hx, hb, hml, hown, hts⟩ (c_X1_row_bad l dC dI cyI cyZ qo qa qb qba t n F m i (by omega) (by omega) (by omega) (q1) (q2) (ht)) (va_cwS 3 hts gX1_decode_X1_decodeRow rfl rfl rfl (by decide +kernel) ⟨Nat.le_of_ble_eq_true rfl, Nat.le_of_ble_eq_true rfl⟩) ⟨zz_blR, fun U hU hW => ⟨rfl, by rw [hU]; exact hPc, va_K.moved hW.alike hKc⟩⟩ rfl rfl hl.1 rfl (lv_room (Nat.le_of_ble_eq_true rfl)) dX1_decode_93 ⟨Nat.zero_le _, Nat.zero_le _⟩)) (fun r_93 hr_93 => ?_)
              have hr_93 : r_93 = nI i := hr_93
              subst hr_93
              refine lv_istore (lv' := [(7, .int (nI i)), (6, .int (nI 0)), (0, .ref qo), (1, .ref qb), (2, .int (nI g)), (3, .int (nI b)), (4, .int (nI i)), (5, .int (nI i))]) hx hb dX1_decode_96 hl (by decide) rfl (fun ls hl => ?_)
              refine lv_iload hx hb dX1_decode_98 (lv_at hl 0 rfl) ?_
              refine lv_iconst (v := (-1)) hx hb dX1_decode_100 (by decide) ?_
              refine lv_icmp_eq (tgt := 107) hx hb dX1_decode_101 (by decide) (fun c_101 => absurd c_101 (nI_nm1 (by omega))) (fun c_101 => ?_)
              refine lv_iload hx hb dX1_decode_104 (lv_at hl 0 rfl) ?_
              have hE2 : zD t n = (i + 1, m, o) := by
                rw [← hE]
                first | exact dF_oneB hi9 c_37 c_64 q3 | exact dF_half hi9 c_37 c_64 q1 | exact dF_rowB hi9 c_37 c_64 q1 q2
              have hP9 := hP.sub (ws' := [(qo, .inr (2, [.ref qa, .int (nI n)])), (qa, .inl (cyI, 450, .inl t)), (qb, .inr (2, [.ref qba, .int (nI m)])), (qba, .inl (cyI, 450, .inl F))]) [0, 1, 2, 3] rfl
              have hD9 := hD.sub (ws' := [(qo, .inr (2, [.ref qa, .int (nI n)])), (qa, .inl (cyI, 450, .inl t)), (qb, .inr (2, [.ref qba, .int (nI m)])), (qba, .inl (cyI, 450, .inl F))]) [0, 1, 2, 3] (by decide) rfl
              have hK9 := hK.sub (tys' := [(cyI, .int), (cyZ, .boolean)]) [0, 1] rfl
              have hret : nI i = zPl (zD t n).1 := by rw [hE2]; exact (zPl_s _).symm
              refine zz_top hret ?_
              exact W.iret hx hb hr (fun tS ht hW => ⟨⟨_, (m, F), rfl, ⟨rfl, by rw [hE2], by rw [hE2]; exact hF, hO, by omega⟩, by rw [ht]; exact hP9, va_K.moved hW.alike hK9, hD9⟩, hS.F ht⟩) hS.2.2 dX1_decode_106
            ·
              have hPc := hP.sub (ws' := [(qo, .inr (2, [.ref qa, .int (nI n)])), (qa, .inl (cyI, 450, .inl t)), (qb, .inr (2, [.ref qba, .int (nI m)])), (qba, .inl (cyI, 450, .inl F))]) [0, 1, 2, 3] rfl
              have hKc := hK.sub (tys' := [(cyI, .int), (cyZ, .boolean)]) [0, 1] rfl
              have hDc := hD.sub (ws' := [(qo, .inr (2, [.ref qa, .int (nI n)])), (qa, .inl (cyI, 450, .inl t)), (qb, .inr (2, [.ref qba, .int (nI m)])), (qba, .inl (cyI, 450, .inl F))]) [0, 1, 2, 3] (by decide) rfl
              have hFc := va_free (wc := [(qo, .inr (2, [.ref qa, .int (nI n)])), (qa, .inl (cyI, 450, .inl t)), (qb, .inr (2, [.ref qba, .int (nI m)])), (qba, .inl (cyI, 450, .inl F))]) hD hS hA [0, 1, 2, 3] rfl
              refine va_calli (va_runS (As := [.ref qo, .int (nI i), .ref qb]) (rest := []) ⟨hx, hb, hml, hown, hts⟩ (c_X1_row_ok l dC dI cyI cyZ qo qa qb qba H.size t n F m i (by omega) (by omega) (q1) (q2) (ht) (hO)) (va_cwS 3 hts gX1_decode_X1_decodeRow rfl rfl rfl (by decide +kernel) ⟨Nat.le_of_ble_eq_true rfl, Nat.le_of_ble_eq_true rfl⟩) ⟨zz_blW, fun U hU hW => ⟨rfl, by rw [hU], by rw [hU]; exact hPc, va_K.moved hW.alike hKc, hDc.weaken (fun _ _ _ _ => trivial)⟩⟩ rfl rfl hl.1 rfl (lv_room (Nat.le_of_ble_eq_true rfl)) dX1_decode_93 ⟨Nat.zero_le _, Nat.zero_le _⟩) hS (fun q _ h => hFc q h) hFc (fun r_93 uU tS H1 locs ht9 hvm9 hw9 hB9 hz1 hk1 hS => ?_)
              obtain ⟨hP1, hK1, hD1⟩ := hB9
              have hw9 : (r_93 = (-1)) := hw9
              have hr_93 := hw9
              subst hr_93
              rw [ht9] at hP1
              have hK1 := va_K.moved hvm9.symm hK1
              obtain ⟨hP, hD⟩ := va_join (wr := []) (w1 := [(qo, .inr (2, [.ref qa, .int (nI n)])), (qa, .inl (cyI, 450, .inl t)), (qb, .inr (2, [.ref qba, .int (nI (m + (vN (t (i + 1)) + 3)))])), (qba, .inl (cyI, 450, .inl (zrep F m (vN (t i) + 1) (vN (t (i + 1)) + 3))))]) hP hD [0, 1, 2, 3] [] rfl rfl (by decide) (by decide) hk1 hFc hP1 hD1
              generalize H1 = H at hP hS ⊢
              have hP : va_P (dC, dI) vwCl [(qo, .inr (2, [.ref qa, .int (nI n)])), (qa, .inl (cyI, 450, .inl t)), (qb, .inr (2, [.ref qba, .int (nI (m + (vN (t (i + 1)) + 3)))])), (qba, .inl (cyI, 450, .inl (zrep F m (vN (t i) + 1) (vN (t (i + 1)) + 3))))] H := hP
              have hD : va_D A [(qo, .inr (2, [.ref qa, .int (nI n)])), (qa, .inl (cyI, 450, .inl t)), (qb, .inr (2, [.ref qba, .int (nI (m + (vN (t (i + 1)) + 3)))])), (qba, .inl (cyI, 450, .inl (zrep F m (vN (t i) + 1) (vN (t (i + 1)) + 3))))] := hD
              refine lv_istore (lv' := [(7, .int (-1)), (6, .int (nI 0)), (0, .ref qo), (1, .ref qb), (2, .int (nI g)), (3, .int (nI b)), (4, .int (nI i)), (5, .int (nI i))]) hx hb dX1_decode_96 hl (by decide) rfl (fun ls hl => ?_)
              refine lv_iload hx hb dX1_decode_98 (lv_at hl 0 rfl) ?_
              refine lv_iconst (v := (-1)) hx hb dX1_decode_100 (by decide) ?_
              refine lv_icmp_eq (tgt := 107) hx hb dX1_decode_101 (by decide) (fun c_101 => ?_) (fun c_101 => absurd rfl c_101)
              refine lv_iload hx hb dX1_decode_107 (lv_at hl 1 rfl) ?_
              refine lv_if_eq (tgt := 119) hx hb dX1_decode_109 (by decide) (fun c_109 => ?_) (fun c_109 => absurd (by decide) c_109)
              refine lv_iload hx hb dX1_decode_119 (lv_at hl 7 rfl) ?_
              refine lv_iconst (v := nI 2) hx hb dX1_decode_121 (by decide) ?_
              refine lv_iadd hx hb dX1_decode_122 ?_
              refine zz_top (nI_add i 2) ?_
              refine lv_istore (lv' := [(4, .int (nI (i + 2))), (7, .int (-1)), (6, .int (nI 0)), (0, .ref qo), (1, .ref qb), (2, .int (nI g)), (3, .int (nI b)), (5, .int (nI i))]) hx hb dX1_decode_123 hl (by decide) rfl (fun ls hl => ?_)
              refine lv_iinc (v := nI (b + 1)) (lv' := [(3, .int (nI (b + 1))), (4, .int (nI (i + 2))), (7, .int (-1)), (6, .int (nI 0)), (0, .ref qo), (1, .ref qb), (2, .int (nI g)), (5, .int (nI i))]) hx hb dX1_decode_125 hl (k := 6) rfl (nI_add b 1) (by decide) rfl (fun ls hl => ?_)
              refine lv_iinc (v := nI (i + 1)) (lv' := [(5, .int (nI (i + 1))), (3, .int (nI (b + 1))), (4, .int (nI (i + 2))), (7, .int (-1)), (6, .int (nI 0)), (0, .ref qo), (1, .ref qb), (2, .int (nI g))]) hx hb dX1_decode_128 hl (k := 7) rfl (nI_add i 1) (by decide) rfl (fun ls hl => ?_)
              refine lv_goto (tgt := 15) hx hb dX1_decode_131 (by decide) ?_
              exact ih15 (i + 1, i + 2, m + (vN (t (i + 1)) + 3), g, b + 1, f9, zrep o m (vN (t i) + 1) (vN (t (i + 1)) + 3), zrep F m (vN (t i) + 1) (vN (t (i + 1)) + 3)) _ _ _ ⟨by omega, by omega, by omega, by omega, by omega, fun _ => by have := hg (by omega); omega, by omega, by omega, by omega, (dF_row hi9 c_37 c_64 q1 q2).symm.trans hE, zrep_cong (by omega) (by omega) hF _, zrep_O F (by omega) (by omega) hO _, hP, hD, hS, lv_sub hl [5, 6, 7, 1, 2, 0] rfl⟩ (by first | omega | (dsimp only; omega))
        ·
          refine lv_iconst (v := nI 1) hx hb dX1_decode_67 (by decide) ?_
          refine lv_goto (tgt := 72) hx hb dX1_decode_68 (by decide) ?_
          refine lv_istore (lv' := [(6, .int (nI 1)), (0, .ref qo), (1, .ref qb), (2, .int (nI g)), (3, .int (nI b)), (4, .int (nI i)), (5, .int (nI i))]) hx hb dX1_decode_72 hl (by decide) rfl (fun ls hl => ?_)
          refine lv_iload hx hb dX1_decode_74 (lv_at hl 0 rfl) ?_
          refine lv_if_eq (tgt := 89) hx hb dX1_decode_76 (by decide) (fun c_76 => absurd c_76 (by decide)) (fun c_76 => ?_)
          refine lv_aload_n hx hb dX1_decode_79 rfl (lv_at hl 1 rfl) ?_
          refine lv_iload hx hb dX1_decode_80 (lv_at hl 6 rfl) ?_
          refine lv_aload_n hx hb dX1_decode_82 rfl (lv_at hl 2 rfl) ?_
          by_cases q3 : 400 < m + 1
          ·
            have hPc := hP.sub (ws' := [(qo, .inr (2, [.ref qa, .int (nI n)])), (qa, .inl (cyI, 450, .inl t)), (qb, .inr (2, [.ref qba, .int (nI m)])), (qba, .inl (cyI, 450, .inl F))]) [0, 1, 2, 3] rfl
            have hKc := hK.sub (tys' := [(cyI, .int), (cyZ, .boolean)]) [0, 1] rfl
            refine vp_callSi (va_Run.run (va_runS (As := [.ref qo, .int (nI i), .ref qb]) (rest := []) ⟨hx, hb, hml, hown, hts⟩ (c_X1_single_bad l dC dI cyI cyZ qo qa qb qba t n F m i (by omega) (by omega) (by omega) (q3)) (va_cwS 3 hts gX1_decode_X1_decodeSingle rfl rfl rfl (by decide +kernel) ⟨Nat.le_of_ble_eq_true rfl, Nat.le_of_ble_eq_true rfl⟩) ⟨zz_blR, fun U hU hW => ⟨rfl, by rw [hU]; exact hPc, va_K.moved hW.alike hKc⟩⟩ rfl rfl hl.1 rfl (lv_room (Nat.le_of_ble_eq_true rfl)) dX1_decode_83 ⟨Nat.zero_le _, Nat.zero_le _⟩)) (fun r_83 hr_83 => ?_)
            have hr_83 : r_83 = nI i := hr_83
            subst hr_83
            refine lv_goto (tgt := 96) hx hb dX1_decode_86 (by decide) ?_
            refine lv_istore (lv' := [(7, .int (nI i)), (6, .int (nI 1)), (0, .ref qo), (1, .ref qb), (2, .int (nI g)), (3, .int (nI b)), (4, .int (nI i)), (5, .int (nI i))]) hx hb dX1_decode_96 hl (by decide) rfl (fun ls hl => ?_)
            refine lv_iload hx hb dX1_decode_98 (lv_at hl 0 rfl) ?_
            refine lv_iconst (v := (-1)) hx hb dX1_decode_100 (by decide) ?_
            refine lv_icmp_eq (tgt := 107) hx hb dX1_decode_101 (by decide) (fun c_101 => absurd c_101 (nI_nm1 (by omega))) (fun c_101 => ?_)
            refine lv_iload hx hb dX1_decode_104 (lv_at hl 0 rfl) ?_
            have hE2 : zD t n = (i + 1, m, o) := by
              rw [← hE]
              first | exact dF_oneB hi9 c_37 c_64 q3 | exact dF_half hi9 c_37 c_64 q1 | exact dF_rowB hi9 c_37 c_64 q1 q2
            have hP9 := hP.sub (ws' := [(qo, .inr (2, [.ref qa, .int (nI n)])), (qa, .inl (cyI, 450, .inl t)), (qb, .inr (2, [.ref qba, .int (nI m)])), (qba, .inl (cyI, 450, .inl F))]) [0, 1, 2, 3] rfl
            have hD9 := hD.sub (ws' := [(qo, .inr (2, [.ref qa, .int (nI n)])), (qa, .inl (cyI, 450, .inl t)), (qb, .inr (2, [.ref qba, .int (nI m)])), (qba, .inl (cyI, 450, .inl F))]) [0, 1, 2, 3] (by decide) rfl
            have hK9 := hK.sub (tys' := [(cyI, .int), (cyZ, .boolean)]) [0, 1] rfl
            have hret : nI i = zPl (zD t n).1 := by rw [hE2]; exact (zPl_s _).symm
            refine zz_top hret ?_
            exact W.iret hx hb hr (fun tS ht hW => ⟨⟨_, (m, F), rfl, ⟨rfl, by rw [hE2], by rw [hE2]; exact hF, hO, by omega⟩, by rw [ht]; exact hP9, va_K.moved hW.alike hK9, hD9⟩, hS.F ht⟩) hS.2.2 dX1_decode_106
          ·
            have hPc := hP.sub (ws' := [(qo, .inr (2, [.ref qa, .int (nI n)])), (qa, .inl (cyI, 450, .inl t)), (qb, .inr (2, [.ref qba, .int (nI m)])), (qba, .inl (cyI, 450, .inl F))]) [0, 1, 2, 3] rfl
            have hKc := hK.sub (tys' := [(cyI, .int), (cyZ, .boolean)]) [0, 1] rfl
            have hDc := hD.sub (ws' := [(qo, .inr (2, [.ref qa, .int (nI n)])), (qa, .inl (cyI, 450, .inl t)), (qb, .inr (2, [.ref qba, .int (nI m)])), (qba, .inl (cyI, 450, .inl F))]) [0, 1, 2, 3] (by decide) rfl
            have hFc := va_free (wc := [(qo, .inr (2, [.ref qa, .int (nI n)])), (qa, .inl (cyI, 450, .inl t)), (qb, .inr (2, [.ref qba, .int (nI m)])), (qba, .inl (cyI, 450, .inl F))]) hD hS hA [0, 1, 2, 3] rfl
            refine va_calli (va_runS (As := [.ref qo, .int (nI i), .ref qb]) (rest := []) ⟨hx, hb, hml, hown, hts⟩ (c_X1_single_ok l dC dI cyI cyZ qo qa qb qba H.size t n F m i (by omega) (by omega) (q3) (ht)) (va_cwS 3 hts gX1_decode_X1_decodeSingle rfl rfl rfl (by decide +kernel) ⟨Nat.le_of_ble_eq_true rfl, Nat.le_of_ble_eq_true rfl⟩) ⟨zz_blW, fun U hU hW => ⟨rfl, by rw [hU], by rw [hU]; exact hPc, va_K.moved hW.alike hKc, hDc.weaken (fun _ _ _ _ => trivial)⟩⟩ rfl rfl hl.1 rfl (lv_room (Nat.le_of_ble_eq_true rfl)) dX1_decode_83 ⟨Nat.zero_le _, Nat.zero_le _⟩) hS (fun q _ h => hFc q h) hFc (fun r_83 uU tS H1 locs ht9 hvm9 hw9 hB9 hz1 hk1 hS => ?_)
            obtain ⟨hP1, hK1, hD1⟩ := hB9
            have hw9 : (r_83 = (-1)) := hw9
            have hr_83 := hw9
            subst hr_83
            rw [ht9] at hP1
            have hK1 := va_K.moved hvm9.symm hK1
            obtain ⟨hP, hD⟩ := va_join (wr := []) (w1 := [(qo, .inr (2, [.ref qa, .int (nI n)])), (qa, .inl (cyI, 450, .inl t)), (qb, .inr (2, [.ref qba, .int (nI (m + 1))])), (qba, .inl (cyI, 450, .inl (upd F m (t i))))]) hP hD [0, 1, 2, 3] [] rfl rfl (by decide) (by decide) hk1 hFc hP1 hD1
            generalize H1 = H at hP hS ⊢
            have hP : va_P (dC, dI) vwCl [(qo, .inr (2, [.ref qa, .int (nI n)])), (qa, .inl (cyI, 450, .inl t)), (qb, .inr (2, [.ref qba, .int (nI (m + 1))])), (qba, .inl (cyI, 450, .inl (upd F m (t i))))] H := hP
            have hD : va_D A [(qo, .inr (2, [.ref qa, .int (nI n)])), (qa, .inl (cyI, 450, .inl t)), (qb, .inr (2, [.ref qba, .int (nI (m + 1))])), (qba, .inl (cyI, 450, .inl (upd F m (t i))))] := hD
            refine lv_goto (tgt := 96) hx hb dX1_decode_86 (by decide) ?_
            refine lv_istore (lv' := [(7, .int (-1)), (6, .int (nI 1)), (0, .ref qo), (1, .ref qb), (2, .int (nI g)), (3, .int (nI b)), (4, .int (nI i)), (5, .int (nI i))]) hx hb dX1_decode_96 hl (by decide) rfl (fun ls hl => ?_)
            refine lv_iload hx hb dX1_decode_98 (lv_at hl 0 rfl) ?_
            refine lv_iconst (v := (-1)) hx hb dX1_decode_100 (by decide) ?_
            refine lv_icmp_eq (tgt := 107) hx hb dX1_decode_101 (by decide) (fun c_101 => ?_) (fun c_101 => absurd rfl c_101)
            refine lv_iload hx hb dX1_decode_107 (lv_at hl 1 rfl) ?_
            refine lv_if_eq (tgt := 119) hx hb dX1_decode_109 (by decide) (fun c_109 => absurd c_109 (by decide)) (fun c_109 => ?_)
            refine lv_iload hx hb dX1_decode_112 (lv_at hl 7 rfl) ?_
            refine lv_iconst (v := nI 1) hx hb dX1_decode_114 (by decide) ?_
            refine lv_iadd hx hb dX1_decode_115 ?_
            refine zz_top (nI_add i 1) ?_
            refine lv_goto (tgt := 123) hx hb dX1_decode_116 (by decide) ?_
            refine lv_istore (lv' := [(4, .int (nI (i + 1))), (7, .int (-1)), (6, .int (nI 1)), (0, .ref qo), (1, .ref qb), (2, .int (nI g)), (3, .int (nI b)), (5, .int (nI i))]) hx hb dX1_decode_123 hl (by decide) rfl (fun ls hl => ?_)
            refine lv_iinc (v := nI (b + 1)) (lv' := [(3, .int (nI (b + 1))), (4, .int (nI (i + 1))), (7, .int (-1)), (6, .int (nI 1)), (0, .ref qo), (1, .ref qb), (2, .int (nI g)), (5, .int (nI i))]) hx hb dX1_decode_125 hl (k := 6) rfl (nI_add b 1) (by decide) rfl (fun ls hl => ?_)
            refine lv_iinc (v := nI (i + 1)) (lv' := [(5, .int (nI (i + 1))), (3, .int (nI (b + 1))), (4, .int (nI (i + 1))), (7, .int (-1)), (6, .int (nI 1)), (0, .ref qo), (1, .ref qb), (2, .int (nI g))]) hx hb dX1_decode_128 hl (k := 7) rfl (nI_add i 1) (by decide) rfl (fun ls hl => ?_)
            refine lv_goto (tgt := 15) hx hb dX1_decode_131 (by decide) ?_
            exact ih15 (i + 1, i + 1, m + 1, g, b + 1, f9, upd o m (t i), upd F m (t i)) _ _ _ ⟨by omega, by omega, by omega, by omega, by omega, fun _ => by have := hg (by omega); omega, by omega, by omega, by omega, (dF_one hi9 c_37 c_64 q3).symm.trans hE, upd_new hF rfl, arr_O hO (ht i hi9), hP, hD, hS, lv_sub hl [5, 6, 7, 1, 2, 0] rfl⟩ (by first | omega | (dsimp only; omega))
      ·
        subst c_37
        refine lv_iload hx hb dX1_decode_40 (lv_at hl 5 rfl) ?_
        refine lv_istore_n (lv' := [(2, .int (nI i)), (0, .ref qo), (1, .ref qb), (3, .int (nI 8)), (4, .int (nI i)), (5, .int (nI i))]) hx hb dX1_decode_42 rfl hl (by decide) rfl (fun ls hl => ?_)
        refine lv_iconst (v := nI 0) hx hb dX1_decode_43 (by decide) ?_
        refine lv_istore_n (lv' := [(3, .int (nI 0)), (2, .int (nI i)), (0, .ref qo), (1, .ref qb), (4, .int (nI i)), (5, .int (nI i))]) hx hb dX1_decode_44 rfl hl (by decide) rfl (fun ls hl => ?_)
        refine lv_iload hx hb dX1_decode_45 (lv_at hl 5 rfl) ?_
        refine lv_iconst (v := nI 1) hx hb dX1_decode_47 (by decide) ?_
        refine lv_iadd hx hb dX1_decode_48 ?_
        refine zz_top (nI_add i 1) ?_
        refine lv_istore (lv' := [(4, .int (nI (i + 1))), (3, .int (nI 0)), (2, .int (nI i)), (0, .ref qo), (1, .ref qb), (5, .int (nI i))]) hx hb dX1_decode_49 hl (by decide) rfl (fun ls hl => ?_)
        refine lv_goto (tgt := 128) hx hb dX1_decode_51 (by decide) ?_
        refine lv_iinc (v := nI (i + 1)) (lv' := [(5, .int (nI (i + 1))), (4, .int (nI (i + 1))), (3, .int (nI 0)), (2, .int (nI i)), (0, .ref qo), (1, .ref qb)]) hx hb dX1_decode_128 hl (k := 5) rfl (nI_add i 1) (by decide) rfl (fun ls hl => ?_)
        refine lv_goto (tgt := 15) hx hb dX1_decode_131 (by decide) ?_
        exact ih15 (i + 1, i + 1, m, i, 0, f9, o, F) _ _ _ ⟨by omega, by omega, by omega, by omega, by omega, fun _ => by omega, by omega, by omega, by omega, (dF_flag hi9).symm.trans hE, hF, hO, hP, hD, hS, lv_sub hl [4, 5, 3, 2, 1, 0] rfl⟩ (by first | omega | (dsimp only; omega))
    ·
      refine lv_goto (tgt := 128) hx hb dX1_decode_31 (by decide) ?_
      refine lv_iinc (v := nI (i + 1)) (lv' := [(5, .int (nI (i + 1))), (0, .ref qo), (1, .ref qb), (2, .int (nI g)), (3, .int (nI b)), (4, .int (nI nx))]) hx hb dX1_decode_128 hl (k := 5) rfl (nI_add i 1) (by decide) rfl (fun ls hl => ?_)
      refine lv_goto (tgt := 15) hx hb dX1_decode_131 (by decide) ?_
      exact ih15 (i + 1, nx, m, g, b, f, o, F) _ _ _ ⟨by omega, by omega, by omega, by omega, by omega, hg, by omega, by omega, by omega, hE, hF, hO, hP, hD, hS, lv_sub hl [1, 2, 3, 4, 5, 0] rfl⟩ (by first | omega | (dsimp only; omega))
end
