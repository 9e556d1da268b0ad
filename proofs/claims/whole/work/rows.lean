section
-- ===== PART A: goes FIRST, ahead of the names: the tables' words, and 'selects' of the private methods out of them =====
/-- a private method of a class that the tables say can be made, by its rows of tables_1 -/
def lw_okq (q : MethodName × Nat) : Prop := (q.1.cls ≠ "java/lang/invoke/MethodHandle" ∧ q.1.cls ≠ "java/lang/invoke/VarHandle") ∧ Cond.instantiable q.1.cls q.2 ∈ tables_1 ∧ Cond.privateMethod q.1 ∈ tables_1 ∧ Cond.instanceMethod q.1 ∈ tables_1
theorem lw_p0 : lw_okq (⟨"RobinRow", "lookUp", "(I)V"⟩, 7) := ⟨⟨by decide +kernel, by decide +kernel⟩, List.mem_of_getElem? (i := 16) (by decide +kernel), List.mem_of_getElem? (i := 161) (by decide +kernel), List.mem_of_getElem? (i := 162) (by decide +kernel)⟩
theorem lw_p1 : lw_okq (⟨"RobinRow", "moveSlice", "()I"⟩, 7) := ⟨⟨by decide +kernel, by decide +kernel⟩, List.mem_of_getElem? (i := 16) (by decide +kernel), List.mem_of_getElem? (i := 211) (by decide +kernel), List.mem_of_getElem? (i := 212) (by decide +kernel)⟩
theorem lw_p2 : lw_okq (⟨"RobinRow", "endMoveIfOldIsEmpty", "()V"⟩, 7) := ⟨⟨by decide +kernel, by decide +kernel⟩, List.mem_of_getElem? (i := 16) (by decide +kernel), List.mem_of_getElem? (i := 242) (by decide +kernel), List.mem_of_getElem? (i := 243) (by decide +kernel)⟩
theorem lw_p3 : lw_okq (⟨"java/lang/Throwable", "fillInStackTrace", "(I)Ljava/lang/Throwable;"⟩, 6) := ⟨⟨by decide +kernel, by decide +kernel⟩, List.mem_of_getElem? (i := 351) (by decide +kernel), List.mem_of_getElem? (i := 349) (by decide +kernel), List.mem_of_getElem? (i := 350) (by decide +kernel)⟩
theorem lw_p4 : lw_okq (⟨"RobinRow", "putNew", "(II)V"⟩, 7) := ⟨⟨by decide +kernel, by decide +kernel⟩, List.mem_of_getElem? (i := 16) (by decide +kernel), List.mem_of_getElem? (i := 415) (by decide +kernel), List.mem_of_getElem? (i := 416) (by decide +kernel)⟩
theorem lw_p5 : lw_okq (⟨"RobinRow", "beginMove", "()V"⟩, 7) := ⟨⟨by decide +kernel, by decide +kernel⟩, List.mem_of_getElem? (i := 16) (by decide +kernel), List.mem_of_getElem? (i := 419) (by decide +kernel), List.mem_of_getElem? (i := 420) (by decide +kernel)⟩
theorem lw_p6 : lw_okq (⟨"RobinRow", "sweepOf", "(I)LRobinRow$Sweep;"⟩, 7) := ⟨⟨by decide +kernel, by decide +kernel⟩, List.mem_of_getElem? (i := 16) (by decide +kernel), List.mem_of_getElem? (i := 444) (by decide +kernel), List.mem_of_getElem? (i := 445) (by decide +kernel)⟩
theorem lw_p7 : lw_okq (⟨"RobinRow", "seekBehind", "(J)V"⟩, 7) := ⟨⟨by decide +kernel, by decide +kernel⟩, List.mem_of_getElem? (i := 16) (by decide +kernel), List.mem_of_getElem? (i := 464) (by decide +kernel), List.mem_of_getElem? (i := 465) (by decide +kernel)⟩
theorem lw_p8 : lw_okq (⟨"RobinRow", "tableOf", "(I)LRobinRow$Table;"⟩, 7) := ⟨⟨by decide +kernel, by decide +kernel⟩, List.mem_of_getElem? (i := 16) (by decide +kernel), List.mem_of_getElem? (i := 527) (by decide +kernel), List.mem_of_getElem? (i := 528) (by decide +kernel)⟩
theorem lw_p9 : lw_okq (⟨"RobinRow", "tableWithSlot", "(II)LRobinRow$Table;"⟩, 7) := ⟨⟨by decide +kernel, by decide +kernel⟩, List.mem_of_getElem? (i := 16) (by decide +kernel), List.mem_of_getElem? (i := 546) (by decide +kernel), List.mem_of_getElem? (i := 547) (by decide +kernel)⟩
theorem lw_p10 : lw_okq (⟨"RobinRowModel", "isFine", "(I)Z"⟩, 17) := ⟨⟨by decide +kernel, by decide +kernel⟩, List.mem_of_getElem? (i := 580) (by decide +kernel), List.mem_of_getElem? (i := 650) (by decide +kernel), List.mem_of_getElem? (i := 651) (by decide +kernel)⟩
theorem lw_p11 : lw_okq (⟨"RobinRowModel", "placeOf", "(I)I"⟩, 17) := ⟨⟨by decide +kernel, by decide +kernel⟩, List.mem_of_getElem? (i := 580) (by decide +kernel), List.mem_of_getElem? (i := 658) (by decide +kernel), List.mem_of_getElem? (i := 659) (by decide +kernel)⟩
theorem lw_p12 : lw_okq (⟨"RobinRowModel", "slotOf", "(II)I"⟩, 17) := ⟨⟨by decide +kernel, by decide +kernel⟩, List.mem_of_getElem? (i := 580) (by decide +kernel), List.mem_of_getElem? (i := 662) (by decide +kernel), List.mem_of_getElem? (i := 663) (by decide +kernel)⟩
theorem lw_p13 : lw_okq (⟨"RobinRowModel", "isThere", "(I)Z"⟩, 17) := ⟨⟨by decide +kernel, by decide +kernel⟩, List.mem_of_getElem? (i := 580) (by decide +kernel), List.mem_of_getElem? (i := 666) (by decide +kernel), List.mem_of_getElem? (i := 667) (by decide +kernel)⟩
theorem lw_p14 : lw_okq (⟨"RobinRowModel", "slice", "()I"⟩, 17) := ⟨⟨by decide +kernel, by decide +kernel⟩, List.mem_of_getElem? (i := 580) (by decide +kernel), List.mem_of_getElem? (i := 670) (by decide +kernel), List.mem_of_getElem? (i := 671) (by decide +kernel)⟩
theorem lw_p15 : lw_okq (⟨"RobinRowModel", "takes", "(II)V"⟩, 17) := ⟨⟨by decide +kernel, by decide +kernel⟩, List.mem_of_getElem? (i := 580) (by decide +kernel), List.mem_of_getElem? (i := 674) (by decide +kernel), List.mem_of_getElem? (i := 675) (by decide +kernel)⟩
def lw_privs_1 : List (MethodName × Nat) := [(⟨"RobinRow", "lookUp", "(I)V"⟩, 7), (⟨"RobinRow", "moveSlice", "()I"⟩, 7), (⟨"RobinRow", "endMoveIfOldIsEmpty", "()V"⟩, 7), (⟨"java/lang/Throwable", "fillInStackTrace", "(I)Ljava/lang/Throwable;"⟩, 6), (⟨"RobinRow", "putNew", "(II)V"⟩, 7), (⟨"RobinRow", "beginMove", "()V"⟩, 7), (⟨"RobinRow", "sweepOf", "(I)LRobinRow$Sweep;"⟩, 7), (⟨"RobinRow", "seekBehind", "(J)V"⟩, 7), (⟨"RobinRow", "tableOf", "(I)LRobinRow$Table;"⟩, 7), (⟨"RobinRow", "tableWithSlot", "(II)LRobinRow$Table;"⟩, 7), (⟨"RobinRowModel", "isFine", "(I)Z"⟩, 17), (⟨"RobinRowModel", "placeOf", "(I)I"⟩, 17), (⟨"RobinRowModel", "slotOf", "(II)I"⟩, 17), (⟨"RobinRowModel", "isThere", "(I)Z"⟩, 17), (⟨"RobinRowModel", "slice", "()I"⟩, 17), (⟨"RobinRowModel", "takes", "(II)V"⟩, 17)]
theorem lw_r1 : ∀ q ∈ lw_privs_1, lw_okq q := List.forall_mem_cons.mpr ⟨lw_p0, List.forall_mem_cons.mpr ⟨lw_p1, List.forall_mem_cons.mpr ⟨lw_p2, List.forall_mem_cons.mpr ⟨lw_p3, List.forall_mem_cons.mpr ⟨lw_p4, List.forall_mem_cons.mpr ⟨lw_p5, List.forall_mem_cons.mpr ⟨lw_p6, List.forall_mem_cons.mpr ⟨lw_p7, List.forall_mem_cons.mpr ⟨lw_p8, List.forall_mem_cons.mpr ⟨lw_p9, List.forall_mem_cons.mpr ⟨lw_p10, List.forall_mem_cons.mpr ⟨lw_p11, List.forall_mem_cons.mpr ⟨lw_p12, List.forall_mem_cons.mpr ⟨lw_p13, List.forall_mem_cons.mpr ⟨lw_p14, List.forall_mem_cons.mpr ⟨lw_p15, fun _ h => absurd h List.not_mem_nil⟩⟩⟩⟩⟩⟩⟩⟩⟩⟩⟩⟩⟩⟩⟩⟩
theorem lw_p16 : lw_okq (⟨"RobinRowModel", "distance", "(II)I"⟩, 17) := ⟨⟨by decide +kernel, by decide +kernel⟩, List.mem_of_getElem? (i := 580) (by decide +kernel), List.mem_of_getElem? (i := 678) (by decide +kernel), List.mem_of_getElem? (i := 679) (by decide +kernel)⟩
theorem lw_p17 : lw_okq (⟨"RobinRowModel", "home", "(II)I"⟩, 17) := ⟨⟨by decide +kernel, by decide +kernel⟩, List.mem_of_getElem? (i := 580) (by decide +kernel), List.mem_of_getElem? (i := 682) (by decide +kernel), List.mem_of_getElem? (i := 683) (by decide +kernel)⟩
theorem lw_p18 : lw_okq (⟨"RobinRowModel", "hashOf", "(I)I"⟩, 17) := ⟨⟨by decide +kernel, by decide +kernel⟩, List.mem_of_getElem? (i := 580) (by decide +kernel), List.mem_of_getElem? (i := 686) (by decide +kernel), List.mem_of_getElem? (i := 687) (by decide +kernel)⟩
theorem lw_p19 : lw_okq (⟨"RobinRowModel", "carries", "(IIIZ)I"⟩, 17) := ⟨⟨by decide +kernel, by decide +kernel⟩, List.mem_of_getElem? (i := 580) (by decide +kernel), List.mem_of_getElem? (i := 691) (by decide +kernel), List.mem_of_getElem? (i := 692) (by decide +kernel)⟩
theorem lw_p20 : lw_okq (⟨"RobinRowModel", "removes", "(I)I"⟩, 17) := ⟨⟨by decide +kernel, by decide +kernel⟩, List.mem_of_getElem? (i := 580) (by decide +kernel), List.mem_of_getElem? (i := 703) (by decide +kernel), List.mem_of_getElem? (i := 704) (by decide +kernel)⟩
theorem lw_p21 : lw_okq (⟨"RobinRowModel", "isSweep", "(I)Z"⟩, 17) := ⟨⟨by decide +kernel, by decide +kernel⟩, List.mem_of_getElem? (i := 580) (by decide +kernel), List.mem_of_getElem? (i := 728) (by decide +kernel), List.mem_of_getElem? (i := 729) (by decide +kernel)⟩
theorem lw_p22 : lw_okq (⟨"RobinRowModel", "behind", "(J)I"⟩, 17) := ⟨⟨by decide +kernel, by decide +kernel⟩, List.mem_of_getElem? (i := 580) (by decide +kernel), List.mem_of_getElem? (i := 732) (by decide +kernel), List.mem_of_getElem? (i := 733) (by decide +kernel)⟩
theorem lw_p23 : lw_okq (⟨"RobinRowModel", "orderOf", "(I)J"⟩, 17) := ⟨⟨by decide +kernel, by decide +kernel⟩, List.mem_of_getElem? (i := 580) (by decide +kernel), List.mem_of_getElem? (i := 736) (by decide +kernel), List.mem_of_getElem? (i := 737) (by decide +kernel)⟩
theorem lw_p24 : lw_okq (⟨"RobinRowModel", "tableOf", "(I)I"⟩, 17) := ⟨⟨by decide +kernel, by decide +kernel⟩, List.mem_of_getElem? (i := 580) (by decide +kernel), List.mem_of_getElem? (i := 761) (by decide +kernel), List.mem_of_getElem? (i := 762) (by decide +kernel)⟩
theorem lw_p25 : lw_okq (⟨"RobinRowModel", "isSlot", "(II)Z"⟩, 17) := ⟨⟨by decide +kernel, by decide +kernel⟩, List.mem_of_getElem? (i := 580) (by decide +kernel), List.mem_of_getElem? (i := 773) (by decide +kernel), List.mem_of_getElem? (i := 774) (by decide +kernel)⟩
theorem lw_p26 : lw_okq (⟨"RobinRowModel", "controlOf", "(II)B"⟩, 17) := ⟨⟨by decide +kernel, by decide +kernel⟩, List.mem_of_getElem? (i := 580) (by decide +kernel), List.mem_of_getElem? (i := 777) (by decide +kernel), List.mem_of_getElem? (i := 778) (by decide +kernel)⟩
theorem lw_p27 : lw_okq (⟨"RobinRowModel", "looksBoth", "(I)I"⟩, 17) := ⟨⟨by decide +kernel, by decide +kernel⟩, List.mem_of_getElem? (i := 580) (by decide +kernel), List.mem_of_getElem? (i := 801) (by decide +kernel), List.mem_of_getElem? (i := 802) (by decide +kernel)⟩
theorem lw_p28 : lw_okq (⟨"RobinRowModel", "looks", "(II)I"⟩, 17) := ⟨⟨by decide +kernel, by decide +kernel⟩, List.mem_of_getElem? (i := 580) (by decide +kernel), List.mem_of_getElem? (i := 805) (by decide +kernel), List.mem_of_getElem? (i := 806) (by decide +kernel)⟩
theorem lw_p29 : lw_okq (⟨"RobinRowModel", "plain", "()V"⟩, 17) := ⟨⟨by decide +kernel, by decide +kernel⟩, List.mem_of_getElem? (i := 580) (by decide +kernel), List.mem_of_getElem? (i := 821) (by decide +kernel), List.mem_of_getElem? (i := 822) (by decide +kernel)⟩
def lw_privs_2 : List (MethodName × Nat) := [(⟨"RobinRowModel", "distance", "(II)I"⟩, 17), (⟨"RobinRowModel", "home", "(II)I"⟩, 17), (⟨"RobinRowModel", "hashOf", "(I)I"⟩, 17), (⟨"RobinRowModel", "carries", "(IIIZ)I"⟩, 17), (⟨"RobinRowModel", "removes", "(I)I"⟩, 17), (⟨"RobinRowModel", "isSweep", "(I)Z"⟩, 17), (⟨"RobinRowModel", "behind", "(J)I"⟩, 17), (⟨"RobinRowModel", "orderOf", "(I)J"⟩, 17), (⟨"RobinRowModel", "tableOf", "(I)I"⟩, 17), (⟨"RobinRowModel", "isSlot", "(II)Z"⟩, 17), (⟨"RobinRowModel", "controlOf", "(II)B"⟩, 17), (⟨"RobinRowModel", "looksBoth", "(I)I"⟩, 17), (⟨"RobinRowModel", "looks", "(II)I"⟩, 17), (⟨"RobinRowModel", "plain", "()V"⟩, 17)]
theorem lw_r2 : ∀ q ∈ lw_privs_2, lw_okq q := List.forall_mem_cons.mpr ⟨lw_p16, List.forall_mem_cons.mpr ⟨lw_p17, List.forall_mem_cons.mpr ⟨lw_p18, List.forall_mem_cons.mpr ⟨lw_p19, List.forall_mem_cons.mpr ⟨lw_p20, List.forall_mem_cons.mpr ⟨lw_p21, List.forall_mem_cons.mpr ⟨lw_p22, List.forall_mem_cons.mpr ⟨lw_p23, List.forall_mem_cons.mpr ⟨lw_p24, List.forall_mem_cons.mpr ⟨lw_p25, List.forall_mem_cons.mpr ⟨lw_p26, List.forall_mem_cons.mpr ⟨lw_p27, List.forall_mem_cons.mpr ⟨lw_p28, List.forall_mem_cons.mpr ⟨lw_p29, fun _ h => absurd h List.not_mem_nil⟩⟩⟩⟩⟩⟩⟩⟩⟩⟩⟩⟩⟩⟩
def lw_privs : List (MethodName × Nat) := lw_privs_1 ++ (lw_privs_2)
def lw_tbl : List Cond := k2_sels lw_privs ++ tables_1
theorem lw_privs_ok : ∀ q ∈ lw_privs, lw_okq q := by
  show ∀ q ∈ lw_privs_1 ++ (lw_privs_2), lw_okq q
  exact List.forall_mem_append.mpr ⟨lw_r1, lw_r2⟩
end
section
/-! ===== BEGIN words of one list among another's, by their places ===== -/
theorem goodIn_r {big : List Cond} (ws : List Cond) (ps : List Nat) (hp : ws = ps.filterMap (fun i => big[i]?)) (h : ws.all goodWord = true) : GoodIn big ws := by
  intro w hw
  have h1 := List.all_eq_true.mp h w hw
  rw [hp] at hw
  obtain ⟨i, -, hi⟩ := List.mem_filterMap.mp hw
  have hm : w ∈ big := by first | exact List.mem_of_getElem? hi | exact List.getElem?_mem hi
  exact ⟨hm, good_of_word h1⟩
theorem goodIn_app {big a b : List Cond} (ha : GoodIn big a) (hb : GoodIn big b) : GoodIn big (a ++ b) := fun w h => (List.mem_append.mp h).elim (ha w) (hb w)
theorem goodIn_ca {big a b : List Cond} {c : Cond} (ha : GoodIn big (c :: a)) (hb : GoodIn big b) : GoodIn big (c :: (a ++ b)) := fun w h => (List.mem_cons.mp h).elim (fun e => ha w (List.mem_cons.mpr (Or.inl e))) (fun h => (List.mem_append.mp h).elim (fun h => ha w (List.mem_cons.mpr (Or.inr h))) (hb w))
theorem goodIn_sub {big ws : List Cond} (hm : ∀ w ∈ ws, w ∈ big) (h : ws.all goodWord = true) : GoodIn big ws := fun w hw => ⟨hm w hw, good_of_word (List.all_eq_true.mp h w hw)⟩
/-! ===== END ===== -/

/-! ===== BEGIN exceptions that leave a method, and their catching by the caller (launches without stack traces) ===== -/
section VXA
/-! The laws vx_back, vx_callV, vx_callS, vx_callSW, vx_throw0, vx_throwS follow proofs of the library, with one case more: JvmDerived/Free/Laws.lean (Back.of_free), Shelf42/LK1.lean (callV, callS), Shelf/KitTraced.lean (throwNew0V, throwNewS). -/
/-- where a method has thrown q: the class by its name, the cell, what was written, the world -/
def vx_T (XC : String → State → State → Prop) (st : State) (q : Addr) (t : State) (mc ms : Nat) (free : Addr → Prop) : Prop :=
  ∃ (E : String) (ce : Cell) (L : List Loc), XC E st t ∧ t.heap[q]? = some ce ∧ ce.vm = .none ∧ st.vm.findClass E = some ce.cls ∧ st.WarmedH t.vm ∧ st.sameButNew ({ t with vm := st.vm } : State) L mc ms ∧ ∀ z ∈ L, free z.base
def vx_Q (Qc : Array Value → State → Outcome → State → Prop) (XC : String → State → State → Prop) (mc ms : Nat) (free : Addr → Prop) : Array Value → State → Outcome → State → Prop := fun a st o t =>
  (Qc a st o t ∧ ∃ L, FrameEnd st o t L mc ms ∧ ∀ q ∈ L, free q.base) ∨ ∃ q, o = .threw q ∧ vx_T XC st q t mc ms free
/-- a callee that returns or throws -/
def vx_Met (l : Launch) (y : MethodName) (ws : List Cond) (rm : Room) (Pc : Array Value → State → Prop) (Qc : Array Value → State → Outcome → State → Prop) (XC : String → State → State → Prop) (mc ms : Nat) (free : Addr → Prop) : Prop :=
  MetFree l y (headSpec ws rm) Pc (fun _ _ _ _ _ => True) (vx_Q Qc XC mc ms free)
def vx_Post (XC : String → State → State → Prop) (mc ms : Nat) (free : Addr → Prop) : Pt → Array Value → Addr → Pt → Prop := fun A a q B =>
  ∃ (g : JFrame) (mk : MethodId) (t : State) (L : List Loc) (E : String) (ce : Cell), B.U.heap = t.heap ∧ B.U.vm = t.vm ∧ XC E (A.U.calling g mk a) t ∧ t.heap[q]? = some ce ∧ ce.vm = .none ∧ A.U.vm.findClass E = some ce.cls ∧ B.locs = A.locs ++ L ∧ (∀ z ∈ L, free z.base) ∧ B.cells = A.cells + mc ∧ B.slots = A.slots + ms
def vx_Back (l : Launch) (R : Room) (p : Program) (e : Env) (below : List Frame) (s : State) (sargs : Array Value) (y : MethodName) (len W9 : Nat)
    (Pre : Pt → Array Value → Prop) (Post : Pt → Array Value → Option Value → Pt → Prop) (PostX : Pt → Array Value → Addr → Pt → Prop) : Prop :=
  ∀ (m : MethodId) (meth : Method) (c : Code) (A : Pt) (g : JFrame) (ig : Instr) (mk : MethodId) (a : Array Value),
    Stand p l e R s m sargs below meth c A.U A.locs A.cells A.slots → g.method = m → g.locals.size = c.maxLocals → decode c.code g.pc = .ok (ig, len) →
    2 * g.monitorRoom + (g.stack.map fun v => v.category).sum ≤ W9 → A.U.methodNamed? y = some mk → Pre A a →
    (∃ (v : Option Value) (B : Pt), Stand p l e R s m sargs below meth c B.U B.locs B.cells B.slots ∧ Post A a v B ∧
      Steps p.tables e below (doInvoke e (A.U.setTop g) [] mk a).1 (B.U.setTop { g with pc := g.pc + len, stack := v.toList ++ g.stack })) ∨
    (∃ (q : Addr) (B : Pt), Stand p l e R s m sargs below meth c B.U B.locs B.cells B.slots ∧ PostX A a q B ∧
      Steps p.tables e below (doInvoke e (A.U.setTop g) [] mk a).1 ((B.U.setTop g).pushFrame (.throwing q)))
section Payer
variable {l : Launch} {R : Room} {p : Program} {e : Env} {below : List Frame} {s : State} {sargs : Array Value} {y : MethodName} {len W9 : Nat}
theorem vx_back {ws : List Cond} {rm : Room} {Pc : Array Value → State → Prop} {Qc : Array Value → State → Outcome → State → Prop} {XC : String → State → State → Prop} {mc ms : Nat} {free : Addr → Prop} {bytes : ByteArray} {maxL : Nat} {ret : Option FieldType}
    (hM : vx_Met l y ws rm Pc Qc XC mc ms free) (hblind : FrameBlind Pc) (hrc : rm.cells = mc) (hrs : rm.slots = ms)
    (hframes : rm.frames + 1 ≤ R.frames) (hlocals : W9 + (maxL + 11) + rm.locals ≤ R.locals)
    (hws : ∀ w ∈ ws, ∀ a' U, s.WarmedH U.vm → w.before a' U = true) (hcode : Cond.code y bytes maxL ret ∈ ws) (hinit : ∀ a' U, s.WarmedH U.vm → (Cond.initialized y.cls).before a' U = true) :
    vx_Back l R p e below s sargs y len W9 (PreOf R mc ms Pc) (PostOf Qc mc ms free) (vx_Post XC mc ms free) := by
  intro m meth c A g ig mk a X hg hsize hdg hW hn hp
  have h1 : (headSpec ws rm).pre.before a A.U = true := atoms_intro fun w hw => hws w hw _ _ X.warmed
  have h2 : (Cond.code y bytes maxL ret).before a A.U = true := hws _ hcode _ _ X.warmed
  have h3 : (Cond.initialized y.cls).before a A.U = true := hinit _ _ X.warmed
  have h4 : A.cells + (headSpec ws rm).room.cells ≤ R.cells := by rw [show (headSpec ws rm).room.cells = mc from hrc]; exact hp.1
  have h5 : A.slots + (headSpec ws rm).room.slots ≤ R.slots := by rw [show (headSpec ws rm).room.slots = ms from hrs]; exact hp.2.1
  have hPc : Pc a (A.U.calling g mk a) := hblind _ _ _ _ hp.2.2
  obtain ⟨U, Ls, c0, s0⟩ := A
  dsimp only [Pt.U, Pt.locs, Pt.cells, Pt.slots] at h1 h2 h3 h4 h5 X hn hPc ⊢
  obtain ⟨methY, cY, hmY, hcY, -, hlY, -, -, -, -⟩ := Cond.code_spec hn h2
  obtain ⟨kY, hkY, -⟩ := className_of_methodNamed hn
  have hinitY : kY.init = .initialized := Cond.initialized_spec (findClass_of_methodNamed hn) hkY h3
  have h : At U g.method c below := by rw [hg]; exact X.here
  have hlocals9 : W9 + (maxL + 11) + (headSpec ws rm).room.locals ≤ R.locals := hlocals
  have happ : (headSpec ws rm).appliesLoose y e.platform (U.calling g mk a) = true :=
    Spec.appliesLoose_calling (g := g) h hdg hn hkY hinitY
      (X.room_calling (g := g) (R' := (headSpec ws rm).room) hsize hmY hcY hframes (by rw [hlY]; omega) h4 h5) h1
  obtain ⟨mid, hmid⟩ := h.above
  have hfr : (U.setTop g).frames = (.java g :: mid) ++ below := by rw [State.frames_setTop' g h.top, hmid]; rfl
  obtain ⟨o, s₂, hsteps, -, hend, hq⟩ := Steps.callFree hM p X.admits X.cas X.clock (acts := []) hfr happ hPc trivial
  have hq' : vx_Q Qc XC mc ms free a (U.calling g mk a) o s₂ := hq
  rw [State.frames_setTop' g h.top] at hend
  obtain ⟨g₀, hg0⟩ := Option.isSome_iff_exists.mp h.top
  obtain ⟨r, hr⟩ := State.topJava?_eq_some.mp hg0
  have hr' : (({ U with heap := s₂.heap, slotsUsed := s₂.slotsUsed } : State).setVm s₂.vm).frames = .java g₀ :: r := hr
  rcases hq' with ⟨hqc, L, hfe, hL⟩ | ⟨q, rfl, E, ce, L, hx, hce, hcv, hcl, hW₂, hsm, hL⟩
  · obtain ⟨⟨v, rfl⟩, hW₂, e2, q2, q3, q4, q5, q6⟩ := id hfe
    have e3 : s₂ = ({ (U.calling g mk a).setFrames s₂.frames with heap := s₂.heap, slotsUsed := s₂.slotsUsed } : State).setVm s₂.vm := by
      have : s₂ = ({ s₂ with vm := (U.calling g mk a).vm } : State).setVm s₂.vm := rfl
      rw [e2] at this
      exact this
    obtain ⟨c₂, i₂, len₂, hc₂, hd₂, hf₂⟩ := hend
    have hW' : U.WarmedH s₂.vm := hW₂
    have hcc : c₂ = c := by
      have h1 : s₂.code? g.method = U.code? g.method := by
        rw [State.code?_eq, State.code?_eq, hW'.alike.method?]
      exact Option.some.inj (hc₂.symm.trans (h1.trans h.code))
    subst hcc
    have hlen : len₂ = len := by rw [hdg] at hd₂; cases hd₂; rfl
    subst hlen
    have hs₂ : s₂ = (({ U with heap := s₂.heap, slotsUsed := s₂.slotsUsed } : State).setVm s₂.vm).setTop { g with pc := g.pc + len₂, stack := v.toList ++ g.stack } := by
      refine e3.trans ?_
      rw [hf₂, State.calling_eq h.top, State.setFrames_setFrames, State.setTop_of_frames _ hr', hr]
      rfl
    have hsame : U.sameButNew ({ U with heap := s₂.heap, slotsUsed := s₂.slotsUsed } : State) L mc ms := by
      refine ⟨?_, q2, q3, q4, q5, q6⟩
      obtain ⟨t, ht, -⟩ := State.frames_cons hr
      show ({ U with heap := s₂.heap, slotsUsed := s₂.slotsUsed } : State) = { U.setFrames U.frames with heap := s₂.heap, slotsUsed := s₂.slotsUsed }
      rw [State.setFrames_self ht]
    subst hg
    refine Or.inl ⟨v, ⟨(({ U with heap := s₂.heap, slotsUsed := s₂.slotsUsed } : State).setVm s₂.vm), Ls ++ L, c0 + mc, s0 + ms⟩,
      ⟨X.admits, X.cas, X.clock, X.frames, X.room, X.hears, X.method, X.code, (X.here.setHeapUsed s₂.heap s₂.slotsUsed).setVm hW'.alike, X.tail, State.WarmedH.trans X.warmed hW', X.limits, X.bytes, X.same.trans (hsame.setVm s.vm)⟩,
      ⟨g, mk, s₂, L, rfl, rfl, hqc, rfl, hL, rfl, rfl⟩, ?_⟩
    show Steps p.tables e below _ ((({ U with heap := s₂.heap, slotsUsed := s₂.slotsUsed } : State).setVm s₂.vm).setTop { g with pc := g.pc + len₂, stack := v.toList ++ g.stack })
    rw [← hs₂]
    exact hsteps
  · obtain ⟨e2, q2, q3, q4, q5, q6⟩ := id hsm
    have e3 : s₂ = ({ (U.calling g mk a).setFrames s₂.frames with heap := s₂.heap, slotsUsed := s₂.slotsUsed } : State).setVm s₂.vm := by
      have : s₂ = ({ s₂ with vm := (U.calling g mk a).vm } : State).setVm s₂.vm := rfl
      rw [e2] at this
      exact this
    have hf₂ : s₂.frames = .throwing q :: .java g :: U.frames.tail := hend
    have hW' : U.WarmedH s₂.vm := hW₂
    have hs₂ : s₂ = ((({ U with heap := s₂.heap, slotsUsed := s₂.slotsUsed } : State).setVm s₂.vm).setTop g).pushFrame (.throwing q) := by
      refine e3.trans ?_
      rw [hf₂, State.calling_eq h.top, State.setFrames_setFrames, State.pushFrame, State.frames_setTop _ hr', State.setTop_of_frames _ hr', State.setFrames_setFrames, hr]
      rfl
    have hsame : U.sameButNew ({ U with heap := s₂.heap, slotsUsed := s₂.slotsUsed } : State) L mc ms := by
      refine ⟨?_, q2, q3, q4, q5, q6⟩
      obtain ⟨t, ht, -⟩ := State.frames_cons hr
      show ({ U with heap := s₂.heap, slotsUsed := s₂.slotsUsed } : State) = { U.setFrames U.frames with heap := s₂.heap, slotsUsed := s₂.slotsUsed }
      rw [State.setFrames_self ht]
    subst hg
    refine Or.inr ⟨q, ⟨(({ U with heap := s₂.heap, slotsUsed := s₂.slotsUsed } : State).setVm s₂.vm), Ls ++ L, c0 + mc, s0 + ms⟩,
      ⟨X.admits, X.cas, X.clock, X.frames, X.room, X.hears, X.method, X.code, (X.here.setHeapUsed s₂.heap s₂.slotsUsed).setVm hW'.alike, X.tail, State.WarmedH.trans X.warmed hW', X.limits, X.bytes, X.same.trans (hsame.setVm s.vm)⟩,
      ⟨g, mk, s₂, L, E, ce, rfl, rfl, hx, hce, hcv, hcl, rfl, hL, rfl, rfl⟩, ?_⟩
    show Steps p.tables e below _ (((({ U with heap := s₂.heap, slotsUsed := s₂.slotsUsed } : State).setVm s₂.vm).setTop g).pushFrame (.throwing q))
    rw [← hs₂]
    exact hsteps
end Payer
section Calls
variable {p : Program} {l : Launch} {e : Env} {R : Room} {s : State} {m : MethodId} {args : Array Value} {below : List Frame} {meth : Method} {c : Code} {T : State} {locs : List Loc} {cells slots : Nat}
theorem vx_callV (X : Stand p l e R s m args below meth c T locs cells slots) (hexec : p.tables.exec = Jvm.exec) {own C : String} {index : Nat} {y : MethodName} {bytes : ByteArray} {maxL : Nat} {ret : Option FieldType}
    (hown : s.vm.findClass own = some m.cls) (hlink : (Cond.methodLink own index y).before args s = true) (hinst : (Cond.instanceMethod y).before args s = true) (hsel : (Cond.selects C y y).before args s = true)
    (hcode : (Cond.code y bytes maxL ret).before args s = true) (hy : y.cls ≠ "java/lang/invoke/MethodHandle" ∧ y.cls ≠ "java/lang/invoke/VarHandle")
    {W9 : Nat} {Pre : Pt → Array Value → Prop} {Post : Pt → Array Value → Option Value → Pt → Prop} {PostX : Pt → Array Value → Addr → Pt → Prop} (hK : vx_Back l R p e below s args y 3 W9 Pre Post PostX)
    {b : Addr} {cellB : Cell} (hcell : T.heap[b]? = some cellB) (hobj : cellB.vm.isStatics = false) (hcls : s.vm.findClass C = some cellB.cls)
    {g : JFrame} (hg : g.method = m) (hsize : g.locals.size = c.maxLocals) {argsL rest : List Value} (hlen : ∀ sig, parseMethodDescriptor y.desc = some sig → argsL.length = sig.parameters.length)
    (hstack : g.stack = argsL.reverse ++ .ref b :: rest) (hW : 2 * g.monitorRoom + (rest.map fun v => v.category).sum ≤ W9) (hdg : decode c.code g.pc = .ok (.invokevirtual index, 3))
    (hpre : ∀ vm₁, s.WarmedH vm₁ → Pre ⟨T.setVm vm₁, locs, cells, slots⟩ (Value.ref b :: argsL).toArray) :
    (∃ (v : Option Value) (vm₁ : Vm) (B : Pt), s.WarmedH vm₁ ∧ Stand p l e R s m args below meth c B.U B.locs B.cells B.slots ∧ Post ⟨T.setVm vm₁, locs, cells, slots⟩ (Value.ref b :: argsL).toArray v B ∧
      ∀ target, Steps p.tables e below (B.U.setTop { g with pc := g.pc + 3, stack := v.toList ++ rest }) target → Steps p.tables e below (T.setTop g) target) ∨
    (∃ (q : Addr) (vm₁ : Vm) (B : Pt), s.WarmedH vm₁ ∧ Stand p l e R s m args below meth c B.U B.locs B.cells B.slots ∧ PostX ⟨T.setVm vm₁, locs, cells, slots⟩ (Value.ref b :: argsL).toArray q B ∧
      Steps p.tables e below (T.setTop g) ((B.U.setTop { g with stack := rest }).pushFrame (.throwing q))) := by
  obtain ⟨mk, methM, hnamed, hmethM, hstM, habM⟩ := Cond.instanceMethod_spec hinst
  obtain ⟨methM', cM, hmethM', -, -, -, -, -, -, hsigM⟩ := Cond.code_spec hnamed hcode
  cases hmethM.symm.trans hmethM'
  obtain ⟨c2, r2, m2, q1, q2, q3, q4, kP, hkP, hkPi⟩ := Cond.selects_spec hsel
  cases hcls.symm.trans q1
  cases (State.methodFound?_of_named hnamed hy).symm.trans q2
  cases hnamed.symm.trans q3
  have hselP : selectMethod e.platform s.vm cellB.cls mk = .method mk := by rw [Launch.admits_selectMethod X.admits]; exact q4
  obtain ⟨vm₁, X₁, hstep₁⟩ := X.invokevirtual hexec hown hlink hnamed hmethM hstM hkP hkPi hy (a := b) (cell := cellB) hcell
    (fun z h => by rw [h] at hobj; cases hobj) hselP hmethM habM hkP hkPi (g := g) hg (argsL := argsL) (rest := rest) (hlen _ hsigM) hstack hdg
  rcases hK m meth c ⟨T.setVm vm₁, locs, cells, slots⟩ { g with stack := rest } (.invokevirtual index) mk (Value.ref b :: argsL).toArray X₁ hg hsize hdg hW (X₁.named hnamed) (hpre vm₁ X₁.warmed) with ⟨v, B, X', hpost, hsteps⟩ | ⟨q, B, X', hpost, hsteps⟩
  · exact Or.inl ⟨v, vm₁, B, X₁.warmed, X', hpost, fun target h => hstep₁ _ fun acts => by rw [doInvoke_state]; exact hsteps.trans h⟩
  · exact Or.inr ⟨q, vm₁, B, X₁.warmed, X', hpost, hstep₁ _ fun acts => by rw [doInvoke_state]; exact hsteps⟩
theorem vx_callS (X : Stand p l e R s m args below meth c T locs cells slots) (hexec : p.tables.exec = Jvm.exec) {own : String} {index : Nat} {y : MethodName} {bytes : ByteArray} {maxL : Nat} {ret : Option FieldType}
    (hown : s.vm.findClass own = some m.cls) (hlink : (Cond.methodLink own index y).before args s = true) (hstat : (Cond.static y).before args s = true) (hinit : (Cond.initialized y.cls).before args s = true)
    (hcode : (Cond.code y bytes maxL ret).before args s = true) (hy : y.cls ≠ "java/lang/invoke/MethodHandle" ∧ y.cls ≠ "java/lang/invoke/VarHandle")
    {W9 : Nat} {Pre : Pt → Array Value → Prop} {Post : Pt → Array Value → Option Value → Pt → Prop} {PostX : Pt → Array Value → Addr → Pt → Prop} (hK : vx_Back l R p e below s args y 3 W9 Pre Post PostX)
    {g : JFrame} (hg : g.method = m) (hsize : g.locals.size = c.maxLocals) {argsL rest : List Value} (hlen : ∀ sig, parseMethodDescriptor y.desc = some sig → argsL.length = sig.parameters.length)
    (hstack : g.stack = argsL.reverse ++ rest) (hW : 2 * g.monitorRoom + (rest.map fun v => v.category).sum ≤ W9) (hdg : decode c.code g.pc = .ok (.invokestatic index, 3))
    (hpre : ∀ vm₁, s.WarmedH vm₁ → Pre ⟨T.setVm vm₁, locs, cells, slots⟩ argsL.toArray) :
    (∃ (v : Option Value) (vm₁ : Vm) (B : Pt), s.WarmedH vm₁ ∧ Stand p l e R s m args below meth c B.U B.locs B.cells B.slots ∧ Post ⟨T.setVm vm₁, locs, cells, slots⟩ argsL.toArray v B ∧
      ∀ target, Steps p.tables e below (B.U.setTop { g with pc := g.pc + 3, stack := v.toList ++ rest }) target → Steps p.tables e below (T.setTop g) target) ∨
    (∃ (q : Addr) (vm₁ : Vm) (B : Pt), s.WarmedH vm₁ ∧ Stand p l e R s m args below meth c B.U B.locs B.cells B.slots ∧ PostX ⟨T.setVm vm₁, locs, cells, slots⟩ argsL.toArray q B ∧
      Steps p.tables e below (T.setTop g) ((B.U.setTop { g with stack := rest }).pushFrame (.throwing q))) := by
  obtain ⟨mk, hnamed⟩ := Cond.code_named hcode
  obtain ⟨methM, cM, hmethM, -, -, -, -, -, -, hsigM⟩ := Cond.code_spec hnamed hcode
  have hstatic : methM.isStatic = true := Cond.static_spec hnamed hmethM hstat
  obtain ⟨kP, hkP, -⟩ := className_of_methodNamed hnamed
  have hinitP : kP.init = .initialized := Cond.initialized_spec (findClass_of_methodNamed hnamed) hkP hinit
  obtain ⟨vm₁, X₁, hstep₁⟩ := X.invokestatic hexec hown hlink hnamed hmethM hstatic hkP hinitP hy (g := g) hg (argsL := argsL) (rest := rest) (hlen _ hsigM) hstack hdg
  rcases hK m meth c ⟨T.setVm vm₁, locs, cells, slots⟩ { g with stack := rest } (.invokestatic index) mk argsL.toArray X₁ hg hsize hdg hW (X₁.named hnamed) (hpre vm₁ X₁.warmed) with ⟨v, B, X', hpost, hsteps⟩ | ⟨q, B, X', hpost, hsteps⟩
  · exact Or.inl ⟨v, vm₁, B, X₁.warmed, X', hpost, fun target h => hstep₁ _ fun acts => by rw [doInvoke_state]; exact hsteps.trans h⟩
  · exact Or.inr ⟨q, vm₁, B, X₁.warmed, X', hpost, hstep₁ _ fun acts => by rw [doInvoke_state]; exact hsteps⟩
end Calls
theorem vx_cls {s : State} {T : State} {vm₁ : Vm} {E : String} {k : ClassId} (hW : s.WarmedH vm₁) (h : (T.setVm vm₁).vm.findClass E = some k) : s.vm.findClass E = some k := by
  have h1 : vm₁.findClass E = some k := h
  rw [hW.alike.findClass] at h1
  exact h1
/-- the method's frame g, with q thrown over it -/
def vx_W (p : Program) (l : Launch) (e : Env) (R : Room) (s : State) (m : MethodId) (args : Array Value) (below : List Frame) (meth : Method) (c : Code) (H : Heap) (locs : List Loc) (cells slots : Nat) (Q : State → Prop) (g : JFrame) (q : Addr) : Prop :=
  ∀ T : State, T.heap = H → Stand p l e R s m args below meth c T locs cells slots → ∃ t, Steps p.tables e below ((T.setTop g).pushFrame (.throwing q)) t ∧ Q t
def vx_Run (p : Program) (l : Launch) (e : Env) (R : Room) (s : State) (m : MethodId) (args : Array Value) (below : List Frame) (meth : Method) (c : Code) (H : Heap) (locs : List Loc) (cells slots mc ms : Nat) (g : JFrame) (rest : List Value) (Qa : State → Outcome → State → Prop) (XC : String → State → State → Prop) (free : Addr → Prop) : Prop :=
  ∀ T : State, T.heap = H → Stand p l e R s m args below meth c T locs cells slots →
    (∃ (v : Option Value) (st₀ t T' : State) (L : List Loc), st₀.heap = H ∧ Stand p l e R s m args below meth c T' (locs ++ L) (cells + mc) (slots + ms) ∧ (∀ q ∈ L, free q.base) ∧ T'.heap = t.heap ∧ T'.vm = t.vm ∧ Qa st₀ (.returned v) t ∧
      Goes p e below T g T' { g with pc := g.pc + 3, stack := v.toList ++ rest }) ∨
    (∃ (q : Addr) (st₀ t T' : State) (L : List Loc) (E : String) (ce : Cell), st₀.heap = H ∧ Stand p l e R s m args below meth c T' (locs ++ L) (cells + mc) (slots + ms) ∧ (∀ z ∈ L, free z.base) ∧ T'.heap = t.heap ∧ T'.vm = t.vm ∧ XC E st₀ t ∧ t.heap[q]? = some ce ∧ ce.vm = .none ∧ s.vm.findClass E = some ce.cls ∧
      Steps p.tables e below (T.setTop g) ((T'.setTop { g with stack := rest }).pushFrame (.throwing q)))
def vx_X {S : Type} (px : S → Prop) (B : String → S → State → Prop) (A : Nat → Prop) : String → State → State → Prop := fun E st t => ∃ u : S, px u ∧ B E u t ∧ va_F A st t
section Runs
variable {p : Program} {l : Launch} {e : Env} {R : Room} {s : State} {m : MethodId} {args : Array Value} {below : List Frame} {meth : Method} {c : Code} {H : Heap} {locs : List Loc} {cells slots : Nat}
variable {y : MethodName} {bytes cc : ByteArray} {maxL nL mc ms n index : Nat} {ret : Option FieldType} {ws : List Cond} {rm : Room} {Pc : Array Value → State → Prop} {Qc : Array Value → State → Outcome → State → Prop} {XC : String → State → State → Prop} {free : Addr → Prop} {Ts : List Cond} {own C : String} {b : Addr} {As rest : List Value} {g : JFrame}
theorem vx_callBack (cb : CallB R s args own index y bytes maxL ret ws rm mc ms n) (hM : vx_Met l y ws rm Pc Qc XC mc ms free) (hbl : FrameBlind Pc) : vx_Back l R p e below s args y 3 8 (PreOf R mc ms Pc) (PostOf Qc mc ms free) (vx_Post XC mc ms free) := by
  obtain ⟨hrc, hrs, hfr, hlo, hws, hcw, -, hini, -⟩ := cb
  exact vx_back (bytes := bytes) (maxL := maxL) (ret := ret) hM hbl hrc hrs hfr hlo hws hcw (fun a' U hW => word_at hW (Or.inl (by first | rfl | simp [Cond.onTables, Cond.keeps, Cond.steady])) hini)
theorem vx_runV (S : CallFix p m c cc nL s args Ts own) (hM : vx_Met l y ws rm Pc Qc XC mc ms free) (cw : CallW R s args own C index y bytes maxL ret ws rm mc ms n) (hp : PreV s H C b Pc As)
    (hg : g.method = m) (hn : As.length = n) (hsize : g.locals.size = nL) (hstack : g.stack = As.reverse ++ .ref b :: rest) (hW : 2 * g.monitorRoom + (rest.map fun v => v.category).sum ≤ 8) (hdg : decode cc g.pc = .ok (.invokevirtual index, 3)) (hf : cells + mc ≤ R.cells ∧ slots + ms ≤ R.slots) :
    vx_Run p l e R s m args below meth c H locs cells slots mc ms g rest (Qc (Value.ref b :: As).toArray) XC free := by
  have hK : vx_Back l R p e below s args y 3 8 (PreOf R mc ms Pc) (PostOf Qc mc ms free) (vx_Post XC mc ms free) := vx_callBack cw.1 hM hp.1
  obtain ⟨⟨-, -, -, -, -, -, hcode, -, hy, hlen, hl⟩, hin, hse⟩ := cw
  obtain ⟨hx, hb, hml, ho, -⟩ := S
  obtain ⟨-, ⟨cellB, hcB, hoB, hclB⟩, hPc⟩ := hp
  intro T hT X
  rcases vx_callV X hx (C := C) (bytes := bytes) (maxL := maxL) (ret := ret) ho hl hin hse hcode hy hK (by rw [hT]; exact hcB) hoB hclB hg (hsize.trans hml.symm) (argsL := As) (rest := rest) (fun sig h => hn.trans (hlen sig h)) hstack hW (by rw [hb]; exact hdg)
    (fun vm₁ hW₁ => ⟨hf.1, hf.2, hPc (T.setVm vm₁) hT hW₁⟩) with ⟨v, vm₁, ⟨U', l2, c2, s2⟩, hW₁, X', ⟨g', mk, t, L, e1, e2, hq, h1, hL, h2, h3⟩, st⟩ | ⟨q, vm₁, ⟨U', l2, c2, s2⟩, hW₁, X', ⟨g', mk, t, L, E, ce, e1, e2, hq, hce, hcv, hcl, h1, hL, h2, h3⟩, st⟩
  · dsimp only [Pt.U, Pt.locs, Pt.cells, Pt.slots] at X' e1 e2 h1 h2 h3 st
    subst h1; subst h2; subst h3
    exact Or.inl ⟨v, (T.setVm vm₁).calling g' mk (Value.ref b :: As).toArray, t, U', L, hT, X', hL, e1, e2, hq, st⟩
  · dsimp only [Pt.U, Pt.locs, Pt.cells, Pt.slots] at X' e1 e2 h1 h2 h3 st hcl
    subst h1; subst h2; subst h3
    exact Or.inr ⟨q, (T.setVm vm₁).calling g' mk (Value.ref b :: As).toArray, t, U', L, E, ce, hT, X', hL, e1, e2, hq, hce, hcv, vx_cls hW₁ hcl, st⟩
theorem vx_runS (S : CallFix p m c cc nL s args Ts own) (hM : vx_Met l y ws rm Pc Qc XC mc ms free) (cw : CallB R s args own index y bytes maxL ret ws rm mc ms n ∧ (Cond.static y).before args s = true) (hp : PreS s H Pc As)
    (hg : g.method = m) (hn : As.length = n) (hsize : g.locals.size = nL) (hstack : g.stack = As.reverse ++ rest) (hW : 2 * g.monitorRoom + (rest.map fun v => v.category).sum ≤ 8) (hdg : decode cc g.pc = .ok (.invokestatic index, 3)) (hf : cells + mc ≤ R.cells ∧ slots + ms ≤ R.slots) :
    vx_Run p l e R s m args below meth c H locs cells slots mc ms g rest (Qc As.toArray) XC free := by
  have hK : vx_Back l R p e below s args y 3 8 (PreOf R mc ms Pc) (PostOf Qc mc ms free) (vx_Post XC mc ms free) := vx_callBack cw.1 hM hp.1
  obtain ⟨⟨-, -, -, -, -, -, hcode, hini, hy, hlen, hl⟩, hstt⟩ := cw
  obtain ⟨hx, hb, hml, ho, -⟩ := S
  intro T hT X
  rcases vx_callS X hx (bytes := bytes) (maxL := maxL) (ret := ret) ho hl hstt hini hcode hy hK hg (hsize.trans hml.symm) (argsL := As) (rest := rest) (fun sig h => hn.trans (hlen sig h)) hstack hW (by rw [hb]; exact hdg)
    (fun vm₁ hW₁ => ⟨hf.1, hf.2, hp.2 (T.setVm vm₁) hT hW₁⟩) with ⟨v, vm₁, ⟨U', l2, c2, s2⟩, hW₁, X', ⟨g', mk, t, L, e1, e2, hq, h1, hL, h2, h3⟩, st⟩ | ⟨q, vm₁, ⟨U', l2, c2, s2⟩, hW₁, X', ⟨g', mk, t, L, E, ce, e1, e2, hq, hce, hcv, hcl, h1, hL, h2, h3⟩, st⟩
  · dsimp only [Pt.U, Pt.locs, Pt.cells, Pt.slots] at X' e1 e2 h1 h2 h3 st
    subst h1; subst h2; subst h3
    exact Or.inl ⟨v, (T.setVm vm₁).calling g' mk As.toArray, t, U', L, hT, X', hL, e1, e2, hq, st⟩
  · dsimp only [Pt.U, Pt.locs, Pt.cells, Pt.slots] at X' e1 e2 h1 h2 h3 st hcl
    subst h1; subst h2; subst h3
    exact Or.inr ⟨q, (T.setVm vm₁).calling g' mk As.toArray, t, U', L, E, ce, hT, X', hL, e1, e2, hq, hce, hcv, vx_cls hW₁ hcl, st⟩
end Runs
section Rows
variable {p : Program} {l : Launch} {e : Env} {R : Room} {s : State} {m : MethodId} {args : Array Value} {below : List Frame} {meth : Method} {c : Code} {H : Heap} {locs : List Loc} {cells slots : Nat} {Q : State → Prop}
variable {mc ms : Nat} {free : Addr → Prop} {A0 A1 : Nat → Prop} {H0 : Heap} {a : Array Value} {pc : Nat} {ls : Array Slot} {st0 rest : List Value}
theorem vx_keep {st₀ t T' : State} {L : List Loc} (h0 : st₀.heap = H) (e1 : T'.heap = t.heap) (hS : va_S A0 H0 H locs) (hA : ∀ q, q < H.size → A1 q → A0 q) (hf : ∀ q, free q → A0 q) (hL : ∀ q ∈ L, free q.base) (hF : va_F A1 st₀ t) :
    H.size ≤ T'.heap.size ∧ (∀ q : Nat, q < H.size → ¬ A1 q → T'.heap[q]? = H[q]?) ∧ va_S A0 H0 T'.heap (locs ++ L) := by
  obtain ⟨hz, hk⟩ := hF
  rw [h0] at hz hk
  exact ⟨by rw [e1]; exact hz, fun q h1 h2 => by rw [e1]; exact hk q h1 h2,
    ⟨Nat.le_trans hS.1 (by rw [e1]; exact hz), fun q h1 h2 => by rw [e1, hk q (Nat.lt_of_lt_of_le h1 hS.1) (fun z => h2 (hA q (Nat.lt_of_lt_of_le h1 hS.1) z))]; exact hS.2.1 q h1 h2, fun q hq => by
      rcases List.mem_append.mp hq with h | h
      · exact hS.2.2 q h
      · exact hf _ (hL q h)⟩⟩
theorem vx_calli {S SX : Type} {post : Int32 → S → Prop} {px : SX → Prop} {B : S → State → Prop} {BX : String → SX → State → Prop} {AX : Nat → Prop} (hr : vx_Run p l e R s m args below meth c H locs cells slots mc ms (F0 m pc ls st0) rest (va_Qi post B A1 a) (vx_X px BX AX) free) (hS : va_S A0 H0 H locs) (hA : ∀ q, q < H.size → A1 q → A0 q) (hf : ∀ q, free q → A0 q) (hAX : ∀ q, q < H.size → AX q → A0 q)
    (kx : ∀ (E : String) (ce : Cell) (q9 : Addr) (u : SX) (t : State) (H1 : Heap) (locs1 : List Loc), t.heap = H1 → s.vm.Alike t.vm → px u → BX E u t → H.size ≤ H1.size → (∀ q : Nat, q < H.size → ¬ AX q → H1[q]? = H[q]?) → va_S A0 H0 H1 locs1 → H1[q9]? = some ce → ce.vm = .none → s.vm.findClass E = some ce.cls → vx_W p l e R s m args below meth c H1 locs1 (cells + mc) (slots + ms) Q (F0 m pc ls rest) q9)
    (kk : ∀ (r : Int32) (u : S) (t : State) (H1 : Heap) (locs1 : List Loc), t.heap = H1 → s.vm.Alike t.vm → post r u → B u t → H.size ≤ H1.size → (∀ q : Nat, q < H.size → ¬ A1 q → H1[q]? = H[q]?) → va_S A0 H0 H1 locs1 → W p l e R s m args below meth c H1 locs1 (cells + mc) (slots + ms) Q (F0 m (pc + 3) ls (.int r :: rest))) : W p l e R s m args below meth c H locs cells slots Q (F0 m pc ls st0) := by
  intro T hT X
  rcases hr T hT X with ⟨v, st₀, t, T', L, h0, X', hL, e1, e2, ⟨⟨r, u, hv, hp, hb⟩, hF⟩, st⟩ | ⟨q, st₀, t, T', L, E, ce, h0, X', hL, e1, e2, ⟨u, hp, hb, hF⟩, hce, hcv, hcl, st⟩
  · cases hv
    obtain ⟨k1, k2, k3⟩ := vx_keep h0 e1 hS hA hf hL hF
    obtain ⟨t2, a1, b1⟩ := kk r u t T'.heap (locs ++ L) e1.symm (by rw [← e2]; exact X'.warmed.alike) hp hb k1 k2 k3 T' rfl X'
    exact ⟨t2, st t2 a1, b1⟩
  · obtain ⟨k1, k2, k3⟩ := vx_keep h0 e1 hS hAX hf hL hF
    obtain ⟨t2, a1, b1⟩ := kx E ce q u t T'.heap (locs ++ L) e1.symm (by rw [← e2]; exact X'.warmed.alike) hp hb k1 k2 k3 (by rw [e1]; exact hce) hcv hcl T' rfl X'
    exact ⟨t2, st.trans a1, b1⟩
theorem vx_calll {S SX : Type} {post : Int64 → S → Prop} {px : SX → Prop} {B : S → State → Prop} {BX : String → SX → State → Prop} {AX : Nat → Prop} (hr : vx_Run p l e R s m args below meth c H locs cells slots mc ms (F0 m pc ls st0) rest (va_Ql post B A1 a) (vx_X px BX AX) free) (hS : va_S A0 H0 H locs) (hA : ∀ q, q < H.size → A1 q → A0 q) (hf : ∀ q, free q → A0 q) (hAX : ∀ q, q < H.size → AX q → A0 q)
    (kx : ∀ (E : String) (ce : Cell) (q9 : Addr) (u : SX) (t : State) (H1 : Heap) (locs1 : List Loc), t.heap = H1 → s.vm.Alike t.vm → px u → BX E u t → H.size ≤ H1.size → (∀ q : Nat, q < H.size → ¬ AX q → H1[q]? = H[q]?) → va_S A0 H0 H1 locs1 → H1[q9]? = some ce → ce.vm = .none → s.vm.findClass E = some ce.cls → vx_W p l e R s m args below meth c H1 locs1 (cells + mc) (slots + ms) Q (F0 m pc ls rest) q9)
    (kk : ∀ (r : Int64) (u : S) (t : State) (H1 : Heap) (locs1 : List Loc), t.heap = H1 → s.vm.Alike t.vm → post r u → B u t → H.size ≤ H1.size → (∀ q : Nat, q < H.size → ¬ A1 q → H1[q]? = H[q]?) → va_S A0 H0 H1 locs1 → W p l e R s m args below meth c H1 locs1 (cells + mc) (slots + ms) Q (F0 m (pc + 3) ls (.long r :: rest))) : W p l e R s m args below meth c H locs cells slots Q (F0 m pc ls st0) := by
  intro T hT X
  rcases hr T hT X with ⟨v, st₀, t, T', L, h0, X', hL, e1, e2, ⟨⟨r, u, hv, hp, hb⟩, hF⟩, st⟩ | ⟨q, st₀, t, T', L, E, ce, h0, X', hL, e1, e2, ⟨u, hp, hb, hF⟩, hce, hcv, hcl, st⟩
  · cases hv
    obtain ⟨k1, k2, k3⟩ := vx_keep h0 e1 hS hA hf hL hF
    obtain ⟨t2, a1, b1⟩ := kk r u t T'.heap (locs ++ L) e1.symm (by rw [← e2]; exact X'.warmed.alike) hp hb k1 k2 k3 T' rfl X'
    exact ⟨t2, st t2 a1, b1⟩
  · obtain ⟨k1, k2, k3⟩ := vx_keep h0 e1 hS hAX hf hL hF
    obtain ⟨t2, a1, b1⟩ := kx E ce q u t T'.heap (locs ++ L) e1.symm (by rw [← e2]; exact X'.warmed.alike) hp hb k1 k2 k3 (by rw [e1]; exact hce) hcv hcl T' rfl X'
    exact ⟨t2, st.trans a1, b1⟩
theorem vx_callf {S SX : Type} {post : UInt32 → S → Prop} {px : SX → Prop} {B : S → State → Prop} {BX : String → SX → State → Prop} {AX : Nat → Prop} (hr : vx_Run p l e R s m args below meth c H locs cells slots mc ms (F0 m pc ls st0) rest (va_Qf post B A1 a) (vx_X px BX AX) free) (hS : va_S A0 H0 H locs) (hA : ∀ q, q < H.size → A1 q → A0 q) (hf : ∀ q, free q → A0 q) (hAX : ∀ q, q < H.size → AX q → A0 q)
    (kx : ∀ (E : String) (ce : Cell) (q9 : Addr) (u : SX) (t : State) (H1 : Heap) (locs1 : List Loc), t.heap = H1 → s.vm.Alike t.vm → px u → BX E u t → H.size ≤ H1.size → (∀ q : Nat, q < H.size → ¬ AX q → H1[q]? = H[q]?) → va_S A0 H0 H1 locs1 → H1[q9]? = some ce → ce.vm = .none → s.vm.findClass E = some ce.cls → vx_W p l e R s m args below meth c H1 locs1 (cells + mc) (slots + ms) Q (F0 m pc ls rest) q9)
    (kk : ∀ (r : UInt32) (u : S) (t : State) (H1 : Heap) (locs1 : List Loc), t.heap = H1 → s.vm.Alike t.vm → post r u → B u t → H.size ≤ H1.size → (∀ q : Nat, q < H.size → ¬ A1 q → H1[q]? = H[q]?) → va_S A0 H0 H1 locs1 → W p l e R s m args below meth c H1 locs1 (cells + mc) (slots + ms) Q (F0 m (pc + 3) ls (.float r :: rest))) : W p l e R s m args below meth c H locs cells slots Q (F0 m pc ls st0) := by
  intro T hT X
  rcases hr T hT X with ⟨v, st₀, t, T', L, h0, X', hL, e1, e2, ⟨⟨r, u, hv, hp, hb⟩, hF⟩, st⟩ | ⟨q, st₀, t, T', L, E, ce, h0, X', hL, e1, e2, ⟨u, hp, hb, hF⟩, hce, hcv, hcl, st⟩
  · cases hv
    obtain ⟨k1, k2, k3⟩ := vx_keep h0 e1 hS hA hf hL hF
    obtain ⟨t2, a1, b1⟩ := kk r u t T'.heap (locs ++ L) e1.symm (by rw [← e2]; exact X'.warmed.alike) hp hb k1 k2 k3 T' rfl X'
    exact ⟨t2, st t2 a1, b1⟩
  · obtain ⟨k1, k2, k3⟩ := vx_keep h0 e1 hS hAX hf hL hF
    obtain ⟨t2, a1, b1⟩ := kx E ce q u t T'.heap (locs ++ L) e1.symm (by rw [← e2]; exact X'.warmed.alike) hp hb k1 k2 k3 (by rw [e1]; exact hce) hcv hcl T' rfl X'
    exact ⟨t2, st.trans a1, b1⟩
theorem vx_calld {S SX : Type} {post : UInt64 → S → Prop} {px : SX → Prop} {B : S → State → Prop} {BX : String → SX → State → Prop} {AX : Nat → Prop} (hr : vx_Run p l e R s m args below meth c H locs cells slots mc ms (F0 m pc ls st0) rest (va_Qd post B A1 a) (vx_X px BX AX) free) (hS : va_S A0 H0 H locs) (hA : ∀ q, q < H.size → A1 q → A0 q) (hf : ∀ q, free q → A0 q) (hAX : ∀ q, q < H.size → AX q → A0 q)
    (kx : ∀ (E : String) (ce : Cell) (q9 : Addr) (u : SX) (t : State) (H1 : Heap) (locs1 : List Loc), t.heap = H1 → s.vm.Alike t.vm → px u → BX E u t → H.size ≤ H1.size → (∀ q : Nat, q < H.size → ¬ AX q → H1[q]? = H[q]?) → va_S A0 H0 H1 locs1 → H1[q9]? = some ce → ce.vm = .none → s.vm.findClass E = some ce.cls → vx_W p l e R s m args below meth c H1 locs1 (cells + mc) (slots + ms) Q (F0 m pc ls rest) q9)
    (kk : ∀ (r : UInt64) (u : S) (t : State) (H1 : Heap) (locs1 : List Loc), t.heap = H1 → s.vm.Alike t.vm → post r u → B u t → H.size ≤ H1.size → (∀ q : Nat, q < H.size → ¬ A1 q → H1[q]? = H[q]?) → va_S A0 H0 H1 locs1 → W p l e R s m args below meth c H1 locs1 (cells + mc) (slots + ms) Q (F0 m (pc + 3) ls (.double r :: rest))) : W p l e R s m args below meth c H locs cells slots Q (F0 m pc ls st0) := by
  intro T hT X
  rcases hr T hT X with ⟨v, st₀, t, T', L, h0, X', hL, e1, e2, ⟨⟨r, u, hv, hp, hb⟩, hF⟩, st⟩ | ⟨q, st₀, t, T', L, E, ce, h0, X', hL, e1, e2, ⟨u, hp, hb, hF⟩, hce, hcv, hcl, st⟩
  · cases hv
    obtain ⟨k1, k2, k3⟩ := vx_keep h0 e1 hS hA hf hL hF
    obtain ⟨t2, a1, b1⟩ := kk r u t T'.heap (locs ++ L) e1.symm (by rw [← e2]; exact X'.warmed.alike) hp hb k1 k2 k3 T' rfl X'
    exact ⟨t2, st t2 a1, b1⟩
  · obtain ⟨k1, k2, k3⟩ := vx_keep h0 e1 hS hAX hf hL hF
    obtain ⟨t2, a1, b1⟩ := kx E ce q u t T'.heap (locs ++ L) e1.symm (by rw [← e2]; exact X'.warmed.alike) hp hb k1 k2 k3 (by rw [e1]; exact hce) hcv hcl T' rfl X'
    exact ⟨t2, st.trans a1, b1⟩
theorem vx_callv {S SX : Type} {post : S → Prop} {px : SX → Prop} {B : S → State → Prop} {BX : String → SX → State → Prop} {AX : Nat → Prop} (hr : vx_Run p l e R s m args below meth c H locs cells slots mc ms (F0 m pc ls st0) rest (va_Qv post B A1 a) (vx_X px BX AX) free) (hS : va_S A0 H0 H locs) (hA : ∀ q, q < H.size → A1 q → A0 q) (hf : ∀ q, free q → A0 q) (hAX : ∀ q, q < H.size → AX q → A0 q)
    (kx : ∀ (E : String) (ce : Cell) (q9 : Addr) (u : SX) (t : State) (H1 : Heap) (locs1 : List Loc), t.heap = H1 → s.vm.Alike t.vm → px u → BX E u t → H.size ≤ H1.size → (∀ q : Nat, q < H.size → ¬ AX q → H1[q]? = H[q]?) → va_S A0 H0 H1 locs1 → H1[q9]? = some ce → ce.vm = .none → s.vm.findClass E = some ce.cls → vx_W p l e R s m args below meth c H1 locs1 (cells + mc) (slots + ms) Q (F0 m pc ls rest) q9)
    (kk : ∀ (u : S) (t : State) (H1 : Heap) (locs1 : List Loc), t.heap = H1 → s.vm.Alike t.vm → post u → B u t → H.size ≤ H1.size → (∀ q : Nat, q < H.size → ¬ A1 q → H1[q]? = H[q]?) → va_S A0 H0 H1 locs1 → W p l e R s m args below meth c H1 locs1 (cells + mc) (slots + ms) Q (F0 m (pc + 3) ls (rest))) : W p l e R s m args below meth c H locs cells slots Q (F0 m pc ls st0) := by
  intro T hT X
  rcases hr T hT X with ⟨v, st₀, t, T', L, h0, X', hL, e1, e2, ⟨⟨u, hv, hp, hb⟩, hF⟩, st⟩ | ⟨q, st₀, t, T', L, E, ce, h0, X', hL, e1, e2, ⟨u, hp, hb, hF⟩, hce, hcv, hcl, st⟩
  · cases hv
    obtain ⟨k1, k2, k3⟩ := vx_keep h0 e1 hS hA hf hL hF
    obtain ⟨t2, a1, b1⟩ := kk u t T'.heap (locs ++ L) e1.symm (by rw [← e2]; exact X'.warmed.alike) hp hb k1 k2 k3 T' rfl X'
    exact ⟨t2, st t2 a1, b1⟩
  · obtain ⟨k1, k2, k3⟩ := vx_keep h0 e1 hS hAX hf hL hF
    obtain ⟨t2, a1, b1⟩ := kx E ce q u t T'.heap (locs ++ L) e1.symm (by rw [← e2]; exact X'.warmed.alike) hp hb k1 k2 k3 (by rw [e1]; exact hce) hcv hcl T' rfl X'
    exact ⟨t2, st.trans a1, b1⟩
/-- caught by the row x of this method's table; the rows ahead don't take it -/
theorem vx_catch {own name : String} {E : String} {ce : Cell} {q : Addr} (hown : s.vm.findClass own = some m.cls) (pre : List ExceptionTableEntry) (x : ExceptionTableEntry) (suf : List ExceptionTableEntry) (hsplit : c.exceptionTable.toList = pre ++ x :: suf)
    (hpass : ∀ z ∈ pre, covers z pc = false ∨ (z.catchType ≠ 0 ∧ ∃ nm : String, (Cond.classLink own z.catchType nm).before args s = true ∧ va_Nc E nm s)) (hx : covers x pc = true) (h0 : x.catchType ≠ 0)
    (hlink : (Cond.classLink own x.catchType name).before args s = true) (hcast : (Cond.castable E name).before args s = true) (hcell : H[q]? = some ce) (hv : ce.vm = .none) (hcl : s.vm.findClass E = some ce.cls)
    (kk : W p l e R s m args below meth c H locs cells slots Q (F0 m x.handlerPc ls [.ref q])) : vx_W p l e R s m args below meth c H locs cells slots Q (F0 m pc ls rest) q := by
  intro T hT X
  have hpl : e.platform.magicAccessors = ({} : Platform).magicAccessors := by rw [X.admits.platform]
  obtain ⟨c3, c4, hc3, hc4, hasg⟩ := Cond.castable_spec hcast
  cases Option.some.inj (hc3.symm.trans hcl)
  obtain ⟨c5, hc5, hcl5⟩ := Cond.classLink_spec hown hlink e.platform hpl
  cases Option.some.inj (hc4.symm.trans hc5)
  obtain ⟨vm', X', st⟩ := X.thenCaughtThrough q (g := F0 m pc ls rest) rfl (Steps.refl _) (by rw [hT]; exact hcell) (by rw [hv]; rfl) (by obtain ⟨k9, h9, -⟩ := Vm.findClass_spec hcl; exact ⟨k9, h9⟩) pre x suf hsplit
    (fun z hz => by
      rcases hpass z hz with h | ⟨hz0, nm, hl1, hn1⟩
      · exact Or.inl h
      · obtain ⟨c6, hc6, hcl6⟩ := Cond.classLink_spec hown hl1 e.platform hpl
        obtain ⟨a8, b8, h1, h2, h3⟩ := hn1
        cases Option.some.inj (h1.symm.trans hcl)
        cases Option.some.inj (h2.symm.trans hc6)
        exact Or.inr ⟨hz0, _, hcl6, h3⟩) hx (Or.inr ⟨h0, c4, hcl5, hasg⟩)
  obtain ⟨t, a1, b1⟩ := kk (T.setVm vm') hT X'
  exact ⟨t, st.trans a1, b1⟩
end Rows
section Ends
variable {p : Program} {l : Launch} {e : Env} {R : Room} {s : State} {m : MethodId} {args : Array Value} {below : List Frame} {meth : Method} {c : Code} {H : Heap} {locs : List Loc} {cells slots : Nat} {Q : State → Prop}
variable {mc ms : Nat} {free : Addr → Prop} {A0 A1 : Nat → Prop} {H0 : Heap} {a : Array Value} {ls : Array Slot} {st0 rest : List Value}
variable {Qc : Array Value → State → Outcome → State → Prop} {XC : String → State → State → Prop}
/-- what a body that may throw owes at its end -/
def vx_MQ (below : List Frame) (Qc : Array Value → State → Outcome → State → Prop) (XC : String → State → State → Prop) (a : Array Value) (s : State) (mc ms : Nat) (free : Addr → Prop) : State → Prop := fun t =>
  ∃ o, t.status = .running ∧ Ended t below o ∧ vx_Q Qc XC mc ms free a s o t
theorem vx_ret {g : JFrame} {mc ms : Nat} (k : W p l e R s m args below meth c H locs cells slots (MQ below Qc args s mc ms free) g) : W p l e R s m args below meth c H locs cells slots (vx_MQ below Qc XC args s mc ms free) g := by
  intro T hT X
  obtain ⟨t, a1, o, b1, b2, b3, b4⟩ := k T hT X
  exact ⟨t, a1, o, b1, b2, Or.inl ⟨b3, b4⟩⟩
/-- not caught here: it goes on to the caller -/
theorem vx_widen {g : JFrame} {q : Addr} {k n : Nat} (h1 : cells ≤ k) (h2 : slots ≤ n) (kk : vx_W p l e R s m args below meth c H locs k n Q g q) : vx_W p l e R s m args below meth c H locs cells slots Q g q := fun T hT X => kk T hT (stand_widen X h1 h2)
theorem vx_out {pc : Nat} {E : String} {ce : Cell} {q : Addr} {mc ms : Nat} (hout : ∀ x ∈ c.exceptionTable.toList, covers x pc = false) (hlocks : meth.locks = false) (hcell : H[q]? = some ce) (hv : ce.vm = .none) (hcl : s.vm.findClass E = some ce.cls)
    (hx : ∀ t : State, t.heap = H → s.vm.Alike t.vm → XC E s t) (hf : ∀ z ∈ locs, free z.base) (hc : cells ≤ mc) (hs : slots ≤ ms) :
    vx_W p l e R s m args below meth c H locs cells slots (vx_MQ below Qc XC args s mc ms free) (F0 m pc ls rest) q := by
  intro T hT X
  obtain ⟨st1, hrun, hend, hW, hsm⟩ := X.leaveThrown q (g := F0 m pc ls rest) rfl rfl rfl hout hlocks
  have hcell9 : (T.setFrames (.throwing q :: below)).heap[q]? = some ce := by
    show T.heap[q]? = some ce
    rw [hT]; exact hcell
  exact ⟨_, st1, .threw q, hrun, hend, Or.inr ⟨q, rfl, E, ce, locs, hx _ hT hW.alike, hcell9, hv, hcl, hW, hsm.mono hc hs, hf⟩⟩
theorem vx_frame {U : State} {k n : Nat} (h : s.sameButNew ({ U with vm := s.vm } : State) locs k n) : s.heap.size ≤ U.heap.size ∧ ∀ q : Nat, q < s.heap.size → (∀ z ∈ locs, z.base ≠ q) → U.heap[q]? = s.heap[q]? := by
  obtain ⟨-, h2, -, -, -, h6⟩ := h
  refine ⟨h2, fun q hq hz => ?_⟩
  obtain ⟨c9, e1, e2, e3, e4⟩ := h6 q _ (Array.getElem?_eq_getElem hq)
  have hs : c9.slots = (s.heap[q]).slots := Array.ext_getElem? fun i => e4 i fun hm => hz _ hm rfl
  have h9 : c9 = s.heap[q] := by
    rw [hs] at e2
    exact e2
  have e5 : U.heap[q]? = some c9 := e1
  rw [e5, h9, Array.getElem?_eq_getElem hq]
/-- the words of a throw but the four that speak of the heap -/
def vx_no (w : Cond) : Bool := decide (w ≠ .isRef (.static Bundle.tN "UNASSIGNED_STACK" Bundle.steD)) && decide (w ≠ .isRef (.static Bundle.tN "SUPPRESSED_SENTINEL" Bundle.listD)) && decide (w ≠ .laysStatic Bundle.tN "UNASSIGNED_STACK" Bundle.steD) && decide (w ≠ .laysStatic Bundle.tN "SUPPRESSED_SENTINEL" Bundle.listD)
def vx_at0 (own : String) (ic : Nat) (X : String) (names : List String) : List Cond := (Bundle.ownAtoms0 own ic X names).filter vx_no
def vx_atS (own : String) (ic : Nat) (X : String) (names : List String) : List Cond := (Bundle.ownAtoms own ic X names).filter vx_no
/-- a word that the tables alone decide, or a good one -/
def vx_ot (w : Cond) : Bool := w.onTables || goodWord w
theorem vx_ot_at {args a' : Array Value} {s U : State} {w : Cond} (hW : s.WarmedH U.vm) (hvm : s.vm = U.vm) (hg : vx_ot w = true) (h : w.before args s = true) : w.before a' U = true := by
  simp only [vx_ot, Bool.or_eq_true] at hg
  rcases hg with hg | hg
  · exact va_tabs hg hvm h
  · exact word_at hW (good_of_word hg) h
/-- a list's words: the good ones out of the method's own list, the others by premises of their own -/
theorem vx_hat {args : Array Value} {s : State} {L B : List Cond} (h1 : ∀ w ∈ L.filter goodWord, w.before args s = true) (h2 : ∀ w ∈ L.filter (fun w => !goodWord w), w ∈ B) (h3 : ∀ w ∈ B, w.before args s = true) : ∀ w ∈ L, w.before args s = true := by
  intro w hw
  by_cases g : goodWord w = true
  · exact h1 w (List.mem_filter.mpr ⟨hw, g⟩)
  · refine h3 w (h2 w (List.mem_filter.mpr ⟨hw, ?_⟩))
    show (!goodWord w) = true
    cases hgw : goodWord w
    · rfl
    · exact absurd hgw g
theorem vx_c {args : Array Value} {s : State} {w : Cond} {B : List Cond} (h : w.before args s = true) (t : ∀ w ∈ B, w.before args s = true) : ∀ w' ∈ w :: B, w'.before args s = true := fun w' h' => (List.mem_cons.mp h').elim (fun e => by rw [e]; exact h) (t w')
theorem vx_n {args : Array Value} {s : State} : ∀ w ∈ ([] : List Cond), w.before args s = true := fun _ h => nomatch h
theorem vx_own {args : Array Value} {s : State} {L : List Cond} (h1 : ∀ w ∈ L.filter vx_no, w.before args s = true)
    (hU : (Cond.isRef (.static Bundle.tN "UNASSIGNED_STACK" Bundle.steD)).before args s = true) (hN : (Cond.isRef (.static Bundle.tN "SUPPRESSED_SENTINEL" Bundle.listD)).before args s = true)
    (lU : (Cond.laysStatic Bundle.tN "UNASSIGNED_STACK" Bundle.steD).before args s = true) (lN : (Cond.laysStatic Bundle.tN "SUPPRESSED_SENTINEL" Bundle.listD).before args s = true) : ∀ w ∈ L, w.before args s = true := by
  intro w hw
  by_cases e1 : w = .isRef (.static Bundle.tN "UNASSIGNED_STACK" Bundle.steD)
  · rw [e1]; exact hU
  · by_cases e2 : w = .isRef (.static Bundle.tN "SUPPRESSED_SENTINEL" Bundle.listD)
    · rw [e2]; exact hN
    · by_cases e3 : w = .laysStatic Bundle.tN "UNASSIGNED_STACK" Bundle.steD
      · rw [e3]; exact lU
      · by_cases e4 : w = .laysStatic Bundle.tN "SUPPRESSED_SENTINEL" Bundle.listD
        · rw [e4]; exact lN
        · exact h1 w (List.mem_filter.mpr ⟨hw, by unfold vx_no; rw [decide_eq_true e1, decide_eq_true e2, decide_eq_true e3, decide_eq_true e4]; rfl⟩)
/-- where a static field lies, its class's statics cell in H -/
def vx_L (C n d : String) (A : Nat → Prop) (U : State) (H : Heap) : Prop := ∃ (c : ClassId) (k : Class) (i : Nat) (f : Field) (a : Nat) (cell : Cell), U.vm.findClass C = some c ∧ U.fieldFound? C n d = some (c, k, i, f) ∧ f.isStatic = true ∧ k.statics = some a ∧ H[a]? = some cell ∧ cell.vm.isStatics = true ∧ cell.cls = c ∧ f.slot < cell.slots.size ∧ k.staticTypes[f.slot]? = some f.type ∧ ¬ A a
theorem vx_L.moved {C n d : String} {A : Nat → Prop} {u U : State} {H : Heap} (hvm : u.vm.Alike U.vm) (h : vx_L C n d A u H) : vx_L C n d A U H := by
  obtain ⟨c, k, i, f, a, cell, h1, h2, h3, h4, h5, h6, h7, h8, h9, h10⟩ := h
  obtain ⟨k', hi', he⟩ := State.fieldFound?_setVm hvm h2
  exact ⟨c, k', i, f, a, cell, by rw [hvm.findClass]; exact h1, hi', h3, by rw [he]; exact h4, h5, h6, h7, h8, by rw [he]; exact h9, h10⟩
theorem vx_L.kept {C n d : String} {A : Nat → Prop} {U : State} {H H1 : Heap} (h : vx_L C n d A U H) (hq : ∀ a : Nat, a < H.size → ¬ A a → H1[a]? = H[a]?) : vx_L C n d A U H1 := by
  obtain ⟨c, k, i, f, a, cell, h1, h2, h3, h4, h5, h6, h7, h8, h9, h10⟩ := h
  exact ⟨c, k, i, f, a, cell, h1, h2, h3, h4, by rw [hq a (Array.getElem?_eq_some_iff.mp h5).1 h10]; exact h5, h6, h7, h8, h9, h10⟩
theorem vx_L.narrow {C n d : String} {A B : Nat → Prop} {U : State} {H : Heap} (h : vx_L C n d A U H) (hAB : ∀ q, B q → A q) : vx_L C n d B U H := by
  obtain ⟨c, k, i, f, a, cell, h1, h2, h3, h4, h5, h6, h7, h8, h9, h10⟩ := h
  exact ⟨c, k, i, f, a, cell, h1, h2, h3, h4, h5, h6, h7, h8, h9, fun z => h10 (hAB _ z)⟩
theorem vx_L.word {C n d : String} {A : Nat → Prop} {s : State} {args : Array Value} (h : vx_L C n d A s s.heap) : (Cond.laysStatic C n d).before args s = true := by
  obtain ⟨c, k, i, f, a, cell, h1, h2, h3, h4, h5, h6, h7, h8, h9, -⟩ := h
  show (Cond.laysStatic C n d).holds args s none s [] = true
  exact Cond.laysStatic_of h1 h2 h3 h4 h5 h6 h7 h8 h9
/-- .. and what it holds: null or some reference -/
def vx_Zq (C n d : String) (A : Nat → Prop) (U : State) (H : Heap) : Prop := va_Zq C n d A U H ∧ vx_L C n d A U H
theorem vx_Zq.moved {C n d : String} {A : Nat → Prop} {u U : State} {H : Heap} (hvm : u.vm.Alike U.vm) (h : vx_Zq C n d A u H) : vx_Zq C n d A U H := ⟨va_Zq.moved hvm h.1, vx_L.moved hvm h.2⟩
theorem vx_Zq.kept {C n d : String} {A : Nat → Prop} {U : State} {H H1 : Heap} (h : vx_Zq C n d A U H) (hq : ∀ a : Nat, a < H.size → ¬ A a → H1[a]? = H[a]?) : vx_Zq C n d A U H1 := ⟨va_Zq.kept h.1 hq, vx_L.kept h.2 hq⟩
theorem vx_Zq.narrow {C n d : String} {A B : Nat → Prop} {U : State} {H : Heap} (h : vx_Zq C n d A U H) (hAB : ∀ q, B q → A q) : vx_Zq C n d B U H := ⟨va_Zq.narrow h.1 hAB, vx_L.narrow h.2 hAB⟩
theorem vx_Zqof {args : Array Value} {s : State} {C n d : String} {A : Nat → Prop} (hl : (Cond.laysStatic C n d).before args s = true) (hini : (Cond.initialized C).before args s = true) (h : (Cond.isRef (.static C n d)).before args s = true) (hA : ∀ a : Nat, a < s.heap.size → ¬ A a) : vx_Zq C n d A s s.heap := by
  refine ⟨va_Zqof hl hini h hA, ?_⟩
  obtain ⟨c, k, i, f, a, cell, h1, h2, h3, h4, h5, h6, h7, h8, h9⟩ := Cond.laysStatic_spec hl
  exact ⟨c, k, i, f, a, cell, h1, h2, h3, h4, h5, h6, h7, h8, h9, hA a (Array.getElem?_eq_some_iff.mp h5).1⟩
theorem vx_isRef {C n d : String} {v : Value} {A : Nat → Prop} {s : State} {args : Array Value} (h : va_Z C n d v A s s.heap) (hv : v.isRef = true) : (Cond.isRef (.static C n d)).before args s = true := by
  obtain ⟨cf, kf, fi, f, a, cell, h1, h2, h3, h4, h5, h6, h7, -⟩ := h
  have he : (Term.static C n d).eval args s none [] s = some v := by
    simp [Term.eval, State.fieldNamed?, h1, h2, h4, h5, h6, h7]
  simp only [Cond.before, Cond.holds, Cond.value, he]
  cases v <;> simp_all [Value.isRef]
theorem vx_isRefq {C n d : String} {A : Nat → Prop} {s : State} {args : Array Value} (h : va_Zq C n d A s s.heap) : (Cond.isRef (.static C n d)).before args s = true := by
  rcases h with h | ⟨t, h⟩
  · exact vx_isRef h rfl
  · exact vx_isRef h rfl
/-- the same frame, seen from here: as if the method were called anew in this heap -/
theorem vx_rebase {T : State} (X : Stand p l e R s m args below meth c T locs cells slots) {R' : Room} (hf : R'.frames ≤ R.frames) (hl : R'.locals ≤ R.locals) (hc : cells + R'.cells ≤ R.cells) (hs : slots + R'.slots ≤ R.slots) :
    Stand p l e R' ((T.setVm s.vm).setFrames (.invoking m args :: below)) m args below meth c T [] 0 0 := by
  have htop : (T.setVm s.vm).topJava?.isSome := X.here.top
  have hF : ((T.setVm s.vm).setFrames (.invoking m args :: below)).frames = .invoking m args :: below := State.frames_setFrames _ (State.cur_lt_of_top htop)
  obtain ⟨g₀, hg0⟩ := Option.isSome_iff_exists.mp htop
  obtain ⟨r, hr⟩ := State.topJava?_eq_some.mp hg0
  have hl9 : e.platform.stackLimits (T.setVm s.vm).me = e.platform.stackLimits s.me := X.limits
  have hb9 : (T.setVm s.vm).me.stackBytes = s.me.stackBytes := X.bytes
  refine ⟨X.admits, X.cas, X.clock, hF, ?_, X.hears, X.method, X.code, X.here, X.tail, X.warmed, ?_, ?_, ?_⟩
  · have h := X.room
    have hU : ((T.setVm s.vm).setFrames (.invoking m args :: below)).localsInUse = s.localsInUse := by
      rw [State.localsInUse_invoking hF (meth := meth) (c := c) X.method X.code, State.localsInUse_invoking X.frames X.method X.code]
    simp only [State.hasRoom, Bool.and_eq_true, decide_eq_true_eq] at h ⊢
    obtain ⟨⟨⟨⟨h1, h2, h3, h4, h5, h6⟩, h7⟩, h8⟩, h9⟩ := h
    rw [X.frames, List.length_cons] at h2 h3
    have q1 := X.heapSize
    have q2 := X.used
    simp only [hF, hU, List.length_cons, State.stackLimits_setFrames, State.stackBytes_setFrames, hl9, hb9]
    refine ⟨⟨⟨⟨by omega, by omega, by omega, by omega, by omega, h6⟩, ?_⟩, ?_⟩, X.book⟩
    · show T.heap.size + R'.cells ≤ e.platform.maxCells
      omega
    · show T.slotsUsed + R'.slots ≤ e.platform.maxSlots
      omega
  · rw [State.stackLimits_setFrames]; rfl
  · rw [State.stackBytes_setFrames]; rfl
  · refine ⟨?_, Nat.le_refl _, Nat.le_refl _, ?_, ?_, fun a c9 h9 => ⟨c9, h9, rfl, rfl, fun _ _ => rfl⟩⟩
    · obtain ⟨t, ht, -⟩ := State.frames_cons hr
      show T.setVm s.vm = { ((T.setVm s.vm).setFrames (.invoking m args :: below)).setFrames (T.setVm s.vm).frames with heap := T.heap, slotsUsed := T.slotsUsed }
      rw [State.setFrames_setFrames, State.setFrames_self ht]
      rfl
    · show T.slotsUsed = T.slotsUsed + ((T.heap.toList.drop T.heap.size).map (·.slots.size)).sum
      rw [List.drop_eq_nil_of_le (Nat.le_of_eq Array.length_toList)]
      rfl
    · show ((T.heap.toList.drop T.heap.size).map (·.slots.size)).sum ≤ 0
      rw [List.drop_eq_nil_of_le (Nat.le_of_eq Array.length_toList)]
      exact Nat.le_refl _
/-- 'throw new E()': new; dup; invokespecial; athrow -/
theorem vx_throw0 {cc : ByteArray} {pc : Nat} (hexec : p.tables.exec = Jvm.exec) (hb : c.code = cc) (hl : l.stackTraces = false) {own cls : String} {names : List String} {ik ic mc ms : Nat} {A : Nat → Prop}
    (hown : s.vm.findClass own = some m.cls) (hcls : Bundle.fit cls = true) (hnames : ∀ n ∈ names, Bundle.fit n = true)
    (hk : (Cond.classLink own ik cls).before args s = true) (hini : (Cond.initialized cls).before args s = true) (hat : ∀ w ∈ vx_at0 own ic cls names, w.before args s = true)
    (hgood : ∀ w ∈ Cond.classLink own ik cls :: Cond.initialized cls :: vx_at0 own ic cls names, vx_ot w = true)
    (hU : vx_Zq Bundle.tN "UNASSIGNED_STACK" Bundle.steD A s s.heap) (hN : vx_Zq Bundle.tN "SUPPRESSED_SENTINEL" Bundle.listD A s s.heap) (hS : va_S A s.heap H locs) (hsize : ls.size = c.maxLocals)
    (d0 : decode cc pc = .ok (.new ik, 3)) (d3 : decode cc (pc + 3) = .ok (.dup, 1)) (d4 : decode cc (pc + 4) = .ok (.invokespecial ic, 3)) (d7 : decode cc (pc + 7) = .ok (.athrow, 1))
    (hout : ∀ x ∈ c.exceptionTable.toList, covers x (pc + 7) = false)
    (hRframes : names.length + 3 < R.frames) (hRlocals : (rest.map fun v => v.category).sum + (13 * (names.length + 1) + 42) ≤ R.locals) (hRcells : cells + 1 ≤ R.cells) (hRslots : slots + 6 ≤ R.slots) (hlocks : meth.locks = false)
    (hx : ∀ t : State, s.vm.Alike t.vm → H.size ≤ t.heap.size → (∀ q : Nat, q < H.size → t.heap[q]? = H[q]?) → XC cls s t)
    (hf : ∀ z ∈ locs, free z.base) (hc : cells + 1 ≤ mc) (hs : slots + 6 ≤ ms) :
    W p l e R s m args below meth c H locs cells slots (vx_MQ below Qc XC args s mc ms free) (F0 m pc ls rest) := by
  intro T hT X
  have htr : e.platform.stackTraces = false := (show e.platform.stackTraces = l.stackTraces by rw [X.admits.platform]).trans hl
  have Y := vx_rebase X (R' := { frames := R.frames, locals := R.locals, cells := 1, slots := 6 }) (Nat.le_refl _) (Nat.le_refl _) hRcells hRslots
  obtain ⟨s', hA⟩ : ∃ z, z = (T.setVm s.vm).setFrames (.invoking m args :: below) := ⟨_, rfl⟩
  rw [← hA] at Y
  have hvm : s'.vm = s.vm := by rw [hA]; rfl
  have hhp : s'.heap = H := by rw [hA]; exact hT
  have hW0 : s.WarmedH s'.vm := by rw [hvm]; exact State.WarmedH.refl s
  have hat' : ∀ w ∈ vx_at0 own ic cls names, w.before args s' = true := fun w hw => vx_ot_at hW0 hvm.symm (hgood w (List.mem_cons_of_mem _ (List.mem_cons_of_mem _ hw))) (hat w hw)
  have hk' : (Cond.classLink own ik cls).before args s' = true := vx_ot_at hW0 hvm.symm (hgood _ List.mem_cons_self) hk
  have hini' : (Cond.initialized cls).before args s' = true := vx_ot_at hW0 hvm.symm (hgood _ (List.mem_cons_of_mem _ List.mem_cons_self)) hini
  have hU' : vx_Zq Bundle.tN "UNASSIGNED_STACK" Bundle.steD A s' s'.heap := by rw [hhp]; exact vx_Zq.moved hW0.alike (hU.kept hS.2.1)
  have hN' : vx_Zq Bundle.tN "SUPPRESSED_SENTINEL" Bundle.listD A s' s'.heap := by rw [hhp]; exact vx_Zq.moved hW0.alike (hN.kept hS.2.1)
  have h : ∀ w ∈ Bundle.ownAtoms0 own ic cls names, w.before args s' = true := vx_own hat' (vx_isRefq hU'.1) (vx_isRefq hN'.1) hU'.2.word hN'.2.word
  have hown' : s'.vm.findClass own = some m.cls := by rw [hvm]; exact hown
  have hins : (Cond.instantiable cls 6).before args s' = true := h _ (by simp [Bundle.ownAtoms0])
  obtain ⟨vm₁, cX, kX, hfX, hkX, -, -, X₁, st1⟩ := Y.newCold hexec (own := own) (C := cls) (index := ik) (n := 6) hown' hk' hins hini'
    (g := F0 m pc ls rest) rfl (by rw [hb]; exact d0) (Nat.le_refl _) (Nat.le_refl _)
  generalize hT1 : (T.setVm vm₁).pushCell { cls := cX, slots := kX.instanceTypes.map defaultValue, vm := .none } = T1 at X₁ st1
  have hcat : (Value.ref T.heap.size).category = 1 := rfl
  have hcellA : T1.heap[T.heap.size]? = some (freshCell cX kX) := by rw [← hT1]; exact State.heap_pushCell_size _ _
  have d3' : decode c.code (pc + 3) = .ok (.dup, 1) := by rw [hb]; exact d3
  obtain ⟨U, hsteps, hrun, hend, hW, hsame, ce, hce, hO⟩ := X₁.ctorThrow0 hexec htr (own := own) (cls := cls) (names := names) (ic := ic) hown' hcls hnames h (fun x hx => nomatch hx) hfX hkX hcellA (by rw [hhp, hT]; exact Nat.le_refl _)
    (g := { method := m, pc := pc + 4, locals := ls, stack := .ref T.heap.size :: .ref T.heap.size :: rest, locked := none }) rfl hsize rfl rfl (rest := rest) rfl
    (by rw [hb]; exact d4) (by rw [hb]; exact d7) hout hRframes (by simp only [List.map_cons, List.sum_cons, hcat]; omega) hlocks
  obtain ⟨f1, f2⟩ := vx_frame hsame
  rw [hhp] at f1 f2
  have hWs : s.WarmedH U.vm := State.WarmedH.trans hW0 hW
  have hcl : s.vm.findClass cls = some ce.cls := by
    have h9 := hO.cls
    rw [hvm] at h9
    exact h9
  have hall : s.sameButNew ({ U with vm := s.vm } : State) locs mc ms := by
    subst hA
    obtain ⟨e1, e2⟩ := hsame
    rw [State.setFrames_setFrames] at e1
    have h2 : (T.setVm s.vm).sameButNew ({ U with vm := s.vm } : State) [] (0 + 1) (0 + 6) := ⟨e1, e2⟩
    have h3 := X.same.trans h2
    rw [List.append_nil] at h3
    exact h3.mono hc hs
  refine ⟨U, ?_, .threw T.heap.size, hrun, hend, Or.inr ⟨T.heap.size, rfl, cls, ce, locs, hx U hWs.alike f1 (fun q hq => f2 q hq (fun z hz => nomatch hz)), hce, hO.vm, hcl, hWs, hall, hf⟩⟩
  refine st1 _ ?_
  show Steps p.tables e below (T1.setTop { method := m, pc := pc + 3, locals := ls, stack := .ref T.heap.size :: rest, locked := none }) _
  jvm_step X₁.here [X₁.here.top, hexec, d3', Value.category]
  exact hsteps
/-- 'throw new E("text")': new; dup; ldc; invokespecial; athrow -/
theorem vx_throwS {cc : ByteArray} {pc : Nat} (hexec : p.tables.exec = Jvm.exec) (hb : c.code = cc) (hl : l.stackTraces = false) {own cls text : String} {names : List String} {ik is ic mc ms sa : Nat} {A : Nat → Prop}
    (hown : s.vm.findClass own = some m.cls) (hcls : Bundle.fit cls = true) (hnames : ∀ n ∈ names, Bundle.fit n = true)
    (hk : (Cond.classLink own ik cls).before args s = true) (hini : (Cond.initialized cls).before args s = true) (hstr : vk_R own is text sa s) (hat : ∀ w ∈ vx_atS own ic cls names, w.before args s = true)
    (hgood : ∀ w ∈ Cond.classLink own ik cls :: Cond.initialized cls :: vx_atS own ic cls names, vx_ot w = true)
    (hU : vx_Zq Bundle.tN "UNASSIGNED_STACK" Bundle.steD A s s.heap) (hN : vx_Zq Bundle.tN "SUPPRESSED_SENTINEL" Bundle.listD A s s.heap) (hS : va_S A s.heap H locs) (hsize : ls.size = c.maxLocals)
    (d0 : decode cc pc = .ok (.new ik, 3)) (d3 : decode cc (pc + 3) = .ok (.dup, 1)) (d4 : decode cc (pc + 4) = .ok (.ldc is, 2)) (d6 : decode cc (pc + 6) = .ok (.invokespecial ic, 3)) (d9 : decode cc (pc + 9) = .ok (.athrow, 1))
    (hout : ∀ x ∈ c.exceptionTable.toList, covers x (pc + 9) = false)
    (hRframes : names.length + 3 < R.frames) (hRlocals : (rest.map fun v => v.category).sum + (13 * (names.length + 1) + 43) ≤ R.locals) (hRcells : cells + 1 ≤ R.cells) (hRslots : slots + 6 ≤ R.slots) (hlocks : meth.locks = false)
    (hx : ∀ t : State, s.vm.Alike t.vm → H.size ≤ t.heap.size → (∀ q : Nat, q < H.size → t.heap[q]? = H[q]?) → XC cls s t)
    (hf : ∀ z ∈ locs, free z.base) (hc : cells + 1 ≤ mc) (hs : slots + 6 ≤ ms) :
    W p l e R s m args below meth c H locs cells slots (vx_MQ below Qc XC args s mc ms free) (F0 m pc ls rest) := by
  intro T hT X
  have htr : e.platform.stackTraces = false := (show e.platform.stackTraces = l.stackTraces by rw [X.admits.platform]).trans hl
  have Y := vx_rebase X (R' := { frames := R.frames, locals := R.locals, cells := 1, slots := 6 }) (Nat.le_refl _) (Nat.le_refl _) hRcells hRslots
  obtain ⟨s', hA⟩ : ∃ z, z = (T.setVm s.vm).setFrames (.invoking m args :: below) := ⟨_, rfl⟩
  rw [← hA] at Y
  have hvm : s'.vm = s.vm := by rw [hA]; rfl
  have hhp : s'.heap = H := by rw [hA]; exact hT
  have hW0 : s.WarmedH s'.vm := by rw [hvm]; exact State.WarmedH.refl s
  have hat' : ∀ w ∈ vx_atS own ic cls names, w.before args s' = true := fun w hw => vx_ot_at hW0 hvm.symm (hgood w (List.mem_cons_of_mem _ (List.mem_cons_of_mem _ hw))) (hat w hw)
  have hk' : (Cond.classLink own ik cls).before args s' = true := vx_ot_at hW0 hvm.symm (hgood _ List.mem_cons_self) hk
  have hini' : (Cond.initialized cls).before args s' = true := vx_ot_at hW0 hvm.symm (hgood _ (List.mem_cons_of_mem _ List.mem_cons_self)) hini
  have hU' : vx_Zq Bundle.tN "UNASSIGNED_STACK" Bundle.steD A s' s'.heap := by rw [hhp]; exact vx_Zq.moved hW0.alike (hU.kept hS.2.1)
  have hN' : vx_Zq Bundle.tN "SUPPRESSED_SENTINEL" Bundle.listD A s' s'.heap := by rw [hhp]; exact vx_Zq.moved hW0.alike (hN.kept hS.2.1)
  have h : ∀ w ∈ Bundle.ownAtoms own ic cls names, w.before args s' = true := vx_own hat' (vx_isRefq hU'.1) (vx_isRefq hN'.1) hU'.2.word hN'.2.word
  have hown' : s'.vm.findClass own = some m.cls := by rw [hvm]; exact hown
  have hins : (Cond.instantiable cls 6).before args s' = true := h _ (by simp [Bundle.ownAtoms])
  obtain ⟨vm₁, cX, kX, hfX, hkX, -, -, X₁, st1⟩ := Y.newCold hexec (own := own) (C := cls) (index := ik) (n := 6) hown' hk' hins hini'
    (g := F0 m pc ls rest) rfl (by rw [hb]; exact d0) (Nat.le_refl _) (Nat.le_refl _)
  generalize hT1 : (T.setVm vm₁).pushCell { cls := cX, slots := kX.instanceTypes.map defaultValue, vm := .none } = T1 at X₁ st1
  have hcat : (Value.ref T.heap.size).category = 1 := rfl
  have hcellA : T1.heap[T.heap.size]? = some (freshCell cX kX) := by rw [← hT1]; exact State.heap_pushCell_size _ _
  have d3' : decode c.code (pc + 3) = .ok (.dup, 1) := by rw [hb]; exact d3
  have d4' : decode c.code (pc + 4) = .ok (.ldc is, 2) := by rw [hb]; exact d4
  have hstr' : vk_R own is text sa s' := vk_R.warm hW0 hstr
  obtain ⟨U, hsteps, hrun, hend, hW, hsame, ce, hce, hO⟩ := X₁.ctorThrowS hexec htr (own := own) (cls := cls) (names := names) (ic := ic) hown' hcls hnames h (fun x hx => nomatch hx) hfX hkX hcellA (by rw [hhp, hT]; exact Nat.le_refl _) (msg := .ref sa) rfl
    (g := { method := m, pc := pc + 6, locals := ls, stack := .ref sa :: .ref T.heap.size :: .ref T.heap.size :: rest, locked := none }) rfl hsize rfl rfl (rest := rest) rfl
    (by rw [hb]; exact d6) (by rw [hb]; exact d9) hout hRframes (by simp only [List.map_cons, List.sum_cons, hcat]; omega) hlocks
  obtain ⟨f1, f2⟩ := vx_frame hsame
  rw [hhp] at f1 f2
  have hWs : s.WarmedH U.vm := State.WarmedH.trans hW0 hW
  have hcl : s.vm.findClass cls = some ce.cls := by
    have h9 := hO.cls
    rw [hvm] at h9
    exact h9
  have hall : s.sameButNew ({ U with vm := s.vm } : State) locs mc ms := by
    subst hA
    obtain ⟨e1, e2⟩ := hsame
    rw [State.setFrames_setFrames] at e1
    have h2 : (T.setVm s.vm).sameButNew ({ U with vm := s.vm } : State) [] (0 + 1) (0 + 6) := ⟨e1, e2⟩
    have h3 := X.same.trans h2
    rw [List.append_nil] at h3
    exact h3.mono hc hs
  refine ⟨U, ?_, .threw T.heap.size, hrun, hend, Or.inr ⟨T.heap.size, rfl, cls, ce, locs, hx U hWs.alike f1 (fun q hq => f2 q hq (fun z hz => nomatch hz)), hce, hO.vm, hcl, hWs, hall, hf⟩⟩
  refine st1 _ ?_
  show Steps p.tables e below (T1.setTop { method := m, pc := pc + 3, locals := ls, stack := .ref T.heap.size :: rest, locked := none }) _
  jvm_step X₁.here [X₁.here.top, hexec, d3', Value.category]
  exact X₁.ldcString hexec (own := own) (text := text) (index := is) (a := sa) hown' hstr'.1 hstr'.2
    (g := { method := m, pc := pc + 4, locals := ls, stack := .ref T.heap.size :: .ref T.heap.size :: rest, locked := none }) rfl d4' _ hsteps
/-- 'throw new E("text")', the text by a wide index -/
theorem vx_throwSW {cc : ByteArray} {pc : Nat} (hexec : p.tables.exec = Jvm.exec) (hb : c.code = cc) (hl : l.stackTraces = false) {own cls text : String} {names : List String} {ik is ic mc ms sa : Nat} {A : Nat → Prop}
    (hown : s.vm.findClass own = some m.cls) (hcls : Bundle.fit cls = true) (hnames : ∀ n ∈ names, Bundle.fit n = true)
    (hk : (Cond.classLink own ik cls).before args s = true) (hini : (Cond.initialized cls).before args s = true) (hstr : vk_R own is text sa s) (hat : ∀ w ∈ vx_atS own ic cls names, w.before args s = true)
    (hgood : ∀ w ∈ Cond.classLink own ik cls :: Cond.initialized cls :: vx_atS own ic cls names, vx_ot w = true)
    (hU : vx_Zq Bundle.tN "UNASSIGNED_STACK" Bundle.steD A s s.heap) (hN : vx_Zq Bundle.tN "SUPPRESSED_SENTINEL" Bundle.listD A s s.heap) (hS : va_S A s.heap H locs) (hsize : ls.size = c.maxLocals)
    (d0 : decode cc pc = .ok (.new ik, 3)) (d3 : decode cc (pc + 3) = .ok (.dup, 1)) (d4 : decode cc (pc + 4) = .ok (.ldc_w is, 3)) (d7 : decode cc (pc + 7) = .ok (.invokespecial ic, 3)) (d10 : decode cc (pc + 10) = .ok (.athrow, 1))
    (hout : ∀ x ∈ c.exceptionTable.toList, covers x (pc + 10) = false)
    (hRframes : names.length + 3 < R.frames) (hRlocals : (rest.map fun v => v.category).sum + (13 * (names.length + 1) + 43) ≤ R.locals) (hRcells : cells + 1 ≤ R.cells) (hRslots : slots + 6 ≤ R.slots) (hlocks : meth.locks = false)
    (hx : ∀ t : State, s.vm.Alike t.vm → H.size ≤ t.heap.size → (∀ q : Nat, q < H.size → t.heap[q]? = H[q]?) → XC cls s t)
    (hf : ∀ z ∈ locs, free z.base) (hc : cells + 1 ≤ mc) (hs : slots + 6 ≤ ms) :
    W p l e R s m args below meth c H locs cells slots (vx_MQ below Qc XC args s mc ms free) (F0 m pc ls rest) := by
  intro T hT X
  have htr : e.platform.stackTraces = false := (show e.platform.stackTraces = l.stackTraces by rw [X.admits.platform]).trans hl
  have Y := vx_rebase X (R' := { frames := R.frames, locals := R.locals, cells := 1, slots := 6 }) (Nat.le_refl _) (Nat.le_refl _) hRcells hRslots
  obtain ⟨s', hA⟩ : ∃ z, z = (T.setVm s.vm).setFrames (.invoking m args :: below) := ⟨_, rfl⟩
  rw [← hA] at Y
  have hvm : s'.vm = s.vm := by rw [hA]; rfl
  have hhp : s'.heap = H := by rw [hA]; exact hT
  have hW0 : s.WarmedH s'.vm := by rw [hvm]; exact State.WarmedH.refl s
  have hat' : ∀ w ∈ vx_atS own ic cls names, w.before args s' = true := fun w hw => vx_ot_at hW0 hvm.symm (hgood w (List.mem_cons_of_mem _ (List.mem_cons_of_mem _ hw))) (hat w hw)
  have hk' : (Cond.classLink own ik cls).before args s' = true := vx_ot_at hW0 hvm.symm (hgood _ List.mem_cons_self) hk
  have hini' : (Cond.initialized cls).before args s' = true := vx_ot_at hW0 hvm.symm (hgood _ (List.mem_cons_of_mem _ List.mem_cons_self)) hini
  have hU' : vx_Zq Bundle.tN "UNASSIGNED_STACK" Bundle.steD A s' s'.heap := by rw [hhp]; exact vx_Zq.moved hW0.alike (hU.kept hS.2.1)
  have hN' : vx_Zq Bundle.tN "SUPPRESSED_SENTINEL" Bundle.listD A s' s'.heap := by rw [hhp]; exact vx_Zq.moved hW0.alike (hN.kept hS.2.1)
  have h : ∀ w ∈ Bundle.ownAtoms own ic cls names, w.before args s' = true := vx_own hat' (vx_isRefq hU'.1) (vx_isRefq hN'.1) hU'.2.word hN'.2.word
  have hown' : s'.vm.findClass own = some m.cls := by rw [hvm]; exact hown
  have hins : (Cond.instantiable cls 6).before args s' = true := h _ (by simp [Bundle.ownAtoms])
  obtain ⟨vm₁, cX, kX, hfX, hkX, -, -, X₁, st1⟩ := Y.newCold hexec (own := own) (C := cls) (index := ik) (n := 6) hown' hk' hins hini'
    (g := F0 m pc ls rest) rfl (by rw [hb]; exact d0) (Nat.le_refl _) (Nat.le_refl _)
  generalize hT1 : (T.setVm vm₁).pushCell { cls := cX, slots := kX.instanceTypes.map defaultValue, vm := .none } = T1 at X₁ st1
  have hcat : (Value.ref T.heap.size).category = 1 := rfl
  have hcellA : T1.heap[T.heap.size]? = some (freshCell cX kX) := by rw [← hT1]; exact State.heap_pushCell_size _ _
  have d3' : decode c.code (pc + 3) = .ok (.dup, 1) := by rw [hb]; exact d3
  have d4' : decode c.code (pc + 4) = .ok (.ldc_w is, 3) := by rw [hb]; exact d4
  have hstr' : vk_R own is text sa s' := vk_R.warm hW0 hstr
  obtain ⟨U, hsteps, hrun, hend, hW, hsame, ce, hce, hO⟩ := X₁.ctorThrowS hexec htr (own := own) (cls := cls) (names := names) (ic := ic) hown' hcls hnames h (fun x hx => nomatch hx) hfX hkX hcellA (by rw [hhp, hT]; exact Nat.le_refl _) (msg := .ref sa) rfl
    (g := { method := m, pc := pc + 7, locals := ls, stack := .ref sa :: .ref T.heap.size :: .ref T.heap.size :: rest, locked := none }) rfl hsize rfl rfl (rest := rest) rfl
    (by rw [hb]; exact d7) (by rw [hb]; exact d10) hout hRframes (by simp only [List.map_cons, List.sum_cons, hcat]; omega) hlocks
  obtain ⟨f1, f2⟩ := vx_frame hsame
  rw [hhp] at f1 f2
  have hWs : s.WarmedH U.vm := State.WarmedH.trans hW0 hW
  have hcl : s.vm.findClass cls = some ce.cls := by
    have h9 := hO.cls
    rw [hvm] at h9
    exact h9
  have hall : s.sameButNew ({ U with vm := s.vm } : State) locs mc ms := by
    subst hA
    obtain ⟨e1, e2⟩ := hsame
    rw [State.setFrames_setFrames] at e1
    have h2 : (T.setVm s.vm).sameButNew ({ U with vm := s.vm } : State) [] (0 + 1) (0 + 6) := ⟨e1, e2⟩
    have h3 := X.same.trans h2
    rw [List.append_nil] at h3
    exact h3.mono hc hs
  refine ⟨U, ?_, .threw T.heap.size, hrun, hend, Or.inr ⟨T.heap.size, rfl, cls, ce, locs, hx U hWs.alike f1 (fun q hq => f2 q hq (fun z hz => nomatch hz)), hce, hO.vm, hcl, hWs, hall, hf⟩⟩
  refine st1 _ ?_
  show Steps p.tables e below (T1.setTop { method := m, pc := pc + 3, locals := ls, stack := .ref T.heap.size :: rest, locked := none }) _
  jvm_step X₁.here [X₁.here.top, hexec, d3', Value.category]
  exact X₁.ldcStringW hexec (own := own) (text := text) (index := is) (a := sa) hown' hstr'.1 hstr'.2
    (g := { method := m, pc := pc + 4, locals := ls, stack := .ref T.heap.size :: .ref T.heap.size :: rest, locked := none }) rfl d4' _ hsteps
end Ends
section Bodies
variable {l : Launch}
theorem vx_ofW {y : MethodName} {ws ws' : List Cond} {rm : Room} {Pc : Array Value → State → Prop} {Qc : Array Value → State → Outcome → State → Prop} {XC : String → State → State → Prop} {mc ms : Nat} {free : Addr → Prop} {cc : ByteArray} {maxL : Nat} {ret : Option FieldType}
    (hy : plainName y.cls = true) (hw : ws = Cond.code y cc maxL ret :: ws')
    (body : ∀ p e s m args below meth c s₁, BodyLoose p l y (headSpec ws rm) cc maxL ret e s m args below meth c s₁ → c.maxLocals = maxL → (∀ x ∈ c.exceptionTable.toList, False) → Pc args s →
      W p l e (headSpec ws rm).room s m args below meth c s.heap [] 0 0 (vx_MQ below Qc XC args s mc ms free) (entryFrame m args maxL)) : vx_Met l y ws rm Pc Qc XC mc ms free := by
  refine MetFree.of_bodyS (code := cc) (maxLocals := maxL) (ret := ret) hy ?_ ?_
  · intro args s m h hn
    obtain ⟨meth, c, h1, h2, h3, h4, h5, h6, -, -⟩ := Cond.code_spec hn (atoms_spec (ws := ws) h _ (by rw [hw]; exact List.mem_cons_self))
    exact ⟨meth, c, h1, h2, h3, h4, h5, h6⟩
  · intro p e s m args below meth c s₁ B hml hP _
    have hh0 : s₁.heap = s.heap := by rw [B.state]; rfl
    have ht : ∀ x ∈ c.exceptionTable.toList, False := by
      obtain ⟨meth9, c9, h1, h2, -, -, -, -, h7, -⟩ := Cond.code_spec B.named (atoms_spec (ws := ws) B.pre _ (by rw [hw]; exact List.mem_cons_self))
      cases Option.some.inj (h1.symm.trans B.method)
      cases Option.some.inj (h2.symm.trans (Stand.of_body B).code)
      intro x hx
      rw [Array.isEmpty_iff.mp h7] at hx
      cases hx
    obtain ⟨t, a1, o, b1, b2, b3⟩ := body p e s m args below meth c s₁ B hml ht hP s₁ hh0 (Stand.of_body B)
    exact ⟨t, o, a1, b1, b2, b3⟩
/-- the table of a body with handlers -/
theorem vx_table {p : Program} {x y : MethodName} {S : Spec} {cc bytes : ByteArray} {maxL maxL' : Nat} {ret ret' : Option FieldType} {e : Env} {s s₁ : State} {m : MethodId} {args : Array Value} {below : List Frame} {meth : Method} {c : Code} {hh : List (Nat × Nat × Nat × Nat)}
    (B : BodyLoose p l y S cc maxL ret e s m args below meth c s₁) (h : (Cond.codeWith y bytes maxL' ret' hh).before args s = true) : c.exceptionTable.toList = tableOf hh := by
  obtain ⟨m9, meth9, c9, hn9, h1, h2, -, -, h6, -⟩ := Cond.codeWith_spec h
  cases Option.some.inj (hn9.symm.trans B.named)
  cases Option.some.inj (h1.symm.trans B.method)
  cases Option.some.inj (h2.symm.trans (Stand.of_body B).code)
  rw [← h6, table_eq]
end Bodies
end VXA
/-! ===== END ===== -/
/-! ===== BEGIN a static call of a method with an exception table ===== -/
section VXS
variable {p : Program} {l : Launch} {e : Env} {R : Room} {s : State} {m : MethodId} {args : Array Value} {below : List Frame} {meth : Method} {c : Code} {T : State} {H : Heap} {locs : List Loc} {cells slots : Nat}
abbrev vx_CSW (R : Room) (s : State) (args : Array Value) (own : String) (index : Nat) (y : MethodName) (bytes : ByteArray) (maxL : Nat) (ret : Option FieldType) (hh : List (Nat × Nat × Nat × Nat)) (ws : List Cond) (rm : Room) (mc ms n : Nat) : Prop :=
  (rm.cells = mc ∧ rm.slots = ms ∧ rm.frames + 1 ≤ R.frames ∧ 8 + (maxL + 11) + rm.locals ≤ R.locals ∧ (∀ w ∈ ws, ∀ (a' : Array Value) (U : State), s.WarmedH U.vm → w.before a' U = true) ∧ Cond.codeWith y bytes maxL ret hh ∈ ws) ∧
  (Cond.codeWith y bytes maxL ret hh).before args s = true ∧ (Cond.initialized y.cls).before args s = true ∧ (y.cls ≠ "java/lang/invoke/MethodHandle" ∧ y.cls ≠ "java/lang/invoke/VarHandle") ∧
  (∀ sig, parseMethodDescriptor y.desc = some sig → n = sig.parameters.length) ∧ (Cond.methodLink own index y).before args s = true ∧ (Cond.static y).before args s = true
theorem vx_cwSW {own : String} {index maxL mc ms : Nat} {y : MethodName} {bytes : ByteArray} {ret : Option FieldType} {hh : List (Nat × Nat × Nat × Nat)} {Ts ws ws' : List Cond} {rm : Room} (n : Nat) (ht : ∀ w ∈ Ts, w.before args s = true) (hT : GoodIn Ts (va_wsS own index y ws)) (hw : ws = Cond.codeWith y bytes maxL ret hh :: ws') (hrc : rm.cells = mc) (hrs : rm.slots = ms)
    (hd : y.cls ≠ "java/lang/invoke/MethodHandle" ∧ y.cls ≠ "java/lang/invoke/VarHandle" ∧ (parseMethodDescriptor y.desc).map (fun d => d.parameters.length) = some n) (hR : rm.frames + 1 ≤ R.frames ∧ 8 + (maxL + 11) + rm.locals ≤ R.locals) :
    vx_CSW R s args own index y bytes maxL ret hh ws rm mc ms n := by
  have ok : ∀ w ∈ va_wsS own index y ws, w.before args s = true := fun w h => ht w (hT w h).1
  have hG : GoodIn Ts ws := fun w h => hT w (by unfold va_wsS; exact List.mem_append_right _ h)
  have hc : Cond.codeWith y bytes maxL ret hh ∈ ws := by rw [hw]; exact List.mem_cons_self
  refine ⟨⟨hrc, hrs, hR.1, hR.2, pay_in ht hG, hc⟩, ht _ (hG _ hc).1, ok _ (by simp [va_wsS]), ⟨hd.1, hd.2.1⟩, fun sig h => ?_, ok _ (by simp [va_wsS]), ok _ (by simp [va_wsS])⟩
  have h2 := hd.2.2
  rw [h] at h2
  exact (Option.some.inj h2).symm
theorem vx_callSW (X : Stand p l e R s m args below meth c T locs cells slots) (hexec : p.tables.exec = Jvm.exec) {own : String} {index : Nat} {y : MethodName} {bytes : ByteArray} {maxL : Nat} {ret : Option FieldType} {hh : List (Nat × Nat × Nat × Nat)}
    (hown : s.vm.findClass own = some m.cls) (hlink : (Cond.methodLink own index y).before args s = true) (hstat : (Cond.static y).before args s = true) (hinit : (Cond.initialized y.cls).before args s = true)
    (hcode : (Cond.codeWith y bytes maxL ret hh).before args s = true) (hy : y.cls ≠ "java/lang/invoke/MethodHandle" ∧ y.cls ≠ "java/lang/invoke/VarHandle")
    {W9 : Nat} {Pre : Pt → Array Value → Prop} {Post : Pt → Array Value → Option Value → Pt → Prop} (hK : Back l R p e below s args y 3 W9 Pre Post)
    {g : JFrame} (hg : g.method = m) (hsize : g.locals.size = c.maxLocals) {argsL rest : List Value} (hlen : ∀ sig, parseMethodDescriptor y.desc = some sig → argsL.length = sig.parameters.length)
    (hstack : g.stack = argsL.reverse ++ rest) (hW : 2 * g.monitorRoom + (rest.map fun v => v.category).sum ≤ W9) (hdg : decode c.code g.pc = .ok (.invokestatic index, 3))
    (hpre : ∀ vm₁, s.WarmedH vm₁ → Pre ⟨T.setVm vm₁, locs, cells, slots⟩ argsL.toArray) :
    ∃ (v : Option Value) (vm₁ : Vm) (B : Pt), s.WarmedH vm₁ ∧ Stand p l e R s m args below meth c B.U B.locs B.cells B.slots ∧ Post ⟨T.setVm vm₁, locs, cells, slots⟩ argsL.toArray v B ∧
      ∀ target, Steps p.tables e below (B.U.setTop { g with pc := g.pc + 3, stack := v.toList ++ rest }) target → Steps p.tables e below (T.setTop g) target := by
  obtain ⟨mk, methM, cM, hnamed, hmethM, -, -, -, -, -, -, hsigM⟩ := Cond.codeWith_spec hcode
  have hstatic : methM.isStatic = true := Cond.static_spec hnamed hmethM hstat
  obtain ⟨kP, hkP, -⟩ := className_of_methodNamed hnamed
  have hinitP : kP.init = .initialized := Cond.initialized_spec (findClass_of_methodNamed hnamed) hkP hinit
  obtain ⟨vm₁, X₁, hstep₁⟩ := X.invokestatic hexec hown hlink hnamed hmethM hstatic hkP hinitP hy (g := g) hg (argsL := argsL) (rest := rest) (hlen _ hsigM) hstack hdg
  obtain ⟨v, B, X', hpost, hsteps⟩ := hK m meth c ⟨T.setVm vm₁, locs, cells, slots⟩ { g with stack := rest } (.invokestatic index) mk argsL.toArray X₁ hg hsize hdg hW (X₁.named hnamed) (hpre vm₁ X₁.warmed)
  exact ⟨v, vm₁, B, X₁.warmed, X', hpost, fun target h => hstep₁ _ fun acts => by rw [doInvoke_state]; exact hsteps.trans h⟩
theorem vx_runSW {y : MethodName} {bytes cc : ByteArray} {maxL nL mc ms n index : Nat} {ret : Option FieldType} {hh : List (Nat × Nat × Nat × Nat)} {ws : List Cond} {rm : Room} {Pc : Array Value → State → Prop} {Qc : Array Value → State → Outcome → State → Prop} {free : Addr → Prop} {Ts : List Cond} {own : String} {As rest : List Value} {g : JFrame}
    (S : CallFix p m c cc nL s args Ts own) (hM : Met l y ws rm Pc Qc mc ms free) (cw : vx_CSW R s args own index y bytes maxL ret hh ws rm mc ms n) (hp : PreS s H Pc As)
    (hg : g.method = m) (hn : As.length = n) (hsize : g.locals.size = nL) (hstack : g.stack = As.reverse ++ rest) (hW : 2 * g.monitorRoom + (rest.map fun v => v.category).sum ≤ 8) (hdg : decode cc g.pc = .ok (.invokestatic index, 3)) (hf : cells + mc ≤ R.cells ∧ slots + ms ≤ R.slots) :
    va_Run p l e R s m args below meth c H locs cells slots mc ms g rest (Qc As.toArray) (free) := by
  obtain ⟨⟨hrc, hrs, hfr, hlo, hws, hcw⟩, hcode, hini, hy, hlen, hl, hstt⟩ := cw
  have hK : Back l R p e below s args y 3 8 (PreOf R mc ms Pc) (PostOf Qc mc ms free) := va_backW (hh := hh) (bytes := bytes) (maxL := maxL) (ret := ret) hM hp.1 hrc hrs hfr hlo hws hcw (fun a' U hW => word_at hW (Or.inl (by first | rfl | simp [Cond.onTables, Cond.keeps, Cond.steady])) hini)
  obtain ⟨hx, hb, hml, ho, -⟩ := S
  intro T hT X
  obtain ⟨v, vm₁, ⟨U', l2, c2, s2⟩, hW₁, X', ⟨g', mk, t, L, e1, e2, hq, h1, hL, h2, h3⟩, st⟩ := vx_callSW X hx (hh := hh) (bytes := bytes) (maxL := maxL) (ret := ret) ho hl hstt hini hcode hy hK hg (hsize.trans hml.symm) (argsL := As) (rest := rest) (fun sig h => hn.trans (hlen sig h)) hstack hW (by rw [hb]; exact hdg)
    (fun vm₁ hW₁ => ⟨hf.1, hf.2, hp.2 (T.setVm vm₁) hT hW₁⟩)
  dsimp only [Pt.U, Pt.locs, Pt.cells, Pt.slots] at X' e1 e2 h1 h2 h3 st
  subst h1; subst h2; subst h3
  exact ⟨v, (T.setVm vm₁).calling g' mk As.toArray, t, U', L, hT, X', hL, e1, e2, hq, st⟩
/-- not caught here, past rows that name other classes: it goes on to the caller -/
theorem vx_outP {p : Program} {l : Launch} {e : Env} {R : Room} {s : State} {m : MethodId} {args : Array Value} {below : List Frame} {meth : Method} {c : Code} {H : Heap} {locs : List Loc} {cells slots : Nat} {free : Addr → Prop} {ls : Array Slot} {rest : List Value} {Qc : Array Value → State → Outcome → State → Prop} {XC : String → State → State → Prop}
    {pc : Nat} {own E : String} {ce : Cell} {q : Addr} {mc ms : Nat} (hown : s.vm.findClass own = some m.cls) (hlocks : meth.locks = false)
    (hpass : ∀ z ∈ c.exceptionTable.toList, covers z pc = false ∨ (z.catchType ≠ 0 ∧ ∃ nm : String, (Cond.classLink own z.catchType nm).before args s = true ∧ va_Nc E nm s)) (hcell : H[q]? = some ce) (hv : ce.vm = .none) (hcl : s.vm.findClass E = some ce.cls)
    (hx : ∀ t : State, t.heap = H → s.vm.Alike t.vm → XC E s t) (hf : ∀ z ∈ locs, free z.base) (hc : cells ≤ mc) (hs : slots ≤ ms) :
    vx_W p l e R s m args below meth c H locs cells slots (vx_MQ below Qc XC args s mc ms free) (F0 m pc ls rest) q := by
  intro T hT X
  have hpl : e.platform.magicAccessors = ({} : Platform).magicAccessors := by rw [X.admits.platform]
  obtain ⟨vm', hW', X', st⟩ := X.outThrough hlocks q (g := F0 m pc ls rest) rfl rfl rfl (cell := ce) (by rw [hT]; exact hcell) (by rw [hv]; rfl)
    (by obtain ⟨k9, h9, -⟩ := Vm.findClass_spec hcl; exact ⟨k9, h9⟩) (fun z hz => by
      rcases hpass z hz with h | ⟨hz0, nm, hl1, hn1⟩
      · exact Or.inl h
      · obtain ⟨c6, hc6, hcl6⟩ := Cond.classLink_spec hown hl1 e.platform hpl
        obtain ⟨a8, b8, h1, h2, h3⟩ := hn1
        cases Option.some.inj (h1.symm.trans hcl)
        cases Option.some.inj (h2.symm.trans hc6)
        exact Or.inr ⟨hz0, _, hcl6, h3⟩)
  obtain ⟨g₀, hfr⟩ := X'.frames_eq
  have hcell9 : ((T.setVm vm').setFrames (.throwing q :: below)).heap[q]? = some ce := by
    show T.heap[q]? = some ce
    rw [hT]; exact hcell
  have hend : Ended ((T.setVm vm').setFrames (.throwing q :: below)) below (.threw q) := State.frames_setFrames _ (State.cur_lt_of_frames hfr)
  refine ⟨(T.setVm vm').setFrames (.throwing q :: below), ?_, .threw q, X'.here.running, hend, Or.inr ⟨q, rfl, E, ce, locs, hx _ hT (X'.ends _).1.alike, hcell9, hv, hcl, (X'.ends _).1, (X'.ends _).2.mono hc hs, hf⟩⟩
  rw [X.pushThrowing_eq]
  exact st
/-- a thing of a world lies in the heap -/
theorem vx_lt {D : va_G} {cl : List vw_C} {ws : va_W} {H1 : Heap} (h : va_P D cl ws H1) {k : Nat} {q : Nat × va_E} (hk : ws[k]? = some q) : q.1 < H1.size := (h k q hk).lt
end VXS
/-! ===== END ===== -/
/-! ===== BEGIN methods with a table of their own: called by a name, returning or throwing ===== -/
section VXH
/-! vx_backW, vx_callVX, vx_callSX, vx_callVW, vx_runVW, vx_runVX, vx_runSX, vx_ofWH follow the same proofs as their sisters above (Free/Laws.lean, Shelf42/LK1.lean); vx_outP calls Shelf42/NT130.lean (outThrough). -/
section
variable {l : Launch} {R : Room} {p : Program} {e : Env} {below : List Frame} {s : State} {sargs : Array Value} {y : MethodName} {len W9 : Nat}
theorem vx_backW {ws : List Cond} {rm : Room} {Pc : Array Value → State → Prop} {Qc : Array Value → State → Outcome → State → Prop} {XC : String → State → State → Prop} {mc ms : Nat} {free : Addr → Prop} {bytes : ByteArray} {maxL : Nat} {ret : Option FieldType} {hh : List (Nat × Nat × Nat × Nat)}
    (hM : vx_Met l y ws rm Pc Qc XC mc ms free) (hblind : FrameBlind Pc) (hrc : rm.cells = mc) (hrs : rm.slots = ms)
    (hframes : rm.frames + 1 ≤ R.frames) (hlocals : W9 + (maxL + 11) + rm.locals ≤ R.locals)
    (hws : ∀ w ∈ ws, ∀ a' U, s.WarmedH U.vm → w.before a' U = true) (hcode : Cond.codeWith y bytes maxL ret hh ∈ ws) (hinit : ∀ a' U, s.WarmedH U.vm → (Cond.initialized y.cls).before a' U = true) :
    vx_Back l R p e below s sargs y len W9 (PreOf R mc ms Pc) (PostOf Qc mc ms free) (vx_Post XC mc ms free) := by
  intro m meth c A g ig mk a X hg hsize hdg hW hn hp
  have h1 : (headSpec ws rm).pre.before a A.U = true := atoms_intro fun w hw => hws w hw _ _ X.warmed
  have h2 : (Cond.codeWith y bytes maxL ret hh).before a A.U = true := hws _ hcode _ _ X.warmed
  have h3 : (Cond.initialized y.cls).before a A.U = true := hinit _ _ X.warmed
  have h4 : A.cells + (headSpec ws rm).room.cells ≤ R.cells := by rw [show (headSpec ws rm).room.cells = mc from hrc]; exact hp.1
  have h5 : A.slots + (headSpec ws rm).room.slots ≤ R.slots := by rw [show (headSpec ws rm).room.slots = ms from hrs]; exact hp.2.1
  have hPc : Pc a (A.U.calling g mk a) := hblind _ _ _ _ hp.2.2
  obtain ⟨U, Ls, c0, s0⟩ := A
  dsimp only [Pt.U, Pt.locs, Pt.cells, Pt.slots] at h1 h2 h3 h4 h5 X hn hPc ⊢
  obtain ⟨m9, methY, cY, hn9, hmY, hcY, -, hlY, -⟩ := Cond.codeWith_spec h2
  cases Option.some.inj (hn9.symm.trans hn)
  obtain ⟨kY, hkY, -⟩ := className_of_methodNamed hn
  have hinitY : kY.init = .initialized := Cond.initialized_spec (findClass_of_methodNamed hn) hkY h3
  have h : At U g.method c below := by rw [hg]; exact X.here
  have hlocals9 : W9 + (maxL + 11) + (headSpec ws rm).room.locals ≤ R.locals := hlocals
  have happ : (headSpec ws rm).appliesLoose y e.platform (U.calling g mk a) = true :=
    Spec.appliesLoose_calling (g := g) h hdg hn hkY hinitY
      (X.room_calling (g := g) (R' := (headSpec ws rm).room) hsize hmY hcY hframes (by rw [hlY]; omega) h4 h5) h1
  obtain ⟨mid, hmid⟩ := h.above
  have hfr : (U.setTop g).frames = (.java g :: mid) ++ below := by rw [State.frames_setTop' g h.top, hmid]; rfl
  obtain ⟨o, s₂, hsteps, -, hend, hq⟩ := Steps.callFree hM p X.admits X.cas X.clock (acts := []) hfr happ hPc trivial
  have hq' : vx_Q Qc XC mc ms free a (U.calling g mk a) o s₂ := hq
  rw [State.frames_setTop' g h.top] at hend
  obtain ⟨g₀, hg0⟩ := Option.isSome_iff_exists.mp h.top
  obtain ⟨r, hr⟩ := State.topJava?_eq_some.mp hg0
  have hr' : (({ U with heap := s₂.heap, slotsUsed := s₂.slotsUsed } : State).setVm s₂.vm).frames = .java g₀ :: r := hr
  rcases hq' with ⟨hqc, L, hfe, hL⟩ | ⟨q, rfl, E, ce, L, hx, hce, hcv, hcl, hW₂, hsm, hL⟩
  · obtain ⟨⟨v, rfl⟩, hW₂, e2, q2, q3, q4, q5, q6⟩ := id hfe
    have e3 : s₂ = ({ (U.calling g mk a).setFrames s₂.frames with heap := s₂.heap, slotsUsed := s₂.slotsUsed } : State).setVm s₂.vm := by
      have : s₂ = ({ s₂ with vm := (U.calling g mk a).vm } : State).setVm s₂.vm := rfl
      rw [e2] at this
      exact this
    obtain ⟨c₂, i₂, len₂, hc₂, hd₂, hf₂⟩ := hend
    have hW' : U.WarmedH s₂.vm := hW₂
    have hcc : c₂ = c := by
      have h1 : s₂.code? g.method = U.code? g.method := by
        rw [State.code?_eq, State.code?_eq, hW'.alike.method?]
      exact Option.some.inj (hc₂.symm.trans (h1.trans h.code))
    subst hcc
    have hlen : len₂ = len := by rw [hdg] at hd₂; cases hd₂; rfl
    subst hlen
    have hs₂ : s₂ = (({ U with heap := s₂.heap, slotsUsed := s₂.slotsUsed } : State).setVm s₂.vm).setTop { g with pc := g.pc + len₂, stack := v.toList ++ g.stack } := by
      refine e3.trans ?_
      rw [hf₂, State.calling_eq h.top, State.setFrames_setFrames, State.setTop_of_frames _ hr', hr]
      rfl
    have hsame : U.sameButNew ({ U with heap := s₂.heap, slotsUsed := s₂.slotsUsed } : State) L mc ms := by
      refine ⟨?_, q2, q3, q4, q5, q6⟩
      obtain ⟨t, ht, -⟩ := State.frames_cons hr
      show ({ U with heap := s₂.heap, slotsUsed := s₂.slotsUsed } : State) = { U.setFrames U.frames with heap := s₂.heap, slotsUsed := s₂.slotsUsed }
      rw [State.setFrames_self ht]
    subst hg
    refine Or.inl ⟨v, ⟨(({ U with heap := s₂.heap, slotsUsed := s₂.slotsUsed } : State).setVm s₂.vm), Ls ++ L, c0 + mc, s0 + ms⟩,
      ⟨X.admits, X.cas, X.clock, X.frames, X.room, X.hears, X.method, X.code, (X.here.setHeapUsed s₂.heap s₂.slotsUsed).setVm hW'.alike, X.tail, State.WarmedH.trans X.warmed hW', X.limits, X.bytes, X.same.trans (hsame.setVm s.vm)⟩,
      ⟨g, mk, s₂, L, rfl, rfl, hqc, rfl, hL, rfl, rfl⟩, ?_⟩
    show Steps p.tables e below _ ((({ U with heap := s₂.heap, slotsUsed := s₂.slotsUsed } : State).setVm s₂.vm).setTop { g with pc := g.pc + len₂, stack := v.toList ++ g.stack })
    rw [← hs₂]
    exact hsteps
  · obtain ⟨e2, q2, q3, q4, q5, q6⟩ := id hsm
    have e3 : s₂ = ({ (U.calling g mk a).setFrames s₂.frames with heap := s₂.heap, slotsUsed := s₂.slotsUsed } : State).setVm s₂.vm := by
      have : s₂ = ({ s₂ with vm := (U.calling g mk a).vm } : State).setVm s₂.vm := rfl
      rw [e2] at this
      exact this
    have hf₂ : s₂.frames = .throwing q :: .java g :: U.frames.tail := hend
    have hW' : U.WarmedH s₂.vm := hW₂
    have hs₂ : s₂ = ((({ U with heap := s₂.heap, slotsUsed := s₂.slotsUsed } : State).setVm s₂.vm).setTop g).pushFrame (.throwing q) := by
      refine e3.trans ?_
      rw [hf₂, State.calling_eq h.top, State.setFrames_setFrames, State.pushFrame, State.frames_setTop _ hr', State.setTop_of_frames _ hr', State.setFrames_setFrames, hr]
      rfl
    have hsame : U.sameButNew ({ U with heap := s₂.heap, slotsUsed := s₂.slotsUsed } : State) L mc ms := by
      refine ⟨?_, q2, q3, q4, q5, q6⟩
      obtain ⟨t, ht, -⟩ := State.frames_cons hr
      show ({ U with heap := s₂.heap, slotsUsed := s₂.slotsUsed } : State) = { U.setFrames U.frames with heap := s₂.heap, slotsUsed := s₂.slotsUsed }
      rw [State.setFrames_self ht]
    subst hg
    refine Or.inr ⟨q, ⟨(({ U with heap := s₂.heap, slotsUsed := s₂.slotsUsed } : State).setVm s₂.vm), Ls ++ L, c0 + mc, s0 + ms⟩,
      ⟨X.admits, X.cas, X.clock, X.frames, X.room, X.hears, X.method, X.code, (X.here.setHeapUsed s₂.heap s₂.slotsUsed).setVm hW'.alike, X.tail, State.WarmedH.trans X.warmed hW', X.limits, X.bytes, X.same.trans (hsame.setVm s.vm)⟩,
      ⟨g, mk, s₂, L, E, ce, rfl, rfl, hx, hce, hcv, hcl, rfl, hL, rfl, rfl⟩, ?_⟩
    show Steps p.tables e below _ (((({ U with heap := s₂.heap, slotsUsed := s₂.slotsUsed } : State).setVm s₂.vm).setTop g).pushFrame (.throwing q))
    rw [← hs₂]
    exact hsteps
end
variable {p : Program} {l : Launch} {e : Env} {R : Room} {s : State} {m : MethodId} {args : Array Value} {below : List Frame} {meth : Method} {c : Code} {T : State} {H : Heap} {locs : List Loc} {cells slots : Nat}
theorem vx_callVX (X : Stand p l e R s m args below meth c T locs cells slots) (hexec : p.tables.exec = Jvm.exec) {own C : String} {index : Nat} {y : MethodName} {bytes : ByteArray} {maxL : Nat} {ret : Option FieldType} {hh : List (Nat × Nat × Nat × Nat)}
    (hown : s.vm.findClass own = some m.cls) (hlink : (Cond.methodLink own index y).before args s = true) (hinst : (Cond.instanceMethod y).before args s = true) (hsel : (Cond.selects C y y).before args s = true)
    (hcode : (Cond.codeWith y bytes maxL ret hh).before args s = true) (hy : y.cls ≠ "java/lang/invoke/MethodHandle" ∧ y.cls ≠ "java/lang/invoke/VarHandle")
    {W9 : Nat} {Pre : Pt → Array Value → Prop} {Post : Pt → Array Value → Option Value → Pt → Prop} {PostX : Pt → Array Value → Addr → Pt → Prop} (hK : vx_Back l R p e below s args y 3 W9 Pre Post PostX)
    {b : Addr} {cellB : Cell} (hcell : T.heap[b]? = some cellB) (hobj : cellB.vm.isStatics = false) (hcls : s.vm.findClass C = some cellB.cls)
    {g : JFrame} (hg : g.method = m) (hsize : g.locals.size = c.maxLocals) {argsL rest : List Value} (hlen : ∀ sig, parseMethodDescriptor y.desc = some sig → argsL.length = sig.parameters.length)
    (hstack : g.stack = argsL.reverse ++ .ref b :: rest) (hW : 2 * g.monitorRoom + (rest.map fun v => v.category).sum ≤ W9) (hdg : decode c.code g.pc = .ok (.invokevirtual index, 3))
    (hpre : ∀ vm₁, s.WarmedH vm₁ → Pre ⟨T.setVm vm₁, locs, cells, slots⟩ (Value.ref b :: argsL).toArray) :
    (∃ (v : Option Value) (vm₁ : Vm) (B : Pt), s.WarmedH vm₁ ∧ Stand p l e R s m args below meth c B.U B.locs B.cells B.slots ∧ Post ⟨T.setVm vm₁, locs, cells, slots⟩ (Value.ref b :: argsL).toArray v B ∧
      ∀ target, Steps p.tables e below (B.U.setTop { g with pc := g.pc + 3, stack := v.toList ++ rest }) target → Steps p.tables e below (T.setTop g) target) ∨
    (∃ (q : Addr) (vm₁ : Vm) (B : Pt), s.WarmedH vm₁ ∧ Stand p l e R s m args below meth c B.U B.locs B.cells B.slots ∧ PostX ⟨T.setVm vm₁, locs, cells, slots⟩ (Value.ref b :: argsL).toArray q B ∧
      Steps p.tables e below (T.setTop g) ((B.U.setTop { g with stack := rest }).pushFrame (.throwing q))) := by
  obtain ⟨mk, methM, hnamed, hmethM, hstM, habM⟩ := Cond.instanceMethod_spec hinst
  obtain ⟨m8, methM', cM, hn8, hmethM', -, -, -, -, -, -, hsigM⟩ := Cond.codeWith_spec hcode
  cases Option.some.inj (hn8.symm.trans hnamed)
  cases hmethM.symm.trans hmethM'
  obtain ⟨c2, r2, m2, q1, q2, q3, q4, kP, hkP, hkPi⟩ := Cond.selects_spec hsel
  cases hcls.symm.trans q1
  cases (State.methodFound?_of_named hnamed hy).symm.trans q2
  cases hnamed.symm.trans q3
  have hselP : selectMethod e.platform s.vm cellB.cls mk = .method mk := by rw [Launch.admits_selectMethod X.admits]; exact q4
  obtain ⟨vm₁, X₁, hstep₁⟩ := X.invokevirtual hexec hown hlink hnamed hmethM hstM hkP hkPi hy (a := b) (cell := cellB) hcell
    (fun z h => by rw [h] at hobj; cases hobj) hselP hmethM habM hkP hkPi (g := g) hg (argsL := argsL) (rest := rest) (hlen _ hsigM) hstack hdg
  rcases hK m meth c ⟨T.setVm vm₁, locs, cells, slots⟩ { g with stack := rest } (.invokevirtual index) mk (Value.ref b :: argsL).toArray X₁ hg hsize hdg hW (X₁.named hnamed) (hpre vm₁ X₁.warmed) with ⟨v, B, X', hpost, hsteps⟩ | ⟨q, B, X', hpost, hsteps⟩
  · exact Or.inl ⟨v, vm₁, B, X₁.warmed, X', hpost, fun target h => hstep₁ _ fun acts => by rw [doInvoke_state]; exact hsteps.trans h⟩
  · exact Or.inr ⟨q, vm₁, B, X₁.warmed, X', hpost, hstep₁ _ fun acts => by rw [doInvoke_state]; exact hsteps⟩
theorem vx_callSX (X : Stand p l e R s m args below meth c T locs cells slots) (hexec : p.tables.exec = Jvm.exec) {own : String} {index : Nat} {y : MethodName} {bytes : ByteArray} {maxL : Nat} {ret : Option FieldType} {hh : List (Nat × Nat × Nat × Nat)}
    (hown : s.vm.findClass own = some m.cls) (hlink : (Cond.methodLink own index y).before args s = true) (hstat : (Cond.static y).before args s = true) (hinit : (Cond.initialized y.cls).before args s = true)
    (hcode : (Cond.codeWith y bytes maxL ret hh).before args s = true) (hy : y.cls ≠ "java/lang/invoke/MethodHandle" ∧ y.cls ≠ "java/lang/invoke/VarHandle")
    {W9 : Nat} {Pre : Pt → Array Value → Prop} {Post : Pt → Array Value → Option Value → Pt → Prop} {PostX : Pt → Array Value → Addr → Pt → Prop} (hK : vx_Back l R p e below s args y 3 W9 Pre Post PostX)
    {g : JFrame} (hg : g.method = m) (hsize : g.locals.size = c.maxLocals) {argsL rest : List Value} (hlen : ∀ sig, parseMethodDescriptor y.desc = some sig → argsL.length = sig.parameters.length)
    (hstack : g.stack = argsL.reverse ++ rest) (hW : 2 * g.monitorRoom + (rest.map fun v => v.category).sum ≤ W9) (hdg : decode c.code g.pc = .ok (.invokestatic index, 3))
    (hpre : ∀ vm₁, s.WarmedH vm₁ → Pre ⟨T.setVm vm₁, locs, cells, slots⟩ argsL.toArray) :
    (∃ (v : Option Value) (vm₁ : Vm) (B : Pt), s.WarmedH vm₁ ∧ Stand p l e R s m args below meth c B.U B.locs B.cells B.slots ∧ Post ⟨T.setVm vm₁, locs, cells, slots⟩ argsL.toArray v B ∧
      ∀ target, Steps p.tables e below (B.U.setTop { g with pc := g.pc + 3, stack := v.toList ++ rest }) target → Steps p.tables e below (T.setTop g) target) ∨
    (∃ (q : Addr) (vm₁ : Vm) (B : Pt), s.WarmedH vm₁ ∧ Stand p l e R s m args below meth c B.U B.locs B.cells B.slots ∧ PostX ⟨T.setVm vm₁, locs, cells, slots⟩ argsL.toArray q B ∧
      Steps p.tables e below (T.setTop g) ((B.U.setTop { g with stack := rest }).pushFrame (.throwing q))) := by
  obtain ⟨mk, methM, cM, hnamed, hmethM, -, -, -, -, -, -, hsigM⟩ := Cond.codeWith_spec hcode
  have hstatic : methM.isStatic = true := Cond.static_spec hnamed hmethM hstat
  obtain ⟨kP, hkP, -⟩ := className_of_methodNamed hnamed
  have hinitP : kP.init = .initialized := Cond.initialized_spec (findClass_of_methodNamed hnamed) hkP hinit
  obtain ⟨vm₁, X₁, hstep₁⟩ := X.invokestatic hexec hown hlink hnamed hmethM hstatic hkP hinitP hy (g := g) hg (argsL := argsL) (rest := rest) (hlen _ hsigM) hstack hdg
  rcases hK m meth c ⟨T.setVm vm₁, locs, cells, slots⟩ { g with stack := rest } (.invokestatic index) mk argsL.toArray X₁ hg hsize hdg hW (X₁.named hnamed) (hpre vm₁ X₁.warmed) with ⟨v, B, X', hpost, hsteps⟩ | ⟨q, B, X', hpost, hsteps⟩
  · exact Or.inl ⟨v, vm₁, B, X₁.warmed, X', hpost, fun target h => hstep₁ _ fun acts => by rw [doInvoke_state]; exact hsteps.trans h⟩
  · exact Or.inr ⟨q, vm₁, B, X₁.warmed, X', hpost, hstep₁ _ fun acts => by rw [doInvoke_state]; exact hsteps⟩
theorem vx_callVW (X : Stand p l e R s m args below meth c T locs cells slots) (hexec : p.tables.exec = Jvm.exec) {own C : String} {index : Nat} {y : MethodName} {bytes : ByteArray} {maxL : Nat} {ret : Option FieldType} {hh : List (Nat × Nat × Nat × Nat)}
    (hown : s.vm.findClass own = some m.cls) (hlink : (Cond.methodLink own index y).before args s = true) (hinst : (Cond.instanceMethod y).before args s = true) (hsel : (Cond.selects C y y).before args s = true)
    (hcode : (Cond.codeWith y bytes maxL ret hh).before args s = true) (hy : y.cls ≠ "java/lang/invoke/MethodHandle" ∧ y.cls ≠ "java/lang/invoke/VarHandle")
    {W9 : Nat} {Pre : Pt → Array Value → Prop} {Post : Pt → Array Value → Option Value → Pt → Prop} (hK : Back l R p e below s args y 3 W9 Pre Post)
    {b : Addr} {cellB : Cell} (hcell : T.heap[b]? = some cellB) (hobj : cellB.vm.isStatics = false) (hcls : s.vm.findClass C = some cellB.cls)
    {g : JFrame} (hg : g.method = m) (hsize : g.locals.size = c.maxLocals) {argsL rest : List Value} (hlen : ∀ sig, parseMethodDescriptor y.desc = some sig → argsL.length = sig.parameters.length)
    (hstack : g.stack = argsL.reverse ++ .ref b :: rest) (hW : 2 * g.monitorRoom + (rest.map fun v => v.category).sum ≤ W9) (hdg : decode c.code g.pc = .ok (.invokevirtual index, 3))
    (hpre : ∀ vm₁, s.WarmedH vm₁ → Pre ⟨T.setVm vm₁, locs, cells, slots⟩ (Value.ref b :: argsL).toArray) :
    ∃ (v : Option Value) (vm₁ : Vm) (B : Pt), s.WarmedH vm₁ ∧ Stand p l e R s m args below meth c B.U B.locs B.cells B.slots ∧ Post ⟨T.setVm vm₁, locs, cells, slots⟩ (Value.ref b :: argsL).toArray v B ∧
      ∀ target, Steps p.tables e below (B.U.setTop { g with pc := g.pc + 3, stack := v.toList ++ rest }) target → Steps p.tables e below (T.setTop g) target := by
  obtain ⟨mk, methM, hnamed, hmethM, hstM, habM⟩ := Cond.instanceMethod_spec hinst
  obtain ⟨m8, methM', cM, hn8, hmethM', -, -, -, -, -, -, hsigM⟩ := Cond.codeWith_spec hcode
  cases Option.some.inj (hn8.symm.trans hnamed)
  cases hmethM.symm.trans hmethM'
  obtain ⟨c2, r2, m2, q1, q2, q3, q4, kP, hkP, hkPi⟩ := Cond.selects_spec hsel
  cases hcls.symm.trans q1
  cases (State.methodFound?_of_named hnamed hy).symm.trans q2
  cases hnamed.symm.trans q3
  have hselP : selectMethod e.platform s.vm cellB.cls mk = .method mk := by rw [Launch.admits_selectMethod X.admits]; exact q4
  obtain ⟨vm₁, X₁, hstep₁⟩ := X.invokevirtual hexec hown hlink hnamed hmethM hstM hkP hkPi hy (a := b) (cell := cellB) hcell
    (fun z h => by rw [h] at hobj; cases hobj) hselP hmethM habM hkP hkPi (g := g) hg (argsL := argsL) (rest := rest) (hlen _ hsigM) hstack hdg
  obtain ⟨v, B, X', hpost, hsteps⟩ := hK m meth c ⟨T.setVm vm₁, locs, cells, slots⟩ { g with stack := rest } (.invokevirtual index) mk (Value.ref b :: argsL).toArray X₁ hg hsize hdg hW (X₁.named hnamed) (hpre vm₁ X₁.warmed)
  exact ⟨v, vm₁, B, X₁.warmed, X', hpost, fun target h => hstep₁ _ fun acts => by rw [doInvoke_state]; exact hsteps.trans h⟩
abbrev vx_CVW (R : Room) (s : State) (args : Array Value) (own C : String) (index : Nat) (y : MethodName) (bytes : ByteArray) (maxL : Nat) (ret : Option FieldType) (hh : List (Nat × Nat × Nat × Nat)) (ws : List Cond) (rm : Room) (mc ms n : Nat) : Prop :=
  (rm.cells = mc ∧ rm.slots = ms ∧ rm.frames + 1 ≤ R.frames ∧ 8 + (maxL + 11) + rm.locals ≤ R.locals ∧ (∀ w ∈ ws, ∀ (a' : Array Value) (U : State), s.WarmedH U.vm → w.before a' U = true) ∧ Cond.codeWith y bytes maxL ret hh ∈ ws) ∧
  (Cond.codeWith y bytes maxL ret hh).before args s = true ∧ (Cond.initialized y.cls).before args s = true ∧ (y.cls ≠ "java/lang/invoke/MethodHandle" ∧ y.cls ≠ "java/lang/invoke/VarHandle") ∧
  (∀ sig, parseMethodDescriptor y.desc = some sig → n = sig.parameters.length) ∧ (Cond.methodLink own index y).before args s = true ∧ (Cond.instanceMethod y).before args s = true ∧ (Cond.selects C y y).before args s = true
theorem vx_cwVW {own C : String} {index maxL mc ms : Nat} {y : MethodName} {bytes : ByteArray} {ret : Option FieldType} {hh : List (Nat × Nat × Nat × Nat)} {Ts ws ws' : List Cond} {rm : Room} (n : Nat) (ht : ∀ w ∈ Ts, w.before args s = true) (hT : GoodIn Ts (wsV own index C y ws)) (hw : ws = Cond.codeWith y bytes maxL ret hh :: ws') (hrc : rm.cells = mc) (hrs : rm.slots = ms)
    (hd : y.cls = C ∧ y.cls ≠ "java/lang/invoke/MethodHandle" ∧ y.cls ≠ "java/lang/invoke/VarHandle" ∧ (parseMethodDescriptor y.desc).map (fun d => d.parameters.length) = some n) (hR : rm.frames + 1 ≤ R.frames ∧ 8 + (maxL + 11) + rm.locals ≤ R.locals) :
    vx_CVW R s args own C index y bytes maxL ret hh ws rm mc ms n := by
  obtain ⟨hC, hd⟩ := hd
  subst hC
  have ok : ∀ w ∈ wsV own index y.cls y ws, w.before args s = true := fun w h => ht w (hT w h).1
  have hG : GoodIn Ts ws := fun w h => hT w (by unfold wsV; exact List.mem_append_right _ h)
  have hc : Cond.codeWith y bytes maxL ret hh ∈ ws := by rw [hw]; exact List.mem_cons_self
  refine ⟨⟨hrc, hrs, hR.1, hR.2, pay_in ht hG, hc⟩, ht _ (hG _ hc).1, ok _ (by simp [wsV]), ⟨hd.1, hd.2.1⟩, fun sig h => ?_, ok _ (by simp [wsV]), ok _ (by simp [wsV]), ok _ (by simp [wsV])⟩
  have h2 := hd.2.2
  rw [h] at h2
  exact (Option.some.inj h2).symm
theorem vx_runVW {y : MethodName} {bytes cc : ByteArray} {maxL nL mc ms n index : Nat} {ret : Option FieldType} {hh : List (Nat × Nat × Nat × Nat)} {ws : List Cond} {rm : Room} {Pc : Array Value → State → Prop} {Qc : Array Value → State → Outcome → State → Prop} {free : Addr → Prop} {Ts : List Cond} {own C : String} {b : Addr} {As rest : List Value} {g : JFrame}
    (S : CallFix p m c cc nL s args Ts own) (hM : Met l y ws rm Pc Qc mc ms free) (cw : vx_CVW R s args own C index y bytes maxL ret hh ws rm mc ms n) (hp : PreV s H C b Pc As)
    (hg : g.method = m) (hn : As.length = n) (hsize : g.locals.size = nL) (hstack : g.stack = As.reverse ++ .ref b :: rest) (hW : 2 * g.monitorRoom + (rest.map fun v => v.category).sum ≤ 8) (hdg : decode cc g.pc = .ok (.invokevirtual index, 3)) (hf : cells + mc ≤ R.cells ∧ slots + ms ≤ R.slots) :
    va_Run p l e R s m args below meth c H locs cells slots mc ms g rest (Qc (Value.ref b :: As).toArray) free := by
  obtain ⟨⟨hrc, hrs, hfr, hlo, hws, hcw⟩, hcode, hini, hy, hlen, hl, hin, hse⟩ := cw
  have hK : Back l R p e below s args y 3 8 (PreOf R mc ms Pc) (PostOf Qc mc ms free) := va_backW (hh := hh) (bytes := bytes) (maxL := maxL) (ret := ret) hM hp.1 hrc hrs hfr hlo hws hcw (fun a' U hW => word_at hW (Or.inl (by first | rfl | simp [Cond.onTables, Cond.keeps, Cond.steady])) hini)
  obtain ⟨hx, hb, hml, ho, -⟩ := S
  obtain ⟨-, ⟨cellB, hcB, hoB, hclB⟩, hPc⟩ := hp
  intro T hT X
  obtain ⟨v, vm₁, ⟨U', l2, c2, s2⟩, hW₁, X', ⟨g', mk, t, L, e1, e2, hq, h1, hL, h2, h3⟩, st⟩ := vx_callVW X hx (C := C) (hh := hh) (bytes := bytes) (maxL := maxL) (ret := ret) ho hl hin hse hcode hy hK (by rw [hT]; exact hcB) hoB hclB hg (hsize.trans hml.symm) (argsL := As) (rest := rest) (fun sig h => hn.trans (hlen sig h)) hstack hW (by rw [hb]; exact hdg)
    (fun vm₁ hW₁ => ⟨hf.1, hf.2, hPc (T.setVm vm₁) hT hW₁⟩)
  dsimp only [Pt.U, Pt.locs, Pt.cells, Pt.slots] at X' e1 e2 h1 h2 h3 st
  subst h1; subst h2; subst h3
  exact ⟨v, (T.setVm vm₁).calling g' mk (Value.ref b :: As).toArray, t, U', L, hT, X', hL, e1, e2, hq, st⟩
section
variable {y : MethodName} {bytes cc : ByteArray} {maxL nL mc ms n index : Nat} {ret : Option FieldType} {ws : List Cond} {rm : Room} {Pc : Array Value → State → Prop} {Qc : Array Value → State → Outcome → State → Prop} {XC : String → State → State → Prop} {free : Addr → Prop} {Ts : List Cond} {own C : String} {b : Addr} {As rest : List Value} {g : JFrame}
theorem vx_runVX {hh : List (Nat × Nat × Nat × Nat)} (S : CallFix p m c cc nL s args Ts own) (hM : vx_Met l y ws rm Pc Qc XC mc ms free) (cw : vx_CVW R s args own C index y bytes maxL ret hh ws rm mc ms n) (hp : PreV s H C b Pc As)
    (hg : g.method = m) (hn : As.length = n) (hsize : g.locals.size = nL) (hstack : g.stack = As.reverse ++ .ref b :: rest) (hW : 2 * g.monitorRoom + (rest.map fun v => v.category).sum ≤ 8) (hdg : decode cc g.pc = .ok (.invokevirtual index, 3)) (hf : cells + mc ≤ R.cells ∧ slots + ms ≤ R.slots) :
    vx_Run p l e R s m args below meth c H locs cells slots mc ms g rest (Qc (Value.ref b :: As).toArray) XC free := by
  obtain ⟨⟨hrc, hrs, hfr, hlo, hws, hcw⟩, hcode, hini, hy, hlen, hl, hin, hse⟩ := cw
  have hK : vx_Back l R p e below s args y 3 8 (PreOf R mc ms Pc) (PostOf Qc mc ms free) (vx_Post XC mc ms free) := vx_backW (hh := hh) (bytes := bytes) (maxL := maxL) (ret := ret) hM hp.1 hrc hrs hfr hlo hws hcw (fun a' U hW => word_at hW (Or.inl (by first | rfl | simp [Cond.onTables, Cond.keeps, Cond.steady])) hini)
  obtain ⟨hx, hb, hml, ho, -⟩ := S
  obtain ⟨-, ⟨cellB, hcB, hoB, hclB⟩, hPc⟩ := hp
  intro T hT X
  rcases vx_callVX X hx (C := C) (hh := hh) (bytes := bytes) (maxL := maxL) (ret := ret) ho hl hin hse hcode hy hK (by rw [hT]; exact hcB) hoB hclB hg (hsize.trans hml.symm) (argsL := As) (rest := rest) (fun sig h => hn.trans (hlen sig h)) hstack hW (by rw [hb]; exact hdg)
    (fun vm₁ hW₁ => ⟨hf.1, hf.2, hPc (T.setVm vm₁) hT hW₁⟩) with ⟨v, vm₁, ⟨U', l2, c2, s2⟩, hW₁, X', ⟨g', mk, t, L, e1, e2, hq, h1, hL, h2, h3⟩, st⟩ | ⟨q, vm₁, ⟨U', l2, c2, s2⟩, hW₁, X', ⟨g', mk, t, L, E, ce, e1, e2, hq, hce, hcv, hcl, h1, hL, h2, h3⟩, st⟩
  · dsimp only [Pt.U, Pt.locs, Pt.cells, Pt.slots] at X' e1 e2 h1 h2 h3 st
    subst h1; subst h2; subst h3
    exact Or.inl ⟨v, (T.setVm vm₁).calling g' mk (Value.ref b :: As).toArray, t, U', L, hT, X', hL, e1, e2, hq, st⟩
  · dsimp only [Pt.U, Pt.locs, Pt.cells, Pt.slots] at X' e1 e2 h1 h2 h3 st hcl
    subst h1; subst h2; subst h3
    exact Or.inr ⟨q, (T.setVm vm₁).calling g' mk (Value.ref b :: As).toArray, t, U', L, E, ce, hT, X', hL, e1, e2, hq, hce, hcv, vx_cls hW₁ hcl, st⟩
theorem vx_runSX {hh : List (Nat × Nat × Nat × Nat)} (S : CallFix p m c cc nL s args Ts own) (hM : vx_Met l y ws rm Pc Qc XC mc ms free) (cw : vx_CSW R s args own index y bytes maxL ret hh ws rm mc ms n) (hp : PreS s H Pc As)
    (hg : g.method = m) (hn : As.length = n) (hsize : g.locals.size = nL) (hstack : g.stack = As.reverse ++ rest) (hW : 2 * g.monitorRoom + (rest.map fun v => v.category).sum ≤ 8) (hdg : decode cc g.pc = .ok (.invokestatic index, 3)) (hf : cells + mc ≤ R.cells ∧ slots + ms ≤ R.slots) :
    vx_Run p l e R s m args below meth c H locs cells slots mc ms g rest (Qc As.toArray) XC free := by
  obtain ⟨⟨hrc, hrs, hfr, hlo, hws, hcw⟩, hcode, hini, hy, hlen, hl, hstt⟩ := cw
  have hK : vx_Back l R p e below s args y 3 8 (PreOf R mc ms Pc) (PostOf Qc mc ms free) (vx_Post XC mc ms free) := vx_backW (hh := hh) (bytes := bytes) (maxL := maxL) (ret := ret) hM hp.1 hrc hrs hfr hlo hws hcw (fun a' U hW => word_at hW (Or.inl (by first | rfl | simp [Cond.onTables, Cond.keeps, Cond.steady])) hini)
  obtain ⟨hx, hb, hml, ho, -⟩ := S
  intro T hT X
  rcases vx_callSX X hx (hh := hh) (bytes := bytes) (maxL := maxL) (ret := ret) ho hl hstt hini hcode hy hK hg (hsize.trans hml.symm) (argsL := As) (rest := rest) (fun sig h => hn.trans (hlen sig h)) hstack hW (by rw [hb]; exact hdg)
    (fun vm₁ hW₁ => ⟨hf.1, hf.2, hp.2 (T.setVm vm₁) hT hW₁⟩) with ⟨v, vm₁, ⟨U', l2, c2, s2⟩, hW₁, X', ⟨g', mk, t, L, e1, e2, hq, h1, hL, h2, h3⟩, st⟩ | ⟨q, vm₁, ⟨U', l2, c2, s2⟩, hW₁, X', ⟨g', mk, t, L, E, ce, e1, e2, hq, hce, hcv, hcl, h1, hL, h2, h3⟩, st⟩
  · dsimp only [Pt.U, Pt.locs, Pt.cells, Pt.slots] at X' e1 e2 h1 h2 h3 st
    subst h1; subst h2; subst h3
    exact Or.inl ⟨v, (T.setVm vm₁).calling g' mk As.toArray, t, U', L, hT, X', hL, e1, e2, hq, st⟩
  · dsimp only [Pt.U, Pt.locs, Pt.cells, Pt.slots] at X' e1 e2 h1 h2 h3 st hcl
    subst h1; subst h2; subst h3
    exact Or.inr ⟨q, (T.setVm vm₁).calling g' mk As.toArray, t, U', L, E, ce, hT, X', hL, e1, e2, hq, hce, hcv, vx_cls hW₁ hcl, st⟩
end
end VXH
theorem vx_ofWH {l : Launch} {y : MethodName} {ws ws' : List Cond} {rm : Room} {Pc : Array Value → State → Prop} {Qc : Array Value → State → Outcome → State → Prop} {XC : String → State → State → Prop} {mc ms : Nat} {free : Addr → Prop} {cc : ByteArray} {maxL : Nat} {ret : Option FieldType} {hh : List (Nat × Nat × Nat × Nat)}
    (hy : plainName y.cls = true) (hw : ws = Cond.codeWith y cc maxL ret hh :: ws')
    (body : ∀ p e s m args below meth c s₁, BodyLoose p l y (headSpec ws rm) cc maxL ret e s m args below meth c s₁ → c.maxLocals = maxL → Pc args s →
      W p l e (headSpec ws rm).room s m args below meth c s.heap [] 0 0 (vx_MQ below Qc XC args s mc ms free) (entryFrame m args maxL)) : vx_Met l y ws rm Pc Qc XC mc ms free := by
  refine MetFree.of_bodyS (code := cc) (maxLocals := maxL) (ret := ret) hy ?_ ?_
  · intro args s m h hn
    obtain ⟨m9, meth, c, hn9, h1, h2, h3, h4, -, h5, h6, -⟩ := Cond.codeWith_spec (atoms_spec (ws := ws) h _ (by rw [hw]; exact List.mem_cons_self))
    cases hn.symm.trans hn9
    exact ⟨meth, c, h1, h2, h3, h4, h5, h6⟩
  · intro p e s m args below meth c s₁ B hml hP _
    have hh0 : s₁.heap = s.heap := by rw [B.state]; rfl
    obtain ⟨t, a1, o, b1, b2, b3⟩ := body p e s m args below meth c s₁ B hml hP s₁ hh0 (Stand.of_body B)
    exact ⟨t, o, a1, b1, b2, b3⟩
/-! ===== END ===== -/
end
section
/-! ===== BEGIN printed: names, fields, word lists, decode rows ===== -/
def RX0 : String := "RobinRow$PlainRow"
def TX0 : u_T := fun k => match k with
  | 0 => ("RobinRow$PlainRow", "rising", "[I", true)
  | 1 => ("RobinRow$PlainRow", "taken", "[Z", true)
  | 2 => ("RobinRow$PlainRow", "total", "I", false)
  | _ => ("RobinRow$PlainRow", "longest", "I", false)
def tyX0 : Nat → FieldType := fun k => match k with
  | 0 => .array .int
  | 1 => .array .boolean
  | 2 => .int
  | _ => .int
abbrev wsX00 : List Cond := u_ws RX0 TX0 4
theorem nmX0 : ∀ a, a < 4 → ∀ b, b < 4 → a ≠ b → (TX0 a).2.1 ≠ (TX0 b).2.1 := by decide +kernel
theorem tyX0_ok : ∀ k, k < 4 → parseFieldDescriptor (TX0 k).2.2.1 = some (tyX0 k) := by decide +kernel
abbrev cX0_init : ByteArray := prog_2_method_1_code
def yX0_init : MethodName := ⟨RX0, "<init>", "()V"⟩
abbrev cX0_fillFrom : ByteArray := prog_2_method_2_code
def yX0_fillFrom : MethodName := ⟨RX0, "fillFrom", "(LRobinRow$Table;)V"⟩
abbrev cX0_sortByKeys : ByteArray := prog_2_method_3_code
def yX0_sortByKeys : MethodName := ⟨RX0, "sortByKeys", "(LRobinRow$Table;)I"⟩
abbrev cX0_takeFirstFree : ByteArray := prog_2_method_4_code
def yX0_takeFirstFree : MethodName := ⟨RX0, "takeFirstFree", "(LRobinRow$Table;I)I"⟩
def RX1 : String := "RobinRow$Search"
def TX1 : u_T := fun k => match k with
  | 0 => ("RobinRow$Search", "table", "LRobinRow$Table;", false)
  | 1 => ("RobinRow$Search", "slot", "I", false)
  | 2 => ("RobinRow$Search", "groups", "I", false)
  | _ => ("RobinRow$Search", "comparisons", "I", false)
def tyX1 : Nat → FieldType := fun k => match k with
  | 0 => .object "RobinRow$Table"
  | 1 => .int
  | 2 => .int
  | _ => .int
abbrev wsX10 : List Cond := u_ws RX1 TX1 4
theorem nmX1 : ∀ a, a < 4 → ∀ b, b < 4 → a ≠ b → (TX1 a).2.1 ≠ (TX1 b).2.1 := by decide +kernel
theorem tyX1_ok : ∀ k, k < 4 → parseFieldDescriptor (TX1 k).2.2.1 = some (tyX1 k) := by decide +kernel
abbrev cX1_init : ByteArray := prog_3_method_1_code
def yX1_init : MethodName := ⟨RX1, "<init>", "()V"⟩
abbrev cX1_begin : ByteArray := prog_3_method_2_code
def yX1_begin : MethodName := ⟨RX1, "begin", "()V"⟩
abbrev cX1_hasFound : ByteArray := prog_3_method_3_code
def yX1_hasFound : MethodName := ⟨RX1, "hasFound", "()Z"⟩
abbrev cX1_lookIn : ByteArray := prog_3_method_4_code
def yX1_lookIn : MethodName := ⟨RX1, "lookIn", "(LRobinRow$Table;II)V"⟩
abbrev cX1_lookAtGroup : ByteArray := prog_3_method_5_code
def yX1_lookAtGroup : MethodName := ⟨RX1, "lookAtGroup", "(LRobinRow$Table;III)Z"⟩
abbrev cX1_seekIn : ByteArray := prog_3_method_6_code
def yX1_seekIn : MethodName := ⟨RX1, "seekIn", "(LRobinRow$Table;J)V"⟩
def RX2 : String := "RobinRow$Sweep"
def TX2 : u_T := fun k => match k with
  | 0 => ("RobinRow$Sweep", "isOpen", "Z", false)
  | 1 => ("RobinRow$Sweep", "mayRemove", "Z", false)
  | 2 => ("RobinRow$Sweep", "met", "I", false)
  | 3 => ("RobinRow$Sweep", "key", "I", false)
  | _ => ("RobinRow$Sweep", "rank", "J", false)
def tyX2 : Nat → FieldType := fun k => match k with
  | 0 => .boolean
  | 1 => .boolean
  | 2 => .int
  | 3 => .int
  | _ => .long
abbrev wsX20 : List Cond := u_ws RX2 TX2 5
theorem nmX2 : ∀ a, a < 5 → ∀ b, b < 5 → a ≠ b → (TX2 a).2.1 ≠ (TX2 b).2.1 := by decide +kernel
theorem tyX2_ok : ∀ k, k < 5 → parseFieldDescriptor (TX2 k).2.2.1 = some (tyX2 k) := by decide +kernel
abbrev cX2_init : ByteArray := prog_4_method_1_code
def yX2_init : MethodName := ⟨RX2, "<init>", "()V"⟩
abbrev cX2_begin : ByteArray := prog_4_method_2_code
def yX2_begin : MethodName := ⟨RX2, "begin", "()V"⟩
abbrev cX2_meet : ByteArray := prog_4_method_3_code
def yX2_meet : MethodName := ⟨RX2, "meet", "(IJ)V"⟩
abbrev cX2_end : ByteArray := prog_4_method_4_code
def yX2_end : MethodName := ⟨RX2, "end", "()V"⟩
def RX3 : String := "RobinRow$Table"
def TX3 : u_T := fun k => match k with
  | 0 => ("RobinRow$Table", "controls", "[B", true)
  | 1 => ("RobinRow$Table", "hashes", "[I", true)
  | 2 => ("RobinRow$Table", "keys", "[I", true)
  | 3 => ("RobinRow$Table", "values", "[I", true)
  | 4 => ("RobinRow$Table", "slots", "I", false)
  | _ => ("RobinRow$Table", "count", "I", false)
def tyX3 : Nat → FieldType := fun k => match k with
  | 0 => .array .byte
  | 1 => .array .int
  | 2 => .array .int
  | 3 => .array .int
  | 4 => .int
  | _ => .int
abbrev wsX30 : List Cond := u_ws RX3 TX3 6
theorem nmX3 : ∀ a, a < 6 → ∀ b, b < 6 → a ≠ b → (TX3 a).2.1 ≠ (TX3 b).2.1 := by decide +kernel
theorem tyX3_ok : ∀ k, k < 6 → parseFieldDescriptor (TX3 k).2.2.1 = some (tyX3 k) := by decide +kernel
abbrev cX3_init : ByteArray := prog_5_method_1_code
def yX3_init : MethodName := ⟨RX3, "<init>", "(I)V"⟩
abbrev cX3_emptyWith : ByteArray := prog_5_method_2_code
def yX3_emptyWith : MethodName := ⟨RX3, "emptyWith", "(I)V"⟩
abbrev cX3_around : ByteArray := prog_5_method_3_code
def yX3_around : MethodName := ⟨RX3, "around", "(I)I"⟩
abbrev cX3_isEmptyIn : ByteArray := prog_5_method_4_code
def yX3_isEmptyIn : MethodName := ⟨RX3, "isEmptyIn", "(I)Z"⟩
abbrev cX3_controlIn : ByteArray := prog_5_method_5_code
def yX3_controlIn : MethodName := ⟨RX3, "controlIn", "(I)B"⟩
abbrev cX3_hashIn : ByteArray := prog_5_method_6_code
def yX3_hashIn : MethodName := ⟨RX3, "hashIn", "(I)I"⟩
abbrev cX3_keyIn : ByteArray := prog_5_method_7_code
def yX3_keyIn : MethodName := ⟨RX3, "keyIn", "(I)I"⟩
abbrev cX3_valueIn : ByteArray := prog_5_method_8_code
def yX3_valueIn : MethodName := ⟨RX3, "valueIn", "(I)I"⟩
abbrev cX3_distanceIn : ByteArray := prog_5_method_9_code
def yX3_distanceIn : MethodName := ⟨RX3, "distanceIn", "(I)I"⟩
abbrev cX3_rankIn : ByteArray := prog_5_method_10_code
def yX3_rankIn : MethodName := ⟨RX3, "rankIn", "(I)J"⟩
abbrev cX3_exchangeValue : ByteArray := prog_5_method_11_code
def yX3_exchangeValue : MethodName := ⟨RX3, "exchangeValue", "(II)I"⟩
abbrev cX3_lowestSlotWithKey : ByteArray := prog_5_method_12_code
def yX3_lowestSlotWithKey : MethodName := ⟨RX3, "lowestSlotWithKey", "()I"⟩
abbrev cX3_carryIn : ByteArray := prog_5_method_13_code
def yX3_carryIn : MethodName := ⟨RX3, "carryIn", "(III)V"⟩
abbrev cX3_displacedBy : ByteArray := prog_5_method_14_code
def yX3_displacedBy : MethodName := ⟨RX3, "displacedBy", "(I)I"⟩
abbrev cX3_takeOut : ByteArray := prog_5_method_15_code
def yX3_takeOut : MethodName := ⟨RX3, "takeOut", "(I)V"⟩
abbrev cX3_fill : ByteArray := prog_5_method_16_code
def yX3_fill : MethodName := ⟨RX3, "fill", "(IIII)V"⟩
def RX4 : String := "RobinRow"
def TX4 : u_T := fun k => match k with
  | 0 => ("RobinRow", "sweeps", "[LRobinRow$Sweep;", true)
  | 1 => ("RobinRow", "search", "LRobinRow$Search;", true)
  | 2 => ("RobinRow", "plainRow", "LRobinRow$PlainRow;", true)
  | 3 => ("RobinRow", "present", "LRobinRow$Table;", false)
  | 4 => ("RobinRow", "old", "LRobinRow$Table;", false)
  | 5 => ("RobinRow", "way", "I", false)
  | _ => ("RobinRow", "begunMoves", "I", false)
def tyX4 : Nat → FieldType := fun k => match k with
  | 0 => .array (.object "RobinRow$Sweep")
  | 1 => .object "RobinRow$Search"
  | 2 => .object "RobinRow$PlainRow"
  | 3 => .object "RobinRow$Table"
  | 4 => .object "RobinRow$Table"
  | 5 => .int
  | _ => .int
abbrev wsX40 : List Cond := u_ws RX4 TX4 7
theorem nmX4 : ∀ a, a < 7 → ∀ b, b < 7 → a ≠ b → (TX4 a).2.1 ≠ (TX4 b).2.1 := by decide +kernel
theorem tyX4_ok : ∀ k, k < 7 → parseFieldDescriptor (TX4 k).2.2.1 = some (tyX4 k) := by decide +kernel
abbrev cX4_init : ByteArray := prog_1_method_1_code
def yX4_init : MethodName := ⟨RX4, "<init>", "()V"⟩
abbrev cX4_clear : ByteArray := prog_1_method_2_code
def yX4_clear : MethodName := ⟨RX4, "clear", "(I)V"⟩
abbrev cX4_put : ByteArray := prog_1_method_3_code
def yX4_put : MethodName := ⟨RX4, "put", "(II)I"⟩
abbrev cX4_get : ByteArray := prog_1_method_4_code
def yX4_get : MethodName := ⟨RX4, "get", "(I)I"⟩
abbrev cX4_remove : ByteArray := prog_1_method_5_code
def yX4_remove : MethodName := ⟨RX4, "remove", "(I)I"⟩
abbrev cX4_move : ByteArray := prog_1_method_6_code
def yX4_move : MethodName := ⟨RX4, "move", "()I"⟩
abbrev cX4_size : ByteArray := prog_1_method_7_code
def yX4_size : MethodName := ⟨RX4, "size", "()I"⟩
abbrev cX4_moves : ByteArray := prog_1_method_8_code
def yX4_moves : MethodName := ⟨RX4, "moves", "()I"⟩
abbrev cX4_openSweep : ByteArray := prog_1_method_9_code
def yX4_openSweep : MethodName := ⟨RX4, "openSweep", "()I"⟩
abbrev cX4_hasNext : ByteArray := prog_1_method_10_code
def yX4_hasNext : MethodName := ⟨RX4, "hasNext", "(I)Z"⟩
abbrev cX4_next : ByteArray := prog_1_method_11_code
def yX4_next : MethodName := ⟨RX4, "next", "(I)I"⟩
abbrev cX4_removeMet : ByteArray := prog_1_method_12_code
def yX4_removeMet : MethodName := ⟨RX4, "removeMet", "(I)I"⟩
abbrev cX4_closeSweep : ByteArray := prog_1_method_13_code
def yX4_closeSweep : MethodName := ⟨RX4, "closeSweep", "(I)I"⟩
abbrev cX4_hash : ByteArray := prog_1_method_14_code
def yX4_hash : MethodName := ⟨RX4, "hash", "(I)I"⟩
abbrev cX4_slots : ByteArray := prog_1_method_15_code
def yX4_slots : MethodName := ⟨RX4, "slots", "(I)I"⟩
abbrev cX4_keysIn : ByteArray := prog_1_method_16_code
def yX4_keysIn : MethodName := ⟨RX4, "keysIn", "(I)I"⟩
abbrev cX4_control : ByteArray := prog_1_method_17_code
def yX4_control : MethodName := ⟨RX4, "control", "(II)B"⟩
abbrev cX4_keyAt : ByteArray := prog_1_method_18_code
def yX4_keyAt : MethodName := ⟨RX4, "keyAt", "(II)I"⟩
abbrev cX4_distanceAt : ByteArray := prog_1_method_19_code
def yX4_distanceAt : MethodName := ⟨RX4, "distanceAt", "(II)I"⟩
abbrev cX4_longest : ByteArray := prog_1_method_20_code
def yX4_longest : MethodName := ⟨RX4, "longest", "()I"⟩
abbrev cX4_total : ByteArray := prog_1_method_21_code
def yX4_total : MethodName := ⟨RX4, "total", "()I"⟩
abbrev cX4_groups : ByteArray := prog_1_method_22_code
def yX4_groups : MethodName := ⟨RX4, "groups", "(I)I"⟩
abbrev cX4_comparisons : ByteArray := prog_1_method_23_code
def yX4_comparisons : MethodName := ⟨RX4, "comparisons", "(I)I"⟩
abbrev cX4_displaced : ByteArray := prog_1_method_24_code
def yX4_displaced : MethodName := ⟨RX4, "displaced", "(I)I"⟩
abbrev cX4_plainTotal : ByteArray := prog_1_method_25_code
def yX4_plainTotal : MethodName := ⟨RX4, "plainTotal", "()I"⟩
abbrev cX4_plainLongest : ByteArray := prog_1_method_26_code
def yX4_plainLongest : MethodName := ⟨RX4, "plainLongest", "()I"⟩
abbrev cX4_tableOf : ByteArray := prog_1_method_27_code
def yX4_tableOf : MethodName := ⟨RX4, "tableOf", "(I)LRobinRow$Table;"⟩
abbrev cX4_tableWithSlot : ByteArray := prog_1_method_28_code
def yX4_tableWithSlot : MethodName := ⟨RX4, "tableWithSlot", "(II)LRobinRow$Table;"⟩
abbrev cX4_sweepOf : ByteArray := prog_1_method_29_code
def yX4_sweepOf : MethodName := ⟨RX4, "sweepOf", "(I)LRobinRow$Sweep;"⟩
abbrev cX4_lookUp : ByteArray := prog_1_method_30_code
def yX4_lookUp : MethodName := ⟨RX4, "lookUp", "(I)V"⟩
abbrev cX4_seekBehind : ByteArray := prog_1_method_31_code
def yX4_seekBehind : MethodName := ⟨RX4, "seekBehind", "(J)V"⟩
abbrev cX4_putNew : ByteArray := prog_1_method_32_code
def yX4_putNew : MethodName := ⟨RX4, "putNew", "(II)V"⟩
abbrev cX4_beginMove : ByteArray := prog_1_method_33_code
def yX4_beginMove : MethodName := ⟨RX4, "beginMove", "()V"⟩
abbrev cX4_moveSlice : ByteArray := prog_1_method_34_code
def yX4_moveSlice : MethodName := ⟨RX4, "moveSlice", "()I"⟩
abbrev cX4_endMoveIfOldIsEmpty : ByteArray := prog_1_method_35_code
def yX4_endMoveIfOldIsEmpty : MethodName := ⟨RX4, "endMoveIfOldIsEmpty", "()V"⟩
def RX5 : String := "RobinRowModel"
def TX5 : u_T := fun k => match k with
  | 0 => ("RobinRowModel", "keys", "[I", true)
  | 1 => ("RobinRowModel", "values", "[I", true)
  | 2 => ("RobinRowModel", "isFull", "[Z", true)
  | 3 => ("RobinRowModel", "slots", "[I", true)
  | 4 => ("RobinRowModel", "many", "[I", true)
  | 5 => ("RobinRowModel", "present", "I", false)
  | 6 => ("RobinRowModel", "way", "I", false)
  | 7 => ("RobinRowModel", "moves", "I", false)
  | 8 => ("RobinRowModel", "isOpen", "[Z", true)
  | 9 => ("RobinRowModel", "last", "[J", true)
  | 10 => ("RobinRowModel", "lastKey", "[I", true)
  | 11 => ("RobinRowModel", "isTaken", "[Z", true)
  | 12 => ("RobinRowModel", "met", "[I", true)
  | 13 => ("RobinRowModel", "plainFull", "[Z", true)
  | 14 => ("RobinRowModel", "plainMost", "I", false)
  | 15 => ("RobinRowModel", "plainSum", "I", false)
  | _ => ("RobinRowModel", "thrown", "I", false)
def tyX5 : Nat → FieldType := fun k => match k with
  | 0 => .array .int
  | 1 => .array .int
  | 2 => .array .boolean
  | 3 => .array .int
  | 4 => .array .int
  | 5 => .int
  | 6 => .int
  | 7 => .int
  | 8 => .array .boolean
  | 9 => .array .long
  | 10 => .array .int
  | 11 => .array .boolean
  | 12 => .array .int
  | 13 => .array .boolean
  | 14 => .int
  | 15 => .int
  | _ => .int
abbrev wsX50 : List Cond := u_ws RX5 TX5 17
theorem nmX5 : ∀ a, a < 17 → ∀ b, b < 17 → a ≠ b → (TX5 a).2.1 ≠ (TX5 b).2.1 := by decide +kernel
theorem tyX5_ok : ∀ k, k < 17 → parseFieldDescriptor (TX5 k).2.2.1 = some (tyX5 k) := by decide +kernel
abbrev cX5_init : ByteArray := prog_7_method_1_code
def yX5_init : MethodName := ⟨RX5, "<init>", "()V"⟩
abbrev cX5_thrown : ByteArray := prog_7_method_2_code
def yX5_thrown : MethodName := ⟨RX5, "thrown", "()I"⟩
abbrev cX5_in : ByteArray := prog_7_method_3_code
def yX5_in : MethodName := ⟨RX5, "in", "(III)Z"⟩
abbrev cX5_isFine : ByteArray := prog_7_method_4_code
def yX5_isFine : MethodName := ⟨RX5, "isFine", "(I)Z"⟩
abbrev cX5_hashOf : ByteArray := prog_7_method_5_code
def yX5_hashOf : MethodName := ⟨RX5, "hashOf", "(I)I"⟩
abbrev cX5_home : ByteArray := prog_7_method_6_code
def yX5_home : MethodName := ⟨RX5, "home", "(II)I"⟩
abbrev cX5_distance : ByteArray := prog_7_method_7_code
def yX5_distance : MethodName := ⟨RX5, "distance", "(II)I"⟩
abbrev cX5_slotOf : ByteArray := prog_7_method_8_code
def yX5_slotOf : MethodName := ⟨RX5, "slotOf", "(II)I"⟩
abbrev cX5_carries : ByteArray := prog_7_method_9_code
def yX5_carries : MethodName := ⟨RX5, "carries", "(IIIZ)I"⟩
abbrev cX5_takes : ByteArray := prog_7_method_10_code
def yX5_takes : MethodName := ⟨RX5, "takes", "(II)V"⟩
abbrev cX5_slice : ByteArray := prog_7_method_11_code
def yX5_slice : MethodName := ⟨RX5, "slice", "()I"⟩
abbrev cX5_clear : ByteArray := prog_7_method_12_code
def yX5_clear : MethodName := ⟨RX5, "clear", "(I)V"⟩
abbrev cX5_isThere : ByteArray := prog_7_method_13_code
def yX5_isThere : MethodName := ⟨RX5, "isThere", "(I)Z"⟩
abbrev cX5_placeOf : ByteArray := prog_7_method_14_code
def yX5_placeOf : MethodName := ⟨RX5, "placeOf", "(I)I"⟩
abbrev cX5_put : ByteArray := prog_7_method_15_code
def yX5_put : MethodName := ⟨RX5, "put", "(II)I"⟩
abbrev cX5_get : ByteArray := prog_7_method_16_code
def yX5_get : MethodName := ⟨RX5, "get", "(I)I"⟩
abbrev cX5_removes : ByteArray := prog_7_method_17_code
def yX5_removes : MethodName := ⟨RX5, "removes", "(I)I"⟩
abbrev cX5_remove : ByteArray := prog_7_method_18_code
def yX5_remove : MethodName := ⟨RX5, "remove", "(I)I"⟩
abbrev cX5_move : ByteArray := prog_7_method_19_code
def yX5_move : MethodName := ⟨RX5, "move", "()I"⟩
abbrev cX5_size : ByteArray := prog_7_method_20_code
def yX5_size : MethodName := ⟨RX5, "size", "()I"⟩
abbrev cX5_moves : ByteArray := prog_7_method_21_code
def yX5_moves : MethodName := ⟨RX5, "moves", "()I"⟩
abbrev cX5_orderOf : ByteArray := prog_7_method_22_code
def yX5_orderOf : MethodName := ⟨RX5, "orderOf", "(I)J"⟩
abbrev cX5_behind : ByteArray := prog_7_method_23_code
def yX5_behind : MethodName := ⟨RX5, "behind", "(J)I"⟩
abbrev cX5_openSweep : ByteArray := prog_7_method_24_code
def yX5_openSweep : MethodName := ⟨RX5, "openSweep", "()I"⟩
abbrev cX5_isSweep : ByteArray := prog_7_method_25_code
def yX5_isSweep : MethodName := ⟨RX5, "isSweep", "(I)Z"⟩
abbrev cX5_hasNext : ByteArray := prog_7_method_26_code
def yX5_hasNext : MethodName := ⟨RX5, "hasNext", "(I)Z"⟩
abbrev cX5_next : ByteArray := prog_7_method_27_code
def yX5_next : MethodName := ⟨RX5, "next", "(I)I"⟩
abbrev cX5_removeMet : ByteArray := prog_7_method_28_code
def yX5_removeMet : MethodName := ⟨RX5, "removeMet", "(I)I"⟩
abbrev cX5_closeSweep : ByteArray := prog_7_method_29_code
def yX5_closeSweep : MethodName := ⟨RX5, "closeSweep", "(I)I"⟩
abbrev cX5_hash : ByteArray := prog_7_method_30_code
def yX5_hash : MethodName := ⟨RX5, "hash", "(I)I"⟩
abbrev cX5_tableOf : ByteArray := prog_7_method_31_code
def yX5_tableOf : MethodName := ⟨RX5, "tableOf", "(I)I"⟩
abbrev cX5_slots : ByteArray := prog_7_method_32_code
def yX5_slots : MethodName := ⟨RX5, "slots", "(I)I"⟩
abbrev cX5_keysIn : ByteArray := prog_7_method_33_code
def yX5_keysIn : MethodName := ⟨RX5, "keysIn", "(I)I"⟩
abbrev cX5_isSlot : ByteArray := prog_7_method_34_code
def yX5_isSlot : MethodName := ⟨RX5, "isSlot", "(II)Z"⟩
abbrev cX5_controlOf : ByteArray := prog_7_method_35_code
def yX5_controlOf : MethodName := ⟨RX5, "controlOf", "(II)B"⟩
abbrev cX5_control : ByteArray := prog_7_method_36_code
def yX5_control : MethodName := ⟨RX5, "control", "(II)B"⟩
abbrev cX5_keyAt : ByteArray := prog_7_method_37_code
def yX5_keyAt : MethodName := ⟨RX5, "keyAt", "(II)I"⟩
abbrev cX5_distanceAt : ByteArray := prog_7_method_38_code
def yX5_distanceAt : MethodName := ⟨RX5, "distanceAt", "(II)I"⟩
abbrev cX5_longest : ByteArray := prog_7_method_39_code
def yX5_longest : MethodName := ⟨RX5, "longest", "()I"⟩
abbrev cX5_total : ByteArray := prog_7_method_40_code
def yX5_total : MethodName := ⟨RX5, "total", "()I"⟩
abbrev cX5_looks : ByteArray := prog_7_method_41_code
def yX5_looks : MethodName := ⟨RX5, "looks", "(II)I"⟩
abbrev cX5_looksBoth : ByteArray := prog_7_method_42_code
def yX5_looksBoth : MethodName := ⟨RX5, "looksBoth", "(I)I"⟩
abbrev cX5_groups : ByteArray := prog_7_method_43_code
def yX5_groups : MethodName := ⟨RX5, "groups", "(I)I"⟩
abbrev cX5_comparisons : ByteArray := prog_7_method_44_code
def yX5_comparisons : MethodName := ⟨RX5, "comparisons", "(I)I"⟩
abbrev cX5_displaced : ByteArray := prog_7_method_45_code
def yX5_displaced : MethodName := ⟨RX5, "displaced", "(I)I"⟩
abbrev cX5_plain : ByteArray := prog_7_method_46_code
def yX5_plain : MethodName := ⟨RX5, "plain", "()V"⟩
abbrev cX5_plainTotal : ByteArray := prog_7_method_47_code
def yX5_plainTotal : MethodName := ⟨RX5, "plainTotal", "()I"⟩
abbrev cX5_plainLongest : ByteArray := prog_7_method_48_code
def yX5_plainLongest : MethodName := ⟨RX5, "plainLongest", "()I"⟩
def RJ6 : String := "java/lang/Integer"
def TJ6 : u_T := fun k => match k with
  | _ => ("", "", "", false)
def tyJ6 : Nat → FieldType := fun k => match k with
  | _ => .int
abbrev wsJ60 : List Cond := u_ws RJ6 TJ6 0
theorem nmJ6 : ∀ a, a < 0 → ∀ b, b < 0 → a ≠ b → (TJ6 a).2.1 ≠ (TJ6 b).2.1 := by decide +kernel
theorem tyJ6_ok : ∀ k, k < 0 → parseFieldDescriptor (TJ6 k).2.2.1 = some (tyJ6 k) := by decide +kernel
abbrev cJ6_toUnsignedLong_3e8ac : ByteArray := prog_12_method_42_code
def yJ6_toUnsignedLong_3e8ac : MethodName := ⟨RJ6, "toUnsignedLong", "(I)J"⟩
abbrev cJ6_reverse_0f7a4 : ByteArray := prog_12_method_52_code
def yJ6_reverse_0f7a4 : MethodName := ⟨RJ6, "reverse", "(I)I"⟩
abbrev cJ6_reverseBytes_0f7a4 : ByteArray := prog_12_method_57_code
def yJ6_reverseBytes_0f7a4 : MethodName := ⟨RJ6, "reverseBytes", "(I)I"⟩
def RJ9 : String := "java/lang/Math"
def TJ9 : u_T := fun k => match k with
  | _ => ("", "", "", false)
def tyJ9 : Nat → FieldType := fun k => match k with
  | _ => .int
abbrev wsJ90 : List Cond := u_ws RJ9 TJ9 0
theorem nmJ9 : ∀ a, a < 0 → ∀ b, b < 0 → a ≠ b → (TJ9 a).2.1 ≠ (TJ9 b).2.1 := by decide +kernel
theorem tyJ9_ok : ∀ k, k < 0 → parseFieldDescriptor (TJ9 k).2.2.1 = some (tyJ9 k) := by decide +kernel
abbrev cJ9_max_7cf53 : ByteArray := prog_13_method_65_code
def yJ9_max_7cf53 : MethodName := ⟨RJ9, "max", "(II)I"⟩
abbrev cJ9_min_7cf53 : ByteArray := prog_13_method_69_code
def yJ9_min_7cf53 : MethodName := ⟨RJ9, "min", "(II)I"⟩
def RJ0 : String := "java/lang/String"
def TJ0 : u_T := fun k => match k with
  | _ => ("", "", "", false)
def tyJ0 : Nat → FieldType := fun k => match k with
  | _ => .int
abbrev wsJ00 : List Cond := u_ws RJ0 TJ0 0
theorem nmJ0 : ∀ a, a < 0 → ∀ b, b < 0 → a ≠ b → (TJ0 a).2.1 ≠ (TJ0 b).2.1 := by decide +kernel
theorem tyJ0_ok : ∀ k, k < 0 → parseFieldDescriptor (TJ0 k).2.2.1 = some (tyJ0 k) := by decide +kernel
def RL : String := "RobinRowLaw"
abbrev cL_clear : ByteArray := method_3_code
def yL_clear : MethodName := ⟨RL, "clear", "(LRobinRow;I)I"⟩
abbrev cL_put : ByteArray := method_4_code
def yL_put : MethodName := ⟨RL, "put", "(LRobinRow;II[J)I"⟩
abbrev cL_openSweep : ByteArray := method_5_code
def yL_openSweep : MethodName := ⟨RL, "openSweep", "(LRobinRow;[J)I"⟩
abbrev cL_hasNext : ByteArray := method_6_code
def yL_hasNext : MethodName := ⟨RL, "hasNext", "(LRobinRow;I[J)I"⟩
abbrev cL_next : ByteArray := method_7_code
def yL_next : MethodName := ⟨RL, "next", "(LRobinRow;I[J)I"⟩
abbrev cL_removeMet : ByteArray := method_8_code
def yL_removeMet : MethodName := ⟨RL, "removeMet", "(LRobinRow;I[J)I"⟩
abbrev cL_closeSweep : ByteArray := method_9_code
def yL_closeSweep : MethodName := ⟨RL, "closeSweep", "(LRobinRow;I[J)I"⟩
abbrev cL_slots : ByteArray := method_10_code
def yL_slots : MethodName := ⟨RL, "slots", "(LRobinRow;I[J)I"⟩
abbrev cL_keysIn : ByteArray := method_11_code
def yL_keysIn : MethodName := ⟨RL, "keysIn", "(LRobinRow;I[J)I"⟩
abbrev cL_control : ByteArray := method_12_code
def yL_control : MethodName := ⟨RL, "control", "(LRobinRow;II[J)I"⟩
abbrev cL_keyAt : ByteArray := method_13_code
def yL_keyAt : MethodName := ⟨RL, "keyAt", "(LRobinRow;II[J)I"⟩
abbrev cL_distanceAt : ByteArray := method_14_code
def yL_distanceAt : MethodName := ⟨RL, "distanceAt", "(LRobinRow;II[J)I"⟩
abbrev cL_displaced : ByteArray := method_15_code
def yL_displaced : MethodName := ⟨RL, "displaced", "(LRobinRow;I[J)I"⟩
abbrev cL_law : ByteArray := code
def yL_law : MethodName := ⟨RL, "law", "([I)Z"⟩
def wsX0_init : List Cond := .code yX0_init cX0_init 1 none :: ([.methodLink RX0 3 objectInit, .instanceMethod objectInit, .code objectInit ⟨#[0xb1]⟩ 1 none, .arrayClass .int, .fieldLink RX0 9 "RobinRow$PlainRow" "rising" "[I", .arrayClass .boolean, .fieldLink RX0 15 "RobinRow$PlainRow" "taken" "[Z"] ++ wsX00)
def wsX3_isEmptyIn : List Cond := .code yX3_isEmptyIn cX3_isEmptyIn 2 (some .boolean) :: ([.fieldLink RX3 9 "RobinRow$Table" "controls" "[B"] ++ wsX30)
def wsX3_keyIn : List Cond := .code yX3_keyIn cX3_keyIn 2 (some .int) :: ([.fieldLink RX3 19 "RobinRow$Table" "keys" "[I"] ++ wsX30)
def wsX0_sortByKeys : List Cond := .code yX0_sortByKeys cX0_sortByKeys 5 (some .int) :: ([.fieldLink RX0 9 "RobinRow$PlainRow" "rising" "[I", .methodLink RX0 49 yX3_isEmptyIn, .instanceMethod yX3_isEmptyIn, .selects RX3 yX3_isEmptyIn yX3_isEmptyIn, .initialized RX3, .code yX3_isEmptyIn cX3_isEmptyIn 2 (some .boolean), .fieldLink RX3 9 "RobinRow$Table" "controls" "[B", .methodLink RX0 53 yX3_keyIn, .instanceMethod yX3_keyIn, .selects RX3 yX3_keyIn yX3_keyIn, .code yX3_keyIn cX3_keyIn 2 (some .int), .fieldLink RX3 19 "RobinRow$Table" "keys" "[I"] ++ wsX30 ++ wsX00)
def wsX3_hashIn : List Cond := .code yX3_hashIn cX3_hashIn 2 (some .int) :: ([.fieldLink RX3 15 "RobinRow$Table" "hashes" "[I"] ++ wsX30)
def wsX3_around : List Cond := .code yX3_around cX3_around 2 (some .int) :: ([.fieldLink RX3 35 "RobinRow$Table" "slots" "I"] ++ wsX30)
def wsX0_takeFirstFree : List Cond := .code yX0_takeFirstFree cX0_takeFirstFree 4 (some .int) :: ([.fieldLink RX0 15 "RobinRow$PlainRow" "taken" "[Z", .methodLink RX0 56 yX3_around, .instanceMethod yX3_around, .selects RX3 yX3_around yX3_around, .initialized RX3, .code yX3_around cX3_around 2 (some .int), .fieldLink RX3 35 "RobinRow$Table" "slots" "I"] ++ wsX30 ++ wsX00)
def wsX0_fillFrom_r1 : List Cond := [Cond.fieldLink RX0 19 "RobinRow$PlainRow" "total" "I", Cond.fieldLink RX0 23 "RobinRow$PlainRow" "longest" "I", Cond.fieldLink RX0 15 "RobinRow$PlainRow" "taken" "[Z", Cond.fieldLink RX0 9 "RobinRow$PlainRow" "rising" "[I", Cond.methodLink RX0 40 Lib.Math.max.name, Cond.static Lib.Math.max.name, Cond.initialized "java/lang/Math", Cond.code Lib.Math.max.name Lib.Math.max.code 2 (some .int), Cond.methodLink RX0 26 yX0_sortByKeys, Cond.instanceMethod yX0_sortByKeys, Cond.selects RX0 yX0_sortByKeys yX0_sortByKeys, Cond.initialized RX0, Cond.code yX0_sortByKeys cX0_sortByKeys 5 (some .int), Cond.methodLink RX0 49 yX3_isEmptyIn, Cond.instanceMethod yX3_isEmptyIn, Cond.selects RX3 yX3_isEmptyIn yX3_isEmptyIn, Cond.initialized RX3, Cond.code yX3_isEmptyIn cX3_isEmptyIn 2 (some .boolean), Cond.fieldLink RX3 9 "RobinRow$Table" "controls" "[B", Cond.methodLink RX0 53 yX3_keyIn, Cond.instanceMethod yX3_keyIn, Cond.selects RX3 yX3_keyIn yX3_keyIn, Cond.code yX3_keyIn cX3_keyIn 2 (some .int), Cond.fieldLink RX3 19 "RobinRow$Table" "keys" "[I"]
def wsX0_fillFrom_r2 : List Cond := [Cond.methodLink RX0 30 yX3_hashIn, Cond.instanceMethod yX3_hashIn, Cond.selects RX3 yX3_hashIn yX3_hashIn, Cond.code yX3_hashIn cX3_hashIn 2 (some .int), Cond.fieldLink RX3 15 "RobinRow$Table" "hashes" "[I", Cond.methodLink RX0 36 yX0_takeFirstFree, Cond.instanceMethod yX0_takeFirstFree, Cond.selects RX0 yX0_takeFirstFree yX0_takeFirstFree, Cond.code yX0_takeFirstFree cX0_takeFirstFree 4 (some .int), Cond.methodLink RX0 56 yX3_around, Cond.instanceMethod yX3_around, Cond.selects RX3 yX3_around yX3_around, Cond.code yX3_around cX3_around 2 (some .int), Cond.fieldLink RX3 35 "RobinRow$Table" "slots" "I"]
def wsX0_fillFrom : List Cond := .code yX0_fillFrom cX0_fillFrom 5 none :: ((wsX0_fillFrom_r1 ++ wsX0_fillFrom_r2) ++ wsX00 ++ wsX30)
def wsX1_init : List Cond := .code yX1_init cX1_init 1 none :: ([.methodLink RX1 3 objectInit, .instanceMethod objectInit, .code objectInit ⟨#[0xb1]⟩ 1 none])
def wsX1_begin : List Cond := .code yX1_begin cX1_begin 1 none :: ([.fieldLink RX1 9 "RobinRow$Search" "table" "LRobinRow$Table;", .fieldLink RX1 15 "RobinRow$Search" "groups" "I", .fieldLink RX1 19 "RobinRow$Search" "comparisons" "I"] ++ wsX10)
def wsX1_hasFound : List Cond := .code yX1_hasFound cX1_hasFound 1 (some .boolean) :: ([.fieldLink RX1 9 "RobinRow$Search" "table" "LRobinRow$Table;"] ++ wsX10)
def wsX3_controlIn : List Cond := .code yX3_controlIn cX3_controlIn 2 (some .byte) :: ([.fieldLink RX3 9 "RobinRow$Table" "controls" "[B"] ++ wsX30)
def wsX1_lookAtGroup_r1 : List Cond := [Cond.fieldLink RX1 19 "RobinRow$Search" "comparisons" "I", Cond.fieldLink RX1 9 "RobinRow$Search" "table" "LRobinRow$Table;", Cond.fieldLink RX1 50 "RobinRow$Search" "slot" "I", Cond.methodLink RX1 31 yX1_hasFound, Cond.instanceMethod yX1_hasFound, Cond.selects RX1 yX1_hasFound yX1_hasFound, Cond.initialized RX1, Cond.code yX1_hasFound cX1_hasFound 1 (some .boolean), Cond.methodLink RX1 35 yX3_around, Cond.instanceMethod yX3_around, Cond.selects RX3 yX3_around yX3_around, Cond.initialized RX3, Cond.code yX3_around cX3_around 2 (some .int), Cond.fieldLink RX3 35 "RobinRow$Table" "slots" "I", Cond.methodLink RX1 39 yX3_isEmptyIn, Cond.instanceMethod yX3_isEmptyIn, Cond.selects RX3 yX3_isEmptyIn yX3_isEmptyIn, Cond.code yX3_isEmptyIn cX3_isEmptyIn 2 (some .boolean), Cond.fieldLink RX3 9 "RobinRow$Table" "controls" "[B", Cond.methodLink RX1 43 yX3_controlIn, Cond.instanceMethod yX3_controlIn, Cond.selects RX3 yX3_controlIn yX3_controlIn, Cond.code yX3_controlIn cX3_controlIn 2 (some .byte), Cond.methodLink RX1 47 yX3_keyIn]
def wsX1_lookAtGroup_r2 : List Cond := [Cond.instanceMethod yX3_keyIn, Cond.selects RX3 yX3_keyIn yX3_keyIn, Cond.code yX3_keyIn cX3_keyIn 2 (some .int), Cond.fieldLink RX3 19 "RobinRow$Table" "keys" "[I"]
def wsX1_lookAtGroup : List Cond := .code yX1_lookAtGroup cX1_lookAtGroup 8 (some .boolean) :: ((wsX1_lookAtGroup_r1 ++ wsX1_lookAtGroup_r2) ++ wsX10 ++ wsX30)
def wsX1_lookIn_r1 : List Cond := [Cond.fieldLink RX1 15 "RobinRow$Search" "groups" "I", Cond.methodLink RX1 27 yX1_lookAtGroup, Cond.instanceMethod yX1_lookAtGroup, Cond.selects RX1 yX1_lookAtGroup yX1_lookAtGroup, Cond.initialized RX1, Cond.code yX1_lookAtGroup cX1_lookAtGroup 8 (some .boolean), Cond.fieldLink RX1 19 "RobinRow$Search" "comparisons" "I", Cond.fieldLink RX1 9 "RobinRow$Search" "table" "LRobinRow$Table;", Cond.fieldLink RX1 50 "RobinRow$Search" "slot" "I", Cond.methodLink RX1 31 yX1_hasFound, Cond.instanceMethod yX1_hasFound, Cond.selects RX1 yX1_hasFound yX1_hasFound, Cond.code yX1_hasFound cX1_hasFound 1 (some .boolean), Cond.methodLink RX1 35 yX3_around, Cond.instanceMethod yX3_around, Cond.selects RX3 yX3_around yX3_around, Cond.initialized RX3, Cond.code yX3_around cX3_around 2 (some .int), Cond.fieldLink RX3 35 "RobinRow$Table" "slots" "I", Cond.methodLink RX1 39 yX3_isEmptyIn, Cond.instanceMethod yX3_isEmptyIn, Cond.selects RX3 yX3_isEmptyIn yX3_isEmptyIn, Cond.code yX3_isEmptyIn cX3_isEmptyIn 2 (some .boolean), Cond.fieldLink RX3 9 "RobinRow$Table" "controls" "[B"]
def wsX1_lookIn_r2 : List Cond := [Cond.methodLink RX1 43 yX3_controlIn, Cond.instanceMethod yX3_controlIn, Cond.selects RX3 yX3_controlIn yX3_controlIn, Cond.code yX3_controlIn cX3_controlIn 2 (some .byte), Cond.methodLink RX1 47 yX3_keyIn, Cond.instanceMethod yX3_keyIn, Cond.selects RX3 yX3_keyIn yX3_keyIn, Cond.code yX3_keyIn cX3_keyIn 2 (some .int), Cond.fieldLink RX3 19 "RobinRow$Table" "keys" "[I"]
def wsX1_lookIn : List Cond := .code yX1_lookIn cX1_lookIn 7 none :: ((wsX1_lookIn_r1 ++ wsX1_lookIn_r2) ++ wsX30 ++ wsX10)
def wsJ6_reverseBytes_0f7a4 : List Cond := .code yJ6_reverseBytes_0f7a4 cJ6_reverseBytes_0f7a4 1 (some .int) :: ([.constant RJ6 274 (65280)])
def wsJ6_reverse_0f7a4 : List Cond := .code yJ6_reverse_0f7a4 cJ6_reverse_0f7a4 1 (some .int) :: ([.constant RJ6 265 (1431655765), .constant RJ6 266 (858993459), .constant RJ6 267 (252645135), .methodLink RJ6 268 yJ6_reverseBytes_0f7a4, .static yJ6_reverseBytes_0f7a4, .initialized RJ6, .code yJ6_reverseBytes_0f7a4 cJ6_reverseBytes_0f7a4 1 (some .int), .constant RJ6 274 (65280)])
def wsJ6_toUnsignedLong_3e8ac : List Cond := .code yJ6_toUnsignedLong_3e8ac cJ6_toUnsignedLong_3e8ac 1 (some .long) :: ([.constantLong RJ6 262 (4294967295)])
def wsX3_rankIn : List Cond := .code yX3_rankIn cX3_rankIn 2 (some .long) :: ([.fieldLink RX3 15 "RobinRow$Table" "hashes" "[I", .methodLink RX3 50 yJ6_reverse_0f7a4, .static yJ6_reverse_0f7a4, .initialized RJ6, .code yJ6_reverse_0f7a4 cJ6_reverse_0f7a4 1 (some .int), .constant RJ6 265 (1431655765), .constant RJ6 266 (858993459), .constant RJ6 267 (252645135), .methodLink RJ6 268 yJ6_reverseBytes_0f7a4, .static yJ6_reverseBytes_0f7a4, .code yJ6_reverseBytes_0f7a4 cJ6_reverseBytes_0f7a4 1 (some .int), .constant RJ6 274 (65280), .methodLink RX3 55 yJ6_toUnsignedLong_3e8ac, .static yJ6_toUnsignedLong_3e8ac, .code yJ6_toUnsignedLong_3e8ac cJ6_toUnsignedLong_3e8ac 1 (some .long), .constantLong RJ6 262 (4294967295)] ++ wsX30)
def wsX1_seekIn_r1 : List Cond := [Cond.fieldLink RX1 9 "RobinRow$Search" "table" "LRobinRow$Table;", Cond.fieldLink RX1 50 "RobinRow$Search" "slot" "I", Cond.methodLink RX1 39 yX3_isEmptyIn, Cond.instanceMethod yX3_isEmptyIn, Cond.selects RX3 yX3_isEmptyIn yX3_isEmptyIn, Cond.initialized RX3, Cond.code yX3_isEmptyIn cX3_isEmptyIn 2 (some .boolean), Cond.fieldLink RX3 9 "RobinRow$Table" "controls" "[B", Cond.methodLink RX1 53 yX3_rankIn, Cond.instanceMethod yX3_rankIn, Cond.selects RX3 yX3_rankIn yX3_rankIn, Cond.code yX3_rankIn cX3_rankIn 2 (some .long), Cond.fieldLink RX3 15 "RobinRow$Table" "hashes" "[I", Cond.methodLink RX3 50 yJ6_reverse_0f7a4, Cond.static yJ6_reverse_0f7a4, Cond.initialized RJ6, Cond.code yJ6_reverse_0f7a4 cJ6_reverse_0f7a4 1 (some .int), Cond.constant RJ6 265 (1431655765), Cond.constant RJ6 266 (858993459), Cond.constant RJ6 267 (252645135), Cond.methodLink RJ6 268 yJ6_reverseBytes_0f7a4, Cond.static yJ6_reverseBytes_0f7a4, Cond.code yJ6_reverseBytes_0f7a4 cJ6_reverseBytes_0f7a4 1 (some .int), Cond.constant RJ6 274 (65280)]
def wsX1_seekIn_r2 : List Cond := [Cond.methodLink RX3 55 yJ6_toUnsignedLong_3e8ac, Cond.static yJ6_toUnsignedLong_3e8ac, Cond.code yJ6_toUnsignedLong_3e8ac cJ6_toUnsignedLong_3e8ac 1 (some .long), Cond.constantLong RJ6 262 (4294967295), Cond.methodLink RX1 31 yX1_hasFound, Cond.instanceMethod yX1_hasFound, Cond.selects RX1 yX1_hasFound yX1_hasFound, Cond.initialized RX1, Cond.code yX1_hasFound cX1_hasFound 1 (some .boolean)]
def wsX1_seekIn : List Cond := .code yX1_seekIn cX1_seekIn 5 none :: ((wsX1_seekIn_r1 ++ wsX1_seekIn_r2) ++ wsX30 ++ wsX10)
def wsX2_init : List Cond := .code yX2_init cX2_init 1 none :: ([.methodLink RX2 3 objectInit, .instanceMethod objectInit, .code objectInit ⟨#[0xb1]⟩ 1 none])
def wsX2_begin : List Cond := .code yX2_begin cX2_begin 1 none :: ([.fieldLink RX2 9 "RobinRow$Sweep" "isOpen" "Z", .fieldLink RX2 15 "RobinRow$Sweep" "mayRemove" "Z", .fieldLink RX2 18 "RobinRow$Sweep" "met" "I", .constantLong RX2 22 (-1), .fieldLink RX2 24 "RobinRow$Sweep" "rank" "J"] ++ wsX20)
def wsX2_meet : List Cond := .code yX2_meet cX2_meet 4 none :: ([.fieldLink RX2 15 "RobinRow$Sweep" "mayRemove" "Z", .fieldLink RX2 18 "RobinRow$Sweep" "met" "I", .fieldLink RX2 28 "RobinRow$Sweep" "key" "I", .fieldLink RX2 24 "RobinRow$Sweep" "rank" "J"] ++ wsX20)
def wsX2_end : List Cond := .code yX2_end cX2_end 1 none :: ([.fieldLink RX2 9 "RobinRow$Sweep" "isOpen" "Z"] ++ wsX20)
def wsX3_emptyWith : List Cond := .code yX3_emptyWith cX3_emptyWith 3 none :: ([.methodLink RX3 29 Lib.Math.min.name, .static Lib.Math.min.name, .initialized "java/lang/Math", .code Lib.Math.min.name Lib.Math.min.code 2 (some .int), .fieldLink RX3 35 "RobinRow$Table" "slots" "I", .fieldLink RX3 39 "RobinRow$Table" "count" "I", .fieldLink RX3 9 "RobinRow$Table" "controls" "[B"] ++ wsX30)
def wsX3_init : List Cond := .code yX3_init cX3_init 2 none :: ([.methodLink RX3 3 objectInit, .instanceMethod objectInit, .code objectInit ⟨#[0xb1]⟩ 1 none, .arrayClass .byte, .fieldLink RX3 9 "RobinRow$Table" "controls" "[B", .arrayClass .int, .fieldLink RX3 15 "RobinRow$Table" "hashes" "[I", .fieldLink RX3 19 "RobinRow$Table" "keys" "[I", .fieldLink RX3 22 "RobinRow$Table" "values" "[I", .methodLink RX3 25 yX3_emptyWith, .instanceMethod yX3_emptyWith, .selects RX3 yX3_emptyWith yX3_emptyWith, .initialized RX3, .code yX3_emptyWith cX3_emptyWith 3 none, .methodLink RX3 29 Lib.Math.min.name, .static Lib.Math.min.name, .initialized "java/lang/Math", .code Lib.Math.min.name Lib.Math.min.code 2 (some .int), .fieldLink RX3 35 "RobinRow$Table" "slots" "I", .fieldLink RX3 39 "RobinRow$Table" "count" "I"] ++ wsX30)
def wsX3_valueIn : List Cond := .code yX3_valueIn cX3_valueIn 2 (some .int) :: ([.fieldLink RX3 22 "RobinRow$Table" "values" "[I"] ++ wsX30)
def wsX3_distanceIn : List Cond := .code yX3_distanceIn cX3_distanceIn 2 (some .int) :: ([.fieldLink RX3 15 "RobinRow$Table" "hashes" "[I", .methodLink RX3 42 yX3_isEmptyIn, .instanceMethod yX3_isEmptyIn, .selects RX3 yX3_isEmptyIn yX3_isEmptyIn, .initialized RX3, .code yX3_isEmptyIn cX3_isEmptyIn 2 (some .boolean), .fieldLink RX3 9 "RobinRow$Table" "controls" "[B", .methodLink RX3 46 yX3_around, .instanceMethod yX3_around, .selects RX3 yX3_around yX3_around, .code yX3_around cX3_around 2 (some .int), .fieldLink RX3 35 "RobinRow$Table" "slots" "I"] ++ wsX30)
def wsX3_exchangeValue : List Cond := .code yX3_exchangeValue cX3_exchangeValue 4 (some .int) :: ([.fieldLink RX3 22 "RobinRow$Table" "values" "[I"] ++ wsX30)
def wsX3_lowestSlotWithKey : List Cond := .code yX3_lowestSlotWithKey cX3_lowestSlotWithKey 2 (some .int) :: ([.fieldLink RX3 35 "RobinRow$Table" "slots" "I", .methodLink RX3 42 yX3_isEmptyIn, .instanceMethod yX3_isEmptyIn, .selects RX3 yX3_isEmptyIn yX3_isEmptyIn, .initialized RX3, .code yX3_isEmptyIn cX3_isEmptyIn 2 (some .boolean), .fieldLink RX3 9 "RobinRow$Table" "controls" "[B"] ++ wsX30)
def wsX3_fill : List Cond := .code yX3_fill cX3_fill 5 none :: ([.fieldLink RX3 9 "RobinRow$Table" "controls" "[B", .fieldLink RX3 15 "RobinRow$Table" "hashes" "[I", .fieldLink RX3 19 "RobinRow$Table" "keys" "[I", .fieldLink RX3 22 "RobinRow$Table" "values" "[I"] ++ wsX30)
def wsX3_carryIn : List Cond := .code yX3_carryIn cX3_carryIn 14 none :: ([.fieldLink RX3 35 "RobinRow$Table" "slots" "I", .fieldLink RX3 39 "RobinRow$Table" "count" "I", .fieldLink RX3 19 "RobinRow$Table" "keys" "[I", .fieldLink RX3 22 "RobinRow$Table" "values" "[I", .fieldLink RX3 15 "RobinRow$Table" "hashes" "[I", .methodLink RX3 46 yX3_around, .instanceMethod yX3_around, .selects RX3 yX3_around yX3_around, .initialized RX3, .code yX3_around cX3_around 2 (some .int), .methodLink RX3 59 yX3_distanceIn, .instanceMethod yX3_distanceIn, .selects RX3 yX3_distanceIn yX3_distanceIn, .code yX3_distanceIn cX3_distanceIn 2 (some .int), .methodLink RX3 42 yX3_isEmptyIn, .instanceMethod yX3_isEmptyIn, .selects RX3 yX3_isEmptyIn yX3_isEmptyIn, .code yX3_isEmptyIn cX3_isEmptyIn 2 (some .boolean), .fieldLink RX3 9 "RobinRow$Table" "controls" "[B", .methodLink RX3 62 yX3_fill, .instanceMethod yX3_fill, .selects RX3 yX3_fill yX3_fill, .code yX3_fill cX3_fill 5 none] ++ wsX30)
def wsX3_displacedBy : List Cond := .code yX3_displacedBy cX3_displacedBy 7 (some .int) :: ([.fieldLink RX3 35 "RobinRow$Table" "slots" "I", .methodLink RX3 46 yX3_around, .instanceMethod yX3_around, .selects RX3 yX3_around yX3_around, .initialized RX3, .code yX3_around cX3_around 2 (some .int), .methodLink RX3 59 yX3_distanceIn, .instanceMethod yX3_distanceIn, .selects RX3 yX3_distanceIn yX3_distanceIn, .code yX3_distanceIn cX3_distanceIn 2 (some .int), .fieldLink RX3 15 "RobinRow$Table" "hashes" "[I", .methodLink RX3 42 yX3_isEmptyIn, .instanceMethod yX3_isEmptyIn, .selects RX3 yX3_isEmptyIn yX3_isEmptyIn, .code yX3_isEmptyIn cX3_isEmptyIn 2 (some .boolean), .fieldLink RX3 9 "RobinRow$Table" "controls" "[B"] ++ wsX30)
def wsX3_takeOut : List Cond := .code yX3_takeOut cX3_takeOut 5 none :: ([.fieldLink RX3 35 "RobinRow$Table" "slots" "I", .fieldLink RX3 19 "RobinRow$Table" "keys" "[I", .fieldLink RX3 22 "RobinRow$Table" "values" "[I", .fieldLink RX3 15 "RobinRow$Table" "hashes" "[I", .fieldLink RX3 9 "RobinRow$Table" "controls" "[B", .fieldLink RX3 39 "RobinRow$Table" "count" "I", .methodLink RX3 46 yX3_around, .instanceMethod yX3_around, .selects RX3 yX3_around yX3_around, .initialized RX3, .code yX3_around cX3_around 2 (some .int), .methodLink RX3 59 yX3_distanceIn, .instanceMethod yX3_distanceIn, .selects RX3 yX3_distanceIn yX3_distanceIn, .code yX3_distanceIn cX3_distanceIn 2 (some .int), .methodLink RX3 42 yX3_isEmptyIn, .instanceMethod yX3_isEmptyIn, .selects RX3 yX3_isEmptyIn yX3_isEmptyIn, .code yX3_isEmptyIn cX3_isEmptyIn 2 (some .boolean), .methodLink RX3 62 yX3_fill, .instanceMethod yX3_fill, .selects RX3 yX3_fill yX3_fill, .code yX3_fill cX3_fill 5 none] ++ wsX30)
def wsX4_init_r1 : List Cond := [Cond.methodLink RX4 1 objectInit, Cond.instanceMethod objectInit, Cond.code objectInit ⟨#[0xb1]⟩ 1 none, Cond.classLink RX4 9 RX2, Cond.fieldLink RX4 11 "RobinRow" "sweeps" "[LRobinRow$Sweep;", Cond.classLink RX4 15 RX1, Cond.instantiable RX1 4, Cond.initialized RX1, Cond.fieldLink RX4 18 "RobinRow" "search" "LRobinRow$Search;", Cond.classLink RX4 22 RX0, Cond.instantiable RX0 4, Cond.initialized RX0, Cond.fieldLink RX4 25 "RobinRow" "plainRow" "LRobinRow$PlainRow;", Cond.classLink RX4 29 RX3, Cond.instantiable RX3 6, Cond.initialized RX3, Cond.fieldLink RX4 34 "RobinRow" "present" "LRobinRow$Table;", Cond.fieldLink RX4 38 "RobinRow" "old" "LRobinRow$Table;", Cond.instantiable RX2 5, Cond.initialized RX2, Cond.fieldLink RX4 42 "RobinRow" "way" "I", Cond.instanceMethod yX1_init, Cond.code yX1_init cX1_init 1 none, Cond.methodLink RX1 3 objectInit]
def wsX4_init_r2 : List Cond := [Cond.instanceMethod yX0_init, Cond.code yX0_init cX0_init 1 none, Cond.methodLink RX0 3 objectInit, Cond.arrayClass .int, Cond.fieldLink RX0 9 "RobinRow$PlainRow" "rising" "[I", Cond.arrayClass .boolean, Cond.fieldLink RX0 15 "RobinRow$PlainRow" "taken" "[Z", Cond.methodLink RX4 31 yX3_init, Cond.instanceMethod yX3_init, Cond.code yX3_init cX3_init 2 none, Cond.methodLink RX3 3 objectInit, Cond.arrayClass .byte, Cond.fieldLink RX3 9 "RobinRow$Table" "controls" "[B", Cond.fieldLink RX3 15 "RobinRow$Table" "hashes" "[I", Cond.fieldLink RX3 19 "RobinRow$Table" "keys" "[I", Cond.fieldLink RX3 22 "RobinRow$Table" "values" "[I", Cond.methodLink RX3 25 yX3_emptyWith, Cond.instanceMethod yX3_emptyWith, Cond.selects RX3 yX3_emptyWith yX3_emptyWith, Cond.code yX3_emptyWith cX3_emptyWith 3 none, Cond.methodLink RX3 29 Lib.Math.min.name, Cond.static Lib.Math.min.name, Cond.initialized "java/lang/Math", Cond.code Lib.Math.min.name Lib.Math.min.code 2 (some .int)]
def wsX4_init_r3 : List Cond := [Cond.fieldLink RX3 35 "RobinRow$Table" "slots" "I", Cond.fieldLink RX3 39 "RobinRow$Table" "count" "I", Cond.instanceMethod yX2_init, Cond.code yX2_init cX2_init 1 none, Cond.methodLink RX2 3 objectInit]
def wsX4_init : List Cond := .code yX4_init cX4_init 2 none :: ((wsX4_init_r1 ++ (wsX4_init_r2 ++ wsX4_init_r3)) ++ wsX40 ++ wsX10 ++ wsX00 ++ wsX30 ++ wsX20)
def wsX4_clear_r1 : List Cond := [Cond.classLink RX4 46 "java/lang/IllegalArgumentException", Cond.initialized "java/lang/IllegalArgumentException", Cond.fieldLink RX4 42 "RobinRow" "way" "I", Cond.fieldLink RX4 34 "RobinRow" "present" "LRobinRow$Table;", Cond.fieldLink RX4 38 "RobinRow" "old" "LRobinRow$Table;", Cond.fieldLink RX4 56 "RobinRow" "begunMoves" "I", Cond.fieldLink RX4 11 "RobinRow" "sweeps" "[LRobinRow$Sweep;", Cond.methodLink RX4 53 yX3_emptyWith, Cond.instanceMethod yX3_emptyWith, Cond.selects RX3 yX3_emptyWith yX3_emptyWith, Cond.initialized RX3, Cond.code yX3_emptyWith cX3_emptyWith 3 none, Cond.methodLink RX3 29 Lib.Math.min.name, Cond.static Lib.Math.min.name, Cond.initialized "java/lang/Math", Cond.code Lib.Math.min.name Lib.Math.min.code 2 (some .int), Cond.fieldLink RX3 35 "RobinRow$Table" "slots" "I", Cond.fieldLink RX3 39 "RobinRow$Table" "count" "I", Cond.fieldLink RX3 9 "RobinRow$Table" "controls" "[B", Cond.methodLink RX4 59 yX2_end, Cond.instanceMethod yX2_end, Cond.selects RX2 yX2_end yX2_end, Cond.initialized RX2, Cond.code yX2_end cX2_end 1 none]
def wsX4_clear_r2 : List Cond := [Cond.fieldLink RX2 9 "RobinRow$Sweep" "isOpen" "Z"]
def wsX4_clear : List Cond := .code yX4_clear cX4_clear 3 none :: ((wsX4_clear_r1 ++ wsX4_clear_r2) ++ wsX40 ++ wsX30 ++ wsX20 ++ (vx_atS RX4 50 "java/lang/IllegalArgumentException" ["java/lang/RuntimeException", "java/lang/Exception"]).filter goodWord)
def wsX4_size : List Cond := .code yX4_size cX4_size 1 (some .int) :: ([.fieldLink RX4 34 "RobinRow" "present" "LRobinRow$Table;", .fieldLink RX4 38 "RobinRow" "old" "LRobinRow$Table;"] ++ wsX40 ++ wsX30)
def wsX4_hash : List Cond := .code yX4_hash cX4_hash 3 (some .int) :: ([.fieldLink RX4 42 "RobinRow" "way" "I", .constant RX4 163 (-1640531535)] ++ wsX40)
def wsX4_lookUp_r1 : List Cond := [Cond.fieldLink RX4 18 "RobinRow" "search" "LRobinRow$Search;", Cond.fieldLink RX4 34 "RobinRow" "present" "LRobinRow$Table;", Cond.fieldLink RX4 38 "RobinRow" "old" "LRobinRow$Table;", Cond.methodLink RX4 199 yX4_hash, Cond.instanceMethod yX4_hash, Cond.selects RX4 yX4_hash yX4_hash, Cond.initialized RX4, Cond.code yX4_hash cX4_hash 3 (some .int), Cond.fieldLink RX4 42 "RobinRow" "way" "I", Cond.constant RX4 163 (-1640531535), Cond.methodLink RX4 202 yX1_begin, Cond.instanceMethod yX1_begin, Cond.selects RX1 yX1_begin yX1_begin, Cond.initialized RX1, Cond.code yX1_begin cX1_begin 1 none, Cond.fieldLink RX1 9 "RobinRow$Search" "table" "LRobinRow$Table;", Cond.fieldLink RX1 15 "RobinRow$Search" "groups" "I", Cond.fieldLink RX1 19 "RobinRow$Search" "comparisons" "I", Cond.methodLink RX4 203 yX1_lookIn, Cond.instanceMethod yX1_lookIn, Cond.selects RX1 yX1_lookIn yX1_lookIn, Cond.code yX1_lookIn cX1_lookIn 7 none, Cond.methodLink RX1 27 yX1_lookAtGroup, Cond.instanceMethod yX1_lookAtGroup]
def wsX4_lookUp_r2 : List Cond := [Cond.selects RX1 yX1_lookAtGroup yX1_lookAtGroup, Cond.code yX1_lookAtGroup cX1_lookAtGroup 8 (some .boolean), Cond.fieldLink RX1 50 "RobinRow$Search" "slot" "I", Cond.methodLink RX1 31 yX1_hasFound, Cond.instanceMethod yX1_hasFound, Cond.selects RX1 yX1_hasFound yX1_hasFound, Cond.code yX1_hasFound cX1_hasFound 1 (some .boolean), Cond.methodLink RX1 35 yX3_around, Cond.instanceMethod yX3_around, Cond.selects RX3 yX3_around yX3_around, Cond.initialized RX3, Cond.code yX3_around cX3_around 2 (some .int), Cond.fieldLink RX3 35 "RobinRow$Table" "slots" "I", Cond.methodLink RX1 39 yX3_isEmptyIn, Cond.instanceMethod yX3_isEmptyIn, Cond.selects RX3 yX3_isEmptyIn yX3_isEmptyIn, Cond.code yX3_isEmptyIn cX3_isEmptyIn 2 (some .boolean), Cond.fieldLink RX3 9 "RobinRow$Table" "controls" "[B", Cond.methodLink RX1 43 yX3_controlIn, Cond.instanceMethod yX3_controlIn, Cond.selects RX3 yX3_controlIn yX3_controlIn, Cond.code yX3_controlIn cX3_controlIn 2 (some .byte), Cond.methodLink RX1 47 yX3_keyIn, Cond.instanceMethod yX3_keyIn]
def wsX4_lookUp_r3 : List Cond := [Cond.selects RX3 yX3_keyIn yX3_keyIn, Cond.code yX3_keyIn cX3_keyIn 2 (some .int), Cond.fieldLink RX3 19 "RobinRow$Table" "keys" "[I", Cond.methodLink RX4 83 yX1_hasFound]
def wsX4_lookUp : List Cond := .code yX4_lookUp cX4_lookUp 3 none :: ((wsX4_lookUp_r1 ++ (wsX4_lookUp_r2 ++ wsX4_lookUp_r3)) ++ wsX40 ++ wsX10 ++ wsX30)
def wsX4_get_r1 : List Cond := [Cond.fieldLink RX4 18 "RobinRow" "search" "LRobinRow$Search;", Cond.methodLink RX4 80 yX4_lookUp, Cond.instanceMethod yX4_lookUp, Cond.selects RX4 yX4_lookUp yX4_lookUp, Cond.initialized RX4, Cond.code yX4_lookUp cX4_lookUp 3 none, Cond.fieldLink RX4 34 "RobinRow" "present" "LRobinRow$Table;", Cond.fieldLink RX4 38 "RobinRow" "old" "LRobinRow$Table;", Cond.methodLink RX4 199 yX4_hash, Cond.instanceMethod yX4_hash, Cond.selects RX4 yX4_hash yX4_hash, Cond.code yX4_hash cX4_hash 3 (some .int), Cond.fieldLink RX4 42 "RobinRow" "way" "I", Cond.constant RX4 163 (-1640531535), Cond.methodLink RX4 202 yX1_begin, Cond.instanceMethod yX1_begin, Cond.selects RX1 yX1_begin yX1_begin, Cond.initialized RX1, Cond.code yX1_begin cX1_begin 1 none, Cond.fieldLink RX1 9 "RobinRow$Search" "table" "LRobinRow$Table;", Cond.fieldLink RX1 15 "RobinRow$Search" "groups" "I", Cond.fieldLink RX1 19 "RobinRow$Search" "comparisons" "I", Cond.methodLink RX4 203 yX1_lookIn, Cond.instanceMethod yX1_lookIn]
def wsX4_get_r2 : List Cond := [Cond.selects RX1 yX1_lookIn yX1_lookIn, Cond.code yX1_lookIn cX1_lookIn 7 none, Cond.methodLink RX1 27 yX1_lookAtGroup, Cond.instanceMethod yX1_lookAtGroup, Cond.selects RX1 yX1_lookAtGroup yX1_lookAtGroup, Cond.code yX1_lookAtGroup cX1_lookAtGroup 8 (some .boolean), Cond.fieldLink RX1 50 "RobinRow$Search" "slot" "I", Cond.methodLink RX1 31 yX1_hasFound, Cond.instanceMethod yX1_hasFound, Cond.selects RX1 yX1_hasFound yX1_hasFound, Cond.code yX1_hasFound cX1_hasFound 1 (some .boolean), Cond.methodLink RX1 35 yX3_around, Cond.instanceMethod yX3_around, Cond.selects RX3 yX3_around yX3_around, Cond.initialized RX3, Cond.code yX3_around cX3_around 2 (some .int), Cond.fieldLink RX3 35 "RobinRow$Table" "slots" "I", Cond.methodLink RX1 39 yX3_isEmptyIn, Cond.instanceMethod yX3_isEmptyIn, Cond.selects RX3 yX3_isEmptyIn yX3_isEmptyIn, Cond.code yX3_isEmptyIn cX3_isEmptyIn 2 (some .boolean), Cond.fieldLink RX3 9 "RobinRow$Table" "controls" "[B", Cond.methodLink RX1 43 yX3_controlIn, Cond.instanceMethod yX3_controlIn]
def wsX4_get_r3 : List Cond := [Cond.selects RX3 yX3_controlIn yX3_controlIn, Cond.code yX3_controlIn cX3_controlIn 2 (some .byte), Cond.methodLink RX1 47 yX3_keyIn, Cond.instanceMethod yX3_keyIn, Cond.selects RX3 yX3_keyIn yX3_keyIn, Cond.code yX3_keyIn cX3_keyIn 2 (some .int), Cond.fieldLink RX3 19 "RobinRow$Table" "keys" "[I", Cond.methodLink RX4 83 yX1_hasFound, Cond.methodLink RX4 101 yX3_valueIn, Cond.instanceMethod yX3_valueIn, Cond.selects RX3 yX3_valueIn yX3_valueIn, Cond.code yX3_valueIn cX3_valueIn 2 (some .int), Cond.fieldLink RX3 22 "RobinRow$Table" "values" "[I"]
def wsX4_get : List Cond := .code yX4_get cX4_get 2 (some .int) :: ((wsX4_get_r1 ++ (wsX4_get_r2 ++ wsX4_get_r3)) ++ wsX40 ++ wsX10 ++ wsX30)
def wsX4_endMoveIfOldIsEmpty : List Cond := .code yX4_endMoveIfOldIsEmpty cX4_endMoveIfOldIsEmpty 1 none :: ([.fieldLink RX4 38 "RobinRow" "old" "LRobinRow$Table;", .methodLink RX4 53 yX3_emptyWith, .instanceMethod yX3_emptyWith, .selects RX3 yX3_emptyWith yX3_emptyWith, .initialized RX3, .code yX3_emptyWith cX3_emptyWith 3 none, .methodLink RX3 29 Lib.Math.min.name, .static Lib.Math.min.name, .initialized "java/lang/Math", .code Lib.Math.min.name Lib.Math.min.code 2 (some .int), .fieldLink RX3 35 "RobinRow$Table" "slots" "I", .fieldLink RX3 39 "RobinRow$Table" "count" "I", .fieldLink RX3 9 "RobinRow$Table" "controls" "[B"] ++ wsX40 ++ wsX30)
def wsX4_moveSlice_r1 : List Cond := [Cond.fieldLink RX4 38 "RobinRow" "old" "LRobinRow$Table;", Cond.fieldLink RX4 34 "RobinRow" "present" "LRobinRow$Table;", Cond.methodLink RX4 242 yX3_lowestSlotWithKey, Cond.instanceMethod yX3_lowestSlotWithKey, Cond.selects RX3 yX3_lowestSlotWithKey yX3_lowestSlotWithKey, Cond.initialized RX3, Cond.code yX3_lowestSlotWithKey cX3_lowestSlotWithKey 2 (some .int), Cond.fieldLink RX3 35 "RobinRow$Table" "slots" "I", Cond.methodLink RX3 42 yX3_isEmptyIn, Cond.instanceMethod yX3_isEmptyIn, Cond.selects RX3 yX3_isEmptyIn yX3_isEmptyIn, Cond.code yX3_isEmptyIn cX3_isEmptyIn 2 (some .boolean), Cond.fieldLink RX3 9 "RobinRow$Table" "controls" "[B", Cond.methodLink RX4 136 yX3_keyIn, Cond.instanceMethod yX3_keyIn, Cond.selects RX3 yX3_keyIn yX3_keyIn, Cond.code yX3_keyIn cX3_keyIn 2 (some .int), Cond.fieldLink RX3 19 "RobinRow$Table" "keys" "[I", Cond.methodLink RX4 101 yX3_valueIn, Cond.instanceMethod yX3_valueIn, Cond.selects RX3 yX3_valueIn yX3_valueIn, Cond.code yX3_valueIn cX3_valueIn 2 (some .int), Cond.fieldLink RX3 22 "RobinRow$Table" "values" "[I", Cond.methodLink RX4 245 yX3_hashIn]
def wsX4_moveSlice_r2 : List Cond := [Cond.instanceMethod yX3_hashIn, Cond.selects RX3 yX3_hashIn yX3_hashIn, Cond.code yX3_hashIn cX3_hashIn 2 (some .int), Cond.fieldLink RX3 15 "RobinRow$Table" "hashes" "[I", Cond.methodLink RX4 238 yX3_carryIn, Cond.instanceMethod yX3_carryIn, Cond.selects RX3 yX3_carryIn yX3_carryIn, Cond.code yX3_carryIn cX3_carryIn 14 none, Cond.fieldLink RX3 39 "RobinRow$Table" "count" "I", Cond.methodLink RX3 46 yX3_around, Cond.instanceMethod yX3_around, Cond.selects RX3 yX3_around yX3_around, Cond.code yX3_around cX3_around 2 (some .int), Cond.methodLink RX3 59 yX3_distanceIn, Cond.instanceMethod yX3_distanceIn, Cond.selects RX3 yX3_distanceIn yX3_distanceIn, Cond.code yX3_distanceIn cX3_distanceIn 2 (some .int), Cond.methodLink RX3 62 yX3_fill, Cond.instanceMethod yX3_fill, Cond.selects RX3 yX3_fill yX3_fill, Cond.code yX3_fill cX3_fill 5 none, Cond.methodLink RX4 104 yX3_takeOut, Cond.instanceMethod yX3_takeOut, Cond.selects RX3 yX3_takeOut yX3_takeOut]
def wsX4_moveSlice_r3 : List Cond := [Cond.code yX3_takeOut cX3_takeOut 5 none, Cond.methodLink RX4 107 yX4_endMoveIfOldIsEmpty, Cond.instanceMethod yX4_endMoveIfOldIsEmpty, Cond.selects RX4 yX4_endMoveIfOldIsEmpty yX4_endMoveIfOldIsEmpty, Cond.initialized RX4, Cond.code yX4_endMoveIfOldIsEmpty cX4_endMoveIfOldIsEmpty 1 none, Cond.methodLink RX4 53 yX3_emptyWith, Cond.instanceMethod yX3_emptyWith, Cond.selects RX3 yX3_emptyWith yX3_emptyWith, Cond.code yX3_emptyWith cX3_emptyWith 3 none, Cond.methodLink RX3 29 Lib.Math.min.name, Cond.static Lib.Math.min.name, Cond.initialized "java/lang/Math", Cond.code Lib.Math.min.name Lib.Math.min.code 2 (some .int)]
def wsX4_moveSlice : List Cond := .code yX4_moveSlice cX4_moveSlice 3 (some .int) :: ((wsX4_moveSlice_r1 ++ (wsX4_moveSlice_r2 ++ wsX4_moveSlice_r3)) ++ wsX40 ++ wsX30)
def wsX4_beginMove : List Cond := .code yX4_beginMove cX4_beginMove 2 none :: ([.fieldLink RX4 38 "RobinRow" "old" "LRobinRow$Table;", .fieldLink RX4 34 "RobinRow" "present" "LRobinRow$Table;", .fieldLink RX4 56 "RobinRow" "begunMoves" "I", .methodLink RX4 53 yX3_emptyWith, .instanceMethod yX3_emptyWith, .selects RX3 yX3_emptyWith yX3_emptyWith, .initialized RX3, .code yX3_emptyWith cX3_emptyWith 3 none, .methodLink RX3 29 Lib.Math.min.name, .static Lib.Math.min.name, .initialized "java/lang/Math", .code Lib.Math.min.name Lib.Math.min.code 2 (some .int), .fieldLink RX3 35 "RobinRow$Table" "slots" "I", .fieldLink RX3 39 "RobinRow$Table" "count" "I", .fieldLink RX3 9 "RobinRow$Table" "controls" "[B"] ++ wsX40 ++ wsX30)
def wsX4_putNew_r1 : List Cond := [Cond.fieldLink RX4 34 "RobinRow" "present" "LRobinRow$Table;", Cond.methodLink RX4 64 yX4_size, Cond.instanceMethod yX4_size, Cond.selects RX4 yX4_size yX4_size, Cond.initialized RX4, Cond.code yX4_size cX4_size 1 (some .int), Cond.fieldLink RX4 38 "RobinRow" "old" "LRobinRow$Table;", Cond.methodLink RX4 235 yX4_beginMove, Cond.instanceMethod yX4_beginMove, Cond.selects RX4 yX4_beginMove yX4_beginMove, Cond.code yX4_beginMove cX4_beginMove 2 none, Cond.fieldLink RX4 56 "RobinRow" "begunMoves" "I", Cond.methodLink RX4 53 yX3_emptyWith, Cond.instanceMethod yX3_emptyWith, Cond.selects RX3 yX3_emptyWith yX3_emptyWith, Cond.initialized RX3, Cond.code yX3_emptyWith cX3_emptyWith 3 none, Cond.methodLink RX3 29 Lib.Math.min.name, Cond.static Lib.Math.min.name, Cond.initialized "java/lang/Math", Cond.code Lib.Math.min.name Lib.Math.min.code 2 (some .int), Cond.fieldLink RX3 35 "RobinRow$Table" "slots" "I", Cond.fieldLink RX3 39 "RobinRow$Table" "count" "I", Cond.fieldLink RX3 9 "RobinRow$Table" "controls" "[B"]
def wsX4_putNew_r2 : List Cond := [Cond.methodLink RX4 199 yX4_hash, Cond.instanceMethod yX4_hash, Cond.selects RX4 yX4_hash yX4_hash, Cond.code yX4_hash cX4_hash 3 (some .int), Cond.fieldLink RX4 42 "RobinRow" "way" "I", Cond.constant RX4 163 (-1640531535), Cond.methodLink RX4 238 yX3_carryIn, Cond.instanceMethod yX3_carryIn, Cond.selects RX3 yX3_carryIn yX3_carryIn, Cond.code yX3_carryIn cX3_carryIn 14 none, Cond.fieldLink RX3 19 "RobinRow$Table" "keys" "[I", Cond.fieldLink RX3 22 "RobinRow$Table" "values" "[I", Cond.fieldLink RX3 15 "RobinRow$Table" "hashes" "[I", Cond.methodLink RX3 46 yX3_around, Cond.instanceMethod yX3_around, Cond.selects RX3 yX3_around yX3_around, Cond.code yX3_around cX3_around 2 (some .int), Cond.methodLink RX3 59 yX3_distanceIn, Cond.instanceMethod yX3_distanceIn, Cond.selects RX3 yX3_distanceIn yX3_distanceIn, Cond.code yX3_distanceIn cX3_distanceIn 2 (some .int), Cond.methodLink RX3 42 yX3_isEmptyIn, Cond.instanceMethod yX3_isEmptyIn, Cond.selects RX3 yX3_isEmptyIn yX3_isEmptyIn]
def wsX4_putNew_r3 : List Cond := [Cond.code yX3_isEmptyIn cX3_isEmptyIn 2 (some .boolean), Cond.methodLink RX3 62 yX3_fill, Cond.instanceMethod yX3_fill, Cond.selects RX3 yX3_fill yX3_fill, Cond.code yX3_fill cX3_fill 5 none]
def wsX4_putNew : List Cond := .code yX4_putNew cX4_putNew 3 none :: ((wsX4_putNew_r1 ++ (wsX4_putNew_r2 ++ wsX4_putNew_r3)) ++ wsX40 ++ wsX30)
def wsX4_put_r1 : List Cond := [Cond.classLink RX4 46 "java/lang/IllegalArgumentException", Cond.initialized "java/lang/IllegalArgumentException", Cond.classLink RX4 72 "java/lang/IllegalStateException", Cond.initialized "java/lang/IllegalStateException", Cond.fieldLink RX4 18 "RobinRow" "search" "LRobinRow$Search;", Cond.methodLink RX4 64 yX4_size, Cond.instanceMethod yX4_size, Cond.selects RX4 yX4_size yX4_size, Cond.initialized RX4, Cond.code yX4_size cX4_size 1 (some .int), Cond.fieldLink RX4 34 "RobinRow" "present" "LRobinRow$Table;", Cond.fieldLink RX4 38 "RobinRow" "old" "LRobinRow$Table;", Cond.methodLink RX4 68 yX4_get, Cond.instanceMethod yX4_get, Cond.selects RX4 yX4_get yX4_get, Cond.code yX4_get cX4_get 2 (some .int), Cond.methodLink RX4 80 yX4_lookUp, Cond.instanceMethod yX4_lookUp, Cond.selects RX4 yX4_lookUp yX4_lookUp, Cond.code yX4_lookUp cX4_lookUp 3 none, Cond.methodLink RX4 199 yX4_hash, Cond.instanceMethod yX4_hash, Cond.selects RX4 yX4_hash yX4_hash, Cond.code yX4_hash cX4_hash 3 (some .int)]
def wsX4_put_r2 : List Cond := [Cond.fieldLink RX4 42 "RobinRow" "way" "I", Cond.constant RX4 163 (-1640531535), Cond.methodLink RX4 202 yX1_begin, Cond.instanceMethod yX1_begin, Cond.selects RX1 yX1_begin yX1_begin, Cond.initialized RX1, Cond.code yX1_begin cX1_begin 1 none, Cond.fieldLink RX1 9 "RobinRow$Search" "table" "LRobinRow$Table;", Cond.fieldLink RX1 15 "RobinRow$Search" "groups" "I", Cond.fieldLink RX1 19 "RobinRow$Search" "comparisons" "I", Cond.methodLink RX4 203 yX1_lookIn, Cond.instanceMethod yX1_lookIn, Cond.selects RX1 yX1_lookIn yX1_lookIn, Cond.code yX1_lookIn cX1_lookIn 7 none, Cond.methodLink RX1 27 yX1_lookAtGroup, Cond.instanceMethod yX1_lookAtGroup, Cond.selects RX1 yX1_lookAtGroup yX1_lookAtGroup, Cond.code yX1_lookAtGroup cX1_lookAtGroup 8 (some .boolean), Cond.fieldLink RX1 50 "RobinRow$Search" "slot" "I", Cond.methodLink RX1 31 yX1_hasFound, Cond.instanceMethod yX1_hasFound, Cond.selects RX1 yX1_hasFound yX1_hasFound, Cond.code yX1_hasFound cX1_hasFound 1 (some .boolean), Cond.methodLink RX1 35 yX3_around]
def wsX4_put_r3 : List Cond := [Cond.instanceMethod yX3_around, Cond.selects RX3 yX3_around yX3_around, Cond.initialized RX3, Cond.code yX3_around cX3_around 2 (some .int), Cond.fieldLink RX3 35 "RobinRow$Table" "slots" "I", Cond.methodLink RX1 39 yX3_isEmptyIn, Cond.instanceMethod yX3_isEmptyIn, Cond.selects RX3 yX3_isEmptyIn yX3_isEmptyIn, Cond.code yX3_isEmptyIn cX3_isEmptyIn 2 (some .boolean), Cond.fieldLink RX3 9 "RobinRow$Table" "controls" "[B", Cond.methodLink RX1 43 yX3_controlIn, Cond.instanceMethod yX3_controlIn, Cond.selects RX3 yX3_controlIn yX3_controlIn, Cond.code yX3_controlIn cX3_controlIn 2 (some .byte), Cond.methodLink RX1 47 yX3_keyIn, Cond.instanceMethod yX3_keyIn, Cond.selects RX3 yX3_keyIn yX3_keyIn, Cond.code yX3_keyIn cX3_keyIn 2 (some .int), Cond.fieldLink RX3 19 "RobinRow$Table" "keys" "[I", Cond.methodLink RX4 83 yX1_hasFound, Cond.methodLink RX4 101 yX3_valueIn, Cond.instanceMethod yX3_valueIn, Cond.selects RX3 yX3_valueIn yX3_valueIn, Cond.code yX3_valueIn cX3_valueIn 2 (some .int)]
def wsX4_put_r4 : List Cond := [Cond.fieldLink RX3 22 "RobinRow$Table" "values" "[I", Cond.methodLink RX4 77 yX4_moveSlice, Cond.instanceMethod yX4_moveSlice, Cond.selects RX4 yX4_moveSlice yX4_moveSlice, Cond.code yX4_moveSlice cX4_moveSlice 3 (some .int), Cond.methodLink RX4 242 yX3_lowestSlotWithKey, Cond.instanceMethod yX3_lowestSlotWithKey, Cond.selects RX3 yX3_lowestSlotWithKey yX3_lowestSlotWithKey, Cond.code yX3_lowestSlotWithKey cX3_lowestSlotWithKey 2 (some .int), Cond.methodLink RX3 42 yX3_isEmptyIn, Cond.methodLink RX4 136 yX3_keyIn, Cond.methodLink RX4 245 yX3_hashIn, Cond.instanceMethod yX3_hashIn, Cond.selects RX3 yX3_hashIn yX3_hashIn, Cond.code yX3_hashIn cX3_hashIn 2 (some .int), Cond.fieldLink RX3 15 "RobinRow$Table" "hashes" "[I", Cond.methodLink RX4 238 yX3_carryIn, Cond.instanceMethod yX3_carryIn, Cond.selects RX3 yX3_carryIn yX3_carryIn, Cond.code yX3_carryIn cX3_carryIn 14 none, Cond.fieldLink RX3 39 "RobinRow$Table" "count" "I", Cond.methodLink RX3 46 yX3_around, Cond.methodLink RX3 59 yX3_distanceIn, Cond.instanceMethod yX3_distanceIn]
def wsX4_put_r5 : List Cond := [Cond.selects RX3 yX3_distanceIn yX3_distanceIn, Cond.code yX3_distanceIn cX3_distanceIn 2 (some .int), Cond.methodLink RX3 62 yX3_fill, Cond.instanceMethod yX3_fill, Cond.selects RX3 yX3_fill yX3_fill, Cond.code yX3_fill cX3_fill 5 none, Cond.methodLink RX4 104 yX3_takeOut, Cond.instanceMethod yX3_takeOut, Cond.selects RX3 yX3_takeOut yX3_takeOut, Cond.code yX3_takeOut cX3_takeOut 5 none, Cond.methodLink RX4 107 yX4_endMoveIfOldIsEmpty, Cond.instanceMethod yX4_endMoveIfOldIsEmpty, Cond.selects RX4 yX4_endMoveIfOldIsEmpty yX4_endMoveIfOldIsEmpty, Cond.code yX4_endMoveIfOldIsEmpty cX4_endMoveIfOldIsEmpty 1 none, Cond.methodLink RX4 53 yX3_emptyWith, Cond.instanceMethod yX3_emptyWith, Cond.selects RX3 yX3_emptyWith yX3_emptyWith, Cond.code yX3_emptyWith cX3_emptyWith 3 none, Cond.methodLink RX3 29 Lib.Math.min.name, Cond.static Lib.Math.min.name, Cond.initialized "java/lang/Math", Cond.code Lib.Math.min.name Lib.Math.min.code 2 (some .int), Cond.methodLink RX4 93 yX3_exchangeValue, Cond.instanceMethod yX3_exchangeValue]
def wsX4_put_r6 : List Cond := [Cond.selects RX3 yX3_exchangeValue yX3_exchangeValue, Cond.code yX3_exchangeValue cX3_exchangeValue 4 (some .int), Cond.methodLink RX4 97 yX4_putNew, Cond.instanceMethod yX4_putNew, Cond.selects RX4 yX4_putNew yX4_putNew, Cond.code yX4_putNew cX4_putNew 3 none, Cond.methodLink RX4 235 yX4_beginMove, Cond.instanceMethod yX4_beginMove, Cond.selects RX4 yX4_beginMove yX4_beginMove, Cond.code yX4_beginMove cX4_beginMove 2 none, Cond.fieldLink RX4 56 "RobinRow" "begunMoves" "I"]
def wsX4_put : List Cond := .code yX4_put cX4_put 3 (some .int) :: ((wsX4_put_r1 ++ (wsX4_put_r2 ++ (wsX4_put_r3 ++ (wsX4_put_r4 ++ (wsX4_put_r5 ++ wsX4_put_r6))))) ++ wsX40 ++ wsX10 ++ wsX30 ++ (vx_atS RX4 50 "java/lang/IllegalArgumentException" ["java/lang/RuntimeException", "java/lang/Exception"]).filter goodWord ++ (vx_atS RX4 76 "java/lang/IllegalStateException" ["java/lang/RuntimeException", "java/lang/Exception"]).filter goodWord)
def wsX4_remove_r1 : List Cond := [Cond.fieldLink RX4 18 "RobinRow" "search" "LRobinRow$Search;", Cond.methodLink RX4 77 yX4_moveSlice, Cond.instanceMethod yX4_moveSlice, Cond.selects RX4 yX4_moveSlice yX4_moveSlice, Cond.initialized RX4, Cond.code yX4_moveSlice cX4_moveSlice 3 (some .int), Cond.fieldLink RX4 38 "RobinRow" "old" "LRobinRow$Table;", Cond.fieldLink RX4 34 "RobinRow" "present" "LRobinRow$Table;", Cond.methodLink RX4 242 yX3_lowestSlotWithKey, Cond.instanceMethod yX3_lowestSlotWithKey, Cond.selects RX3 yX3_lowestSlotWithKey yX3_lowestSlotWithKey, Cond.initialized RX3, Cond.code yX3_lowestSlotWithKey cX3_lowestSlotWithKey 2 (some .int), Cond.fieldLink RX3 35 "RobinRow$Table" "slots" "I", Cond.methodLink RX3 42 yX3_isEmptyIn, Cond.instanceMethod yX3_isEmptyIn, Cond.selects RX3 yX3_isEmptyIn yX3_isEmptyIn, Cond.code yX3_isEmptyIn cX3_isEmptyIn 2 (some .boolean), Cond.fieldLink RX3 9 "RobinRow$Table" "controls" "[B", Cond.methodLink RX4 136 yX3_keyIn, Cond.instanceMethod yX3_keyIn, Cond.selects RX3 yX3_keyIn yX3_keyIn, Cond.code yX3_keyIn cX3_keyIn 2 (some .int), Cond.fieldLink RX3 19 "RobinRow$Table" "keys" "[I"]
def wsX4_remove_r2 : List Cond := [Cond.methodLink RX4 101 yX3_valueIn, Cond.instanceMethod yX3_valueIn, Cond.selects RX3 yX3_valueIn yX3_valueIn, Cond.code yX3_valueIn cX3_valueIn 2 (some .int), Cond.fieldLink RX3 22 "RobinRow$Table" "values" "[I", Cond.methodLink RX4 245 yX3_hashIn, Cond.instanceMethod yX3_hashIn, Cond.selects RX3 yX3_hashIn yX3_hashIn, Cond.code yX3_hashIn cX3_hashIn 2 (some .int), Cond.fieldLink RX3 15 "RobinRow$Table" "hashes" "[I", Cond.methodLink RX4 238 yX3_carryIn, Cond.instanceMethod yX3_carryIn, Cond.selects RX3 yX3_carryIn yX3_carryIn, Cond.code yX3_carryIn cX3_carryIn 14 none, Cond.fieldLink RX3 39 "RobinRow$Table" "count" "I", Cond.methodLink RX3 46 yX3_around, Cond.instanceMethod yX3_around, Cond.selects RX3 yX3_around yX3_around, Cond.code yX3_around cX3_around 2 (some .int), Cond.methodLink RX3 59 yX3_distanceIn, Cond.instanceMethod yX3_distanceIn, Cond.selects RX3 yX3_distanceIn yX3_distanceIn, Cond.code yX3_distanceIn cX3_distanceIn 2 (some .int), Cond.methodLink RX3 62 yX3_fill]
def wsX4_remove_r3 : List Cond := [Cond.instanceMethod yX3_fill, Cond.selects RX3 yX3_fill yX3_fill, Cond.code yX3_fill cX3_fill 5 none, Cond.methodLink RX4 104 yX3_takeOut, Cond.instanceMethod yX3_takeOut, Cond.selects RX3 yX3_takeOut yX3_takeOut, Cond.code yX3_takeOut cX3_takeOut 5 none, Cond.methodLink RX4 107 yX4_endMoveIfOldIsEmpty, Cond.instanceMethod yX4_endMoveIfOldIsEmpty, Cond.selects RX4 yX4_endMoveIfOldIsEmpty yX4_endMoveIfOldIsEmpty, Cond.code yX4_endMoveIfOldIsEmpty cX4_endMoveIfOldIsEmpty 1 none, Cond.methodLink RX4 53 yX3_emptyWith, Cond.instanceMethod yX3_emptyWith, Cond.selects RX3 yX3_emptyWith yX3_emptyWith, Cond.code yX3_emptyWith cX3_emptyWith 3 none, Cond.methodLink RX3 29 Lib.Math.min.name, Cond.static Lib.Math.min.name, Cond.initialized "java/lang/Math", Cond.code Lib.Math.min.name Lib.Math.min.code 2 (some .int), Cond.methodLink RX4 80 yX4_lookUp, Cond.instanceMethod yX4_lookUp, Cond.selects RX4 yX4_lookUp yX4_lookUp, Cond.code yX4_lookUp cX4_lookUp 3 none, Cond.methodLink RX4 199 yX4_hash]
def wsX4_remove_r4 : List Cond := [Cond.instanceMethod yX4_hash, Cond.selects RX4 yX4_hash yX4_hash, Cond.code yX4_hash cX4_hash 3 (some .int), Cond.fieldLink RX4 42 "RobinRow" "way" "I", Cond.constant RX4 163 (-1640531535), Cond.methodLink RX4 202 yX1_begin, Cond.instanceMethod yX1_begin, Cond.selects RX1 yX1_begin yX1_begin, Cond.initialized RX1, Cond.code yX1_begin cX1_begin 1 none, Cond.fieldLink RX1 9 "RobinRow$Search" "table" "LRobinRow$Table;", Cond.fieldLink RX1 15 "RobinRow$Search" "groups" "I", Cond.fieldLink RX1 19 "RobinRow$Search" "comparisons" "I", Cond.methodLink RX4 203 yX1_lookIn, Cond.instanceMethod yX1_lookIn, Cond.selects RX1 yX1_lookIn yX1_lookIn, Cond.code yX1_lookIn cX1_lookIn 7 none, Cond.methodLink RX1 27 yX1_lookAtGroup, Cond.instanceMethod yX1_lookAtGroup, Cond.selects RX1 yX1_lookAtGroup yX1_lookAtGroup, Cond.code yX1_lookAtGroup cX1_lookAtGroup 8 (some .boolean), Cond.fieldLink RX1 50 "RobinRow$Search" "slot" "I", Cond.methodLink RX1 31 yX1_hasFound, Cond.instanceMethod yX1_hasFound]
def wsX4_remove_r5 : List Cond := [Cond.selects RX1 yX1_hasFound yX1_hasFound, Cond.code yX1_hasFound cX1_hasFound 1 (some .boolean), Cond.methodLink RX1 35 yX3_around, Cond.methodLink RX1 39 yX3_isEmptyIn, Cond.methodLink RX1 43 yX3_controlIn, Cond.instanceMethod yX3_controlIn, Cond.selects RX3 yX3_controlIn yX3_controlIn, Cond.code yX3_controlIn cX3_controlIn 2 (some .byte), Cond.methodLink RX1 47 yX3_keyIn, Cond.methodLink RX4 83 yX1_hasFound]
def wsX4_remove : List Cond := .code yX4_remove cX4_remove 3 (some .int) :: ((wsX4_remove_r1 ++ (wsX4_remove_r2 ++ (wsX4_remove_r3 ++ (wsX4_remove_r4 ++ wsX4_remove_r5)))) ++ wsX40 ++ wsX10 ++ wsX30)
def wsX4_move_r1 : List Cond := [Cond.methodLink RX4 77 yX4_moveSlice, Cond.instanceMethod yX4_moveSlice, Cond.selects RX4 yX4_moveSlice yX4_moveSlice, Cond.initialized RX4, Cond.code yX4_moveSlice cX4_moveSlice 3 (some .int), Cond.fieldLink RX4 38 "RobinRow" "old" "LRobinRow$Table;", Cond.fieldLink RX4 34 "RobinRow" "present" "LRobinRow$Table;", Cond.methodLink RX4 242 yX3_lowestSlotWithKey, Cond.instanceMethod yX3_lowestSlotWithKey, Cond.selects RX3 yX3_lowestSlotWithKey yX3_lowestSlotWithKey, Cond.initialized RX3, Cond.code yX3_lowestSlotWithKey cX3_lowestSlotWithKey 2 (some .int), Cond.fieldLink RX3 35 "RobinRow$Table" "slots" "I", Cond.methodLink RX3 42 yX3_isEmptyIn, Cond.instanceMethod yX3_isEmptyIn, Cond.selects RX3 yX3_isEmptyIn yX3_isEmptyIn, Cond.code yX3_isEmptyIn cX3_isEmptyIn 2 (some .boolean), Cond.fieldLink RX3 9 "RobinRow$Table" "controls" "[B", Cond.methodLink RX4 136 yX3_keyIn, Cond.instanceMethod yX3_keyIn, Cond.selects RX3 yX3_keyIn yX3_keyIn, Cond.code yX3_keyIn cX3_keyIn 2 (some .int), Cond.fieldLink RX3 19 "RobinRow$Table" "keys" "[I", Cond.methodLink RX4 101 yX3_valueIn]
def wsX4_move_r2 : List Cond := [Cond.instanceMethod yX3_valueIn, Cond.selects RX3 yX3_valueIn yX3_valueIn, Cond.code yX3_valueIn cX3_valueIn 2 (some .int), Cond.fieldLink RX3 22 "RobinRow$Table" "values" "[I", Cond.methodLink RX4 245 yX3_hashIn, Cond.instanceMethod yX3_hashIn, Cond.selects RX3 yX3_hashIn yX3_hashIn, Cond.code yX3_hashIn cX3_hashIn 2 (some .int), Cond.fieldLink RX3 15 "RobinRow$Table" "hashes" "[I", Cond.methodLink RX4 238 yX3_carryIn, Cond.instanceMethod yX3_carryIn, Cond.selects RX3 yX3_carryIn yX3_carryIn, Cond.code yX3_carryIn cX3_carryIn 14 none, Cond.fieldLink RX3 39 "RobinRow$Table" "count" "I", Cond.methodLink RX3 46 yX3_around, Cond.instanceMethod yX3_around, Cond.selects RX3 yX3_around yX3_around, Cond.code yX3_around cX3_around 2 (some .int), Cond.methodLink RX3 59 yX3_distanceIn, Cond.instanceMethod yX3_distanceIn, Cond.selects RX3 yX3_distanceIn yX3_distanceIn, Cond.code yX3_distanceIn cX3_distanceIn 2 (some .int), Cond.methodLink RX3 62 yX3_fill, Cond.instanceMethod yX3_fill]
def wsX4_move_r3 : List Cond := [Cond.selects RX3 yX3_fill yX3_fill, Cond.code yX3_fill cX3_fill 5 none, Cond.methodLink RX4 104 yX3_takeOut, Cond.instanceMethod yX3_takeOut, Cond.selects RX3 yX3_takeOut yX3_takeOut, Cond.code yX3_takeOut cX3_takeOut 5 none, Cond.methodLink RX4 107 yX4_endMoveIfOldIsEmpty, Cond.instanceMethod yX4_endMoveIfOldIsEmpty, Cond.selects RX4 yX4_endMoveIfOldIsEmpty yX4_endMoveIfOldIsEmpty, Cond.code yX4_endMoveIfOldIsEmpty cX4_endMoveIfOldIsEmpty 1 none, Cond.methodLink RX4 53 yX3_emptyWith, Cond.instanceMethod yX3_emptyWith, Cond.selects RX3 yX3_emptyWith yX3_emptyWith, Cond.code yX3_emptyWith cX3_emptyWith 3 none, Cond.methodLink RX3 29 Lib.Math.min.name, Cond.static Lib.Math.min.name, Cond.initialized "java/lang/Math", Cond.code Lib.Math.min.name Lib.Math.min.code 2 (some .int)]
def wsX4_move : List Cond := .code yX4_move cX4_move 1 (some .int) :: ((wsX4_move_r1 ++ (wsX4_move_r2 ++ wsX4_move_r3)) ++ wsX40 ++ wsX30)
def wsX4_moves : List Cond := .code yX4_moves cX4_moves 1 (some .int) :: ([.fieldLink RX4 56 "RobinRow" "begunMoves" "I"] ++ wsX40)
def wsX4_openSweep : List Cond := .code yX4_openSweep cX4_openSweep 2 (some .int) :: ([.classLink RX4 72 "java/lang/IllegalStateException", .initialized "java/lang/IllegalStateException", .fieldLink RX4 11 "RobinRow" "sweeps" "[LRobinRow$Sweep;", .methodLink RX4 117 yX2_begin, .instanceMethod yX2_begin, .selects RX2 yX2_begin yX2_begin, .initialized RX2, .code yX2_begin cX2_begin 1 none, .fieldLink RX2 9 "RobinRow$Sweep" "isOpen" "Z", .fieldLink RX2 15 "RobinRow$Sweep" "mayRemove" "Z", .fieldLink RX2 18 "RobinRow$Sweep" "met" "I", .constantLong RX2 22 (-1), .fieldLink RX2 24 "RobinRow$Sweep" "rank" "J"] ++ wsX40 ++ wsX20 ++ (vx_atS RX4 76 "java/lang/IllegalStateException" ["java/lang/RuntimeException", "java/lang/Exception"]).filter goodWord)
def wsX4_sweepOf : List Cond := .code yX4_sweepOf cX4_sweepOf 2 (some (.object "RobinRow$Sweep")) :: ([.classLink RX4 222 "java/lang/IndexOutOfBoundsException", .initialized "java/lang/IndexOutOfBoundsException", .fieldLink RX4 11 "RobinRow" "sweeps" "[LRobinRow$Sweep;"] ++ wsX40 ++ wsX20 ++ (vx_atS RX4 226 "java/lang/IndexOutOfBoundsException" ["java/lang/RuntimeException", "java/lang/Exception"]).filter goodWord)
def wsX4_seekBehind_r1 : List Cond := [Cond.fieldLink RX4 18 "RobinRow" "search" "LRobinRow$Search;", Cond.fieldLink RX4 34 "RobinRow" "present" "LRobinRow$Table;", Cond.fieldLink RX4 38 "RobinRow" "old" "LRobinRow$Table;", Cond.methodLink RX4 202 yX1_begin, Cond.instanceMethod yX1_begin, Cond.selects RX1 yX1_begin yX1_begin, Cond.initialized RX1, Cond.code yX1_begin cX1_begin 1 none, Cond.fieldLink RX1 9 "RobinRow$Search" "table" "LRobinRow$Table;", Cond.fieldLink RX1 15 "RobinRow$Search" "groups" "I", Cond.fieldLink RX1 19 "RobinRow$Search" "comparisons" "I", Cond.methodLink RX4 231 yX1_seekIn, Cond.instanceMethod yX1_seekIn, Cond.selects RX1 yX1_seekIn yX1_seekIn, Cond.code yX1_seekIn cX1_seekIn 5 none, Cond.fieldLink RX1 50 "RobinRow$Search" "slot" "I", Cond.methodLink RX1 39 yX3_isEmptyIn, Cond.instanceMethod yX3_isEmptyIn, Cond.selects RX3 yX3_isEmptyIn yX3_isEmptyIn, Cond.initialized RX3, Cond.code yX3_isEmptyIn cX3_isEmptyIn 2 (some .boolean), Cond.fieldLink RX3 9 "RobinRow$Table" "controls" "[B", Cond.methodLink RX1 53 yX3_rankIn, Cond.instanceMethod yX3_rankIn]
def wsX4_seekBehind_r2 : List Cond := [Cond.selects RX3 yX3_rankIn yX3_rankIn, Cond.code yX3_rankIn cX3_rankIn 2 (some .long), Cond.fieldLink RX3 15 "RobinRow$Table" "hashes" "[I", Cond.methodLink RX3 50 yJ6_reverse_0f7a4, Cond.static yJ6_reverse_0f7a4, Cond.initialized RJ6, Cond.code yJ6_reverse_0f7a4 cJ6_reverse_0f7a4 1 (some .int), Cond.constant RJ6 265 (1431655765), Cond.constant RJ6 266 (858993459), Cond.constant RJ6 267 (252645135), Cond.methodLink RJ6 268 yJ6_reverseBytes_0f7a4, Cond.static yJ6_reverseBytes_0f7a4, Cond.code yJ6_reverseBytes_0f7a4 cJ6_reverseBytes_0f7a4 1 (some .int), Cond.constant RJ6 274 (65280), Cond.methodLink RX3 55 yJ6_toUnsignedLong_3e8ac, Cond.static yJ6_toUnsignedLong_3e8ac, Cond.code yJ6_toUnsignedLong_3e8ac cJ6_toUnsignedLong_3e8ac 1 (some .long), Cond.constantLong RJ6 262 (4294967295), Cond.methodLink RX1 31 yX1_hasFound, Cond.instanceMethod yX1_hasFound, Cond.selects RX1 yX1_hasFound yX1_hasFound, Cond.code yX1_hasFound cX1_hasFound 1 (some .boolean)]
def wsX4_seekBehind : List Cond := .code yX4_seekBehind cX4_seekBehind 3 none :: ((wsX4_seekBehind_r1 ++ wsX4_seekBehind_r2) ++ wsX40 ++ wsX10 ++ wsX30)
def wsX4_hasNext_r1 : List Cond := [Cond.fieldLink RX4 18 "RobinRow" "search" "LRobinRow$Search;", Cond.methodLink RX4 122 yX4_sweepOf, Cond.instanceMethod yX4_sweepOf, Cond.selects RX4 yX4_sweepOf yX4_sweepOf, Cond.initialized RX4, Cond.code yX4_sweepOf cX4_sweepOf 2 (some (.object "RobinRow$Sweep")), Cond.classLink RX4 222 "java/lang/IndexOutOfBoundsException", Cond.initialized "java/lang/IndexOutOfBoundsException", Cond.fieldLink RX4 11 "RobinRow" "sweeps" "[LRobinRow$Sweep;", Cond.methodLink RX4 130 yX4_seekBehind, Cond.instanceMethod yX4_seekBehind, Cond.selects RX4 yX4_seekBehind yX4_seekBehind, Cond.code yX4_seekBehind cX4_seekBehind 3 none, Cond.fieldLink RX4 34 "RobinRow" "present" "LRobinRow$Table;", Cond.fieldLink RX4 38 "RobinRow" "old" "LRobinRow$Table;", Cond.methodLink RX4 202 yX1_begin, Cond.instanceMethod yX1_begin, Cond.selects RX1 yX1_begin yX1_begin, Cond.initialized RX1, Cond.code yX1_begin cX1_begin 1 none, Cond.fieldLink RX1 9 "RobinRow$Search" "table" "LRobinRow$Table;", Cond.fieldLink RX1 15 "RobinRow$Search" "groups" "I", Cond.fieldLink RX1 19 "RobinRow$Search" "comparisons" "I", Cond.methodLink RX4 231 yX1_seekIn]
def wsX4_hasNext_r2 : List Cond := [Cond.instanceMethod yX1_seekIn, Cond.selects RX1 yX1_seekIn yX1_seekIn, Cond.code yX1_seekIn cX1_seekIn 5 none, Cond.fieldLink RX1 50 "RobinRow$Search" "slot" "I", Cond.methodLink RX1 39 yX3_isEmptyIn, Cond.instanceMethod yX3_isEmptyIn, Cond.selects RX3 yX3_isEmptyIn yX3_isEmptyIn, Cond.initialized RX3, Cond.code yX3_isEmptyIn cX3_isEmptyIn 2 (some .boolean), Cond.fieldLink RX3 9 "RobinRow$Table" "controls" "[B", Cond.methodLink RX1 53 yX3_rankIn, Cond.instanceMethod yX3_rankIn, Cond.selects RX3 yX3_rankIn yX3_rankIn, Cond.code yX3_rankIn cX3_rankIn 2 (some .long), Cond.fieldLink RX3 15 "RobinRow$Table" "hashes" "[I", Cond.methodLink RX3 50 yJ6_reverse_0f7a4, Cond.static yJ6_reverse_0f7a4, Cond.initialized RJ6, Cond.code yJ6_reverse_0f7a4 cJ6_reverse_0f7a4 1 (some .int), Cond.constant RJ6 265 (1431655765), Cond.constant RJ6 266 (858993459), Cond.constant RJ6 267 (252645135), Cond.methodLink RJ6 268 yJ6_reverseBytes_0f7a4, Cond.static yJ6_reverseBytes_0f7a4]
def wsX4_hasNext_r3 : List Cond := [Cond.code yJ6_reverseBytes_0f7a4 cJ6_reverseBytes_0f7a4 1 (some .int), Cond.constant RJ6 274 (65280), Cond.methodLink RX3 55 yJ6_toUnsignedLong_3e8ac, Cond.static yJ6_toUnsignedLong_3e8ac, Cond.code yJ6_toUnsignedLong_3e8ac cJ6_toUnsignedLong_3e8ac 1 (some .long), Cond.constantLong RJ6 262 (4294967295), Cond.methodLink RX1 31 yX1_hasFound, Cond.instanceMethod yX1_hasFound, Cond.selects RX1 yX1_hasFound yX1_hasFound, Cond.code yX1_hasFound cX1_hasFound 1 (some .boolean), Cond.methodLink RX4 83 yX1_hasFound]
def wsX4_hasNext : List Cond := .code yX4_hasNext cX4_hasNext 2 (some .boolean) :: ((wsX4_hasNext_r1 ++ (wsX4_hasNext_r2 ++ wsX4_hasNext_r3)) ++ wsX20 ++ wsX40 ++ wsX10 ++ wsX30 ++ (vx_atS RX4 226 "java/lang/IndexOutOfBoundsException" ["java/lang/RuntimeException", "java/lang/Exception"]).filter goodWord)
def wsX4_next_r1 : List Cond := [Cond.classLink RX4 72 "java/lang/IllegalStateException", Cond.initialized "java/lang/IllegalStateException", Cond.fieldLink RX4 18 "RobinRow" "search" "LRobinRow$Search;", Cond.methodLink RX4 122 yX4_sweepOf, Cond.instanceMethod yX4_sweepOf, Cond.selects RX4 yX4_sweepOf yX4_sweepOf, Cond.initialized RX4, Cond.code yX4_sweepOf cX4_sweepOf 2 (some (.object "RobinRow$Sweep")), Cond.classLink RX4 222 "java/lang/IndexOutOfBoundsException", Cond.initialized "java/lang/IndexOutOfBoundsException", Cond.fieldLink RX4 11 "RobinRow" "sweeps" "[LRobinRow$Sweep;", Cond.methodLink RX4 130 yX4_seekBehind, Cond.instanceMethod yX4_seekBehind, Cond.selects RX4 yX4_seekBehind yX4_seekBehind, Cond.code yX4_seekBehind cX4_seekBehind 3 none, Cond.fieldLink RX4 34 "RobinRow" "present" "LRobinRow$Table;", Cond.fieldLink RX4 38 "RobinRow" "old" "LRobinRow$Table;", Cond.methodLink RX4 202 yX1_begin, Cond.instanceMethod yX1_begin, Cond.selects RX1 yX1_begin yX1_begin, Cond.initialized RX1, Cond.code yX1_begin cX1_begin 1 none, Cond.fieldLink RX1 9 "RobinRow$Search" "table" "LRobinRow$Table;", Cond.fieldLink RX1 15 "RobinRow$Search" "groups" "I"]
def wsX4_next_r2 : List Cond := [Cond.fieldLink RX1 19 "RobinRow$Search" "comparisons" "I", Cond.methodLink RX4 231 yX1_seekIn, Cond.instanceMethod yX1_seekIn, Cond.selects RX1 yX1_seekIn yX1_seekIn, Cond.code yX1_seekIn cX1_seekIn 5 none, Cond.fieldLink RX1 50 "RobinRow$Search" "slot" "I", Cond.methodLink RX1 39 yX3_isEmptyIn, Cond.instanceMethod yX3_isEmptyIn, Cond.selects RX3 yX3_isEmptyIn yX3_isEmptyIn, Cond.initialized RX3, Cond.code yX3_isEmptyIn cX3_isEmptyIn 2 (some .boolean), Cond.fieldLink RX3 9 "RobinRow$Table" "controls" "[B", Cond.methodLink RX1 53 yX3_rankIn, Cond.instanceMethod yX3_rankIn, Cond.selects RX3 yX3_rankIn yX3_rankIn, Cond.code yX3_rankIn cX3_rankIn 2 (some .long), Cond.fieldLink RX3 15 "RobinRow$Table" "hashes" "[I", Cond.methodLink RX3 50 yJ6_reverse_0f7a4, Cond.static yJ6_reverse_0f7a4, Cond.initialized RJ6, Cond.code yJ6_reverse_0f7a4 cJ6_reverse_0f7a4 1 (some .int), Cond.constant RJ6 265 (1431655765), Cond.constant RJ6 266 (858993459), Cond.constant RJ6 267 (252645135)]
def wsX4_next_r3 : List Cond := [Cond.methodLink RJ6 268 yJ6_reverseBytes_0f7a4, Cond.static yJ6_reverseBytes_0f7a4, Cond.code yJ6_reverseBytes_0f7a4 cJ6_reverseBytes_0f7a4 1 (some .int), Cond.constant RJ6 274 (65280), Cond.methodLink RX3 55 yJ6_toUnsignedLong_3e8ac, Cond.static yJ6_toUnsignedLong_3e8ac, Cond.code yJ6_toUnsignedLong_3e8ac cJ6_toUnsignedLong_3e8ac 1 (some .long), Cond.constantLong RJ6 262 (4294967295), Cond.methodLink RX1 31 yX1_hasFound, Cond.instanceMethod yX1_hasFound, Cond.selects RX1 yX1_hasFound yX1_hasFound, Cond.code yX1_hasFound cX1_hasFound 1 (some .boolean), Cond.methodLink RX4 83 yX1_hasFound, Cond.methodLink RX4 136 yX3_keyIn, Cond.instanceMethod yX3_keyIn, Cond.selects RX3 yX3_keyIn yX3_keyIn, Cond.code yX3_keyIn cX3_keyIn 2 (some .int), Cond.fieldLink RX3 19 "RobinRow$Table" "keys" "[I", Cond.methodLink RX4 139 yX3_rankIn, Cond.methodLink RX4 143 yX2_meet, Cond.instanceMethod yX2_meet, Cond.selects RX2 yX2_meet yX2_meet, Cond.initialized RX2, Cond.code yX2_meet cX2_meet 4 none]
def wsX4_next_r4 : List Cond := [Cond.fieldLink RX2 15 "RobinRow$Sweep" "mayRemove" "Z", Cond.fieldLink RX2 18 "RobinRow$Sweep" "met" "I", Cond.fieldLink RX2 28 "RobinRow$Sweep" "key" "I", Cond.fieldLink RX2 24 "RobinRow$Sweep" "rank" "J"]
def wsX4_next : List Cond := .code yX4_next cX4_next 4 (some .int) :: ((wsX4_next_r1 ++ (wsX4_next_r2 ++ (wsX4_next_r3 ++ wsX4_next_r4))) ++ wsX20 ++ wsX40 ++ wsX10 ++ wsX30 ++ (vx_atS RX4 76 "java/lang/IllegalStateException" ["java/lang/RuntimeException", "java/lang/Exception"]).filter goodWord ++ (vx_atS RX4 226 "java/lang/IndexOutOfBoundsException" ["java/lang/RuntimeException", "java/lang/Exception"]).filter goodWord)
def wsX4_removeMet_r1 : List Cond := [Cond.classLink RX4 72 "java/lang/IllegalStateException", Cond.initialized "java/lang/IllegalStateException", Cond.fieldLink RX4 18 "RobinRow" "search" "LRobinRow$Search;", Cond.methodLink RX4 122 yX4_sweepOf, Cond.instanceMethod yX4_sweepOf, Cond.selects RX4 yX4_sweepOf yX4_sweepOf, Cond.initialized RX4, Cond.code yX4_sweepOf cX4_sweepOf 2 (some (.object "RobinRow$Sweep")), Cond.classLink RX4 222 "java/lang/IndexOutOfBoundsException", Cond.initialized "java/lang/IndexOutOfBoundsException", Cond.fieldLink RX4 11 "RobinRow" "sweeps" "[LRobinRow$Sweep;", Cond.methodLink RX4 80 yX4_lookUp, Cond.instanceMethod yX4_lookUp, Cond.selects RX4 yX4_lookUp yX4_lookUp, Cond.code yX4_lookUp cX4_lookUp 3 none, Cond.fieldLink RX4 34 "RobinRow" "present" "LRobinRow$Table;", Cond.fieldLink RX4 38 "RobinRow" "old" "LRobinRow$Table;", Cond.methodLink RX4 199 yX4_hash, Cond.instanceMethod yX4_hash, Cond.selects RX4 yX4_hash yX4_hash, Cond.code yX4_hash cX4_hash 3 (some .int), Cond.fieldLink RX4 42 "RobinRow" "way" "I", Cond.constant RX4 163 (-1640531535), Cond.methodLink RX4 202 yX1_begin]
def wsX4_removeMet_r2 : List Cond := [Cond.instanceMethod yX1_begin, Cond.selects RX1 yX1_begin yX1_begin, Cond.initialized RX1, Cond.code yX1_begin cX1_begin 1 none, Cond.fieldLink RX1 9 "RobinRow$Search" "table" "LRobinRow$Table;", Cond.fieldLink RX1 15 "RobinRow$Search" "groups" "I", Cond.fieldLink RX1 19 "RobinRow$Search" "comparisons" "I", Cond.methodLink RX4 203 yX1_lookIn, Cond.instanceMethod yX1_lookIn, Cond.selects RX1 yX1_lookIn yX1_lookIn, Cond.code yX1_lookIn cX1_lookIn 7 none, Cond.methodLink RX1 27 yX1_lookAtGroup, Cond.instanceMethod yX1_lookAtGroup, Cond.selects RX1 yX1_lookAtGroup yX1_lookAtGroup, Cond.code yX1_lookAtGroup cX1_lookAtGroup 8 (some .boolean), Cond.fieldLink RX1 50 "RobinRow$Search" "slot" "I", Cond.methodLink RX1 31 yX1_hasFound, Cond.instanceMethod yX1_hasFound, Cond.selects RX1 yX1_hasFound yX1_hasFound, Cond.code yX1_hasFound cX1_hasFound 1 (some .boolean), Cond.methodLink RX1 35 yX3_around, Cond.instanceMethod yX3_around, Cond.selects RX3 yX3_around yX3_around, Cond.initialized RX3]
def wsX4_removeMet_r3 : List Cond := [Cond.code yX3_around cX3_around 2 (some .int), Cond.fieldLink RX3 35 "RobinRow$Table" "slots" "I", Cond.methodLink RX1 39 yX3_isEmptyIn, Cond.instanceMethod yX3_isEmptyIn, Cond.selects RX3 yX3_isEmptyIn yX3_isEmptyIn, Cond.code yX3_isEmptyIn cX3_isEmptyIn 2 (some .boolean), Cond.fieldLink RX3 9 "RobinRow$Table" "controls" "[B", Cond.methodLink RX1 43 yX3_controlIn, Cond.instanceMethod yX3_controlIn, Cond.selects RX3 yX3_controlIn yX3_controlIn, Cond.code yX3_controlIn cX3_controlIn 2 (some .byte), Cond.methodLink RX1 47 yX3_keyIn, Cond.instanceMethod yX3_keyIn, Cond.selects RX3 yX3_keyIn yX3_keyIn, Cond.code yX3_keyIn cX3_keyIn 2 (some .int), Cond.fieldLink RX3 19 "RobinRow$Table" "keys" "[I", Cond.methodLink RX4 83 yX1_hasFound, Cond.methodLink RX4 157 yX4_remove, Cond.instanceMethod yX4_remove, Cond.selects RX4 yX4_remove yX4_remove, Cond.code yX4_remove cX4_remove 3 (some .int), Cond.methodLink RX4 77 yX4_moveSlice, Cond.instanceMethod yX4_moveSlice, Cond.selects RX4 yX4_moveSlice yX4_moveSlice]
def wsX4_removeMet_r4 : List Cond := [Cond.code yX4_moveSlice cX4_moveSlice 3 (some .int), Cond.methodLink RX4 242 yX3_lowestSlotWithKey, Cond.instanceMethod yX3_lowestSlotWithKey, Cond.selects RX3 yX3_lowestSlotWithKey yX3_lowestSlotWithKey, Cond.code yX3_lowestSlotWithKey cX3_lowestSlotWithKey 2 (some .int), Cond.methodLink RX3 42 yX3_isEmptyIn, Cond.methodLink RX4 136 yX3_keyIn, Cond.methodLink RX4 101 yX3_valueIn, Cond.instanceMethod yX3_valueIn, Cond.selects RX3 yX3_valueIn yX3_valueIn, Cond.code yX3_valueIn cX3_valueIn 2 (some .int), Cond.fieldLink RX3 22 "RobinRow$Table" "values" "[I", Cond.methodLink RX4 245 yX3_hashIn, Cond.instanceMethod yX3_hashIn, Cond.selects RX3 yX3_hashIn yX3_hashIn, Cond.code yX3_hashIn cX3_hashIn 2 (some .int), Cond.fieldLink RX3 15 "RobinRow$Table" "hashes" "[I", Cond.methodLink RX4 238 yX3_carryIn, Cond.instanceMethod yX3_carryIn, Cond.selects RX3 yX3_carryIn yX3_carryIn, Cond.code yX3_carryIn cX3_carryIn 14 none, Cond.fieldLink RX3 39 "RobinRow$Table" "count" "I", Cond.methodLink RX3 46 yX3_around, Cond.methodLink RX3 59 yX3_distanceIn]
def wsX4_removeMet_r5 : List Cond := [Cond.instanceMethod yX3_distanceIn, Cond.selects RX3 yX3_distanceIn yX3_distanceIn, Cond.code yX3_distanceIn cX3_distanceIn 2 (some .int), Cond.methodLink RX3 62 yX3_fill, Cond.instanceMethod yX3_fill, Cond.selects RX3 yX3_fill yX3_fill, Cond.code yX3_fill cX3_fill 5 none, Cond.methodLink RX4 104 yX3_takeOut, Cond.instanceMethod yX3_takeOut, Cond.selects RX3 yX3_takeOut yX3_takeOut, Cond.code yX3_takeOut cX3_takeOut 5 none, Cond.methodLink RX4 107 yX4_endMoveIfOldIsEmpty, Cond.instanceMethod yX4_endMoveIfOldIsEmpty, Cond.selects RX4 yX4_endMoveIfOldIsEmpty yX4_endMoveIfOldIsEmpty, Cond.code yX4_endMoveIfOldIsEmpty cX4_endMoveIfOldIsEmpty 1 none, Cond.methodLink RX4 53 yX3_emptyWith, Cond.instanceMethod yX3_emptyWith, Cond.selects RX3 yX3_emptyWith yX3_emptyWith, Cond.code yX3_emptyWith cX3_emptyWith 3 none, Cond.methodLink RX3 29 Lib.Math.min.name, Cond.static Lib.Math.min.name, Cond.initialized "java/lang/Math", Cond.code Lib.Math.min.name Lib.Math.min.code 2 (some .int)]
def wsX4_removeMet : List Cond := .code yX4_removeMet cX4_removeMet 3 (some .int) :: ((wsX4_removeMet_r1 ++ (wsX4_removeMet_r2 ++ (wsX4_removeMet_r3 ++ (wsX4_removeMet_r4 ++ wsX4_removeMet_r5)))) ++ wsX20 ++ wsX40 ++ wsX10 ++ wsX30 ++ (vx_atS RX4 76 "java/lang/IllegalStateException" ["java/lang/RuntimeException", "java/lang/Exception"]).filter goodWord ++ (vx_atS RX4 226 "java/lang/IndexOutOfBoundsException" ["java/lang/RuntimeException", "java/lang/Exception"]).filter goodWord)
def wsX4_closeSweep : List Cond := .code yX4_closeSweep cX4_closeSweep 3 (some .int) :: ([.methodLink RX4 122 yX4_sweepOf, .instanceMethod yX4_sweepOf, .selects RX4 yX4_sweepOf yX4_sweepOf, .initialized RX4, .code yX4_sweepOf cX4_sweepOf 2 (some (.object "RobinRow$Sweep")), .classLink RX4 222 "java/lang/IndexOutOfBoundsException", .initialized "java/lang/IndexOutOfBoundsException", .fieldLink RX4 11 "RobinRow" "sweeps" "[LRobinRow$Sweep;", .methodLink RX4 59 yX2_end, .instanceMethod yX2_end, .selects RX2 yX2_end yX2_end, .initialized RX2, .code yX2_end cX2_end 1 none, .fieldLink RX2 9 "RobinRow$Sweep" "isOpen" "Z"] ++ wsX20 ++ wsX40 ++ (vx_atS RX4 226 "java/lang/IndexOutOfBoundsException" ["java/lang/RuntimeException", "java/lang/Exception"]).filter goodWord)
def wsX4_tableOf : List Cond := .code yX4_tableOf cX4_tableOf 2 (some (.object "RobinRow$Table")) :: ([.classLink RX4 222 "java/lang/IndexOutOfBoundsException", .initialized "java/lang/IndexOutOfBoundsException", .fieldLink RX4 34 "RobinRow" "present" "LRobinRow$Table;", .fieldLink RX4 38 "RobinRow" "old" "LRobinRow$Table;"] ++ wsX40 ++ (vx_atS RX4 226 "java/lang/IndexOutOfBoundsException" ["java/lang/RuntimeException", "java/lang/Exception"]).filter goodWord)
def wsX4_slots : List Cond := .code yX4_slots cX4_slots 2 (some .int) :: ([.methodLink RX4 164 yX4_tableOf, .instanceMethod yX4_tableOf, .selects RX4 yX4_tableOf yX4_tableOf, .initialized RX4, .code yX4_tableOf cX4_tableOf 2 (some (.object "RobinRow$Table")), .classLink RX4 222 "java/lang/IndexOutOfBoundsException", .initialized "java/lang/IndexOutOfBoundsException", .fieldLink RX4 34 "RobinRow" "present" "LRobinRow$Table;", .fieldLink RX4 38 "RobinRow" "old" "LRobinRow$Table;"] ++ wsX30 ++ wsX40 ++ (vx_atS RX4 226 "java/lang/IndexOutOfBoundsException" ["java/lang/RuntimeException", "java/lang/Exception"]).filter goodWord)
def wsX4_keysIn : List Cond := .code yX4_keysIn cX4_keysIn 2 (some .int) :: ([.methodLink RX4 164 yX4_tableOf, .instanceMethod yX4_tableOf, .selects RX4 yX4_tableOf yX4_tableOf, .initialized RX4, .code yX4_tableOf cX4_tableOf 2 (some (.object "RobinRow$Table")), .classLink RX4 222 "java/lang/IndexOutOfBoundsException", .initialized "java/lang/IndexOutOfBoundsException", .fieldLink RX4 34 "RobinRow" "present" "LRobinRow$Table;", .fieldLink RX4 38 "RobinRow" "old" "LRobinRow$Table;"] ++ wsX30 ++ wsX40 ++ (vx_atS RX4 226 "java/lang/IndexOutOfBoundsException" ["java/lang/RuntimeException", "java/lang/Exception"]).filter goodWord)
def wsX4_tableWithSlot : List Cond := .code yX4_tableWithSlot cX4_tableWithSlot 4 (some (.object "RobinRow$Table")) :: ([.classLink RX4 222 "java/lang/IndexOutOfBoundsException", .initialized "java/lang/IndexOutOfBoundsException", .methodLink RX4 164 yX4_tableOf, .instanceMethod yX4_tableOf, .selects RX4 yX4_tableOf yX4_tableOf, .initialized RX4, .code yX4_tableOf cX4_tableOf 2 (some (.object "RobinRow$Table")), .fieldLink RX4 34 "RobinRow" "present" "LRobinRow$Table;", .fieldLink RX4 38 "RobinRow" "old" "LRobinRow$Table;"] ++ wsX30 ++ wsX40 ++ (vx_atS RX4 226 "java/lang/IndexOutOfBoundsException" ["java/lang/RuntimeException", "java/lang/Exception"]).filter goodWord)
def wsX4_control : List Cond := .code yX4_control cX4_control 3 (some .byte) :: ([.methodLink RX4 171 yX4_tableWithSlot, .instanceMethod yX4_tableWithSlot, .selects RX4 yX4_tableWithSlot yX4_tableWithSlot, .initialized RX4, .code yX4_tableWithSlot cX4_tableWithSlot 4 (some (.object "RobinRow$Table")), .classLink RX4 222 "java/lang/IndexOutOfBoundsException", .initialized "java/lang/IndexOutOfBoundsException", .methodLink RX4 164 yX4_tableOf, .instanceMethod yX4_tableOf, .selects RX4 yX4_tableOf yX4_tableOf, .code yX4_tableOf cX4_tableOf 2 (some (.object "RobinRow$Table")), .fieldLink RX4 34 "RobinRow" "present" "LRobinRow$Table;", .fieldLink RX4 38 "RobinRow" "old" "LRobinRow$Table;", .methodLink RX4 175 yX3_controlIn, .instanceMethod yX3_controlIn, .selects RX3 yX3_controlIn yX3_controlIn, .initialized RX3, .code yX3_controlIn cX3_controlIn 2 (some .byte), .fieldLink RX3 9 "RobinRow$Table" "controls" "[B"] ++ wsX30 ++ wsX40 ++ (vx_atS RX4 226 "java/lang/IndexOutOfBoundsException" ["java/lang/RuntimeException", "java/lang/Exception"]).filter goodWord)
def wsX4_keyAt_r1 : List Cond := [Cond.classLink RX4 72 "java/lang/IllegalStateException", Cond.initialized "java/lang/IllegalStateException", Cond.methodLink RX4 171 yX4_tableWithSlot, Cond.instanceMethod yX4_tableWithSlot, Cond.selects RX4 yX4_tableWithSlot yX4_tableWithSlot, Cond.initialized RX4, Cond.code yX4_tableWithSlot cX4_tableWithSlot 4 (some (.object "RobinRow$Table")), Cond.classLink RX4 222 "java/lang/IndexOutOfBoundsException", Cond.initialized "java/lang/IndexOutOfBoundsException", Cond.methodLink RX4 164 yX4_tableOf, Cond.instanceMethod yX4_tableOf, Cond.selects RX4 yX4_tableOf yX4_tableOf, Cond.code yX4_tableOf cX4_tableOf 2 (some (.object "RobinRow$Table")), Cond.fieldLink RX4 34 "RobinRow" "present" "LRobinRow$Table;", Cond.fieldLink RX4 38 "RobinRow" "old" "LRobinRow$Table;", Cond.methodLink RX4 179 yX3_isEmptyIn, Cond.instanceMethod yX3_isEmptyIn, Cond.selects RX3 yX3_isEmptyIn yX3_isEmptyIn, Cond.initialized RX3, Cond.code yX3_isEmptyIn cX3_isEmptyIn 2 (some .boolean), Cond.fieldLink RX3 9 "RobinRow$Table" "controls" "[B", Cond.methodLink RX4 136 yX3_keyIn, Cond.instanceMethod yX3_keyIn, Cond.selects RX3 yX3_keyIn yX3_keyIn]
def wsX4_keyAt_r2 : List Cond := [Cond.code yX3_keyIn cX3_keyIn 2 (some .int), Cond.fieldLink RX3 19 "RobinRow$Table" "keys" "[I"]
def wsX4_keyAt : List Cond := .code yX4_keyAt cX4_keyAt 4 (some .int) :: ((wsX4_keyAt_r1 ++ wsX4_keyAt_r2) ++ wsX30 ++ wsX40 ++ (vx_atS RX4 76 "java/lang/IllegalStateException" ["java/lang/RuntimeException", "java/lang/Exception"]).filter goodWord ++ (vx_atS RX4 226 "java/lang/IndexOutOfBoundsException" ["java/lang/RuntimeException", "java/lang/Exception"]).filter goodWord)
def wsX4_distanceAt_r1 : List Cond := [Cond.methodLink RX4 171 yX4_tableWithSlot, Cond.instanceMethod yX4_tableWithSlot, Cond.selects RX4 yX4_tableWithSlot yX4_tableWithSlot, Cond.initialized RX4, Cond.code yX4_tableWithSlot cX4_tableWithSlot 4 (some (.object "RobinRow$Table")), Cond.classLink RX4 222 "java/lang/IndexOutOfBoundsException", Cond.initialized "java/lang/IndexOutOfBoundsException", Cond.methodLink RX4 164 yX4_tableOf, Cond.instanceMethod yX4_tableOf, Cond.selects RX4 yX4_tableOf yX4_tableOf, Cond.code yX4_tableOf cX4_tableOf 2 (some (.object "RobinRow$Table")), Cond.fieldLink RX4 34 "RobinRow" "present" "LRobinRow$Table;", Cond.fieldLink RX4 38 "RobinRow" "old" "LRobinRow$Table;", Cond.methodLink RX4 185 yX3_distanceIn, Cond.instanceMethod yX3_distanceIn, Cond.selects RX3 yX3_distanceIn yX3_distanceIn, Cond.initialized RX3, Cond.code yX3_distanceIn cX3_distanceIn 2 (some .int), Cond.fieldLink RX3 15 "RobinRow$Table" "hashes" "[I", Cond.methodLink RX3 42 yX3_isEmptyIn, Cond.instanceMethod yX3_isEmptyIn, Cond.selects RX3 yX3_isEmptyIn yX3_isEmptyIn, Cond.code yX3_isEmptyIn cX3_isEmptyIn 2 (some .boolean), Cond.fieldLink RX3 9 "RobinRow$Table" "controls" "[B"]
def wsX4_distanceAt_r2 : List Cond := [Cond.methodLink RX3 46 yX3_around, Cond.instanceMethod yX3_around, Cond.selects RX3 yX3_around yX3_around, Cond.code yX3_around cX3_around 2 (some .int), Cond.fieldLink RX3 35 "RobinRow$Table" "slots" "I"]
def wsX4_distanceAt : List Cond := .code yX4_distanceAt cX4_distanceAt 3 (some .int) :: ((wsX4_distanceAt_r1 ++ wsX4_distanceAt_r2) ++ wsX30 ++ wsX40 ++ (vx_atS RX4 226 "java/lang/IndexOutOfBoundsException" ["java/lang/RuntimeException", "java/lang/Exception"]).filter goodWord)
def wsX4_longest : List Cond := .code yX4_longest cX4_longest 3 (some .int) :: ([.fieldLink RX4 34 "RobinRow" "present" "LRobinRow$Table;", .methodLink RX4 188 Lib.Math.max.name, .static Lib.Math.max.name, .initialized "java/lang/Math", .code Lib.Math.max.name Lib.Math.max.code 2 (some .int), .methodLink RX4 185 yX3_distanceIn, .instanceMethod yX3_distanceIn, .selects RX3 yX3_distanceIn yX3_distanceIn, .initialized RX3, .code yX3_distanceIn cX3_distanceIn 2 (some .int), .fieldLink RX3 15 "RobinRow$Table" "hashes" "[I", .methodLink RX3 42 yX3_isEmptyIn, .instanceMethod yX3_isEmptyIn, .selects RX3 yX3_isEmptyIn yX3_isEmptyIn, .code yX3_isEmptyIn cX3_isEmptyIn 2 (some .boolean), .fieldLink RX3 9 "RobinRow$Table" "controls" "[B", .methodLink RX3 46 yX3_around, .instanceMethod yX3_around, .selects RX3 yX3_around yX3_around, .code yX3_around cX3_around 2 (some .int), .fieldLink RX3 35 "RobinRow$Table" "slots" "I"] ++ wsX40 ++ wsX30)
def wsX4_total : List Cond := .code yX4_total cX4_total 3 (some .int) :: ([.fieldLink RX4 34 "RobinRow" "present" "LRobinRow$Table;", .methodLink RX4 188 Lib.Math.max.name, .static Lib.Math.max.name, .initialized "java/lang/Math", .code Lib.Math.max.name Lib.Math.max.code 2 (some .int), .methodLink RX4 185 yX3_distanceIn, .instanceMethod yX3_distanceIn, .selects RX3 yX3_distanceIn yX3_distanceIn, .initialized RX3, .code yX3_distanceIn cX3_distanceIn 2 (some .int), .fieldLink RX3 15 "RobinRow$Table" "hashes" "[I", .methodLink RX3 42 yX3_isEmptyIn, .instanceMethod yX3_isEmptyIn, .selects RX3 yX3_isEmptyIn yX3_isEmptyIn, .code yX3_isEmptyIn cX3_isEmptyIn 2 (some .boolean), .fieldLink RX3 9 "RobinRow$Table" "controls" "[B", .methodLink RX3 46 yX3_around, .instanceMethod yX3_around, .selects RX3 yX3_around yX3_around, .code yX3_around cX3_around 2 (some .int), .fieldLink RX3 35 "RobinRow$Table" "slots" "I"] ++ wsX40 ++ wsX30)
def wsX4_groups_r1 : List Cond := [Cond.fieldLink RX4 18 "RobinRow" "search" "LRobinRow$Search;", Cond.methodLink RX4 80 yX4_lookUp, Cond.instanceMethod yX4_lookUp, Cond.selects RX4 yX4_lookUp yX4_lookUp, Cond.initialized RX4, Cond.code yX4_lookUp cX4_lookUp 3 none, Cond.fieldLink RX4 34 "RobinRow" "present" "LRobinRow$Table;", Cond.fieldLink RX4 38 "RobinRow" "old" "LRobinRow$Table;", Cond.methodLink RX4 199 yX4_hash, Cond.instanceMethod yX4_hash, Cond.selects RX4 yX4_hash yX4_hash, Cond.code yX4_hash cX4_hash 3 (some .int), Cond.fieldLink RX4 42 "RobinRow" "way" "I", Cond.constant RX4 163 (-1640531535), Cond.methodLink RX4 202 yX1_begin, Cond.instanceMethod yX1_begin, Cond.selects RX1 yX1_begin yX1_begin, Cond.initialized RX1, Cond.code yX1_begin cX1_begin 1 none, Cond.fieldLink RX1 9 "RobinRow$Search" "table" "LRobinRow$Table;", Cond.fieldLink RX1 15 "RobinRow$Search" "groups" "I", Cond.fieldLink RX1 19 "RobinRow$Search" "comparisons" "I", Cond.methodLink RX4 203 yX1_lookIn, Cond.instanceMethod yX1_lookIn]
def wsX4_groups_r2 : List Cond := [Cond.selects RX1 yX1_lookIn yX1_lookIn, Cond.code yX1_lookIn cX1_lookIn 7 none, Cond.methodLink RX1 27 yX1_lookAtGroup, Cond.instanceMethod yX1_lookAtGroup, Cond.selects RX1 yX1_lookAtGroup yX1_lookAtGroup, Cond.code yX1_lookAtGroup cX1_lookAtGroup 8 (some .boolean), Cond.fieldLink RX1 50 "RobinRow$Search" "slot" "I", Cond.methodLink RX1 31 yX1_hasFound, Cond.instanceMethod yX1_hasFound, Cond.selects RX1 yX1_hasFound yX1_hasFound, Cond.code yX1_hasFound cX1_hasFound 1 (some .boolean), Cond.methodLink RX1 35 yX3_around, Cond.instanceMethod yX3_around, Cond.selects RX3 yX3_around yX3_around, Cond.initialized RX3, Cond.code yX3_around cX3_around 2 (some .int), Cond.fieldLink RX3 35 "RobinRow$Table" "slots" "I", Cond.methodLink RX1 39 yX3_isEmptyIn, Cond.instanceMethod yX3_isEmptyIn, Cond.selects RX3 yX3_isEmptyIn yX3_isEmptyIn, Cond.code yX3_isEmptyIn cX3_isEmptyIn 2 (some .boolean), Cond.fieldLink RX3 9 "RobinRow$Table" "controls" "[B", Cond.methodLink RX1 43 yX3_controlIn, Cond.instanceMethod yX3_controlIn]
def wsX4_groups_r3 : List Cond := [Cond.selects RX3 yX3_controlIn yX3_controlIn, Cond.code yX3_controlIn cX3_controlIn 2 (some .byte), Cond.methodLink RX1 47 yX3_keyIn, Cond.instanceMethod yX3_keyIn, Cond.selects RX3 yX3_keyIn yX3_keyIn, Cond.code yX3_keyIn cX3_keyIn 2 (some .int), Cond.fieldLink RX3 19 "RobinRow$Table" "keys" "[I", Cond.methodLink RX4 83 yX1_hasFound]
def wsX4_groups : List Cond := .code yX4_groups cX4_groups 2 (some .int) :: ((wsX4_groups_r1 ++ (wsX4_groups_r2 ++ wsX4_groups_r3)) ++ wsX40 ++ wsX10 ++ wsX30)
def wsX4_comparisons_r1 : List Cond := [Cond.fieldLink RX4 18 "RobinRow" "search" "LRobinRow$Search;", Cond.methodLink RX4 80 yX4_lookUp, Cond.instanceMethod yX4_lookUp, Cond.selects RX4 yX4_lookUp yX4_lookUp, Cond.initialized RX4, Cond.code yX4_lookUp cX4_lookUp 3 none, Cond.fieldLink RX4 34 "RobinRow" "present" "LRobinRow$Table;", Cond.fieldLink RX4 38 "RobinRow" "old" "LRobinRow$Table;", Cond.methodLink RX4 199 yX4_hash, Cond.instanceMethod yX4_hash, Cond.selects RX4 yX4_hash yX4_hash, Cond.code yX4_hash cX4_hash 3 (some .int), Cond.fieldLink RX4 42 "RobinRow" "way" "I", Cond.constant RX4 163 (-1640531535), Cond.methodLink RX4 202 yX1_begin, Cond.instanceMethod yX1_begin, Cond.selects RX1 yX1_begin yX1_begin, Cond.initialized RX1, Cond.code yX1_begin cX1_begin 1 none, Cond.fieldLink RX1 9 "RobinRow$Search" "table" "LRobinRow$Table;", Cond.fieldLink RX1 15 "RobinRow$Search" "groups" "I", Cond.fieldLink RX1 19 "RobinRow$Search" "comparisons" "I", Cond.methodLink RX4 203 yX1_lookIn, Cond.instanceMethod yX1_lookIn]
def wsX4_comparisons_r2 : List Cond := [Cond.selects RX1 yX1_lookIn yX1_lookIn, Cond.code yX1_lookIn cX1_lookIn 7 none, Cond.methodLink RX1 27 yX1_lookAtGroup, Cond.instanceMethod yX1_lookAtGroup, Cond.selects RX1 yX1_lookAtGroup yX1_lookAtGroup, Cond.code yX1_lookAtGroup cX1_lookAtGroup 8 (some .boolean), Cond.fieldLink RX1 50 "RobinRow$Search" "slot" "I", Cond.methodLink RX1 31 yX1_hasFound, Cond.instanceMethod yX1_hasFound, Cond.selects RX1 yX1_hasFound yX1_hasFound, Cond.code yX1_hasFound cX1_hasFound 1 (some .boolean), Cond.methodLink RX1 35 yX3_around, Cond.instanceMethod yX3_around, Cond.selects RX3 yX3_around yX3_around, Cond.initialized RX3, Cond.code yX3_around cX3_around 2 (some .int), Cond.fieldLink RX3 35 "RobinRow$Table" "slots" "I", Cond.methodLink RX1 39 yX3_isEmptyIn, Cond.instanceMethod yX3_isEmptyIn, Cond.selects RX3 yX3_isEmptyIn yX3_isEmptyIn, Cond.code yX3_isEmptyIn cX3_isEmptyIn 2 (some .boolean), Cond.fieldLink RX3 9 "RobinRow$Table" "controls" "[B", Cond.methodLink RX1 43 yX3_controlIn, Cond.instanceMethod yX3_controlIn]
def wsX4_comparisons_r3 : List Cond := [Cond.selects RX3 yX3_controlIn yX3_controlIn, Cond.code yX3_controlIn cX3_controlIn 2 (some .byte), Cond.methodLink RX1 47 yX3_keyIn, Cond.instanceMethod yX3_keyIn, Cond.selects RX3 yX3_keyIn yX3_keyIn, Cond.code yX3_keyIn cX3_keyIn 2 (some .int), Cond.fieldLink RX3 19 "RobinRow$Table" "keys" "[I", Cond.methodLink RX4 83 yX1_hasFound]
def wsX4_comparisons : List Cond := .code yX4_comparisons cX4_comparisons 2 (some .int) :: ((wsX4_comparisons_r1 ++ (wsX4_comparisons_r2 ++ wsX4_comparisons_r3)) ++ wsX40 ++ wsX10 ++ wsX30)
def wsX4_displaced_r1 : List Cond := [Cond.classLink RX4 72 "java/lang/IllegalStateException", Cond.initialized "java/lang/IllegalStateException", Cond.fieldLink RX4 18 "RobinRow" "search" "LRobinRow$Search;", Cond.fieldLink RX4 34 "RobinRow" "present" "LRobinRow$Table;", Cond.methodLink RX4 199 yX4_hash, Cond.instanceMethod yX4_hash, Cond.selects RX4 yX4_hash yX4_hash, Cond.initialized RX4, Cond.code yX4_hash cX4_hash 3 (some .int), Cond.fieldLink RX4 42 "RobinRow" "way" "I", Cond.constant RX4 163 (-1640531535), Cond.methodLink RX4 202 yX1_begin, Cond.instanceMethod yX1_begin, Cond.selects RX1 yX1_begin yX1_begin, Cond.initialized RX1, Cond.code yX1_begin cX1_begin 1 none, Cond.fieldLink RX1 9 "RobinRow$Search" "table" "LRobinRow$Table;", Cond.fieldLink RX1 15 "RobinRow$Search" "groups" "I", Cond.fieldLink RX1 19 "RobinRow$Search" "comparisons" "I", Cond.methodLink RX4 203 yX1_lookIn, Cond.instanceMethod yX1_lookIn, Cond.selects RX1 yX1_lookIn yX1_lookIn, Cond.code yX1_lookIn cX1_lookIn 7 none, Cond.methodLink RX1 27 yX1_lookAtGroup]
def wsX4_displaced_r2 : List Cond := [Cond.instanceMethod yX1_lookAtGroup, Cond.selects RX1 yX1_lookAtGroup yX1_lookAtGroup, Cond.code yX1_lookAtGroup cX1_lookAtGroup 8 (some .boolean), Cond.fieldLink RX1 50 "RobinRow$Search" "slot" "I", Cond.methodLink RX1 31 yX1_hasFound, Cond.instanceMethod yX1_hasFound, Cond.selects RX1 yX1_hasFound yX1_hasFound, Cond.code yX1_hasFound cX1_hasFound 1 (some .boolean), Cond.methodLink RX1 35 yX3_around, Cond.instanceMethod yX3_around, Cond.selects RX3 yX3_around yX3_around, Cond.initialized RX3, Cond.code yX3_around cX3_around 2 (some .int), Cond.fieldLink RX3 35 "RobinRow$Table" "slots" "I", Cond.methodLink RX1 39 yX3_isEmptyIn, Cond.instanceMethod yX3_isEmptyIn, Cond.selects RX3 yX3_isEmptyIn yX3_isEmptyIn, Cond.code yX3_isEmptyIn cX3_isEmptyIn 2 (some .boolean), Cond.fieldLink RX3 9 "RobinRow$Table" "controls" "[B", Cond.methodLink RX1 43 yX3_controlIn, Cond.instanceMethod yX3_controlIn, Cond.selects RX3 yX3_controlIn yX3_controlIn, Cond.code yX3_controlIn cX3_controlIn 2 (some .byte), Cond.methodLink RX1 47 yX3_keyIn]
def wsX4_displaced_r3 : List Cond := [Cond.instanceMethod yX3_keyIn, Cond.selects RX3 yX3_keyIn yX3_keyIn, Cond.code yX3_keyIn cX3_keyIn 2 (some .int), Cond.fieldLink RX3 19 "RobinRow$Table" "keys" "[I", Cond.methodLink RX4 83 yX1_hasFound, Cond.methodLink RX4 209 yX3_displacedBy, Cond.instanceMethod yX3_displacedBy, Cond.selects RX3 yX3_displacedBy yX3_displacedBy, Cond.code yX3_displacedBy cX3_displacedBy 7 (some .int), Cond.methodLink RX3 46 yX3_around, Cond.methodLink RX3 59 yX3_distanceIn, Cond.instanceMethod yX3_distanceIn, Cond.selects RX3 yX3_distanceIn yX3_distanceIn, Cond.code yX3_distanceIn cX3_distanceIn 2 (some .int), Cond.fieldLink RX3 15 "RobinRow$Table" "hashes" "[I", Cond.methodLink RX3 42 yX3_isEmptyIn]
def wsX4_displaced : List Cond := .code yX4_displaced cX4_displaced 3 (some .int) :: ((wsX4_displaced_r1 ++ (wsX4_displaced_r2 ++ wsX4_displaced_r3)) ++ wsX40 ++ wsX10 ++ wsX30 ++ (vx_atS RX4 76 "java/lang/IllegalStateException" ["java/lang/RuntimeException", "java/lang/Exception"]).filter goodWord)
def wsX4_plainTotal_r1 : List Cond := [Cond.fieldLink RX4 25 "RobinRow" "plainRow" "LRobinRow$PlainRow;", Cond.fieldLink RX4 34 "RobinRow" "present" "LRobinRow$Table;", Cond.methodLink RX4 212 yX0_fillFrom, Cond.instanceMethod yX0_fillFrom, Cond.selects RX0 yX0_fillFrom yX0_fillFrom, Cond.initialized RX0, Cond.code yX0_fillFrom cX0_fillFrom 5 none, Cond.fieldLink RX0 19 "RobinRow$PlainRow" "total" "I", Cond.fieldLink RX0 23 "RobinRow$PlainRow" "longest" "I", Cond.fieldLink RX0 15 "RobinRow$PlainRow" "taken" "[Z", Cond.fieldLink RX0 9 "RobinRow$PlainRow" "rising" "[I", Cond.methodLink RX0 40 Lib.Math.max.name, Cond.static Lib.Math.max.name, Cond.initialized "java/lang/Math", Cond.code Lib.Math.max.name Lib.Math.max.code 2 (some .int), Cond.methodLink RX0 26 yX0_sortByKeys, Cond.instanceMethod yX0_sortByKeys, Cond.selects RX0 yX0_sortByKeys yX0_sortByKeys, Cond.code yX0_sortByKeys cX0_sortByKeys 5 (some .int), Cond.methodLink RX0 49 yX3_isEmptyIn, Cond.instanceMethod yX3_isEmptyIn, Cond.selects RX3 yX3_isEmptyIn yX3_isEmptyIn, Cond.initialized RX3, Cond.code yX3_isEmptyIn cX3_isEmptyIn 2 (some .boolean)]
def wsX4_plainTotal_r2 : List Cond := [Cond.fieldLink RX3 9 "RobinRow$Table" "controls" "[B", Cond.methodLink RX0 53 yX3_keyIn, Cond.instanceMethod yX3_keyIn, Cond.selects RX3 yX3_keyIn yX3_keyIn, Cond.code yX3_keyIn cX3_keyIn 2 (some .int), Cond.fieldLink RX3 19 "RobinRow$Table" "keys" "[I", Cond.methodLink RX0 30 yX3_hashIn, Cond.instanceMethod yX3_hashIn, Cond.selects RX3 yX3_hashIn yX3_hashIn, Cond.code yX3_hashIn cX3_hashIn 2 (some .int), Cond.fieldLink RX3 15 "RobinRow$Table" "hashes" "[I", Cond.methodLink RX0 36 yX0_takeFirstFree, Cond.instanceMethod yX0_takeFirstFree, Cond.selects RX0 yX0_takeFirstFree yX0_takeFirstFree, Cond.code yX0_takeFirstFree cX0_takeFirstFree 4 (some .int), Cond.methodLink RX0 56 yX3_around, Cond.instanceMethod yX3_around, Cond.selects RX3 yX3_around yX3_around, Cond.code yX3_around cX3_around 2 (some .int), Cond.fieldLink RX3 35 "RobinRow$Table" "slots" "I"]
def wsX4_plainTotal : List Cond := .code yX4_plainTotal cX4_plainTotal 1 (some .int) :: ((wsX4_plainTotal_r1 ++ wsX4_plainTotal_r2) ++ wsX40 ++ wsX00 ++ wsX30)
def wsX4_plainLongest_r1 : List Cond := [Cond.fieldLink RX4 25 "RobinRow" "plainRow" "LRobinRow$PlainRow;", Cond.fieldLink RX4 34 "RobinRow" "present" "LRobinRow$Table;", Cond.methodLink RX4 212 yX0_fillFrom, Cond.instanceMethod yX0_fillFrom, Cond.selects RX0 yX0_fillFrom yX0_fillFrom, Cond.initialized RX0, Cond.code yX0_fillFrom cX0_fillFrom 5 none, Cond.fieldLink RX0 19 "RobinRow$PlainRow" "total" "I", Cond.fieldLink RX0 23 "RobinRow$PlainRow" "longest" "I", Cond.fieldLink RX0 15 "RobinRow$PlainRow" "taken" "[Z", Cond.fieldLink RX0 9 "RobinRow$PlainRow" "rising" "[I", Cond.methodLink RX0 40 Lib.Math.max.name, Cond.static Lib.Math.max.name, Cond.initialized "java/lang/Math", Cond.code Lib.Math.max.name Lib.Math.max.code 2 (some .int), Cond.methodLink RX0 26 yX0_sortByKeys, Cond.instanceMethod yX0_sortByKeys, Cond.selects RX0 yX0_sortByKeys yX0_sortByKeys, Cond.code yX0_sortByKeys cX0_sortByKeys 5 (some .int), Cond.methodLink RX0 49 yX3_isEmptyIn, Cond.instanceMethod yX3_isEmptyIn, Cond.selects RX3 yX3_isEmptyIn yX3_isEmptyIn, Cond.initialized RX3, Cond.code yX3_isEmptyIn cX3_isEmptyIn 2 (some .boolean)]
def wsX4_plainLongest_r2 : List Cond := [Cond.fieldLink RX3 9 "RobinRow$Table" "controls" "[B", Cond.methodLink RX0 53 yX3_keyIn, Cond.instanceMethod yX3_keyIn, Cond.selects RX3 yX3_keyIn yX3_keyIn, Cond.code yX3_keyIn cX3_keyIn 2 (some .int), Cond.fieldLink RX3 19 "RobinRow$Table" "keys" "[I", Cond.methodLink RX0 30 yX3_hashIn, Cond.instanceMethod yX3_hashIn, Cond.selects RX3 yX3_hashIn yX3_hashIn, Cond.code yX3_hashIn cX3_hashIn 2 (some .int), Cond.fieldLink RX3 15 "RobinRow$Table" "hashes" "[I", Cond.methodLink RX0 36 yX0_takeFirstFree, Cond.instanceMethod yX0_takeFirstFree, Cond.selects RX0 yX0_takeFirstFree yX0_takeFirstFree, Cond.code yX0_takeFirstFree cX0_takeFirstFree 4 (some .int), Cond.methodLink RX0 56 yX3_around, Cond.instanceMethod yX3_around, Cond.selects RX3 yX3_around yX3_around, Cond.code yX3_around cX3_around 2 (some .int), Cond.fieldLink RX3 35 "RobinRow$Table" "slots" "I"]
def wsX4_plainLongest : List Cond := .code yX4_plainLongest cX4_plainLongest 1 (some .int) :: ((wsX4_plainLongest_r1 ++ wsX4_plainLongest_r2) ++ wsX40 ++ wsX00 ++ wsX30)
def wsX5_init : List Cond := .code yX5_init cX5_init 1 none :: ([.methodLink RX5 1 objectInit, .instanceMethod objectInit, .code objectInit ⟨#[0xb1]⟩ 1 none, .arrayClass .int, .fieldLink RX5 7 "RobinRowModel" "keys" "[I", .fieldLink RX5 13 "RobinRowModel" "values" "[I", .arrayClass .boolean, .fieldLink RX5 16 "RobinRowModel" "isFull" "[Z", .fieldLink RX5 20 "RobinRowModel" "slots" "[I", .fieldLink RX5 23 "RobinRowModel" "many" "[I", .fieldLink RX5 26 "RobinRowModel" "way" "I", .fieldLink RX5 30 "RobinRowModel" "isOpen" "[Z", .arrayClass .long, .fieldLink RX5 33 "RobinRowModel" "last" "[J", .fieldLink RX5 37 "RobinRowModel" "lastKey" "[I", .fieldLink RX5 40 "RobinRowModel" "isTaken" "[Z", .fieldLink RX5 43 "RobinRowModel" "met" "[I", .fieldLink RX5 46 "RobinRowModel" "plainFull" "[Z"] ++ wsX50)
def wsX5_thrown : List Cond := .code yX5_thrown cX5_thrown 1 (some .int) :: ([.fieldLink RX5 49 "RobinRowModel" "thrown" "I"] ++ wsX50)
def wsX5_in : List Cond := .code yX5_in cX5_in 3 (some .boolean) :: ([])
def wsX5_isFine : List Cond := .code yX5_isFine cX5_isFine 2 (some .boolean) :: ([.fieldLink RX5 49 "RobinRowModel" "thrown" "I"] ++ wsX50)
def wsX5_hashOf : List Cond := .code yX5_hashOf cX5_hashOf 3 (some .int) :: ([.fieldLink RX5 26 "RobinRowModel" "way" "I", .constant RX5 52 (-1640531535)] ++ wsX50)
def wsX5_home : List Cond := .code yX5_home cX5_home 3 (some .int) :: ([.fieldLink RX5 20 "RobinRowModel" "slots" "[I", .methodLink RX5 53 yX5_hashOf, .instanceMethod yX5_hashOf, .selects RX5 yX5_hashOf yX5_hashOf, .initialized RX5, .code yX5_hashOf cX5_hashOf 3 (some .int), .fieldLink RX5 26 "RobinRowModel" "way" "I", .constant RX5 52 (-1640531535)] ++ wsX50)
def wsX5_distance : List Cond := .code yX5_distance cX5_distance 3 (some .int) :: ([.fieldLink RX5 7 "RobinRowModel" "keys" "[I", .fieldLink RX5 20 "RobinRowModel" "slots" "[I", .methodLink RX5 57 yX5_home, .instanceMethod yX5_home, .selects RX5 yX5_home yX5_home, .initialized RX5, .code yX5_home cX5_home 3 (some .int), .methodLink RX5 53 yX5_hashOf, .instanceMethod yX5_hashOf, .selects RX5 yX5_hashOf yX5_hashOf, .code yX5_hashOf cX5_hashOf 3 (some .int), .fieldLink RX5 26 "RobinRowModel" "way" "I", .constant RX5 52 (-1640531535)] ++ wsX50)
def wsX5_slotOf : List Cond := .code yX5_slotOf cX5_slotOf 5 (some .int) :: ([.fieldLink RX5 20 "RobinRowModel" "slots" "[I", .fieldLink RX5 16 "RobinRowModel" "isFull" "[Z", .fieldLink RX5 7 "RobinRowModel" "keys" "[I"] ++ wsX50)
def wsX5_carries : List Cond := .code yX5_carries cX5_carries 13 (some .int) :: ([.fieldLink RX5 16 "RobinRowModel" "isFull" "[Z", .fieldLink RX5 7 "RobinRowModel" "keys" "[I", .fieldLink RX5 13 "RobinRowModel" "values" "[I", .fieldLink RX5 20 "RobinRowModel" "slots" "[I", .fieldLink RX5 23 "RobinRowModel" "many" "[I", .methodLink RX5 57 yX5_home, .instanceMethod yX5_home, .selects RX5 yX5_home yX5_home, .initialized RX5, .code yX5_home cX5_home 3 (some .int), .methodLink RX5 53 yX5_hashOf, .instanceMethod yX5_hashOf, .selects RX5 yX5_hashOf yX5_hashOf, .code yX5_hashOf cX5_hashOf 3 (some .int), .fieldLink RX5 26 "RobinRowModel" "way" "I", .constant RX5 52 (-1640531535), .methodLink RX5 61 yX5_distance, .instanceMethod yX5_distance, .selects RX5 yX5_distance yX5_distance, .code yX5_distance cX5_distance 3 (some .int)] ++ wsX50)
def wsX5_takes : List Cond := .code yX5_takes cX5_takes 5 none :: ([.fieldLink RX5 20 "RobinRowModel" "slots" "[I", .fieldLink RX5 16 "RobinRowModel" "isFull" "[Z", .fieldLink RX5 7 "RobinRowModel" "keys" "[I", .fieldLink RX5 13 "RobinRowModel" "values" "[I", .fieldLink RX5 23 "RobinRowModel" "many" "[I", .fieldLink RX5 64 "RobinRowModel" "present" "I", .methodLink RX5 61 yX5_distance, .instanceMethod yX5_distance, .selects RX5 yX5_distance yX5_distance, .initialized RX5, .code yX5_distance cX5_distance 3 (some .int), .methodLink RX5 57 yX5_home, .instanceMethod yX5_home, .selects RX5 yX5_home yX5_home, .code yX5_home cX5_home 3 (some .int), .methodLink RX5 53 yX5_hashOf, .instanceMethod yX5_hashOf, .selects RX5 yX5_hashOf yX5_hashOf, .code yX5_hashOf cX5_hashOf 3 (some .int), .fieldLink RX5 26 "RobinRowModel" "way" "I", .constant RX5 52 (-1640531535)] ++ wsX50)
def wsX5_slice_r1 : List Cond := [Cond.fieldLink RX5 64 "RobinRowModel" "present" "I", Cond.fieldLink RX5 23 "RobinRowModel" "many" "[I", Cond.fieldLink RX5 16 "RobinRowModel" "isFull" "[Z", Cond.fieldLink RX5 7 "RobinRowModel" "keys" "[I", Cond.fieldLink RX5 13 "RobinRowModel" "values" "[I", Cond.methodLink RX5 67 yX5_takes, Cond.instanceMethod yX5_takes, Cond.selects RX5 yX5_takes yX5_takes, Cond.initialized RX5, Cond.code yX5_takes cX5_takes 5 none, Cond.fieldLink RX5 20 "RobinRowModel" "slots" "[I", Cond.methodLink RX5 61 yX5_distance, Cond.instanceMethod yX5_distance, Cond.selects RX5 yX5_distance yX5_distance, Cond.code yX5_distance cX5_distance 3 (some .int), Cond.methodLink RX5 57 yX5_home, Cond.instanceMethod yX5_home, Cond.selects RX5 yX5_home yX5_home, Cond.code yX5_home cX5_home 3 (some .int), Cond.methodLink RX5 53 yX5_hashOf, Cond.instanceMethod yX5_hashOf, Cond.selects RX5 yX5_hashOf yX5_hashOf, Cond.code yX5_hashOf cX5_hashOf 3 (some .int), Cond.fieldLink RX5 26 "RobinRowModel" "way" "I"]
def wsX5_slice_r2 : List Cond := [Cond.constant RX5 52 (-1640531535), Cond.methodLink RX5 71 yX5_carries, Cond.instanceMethod yX5_carries, Cond.selects RX5 yX5_carries yX5_carries, Cond.code yX5_carries cX5_carries 13 (some .int)]
def wsX5_slice : List Cond := .code yX5_slice cX5_slice 6 (some .int) :: ((wsX5_slice_r1 ++ wsX5_slice_r2) ++ wsX50)
def wsX5_clear : List Cond := .code yX5_clear cX5_clear 3 none :: ([.fieldLink RX5 26 "RobinRowModel" "way" "I", .fieldLink RX5 16 "RobinRowModel" "isFull" "[Z", .fieldLink RX5 64 "RobinRowModel" "present" "I", .fieldLink RX5 20 "RobinRowModel" "slots" "[I", .fieldLink RX5 23 "RobinRowModel" "many" "[I", .fieldLink RX5 83 "RobinRowModel" "moves" "I", .fieldLink RX5 30 "RobinRowModel" "isOpen" "[Z", .methodLink RX5 75 yX5_in, .static yX5_in, .initialized RX5, .code yX5_in cX5_in 3 (some .boolean), .methodLink RX5 79 yX5_isFine, .instanceMethod yX5_isFine, .selects RX5 yX5_isFine yX5_isFine, .code yX5_isFine cX5_isFine 2 (some .boolean), .fieldLink RX5 49 "RobinRowModel" "thrown" "I"] ++ wsX50)
def wsX5_isThere : List Cond := .code yX5_isThere cX5_isThere 2 (some .boolean) :: ([.methodLink RX5 86 yX5_slotOf, .instanceMethod yX5_slotOf, .selects RX5 yX5_slotOf yX5_slotOf, .initialized RX5, .code yX5_slotOf cX5_slotOf 5 (some .int), .fieldLink RX5 20 "RobinRowModel" "slots" "[I", .fieldLink RX5 16 "RobinRowModel" "isFull" "[Z", .fieldLink RX5 7 "RobinRowModel" "keys" "[I"] ++ wsX50)
def wsX5_placeOf : List Cond := .code yX5_placeOf cX5_placeOf 3 (some .int) :: ([.methodLink RX5 86 yX5_slotOf, .instanceMethod yX5_slotOf, .selects RX5 yX5_slotOf yX5_slotOf, .initialized RX5, .code yX5_slotOf cX5_slotOf 5 (some .int), .fieldLink RX5 20 "RobinRowModel" "slots" "[I", .fieldLink RX5 16 "RobinRowModel" "isFull" "[Z", .fieldLink RX5 7 "RobinRowModel" "keys" "[I", .methodLink RX5 89 yX5_isThere, .instanceMethod yX5_isThere, .selects RX5 yX5_isThere yX5_isThere, .code yX5_isThere cX5_isThere 2 (some .boolean)] ++ wsX50)
def wsX5_put_r1 : List Cond := [Cond.fieldLink RX5 23 "RobinRowModel" "many" "[I", Cond.fieldLink RX5 13 "RobinRowModel" "values" "[I", Cond.fieldLink RX5 20 "RobinRowModel" "slots" "[I", Cond.fieldLink RX5 64 "RobinRowModel" "present" "I", Cond.fieldLink RX5 83 "RobinRowModel" "moves" "I", Cond.methodLink RX5 92 yX5_placeOf, Cond.instanceMethod yX5_placeOf, Cond.selects RX5 yX5_placeOf yX5_placeOf, Cond.initialized RX5, Cond.code yX5_placeOf cX5_placeOf 3 (some .int), Cond.methodLink RX5 86 yX5_slotOf, Cond.instanceMethod yX5_slotOf, Cond.selects RX5 yX5_slotOf yX5_slotOf, Cond.code yX5_slotOf cX5_slotOf 5 (some .int), Cond.fieldLink RX5 16 "RobinRowModel" "isFull" "[Z", Cond.fieldLink RX5 7 "RobinRowModel" "keys" "[I", Cond.methodLink RX5 89 yX5_isThere, Cond.instanceMethod yX5_isThere, Cond.selects RX5 yX5_isThere yX5_isThere, Cond.code yX5_isThere cX5_isThere 2 (some .boolean), Cond.methodLink RX5 79 yX5_isFine, Cond.instanceMethod yX5_isFine, Cond.selects RX5 yX5_isFine yX5_isFine, Cond.code yX5_isFine cX5_isFine 2 (some .boolean)]
def wsX5_put_r2 : List Cond := [Cond.fieldLink RX5 49 "RobinRowModel" "thrown" "I", Cond.methodLink RX5 95 yX5_slice, Cond.instanceMethod yX5_slice, Cond.selects RX5 yX5_slice yX5_slice, Cond.code yX5_slice cX5_slice 6 (some .int), Cond.methodLink RX5 67 yX5_takes, Cond.instanceMethod yX5_takes, Cond.selects RX5 yX5_takes yX5_takes, Cond.code yX5_takes cX5_takes 5 none, Cond.methodLink RX5 61 yX5_distance, Cond.instanceMethod yX5_distance, Cond.selects RX5 yX5_distance yX5_distance, Cond.code yX5_distance cX5_distance 3 (some .int), Cond.methodLink RX5 57 yX5_home, Cond.instanceMethod yX5_home, Cond.selects RX5 yX5_home yX5_home, Cond.code yX5_home cX5_home 3 (some .int), Cond.methodLink RX5 53 yX5_hashOf, Cond.instanceMethod yX5_hashOf, Cond.selects RX5 yX5_hashOf yX5_hashOf, Cond.code yX5_hashOf cX5_hashOf 3 (some .int), Cond.fieldLink RX5 26 "RobinRowModel" "way" "I", Cond.constant RX5 52 (-1640531535), Cond.methodLink RX5 71 yX5_carries]
def wsX5_put_r3 : List Cond := [Cond.instanceMethod yX5_carries, Cond.selects RX5 yX5_carries yX5_carries, Cond.code yX5_carries cX5_carries 13 (some .int)]
def wsX5_put : List Cond := .code yX5_put cX5_put 5 (some .int) :: ((wsX5_put_r1 ++ (wsX5_put_r2 ++ wsX5_put_r3)) ++ wsX50)
def wsX5_get : List Cond := .code yX5_get cX5_get 3 (some .int) :: ([.fieldLink RX5 49 "RobinRowModel" "thrown" "I", .fieldLink RX5 13 "RobinRowModel" "values" "[I", .methodLink RX5 92 yX5_placeOf, .instanceMethod yX5_placeOf, .selects RX5 yX5_placeOf yX5_placeOf, .initialized RX5, .code yX5_placeOf cX5_placeOf 3 (some .int), .methodLink RX5 86 yX5_slotOf, .instanceMethod yX5_slotOf, .selects RX5 yX5_slotOf yX5_slotOf, .code yX5_slotOf cX5_slotOf 5 (some .int), .fieldLink RX5 20 "RobinRowModel" "slots" "[I", .fieldLink RX5 16 "RobinRowModel" "isFull" "[Z", .fieldLink RX5 7 "RobinRowModel" "keys" "[I", .methodLink RX5 89 yX5_isThere, .instanceMethod yX5_isThere, .selects RX5 yX5_isThere yX5_isThere, .code yX5_isThere cX5_isThere 2 (some .boolean)] ++ wsX50)
def wsX5_removes_r1 : List Cond := [Cond.fieldLink RX5 13 "RobinRowModel" "values" "[I", Cond.methodLink RX5 95 yX5_slice, Cond.instanceMethod yX5_slice, Cond.selects RX5 yX5_slice yX5_slice, Cond.initialized RX5, Cond.code yX5_slice cX5_slice 6 (some .int), Cond.fieldLink RX5 64 "RobinRowModel" "present" "I", Cond.fieldLink RX5 23 "RobinRowModel" "many" "[I", Cond.fieldLink RX5 16 "RobinRowModel" "isFull" "[Z", Cond.fieldLink RX5 7 "RobinRowModel" "keys" "[I", Cond.methodLink RX5 67 yX5_takes, Cond.instanceMethod yX5_takes, Cond.selects RX5 yX5_takes yX5_takes, Cond.code yX5_takes cX5_takes 5 none, Cond.fieldLink RX5 20 "RobinRowModel" "slots" "[I", Cond.methodLink RX5 61 yX5_distance, Cond.instanceMethod yX5_distance, Cond.selects RX5 yX5_distance yX5_distance, Cond.code yX5_distance cX5_distance 3 (some .int), Cond.methodLink RX5 57 yX5_home, Cond.instanceMethod yX5_home, Cond.selects RX5 yX5_home yX5_home, Cond.code yX5_home cX5_home 3 (some .int), Cond.methodLink RX5 53 yX5_hashOf]
def wsX5_removes_r2 : List Cond := [Cond.instanceMethod yX5_hashOf, Cond.selects RX5 yX5_hashOf yX5_hashOf, Cond.code yX5_hashOf cX5_hashOf 3 (some .int), Cond.fieldLink RX5 26 "RobinRowModel" "way" "I", Cond.constant RX5 52 (-1640531535), Cond.methodLink RX5 71 yX5_carries, Cond.instanceMethod yX5_carries, Cond.selects RX5 yX5_carries yX5_carries, Cond.code yX5_carries cX5_carries 13 (some .int), Cond.methodLink RX5 92 yX5_placeOf, Cond.instanceMethod yX5_placeOf, Cond.selects RX5 yX5_placeOf yX5_placeOf, Cond.code yX5_placeOf cX5_placeOf 3 (some .int), Cond.methodLink RX5 86 yX5_slotOf, Cond.instanceMethod yX5_slotOf, Cond.selects RX5 yX5_slotOf yX5_slotOf, Cond.code yX5_slotOf cX5_slotOf 5 (some .int), Cond.methodLink RX5 89 yX5_isThere, Cond.instanceMethod yX5_isThere, Cond.selects RX5 yX5_isThere yX5_isThere, Cond.code yX5_isThere cX5_isThere 2 (some .boolean)]
def wsX5_removes : List Cond := .code yX5_removes cX5_removes 4 (some .int) :: ((wsX5_removes_r1 ++ wsX5_removes_r2) ++ wsX50)
def wsX5_remove_r1 : List Cond := [Cond.fieldLink RX5 49 "RobinRowModel" "thrown" "I", Cond.methodLink RX5 99 yX5_removes, Cond.instanceMethod yX5_removes, Cond.selects RX5 yX5_removes yX5_removes, Cond.initialized RX5, Cond.code yX5_removes cX5_removes 4 (some .int), Cond.fieldLink RX5 13 "RobinRowModel" "values" "[I", Cond.methodLink RX5 95 yX5_slice, Cond.instanceMethod yX5_slice, Cond.selects RX5 yX5_slice yX5_slice, Cond.code yX5_slice cX5_slice 6 (some .int), Cond.fieldLink RX5 64 "RobinRowModel" "present" "I", Cond.fieldLink RX5 23 "RobinRowModel" "many" "[I", Cond.fieldLink RX5 16 "RobinRowModel" "isFull" "[Z", Cond.fieldLink RX5 7 "RobinRowModel" "keys" "[I", Cond.methodLink RX5 67 yX5_takes, Cond.instanceMethod yX5_takes, Cond.selects RX5 yX5_takes yX5_takes, Cond.code yX5_takes cX5_takes 5 none, Cond.fieldLink RX5 20 "RobinRowModel" "slots" "[I", Cond.methodLink RX5 61 yX5_distance, Cond.instanceMethod yX5_distance, Cond.selects RX5 yX5_distance yX5_distance, Cond.code yX5_distance cX5_distance 3 (some .int)]
def wsX5_remove_r2 : List Cond := [Cond.methodLink RX5 57 yX5_home, Cond.instanceMethod yX5_home, Cond.selects RX5 yX5_home yX5_home, Cond.code yX5_home cX5_home 3 (some .int), Cond.methodLink RX5 53 yX5_hashOf, Cond.instanceMethod yX5_hashOf, Cond.selects RX5 yX5_hashOf yX5_hashOf, Cond.code yX5_hashOf cX5_hashOf 3 (some .int), Cond.fieldLink RX5 26 "RobinRowModel" "way" "I", Cond.constant RX5 52 (-1640531535), Cond.methodLink RX5 71 yX5_carries, Cond.instanceMethod yX5_carries, Cond.selects RX5 yX5_carries yX5_carries, Cond.code yX5_carries cX5_carries 13 (some .int), Cond.methodLink RX5 92 yX5_placeOf, Cond.instanceMethod yX5_placeOf, Cond.selects RX5 yX5_placeOf yX5_placeOf, Cond.code yX5_placeOf cX5_placeOf 3 (some .int), Cond.methodLink RX5 86 yX5_slotOf, Cond.instanceMethod yX5_slotOf, Cond.selects RX5 yX5_slotOf yX5_slotOf, Cond.code yX5_slotOf cX5_slotOf 5 (some .int), Cond.methodLink RX5 89 yX5_isThere, Cond.instanceMethod yX5_isThere]
def wsX5_remove_r3 : List Cond := [Cond.selects RX5 yX5_isThere yX5_isThere, Cond.code yX5_isThere cX5_isThere 2 (some .boolean)]
def wsX5_remove : List Cond := .code yX5_remove cX5_remove 2 (some .int) :: ((wsX5_remove_r1 ++ (wsX5_remove_r2 ++ wsX5_remove_r3)) ++ wsX50)
def wsX5_move_r1 : List Cond := [Cond.fieldLink RX5 49 "RobinRowModel" "thrown" "I", Cond.methodLink RX5 95 yX5_slice, Cond.instanceMethod yX5_slice, Cond.selects RX5 yX5_slice yX5_slice, Cond.initialized RX5, Cond.code yX5_slice cX5_slice 6 (some .int), Cond.fieldLink RX5 64 "RobinRowModel" "present" "I", Cond.fieldLink RX5 23 "RobinRowModel" "many" "[I", Cond.fieldLink RX5 16 "RobinRowModel" "isFull" "[Z", Cond.fieldLink RX5 7 "RobinRowModel" "keys" "[I", Cond.fieldLink RX5 13 "RobinRowModel" "values" "[I", Cond.methodLink RX5 67 yX5_takes, Cond.instanceMethod yX5_takes, Cond.selects RX5 yX5_takes yX5_takes, Cond.code yX5_takes cX5_takes 5 none, Cond.fieldLink RX5 20 "RobinRowModel" "slots" "[I", Cond.methodLink RX5 61 yX5_distance, Cond.instanceMethod yX5_distance, Cond.selects RX5 yX5_distance yX5_distance, Cond.code yX5_distance cX5_distance 3 (some .int), Cond.methodLink RX5 57 yX5_home, Cond.instanceMethod yX5_home, Cond.selects RX5 yX5_home yX5_home, Cond.code yX5_home cX5_home 3 (some .int)]
def wsX5_move_r2 : List Cond := [Cond.methodLink RX5 53 yX5_hashOf, Cond.instanceMethod yX5_hashOf, Cond.selects RX5 yX5_hashOf yX5_hashOf, Cond.code yX5_hashOf cX5_hashOf 3 (some .int), Cond.fieldLink RX5 26 "RobinRowModel" "way" "I", Cond.constant RX5 52 (-1640531535), Cond.methodLink RX5 71 yX5_carries, Cond.instanceMethod yX5_carries, Cond.selects RX5 yX5_carries yX5_carries, Cond.code yX5_carries cX5_carries 13 (some .int)]
def wsX5_move : List Cond := .code yX5_move cX5_move 1 (some .int) :: ((wsX5_move_r1 ++ wsX5_move_r2) ++ wsX50)
def wsX5_size : List Cond := .code yX5_size cX5_size 1 (some .int) :: ([.fieldLink RX5 49 "RobinRowModel" "thrown" "I", .fieldLink RX5 23 "RobinRowModel" "many" "[I"] ++ wsX50)
def wsX5_moves : List Cond := .code yX5_moves cX5_moves 1 (some .int) :: ([.fieldLink RX5 49 "RobinRowModel" "thrown" "I", .fieldLink RX5 83 "RobinRowModel" "moves" "I"] ++ wsX50)
def wsX5_orderOf : List Cond := .code yX5_orderOf cX5_orderOf 6 (some .long) :: ([.constantLong RX5 102 (2), .methodLink RX5 53 yX5_hashOf, .instanceMethod yX5_hashOf, .selects RX5 yX5_hashOf yX5_hashOf, .initialized RX5, .code yX5_hashOf cX5_hashOf 3 (some .int), .fieldLink RX5 26 "RobinRowModel" "way" "I", .constant RX5 52 (-1640531535)] ++ wsX50)
def wsX5_behind : List Cond := .code yX5_behind cX5_behind 5 (some .int) :: ([.fieldLink RX5 16 "RobinRowModel" "isFull" "[Z", .fieldLink RX5 7 "RobinRowModel" "keys" "[I", .methodLink RX5 104 yX5_orderOf, .instanceMethod yX5_orderOf, .selects RX5 yX5_orderOf yX5_orderOf, .initialized RX5, .code yX5_orderOf cX5_orderOf 6 (some .long), .constantLong RX5 102 (2), .methodLink RX5 53 yX5_hashOf, .instanceMethod yX5_hashOf, .selects RX5 yX5_hashOf yX5_hashOf, .code yX5_hashOf cX5_hashOf 3 (some .int), .fieldLink RX5 26 "RobinRowModel" "way" "I", .constant RX5 52 (-1640531535)] ++ wsX50)
def wsX5_openSweep : List Cond := .code yX5_openSweep cX5_openSweep 2 (some .int) :: ([.fieldLink RX5 30 "RobinRowModel" "isOpen" "[Z", .fieldLink RX5 33 "RobinRowModel" "last" "[J", .constantLong RX5 108 (-1), .fieldLink RX5 40 "RobinRowModel" "isTaken" "[Z", .fieldLink RX5 43 "RobinRowModel" "met" "[I", .methodLink RX5 79 yX5_isFine, .instanceMethod yX5_isFine, .selects RX5 yX5_isFine yX5_isFine, .initialized RX5, .code yX5_isFine cX5_isFine 2 (some .boolean), .fieldLink RX5 49 "RobinRowModel" "thrown" "I"] ++ wsX50)
def wsX5_isSweep : List Cond := .code yX5_isSweep cX5_isSweep 2 (some .boolean) :: ([.fieldLink RX5 30 "RobinRowModel" "isOpen" "[Z", .methodLink RX5 75 yX5_in, .static yX5_in, .initialized RX5, .code yX5_in cX5_in 3 (some .boolean)] ++ wsX50)
def wsX5_hasNext_r1 : List Cond := [Cond.fieldLink RX5 33 "RobinRowModel" "last" "[J", Cond.methodLink RX5 110 yX5_isSweep, Cond.instanceMethod yX5_isSweep, Cond.selects RX5 yX5_isSweep yX5_isSweep, Cond.initialized RX5, Cond.code yX5_isSweep cX5_isSweep 2 (some .boolean), Cond.fieldLink RX5 30 "RobinRowModel" "isOpen" "[Z", Cond.methodLink RX5 75 yX5_in, Cond.static yX5_in, Cond.code yX5_in cX5_in 3 (some .boolean), Cond.methodLink RX5 79 yX5_isFine, Cond.instanceMethod yX5_isFine, Cond.selects RX5 yX5_isFine yX5_isFine, Cond.code yX5_isFine cX5_isFine 2 (some .boolean), Cond.fieldLink RX5 49 "RobinRowModel" "thrown" "I", Cond.methodLink RX5 113 yX5_behind, Cond.instanceMethod yX5_behind, Cond.selects RX5 yX5_behind yX5_behind, Cond.code yX5_behind cX5_behind 5 (some .int), Cond.fieldLink RX5 16 "RobinRowModel" "isFull" "[Z", Cond.fieldLink RX5 7 "RobinRowModel" "keys" "[I", Cond.methodLink RX5 104 yX5_orderOf, Cond.instanceMethod yX5_orderOf, Cond.selects RX5 yX5_orderOf yX5_orderOf]
def wsX5_hasNext_r2 : List Cond := [Cond.code yX5_orderOf cX5_orderOf 6 (some .long), Cond.constantLong RX5 102 (2), Cond.methodLink RX5 53 yX5_hashOf, Cond.instanceMethod yX5_hashOf, Cond.selects RX5 yX5_hashOf yX5_hashOf, Cond.code yX5_hashOf cX5_hashOf 3 (some .int), Cond.fieldLink RX5 26 "RobinRowModel" "way" "I", Cond.constant RX5 52 (-1640531535)]
def wsX5_hasNext : List Cond := .code yX5_hasNext cX5_hasNext 2 (some .boolean) :: ((wsX5_hasNext_r1 ++ wsX5_hasNext_r2) ++ wsX50)
def wsX5_next_r1 : List Cond := [Cond.fieldLink RX5 33 "RobinRowModel" "last" "[J", Cond.fieldLink RX5 7 "RobinRowModel" "keys" "[I", Cond.fieldLink RX5 37 "RobinRowModel" "lastKey" "[I", Cond.fieldLink RX5 40 "RobinRowModel" "isTaken" "[Z", Cond.fieldLink RX5 43 "RobinRowModel" "met" "[I", Cond.methodLink RX5 110 yX5_isSweep, Cond.instanceMethod yX5_isSweep, Cond.selects RX5 yX5_isSweep yX5_isSweep, Cond.initialized RX5, Cond.code yX5_isSweep cX5_isSweep 2 (some .boolean), Cond.fieldLink RX5 30 "RobinRowModel" "isOpen" "[Z", Cond.methodLink RX5 75 yX5_in, Cond.static yX5_in, Cond.code yX5_in cX5_in 3 (some .boolean), Cond.methodLink RX5 113 yX5_behind, Cond.instanceMethod yX5_behind, Cond.selects RX5 yX5_behind yX5_behind, Cond.code yX5_behind cX5_behind 5 (some .int), Cond.fieldLink RX5 16 "RobinRowModel" "isFull" "[Z", Cond.methodLink RX5 104 yX5_orderOf, Cond.instanceMethod yX5_orderOf, Cond.selects RX5 yX5_orderOf yX5_orderOf, Cond.code yX5_orderOf cX5_orderOf 6 (some .long), Cond.constantLong RX5 102 (2)]
def wsX5_next_r2 : List Cond := [Cond.methodLink RX5 53 yX5_hashOf, Cond.instanceMethod yX5_hashOf, Cond.selects RX5 yX5_hashOf yX5_hashOf, Cond.code yX5_hashOf cX5_hashOf 3 (some .int), Cond.fieldLink RX5 26 "RobinRowModel" "way" "I", Cond.constant RX5 52 (-1640531535), Cond.methodLink RX5 79 yX5_isFine, Cond.instanceMethod yX5_isFine, Cond.selects RX5 yX5_isFine yX5_isFine, Cond.code yX5_isFine cX5_isFine 2 (some .boolean), Cond.fieldLink RX5 49 "RobinRowModel" "thrown" "I"]
def wsX5_next : List Cond := .code yX5_next cX5_next 3 (some .int) :: ((wsX5_next_r1 ++ wsX5_next_r2) ++ wsX50)
def wsX5_removeMet_r1 : List Cond := [Cond.fieldLink RX5 43 "RobinRowModel" "met" "[I", Cond.fieldLink RX5 40 "RobinRowModel" "isTaken" "[Z", Cond.fieldLink RX5 37 "RobinRowModel" "lastKey" "[I", Cond.methodLink RX5 110 yX5_isSweep, Cond.instanceMethod yX5_isSweep, Cond.selects RX5 yX5_isSweep yX5_isSweep, Cond.initialized RX5, Cond.code yX5_isSweep cX5_isSweep 2 (some .boolean), Cond.fieldLink RX5 30 "RobinRowModel" "isOpen" "[Z", Cond.methodLink RX5 75 yX5_in, Cond.static yX5_in, Cond.code yX5_in cX5_in 3 (some .boolean), Cond.methodLink RX5 89 yX5_isThere, Cond.instanceMethod yX5_isThere, Cond.selects RX5 yX5_isThere yX5_isThere, Cond.code yX5_isThere cX5_isThere 2 (some .boolean), Cond.methodLink RX5 86 yX5_slotOf, Cond.instanceMethod yX5_slotOf, Cond.selects RX5 yX5_slotOf yX5_slotOf, Cond.code yX5_slotOf cX5_slotOf 5 (some .int), Cond.fieldLink RX5 20 "RobinRowModel" "slots" "[I", Cond.fieldLink RX5 16 "RobinRowModel" "isFull" "[Z", Cond.fieldLink RX5 7 "RobinRowModel" "keys" "[I", Cond.methodLink RX5 79 yX5_isFine]
def wsX5_removeMet_r2 : List Cond := [Cond.instanceMethod yX5_isFine, Cond.selects RX5 yX5_isFine yX5_isFine, Cond.code yX5_isFine cX5_isFine 2 (some .boolean), Cond.fieldLink RX5 49 "RobinRowModel" "thrown" "I", Cond.methodLink RX5 99 yX5_removes, Cond.instanceMethod yX5_removes, Cond.selects RX5 yX5_removes yX5_removes, Cond.code yX5_removes cX5_removes 4 (some .int), Cond.fieldLink RX5 13 "RobinRowModel" "values" "[I", Cond.methodLink RX5 95 yX5_slice, Cond.instanceMethod yX5_slice, Cond.selects RX5 yX5_slice yX5_slice, Cond.code yX5_slice cX5_slice 6 (some .int), Cond.fieldLink RX5 64 "RobinRowModel" "present" "I", Cond.fieldLink RX5 23 "RobinRowModel" "many" "[I", Cond.methodLink RX5 67 yX5_takes, Cond.instanceMethod yX5_takes, Cond.selects RX5 yX5_takes yX5_takes, Cond.code yX5_takes cX5_takes 5 none, Cond.methodLink RX5 61 yX5_distance, Cond.instanceMethod yX5_distance, Cond.selects RX5 yX5_distance yX5_distance, Cond.code yX5_distance cX5_distance 3 (some .int), Cond.methodLink RX5 57 yX5_home]
def wsX5_removeMet_r3 : List Cond := [Cond.instanceMethod yX5_home, Cond.selects RX5 yX5_home yX5_home, Cond.code yX5_home cX5_home 3 (some .int), Cond.methodLink RX5 53 yX5_hashOf, Cond.instanceMethod yX5_hashOf, Cond.selects RX5 yX5_hashOf yX5_hashOf, Cond.code yX5_hashOf cX5_hashOf 3 (some .int), Cond.fieldLink RX5 26 "RobinRowModel" "way" "I", Cond.constant RX5 52 (-1640531535), Cond.methodLink RX5 71 yX5_carries, Cond.instanceMethod yX5_carries, Cond.selects RX5 yX5_carries yX5_carries, Cond.code yX5_carries cX5_carries 13 (some .int), Cond.methodLink RX5 92 yX5_placeOf, Cond.instanceMethod yX5_placeOf, Cond.selects RX5 yX5_placeOf yX5_placeOf, Cond.code yX5_placeOf cX5_placeOf 3 (some .int)]
def wsX5_removeMet : List Cond := .code yX5_removeMet cX5_removeMet 2 (some .int) :: ((wsX5_removeMet_r1 ++ (wsX5_removeMet_r2 ++ wsX5_removeMet_r3)) ++ wsX50)
def wsX5_closeSweep : List Cond := .code yX5_closeSweep cX5_closeSweep 2 (some .int) :: ([.fieldLink RX5 30 "RobinRowModel" "isOpen" "[Z", .fieldLink RX5 43 "RobinRowModel" "met" "[I", .methodLink RX5 110 yX5_isSweep, .instanceMethod yX5_isSweep, .selects RX5 yX5_isSweep yX5_isSweep, .initialized RX5, .code yX5_isSweep cX5_isSweep 2 (some .boolean), .methodLink RX5 75 yX5_in, .static yX5_in, .code yX5_in cX5_in 3 (some .boolean), .methodLink RX5 79 yX5_isFine, .instanceMethod yX5_isFine, .selects RX5 yX5_isFine yX5_isFine, .code yX5_isFine cX5_isFine 2 (some .boolean), .fieldLink RX5 49 "RobinRowModel" "thrown" "I"] ++ wsX50)
def wsX5_hash : List Cond := .code yX5_hash cX5_hash 2 (some .int) :: ([.fieldLink RX5 49 "RobinRowModel" "thrown" "I", .methodLink RX5 53 yX5_hashOf, .instanceMethod yX5_hashOf, .selects RX5 yX5_hashOf yX5_hashOf, .initialized RX5, .code yX5_hashOf cX5_hashOf 3 (some .int), .fieldLink RX5 26 "RobinRowModel" "way" "I", .constant RX5 52 (-1640531535)] ++ wsX50)
def wsX5_tableOf : List Cond := .code yX5_tableOf cX5_tableOf 2 (some .int) :: ([.fieldLink RX5 64 "RobinRowModel" "present" "I"] ++ wsX50)
def wsX5_slots : List Cond := .code yX5_slots cX5_slots 2 (some .int) :: ([.fieldLink RX5 20 "RobinRowModel" "slots" "[I", .methodLink RX5 75 yX5_in, .static yX5_in, .initialized RX5, .code yX5_in cX5_in 3 (some .boolean), .methodLink RX5 79 yX5_isFine, .instanceMethod yX5_isFine, .selects RX5 yX5_isFine yX5_isFine, .code yX5_isFine cX5_isFine 2 (some .boolean), .fieldLink RX5 49 "RobinRowModel" "thrown" "I", .methodLink RX5 117 yX5_tableOf, .instanceMethod yX5_tableOf, .selects RX5 yX5_tableOf yX5_tableOf, .code yX5_tableOf cX5_tableOf 2 (some .int), .fieldLink RX5 64 "RobinRowModel" "present" "I"] ++ wsX50)
def wsX5_keysIn : List Cond := .code yX5_keysIn cX5_keysIn 2 (some .int) :: ([.fieldLink RX5 23 "RobinRowModel" "many" "[I", .methodLink RX5 75 yX5_in, .static yX5_in, .initialized RX5, .code yX5_in cX5_in 3 (some .boolean), .methodLink RX5 79 yX5_isFine, .instanceMethod yX5_isFine, .selects RX5 yX5_isFine yX5_isFine, .code yX5_isFine cX5_isFine 2 (some .boolean), .fieldLink RX5 49 "RobinRowModel" "thrown" "I", .methodLink RX5 117 yX5_tableOf, .instanceMethod yX5_tableOf, .selects RX5 yX5_tableOf yX5_tableOf, .code yX5_tableOf cX5_tableOf 2 (some .int), .fieldLink RX5 64 "RobinRowModel" "present" "I"] ++ wsX50)
def wsX5_isSlot : List Cond := .code yX5_isSlot cX5_isSlot 3 (some .boolean) :: ([.fieldLink RX5 20 "RobinRowModel" "slots" "[I", .methodLink RX5 75 yX5_in, .static yX5_in, .initialized RX5, .code yX5_in cX5_in 3 (some .boolean), .methodLink RX5 117 yX5_tableOf, .instanceMethod yX5_tableOf, .selects RX5 yX5_tableOf yX5_tableOf, .code yX5_tableOf cX5_tableOf 2 (some .int), .fieldLink RX5 64 "RobinRowModel" "present" "I"] ++ wsX50)
def wsX5_controlOf : List Cond := .code yX5_controlOf cX5_controlOf 3 (some .byte) :: ([.fieldLink RX5 16 "RobinRowModel" "isFull" "[Z", .fieldLink RX5 7 "RobinRowModel" "keys" "[I", .methodLink RX5 53 yX5_hashOf, .instanceMethod yX5_hashOf, .selects RX5 yX5_hashOf yX5_hashOf, .initialized RX5, .code yX5_hashOf cX5_hashOf 3 (some .int), .fieldLink RX5 26 "RobinRowModel" "way" "I", .constant RX5 52 (-1640531535)] ++ wsX50)
def wsX5_control_r1 : List Cond := [Cond.methodLink RX5 120 yX5_isSlot, Cond.instanceMethod yX5_isSlot, Cond.selects RX5 yX5_isSlot yX5_isSlot, Cond.initialized RX5, Cond.code yX5_isSlot cX5_isSlot 3 (some .boolean), Cond.fieldLink RX5 20 "RobinRowModel" "slots" "[I", Cond.methodLink RX5 75 yX5_in, Cond.static yX5_in, Cond.code yX5_in cX5_in 3 (some .boolean), Cond.methodLink RX5 117 yX5_tableOf, Cond.instanceMethod yX5_tableOf, Cond.selects RX5 yX5_tableOf yX5_tableOf, Cond.code yX5_tableOf cX5_tableOf 2 (some .int), Cond.fieldLink RX5 64 "RobinRowModel" "present" "I", Cond.methodLink RX5 79 yX5_isFine, Cond.instanceMethod yX5_isFine, Cond.selects RX5 yX5_isFine yX5_isFine, Cond.code yX5_isFine cX5_isFine 2 (some .boolean), Cond.fieldLink RX5 49 "RobinRowModel" "thrown" "I", Cond.methodLink RX5 124 yX5_controlOf, Cond.instanceMethod yX5_controlOf, Cond.selects RX5 yX5_controlOf yX5_controlOf, Cond.code yX5_controlOf cX5_controlOf 3 (some .byte), Cond.fieldLink RX5 16 "RobinRowModel" "isFull" "[Z"]
def wsX5_control_r2 : List Cond := [Cond.fieldLink RX5 7 "RobinRowModel" "keys" "[I", Cond.methodLink RX5 53 yX5_hashOf, Cond.instanceMethod yX5_hashOf, Cond.selects RX5 yX5_hashOf yX5_hashOf, Cond.code yX5_hashOf cX5_hashOf 3 (some .int), Cond.fieldLink RX5 26 "RobinRowModel" "way" "I", Cond.constant RX5 52 (-1640531535)]
def wsX5_control : List Cond := .code yX5_control cX5_control 3 (some .byte) :: ((wsX5_control_r1 ++ wsX5_control_r2) ++ wsX50)
def wsX5_keyAt : List Cond := .code yX5_keyAt cX5_keyAt 4 (some .int) :: ([.fieldLink RX5 16 "RobinRowModel" "isFull" "[Z", .fieldLink RX5 7 "RobinRowModel" "keys" "[I", .methodLink RX5 117 yX5_tableOf, .instanceMethod yX5_tableOf, .selects RX5 yX5_tableOf yX5_tableOf, .initialized RX5, .code yX5_tableOf cX5_tableOf 2 (some .int), .fieldLink RX5 64 "RobinRowModel" "present" "I", .methodLink RX5 120 yX5_isSlot, .instanceMethod yX5_isSlot, .selects RX5 yX5_isSlot yX5_isSlot, .code yX5_isSlot cX5_isSlot 3 (some .boolean), .fieldLink RX5 20 "RobinRowModel" "slots" "[I", .methodLink RX5 75 yX5_in, .static yX5_in, .code yX5_in cX5_in 3 (some .boolean), .methodLink RX5 79 yX5_isFine, .instanceMethod yX5_isFine, .selects RX5 yX5_isFine yX5_isFine, .code yX5_isFine cX5_isFine 2 (some .boolean), .fieldLink RX5 49 "RobinRowModel" "thrown" "I"] ++ wsX50)
def wsX5_distanceAt_r1 : List Cond := [Cond.fieldLink RX5 16 "RobinRowModel" "isFull" "[Z", Cond.methodLink RX5 120 yX5_isSlot, Cond.instanceMethod yX5_isSlot, Cond.selects RX5 yX5_isSlot yX5_isSlot, Cond.initialized RX5, Cond.code yX5_isSlot cX5_isSlot 3 (some .boolean), Cond.fieldLink RX5 20 "RobinRowModel" "slots" "[I", Cond.methodLink RX5 75 yX5_in, Cond.static yX5_in, Cond.code yX5_in cX5_in 3 (some .boolean), Cond.methodLink RX5 117 yX5_tableOf, Cond.instanceMethod yX5_tableOf, Cond.selects RX5 yX5_tableOf yX5_tableOf, Cond.code yX5_tableOf cX5_tableOf 2 (some .int), Cond.fieldLink RX5 64 "RobinRowModel" "present" "I", Cond.methodLink RX5 79 yX5_isFine, Cond.instanceMethod yX5_isFine, Cond.selects RX5 yX5_isFine yX5_isFine, Cond.code yX5_isFine cX5_isFine 2 (some .boolean), Cond.fieldLink RX5 49 "RobinRowModel" "thrown" "I", Cond.methodLink RX5 61 yX5_distance, Cond.instanceMethod yX5_distance, Cond.selects RX5 yX5_distance yX5_distance, Cond.code yX5_distance cX5_distance 3 (some .int)]
def wsX5_distanceAt_r2 : List Cond := [Cond.fieldLink RX5 7 "RobinRowModel" "keys" "[I", Cond.methodLink RX5 57 yX5_home, Cond.instanceMethod yX5_home, Cond.selects RX5 yX5_home yX5_home, Cond.code yX5_home cX5_home 3 (some .int), Cond.methodLink RX5 53 yX5_hashOf, Cond.instanceMethod yX5_hashOf, Cond.selects RX5 yX5_hashOf yX5_hashOf, Cond.code yX5_hashOf cX5_hashOf 3 (some .int), Cond.fieldLink RX5 26 "RobinRowModel" "way" "I", Cond.constant RX5 52 (-1640531535)]
def wsX5_distanceAt : List Cond := .code yX5_distanceAt cX5_distanceAt 4 (some .int) :: ((wsX5_distanceAt_r1 ++ wsX5_distanceAt_r2) ++ wsX50)
def wsX5_longest : List Cond := .code yX5_longest cX5_longest 3 (some .int) :: ([.fieldLink RX5 49 "RobinRowModel" "thrown" "I", .fieldLink RX5 20 "RobinRowModel" "slots" "[I", .fieldLink RX5 64 "RobinRowModel" "present" "I", .fieldLink RX5 16 "RobinRowModel" "isFull" "[Z", .methodLink RX5 61 yX5_distance, .instanceMethod yX5_distance, .selects RX5 yX5_distance yX5_distance, .initialized RX5, .code yX5_distance cX5_distance 3 (some .int), .fieldLink RX5 7 "RobinRowModel" "keys" "[I", .methodLink RX5 57 yX5_home, .instanceMethod yX5_home, .selects RX5 yX5_home yX5_home, .code yX5_home cX5_home 3 (some .int), .methodLink RX5 53 yX5_hashOf, .instanceMethod yX5_hashOf, .selects RX5 yX5_hashOf yX5_hashOf, .code yX5_hashOf cX5_hashOf 3 (some .int), .fieldLink RX5 26 "RobinRowModel" "way" "I", .constant RX5 52 (-1640531535)] ++ wsX50)
def wsX5_total : List Cond := .code yX5_total cX5_total 3 (some .int) :: ([.fieldLink RX5 49 "RobinRowModel" "thrown" "I", .fieldLink RX5 20 "RobinRowModel" "slots" "[I", .fieldLink RX5 64 "RobinRowModel" "present" "I", .fieldLink RX5 16 "RobinRowModel" "isFull" "[Z", .methodLink RX5 61 yX5_distance, .instanceMethod yX5_distance, .selects RX5 yX5_distance yX5_distance, .initialized RX5, .code yX5_distance cX5_distance 3 (some .int), .fieldLink RX5 7 "RobinRowModel" "keys" "[I", .methodLink RX5 57 yX5_home, .instanceMethod yX5_home, .selects RX5 yX5_home yX5_home, .code yX5_home cX5_home 3 (some .int), .methodLink RX5 53 yX5_hashOf, .instanceMethod yX5_hashOf, .selects RX5 yX5_hashOf yX5_hashOf, .code yX5_hashOf cX5_hashOf 3 (some .int), .fieldLink RX5 26 "RobinRowModel" "way" "I", .constant RX5 52 (-1640531535)] ++ wsX50)
def wsX5_looks : List Cond := .code yX5_looks cX5_looks 13 (some .int) :: ([.fieldLink RX5 20 "RobinRowModel" "slots" "[I", .fieldLink RX5 7 "RobinRowModel" "keys" "[I", .methodLink RX5 53 yX5_hashOf, .instanceMethod yX5_hashOf, .selects RX5 yX5_hashOf yX5_hashOf, .initialized RX5, .code yX5_hashOf cX5_hashOf 3 (some .int), .fieldLink RX5 26 "RobinRowModel" "way" "I", .constant RX5 52 (-1640531535), .methodLink RX5 57 yX5_home, .instanceMethod yX5_home, .selects RX5 yX5_home yX5_home, .code yX5_home cX5_home 3 (some .int), .methodLink RX5 124 yX5_controlOf, .instanceMethod yX5_controlOf, .selects RX5 yX5_controlOf yX5_controlOf, .code yX5_controlOf cX5_controlOf 3 (some .byte), .fieldLink RX5 16 "RobinRowModel" "isFull" "[Z"] ++ wsX50)
def wsX5_looksBoth_r1 : List Cond := [Cond.fieldLink RX5 64 "RobinRowModel" "present" "I", Cond.methodLink RX5 128 yX5_looks, Cond.instanceMethod yX5_looks, Cond.selects RX5 yX5_looks yX5_looks, Cond.initialized RX5, Cond.code yX5_looks cX5_looks 13 (some .int), Cond.fieldLink RX5 20 "RobinRowModel" "slots" "[I", Cond.fieldLink RX5 7 "RobinRowModel" "keys" "[I", Cond.methodLink RX5 53 yX5_hashOf, Cond.instanceMethod yX5_hashOf, Cond.selects RX5 yX5_hashOf yX5_hashOf, Cond.code yX5_hashOf cX5_hashOf 3 (some .int), Cond.fieldLink RX5 26 "RobinRowModel" "way" "I", Cond.constant RX5 52 (-1640531535), Cond.methodLink RX5 57 yX5_home, Cond.instanceMethod yX5_home, Cond.selects RX5 yX5_home yX5_home, Cond.code yX5_home cX5_home 3 (some .int), Cond.methodLink RX5 124 yX5_controlOf, Cond.instanceMethod yX5_controlOf, Cond.selects RX5 yX5_controlOf yX5_controlOf, Cond.code yX5_controlOf cX5_controlOf 3 (some .byte), Cond.fieldLink RX5 16 "RobinRowModel" "isFull" "[Z", Cond.methodLink RX5 86 yX5_slotOf]
def wsX5_looksBoth_r2 : List Cond := [Cond.instanceMethod yX5_slotOf, Cond.selects RX5 yX5_slotOf yX5_slotOf, Cond.code yX5_slotOf cX5_slotOf 5 (some .int)]
def wsX5_looksBoth : List Cond := .code yX5_looksBoth cX5_looksBoth 3 (some .int) :: ((wsX5_looksBoth_r1 ++ wsX5_looksBoth_r2) ++ wsX50)
def wsX5_groups_r1 : List Cond := [Cond.fieldLink RX5 49 "RobinRowModel" "thrown" "I", Cond.methodLink RX5 131 yX5_looksBoth, Cond.instanceMethod yX5_looksBoth, Cond.selects RX5 yX5_looksBoth yX5_looksBoth, Cond.initialized RX5, Cond.code yX5_looksBoth cX5_looksBoth 3 (some .int), Cond.fieldLink RX5 64 "RobinRowModel" "present" "I", Cond.methodLink RX5 128 yX5_looks, Cond.instanceMethod yX5_looks, Cond.selects RX5 yX5_looks yX5_looks, Cond.code yX5_looks cX5_looks 13 (some .int), Cond.fieldLink RX5 20 "RobinRowModel" "slots" "[I", Cond.fieldLink RX5 7 "RobinRowModel" "keys" "[I", Cond.methodLink RX5 53 yX5_hashOf, Cond.instanceMethod yX5_hashOf, Cond.selects RX5 yX5_hashOf yX5_hashOf, Cond.code yX5_hashOf cX5_hashOf 3 (some .int), Cond.fieldLink RX5 26 "RobinRowModel" "way" "I", Cond.constant RX5 52 (-1640531535), Cond.methodLink RX5 57 yX5_home, Cond.instanceMethod yX5_home, Cond.selects RX5 yX5_home yX5_home, Cond.code yX5_home cX5_home 3 (some .int), Cond.methodLink RX5 124 yX5_controlOf]
def wsX5_groups_r2 : List Cond := [Cond.instanceMethod yX5_controlOf, Cond.selects RX5 yX5_controlOf yX5_controlOf, Cond.code yX5_controlOf cX5_controlOf 3 (some .byte), Cond.fieldLink RX5 16 "RobinRowModel" "isFull" "[Z", Cond.methodLink RX5 86 yX5_slotOf, Cond.instanceMethod yX5_slotOf, Cond.selects RX5 yX5_slotOf yX5_slotOf, Cond.code yX5_slotOf cX5_slotOf 5 (some .int)]
def wsX5_groups : List Cond := .code yX5_groups cX5_groups 2 (some .int) :: ((wsX5_groups_r1 ++ wsX5_groups_r2) ++ wsX50)
def wsX5_comparisons_r1 : List Cond := [Cond.fieldLink RX5 49 "RobinRowModel" "thrown" "I", Cond.methodLink RX5 131 yX5_looksBoth, Cond.instanceMethod yX5_looksBoth, Cond.selects RX5 yX5_looksBoth yX5_looksBoth, Cond.initialized RX5, Cond.code yX5_looksBoth cX5_looksBoth 3 (some .int), Cond.fieldLink RX5 64 "RobinRowModel" "present" "I", Cond.methodLink RX5 128 yX5_looks, Cond.instanceMethod yX5_looks, Cond.selects RX5 yX5_looks yX5_looks, Cond.code yX5_looks cX5_looks 13 (some .int), Cond.fieldLink RX5 20 "RobinRowModel" "slots" "[I", Cond.fieldLink RX5 7 "RobinRowModel" "keys" "[I", Cond.methodLink RX5 53 yX5_hashOf, Cond.instanceMethod yX5_hashOf, Cond.selects RX5 yX5_hashOf yX5_hashOf, Cond.code yX5_hashOf cX5_hashOf 3 (some .int), Cond.fieldLink RX5 26 "RobinRowModel" "way" "I", Cond.constant RX5 52 (-1640531535), Cond.methodLink RX5 57 yX5_home, Cond.instanceMethod yX5_home, Cond.selects RX5 yX5_home yX5_home, Cond.code yX5_home cX5_home 3 (some .int), Cond.methodLink RX5 124 yX5_controlOf]
def wsX5_comparisons_r2 : List Cond := [Cond.instanceMethod yX5_controlOf, Cond.selects RX5 yX5_controlOf yX5_controlOf, Cond.code yX5_controlOf cX5_controlOf 3 (some .byte), Cond.fieldLink RX5 16 "RobinRowModel" "isFull" "[Z", Cond.methodLink RX5 86 yX5_slotOf, Cond.instanceMethod yX5_slotOf, Cond.selects RX5 yX5_slotOf yX5_slotOf, Cond.code yX5_slotOf cX5_slotOf 5 (some .int)]
def wsX5_comparisons : List Cond := .code yX5_comparisons cX5_comparisons 2 (some .int) :: ((wsX5_comparisons_r1 ++ wsX5_comparisons_r2) ++ wsX50)
def wsX5_displaced_r1 : List Cond := [Cond.fieldLink RX5 64 "RobinRowModel" "present" "I", Cond.methodLink RX5 86 yX5_slotOf, Cond.instanceMethod yX5_slotOf, Cond.selects RX5 yX5_slotOf yX5_slotOf, Cond.initialized RX5, Cond.code yX5_slotOf cX5_slotOf 5 (some .int), Cond.fieldLink RX5 20 "RobinRowModel" "slots" "[I", Cond.fieldLink RX5 16 "RobinRowModel" "isFull" "[Z", Cond.fieldLink RX5 7 "RobinRowModel" "keys" "[I", Cond.methodLink RX5 79 yX5_isFine, Cond.instanceMethod yX5_isFine, Cond.selects RX5 yX5_isFine yX5_isFine, Cond.code yX5_isFine cX5_isFine 2 (some .boolean), Cond.fieldLink RX5 49 "RobinRowModel" "thrown" "I", Cond.methodLink RX5 71 yX5_carries, Cond.instanceMethod yX5_carries, Cond.selects RX5 yX5_carries yX5_carries, Cond.code yX5_carries cX5_carries 13 (some .int), Cond.fieldLink RX5 13 "RobinRowModel" "values" "[I", Cond.fieldLink RX5 23 "RobinRowModel" "many" "[I", Cond.methodLink RX5 57 yX5_home, Cond.instanceMethod yX5_home, Cond.selects RX5 yX5_home yX5_home, Cond.code yX5_home cX5_home 3 (some .int)]
def wsX5_displaced_r2 : List Cond := [Cond.methodLink RX5 53 yX5_hashOf, Cond.instanceMethod yX5_hashOf, Cond.selects RX5 yX5_hashOf yX5_hashOf, Cond.code yX5_hashOf cX5_hashOf 3 (some .int), Cond.fieldLink RX5 26 "RobinRowModel" "way" "I", Cond.constant RX5 52 (-1640531535), Cond.methodLink RX5 61 yX5_distance, Cond.instanceMethod yX5_distance, Cond.selects RX5 yX5_distance yX5_distance, Cond.code yX5_distance cX5_distance 3 (some .int)]
def wsX5_displaced : List Cond := .code yX5_displaced cX5_displaced 2 (some .int) :: ((wsX5_displaced_r1 ++ wsX5_displaced_r2) ++ wsX50)
def wsX5_plain : List Cond := .code yX5_plain cX5_plain 7 none :: ([.fieldLink RX5 46 "RobinRowModel" "plainFull" "[Z", .fieldLink RX5 134 "RobinRowModel" "plainMost" "I", .fieldLink RX5 137 "RobinRowModel" "plainSum" "I", .constantLong RX5 140 (-3000000000), .fieldLink RX5 23 "RobinRowModel" "many" "[I", .fieldLink RX5 64 "RobinRowModel" "present" "I", .fieldLink RX5 20 "RobinRowModel" "slots" "[I", .fieldLink RX5 16 "RobinRowModel" "isFull" "[Z", .fieldLink RX5 7 "RobinRowModel" "keys" "[I", .methodLink RX5 57 yX5_home, .instanceMethod yX5_home, .selects RX5 yX5_home yX5_home, .initialized RX5, .code yX5_home cX5_home 3 (some .int), .methodLink RX5 53 yX5_hashOf, .instanceMethod yX5_hashOf, .selects RX5 yX5_hashOf yX5_hashOf, .code yX5_hashOf cX5_hashOf 3 (some .int), .fieldLink RX5 26 "RobinRowModel" "way" "I", .constant RX5 52 (-1640531535)] ++ wsX50)
def wsX5_plainTotal_r1 : List Cond := [Cond.fieldLink RX5 49 "RobinRowModel" "thrown" "I", Cond.fieldLink RX5 137 "RobinRowModel" "plainSum" "I", Cond.methodLink RX5 142 yX5_plain, Cond.instanceMethod yX5_plain, Cond.selects RX5 yX5_plain yX5_plain, Cond.initialized RX5, Cond.code yX5_plain cX5_plain 7 none, Cond.fieldLink RX5 46 "RobinRowModel" "plainFull" "[Z", Cond.fieldLink RX5 134 "RobinRowModel" "plainMost" "I", Cond.constantLong RX5 140 (-3000000000), Cond.fieldLink RX5 23 "RobinRowModel" "many" "[I", Cond.fieldLink RX5 64 "RobinRowModel" "present" "I", Cond.fieldLink RX5 20 "RobinRowModel" "slots" "[I", Cond.fieldLink RX5 16 "RobinRowModel" "isFull" "[Z", Cond.fieldLink RX5 7 "RobinRowModel" "keys" "[I", Cond.methodLink RX5 57 yX5_home, Cond.instanceMethod yX5_home, Cond.selects RX5 yX5_home yX5_home, Cond.code yX5_home cX5_home 3 (some .int), Cond.methodLink RX5 53 yX5_hashOf, Cond.instanceMethod yX5_hashOf, Cond.selects RX5 yX5_hashOf yX5_hashOf, Cond.code yX5_hashOf cX5_hashOf 3 (some .int), Cond.fieldLink RX5 26 "RobinRowModel" "way" "I"]
def wsX5_plainTotal_r2 : List Cond := [Cond.constant RX5 52 (-1640531535)]
def wsX5_plainTotal : List Cond := .code yX5_plainTotal cX5_plainTotal 1 (some .int) :: ((wsX5_plainTotal_r1 ++ wsX5_plainTotal_r2) ++ wsX50)
def wsX5_plainLongest_r1 : List Cond := [Cond.fieldLink RX5 49 "RobinRowModel" "thrown" "I", Cond.fieldLink RX5 134 "RobinRowModel" "plainMost" "I", Cond.methodLink RX5 142 yX5_plain, Cond.instanceMethod yX5_plain, Cond.selects RX5 yX5_plain yX5_plain, Cond.initialized RX5, Cond.code yX5_plain cX5_plain 7 none, Cond.fieldLink RX5 46 "RobinRowModel" "plainFull" "[Z", Cond.fieldLink RX5 137 "RobinRowModel" "plainSum" "I", Cond.constantLong RX5 140 (-3000000000), Cond.fieldLink RX5 23 "RobinRowModel" "many" "[I", Cond.fieldLink RX5 64 "RobinRowModel" "present" "I", Cond.fieldLink RX5 20 "RobinRowModel" "slots" "[I", Cond.fieldLink RX5 16 "RobinRowModel" "isFull" "[Z", Cond.fieldLink RX5 7 "RobinRowModel" "keys" "[I", Cond.methodLink RX5 57 yX5_home, Cond.instanceMethod yX5_home, Cond.selects RX5 yX5_home yX5_home, Cond.code yX5_home cX5_home 3 (some .int), Cond.methodLink RX5 53 yX5_hashOf, Cond.instanceMethod yX5_hashOf, Cond.selects RX5 yX5_hashOf yX5_hashOf, Cond.code yX5_hashOf cX5_hashOf 3 (some .int), Cond.fieldLink RX5 26 "RobinRowModel" "way" "I"]
def wsX5_plainLongest_r2 : List Cond := [Cond.constant RX5 52 (-1640531535)]
def wsX5_plainLongest : List Cond := .code yX5_plainLongest cX5_plainLongest 1 (some .int) :: ((wsX5_plainLongest_r1 ++ wsX5_plainLongest_r2) ++ wsX50)
def wsJ9_max_7cf53 : List Cond := .code yJ9_max_7cf53 cJ9_max_7cf53 2 (some .int) :: ([])
def wsJ9_min_7cf53 : List Cond := .code yJ9_min_7cf53 cJ9_min_7cf53 2 (some .int) :: ([])
def wsL_clear_r1 : List Cond := [Cond.classLink RL 13 "java/lang/IllegalArgumentException", Cond.methodLink RL 7 yX4_clear, Cond.instanceMethod yX4_clear, Cond.selects RX4 yX4_clear yX4_clear, Cond.initialized RX4, Cond.code yX4_clear cX4_clear 3 none, Cond.classLink RX4 46 "java/lang/IllegalArgumentException", Cond.initialized "java/lang/IllegalArgumentException", Cond.fieldLink RX4 42 "RobinRow" "way" "I", Cond.fieldLink RX4 34 "RobinRow" "present" "LRobinRow$Table;", Cond.fieldLink RX4 38 "RobinRow" "old" "LRobinRow$Table;", Cond.fieldLink RX4 56 "RobinRow" "begunMoves" "I", Cond.fieldLink RX4 11 "RobinRow" "sweeps" "[LRobinRow$Sweep;", Cond.methodLink RX4 53 yX3_emptyWith, Cond.instanceMethod yX3_emptyWith, Cond.selects RX3 yX3_emptyWith yX3_emptyWith, Cond.initialized RX3, Cond.code yX3_emptyWith cX3_emptyWith 3 none, Cond.methodLink RX3 29 Lib.Math.min.name, Cond.static Lib.Math.min.name, Cond.initialized "java/lang/Math", Cond.code Lib.Math.min.name Lib.Math.min.code 2 (some .int), Cond.fieldLink RX3 35 "RobinRow$Table" "slots" "I", Cond.fieldLink RX3 39 "RobinRow$Table" "count" "I"]
def wsL_clear_r2 : List Cond := [Cond.fieldLink RX3 9 "RobinRow$Table" "controls" "[B", Cond.methodLink RX4 59 yX2_end, Cond.instanceMethod yX2_end, Cond.selects RX2 yX2_end yX2_end, Cond.initialized RX2, Cond.code yX2_end cX2_end 1 none, Cond.fieldLink RX2 9 "RobinRow$Sweep" "isOpen" "Z"]
def wsL_clear : List Cond := .codeWith yL_clear cL_clear 3 (some .int) [(0, 5, 8, 13)] :: ((wsL_clear_r1 ++ wsL_clear_r2) ++ wsX40 ++ wsX30 ++ wsX20 ++ (vx_atS RX4 50 "java/lang/IllegalArgumentException" ["java/lang/RuntimeException", "java/lang/Exception"]).filter goodWord)
def wsL_put_r1 : List Cond := [Cond.classLink RL 13 "java/lang/IllegalArgumentException", Cond.classLink RL 19 "java/lang/IllegalStateException", Cond.methodLink RL 15 yX4_put, Cond.instanceMethod yX4_put, Cond.selects RX4 yX4_put yX4_put, Cond.initialized RX4, Cond.code yX4_put cX4_put 3 (some .int), Cond.classLink RX4 46 "java/lang/IllegalArgumentException", Cond.initialized "java/lang/IllegalArgumentException", Cond.classLink RX4 72 "java/lang/IllegalStateException", Cond.initialized "java/lang/IllegalStateException", Cond.fieldLink RX4 18 "RobinRow" "search" "LRobinRow$Search;", Cond.methodLink RX4 64 yX4_size, Cond.instanceMethod yX4_size, Cond.selects RX4 yX4_size yX4_size, Cond.code yX4_size cX4_size 1 (some .int), Cond.fieldLink RX4 34 "RobinRow" "present" "LRobinRow$Table;", Cond.fieldLink RX4 38 "RobinRow" "old" "LRobinRow$Table;", Cond.methodLink RX4 68 yX4_get, Cond.instanceMethod yX4_get, Cond.selects RX4 yX4_get yX4_get, Cond.code yX4_get cX4_get 2 (some .int), Cond.methodLink RX4 80 yX4_lookUp, Cond.instanceMethod yX4_lookUp]
def wsL_put_r2 : List Cond := [Cond.selects RX4 yX4_lookUp yX4_lookUp, Cond.code yX4_lookUp cX4_lookUp 3 none, Cond.methodLink RX4 199 yX4_hash, Cond.instanceMethod yX4_hash, Cond.selects RX4 yX4_hash yX4_hash, Cond.code yX4_hash cX4_hash 3 (some .int), Cond.fieldLink RX4 42 "RobinRow" "way" "I", Cond.constant RX4 163 (-1640531535), Cond.methodLink RX4 202 yX1_begin, Cond.instanceMethod yX1_begin, Cond.selects RX1 yX1_begin yX1_begin, Cond.initialized RX1, Cond.code yX1_begin cX1_begin 1 none, Cond.fieldLink RX1 9 "RobinRow$Search" "table" "LRobinRow$Table;", Cond.fieldLink RX1 15 "RobinRow$Search" "groups" "I", Cond.fieldLink RX1 19 "RobinRow$Search" "comparisons" "I", Cond.methodLink RX4 203 yX1_lookIn, Cond.instanceMethod yX1_lookIn, Cond.selects RX1 yX1_lookIn yX1_lookIn, Cond.code yX1_lookIn cX1_lookIn 7 none, Cond.methodLink RX1 27 yX1_lookAtGroup, Cond.instanceMethod yX1_lookAtGroup, Cond.selects RX1 yX1_lookAtGroup yX1_lookAtGroup, Cond.code yX1_lookAtGroup cX1_lookAtGroup 8 (some .boolean)]
def wsL_put_r3 : List Cond := [Cond.fieldLink RX1 50 "RobinRow$Search" "slot" "I", Cond.methodLink RX1 31 yX1_hasFound, Cond.instanceMethod yX1_hasFound, Cond.selects RX1 yX1_hasFound yX1_hasFound, Cond.code yX1_hasFound cX1_hasFound 1 (some .boolean), Cond.methodLink RX1 35 yX3_around, Cond.instanceMethod yX3_around, Cond.selects RX3 yX3_around yX3_around, Cond.initialized RX3, Cond.code yX3_around cX3_around 2 (some .int), Cond.fieldLink RX3 35 "RobinRow$Table" "slots" "I", Cond.methodLink RX1 39 yX3_isEmptyIn, Cond.instanceMethod yX3_isEmptyIn, Cond.selects RX3 yX3_isEmptyIn yX3_isEmptyIn, Cond.code yX3_isEmptyIn cX3_isEmptyIn 2 (some .boolean), Cond.fieldLink RX3 9 "RobinRow$Table" "controls" "[B", Cond.methodLink RX1 43 yX3_controlIn, Cond.instanceMethod yX3_controlIn, Cond.selects RX3 yX3_controlIn yX3_controlIn, Cond.code yX3_controlIn cX3_controlIn 2 (some .byte), Cond.methodLink RX1 47 yX3_keyIn, Cond.instanceMethod yX3_keyIn, Cond.selects RX3 yX3_keyIn yX3_keyIn, Cond.code yX3_keyIn cX3_keyIn 2 (some .int)]
def wsL_put_r4 : List Cond := [Cond.fieldLink RX3 19 "RobinRow$Table" "keys" "[I", Cond.methodLink RX4 83 yX1_hasFound, Cond.methodLink RX4 101 yX3_valueIn, Cond.instanceMethod yX3_valueIn, Cond.selects RX3 yX3_valueIn yX3_valueIn, Cond.code yX3_valueIn cX3_valueIn 2 (some .int), Cond.fieldLink RX3 22 "RobinRow$Table" "values" "[I", Cond.methodLink RX4 77 yX4_moveSlice, Cond.instanceMethod yX4_moveSlice, Cond.selects RX4 yX4_moveSlice yX4_moveSlice, Cond.code yX4_moveSlice cX4_moveSlice 3 (some .int), Cond.methodLink RX4 242 yX3_lowestSlotWithKey, Cond.instanceMethod yX3_lowestSlotWithKey, Cond.selects RX3 yX3_lowestSlotWithKey yX3_lowestSlotWithKey, Cond.code yX3_lowestSlotWithKey cX3_lowestSlotWithKey 2 (some .int), Cond.methodLink RX3 42 yX3_isEmptyIn, Cond.methodLink RX4 136 yX3_keyIn, Cond.methodLink RX4 245 yX3_hashIn, Cond.instanceMethod yX3_hashIn, Cond.selects RX3 yX3_hashIn yX3_hashIn, Cond.code yX3_hashIn cX3_hashIn 2 (some .int), Cond.fieldLink RX3 15 "RobinRow$Table" "hashes" "[I", Cond.methodLink RX4 238 yX3_carryIn, Cond.instanceMethod yX3_carryIn]
def wsL_put_r5 : List Cond := [Cond.selects RX3 yX3_carryIn yX3_carryIn, Cond.code yX3_carryIn cX3_carryIn 14 none, Cond.fieldLink RX3 39 "RobinRow$Table" "count" "I", Cond.methodLink RX3 46 yX3_around, Cond.methodLink RX3 59 yX3_distanceIn, Cond.instanceMethod yX3_distanceIn, Cond.selects RX3 yX3_distanceIn yX3_distanceIn, Cond.code yX3_distanceIn cX3_distanceIn 2 (some .int), Cond.methodLink RX3 62 yX3_fill, Cond.instanceMethod yX3_fill, Cond.selects RX3 yX3_fill yX3_fill, Cond.code yX3_fill cX3_fill 5 none, Cond.methodLink RX4 104 yX3_takeOut, Cond.instanceMethod yX3_takeOut, Cond.selects RX3 yX3_takeOut yX3_takeOut, Cond.code yX3_takeOut cX3_takeOut 5 none, Cond.methodLink RX4 107 yX4_endMoveIfOldIsEmpty, Cond.instanceMethod yX4_endMoveIfOldIsEmpty, Cond.selects RX4 yX4_endMoveIfOldIsEmpty yX4_endMoveIfOldIsEmpty, Cond.code yX4_endMoveIfOldIsEmpty cX4_endMoveIfOldIsEmpty 1 none, Cond.methodLink RX4 53 yX3_emptyWith, Cond.instanceMethod yX3_emptyWith, Cond.selects RX3 yX3_emptyWith yX3_emptyWith, Cond.code yX3_emptyWith cX3_emptyWith 3 none]
def wsL_put_r6 : List Cond := [Cond.methodLink RX3 29 Lib.Math.min.name, Cond.static Lib.Math.min.name, Cond.initialized "java/lang/Math", Cond.code Lib.Math.min.name Lib.Math.min.code 2 (some .int), Cond.methodLink RX4 93 yX3_exchangeValue, Cond.instanceMethod yX3_exchangeValue, Cond.selects RX3 yX3_exchangeValue yX3_exchangeValue, Cond.code yX3_exchangeValue cX3_exchangeValue 4 (some .int), Cond.methodLink RX4 97 yX4_putNew, Cond.instanceMethod yX4_putNew, Cond.selects RX4 yX4_putNew yX4_putNew, Cond.code yX4_putNew cX4_putNew 3 none, Cond.methodLink RX4 235 yX4_beginMove, Cond.instanceMethod yX4_beginMove, Cond.selects RX4 yX4_beginMove yX4_beginMove, Cond.code yX4_beginMove cX4_beginMove 2 none, Cond.fieldLink RX4 56 "RobinRow" "begunMoves" "I"]
def wsL_put : List Cond := .codeWith yL_put cL_put 5 (some .int) [(0, 10, 13, 13), (0, 10, 17, 19)] :: ((wsL_put_r1 ++ (wsL_put_r2 ++ (wsL_put_r3 ++ (wsL_put_r4 ++ (wsL_put_r5 ++ wsL_put_r6))))) ++ wsX40 ++ wsX10 ++ wsX30 ++ (vx_atS RX4 50 "java/lang/IllegalArgumentException" ["java/lang/RuntimeException", "java/lang/Exception"]).filter goodWord ++ (vx_atS RX4 76 "java/lang/IllegalStateException" ["java/lang/RuntimeException", "java/lang/Exception"]).filter goodWord)
def wsL_openSweep : List Cond := .codeWith yL_openSweep cL_openSweep 3 (some .int) [(0, 8, 11, 19)] :: ([.classLink RL 19 "java/lang/IllegalStateException", .methodLink RL 21 yX4_openSweep, .instanceMethod yX4_openSweep, .selects RX4 yX4_openSweep yX4_openSweep, .initialized RX4, .code yX4_openSweep cX4_openSweep 2 (some .int), .classLink RX4 72 "java/lang/IllegalStateException", .initialized "java/lang/IllegalStateException", .fieldLink RX4 11 "RobinRow" "sweeps" "[LRobinRow$Sweep;", .methodLink RX4 117 yX2_begin, .instanceMethod yX2_begin, .selects RX2 yX2_begin yX2_begin, .initialized RX2, .code yX2_begin cX2_begin 1 none, .fieldLink RX2 9 "RobinRow$Sweep" "isOpen" "Z", .fieldLink RX2 15 "RobinRow$Sweep" "mayRemove" "Z", .fieldLink RX2 18 "RobinRow$Sweep" "met" "I", .constantLong RX2 22 (-1), .fieldLink RX2 24 "RobinRow$Sweep" "rank" "J"] ++ wsX40 ++ wsX20 ++ (vx_atS RX4 76 "java/lang/IllegalStateException" ["java/lang/RuntimeException", "java/lang/Exception"]).filter goodWord)
def wsL_hasNext_r1 : List Cond := [Cond.classLink RL 29 "java/lang/IndexOutOfBoundsException", Cond.methodLink RL 25 yX4_hasNext, Cond.instanceMethod yX4_hasNext, Cond.selects RX4 yX4_hasNext yX4_hasNext, Cond.initialized RX4, Cond.code yX4_hasNext cX4_hasNext 2 (some .boolean), Cond.fieldLink RX4 18 "RobinRow" "search" "LRobinRow$Search;", Cond.methodLink RX4 122 yX4_sweepOf, Cond.instanceMethod yX4_sweepOf, Cond.selects RX4 yX4_sweepOf yX4_sweepOf, Cond.code yX4_sweepOf cX4_sweepOf 2 (some (.object "RobinRow$Sweep")), Cond.classLink RX4 222 "java/lang/IndexOutOfBoundsException", Cond.initialized "java/lang/IndexOutOfBoundsException", Cond.fieldLink RX4 11 "RobinRow" "sweeps" "[LRobinRow$Sweep;", Cond.methodLink RX4 130 yX4_seekBehind, Cond.instanceMethod yX4_seekBehind, Cond.selects RX4 yX4_seekBehind yX4_seekBehind, Cond.code yX4_seekBehind cX4_seekBehind 3 none, Cond.fieldLink RX4 34 "RobinRow" "present" "LRobinRow$Table;", Cond.fieldLink RX4 38 "RobinRow" "old" "LRobinRow$Table;", Cond.methodLink RX4 202 yX1_begin, Cond.instanceMethod yX1_begin, Cond.selects RX1 yX1_begin yX1_begin, Cond.initialized RX1]
def wsL_hasNext_r2 : List Cond := [Cond.code yX1_begin cX1_begin 1 none, Cond.fieldLink RX1 9 "RobinRow$Search" "table" "LRobinRow$Table;", Cond.fieldLink RX1 15 "RobinRow$Search" "groups" "I", Cond.fieldLink RX1 19 "RobinRow$Search" "comparisons" "I", Cond.methodLink RX4 231 yX1_seekIn, Cond.instanceMethod yX1_seekIn, Cond.selects RX1 yX1_seekIn yX1_seekIn, Cond.code yX1_seekIn cX1_seekIn 5 none, Cond.fieldLink RX1 50 "RobinRow$Search" "slot" "I", Cond.methodLink RX1 39 yX3_isEmptyIn, Cond.instanceMethod yX3_isEmptyIn, Cond.selects RX3 yX3_isEmptyIn yX3_isEmptyIn, Cond.initialized RX3, Cond.code yX3_isEmptyIn cX3_isEmptyIn 2 (some .boolean), Cond.fieldLink RX3 9 "RobinRow$Table" "controls" "[B", Cond.methodLink RX1 53 yX3_rankIn, Cond.instanceMethod yX3_rankIn, Cond.selects RX3 yX3_rankIn yX3_rankIn, Cond.code yX3_rankIn cX3_rankIn 2 (some .long), Cond.fieldLink RX3 15 "RobinRow$Table" "hashes" "[I", Cond.methodLink RX3 50 yJ6_reverse_0f7a4, Cond.static yJ6_reverse_0f7a4, Cond.initialized RJ6, Cond.code yJ6_reverse_0f7a4 cJ6_reverse_0f7a4 1 (some .int)]
def wsL_hasNext_r3 : List Cond := [Cond.constant RJ6 265 (1431655765), Cond.constant RJ6 266 (858993459), Cond.constant RJ6 267 (252645135), Cond.methodLink RJ6 268 yJ6_reverseBytes_0f7a4, Cond.static yJ6_reverseBytes_0f7a4, Cond.code yJ6_reverseBytes_0f7a4 cJ6_reverseBytes_0f7a4 1 (some .int), Cond.constant RJ6 274 (65280), Cond.methodLink RX3 55 yJ6_toUnsignedLong_3e8ac, Cond.static yJ6_toUnsignedLong_3e8ac, Cond.code yJ6_toUnsignedLong_3e8ac cJ6_toUnsignedLong_3e8ac 1 (some .long), Cond.constantLong RJ6 262 (4294967295), Cond.methodLink RX1 31 yX1_hasFound, Cond.instanceMethod yX1_hasFound, Cond.selects RX1 yX1_hasFound yX1_hasFound, Cond.code yX1_hasFound cX1_hasFound 1 (some .boolean), Cond.methodLink RX4 83 yX1_hasFound]
def wsL_hasNext : List Cond := .codeWith yL_hasNext cL_hasNext 4 (some .int) [(0, 16, 19, 29)] :: ((wsL_hasNext_r1 ++ (wsL_hasNext_r2 ++ wsL_hasNext_r3)) ++ wsX20 ++ wsX40 ++ wsX10 ++ wsX30 ++ (vx_atS RX4 226 "java/lang/IndexOutOfBoundsException" ["java/lang/RuntimeException", "java/lang/Exception"]).filter goodWord)
def wsL_next_r1 : List Cond := [Cond.classLink RL 29 "java/lang/IndexOutOfBoundsException", Cond.classLink RL 19 "java/lang/IllegalStateException", Cond.methodLink RL 31 yX4_next, Cond.instanceMethod yX4_next, Cond.selects RX4 yX4_next yX4_next, Cond.initialized RX4, Cond.code yX4_next cX4_next 4 (some .int), Cond.classLink RX4 72 "java/lang/IllegalStateException", Cond.initialized "java/lang/IllegalStateException", Cond.fieldLink RX4 18 "RobinRow" "search" "LRobinRow$Search;", Cond.methodLink RX4 122 yX4_sweepOf, Cond.instanceMethod yX4_sweepOf, Cond.selects RX4 yX4_sweepOf yX4_sweepOf, Cond.code yX4_sweepOf cX4_sweepOf 2 (some (.object "RobinRow$Sweep")), Cond.classLink RX4 222 "java/lang/IndexOutOfBoundsException", Cond.initialized "java/lang/IndexOutOfBoundsException", Cond.fieldLink RX4 11 "RobinRow" "sweeps" "[LRobinRow$Sweep;", Cond.methodLink RX4 130 yX4_seekBehind, Cond.instanceMethod yX4_seekBehind, Cond.selects RX4 yX4_seekBehind yX4_seekBehind, Cond.code yX4_seekBehind cX4_seekBehind 3 none, Cond.fieldLink RX4 34 "RobinRow" "present" "LRobinRow$Table;", Cond.fieldLink RX4 38 "RobinRow" "old" "LRobinRow$Table;", Cond.methodLink RX4 202 yX1_begin]
def wsL_next_r2 : List Cond := [Cond.instanceMethod yX1_begin, Cond.selects RX1 yX1_begin yX1_begin, Cond.initialized RX1, Cond.code yX1_begin cX1_begin 1 none, Cond.fieldLink RX1 9 "RobinRow$Search" "table" "LRobinRow$Table;", Cond.fieldLink RX1 15 "RobinRow$Search" "groups" "I", Cond.fieldLink RX1 19 "RobinRow$Search" "comparisons" "I", Cond.methodLink RX4 231 yX1_seekIn, Cond.instanceMethod yX1_seekIn, Cond.selects RX1 yX1_seekIn yX1_seekIn, Cond.code yX1_seekIn cX1_seekIn 5 none, Cond.fieldLink RX1 50 "RobinRow$Search" "slot" "I", Cond.methodLink RX1 39 yX3_isEmptyIn, Cond.instanceMethod yX3_isEmptyIn, Cond.selects RX3 yX3_isEmptyIn yX3_isEmptyIn, Cond.initialized RX3, Cond.code yX3_isEmptyIn cX3_isEmptyIn 2 (some .boolean), Cond.fieldLink RX3 9 "RobinRow$Table" "controls" "[B", Cond.methodLink RX1 53 yX3_rankIn, Cond.instanceMethod yX3_rankIn, Cond.selects RX3 yX3_rankIn yX3_rankIn, Cond.code yX3_rankIn cX3_rankIn 2 (some .long), Cond.fieldLink RX3 15 "RobinRow$Table" "hashes" "[I", Cond.methodLink RX3 50 yJ6_reverse_0f7a4]
def wsL_next_r3 : List Cond := [Cond.static yJ6_reverse_0f7a4, Cond.initialized RJ6, Cond.code yJ6_reverse_0f7a4 cJ6_reverse_0f7a4 1 (some .int), Cond.constant RJ6 265 (1431655765), Cond.constant RJ6 266 (858993459), Cond.constant RJ6 267 (252645135), Cond.methodLink RJ6 268 yJ6_reverseBytes_0f7a4, Cond.static yJ6_reverseBytes_0f7a4, Cond.code yJ6_reverseBytes_0f7a4 cJ6_reverseBytes_0f7a4 1 (some .int), Cond.constant RJ6 274 (65280), Cond.methodLink RX3 55 yJ6_toUnsignedLong_3e8ac, Cond.static yJ6_toUnsignedLong_3e8ac, Cond.code yJ6_toUnsignedLong_3e8ac cJ6_toUnsignedLong_3e8ac 1 (some .long), Cond.constantLong RJ6 262 (4294967295), Cond.methodLink RX1 31 yX1_hasFound, Cond.instanceMethod yX1_hasFound, Cond.selects RX1 yX1_hasFound yX1_hasFound, Cond.code yX1_hasFound cX1_hasFound 1 (some .boolean), Cond.methodLink RX4 83 yX1_hasFound, Cond.methodLink RX4 136 yX3_keyIn, Cond.instanceMethod yX3_keyIn, Cond.selects RX3 yX3_keyIn yX3_keyIn, Cond.code yX3_keyIn cX3_keyIn 2 (some .int), Cond.fieldLink RX3 19 "RobinRow$Table" "keys" "[I"]
def wsL_next_r4 : List Cond := [Cond.methodLink RX4 139 yX3_rankIn, Cond.methodLink RX4 143 yX2_meet, Cond.instanceMethod yX2_meet, Cond.selects RX2 yX2_meet yX2_meet, Cond.initialized RX2, Cond.code yX2_meet cX2_meet 4 none, Cond.fieldLink RX2 15 "RobinRow$Sweep" "mayRemove" "Z", Cond.fieldLink RX2 18 "RobinRow$Sweep" "met" "I", Cond.fieldLink RX2 28 "RobinRow$Sweep" "key" "I", Cond.fieldLink RX2 24 "RobinRow$Sweep" "rank" "J"]
def wsL_next : List Cond := .codeWith yL_next cL_next 4 (some .int) [(0, 9, 12, 29), (0, 9, 15, 19)] :: ((wsL_next_r1 ++ (wsL_next_r2 ++ (wsL_next_r3 ++ wsL_next_r4))) ++ wsX20 ++ wsX40 ++ wsX10 ++ wsX30 ++ (vx_atS RX4 76 "java/lang/IllegalStateException" ["java/lang/RuntimeException", "java/lang/Exception"]).filter goodWord ++ (vx_atS RX4 226 "java/lang/IndexOutOfBoundsException" ["java/lang/RuntimeException", "java/lang/Exception"]).filter goodWord)
def wsL_removeMet_r1 : List Cond := [Cond.classLink RL 29 "java/lang/IndexOutOfBoundsException", Cond.classLink RL 19 "java/lang/IllegalStateException", Cond.methodLink RL 35 yX4_removeMet, Cond.instanceMethod yX4_removeMet, Cond.selects RX4 yX4_removeMet yX4_removeMet, Cond.initialized RX4, Cond.code yX4_removeMet cX4_removeMet 3 (some .int), Cond.classLink RX4 72 "java/lang/IllegalStateException", Cond.initialized "java/lang/IllegalStateException", Cond.fieldLink RX4 18 "RobinRow" "search" "LRobinRow$Search;", Cond.methodLink RX4 122 yX4_sweepOf, Cond.instanceMethod yX4_sweepOf, Cond.selects RX4 yX4_sweepOf yX4_sweepOf, Cond.code yX4_sweepOf cX4_sweepOf 2 (some (.object "RobinRow$Sweep")), Cond.classLink RX4 222 "java/lang/IndexOutOfBoundsException", Cond.initialized "java/lang/IndexOutOfBoundsException", Cond.fieldLink RX4 11 "RobinRow" "sweeps" "[LRobinRow$Sweep;", Cond.methodLink RX4 80 yX4_lookUp, Cond.instanceMethod yX4_lookUp, Cond.selects RX4 yX4_lookUp yX4_lookUp, Cond.code yX4_lookUp cX4_lookUp 3 none, Cond.fieldLink RX4 34 "RobinRow" "present" "LRobinRow$Table;", Cond.fieldLink RX4 38 "RobinRow" "old" "LRobinRow$Table;", Cond.methodLink RX4 199 yX4_hash]
def wsL_removeMet_r2 : List Cond := [Cond.instanceMethod yX4_hash, Cond.selects RX4 yX4_hash yX4_hash, Cond.code yX4_hash cX4_hash 3 (some .int), Cond.fieldLink RX4 42 "RobinRow" "way" "I", Cond.constant RX4 163 (-1640531535), Cond.methodLink RX4 202 yX1_begin, Cond.instanceMethod yX1_begin, Cond.selects RX1 yX1_begin yX1_begin, Cond.initialized RX1, Cond.code yX1_begin cX1_begin 1 none, Cond.fieldLink RX1 9 "RobinRow$Search" "table" "LRobinRow$Table;", Cond.fieldLink RX1 15 "RobinRow$Search" "groups" "I", Cond.fieldLink RX1 19 "RobinRow$Search" "comparisons" "I", Cond.methodLink RX4 203 yX1_lookIn, Cond.instanceMethod yX1_lookIn, Cond.selects RX1 yX1_lookIn yX1_lookIn, Cond.code yX1_lookIn cX1_lookIn 7 none, Cond.methodLink RX1 27 yX1_lookAtGroup, Cond.instanceMethod yX1_lookAtGroup, Cond.selects RX1 yX1_lookAtGroup yX1_lookAtGroup, Cond.code yX1_lookAtGroup cX1_lookAtGroup 8 (some .boolean), Cond.fieldLink RX1 50 "RobinRow$Search" "slot" "I", Cond.methodLink RX1 31 yX1_hasFound, Cond.instanceMethod yX1_hasFound]
def wsL_removeMet_r3 : List Cond := [Cond.selects RX1 yX1_hasFound yX1_hasFound, Cond.code yX1_hasFound cX1_hasFound 1 (some .boolean), Cond.methodLink RX1 35 yX3_around, Cond.instanceMethod yX3_around, Cond.selects RX3 yX3_around yX3_around, Cond.initialized RX3, Cond.code yX3_around cX3_around 2 (some .int), Cond.fieldLink RX3 35 "RobinRow$Table" "slots" "I", Cond.methodLink RX1 39 yX3_isEmptyIn, Cond.instanceMethod yX3_isEmptyIn, Cond.selects RX3 yX3_isEmptyIn yX3_isEmptyIn, Cond.code yX3_isEmptyIn cX3_isEmptyIn 2 (some .boolean), Cond.fieldLink RX3 9 "RobinRow$Table" "controls" "[B", Cond.methodLink RX1 43 yX3_controlIn, Cond.instanceMethod yX3_controlIn, Cond.selects RX3 yX3_controlIn yX3_controlIn, Cond.code yX3_controlIn cX3_controlIn 2 (some .byte), Cond.methodLink RX1 47 yX3_keyIn, Cond.instanceMethod yX3_keyIn, Cond.selects RX3 yX3_keyIn yX3_keyIn, Cond.code yX3_keyIn cX3_keyIn 2 (some .int), Cond.fieldLink RX3 19 "RobinRow$Table" "keys" "[I", Cond.methodLink RX4 83 yX1_hasFound, Cond.methodLink RX4 157 yX4_remove]
def wsL_removeMet_r4 : List Cond := [Cond.instanceMethod yX4_remove, Cond.selects RX4 yX4_remove yX4_remove, Cond.code yX4_remove cX4_remove 3 (some .int), Cond.methodLink RX4 77 yX4_moveSlice, Cond.instanceMethod yX4_moveSlice, Cond.selects RX4 yX4_moveSlice yX4_moveSlice, Cond.code yX4_moveSlice cX4_moveSlice 3 (some .int), Cond.methodLink RX4 242 yX3_lowestSlotWithKey, Cond.instanceMethod yX3_lowestSlotWithKey, Cond.selects RX3 yX3_lowestSlotWithKey yX3_lowestSlotWithKey, Cond.code yX3_lowestSlotWithKey cX3_lowestSlotWithKey 2 (some .int), Cond.methodLink RX3 42 yX3_isEmptyIn, Cond.methodLink RX4 136 yX3_keyIn, Cond.methodLink RX4 101 yX3_valueIn, Cond.instanceMethod yX3_valueIn, Cond.selects RX3 yX3_valueIn yX3_valueIn, Cond.code yX3_valueIn cX3_valueIn 2 (some .int), Cond.fieldLink RX3 22 "RobinRow$Table" "values" "[I", Cond.methodLink RX4 245 yX3_hashIn, Cond.instanceMethod yX3_hashIn, Cond.selects RX3 yX3_hashIn yX3_hashIn, Cond.code yX3_hashIn cX3_hashIn 2 (some .int), Cond.fieldLink RX3 15 "RobinRow$Table" "hashes" "[I", Cond.methodLink RX4 238 yX3_carryIn]
def wsL_removeMet_r5 : List Cond := [Cond.instanceMethod yX3_carryIn, Cond.selects RX3 yX3_carryIn yX3_carryIn, Cond.code yX3_carryIn cX3_carryIn 14 none, Cond.fieldLink RX3 39 "RobinRow$Table" "count" "I", Cond.methodLink RX3 46 yX3_around, Cond.methodLink RX3 59 yX3_distanceIn, Cond.instanceMethod yX3_distanceIn, Cond.selects RX3 yX3_distanceIn yX3_distanceIn, Cond.code yX3_distanceIn cX3_distanceIn 2 (some .int), Cond.methodLink RX3 62 yX3_fill, Cond.instanceMethod yX3_fill, Cond.selects RX3 yX3_fill yX3_fill, Cond.code yX3_fill cX3_fill 5 none, Cond.methodLink RX4 104 yX3_takeOut, Cond.instanceMethod yX3_takeOut, Cond.selects RX3 yX3_takeOut yX3_takeOut, Cond.code yX3_takeOut cX3_takeOut 5 none, Cond.methodLink RX4 107 yX4_endMoveIfOldIsEmpty, Cond.instanceMethod yX4_endMoveIfOldIsEmpty, Cond.selects RX4 yX4_endMoveIfOldIsEmpty yX4_endMoveIfOldIsEmpty, Cond.code yX4_endMoveIfOldIsEmpty cX4_endMoveIfOldIsEmpty 1 none, Cond.methodLink RX4 53 yX3_emptyWith, Cond.instanceMethod yX3_emptyWith, Cond.selects RX3 yX3_emptyWith yX3_emptyWith]
def wsL_removeMet_r6 : List Cond := [Cond.code yX3_emptyWith cX3_emptyWith 3 none, Cond.methodLink RX3 29 Lib.Math.min.name, Cond.static Lib.Math.min.name, Cond.initialized "java/lang/Math", Cond.code Lib.Math.min.name Lib.Math.min.code 2 (some .int)]
def wsL_removeMet : List Cond := .codeWith yL_removeMet cL_removeMet 4 (some .int) [(0, 9, 12, 29), (0, 9, 15, 19)] :: ((wsL_removeMet_r1 ++ (wsL_removeMet_r2 ++ (wsL_removeMet_r3 ++ (wsL_removeMet_r4 ++ (wsL_removeMet_r5 ++ wsL_removeMet_r6))))) ++ wsX20 ++ wsX40 ++ wsX10 ++ wsX30 ++ (vx_atS RX4 76 "java/lang/IllegalStateException" ["java/lang/RuntimeException", "java/lang/Exception"]).filter goodWord ++ (vx_atS RX4 226 "java/lang/IndexOutOfBoundsException" ["java/lang/RuntimeException", "java/lang/Exception"]).filter goodWord)
def wsL_closeSweep : List Cond := .codeWith yL_closeSweep cL_closeSweep 4 (some .int) [(0, 9, 12, 29)] :: ([.classLink RL 29 "java/lang/IndexOutOfBoundsException", .methodLink RL 38 yX4_closeSweep, .instanceMethod yX4_closeSweep, .selects RX4 yX4_closeSweep yX4_closeSweep, .initialized RX4, .code yX4_closeSweep cX4_closeSweep 3 (some .int), .methodLink RX4 122 yX4_sweepOf, .instanceMethod yX4_sweepOf, .selects RX4 yX4_sweepOf yX4_sweepOf, .code yX4_sweepOf cX4_sweepOf 2 (some (.object "RobinRow$Sweep")), .classLink RX4 222 "java/lang/IndexOutOfBoundsException", .initialized "java/lang/IndexOutOfBoundsException", .fieldLink RX4 11 "RobinRow" "sweeps" "[LRobinRow$Sweep;", .methodLink RX4 59 yX2_end, .instanceMethod yX2_end, .selects RX2 yX2_end yX2_end, .initialized RX2, .code yX2_end cX2_end 1 none, .fieldLink RX2 9 "RobinRow$Sweep" "isOpen" "Z"] ++ wsX20 ++ wsX40 ++ (vx_atS RX4 226 "java/lang/IndexOutOfBoundsException" ["java/lang/RuntimeException", "java/lang/Exception"]).filter goodWord)
def wsL_slots : List Cond := .codeWith yL_slots cL_slots 4 (some .int) [(0, 9, 12, 29)] :: ([.classLink RL 29 "java/lang/IndexOutOfBoundsException", .methodLink RL 41 yX4_slots, .instanceMethod yX4_slots, .selects RX4 yX4_slots yX4_slots, .initialized RX4, .code yX4_slots cX4_slots 2 (some .int), .methodLink RX4 164 yX4_tableOf, .instanceMethod yX4_tableOf, .selects RX4 yX4_tableOf yX4_tableOf, .code yX4_tableOf cX4_tableOf 2 (some (.object "RobinRow$Table")), .classLink RX4 222 "java/lang/IndexOutOfBoundsException", .initialized "java/lang/IndexOutOfBoundsException", .fieldLink RX4 34 "RobinRow" "present" "LRobinRow$Table;", .fieldLink RX4 38 "RobinRow" "old" "LRobinRow$Table;"] ++ wsX30 ++ wsX40 ++ (vx_atS RX4 226 "java/lang/IndexOutOfBoundsException" ["java/lang/RuntimeException", "java/lang/Exception"]).filter goodWord)
def wsL_keysIn : List Cond := .codeWith yL_keysIn cL_keysIn 4 (some .int) [(0, 9, 12, 29)] :: ([.classLink RL 29 "java/lang/IndexOutOfBoundsException", .methodLink RL 44 yX4_keysIn, .instanceMethod yX4_keysIn, .selects RX4 yX4_keysIn yX4_keysIn, .initialized RX4, .code yX4_keysIn cX4_keysIn 2 (some .int), .methodLink RX4 164 yX4_tableOf, .instanceMethod yX4_tableOf, .selects RX4 yX4_tableOf yX4_tableOf, .code yX4_tableOf cX4_tableOf 2 (some (.object "RobinRow$Table")), .classLink RX4 222 "java/lang/IndexOutOfBoundsException", .initialized "java/lang/IndexOutOfBoundsException", .fieldLink RX4 34 "RobinRow" "present" "LRobinRow$Table;", .fieldLink RX4 38 "RobinRow" "old" "LRobinRow$Table;"] ++ wsX30 ++ wsX40 ++ (vx_atS RX4 226 "java/lang/IndexOutOfBoundsException" ["java/lang/RuntimeException", "java/lang/Exception"]).filter goodWord)
def wsL_control : List Cond := .codeWith yL_control cL_control 5 (some .int) [(0, 10, 13, 29)] :: ([.classLink RL 29 "java/lang/IndexOutOfBoundsException", .methodLink RL 47 yX4_control, .instanceMethod yX4_control, .selects RX4 yX4_control yX4_control, .initialized RX4, .code yX4_control cX4_control 3 (some .byte), .methodLink RX4 171 yX4_tableWithSlot, .instanceMethod yX4_tableWithSlot, .selects RX4 yX4_tableWithSlot yX4_tableWithSlot, .code yX4_tableWithSlot cX4_tableWithSlot 4 (some (.object "RobinRow$Table")), .classLink RX4 222 "java/lang/IndexOutOfBoundsException", .initialized "java/lang/IndexOutOfBoundsException", .methodLink RX4 164 yX4_tableOf, .instanceMethod yX4_tableOf, .selects RX4 yX4_tableOf yX4_tableOf, .code yX4_tableOf cX4_tableOf 2 (some (.object "RobinRow$Table")), .fieldLink RX4 34 "RobinRow" "present" "LRobinRow$Table;", .fieldLink RX4 38 "RobinRow" "old" "LRobinRow$Table;", .methodLink RX4 175 yX3_controlIn, .instanceMethod yX3_controlIn, .selects RX3 yX3_controlIn yX3_controlIn, .initialized RX3, .code yX3_controlIn cX3_controlIn 2 (some .byte), .fieldLink RX3 9 "RobinRow$Table" "controls" "[B"] ++ wsX30 ++ wsX40 ++ (vx_atS RX4 226 "java/lang/IndexOutOfBoundsException" ["java/lang/RuntimeException", "java/lang/Exception"]).filter goodWord)
def wsL_keyAt_r1 : List Cond := [Cond.classLink RL 29 "java/lang/IndexOutOfBoundsException", Cond.classLink RL 19 "java/lang/IllegalStateException", Cond.methodLink RL 51 yX4_keyAt, Cond.instanceMethod yX4_keyAt, Cond.selects RX4 yX4_keyAt yX4_keyAt, Cond.initialized RX4, Cond.code yX4_keyAt cX4_keyAt 4 (some .int), Cond.classLink RX4 72 "java/lang/IllegalStateException", Cond.initialized "java/lang/IllegalStateException", Cond.methodLink RX4 171 yX4_tableWithSlot, Cond.instanceMethod yX4_tableWithSlot, Cond.selects RX4 yX4_tableWithSlot yX4_tableWithSlot, Cond.code yX4_tableWithSlot cX4_tableWithSlot 4 (some (.object "RobinRow$Table")), Cond.classLink RX4 222 "java/lang/IndexOutOfBoundsException", Cond.initialized "java/lang/IndexOutOfBoundsException", Cond.methodLink RX4 164 yX4_tableOf, Cond.instanceMethod yX4_tableOf, Cond.selects RX4 yX4_tableOf yX4_tableOf, Cond.code yX4_tableOf cX4_tableOf 2 (some (.object "RobinRow$Table")), Cond.fieldLink RX4 34 "RobinRow" "present" "LRobinRow$Table;", Cond.fieldLink RX4 38 "RobinRow" "old" "LRobinRow$Table;", Cond.methodLink RX4 179 yX3_isEmptyIn, Cond.instanceMethod yX3_isEmptyIn, Cond.selects RX3 yX3_isEmptyIn yX3_isEmptyIn]
def wsL_keyAt_r2 : List Cond := [Cond.initialized RX3, Cond.code yX3_isEmptyIn cX3_isEmptyIn 2 (some .boolean), Cond.fieldLink RX3 9 "RobinRow$Table" "controls" "[B", Cond.methodLink RX4 136 yX3_keyIn, Cond.instanceMethod yX3_keyIn, Cond.selects RX3 yX3_keyIn yX3_keyIn, Cond.code yX3_keyIn cX3_keyIn 2 (some .int), Cond.fieldLink RX3 19 "RobinRow$Table" "keys" "[I"]
def wsL_keyAt : List Cond := .codeWith yL_keyAt cL_keyAt 5 (some .int) [(0, 10, 13, 29), (0, 10, 17, 19)] :: ((wsL_keyAt_r1 ++ wsL_keyAt_r2) ++ wsX30 ++ wsX40 ++ (vx_atS RX4 76 "java/lang/IllegalStateException" ["java/lang/RuntimeException", "java/lang/Exception"]).filter goodWord ++ (vx_atS RX4 226 "java/lang/IndexOutOfBoundsException" ["java/lang/RuntimeException", "java/lang/Exception"]).filter goodWord)
def wsL_distanceAt_r1 : List Cond := [Cond.classLink RL 29 "java/lang/IndexOutOfBoundsException", Cond.methodLink RL 54 yX4_distanceAt, Cond.instanceMethod yX4_distanceAt, Cond.selects RX4 yX4_distanceAt yX4_distanceAt, Cond.initialized RX4, Cond.code yX4_distanceAt cX4_distanceAt 3 (some .int), Cond.methodLink RX4 171 yX4_tableWithSlot, Cond.instanceMethod yX4_tableWithSlot, Cond.selects RX4 yX4_tableWithSlot yX4_tableWithSlot, Cond.code yX4_tableWithSlot cX4_tableWithSlot 4 (some (.object "RobinRow$Table")), Cond.classLink RX4 222 "java/lang/IndexOutOfBoundsException", Cond.initialized "java/lang/IndexOutOfBoundsException", Cond.methodLink RX4 164 yX4_tableOf, Cond.instanceMethod yX4_tableOf, Cond.selects RX4 yX4_tableOf yX4_tableOf, Cond.code yX4_tableOf cX4_tableOf 2 (some (.object "RobinRow$Table")), Cond.fieldLink RX4 34 "RobinRow" "present" "LRobinRow$Table;", Cond.fieldLink RX4 38 "RobinRow" "old" "LRobinRow$Table;", Cond.methodLink RX4 185 yX3_distanceIn, Cond.instanceMethod yX3_distanceIn, Cond.selects RX3 yX3_distanceIn yX3_distanceIn, Cond.initialized RX3, Cond.code yX3_distanceIn cX3_distanceIn 2 (some .int), Cond.fieldLink RX3 15 "RobinRow$Table" "hashes" "[I"]
def wsL_distanceAt_r2 : List Cond := [Cond.methodLink RX3 42 yX3_isEmptyIn, Cond.instanceMethod yX3_isEmptyIn, Cond.selects RX3 yX3_isEmptyIn yX3_isEmptyIn, Cond.code yX3_isEmptyIn cX3_isEmptyIn 2 (some .boolean), Cond.fieldLink RX3 9 "RobinRow$Table" "controls" "[B", Cond.methodLink RX3 46 yX3_around, Cond.instanceMethod yX3_around, Cond.selects RX3 yX3_around yX3_around, Cond.code yX3_around cX3_around 2 (some .int), Cond.fieldLink RX3 35 "RobinRow$Table" "slots" "I"]
def wsL_distanceAt : List Cond := .codeWith yL_distanceAt cL_distanceAt 5 (some .int) [(0, 10, 13, 29)] :: ((wsL_distanceAt_r1 ++ wsL_distanceAt_r2) ++ wsX30 ++ wsX40 ++ (vx_atS RX4 226 "java/lang/IndexOutOfBoundsException" ["java/lang/RuntimeException", "java/lang/Exception"]).filter goodWord)
def wsL_displaced_r1 : List Cond := [Cond.classLink RL 19 "java/lang/IllegalStateException", Cond.methodLink RL 57 yX4_displaced, Cond.instanceMethod yX4_displaced, Cond.selects RX4 yX4_displaced yX4_displaced, Cond.initialized RX4, Cond.code yX4_displaced cX4_displaced 3 (some .int), Cond.classLink RX4 72 "java/lang/IllegalStateException", Cond.initialized "java/lang/IllegalStateException", Cond.fieldLink RX4 18 "RobinRow" "search" "LRobinRow$Search;", Cond.fieldLink RX4 34 "RobinRow" "present" "LRobinRow$Table;", Cond.methodLink RX4 199 yX4_hash, Cond.instanceMethod yX4_hash, Cond.selects RX4 yX4_hash yX4_hash, Cond.code yX4_hash cX4_hash 3 (some .int), Cond.fieldLink RX4 42 "RobinRow" "way" "I", Cond.constant RX4 163 (-1640531535), Cond.methodLink RX4 202 yX1_begin, Cond.instanceMethod yX1_begin, Cond.selects RX1 yX1_begin yX1_begin, Cond.initialized RX1, Cond.code yX1_begin cX1_begin 1 none, Cond.fieldLink RX1 9 "RobinRow$Search" "table" "LRobinRow$Table;", Cond.fieldLink RX1 15 "RobinRow$Search" "groups" "I", Cond.fieldLink RX1 19 "RobinRow$Search" "comparisons" "I"]
def wsL_displaced_r2 : List Cond := [Cond.methodLink RX4 203 yX1_lookIn, Cond.instanceMethod yX1_lookIn, Cond.selects RX1 yX1_lookIn yX1_lookIn, Cond.code yX1_lookIn cX1_lookIn 7 none, Cond.methodLink RX1 27 yX1_lookAtGroup, Cond.instanceMethod yX1_lookAtGroup, Cond.selects RX1 yX1_lookAtGroup yX1_lookAtGroup, Cond.code yX1_lookAtGroup cX1_lookAtGroup 8 (some .boolean), Cond.fieldLink RX1 50 "RobinRow$Search" "slot" "I", Cond.methodLink RX1 31 yX1_hasFound, Cond.instanceMethod yX1_hasFound, Cond.selects RX1 yX1_hasFound yX1_hasFound, Cond.code yX1_hasFound cX1_hasFound 1 (some .boolean), Cond.methodLink RX1 35 yX3_around, Cond.instanceMethod yX3_around, Cond.selects RX3 yX3_around yX3_around, Cond.initialized RX3, Cond.code yX3_around cX3_around 2 (some .int), Cond.fieldLink RX3 35 "RobinRow$Table" "slots" "I", Cond.methodLink RX1 39 yX3_isEmptyIn, Cond.instanceMethod yX3_isEmptyIn, Cond.selects RX3 yX3_isEmptyIn yX3_isEmptyIn, Cond.code yX3_isEmptyIn cX3_isEmptyIn 2 (some .boolean), Cond.fieldLink RX3 9 "RobinRow$Table" "controls" "[B"]
def wsL_displaced_r3 : List Cond := [Cond.methodLink RX1 43 yX3_controlIn, Cond.instanceMethod yX3_controlIn, Cond.selects RX3 yX3_controlIn yX3_controlIn, Cond.code yX3_controlIn cX3_controlIn 2 (some .byte), Cond.methodLink RX1 47 yX3_keyIn, Cond.instanceMethod yX3_keyIn, Cond.selects RX3 yX3_keyIn yX3_keyIn, Cond.code yX3_keyIn cX3_keyIn 2 (some .int), Cond.fieldLink RX3 19 "RobinRow$Table" "keys" "[I", Cond.methodLink RX4 83 yX1_hasFound, Cond.methodLink RX4 209 yX3_displacedBy, Cond.instanceMethod yX3_displacedBy, Cond.selects RX3 yX3_displacedBy yX3_displacedBy, Cond.code yX3_displacedBy cX3_displacedBy 7 (some .int), Cond.methodLink RX3 46 yX3_around, Cond.methodLink RX3 59 yX3_distanceIn, Cond.instanceMethod yX3_distanceIn, Cond.selects RX3 yX3_distanceIn yX3_distanceIn, Cond.code yX3_distanceIn cX3_distanceIn 2 (some .int), Cond.fieldLink RX3 15 "RobinRow$Table" "hashes" "[I", Cond.methodLink RX3 42 yX3_isEmptyIn]
def wsL_displaced : List Cond := .codeWith yL_displaced cL_displaced 4 (some .int) [(0, 9, 12, 19)] :: ((wsL_displaced_r1 ++ (wsL_displaced_r2 ++ wsL_displaced_r3)) ++ wsX40 ++ wsX10 ++ wsX30 ++ (vx_atS RX4 76 "java/lang/IllegalStateException" ["java/lang/RuntimeException", "java/lang/Exception"]).filter goodWord)
def wsL_law0_r1 : List Cond := [Cond.classLink RL 8 RX4, Cond.instantiable RX4 7, Cond.initialized RX4, Cond.classLink RL 61 RX5, Cond.instantiable RX5 17, Cond.initialized RX5, Cond.arrayClass .long, Cond.methodLink RL 60 yX4_init, Cond.instanceMethod yX4_init, Cond.code yX4_init cX4_init 2 none, Cond.methodLink RX4 1 objectInit, Cond.instanceMethod objectInit, Cond.code objectInit ⟨#[0xb1]⟩ 1 none, Cond.classLink RX4 9 RX2, Cond.fieldLink RX4 11 "RobinRow" "sweeps" "[LRobinRow$Sweep;", Cond.classLink RX4 15 RX1, Cond.instantiable RX1 4, Cond.initialized RX1, Cond.fieldLink RX4 18 "RobinRow" "search" "LRobinRow$Search;", Cond.classLink RX4 22 RX0, Cond.instantiable RX0 4, Cond.initialized RX0, Cond.fieldLink RX4 25 "RobinRow" "plainRow" "LRobinRow$PlainRow;", Cond.classLink RX4 29 RX3]
def wsL_law0_r2 : List Cond := [Cond.instantiable RX3 6, Cond.initialized RX3, Cond.fieldLink RX4 34 "RobinRow" "present" "LRobinRow$Table;", Cond.fieldLink RX4 38 "RobinRow" "old" "LRobinRow$Table;", Cond.instantiable RX2 5, Cond.initialized RX2, Cond.fieldLink RX4 42 "RobinRow" "way" "I", Cond.instanceMethod yX1_init, Cond.code yX1_init cX1_init 1 none, Cond.methodLink RX1 3 objectInit, Cond.instanceMethod yX0_init, Cond.code yX0_init cX0_init 1 none, Cond.methodLink RX0 3 objectInit, Cond.arrayClass .int, Cond.fieldLink RX0 9 "RobinRow$PlainRow" "rising" "[I", Cond.arrayClass .boolean, Cond.fieldLink RX0 15 "RobinRow$PlainRow" "taken" "[Z", Cond.methodLink RX4 31 yX3_init, Cond.instanceMethod yX3_init, Cond.code yX3_init cX3_init 2 none, Cond.methodLink RX3 3 objectInit, Cond.arrayClass .byte, Cond.fieldLink RX3 9 "RobinRow$Table" "controls" "[B", Cond.fieldLink RX3 15 "RobinRow$Table" "hashes" "[I"]
def wsL_law0_r3 : List Cond := [Cond.fieldLink RX3 19 "RobinRow$Table" "keys" "[I", Cond.fieldLink RX3 22 "RobinRow$Table" "values" "[I", Cond.methodLink RX3 25 yX3_emptyWith, Cond.instanceMethod yX3_emptyWith, Cond.selects RX3 yX3_emptyWith yX3_emptyWith, Cond.code yX3_emptyWith cX3_emptyWith 3 none, Cond.methodLink RX3 29 Lib.Math.min.name, Cond.static Lib.Math.min.name, Cond.initialized "java/lang/Math", Cond.code Lib.Math.min.name Lib.Math.min.code 2 (some .int), Cond.fieldLink RX3 35 "RobinRow$Table" "slots" "I", Cond.fieldLink RX3 39 "RobinRow$Table" "count" "I", Cond.instanceMethod yX2_init, Cond.code yX2_init cX2_init 1 none, Cond.methodLink RX2 3 objectInit, Cond.methodLink RL 63 yX5_init, Cond.instanceMethod yX5_init, Cond.code yX5_init cX5_init 1 none, Cond.methodLink RX5 1 objectInit, Cond.fieldLink RX5 7 "RobinRowModel" "keys" "[I", Cond.fieldLink RX5 13 "RobinRowModel" "values" "[I", Cond.fieldLink RX5 16 "RobinRowModel" "isFull" "[Z", Cond.fieldLink RX5 20 "RobinRowModel" "slots" "[I", Cond.fieldLink RX5 23 "RobinRowModel" "many" "[I"]
def wsL_law0_r4 : List Cond := [Cond.fieldLink RX5 26 "RobinRowModel" "way" "I", Cond.fieldLink RX5 30 "RobinRowModel" "isOpen" "[Z", Cond.fieldLink RX5 33 "RobinRowModel" "last" "[J", Cond.fieldLink RX5 37 "RobinRowModel" "lastKey" "[I", Cond.fieldLink RX5 40 "RobinRowModel" "isTaken" "[Z", Cond.fieldLink RX5 43 "RobinRowModel" "met" "[I", Cond.fieldLink RX5 46 "RobinRowModel" "plainFull" "[Z", Cond.methodLink RL 64 yL_clear, Cond.static yL_clear, Cond.initialized RL, Cond.codeWith yL_clear cL_clear 3 (some .int) [(0, 5, 8, 13)], Cond.classLink RL 13 "java/lang/IllegalArgumentException", Cond.methodLink RL 7 yX4_clear, Cond.instanceMethod yX4_clear, Cond.selects RX4 yX4_clear yX4_clear, Cond.code yX4_clear cX4_clear 3 none, Cond.classLink RX4 46 "java/lang/IllegalArgumentException", Cond.initialized "java/lang/IllegalArgumentException", Cond.fieldLink RX4 56 "RobinRow" "begunMoves" "I", Cond.methodLink RX4 53 yX3_emptyWith, Cond.methodLink RX4 59 yX2_end, Cond.instanceMethod yX2_end, Cond.selects RX2 yX2_end yX2_end, Cond.code yX2_end cX2_end 1 none]
def wsL_law0_r5 : List Cond := [Cond.fieldLink RX2 9 "RobinRow$Sweep" "isOpen" "Z", Cond.methodLink RL 69 yX5_clear, Cond.instanceMethod yX5_clear, Cond.selects RX5 yX5_clear yX5_clear, Cond.code yX5_clear cX5_clear 3 none, Cond.fieldLink RX5 64 "RobinRowModel" "present" "I", Cond.fieldLink RX5 83 "RobinRowModel" "moves" "I", Cond.methodLink RX5 75 yX5_in, Cond.static yX5_in, Cond.code yX5_in cX5_in 3 (some .boolean), Cond.methodLink RX5 79 yX5_isFine, Cond.instanceMethod yX5_isFine, Cond.selects RX5 yX5_isFine yX5_isFine, Cond.code yX5_isFine cX5_isFine 2 (some .boolean), Cond.fieldLink RX5 49 "RobinRowModel" "thrown" "I", Cond.methodLink RL 70 yX5_thrown, Cond.instanceMethod yX5_thrown, Cond.selects RX5 yX5_thrown yX5_thrown, Cond.code yX5_thrown cX5_thrown 1 (some .int), Cond.methodLink RL 73 yL_put, Cond.static yL_put, Cond.codeWith yL_put cL_put 5 (some .int) [(0, 10, 13, 13), (0, 10, 17, 19)], Cond.classLink RL 19 "java/lang/IllegalStateException", Cond.methodLink RL 15 yX4_put]
def wsL_law0_r6 : List Cond := [Cond.instanceMethod yX4_put, Cond.selects RX4 yX4_put yX4_put, Cond.code yX4_put cX4_put 3 (some .int), Cond.classLink RX4 72 "java/lang/IllegalStateException", Cond.initialized "java/lang/IllegalStateException", Cond.methodLink RX4 64 yX4_size, Cond.instanceMethod yX4_size, Cond.selects RX4 yX4_size yX4_size, Cond.code yX4_size cX4_size 1 (some .int), Cond.methodLink RX4 68 yX4_get, Cond.instanceMethod yX4_get, Cond.selects RX4 yX4_get yX4_get, Cond.code yX4_get cX4_get 2 (some .int), Cond.methodLink RX4 80 yX4_lookUp, Cond.instanceMethod yX4_lookUp, Cond.selects RX4 yX4_lookUp yX4_lookUp, Cond.code yX4_lookUp cX4_lookUp 3 none, Cond.methodLink RX4 199 yX4_hash, Cond.instanceMethod yX4_hash, Cond.selects RX4 yX4_hash yX4_hash, Cond.code yX4_hash cX4_hash 3 (some .int), Cond.constant RX4 163 (-1640531535), Cond.methodLink RX4 202 yX1_begin, Cond.instanceMethod yX1_begin]
def wsL_law0_r7 : List Cond := [Cond.selects RX1 yX1_begin yX1_begin, Cond.code yX1_begin cX1_begin 1 none, Cond.fieldLink RX1 9 "RobinRow$Search" "table" "LRobinRow$Table;", Cond.fieldLink RX1 15 "RobinRow$Search" "groups" "I", Cond.fieldLink RX1 19 "RobinRow$Search" "comparisons" "I", Cond.methodLink RX4 203 yX1_lookIn, Cond.instanceMethod yX1_lookIn, Cond.selects RX1 yX1_lookIn yX1_lookIn, Cond.code yX1_lookIn cX1_lookIn 7 none, Cond.methodLink RX1 27 yX1_lookAtGroup, Cond.instanceMethod yX1_lookAtGroup, Cond.selects RX1 yX1_lookAtGroup yX1_lookAtGroup, Cond.code yX1_lookAtGroup cX1_lookAtGroup 8 (some .boolean), Cond.fieldLink RX1 50 "RobinRow$Search" "slot" "I", Cond.methodLink RX1 31 yX1_hasFound, Cond.instanceMethod yX1_hasFound, Cond.selects RX1 yX1_hasFound yX1_hasFound, Cond.code yX1_hasFound cX1_hasFound 1 (some .boolean), Cond.methodLink RX1 35 yX3_around, Cond.instanceMethod yX3_around, Cond.selects RX3 yX3_around yX3_around, Cond.code yX3_around cX3_around 2 (some .int), Cond.methodLink RX1 39 yX3_isEmptyIn, Cond.instanceMethod yX3_isEmptyIn]
def wsL_law0_r8 : List Cond := [Cond.selects RX3 yX3_isEmptyIn yX3_isEmptyIn, Cond.code yX3_isEmptyIn cX3_isEmptyIn 2 (some .boolean), Cond.methodLink RX1 43 yX3_controlIn, Cond.instanceMethod yX3_controlIn, Cond.selects RX3 yX3_controlIn yX3_controlIn, Cond.code yX3_controlIn cX3_controlIn 2 (some .byte), Cond.methodLink RX1 47 yX3_keyIn, Cond.instanceMethod yX3_keyIn, Cond.selects RX3 yX3_keyIn yX3_keyIn, Cond.code yX3_keyIn cX3_keyIn 2 (some .int), Cond.methodLink RX4 83 yX1_hasFound, Cond.methodLink RX4 101 yX3_valueIn, Cond.instanceMethod yX3_valueIn, Cond.selects RX3 yX3_valueIn yX3_valueIn, Cond.code yX3_valueIn cX3_valueIn 2 (some .int), Cond.methodLink RX4 77 yX4_moveSlice, Cond.instanceMethod yX4_moveSlice, Cond.selects RX4 yX4_moveSlice yX4_moveSlice, Cond.code yX4_moveSlice cX4_moveSlice 3 (some .int), Cond.methodLink RX4 242 yX3_lowestSlotWithKey, Cond.instanceMethod yX3_lowestSlotWithKey, Cond.selects RX3 yX3_lowestSlotWithKey yX3_lowestSlotWithKey, Cond.code yX3_lowestSlotWithKey cX3_lowestSlotWithKey 2 (some .int), Cond.methodLink RX3 42 yX3_isEmptyIn]
def wsL_law0_r9 : List Cond := [Cond.methodLink RX4 136 yX3_keyIn, Cond.methodLink RX4 245 yX3_hashIn, Cond.instanceMethod yX3_hashIn, Cond.selects RX3 yX3_hashIn yX3_hashIn, Cond.code yX3_hashIn cX3_hashIn 2 (some .int), Cond.methodLink RX4 238 yX3_carryIn, Cond.instanceMethod yX3_carryIn, Cond.selects RX3 yX3_carryIn yX3_carryIn, Cond.code yX3_carryIn cX3_carryIn 14 none, Cond.methodLink RX3 46 yX3_around, Cond.methodLink RX3 59 yX3_distanceIn, Cond.instanceMethod yX3_distanceIn, Cond.selects RX3 yX3_distanceIn yX3_distanceIn, Cond.code yX3_distanceIn cX3_distanceIn 2 (some .int), Cond.methodLink RX3 62 yX3_fill, Cond.instanceMethod yX3_fill, Cond.selects RX3 yX3_fill yX3_fill, Cond.code yX3_fill cX3_fill 5 none, Cond.methodLink RX4 104 yX3_takeOut, Cond.instanceMethod yX3_takeOut, Cond.selects RX3 yX3_takeOut yX3_takeOut, Cond.code yX3_takeOut cX3_takeOut 5 none, Cond.methodLink RX4 107 yX4_endMoveIfOldIsEmpty, Cond.instanceMethod yX4_endMoveIfOldIsEmpty]
def wsL_law0_r10 : List Cond := [Cond.selects RX4 yX4_endMoveIfOldIsEmpty yX4_endMoveIfOldIsEmpty, Cond.code yX4_endMoveIfOldIsEmpty cX4_endMoveIfOldIsEmpty 1 none, Cond.methodLink RX4 93 yX3_exchangeValue, Cond.instanceMethod yX3_exchangeValue, Cond.selects RX3 yX3_exchangeValue yX3_exchangeValue, Cond.code yX3_exchangeValue cX3_exchangeValue 4 (some .int), Cond.methodLink RX4 97 yX4_putNew, Cond.instanceMethod yX4_putNew, Cond.selects RX4 yX4_putNew yX4_putNew, Cond.code yX4_putNew cX4_putNew 3 none, Cond.methodLink RX4 235 yX4_beginMove, Cond.instanceMethod yX4_beginMove, Cond.selects RX4 yX4_beginMove yX4_beginMove, Cond.code yX4_beginMove cX4_beginMove 2 none, Cond.methodLink RL 76 yX5_put, Cond.instanceMethod yX5_put, Cond.selects RX5 yX5_put yX5_put, Cond.code yX5_put cX5_put 5 (some .int), Cond.methodLink RX5 92 yX5_placeOf, Cond.instanceMethod yX5_placeOf, Cond.selects RX5 yX5_placeOf yX5_placeOf, Cond.code yX5_placeOf cX5_placeOf 3 (some .int), Cond.methodLink RX5 86 yX5_slotOf, Cond.instanceMethod yX5_slotOf]
def wsL_law0_r11 : List Cond := [Cond.selects RX5 yX5_slotOf yX5_slotOf, Cond.code yX5_slotOf cX5_slotOf 5 (some .int), Cond.methodLink RX5 89 yX5_isThere, Cond.instanceMethod yX5_isThere, Cond.selects RX5 yX5_isThere yX5_isThere, Cond.code yX5_isThere cX5_isThere 2 (some .boolean), Cond.methodLink RX5 95 yX5_slice, Cond.instanceMethod yX5_slice, Cond.selects RX5 yX5_slice yX5_slice, Cond.code yX5_slice cX5_slice 6 (some .int), Cond.methodLink RX5 67 yX5_takes, Cond.instanceMethod yX5_takes, Cond.selects RX5 yX5_takes yX5_takes, Cond.code yX5_takes cX5_takes 5 none, Cond.methodLink RX5 61 yX5_distance, Cond.instanceMethod yX5_distance, Cond.selects RX5 yX5_distance yX5_distance, Cond.code yX5_distance cX5_distance 3 (some .int), Cond.methodLink RX5 57 yX5_home, Cond.instanceMethod yX5_home, Cond.selects RX5 yX5_home yX5_home, Cond.code yX5_home cX5_home 3 (some .int), Cond.methodLink RX5 53 yX5_hashOf, Cond.instanceMethod yX5_hashOf]
def wsL_law0_r12 : List Cond := [Cond.selects RX5 yX5_hashOf yX5_hashOf, Cond.code yX5_hashOf cX5_hashOf 3 (some .int), Cond.constant RX5 52 (-1640531535), Cond.methodLink RX5 71 yX5_carries, Cond.instanceMethod yX5_carries, Cond.selects RX5 yX5_carries yX5_carries, Cond.code yX5_carries cX5_carries 13 (some .int), Cond.methodLink RL 77 yX4_get, Cond.methodLink RL 80 yX5_get, Cond.instanceMethod yX5_get, Cond.selects RX5 yX5_get yX5_get, Cond.code yX5_get cX5_get 3 (some .int), Cond.methodLink RL 81 yX4_remove, Cond.instanceMethod yX4_remove, Cond.selects RX4 yX4_remove yX4_remove, Cond.code yX4_remove cX4_remove 3 (some .int), Cond.methodLink RL 84 yX5_remove, Cond.instanceMethod yX5_remove, Cond.selects RX5 yX5_remove yX5_remove, Cond.code yX5_remove cX5_remove 2 (some .int), Cond.methodLink RX5 99 yX5_removes, Cond.instanceMethod yX5_removes, Cond.selects RX5 yX5_removes yX5_removes, Cond.code yX5_removes cX5_removes 4 (some .int)]
def wsL_law0_r13 : List Cond := [Cond.methodLink RL 85 yX4_move, Cond.instanceMethod yX4_move, Cond.selects RX4 yX4_move yX4_move, Cond.code yX4_move cX4_move 1 (some .int), Cond.methodLink RL 88 yX5_move, Cond.instanceMethod yX5_move, Cond.selects RX5 yX5_move yX5_move, Cond.code yX5_move cX5_move 1 (some .int), Cond.methodLink RL 89 yX4_size, Cond.methodLink RL 92 yX5_size, Cond.instanceMethod yX5_size, Cond.selects RX5 yX5_size yX5_size, Cond.code yX5_size cX5_size 1 (some .int), Cond.methodLink RL 93 yX4_moves, Cond.instanceMethod yX4_moves, Cond.selects RX4 yX4_moves yX4_moves, Cond.code yX4_moves cX4_moves 1 (some .int), Cond.methodLink RL 96 yX5_moves, Cond.instanceMethod yX5_moves, Cond.selects RX5 yX5_moves yX5_moves, Cond.code yX5_moves cX5_moves 1 (some .int), Cond.methodLink RL 97 yL_openSweep, Cond.static yL_openSweep, Cond.codeWith yL_openSweep cL_openSweep 3 (some .int) [(0, 8, 11, 19)]]
def wsL_law0_r14 : List Cond := [Cond.methodLink RL 21 yX4_openSweep, Cond.instanceMethod yX4_openSweep, Cond.selects RX4 yX4_openSweep yX4_openSweep, Cond.code yX4_openSweep cX4_openSweep 2 (some .int), Cond.methodLink RX4 117 yX2_begin, Cond.instanceMethod yX2_begin, Cond.selects RX2 yX2_begin yX2_begin, Cond.code yX2_begin cX2_begin 1 none, Cond.fieldLink RX2 15 "RobinRow$Sweep" "mayRemove" "Z", Cond.fieldLink RX2 18 "RobinRow$Sweep" "met" "I", Cond.constantLong RX2 22 (-1), Cond.fieldLink RX2 24 "RobinRow$Sweep" "rank" "J", Cond.methodLink RL 100 yX5_openSweep, Cond.instanceMethod yX5_openSweep, Cond.selects RX5 yX5_openSweep yX5_openSweep, Cond.code yX5_openSweep cX5_openSweep 2 (some .int), Cond.constantLong RX5 108 (-1), Cond.methodLink RL 101 yL_hasNext, Cond.static yL_hasNext, Cond.codeWith yL_hasNext cL_hasNext 4 (some .int) [(0, 16, 19, 29)], Cond.classLink RL 29 "java/lang/IndexOutOfBoundsException", Cond.methodLink RL 25 yX4_hasNext, Cond.instanceMethod yX4_hasNext, Cond.selects RX4 yX4_hasNext yX4_hasNext]
def wsL_law0_r15 : List Cond := [Cond.code yX4_hasNext cX4_hasNext 2 (some .boolean), Cond.methodLink RX4 122 yX4_sweepOf, Cond.instanceMethod yX4_sweepOf, Cond.selects RX4 yX4_sweepOf yX4_sweepOf, Cond.code yX4_sweepOf cX4_sweepOf 2 (some (.object "RobinRow$Sweep")), Cond.classLink RX4 222 "java/lang/IndexOutOfBoundsException", Cond.initialized "java/lang/IndexOutOfBoundsException", Cond.methodLink RX4 130 yX4_seekBehind, Cond.instanceMethod yX4_seekBehind, Cond.selects RX4 yX4_seekBehind yX4_seekBehind, Cond.code yX4_seekBehind cX4_seekBehind 3 none, Cond.methodLink RX4 231 yX1_seekIn, Cond.instanceMethod yX1_seekIn, Cond.selects RX1 yX1_seekIn yX1_seekIn, Cond.code yX1_seekIn cX1_seekIn 5 none, Cond.methodLink RX1 53 yX3_rankIn, Cond.instanceMethod yX3_rankIn, Cond.selects RX3 yX3_rankIn yX3_rankIn, Cond.code yX3_rankIn cX3_rankIn 2 (some .long), Cond.methodLink RX3 50 yJ6_reverse_0f7a4, Cond.static yJ6_reverse_0f7a4, Cond.initialized RJ6, Cond.code yJ6_reverse_0f7a4 cJ6_reverse_0f7a4 1 (some .int), Cond.constant RJ6 265 (1431655765)]
def wsL_law0_r16 : List Cond := [Cond.constant RJ6 266 (858993459), Cond.constant RJ6 267 (252645135), Cond.methodLink RJ6 268 yJ6_reverseBytes_0f7a4, Cond.static yJ6_reverseBytes_0f7a4, Cond.code yJ6_reverseBytes_0f7a4 cJ6_reverseBytes_0f7a4 1 (some .int), Cond.constant RJ6 274 (65280), Cond.methodLink RX3 55 yJ6_toUnsignedLong_3e8ac, Cond.static yJ6_toUnsignedLong_3e8ac, Cond.code yJ6_toUnsignedLong_3e8ac cJ6_toUnsignedLong_3e8ac 1 (some .long), Cond.constantLong RJ6 262 (4294967295), Cond.methodLink RL 104 yX5_hasNext, Cond.instanceMethod yX5_hasNext, Cond.selects RX5 yX5_hasNext yX5_hasNext, Cond.code yX5_hasNext cX5_hasNext 2 (some .boolean), Cond.methodLink RX5 110 yX5_isSweep, Cond.instanceMethod yX5_isSweep, Cond.selects RX5 yX5_isSweep yX5_isSweep, Cond.code yX5_isSweep cX5_isSweep 2 (some .boolean), Cond.methodLink RX5 113 yX5_behind, Cond.instanceMethod yX5_behind, Cond.selects RX5 yX5_behind yX5_behind, Cond.code yX5_behind cX5_behind 5 (some .int), Cond.methodLink RX5 104 yX5_orderOf, Cond.instanceMethod yX5_orderOf]
def wsL_law0_r17 : List Cond := [Cond.selects RX5 yX5_orderOf yX5_orderOf, Cond.code yX5_orderOf cX5_orderOf 6 (some .long), Cond.constantLong RX5 102 (2), Cond.methodLink RL 105 yL_next, Cond.static yL_next, Cond.codeWith yL_next cL_next 4 (some .int) [(0, 9, 12, 29), (0, 9, 15, 19)], Cond.methodLink RL 31 yX4_next, Cond.instanceMethod yX4_next, Cond.selects RX4 yX4_next yX4_next, Cond.code yX4_next cX4_next 4 (some .int), Cond.methodLink RX4 139 yX3_rankIn, Cond.methodLink RX4 143 yX2_meet, Cond.instanceMethod yX2_meet, Cond.selects RX2 yX2_meet yX2_meet, Cond.code yX2_meet cX2_meet 4 none, Cond.fieldLink RX2 28 "RobinRow$Sweep" "key" "I", Cond.methodLink RL 107 yX5_next, Cond.instanceMethod yX5_next, Cond.selects RX5 yX5_next yX5_next, Cond.code yX5_next cX5_next 3 (some .int), Cond.methodLink RL 108 yL_removeMet, Cond.static yL_removeMet, Cond.codeWith yL_removeMet cL_removeMet 4 (some .int) [(0, 9, 12, 29), (0, 9, 15, 19)], Cond.methodLink RL 35 yX4_removeMet]
def wsL_law0_r18 : List Cond := [Cond.instanceMethod yX4_removeMet, Cond.selects RX4 yX4_removeMet yX4_removeMet, Cond.code yX4_removeMet cX4_removeMet 3 (some .int), Cond.methodLink RX4 157 yX4_remove, Cond.methodLink RL 110 yX5_removeMet, Cond.instanceMethod yX5_removeMet, Cond.selects RX5 yX5_removeMet yX5_removeMet, Cond.code yX5_removeMet cX5_removeMet 2 (some .int), Cond.methodLink RL 111 yL_closeSweep, Cond.static yL_closeSweep, Cond.codeWith yL_closeSweep cL_closeSweep 4 (some .int) [(0, 9, 12, 29)], Cond.methodLink RL 38 yX4_closeSweep, Cond.instanceMethod yX4_closeSweep, Cond.selects RX4 yX4_closeSweep yX4_closeSweep, Cond.code yX4_closeSweep cX4_closeSweep 3 (some .int), Cond.methodLink RL 113 yX5_closeSweep, Cond.instanceMethod yX5_closeSweep, Cond.selects RX5 yX5_closeSweep yX5_closeSweep, Cond.code yX5_closeSweep cX5_closeSweep 2 (some .int), Cond.methodLink RL 114 yX4_hash, Cond.methodLink RL 117 yX5_hash, Cond.instanceMethod yX5_hash, Cond.selects RX5 yX5_hash yX5_hash, Cond.code yX5_hash cX5_hash 2 (some .int)]
def wsL_law0_r19 : List Cond := [Cond.methodLink RL 118 yL_slots, Cond.static yL_slots, Cond.codeWith yL_slots cL_slots 4 (some .int) [(0, 9, 12, 29)], Cond.methodLink RL 41 yX4_slots, Cond.instanceMethod yX4_slots, Cond.selects RX4 yX4_slots yX4_slots, Cond.code yX4_slots cX4_slots 2 (some .int), Cond.methodLink RX4 164 yX4_tableOf, Cond.instanceMethod yX4_tableOf, Cond.selects RX4 yX4_tableOf yX4_tableOf, Cond.code yX4_tableOf cX4_tableOf 2 (some (.object "RobinRow$Table")), Cond.methodLink RL 120 yX5_slots, Cond.instanceMethod yX5_slots, Cond.selects RX5 yX5_slots yX5_slots, Cond.code yX5_slots cX5_slots 2 (some .int), Cond.methodLink RX5 117 yX5_tableOf, Cond.instanceMethod yX5_tableOf, Cond.selects RX5 yX5_tableOf yX5_tableOf, Cond.code yX5_tableOf cX5_tableOf 2 (some .int), Cond.methodLink RL 121 yL_keysIn, Cond.static yL_keysIn, Cond.codeWith yL_keysIn cL_keysIn 4 (some .int) [(0, 9, 12, 29)], Cond.methodLink RL 44 yX4_keysIn, Cond.instanceMethod yX4_keysIn]
def wsL_law0_r20 : List Cond := [Cond.selects RX4 yX4_keysIn yX4_keysIn, Cond.code yX4_keysIn cX4_keysIn 2 (some .int), Cond.methodLink RL 123 yX5_keysIn, Cond.instanceMethod yX5_keysIn, Cond.selects RX5 yX5_keysIn yX5_keysIn, Cond.code yX5_keysIn cX5_keysIn 2 (some .int), Cond.methodLink RL 124 yL_control, Cond.static yL_control, Cond.codeWith yL_control cL_control 5 (some .int) [(0, 10, 13, 29)], Cond.methodLink RL 47 yX4_control, Cond.instanceMethod yX4_control, Cond.selects RX4 yX4_control yX4_control, Cond.code yX4_control cX4_control 3 (some .byte), Cond.methodLink RX4 171 yX4_tableWithSlot, Cond.instanceMethod yX4_tableWithSlot, Cond.selects RX4 yX4_tableWithSlot yX4_tableWithSlot, Cond.code yX4_tableWithSlot cX4_tableWithSlot 4 (some (.object "RobinRow$Table")), Cond.methodLink RX4 175 yX3_controlIn, Cond.methodLink RL 126 yX5_control, Cond.instanceMethod yX5_control, Cond.selects RX5 yX5_control yX5_control, Cond.code yX5_control cX5_control 3 (some .byte), Cond.methodLink RX5 120 yX5_isSlot, Cond.instanceMethod yX5_isSlot]
def wsL_law0_r21 : List Cond := [Cond.selects RX5 yX5_isSlot yX5_isSlot, Cond.code yX5_isSlot cX5_isSlot 3 (some .boolean), Cond.methodLink RX5 124 yX5_controlOf, Cond.instanceMethod yX5_controlOf, Cond.selects RX5 yX5_controlOf yX5_controlOf, Cond.code yX5_controlOf cX5_controlOf 3 (some .byte), Cond.methodLink RL 127 yL_keyAt, Cond.static yL_keyAt, Cond.codeWith yL_keyAt cL_keyAt 5 (some .int) [(0, 10, 13, 29), (0, 10, 17, 19)], Cond.methodLink RL 51 yX4_keyAt, Cond.instanceMethod yX4_keyAt, Cond.selects RX4 yX4_keyAt yX4_keyAt, Cond.code yX4_keyAt cX4_keyAt 4 (some .int), Cond.methodLink RX4 179 yX3_isEmptyIn, Cond.methodLink RL 129 yX5_keyAt, Cond.instanceMethod yX5_keyAt, Cond.selects RX5 yX5_keyAt yX5_keyAt, Cond.code yX5_keyAt cX5_keyAt 4 (some .int), Cond.methodLink RL 130 yL_distanceAt, Cond.static yL_distanceAt, Cond.codeWith yL_distanceAt cL_distanceAt 5 (some .int) [(0, 10, 13, 29)], Cond.methodLink RL 54 yX4_distanceAt, Cond.instanceMethod yX4_distanceAt, Cond.selects RX4 yX4_distanceAt yX4_distanceAt]
def wsL_law0_r22 : List Cond := [Cond.code yX4_distanceAt cX4_distanceAt 3 (some .int), Cond.methodLink RX4 185 yX3_distanceIn, Cond.methodLink RL 132 yX5_distanceAt, Cond.instanceMethod yX5_distanceAt, Cond.selects RX5 yX5_distanceAt yX5_distanceAt, Cond.code yX5_distanceAt cX5_distanceAt 4 (some .int), Cond.methodLink RL 133 yX4_longest, Cond.instanceMethod yX4_longest, Cond.selects RX4 yX4_longest yX4_longest, Cond.code yX4_longest cX4_longest 3 (some .int), Cond.methodLink RX4 188 Lib.Math.max.name, Cond.static Lib.Math.max.name, Cond.code Lib.Math.max.name Lib.Math.max.code 2 (some .int), Cond.methodLink RL 136 yX5_longest, Cond.instanceMethod yX5_longest, Cond.selects RX5 yX5_longest yX5_longest, Cond.code yX5_longest cX5_longest 3 (some .int), Cond.methodLink RL 137 yX4_total, Cond.instanceMethod yX4_total, Cond.selects RX4 yX4_total yX4_total, Cond.code yX4_total cX4_total 3 (some .int), Cond.methodLink RL 140 yX5_total, Cond.instanceMethod yX5_total, Cond.selects RX5 yX5_total yX5_total]
def wsL_law0_r23 : List Cond := [Cond.code yX5_total cX5_total 3 (some .int), Cond.methodLink RL 141 yX4_groups, Cond.instanceMethod yX4_groups, Cond.selects RX4 yX4_groups yX4_groups, Cond.code yX4_groups cX4_groups 2 (some .int), Cond.methodLink RL 144 yX5_groups, Cond.instanceMethod yX5_groups, Cond.selects RX5 yX5_groups yX5_groups, Cond.code yX5_groups cX5_groups 2 (some .int), Cond.methodLink RX5 131 yX5_looksBoth, Cond.instanceMethod yX5_looksBoth, Cond.selects RX5 yX5_looksBoth yX5_looksBoth, Cond.code yX5_looksBoth cX5_looksBoth 3 (some .int), Cond.methodLink RX5 128 yX5_looks, Cond.instanceMethod yX5_looks, Cond.selects RX5 yX5_looks yX5_looks, Cond.code yX5_looks cX5_looks 13 (some .int), Cond.methodLink RL 145 yX4_comparisons, Cond.instanceMethod yX4_comparisons, Cond.selects RX4 yX4_comparisons yX4_comparisons, Cond.code yX4_comparisons cX4_comparisons 2 (some .int), Cond.methodLink RL 148 yX5_comparisons, Cond.instanceMethod yX5_comparisons, Cond.selects RX5 yX5_comparisons yX5_comparisons]
def wsL_law0_r24 : List Cond := [Cond.code yX5_comparisons cX5_comparisons 2 (some .int), Cond.methodLink RL 149 yL_displaced, Cond.static yL_displaced, Cond.codeWith yL_displaced cL_displaced 4 (some .int) [(0, 9, 12, 19)], Cond.methodLink RL 57 yX4_displaced, Cond.instanceMethod yX4_displaced, Cond.selects RX4 yX4_displaced yX4_displaced, Cond.code yX4_displaced cX4_displaced 3 (some .int), Cond.methodLink RX4 209 yX3_displacedBy, Cond.instanceMethod yX3_displacedBy, Cond.selects RX3 yX3_displacedBy yX3_displacedBy, Cond.code yX3_displacedBy cX3_displacedBy 7 (some .int), Cond.methodLink RL 151 yX5_displaced, Cond.instanceMethod yX5_displaced, Cond.selects RX5 yX5_displaced yX5_displaced, Cond.code yX5_displaced cX5_displaced 2 (some .int), Cond.methodLink RL 152 yX4_plainTotal, Cond.instanceMethod yX4_plainTotal, Cond.selects RX4 yX4_plainTotal yX4_plainTotal, Cond.code yX4_plainTotal cX4_plainTotal 1 (some .int), Cond.methodLink RX4 212 yX0_fillFrom, Cond.instanceMethod yX0_fillFrom, Cond.selects RX0 yX0_fillFrom yX0_fillFrom, Cond.code yX0_fillFrom cX0_fillFrom 5 none]
def wsL_law0_r25 : List Cond := [Cond.fieldLink RX0 19 "RobinRow$PlainRow" "total" "I", Cond.fieldLink RX0 23 "RobinRow$PlainRow" "longest" "I", Cond.methodLink RX0 40 Lib.Math.max.name, Cond.methodLink RX0 26 yX0_sortByKeys, Cond.instanceMethod yX0_sortByKeys, Cond.selects RX0 yX0_sortByKeys yX0_sortByKeys, Cond.code yX0_sortByKeys cX0_sortByKeys 5 (some .int), Cond.methodLink RX0 49 yX3_isEmptyIn, Cond.methodLink RX0 53 yX3_keyIn, Cond.methodLink RX0 30 yX3_hashIn, Cond.methodLink RX0 36 yX0_takeFirstFree, Cond.instanceMethod yX0_takeFirstFree, Cond.selects RX0 yX0_takeFirstFree yX0_takeFirstFree, Cond.code yX0_takeFirstFree cX0_takeFirstFree 4 (some .int), Cond.methodLink RX0 56 yX3_around, Cond.methodLink RL 155 yX5_plainTotal, Cond.instanceMethod yX5_plainTotal, Cond.selects RX5 yX5_plainTotal yX5_plainTotal, Cond.code yX5_plainTotal cX5_plainTotal 1 (some .int), Cond.fieldLink RX5 137 "RobinRowModel" "plainSum" "I", Cond.methodLink RX5 142 yX5_plain, Cond.instanceMethod yX5_plain, Cond.selects RX5 yX5_plain yX5_plain, Cond.code yX5_plain cX5_plain 7 none]
def wsL_law0_r26 : List Cond := [Cond.fieldLink RX5 134 "RobinRowModel" "plainMost" "I", Cond.constantLong RX5 140 (-3000000000), Cond.methodLink RL 156 yX4_plainLongest, Cond.instanceMethod yX4_plainLongest, Cond.selects RX4 yX4_plainLongest yX4_plainLongest, Cond.code yX4_plainLongest cX4_plainLongest 1 (some .int), Cond.methodLink RL 159 yX5_plainLongest, Cond.instanceMethod yX5_plainLongest, Cond.selects RX5 yX5_plainLongest yX5_plainLongest, Cond.code yX5_plainLongest cX5_plainLongest 1 (some .int)]
def wsL_law0 : List Cond := (wsL_law0_r1 ++ (wsL_law0_r2 ++ (wsL_law0_r3 ++ (wsL_law0_r4 ++ (wsL_law0_r5 ++ (wsL_law0_r6 ++ (wsL_law0_r7 ++ (wsL_law0_r8 ++ (wsL_law0_r9 ++ (wsL_law0_r10 ++ (wsL_law0_r11 ++ (wsL_law0_r12 ++ (wsL_law0_r13 ++ (wsL_law0_r14 ++ (wsL_law0_r15 ++ (wsL_law0_r16 ++ (wsL_law0_r17 ++ (wsL_law0_r18 ++ (wsL_law0_r19 ++ (wsL_law0_r20 ++ (wsL_law0_r21 ++ (wsL_law0_r22 ++ (wsL_law0_r23 ++ (wsL_law0_r24 ++ (wsL_law0_r25 ++ wsL_law0_r26))))))))))))))))))))))))) ++ wsX40 ++ wsX50 ++ wsX10 ++ wsX00 ++ wsX30 ++ wsX20 ++ ([] : List Cond)
def wsL_law : List Cond := wsL_law0 ++ (vx_atS RX4 50 "java/lang/IllegalArgumentException" ["java/lang/RuntimeException", "java/lang/Exception"]).filter goodWord ++ (vx_atS RX4 76 "java/lang/IllegalStateException" ["java/lang/RuntimeException", "java/lang/Exception"]).filter goodWord ++ (vx_atS RX4 226 "java/lang/IndexOutOfBoundsException" ["java/lang/RuntimeException", "java/lang/Exception"]).filter goodWord
abbrev vwCl : List vw_C := [(RX0, TX0, 4), (RX1, TX1, 4), (RX2, TX2, 5), (RX3, TX3, 6), (RX4, TX4, 7), (RX5, TX5, 17)]
end
section
set_option maxRecDepth 20000 in
theorem wsL_law0_r1_in : ∀ w ∈ wsL_law0_r1, w ∈ lw_tbl := fun w h => (goodIn_p wsL_law0_r1 [49, 52] (by decide +kernel) (by decide +kernel) w h).1
set_option maxRecDepth 20000 in
theorem wsL_law0_r2_in : ∀ w ∈ wsL_law0_r2, w ∈ lw_tbl := fun w h => (goodIn_p wsL_law0_r2 [59, 82, 105] (by decide +kernel) (by decide +kernel) w h).1
set_option maxRecDepth 20000 in
theorem wsL_law0_r3_in : ∀ w ∈ wsL_law0_r3, w ∈ lw_tbl := fun w h => (goodIn_p wsL_law0_r3 [110, 113, 141, 613] (by decide +kernel) (by decide +kernel) w h).1
set_option maxRecDepth 20000 in
theorem wsL_law0_r4_in : ∀ w ∈ wsL_law0_r4, w ∈ lw_tbl := fun w h => (goodIn_p wsL_law0_r4 [341, 412] (by decide +kernel) (by decide +kernel) w h).1
set_option maxRecDepth 20000 in
theorem wsL_law0_r5_in : ∀ w ∈ wsL_law0_r5, w ∈ lw_tbl := fun w h => (goodIn_p wsL_law0_r5 [675, 678, 682, 671] (by decide +kernel) (by decide +kernel) w h).1
set_option maxRecDepth 20000 in
theorem wsL_law0_r6_in : ∀ w ∈ wsL_law0_r6, w ∈ lw_tbl := fun w h => (goodIn_p wsL_law0_r6 [420, 283, 189, 193, 197] (by decide +kernel) (by decide +kernel) w h).1
set_option maxRecDepth 20000 in
theorem wsL_law0_r7_in : ∀ w ∈ wsL_law0_r7, w ∈ lw_tbl := fun w h => (goodIn_p wsL_law0_r7 [202, 206, 210, 214, 218] (by decide +kernel) (by decide +kernel) w h).1
set_option maxRecDepth 20000 in
theorem wsL_law0_r8_in : ∀ w ∈ wsL_law0_r8, w ∈ lw_tbl := fun w h => (goodIn_p wsL_law0_r8 [222, 226, 230, 235, 243, 247] (by decide +kernel) (by decide +kernel) w h).1
set_option maxRecDepth 20000 in
theorem wsL_law0_r9_in : ∀ w ∈ wsL_law0_r9, w ∈ lw_tbl := fun w h => (goodIn_p wsL_law0_r9 [253, 257, 262, 266, 270] (by decide +kernel) (by decide +kernel) w h).1
set_option maxRecDepth 20000 in
theorem wsL_law0_r10_in : ∀ w ∈ wsL_law0_r10, w ∈ lw_tbl := fun w h => (goodIn_p wsL_law0_r10 [274, 443, 447, 451, 686, 690] (by decide +kernel) (by decide +kernel) w h).1
set_option maxRecDepth 20000 in
theorem wsL_law0_r11_in : ∀ w ∈ wsL_law0_r11, w ∈ lw_tbl := fun w h => (goodIn_p wsL_law0_r11 [694, 698, 702, 706, 710, 714] (by decide +kernel) (by decide +kernel) w h).1
set_option maxRecDepth 20000 in
theorem wsL_law0_r12_in : ∀ w ∈ wsL_law0_r12, w ∈ lw_tbl := fun w h => (goodIn_p wsL_law0_r12 [718, 723, 727, 239, 731, 735] (by decide +kernel) (by decide +kernel) w h).1
set_option maxRecDepth 20000 in
theorem wsL_law0_r13_in : ∀ w ∈ wsL_law0_r13, w ∈ lw_tbl := fun w h => (goodIn_p wsL_law0_r13 [279, 739, 743, 287, 747] (by decide +kernel) (by decide +kernel) w h).1
set_option maxRecDepth 20000 in
theorem wsL_law0_r14_in : ∀ w ∈ wsL_law0_r14, w ∈ lw_tbl := fun w h => (goodIn_p wsL_law0_r14 [458, 462, 751] (by decide +kernel) (by decide +kernel) w h).1
set_option maxRecDepth 20000 in
theorem wsL_law0_r15_in : ∀ w ∈ wsL_law0_r15, w ∈ lw_tbl := fun w h => (goodIn_p wsL_law0_r15 [472, 476, 496, 500, 504, 507] (by decide +kernel) (by decide +kernel) w h).1
set_option maxRecDepth 20000 in
theorem wsL_law0_r16_in : ∀ w ∈ wsL_law0_r16, w ∈ lw_tbl := fun w h => (goodIn_p wsL_law0_r16 [513, 517, 756, 760, 764] (by decide +kernel) (by decide +kernel) w h).1
set_option maxRecDepth 20000 in
theorem wsL_law0_r17_in : ∀ w ∈ wsL_law0_r17, w ∈ lw_tbl := fun w h => (goodIn_p wsL_law0_r17 [768, 525, 531, 773] (by decide +kernel) (by decide +kernel) w h).1
set_option maxRecDepth 20000 in
theorem wsL_law0_r18_in : ∀ w ∈ wsL_law0_r18, w ∈ lw_tbl := fun w h => (goodIn_p wsL_law0_r18 [538, 777, 548, 781, 785] (by decide +kernel) (by decide +kernel) w h).1
set_option maxRecDepth 20000 in
theorem wsL_law0_r19_in : ∀ w ∈ wsL_law0_r19, w ∈ lw_tbl := fun w h => (goodIn_p wsL_law0_r19 [555, 559, 789, 793] (by decide +kernel) (by decide +kernel) w h).1
set_option maxRecDepth 20000 in
theorem wsL_law0_r20_in : ∀ w ∈ wsL_law0_r20, w ∈ lw_tbl := fun w h => (goodIn_p wsL_law0_r20 [567, 797, 574, 578, 801] (by decide +kernel) (by decide +kernel) w h).1
set_option maxRecDepth 20000 in
theorem wsL_law0_r21_in : ∀ w ∈ wsL_law0_r21, w ∈ lw_tbl := fun w h => (goodIn_p wsL_law0_r21 [805, 809, 587, 813] (by decide +kernel) (by decide +kernel) w h).1
set_option maxRecDepth 20000 in
theorem wsL_law0_r22_in : ∀ w ∈ wsL_law0_r22, w ∈ lw_tbl := fun w h => (goodIn_p wsL_law0_r22 [596, 817, 292, 296, 821, 300] (by decide +kernel) (by decide +kernel) w h).1
set_option maxRecDepth 20000 in
theorem wsL_law0_r23_in : ∀ w ∈ wsL_law0_r23, w ∈ lw_tbl := fun w h => (goodIn_p wsL_law0_r23 [825, 304, 829, 833, 837, 308] (by decide +kernel) (by decide +kernel) w h).1
set_option maxRecDepth 20000 in
theorem wsL_law0_r24_in : ∀ w ∈ wsL_law0_r24, w ∈ lw_tbl := fun w h => (goodIn_p wsL_law0_r24 [841, 603, 608, 845, 312, 316] (by decide +kernel) (by decide +kernel) w h).1
set_option maxRecDepth 20000 in
theorem wsL_law0_r25_in : ∀ w ∈ wsL_law0_r25, w ∈ lw_tbl := fun w h => (goodIn_p wsL_law0_r25 [320, 327, 849, 853] (by decide +kernel) (by decide +kernel) w h).1
set_option maxRecDepth 20000 in
theorem wsL_law0_r26_in : ∀ w ∈ wsL_law0_r26, w ∈ lw_tbl := fun w h => (goodIn_p wsL_law0_r26 [333, 858] (by decide +kernel) (by decide +kernel) w h).1
theorem wsL_law_in0 : ∀ w ∈ wsL_law0, w ∈ lw_tbl := fun w h => (List.mem_append.mp h).elim (wsL_law0_r1_in w) (fun h => (List.mem_append.mp h).elim (wsL_law0_r2_in w) (fun h => (List.mem_append.mp h).elim (wsL_law0_r3_in w) (fun h => (List.mem_append.mp h).elim (wsL_law0_r4_in w) (fun h => (List.mem_append.mp h).elim (wsL_law0_r5_in w) (fun h => (List.mem_append.mp h).elim (wsL_law0_r6_in w) (fun h => (List.mem_append.mp h).elim (wsL_law0_r7_in w) (fun h => (List.mem_append.mp h).elim (wsL_law0_r8_in w) (fun h => (List.mem_append.mp h).elim (wsL_law0_r9_in w) (fun h => (List.mem_append.mp h).elim (wsL_law0_r10_in w) (fun h => (List.mem_append.mp h).elim (wsL_law0_r11_in w) (fun h => (List.mem_append.mp h).elim (wsL_law0_r12_in w) (fun h => (List.mem_append.mp h).elim (wsL_law0_r13_in w) (fun h => (List.mem_append.mp h).elim (wsL_law0_r14_in w) (fun h => (List.mem_append.mp h).elim (wsL_law0_r15_in w) (fun h => (List.mem_append.mp h).elim (wsL_law0_r16_in w) (fun h => (List.mem_append.mp h).elim (wsL_law0_r17_in w) (fun h => (List.mem_append.mp h).elim (wsL_law0_r18_in w) (fun h => (List.mem_append.mp h).elim (wsL_law0_r19_in w) (fun h => (List.mem_append.mp h).elim (wsL_law0_r20_in w) (fun h => (List.mem_append.mp h).elim (wsL_law0_r21_in w) (fun h => (List.mem_append.mp h).elim (wsL_law0_r22_in w) (fun h => (List.mem_append.mp h).elim (wsL_law0_r23_in w) (fun h => (List.mem_append.mp h).elim (wsL_law0_r24_in w) (fun h => (List.mem_append.mp h).elim (wsL_law0_r25_in w) (fun h => wsL_law0_r26_in w h)))))))))))))))))))))))))
theorem wsL_law_x0 : ∀ w ∈ (vx_atS RX4 50 "java/lang/IllegalArgumentException" ["java/lang/RuntimeException", "java/lang/Exception"]).filter goodWord, w ∈ lw_tbl := by decide +kernel
theorem wsL_law_x1 : ∀ w ∈ (vx_atS RX4 76 "java/lang/IllegalStateException" ["java/lang/RuntimeException", "java/lang/Exception"]).filter goodWord, w ∈ lw_tbl := by decide +kernel
theorem wsL_law_x2 : ∀ w ∈ (vx_atS RX4 226 "java/lang/IndexOutOfBoundsException" ["java/lang/RuntimeException", "java/lang/Exception"]).filter goodWord, w ∈ lw_tbl := by decide +kernel
theorem wsL_law_in : ∀ w ∈ wsL_law, w ∈ lw_tbl := fun w h => (List.mem_append.mp h).elim (fun h => (List.mem_append.mp h).elim (fun h => (List.mem_append.mp h).elim (fun h => wsL_law_in0 w h) (fun h => wsL_law_x0 w h)) (fun h => wsL_law_x1 w h)) (fun h => wsL_law_x2 w h)
theorem inlX0 : ∀ w ∈ wsX00, w ∈ wsL_law := fun _ h => List.mem_append_left _ (List.mem_append_left _ (List.mem_append_left _ (List.mem_append_left _ (List.mem_append_left _ (List.mem_append_left _ (List.mem_append_right _ h))))))
theorem inX0 : ∀ w ∈ wsX00, w ∈ lw_tbl := fun w h => wsL_law_in w (inlX0 w h)
theorem inlX1 : ∀ w ∈ wsX10, w ∈ wsL_law := fun _ h => List.mem_append_left _ (List.mem_append_left _ (List.mem_append_left _ (List.mem_append_left _ (List.mem_append_left _ (List.mem_append_left _ (List.mem_append_left _ (List.mem_append_right _ h)))))))
theorem inX1 : ∀ w ∈ wsX10, w ∈ lw_tbl := fun w h => wsL_law_in w (inlX1 w h)
theorem inlX2 : ∀ w ∈ wsX20, w ∈ wsL_law := fun _ h => List.mem_append_left _ (List.mem_append_left _ (List.mem_append_left _ (List.mem_append_left _ (List.mem_append_right _ h))))
theorem inX2 : ∀ w ∈ wsX20, w ∈ lw_tbl := fun w h => wsL_law_in w (inlX2 w h)
theorem inlX3 : ∀ w ∈ wsX30, w ∈ wsL_law := fun _ h => List.mem_append_left _ (List.mem_append_left _ (List.mem_append_left _ (List.mem_append_left _ (List.mem_append_left _ (List.mem_append_right _ h)))))
theorem inX3 : ∀ w ∈ wsX30, w ∈ lw_tbl := fun w h => wsL_law_in w (inlX3 w h)
theorem inlX4 : ∀ w ∈ wsX40, w ∈ wsL_law := fun _ h => List.mem_append_left _ (List.mem_append_left _ (List.mem_append_left _ (List.mem_append_left _ (List.mem_append_left _ (List.mem_append_left _ (List.mem_append_left _ (List.mem_append_left _ (List.mem_append_left _ (List.mem_append_right _ h)))))))))
theorem inX4 : ∀ w ∈ wsX40, w ∈ lw_tbl := fun w h => wsL_law_in w (inlX4 w h)
theorem inlX5 : ∀ w ∈ wsX50, w ∈ wsL_law := fun _ h => List.mem_append_left _ (List.mem_append_left _ (List.mem_append_left _ (List.mem_append_left _ (List.mem_append_left _ (List.mem_append_left _ (List.mem_append_left _ (List.mem_append_left _ (List.mem_append_right _ h))))))))
theorem inX5 : ∀ w ∈ wsX50, w ∈ lw_tbl := fun w h => wsL_law_in w (inlX5 w h)
theorem inJ6 : ∀ w ∈ wsJ60, w ∈ lw_tbl := by decide +kernel
theorem inJ9 : ∀ w ∈ wsJ90, w ∈ lw_tbl := by decide +kernel
theorem inJ0 : ∀ w ∈ wsJ00, w ∈ lw_tbl := by decide +kernel
end
section
theorem dX0_init_0 : decode cX0_init 0 = .ok (.aload_n 0, 1) := by decide +kernel
theorem dX0_init_1 : decode cX0_init 1 = .ok (.invokespecial 3, 3) := by decide +kernel
theorem dX0_init_4 : decode cX0_init 4 = .ok (.aload_n 0, 1) := by decide +kernel
theorem dX0_init_5 : decode cX0_init 5 = .ok (.sipush 256, 3) := by decide +kernel
theorem dX0_init_8 : decode cX0_init 8 = .ok (.newarray .int, 2) := by decide +kernel
theorem dX0_init_10 : decode cX0_init 10 = .ok (.putfield 9, 3) := by decide +kernel
theorem dX0_init_13 : decode cX0_init 13 = .ok (.aload_n 0, 1) := by decide +kernel
theorem dX0_init_14 : decode cX0_init 14 = .ok (.sipush 256, 3) := by decide +kernel
theorem dX0_init_17 : decode cX0_init 17 = .ok (.newarray .boolean, 2) := by decide +kernel
theorem dX0_init_19 : decode cX0_init 19 = .ok (.putfield 15, 3) := by decide +kernel
theorem dX0_init_22 : decode cX0_init 22 = .ok (.return_, 1) := by decide +kernel
set_option maxRecDepth 20000 in
theorem ggX0_fillFrom_X0_sortByKeys : GoodIn wsX0_fillFrom wsX0_sortByKeys := goodIn_r _ [13, 4, 14, 15, 16, 17, 18, 19, 20, 21, 22, 23, 24, 43, 44, 45, 46, 47, 48, 39, 40, 41, 42] (by decide +kernel) (by decide +kernel)
set_option maxRecDepth 20000 in
theorem gX0_fillFrom_X0_sortByKeys : GoodIn wsX0_fillFrom (wsV RX0 26 RX0 yX0_sortByKeys wsX0_sortByKeys) := goodIn_app (goodIn_of _ (by decide +kernel)) ggX0_fillFrom_X0_sortByKeys
set_option maxRecDepth 20000 in
theorem ggX0_fillFrom_X3_hashIn : GoodIn wsX0_fillFrom wsX3_hashIn := goodIn_r _ [28, 29, 43, 44, 45, 46, 47, 48] (by decide +kernel) (by decide +kernel)
set_option maxRecDepth 20000 in
theorem gX0_fillFrom_X3_hashIn : GoodIn wsX0_fillFrom (wsV RX0 30 RX3 yX3_hashIn wsX3_hashIn) := goodIn_app (goodIn_of _ (by decide +kernel)) ggX0_fillFrom_X3_hashIn
set_option maxRecDepth 20000 in
theorem ggX0_fillFrom_X0_takeFirstFree : GoodIn wsX0_fillFrom wsX0_takeFirstFree := goodIn_r _ [33, 3, 34, 35, 36, 17, 37, 38, 43, 44, 45, 46, 47, 48, 39, 40, 41, 42] (by decide +kernel) (by decide +kernel)
set_option maxRecDepth 20000 in
theorem gX0_fillFrom_X0_takeFirstFree : GoodIn wsX0_fillFrom (wsV RX0 36 RX0 yX0_takeFirstFree wsX0_takeFirstFree) := goodIn_app (goodIn_of _ (by decide +kernel)) ggX0_fillFrom_X0_takeFirstFree
theorem dX0_fillFrom_0 : decode cX0_fillFrom 0 = .ok (.aload_n 0, 1) := by decide +kernel
theorem dX0_fillFrom_1 : decode cX0_fillFrom 1 = .ok (.iconst 0, 1) := by decide +kernel
theorem dX0_fillFrom_2 : decode cX0_fillFrom 2 = .ok (.putfield 19, 3) := by decide +kernel
theorem dX0_fillFrom_5 : decode cX0_fillFrom 5 = .ok (.aload_n 0, 1) := by decide +kernel
theorem dX0_fillFrom_6 : decode cX0_fillFrom 6 = .ok (.iconst (-1), 1) := by decide +kernel
theorem dX0_fillFrom_7 : decode cX0_fillFrom 7 = .ok (.putfield 23, 3) := by decide +kernel
theorem dX0_fillFrom_10 : decode cX0_fillFrom 10 = .ok (.iconst 0, 1) := by decide +kernel
theorem dX0_fillFrom_11 : decode cX0_fillFrom 11 = .ok (.istore_n 2, 1) := by decide +kernel
theorem dX0_fillFrom_12 : decode cX0_fillFrom 12 = .ok (.iload_n 2, 1) := by decide +kernel
theorem dX0_fillFrom_13 : decode cX0_fillFrom 13 = .ok (.sipush 256, 3) := by decide +kernel
theorem dX0_fillFrom_16 : decode cX0_fillFrom 16 = .ok (.if_icmp .ge 16, 3) := by decide +kernel
theorem dX0_fillFrom_19 : decode cX0_fillFrom 19 = .ok (.aload_n 0, 1) := by decide +kernel
theorem dX0_fillFrom_20 : decode cX0_fillFrom 20 = .ok (.getfield 15, 3) := by decide +kernel
theorem dX0_fillFrom_23 : decode cX0_fillFrom 23 = .ok (.iload_n 2, 1) := by decide +kernel
theorem dX0_fillFrom_24 : decode cX0_fillFrom 24 = .ok (.iconst 0, 1) := by decide +kernel
theorem dX0_fillFrom_25 : decode cX0_fillFrom 25 = .ok (.bastore, 1) := by decide +kernel
theorem dX0_fillFrom_26 : decode cX0_fillFrom 26 = .ok (.iinc 2 1, 3) := by decide +kernel
theorem dX0_fillFrom_29 : decode cX0_fillFrom 29 = .ok (.goto (-17), 3) := by decide +kernel
theorem dX0_fillFrom_32 : decode cX0_fillFrom 32 = .ok (.aload_n 0, 1) := by decide +kernel
theorem dX0_fillFrom_33 : decode cX0_fillFrom 33 = .ok (.aload_n 1, 1) := by decide +kernel
theorem dX0_fillFrom_34 : decode cX0_fillFrom 34 = .ok (.invokevirtual 26, 3) := by decide +kernel
theorem dX0_fillFrom_37 : decode cX0_fillFrom 37 = .ok (.istore_n 2, 1) := by decide +kernel
theorem dX0_fillFrom_38 : decode cX0_fillFrom 38 = .ok (.iconst 0, 1) := by decide +kernel
theorem dX0_fillFrom_39 : decode cX0_fillFrom 39 = .ok (.istore_n 3, 1) := by decide +kernel
theorem dX0_fillFrom_40 : decode cX0_fillFrom 40 = .ok (.iload_n 3, 1) := by decide +kernel
theorem dX0_fillFrom_41 : decode cX0_fillFrom 41 = .ok (.iload_n 2, 1) := by decide +kernel
theorem dX0_fillFrom_42 : decode cX0_fillFrom 42 = .ok (.if_icmp .ge 50, 3) := by decide +kernel
theorem dX0_fillFrom_45 : decode cX0_fillFrom 45 = .ok (.aload_n 0, 1) := by decide +kernel
theorem dX0_fillFrom_46 : decode cX0_fillFrom 46 = .ok (.aload_n 1, 1) := by decide +kernel
theorem dX0_fillFrom_47 : decode cX0_fillFrom 47 = .ok (.aload_n 1, 1) := by decide +kernel
theorem dX0_fillFrom_48 : decode cX0_fillFrom 48 = .ok (.aload_n 0, 1) := by decide +kernel
theorem dX0_fillFrom_49 : decode cX0_fillFrom 49 = .ok (.getfield 9, 3) := by decide +kernel
theorem dX0_fillFrom_52 : decode cX0_fillFrom 52 = .ok (.iload_n 3, 1) := by decide +kernel
theorem dX0_fillFrom_53 : decode cX0_fillFrom 53 = .ok (.iaload, 1) := by decide +kernel
theorem dX0_fillFrom_54 : decode cX0_fillFrom 54 = .ok (.invokevirtual 30, 3) := by decide +kernel
theorem dX0_fillFrom_57 : decode cX0_fillFrom 57 = .ok (.invokevirtual 36, 3) := by decide +kernel
theorem dX0_fillFrom_60 : decode cX0_fillFrom 60 = .ok (.istore 4, 2) := by decide +kernel
theorem dX0_fillFrom_62 : decode cX0_fillFrom 62 = .ok (.aload_n 0, 1) := by decide +kernel
theorem dX0_fillFrom_63 : decode cX0_fillFrom 63 = .ok (.dup, 1) := by decide +kernel
theorem dX0_fillFrom_64 : decode cX0_fillFrom 64 = .ok (.getfield 19, 3) := by decide +kernel
theorem dX0_fillFrom_67 : decode cX0_fillFrom 67 = .ok (.iload 4, 2) := by decide +kernel
theorem dX0_fillFrom_69 : decode cX0_fillFrom 69 = .ok (.iadd, 1) := by decide +kernel
theorem dX0_fillFrom_70 : decode cX0_fillFrom 70 = .ok (.putfield 19, 3) := by decide +kernel
theorem dX0_fillFrom_73 : decode cX0_fillFrom 73 = .ok (.aload_n 0, 1) := by decide +kernel
theorem dX0_fillFrom_74 : decode cX0_fillFrom 74 = .ok (.aload_n 0, 1) := by decide +kernel
theorem dX0_fillFrom_75 : decode cX0_fillFrom 75 = .ok (.getfield 23, 3) := by decide +kernel
theorem dX0_fillFrom_78 : decode cX0_fillFrom 78 = .ok (.iload 4, 2) := by decide +kernel
theorem dX0_fillFrom_80 : decode cX0_fillFrom 80 = .ok (.invokestatic 40, 3) := by decide +kernel
theorem dX0_fillFrom_83 : decode cX0_fillFrom 83 = .ok (.putfield 23, 3) := by decide +kernel
theorem dX0_fillFrom_86 : decode cX0_fillFrom 86 = .ok (.iinc 3 1, 3) := by decide +kernel
theorem dX0_fillFrom_89 : decode cX0_fillFrom 89 = .ok (.goto (-49), 3) := by decide +kernel
theorem dX0_fillFrom_92 : decode cX0_fillFrom 92 = .ok (.return_, 1) := by decide +kernel
set_option maxRecDepth 20000 in
theorem ggX0_sortByKeys_X3_isEmptyIn : GoodIn wsX0_sortByKeys wsX3_isEmptyIn := goodIn_r _ [6, 7, 13, 14, 15, 16, 17, 18] (by decide +kernel) (by decide +kernel)
set_option maxRecDepth 20000 in
theorem gX0_sortByKeys_X3_isEmptyIn : GoodIn wsX0_sortByKeys (wsV RX0 49 RX3 yX3_isEmptyIn wsX3_isEmptyIn) := goodIn_app (goodIn_of _ (by decide +kernel)) ggX0_sortByKeys_X3_isEmptyIn
set_option maxRecDepth 20000 in
theorem ggX0_sortByKeys_X3_keyIn : GoodIn wsX0_sortByKeys wsX3_keyIn := goodIn_r _ [11, 12, 13, 14, 15, 16, 17, 18] (by decide +kernel) (by decide +kernel)
set_option maxRecDepth 20000 in
theorem gX0_sortByKeys_X3_keyIn : GoodIn wsX0_sortByKeys (wsV RX0 53 RX3 yX3_keyIn wsX3_keyIn) := goodIn_app (goodIn_of _ (by decide +kernel)) ggX0_sortByKeys_X3_keyIn
theorem dX0_sortByKeys_0 : decode cX0_sortByKeys 0 = .ok (.iconst 0, 1) := by decide +kernel
theorem dX0_sortByKeys_1 : decode cX0_sortByKeys 1 = .ok (.istore_n 2, 1) := by decide +kernel
theorem dX0_sortByKeys_2 : decode cX0_sortByKeys 2 = .ok (.iconst 0, 1) := by decide +kernel
theorem dX0_sortByKeys_3 : decode cX0_sortByKeys 3 = .ok (.istore_n 3, 1) := by decide +kernel
theorem dX0_sortByKeys_4 : decode cX0_sortByKeys 4 = .ok (.iload_n 3, 1) := by decide +kernel
theorem dX0_sortByKeys_5 : decode cX0_sortByKeys 5 = .ok (.aload_n 1, 1) := by decide +kernel
theorem dX0_sortByKeys_6 : decode cX0_sortByKeys 6 = .ok (.getfield 46, 3) := by decide +kernel
theorem dX0_sortByKeys_9 : decode cX0_sortByKeys 9 = .ok (.if_icmp .ge 79, 3) := by decide +kernel
theorem dX0_sortByKeys_12 : decode cX0_sortByKeys 12 = .ok (.aload_n 1, 1) := by decide +kernel
theorem dX0_sortByKeys_13 : decode cX0_sortByKeys 13 = .ok (.iload_n 3, 1) := by decide +kernel
theorem dX0_sortByKeys_14 : decode cX0_sortByKeys 14 = .ok (.invokevirtual 49, 3) := by decide +kernel
theorem dX0_sortByKeys_17 : decode cX0_sortByKeys 17 = .ok (.ifCond .ne 65, 3) := by decide +kernel
theorem dX0_sortByKeys_20 : decode cX0_sortByKeys 20 = .ok (.iload_n 2, 1) := by decide +kernel
theorem dX0_sortByKeys_21 : decode cX0_sortByKeys 21 = .ok (.istore 4, 2) := by decide +kernel
theorem dX0_sortByKeys_23 : decode cX0_sortByKeys 23 = .ok (.iload 4, 2) := by decide +kernel
theorem dX0_sortByKeys_25 : decode cX0_sortByKeys 25 = .ok (.ifCond .le 46, 3) := by decide +kernel
theorem dX0_sortByKeys_28 : decode cX0_sortByKeys 28 = .ok (.aload_n 1, 1) := by decide +kernel
theorem dX0_sortByKeys_29 : decode cX0_sortByKeys 29 = .ok (.aload_n 0, 1) := by decide +kernel
theorem dX0_sortByKeys_30 : decode cX0_sortByKeys 30 = .ok (.getfield 9, 3) := by decide +kernel
theorem dX0_sortByKeys_33 : decode cX0_sortByKeys 33 = .ok (.iload 4, 2) := by decide +kernel
theorem dX0_sortByKeys_35 : decode cX0_sortByKeys 35 = .ok (.iconst 1, 1) := by decide +kernel
theorem dX0_sortByKeys_36 : decode cX0_sortByKeys 36 = .ok (.isub, 1) := by decide +kernel
theorem dX0_sortByKeys_37 : decode cX0_sortByKeys 37 = .ok (.iaload, 1) := by decide +kernel
theorem dX0_sortByKeys_38 : decode cX0_sortByKeys 38 = .ok (.invokevirtual 53, 3) := by decide +kernel
theorem dX0_sortByKeys_41 : decode cX0_sortByKeys 41 = .ok (.aload_n 1, 1) := by decide +kernel
theorem dX0_sortByKeys_42 : decode cX0_sortByKeys 42 = .ok (.iload_n 3, 1) := by decide +kernel
theorem dX0_sortByKeys_43 : decode cX0_sortByKeys 43 = .ok (.invokevirtual 53, 3) := by decide +kernel
theorem dX0_sortByKeys_46 : decode cX0_sortByKeys 46 = .ok (.if_icmp .le 25, 3) := by decide +kernel
theorem dX0_sortByKeys_49 : decode cX0_sortByKeys 49 = .ok (.aload_n 0, 1) := by decide +kernel
theorem dX0_sortByKeys_50 : decode cX0_sortByKeys 50 = .ok (.getfield 9, 3) := by decide +kernel
theorem dX0_sortByKeys_53 : decode cX0_sortByKeys 53 = .ok (.iload 4, 2) := by decide +kernel
theorem dX0_sortByKeys_55 : decode cX0_sortByKeys 55 = .ok (.aload_n 0, 1) := by decide +kernel
theorem dX0_sortByKeys_56 : decode cX0_sortByKeys 56 = .ok (.getfield 9, 3) := by decide +kernel
theorem dX0_sortByKeys_59 : decode cX0_sortByKeys 59 = .ok (.iload 4, 2) := by decide +kernel
theorem dX0_sortByKeys_61 : decode cX0_sortByKeys 61 = .ok (.iconst 1, 1) := by decide +kernel
theorem dX0_sortByKeys_62 : decode cX0_sortByKeys 62 = .ok (.isub, 1) := by decide +kernel
theorem dX0_sortByKeys_63 : decode cX0_sortByKeys 63 = .ok (.iaload, 1) := by decide +kernel
theorem dX0_sortByKeys_64 : decode cX0_sortByKeys 64 = .ok (.iastore, 1) := by decide +kernel
theorem dX0_sortByKeys_65 : decode cX0_sortByKeys 65 = .ok (.iinc 4 (-1), 3) := by decide +kernel
theorem dX0_sortByKeys_68 : decode cX0_sortByKeys 68 = .ok (.goto (-45), 3) := by decide +kernel
theorem dX0_sortByKeys_71 : decode cX0_sortByKeys 71 = .ok (.aload_n 0, 1) := by decide +kernel
theorem dX0_sortByKeys_72 : decode cX0_sortByKeys 72 = .ok (.getfield 9, 3) := by decide +kernel
theorem dX0_sortByKeys_75 : decode cX0_sortByKeys 75 = .ok (.iload 4, 2) := by decide +kernel
theorem dX0_sortByKeys_77 : decode cX0_sortByKeys 77 = .ok (.iload_n 3, 1) := by decide +kernel
theorem dX0_sortByKeys_78 : decode cX0_sortByKeys 78 = .ok (.iastore, 1) := by decide +kernel
theorem dX0_sortByKeys_79 : decode cX0_sortByKeys 79 = .ok (.iinc 2 1, 3) := by decide +kernel
theorem dX0_sortByKeys_82 : decode cX0_sortByKeys 82 = .ok (.iinc 3 1, 3) := by decide +kernel
theorem dX0_sortByKeys_85 : decode cX0_sortByKeys 85 = .ok (.goto (-81), 3) := by decide +kernel
theorem dX0_sortByKeys_88 : decode cX0_sortByKeys 88 = .ok (.iload_n 2, 1) := by decide +kernel
theorem dX0_sortByKeys_89 : decode cX0_sortByKeys 89 = .ok (.ireturn, 1) := by decide +kernel
set_option maxRecDepth 20000 in
theorem ggX0_takeFirstFree_X3_around : GoodIn wsX0_takeFirstFree wsX3_around := goodIn_r _ [6, 7, 8, 9, 10, 11, 12, 13] (by decide +kernel) (by decide +kernel)
set_option maxRecDepth 20000 in
theorem gX0_takeFirstFree_X3_around : GoodIn wsX0_takeFirstFree (wsV RX0 56 RX3 yX3_around wsX3_around) := goodIn_app (goodIn_of _ (by decide +kernel)) ggX0_takeFirstFree_X3_around
theorem dX0_takeFirstFree_0 : decode cX0_takeFirstFree 0 = .ok (.iconst 0, 1) := by decide +kernel
theorem dX0_takeFirstFree_1 : decode cX0_takeFirstFree 1 = .ok (.istore_n 3, 1) := by decide +kernel
theorem dX0_takeFirstFree_2 : decode cX0_takeFirstFree 2 = .ok (.iload_n 3, 1) := by decide +kernel
theorem dX0_takeFirstFree_3 : decode cX0_takeFirstFree 3 = .ok (.aload_n 1, 1) := by decide +kernel
theorem dX0_takeFirstFree_4 : decode cX0_takeFirstFree 4 = .ok (.getfield 46, 3) := by decide +kernel
theorem dX0_takeFirstFree_7 : decode cX0_takeFirstFree 7 = .ok (.if_icmp .ge 24, 3) := by decide +kernel
theorem dX0_takeFirstFree_10 : decode cX0_takeFirstFree 10 = .ok (.aload_n 0, 1) := by decide +kernel
theorem dX0_takeFirstFree_11 : decode cX0_takeFirstFree 11 = .ok (.getfield 15, 3) := by decide +kernel
theorem dX0_takeFirstFree_14 : decode cX0_takeFirstFree 14 = .ok (.aload_n 1, 1) := by decide +kernel
theorem dX0_takeFirstFree_15 : decode cX0_takeFirstFree 15 = .ok (.iload_n 2, 1) := by decide +kernel
theorem dX0_takeFirstFree_16 : decode cX0_takeFirstFree 16 = .ok (.iload_n 3, 1) := by decide +kernel
theorem dX0_takeFirstFree_17 : decode cX0_takeFirstFree 17 = .ok (.iadd, 1) := by decide +kernel
theorem dX0_takeFirstFree_18 : decode cX0_takeFirstFree 18 = .ok (.invokevirtual 56, 3) := by decide +kernel
theorem dX0_takeFirstFree_21 : decode cX0_takeFirstFree 21 = .ok (.baload, 1) := by decide +kernel
theorem dX0_takeFirstFree_22 : decode cX0_takeFirstFree 22 = .ok (.ifCond .eq 9, 3) := by decide +kernel
theorem dX0_takeFirstFree_25 : decode cX0_takeFirstFree 25 = .ok (.iinc 3 1, 3) := by decide +kernel
theorem dX0_takeFirstFree_28 : decode cX0_takeFirstFree 28 = .ok (.goto (-26), 3) := by decide +kernel
theorem dX0_takeFirstFree_31 : decode cX0_takeFirstFree 31 = .ok (.aload_n 0, 1) := by decide +kernel
theorem dX0_takeFirstFree_32 : decode cX0_takeFirstFree 32 = .ok (.getfield 15, 3) := by decide +kernel
theorem dX0_takeFirstFree_35 : decode cX0_takeFirstFree 35 = .ok (.aload_n 1, 1) := by decide +kernel
theorem dX0_takeFirstFree_36 : decode cX0_takeFirstFree 36 = .ok (.iload_n 2, 1) := by decide +kernel
theorem dX0_takeFirstFree_37 : decode cX0_takeFirstFree 37 = .ok (.iload_n 3, 1) := by decide +kernel
theorem dX0_takeFirstFree_38 : decode cX0_takeFirstFree 38 = .ok (.iadd, 1) := by decide +kernel
theorem dX0_takeFirstFree_39 : decode cX0_takeFirstFree 39 = .ok (.invokevirtual 56, 3) := by decide +kernel
theorem dX0_takeFirstFree_42 : decode cX0_takeFirstFree 42 = .ok (.iconst 1, 1) := by decide +kernel
theorem dX0_takeFirstFree_43 : decode cX0_takeFirstFree 43 = .ok (.bastore, 1) := by decide +kernel
theorem dX0_takeFirstFree_44 : decode cX0_takeFirstFree 44 = .ok (.iload_n 3, 1) := by decide +kernel
theorem dX0_takeFirstFree_45 : decode cX0_takeFirstFree 45 = .ok (.ireturn, 1) := by decide +kernel
theorem dX1_init_0 : decode cX1_init 0 = .ok (.aload_n 0, 1) := by decide +kernel
theorem dX1_init_1 : decode cX1_init 1 = .ok (.invokespecial 3, 3) := by decide +kernel
theorem dX1_init_4 : decode cX1_init 4 = .ok (.return_, 1) := by decide +kernel
theorem dX1_begin_0 : decode cX1_begin 0 = .ok (.aload_n 0, 1) := by decide +kernel
theorem dX1_begin_1 : decode cX1_begin 1 = .ok (.aconst_null, 1) := by decide +kernel
theorem dX1_begin_2 : decode cX1_begin 2 = .ok (.putfield 9, 3) := by decide +kernel
theorem dX1_begin_5 : decode cX1_begin 5 = .ok (.aload_n 0, 1) := by decide +kernel
theorem dX1_begin_6 : decode cX1_begin 6 = .ok (.iconst 0, 1) := by decide +kernel
theorem dX1_begin_7 : decode cX1_begin 7 = .ok (.putfield 15, 3) := by decide +kernel
theorem dX1_begin_10 : decode cX1_begin 10 = .ok (.aload_n 0, 1) := by decide +kernel
theorem dX1_begin_11 : decode cX1_begin 11 = .ok (.iconst 0, 1) := by decide +kernel
theorem dX1_begin_12 : decode cX1_begin 12 = .ok (.putfield 19, 3) := by decide +kernel
theorem dX1_begin_15 : decode cX1_begin 15 = .ok (.return_, 1) := by decide +kernel
theorem dX1_hasFound_0 : decode cX1_hasFound 0 = .ok (.aload_n 0, 1) := by decide +kernel
theorem dX1_hasFound_1 : decode cX1_hasFound 1 = .ok (.getfield 9, 3) := by decide +kernel
theorem dX1_hasFound_4 : decode cX1_hasFound 4 = .ok (.ifnull 7, 3) := by decide +kernel
theorem dX1_hasFound_7 : decode cX1_hasFound 7 = .ok (.iconst 1, 1) := by decide +kernel
theorem dX1_hasFound_8 : decode cX1_hasFound 8 = .ok (.goto 4, 3) := by decide +kernel
theorem dX1_hasFound_11 : decode cX1_hasFound 11 = .ok (.iconst 0, 1) := by decide +kernel
theorem dX1_hasFound_12 : decode cX1_hasFound 12 = .ok (.ireturn, 1) := by decide +kernel
set_option maxRecDepth 20000 in
theorem ggX1_lookIn_X1_lookAtGroup : GoodIn wsX1_lookIn wsX1_lookAtGroup := goodIn_r _ [6, 7, 8, 9, 10, 11, 12, 5, 13, 14, 15, 16, 17, 18, 19, 20, 21, 22, 23, 24, 25, 26, 27, 28, 29, 30, 31, 32, 33, 40, 41, 42, 43, 34, 35, 36, 37, 38, 39] (by decide +kernel) (by decide +kernel)
set_option maxRecDepth 20000 in
theorem gX1_lookIn_X1_lookAtGroup : GoodIn wsX1_lookIn (wsV RX1 27 RX1 yX1_lookAtGroup wsX1_lookAtGroup) := goodIn_app (goodIn_of _ (by decide +kernel)) ggX1_lookIn_X1_lookAtGroup
set_option maxRecDepth 20000 in
theorem ggX1_lookIn_X1_hasFound : GoodIn wsX1_lookIn wsX1_hasFound := goodIn_r _ [13, 8, 40, 41, 42, 43] (by decide +kernel) (by decide +kernel)
set_option maxRecDepth 20000 in
theorem gX1_lookIn_X1_hasFound : GoodIn wsX1_lookIn (wsV RX1 31 RX1 yX1_hasFound wsX1_hasFound) := goodIn_app (goodIn_of _ (by decide +kernel)) ggX1_lookIn_X1_hasFound
theorem dX1_lookIn_0 : decode cX1_lookIn 0 = .ok (.iconst 0, 1) := by decide +kernel
theorem dX1_lookIn_1 : decode cX1_lookIn 1 = .ok (.istore 4, 2) := by decide +kernel
theorem dX1_lookIn_3 : decode cX1_lookIn 3 = .ok (.iconst 0, 1) := by decide +kernel
theorem dX1_lookIn_4 : decode cX1_lookIn 4 = .ok (.istore 5, 2) := by decide +kernel
theorem dX1_lookIn_6 : decode cX1_lookIn 6 = .ok (.iload 5, 2) := by decide +kernel
theorem dX1_lookIn_8 : decode cX1_lookIn 8 = .ok (.aload_n 1, 1) := by decide +kernel
theorem dX1_lookIn_9 : decode cX1_lookIn 9 = .ok (.getfield 22, 3) := by decide +kernel
theorem dX1_lookIn_12 : decode cX1_lookIn 12 = .ok (.if_icmp .ge 59, 3) := by decide +kernel
theorem dX1_lookIn_15 : decode cX1_lookIn 15 = .ok (.iload 4, 2) := by decide +kernel
theorem dX1_lookIn_17 : decode cX1_lookIn 17 = .ok (.ifCond .ne 54, 3) := by decide +kernel
theorem dX1_lookIn_20 : decode cX1_lookIn 20 = .ok (.aload_n 0, 1) := by decide +kernel
theorem dX1_lookIn_21 : decode cX1_lookIn 21 = .ok (.dup, 1) := by decide +kernel
theorem dX1_lookIn_22 : decode cX1_lookIn 22 = .ok (.getfield 15, 3) := by decide +kernel
theorem dX1_lookIn_25 : decode cX1_lookIn 25 = .ok (.iconst 1, 1) := by decide +kernel
theorem dX1_lookIn_26 : decode cX1_lookIn 26 = .ok (.iadd, 1) := by decide +kernel
theorem dX1_lookIn_27 : decode cX1_lookIn 27 = .ok (.putfield 15, 3) := by decide +kernel
theorem dX1_lookIn_30 : decode cX1_lookIn 30 = .ok (.aload_n 0, 1) := by decide +kernel
theorem dX1_lookIn_31 : decode cX1_lookIn 31 = .ok (.aload_n 1, 1) := by decide +kernel
theorem dX1_lookIn_32 : decode cX1_lookIn 32 = .ok (.iload_n 3, 1) := by decide +kernel
theorem dX1_lookIn_33 : decode cX1_lookIn 33 = .ok (.iload 5, 2) := by decide +kernel
theorem dX1_lookIn_35 : decode cX1_lookIn 35 = .ok (.iadd, 1) := by decide +kernel
theorem dX1_lookIn_36 : decode cX1_lookIn 36 = .ok (.iload_n 2, 1) := by decide +kernel
theorem dX1_lookIn_37 : decode cX1_lookIn 37 = .ok (.iload_n 3, 1) := by decide +kernel
theorem dX1_lookIn_38 : decode cX1_lookIn 38 = .ok (.bipush 25, 2) := by decide +kernel
theorem dX1_lookIn_40 : decode cX1_lookIn 40 = .ok (.iushr, 1) := by decide +kernel
theorem dX1_lookIn_41 : decode cX1_lookIn 41 = .ok (.invokevirtual 27, 3) := by decide +kernel
theorem dX1_lookIn_44 : decode cX1_lookIn 44 = .ok (.istore 6, 2) := by decide +kernel
theorem dX1_lookIn_46 : decode cX1_lookIn 46 = .ok (.iload 6, 2) := by decide +kernel
theorem dX1_lookIn_48 : decode cX1_lookIn 48 = .ok (.ifCond .ne 10, 3) := by decide +kernel
theorem dX1_lookIn_51 : decode cX1_lookIn 51 = .ok (.aload_n 0, 1) := by decide +kernel
theorem dX1_lookIn_52 : decode cX1_lookIn 52 = .ok (.invokevirtual 31, 3) := by decide +kernel
theorem dX1_lookIn_55 : decode cX1_lookIn 55 = .ok (.ifCond .eq 7, 3) := by decide +kernel
theorem dX1_lookIn_58 : decode cX1_lookIn 58 = .ok (.iconst 1, 1) := by decide +kernel
theorem dX1_lookIn_59 : decode cX1_lookIn 59 = .ok (.goto 4, 3) := by decide +kernel
theorem dX1_lookIn_62 : decode cX1_lookIn 62 = .ok (.iconst 0, 1) := by decide +kernel
theorem dX1_lookIn_63 : decode cX1_lookIn 63 = .ok (.istore 4, 2) := by decide +kernel
theorem dX1_lookIn_65 : decode cX1_lookIn 65 = .ok (.iinc 5 8, 3) := by decide +kernel
theorem dX1_lookIn_68 : decode cX1_lookIn 68 = .ok (.goto (-62), 3) := by decide +kernel
theorem dX1_lookIn_71 : decode cX1_lookIn 71 = .ok (.return_, 1) := by decide +kernel
set_option maxRecDepth 20000 in
theorem ggX1_lookAtGroup_X1_hasFound : GoodIn wsX1_lookAtGroup wsX1_hasFound := goodIn_r _ [8, 2, 29, 30, 31, 32] (by decide +kernel) (by decide +kernel)
set_option maxRecDepth 20000 in
theorem gX1_lookAtGroup_X1_hasFound : GoodIn wsX1_lookAtGroup (wsV RX1 31 RX1 yX1_hasFound wsX1_hasFound) := goodIn_app (goodIn_of _ (by decide +kernel)) ggX1_lookAtGroup_X1_hasFound
set_option maxRecDepth 20000 in
theorem ggX1_lookAtGroup_X3_around : GoodIn wsX1_lookAtGroup wsX3_around := goodIn_r _ [13, 14, 33, 34, 35, 36, 37, 38] (by decide +kernel) (by decide +kernel)
set_option maxRecDepth 20000 in
theorem gX1_lookAtGroup_X3_around : GoodIn wsX1_lookAtGroup (wsV RX1 35 RX3 yX3_around wsX3_around) := goodIn_app (goodIn_of _ (by decide +kernel)) ggX1_lookAtGroup_X3_around
set_option maxRecDepth 20000 in
theorem ggX1_lookAtGroup_X3_isEmptyIn : GoodIn wsX1_lookAtGroup wsX3_isEmptyIn := goodIn_r _ [18, 19, 33, 34, 35, 36, 37, 38] (by decide +kernel) (by decide +kernel)
set_option maxRecDepth 20000 in
theorem gX1_lookAtGroup_X3_isEmptyIn : GoodIn wsX1_lookAtGroup (wsV RX1 39 RX3 yX3_isEmptyIn wsX3_isEmptyIn) := goodIn_app (goodIn_of _ (by decide +kernel)) ggX1_lookAtGroup_X3_isEmptyIn
set_option maxRecDepth 20000 in
theorem ggX1_lookAtGroup_X3_controlIn : GoodIn wsX1_lookAtGroup wsX3_controlIn := goodIn_r _ [23, 19, 33, 34, 35, 36, 37, 38] (by decide +kernel) (by decide +kernel)
set_option maxRecDepth 20000 in
theorem gX1_lookAtGroup_X3_controlIn : GoodIn wsX1_lookAtGroup (wsV RX1 43 RX3 yX3_controlIn wsX3_controlIn) := goodIn_app (goodIn_of _ (by decide +kernel)) ggX1_lookAtGroup_X3_controlIn
set_option maxRecDepth 20000 in
theorem ggX1_lookAtGroup_X3_keyIn : GoodIn wsX1_lookAtGroup wsX3_keyIn := goodIn_r _ [27, 28, 33, 34, 35, 36, 37, 38] (by decide +kernel) (by decide +kernel)
set_option maxRecDepth 20000 in
theorem gX1_lookAtGroup_X3_keyIn : GoodIn wsX1_lookAtGroup (wsV RX1 47 RX3 yX3_keyIn wsX3_keyIn) := goodIn_app (goodIn_of _ (by decide +kernel)) ggX1_lookAtGroup_X3_keyIn
theorem dX1_lookAtGroup_0 : decode cX1_lookAtGroup 0 = .ok (.iconst 0, 1) := by decide +kernel
theorem dX1_lookAtGroup_1 : decode cX1_lookAtGroup 1 = .ok (.istore 5, 2) := by decide +kernel
theorem dX1_lookAtGroup_3 : decode cX1_lookAtGroup 3 = .ok (.iconst 0, 1) := by decide +kernel
theorem dX1_lookAtGroup_4 : decode cX1_lookAtGroup 4 = .ok (.istore 6, 2) := by decide +kernel
theorem dX1_lookAtGroup_6 : decode cX1_lookAtGroup 6 = .ok (.iload 6, 2) := by decide +kernel
theorem dX1_lookAtGroup_8 : decode cX1_lookAtGroup 8 = .ok (.bipush 8, 2) := by decide +kernel
theorem dX1_lookAtGroup_10 : decode cX1_lookAtGroup 10 = .ok (.if_icmp .ge 89, 3) := by decide +kernel
theorem dX1_lookAtGroup_13 : decode cX1_lookAtGroup 13 = .ok (.aload_n 0, 1) := by decide +kernel
theorem dX1_lookAtGroup_14 : decode cX1_lookAtGroup 14 = .ok (.invokevirtual 31, 3) := by decide +kernel
theorem dX1_lookAtGroup_17 : decode cX1_lookAtGroup 17 = .ok (.ifCond .ne 82, 3) := by decide +kernel
theorem dX1_lookAtGroup_20 : decode cX1_lookAtGroup 20 = .ok (.aload_n 1, 1) := by decide +kernel
theorem dX1_lookAtGroup_21 : decode cX1_lookAtGroup 21 = .ok (.iload_n 2, 1) := by decide +kernel
theorem dX1_lookAtGroup_22 : decode cX1_lookAtGroup 22 = .ok (.iload 6, 2) := by decide +kernel
theorem dX1_lookAtGroup_24 : decode cX1_lookAtGroup 24 = .ok (.iadd, 1) := by decide +kernel
theorem dX1_lookAtGroup_25 : decode cX1_lookAtGroup 25 = .ok (.invokevirtual 35, 3) := by decide +kernel
theorem dX1_lookAtGroup_28 : decode cX1_lookAtGroup 28 = .ok (.istore 7, 2) := by decide +kernel
theorem dX1_lookAtGroup_30 : decode cX1_lookAtGroup 30 = .ok (.iload 5, 2) := by decide +kernel
theorem dX1_lookAtGroup_32 : decode cX1_lookAtGroup 32 = .ok (.ifCond .ne 12, 3) := by decide +kernel
theorem dX1_lookAtGroup_35 : decode cX1_lookAtGroup 35 = .ok (.aload_n 1, 1) := by decide +kernel
theorem dX1_lookAtGroup_36 : decode cX1_lookAtGroup 36 = .ok (.iload 7, 2) := by decide +kernel
theorem dX1_lookAtGroup_38 : decode cX1_lookAtGroup 38 = .ok (.invokevirtual 39, 3) := by decide +kernel
theorem dX1_lookAtGroup_41 : decode cX1_lookAtGroup 41 = .ok (.ifCond .eq 7, 3) := by decide +kernel
theorem dX1_lookAtGroup_44 : decode cX1_lookAtGroup 44 = .ok (.iconst 1, 1) := by decide +kernel
theorem dX1_lookAtGroup_45 : decode cX1_lookAtGroup 45 = .ok (.goto 4, 3) := by decide +kernel
theorem dX1_lookAtGroup_48 : decode cX1_lookAtGroup 48 = .ok (.iconst 0, 1) := by decide +kernel
theorem dX1_lookAtGroup_49 : decode cX1_lookAtGroup 49 = .ok (.istore 5, 2) := by decide +kernel
theorem dX1_lookAtGroup_51 : decode cX1_lookAtGroup 51 = .ok (.aload_n 1, 1) := by decide +kernel
theorem dX1_lookAtGroup_52 : decode cX1_lookAtGroup 52 = .ok (.iload 7, 2) := by decide +kernel
theorem dX1_lookAtGroup_54 : decode cX1_lookAtGroup 54 = .ok (.invokevirtual 43, 3) := by decide +kernel
theorem dX1_lookAtGroup_57 : decode cX1_lookAtGroup 57 = .ok (.iload 4, 2) := by decide +kernel
theorem dX1_lookAtGroup_59 : decode cX1_lookAtGroup 59 = .ok (.if_icmp .ne 34, 3) := by decide +kernel
theorem dX1_lookAtGroup_62 : decode cX1_lookAtGroup 62 = .ok (.aload_n 0, 1) := by decide +kernel
theorem dX1_lookAtGroup_63 : decode cX1_lookAtGroup 63 = .ok (.dup, 1) := by decide +kernel
theorem dX1_lookAtGroup_64 : decode cX1_lookAtGroup 64 = .ok (.getfield 19, 3) := by decide +kernel
theorem dX1_lookAtGroup_67 : decode cX1_lookAtGroup 67 = .ok (.iconst 1, 1) := by decide +kernel
theorem dX1_lookAtGroup_68 : decode cX1_lookAtGroup 68 = .ok (.iadd, 1) := by decide +kernel
theorem dX1_lookAtGroup_69 : decode cX1_lookAtGroup 69 = .ok (.putfield 19, 3) := by decide +kernel
theorem dX1_lookAtGroup_72 : decode cX1_lookAtGroup 72 = .ok (.aload_n 1, 1) := by decide +kernel
theorem dX1_lookAtGroup_73 : decode cX1_lookAtGroup 73 = .ok (.iload 7, 2) := by decide +kernel
theorem dX1_lookAtGroup_75 : decode cX1_lookAtGroup 75 = .ok (.invokevirtual 47, 3) := by decide +kernel
theorem dX1_lookAtGroup_78 : decode cX1_lookAtGroup 78 = .ok (.iload_n 3, 1) := by decide +kernel
theorem dX1_lookAtGroup_79 : decode cX1_lookAtGroup 79 = .ok (.if_icmp .ne 14, 3) := by decide +kernel
theorem dX1_lookAtGroup_82 : decode cX1_lookAtGroup 82 = .ok (.aload_n 0, 1) := by decide +kernel
theorem dX1_lookAtGroup_83 : decode cX1_lookAtGroup 83 = .ok (.aload_n 1, 1) := by decide +kernel
theorem dX1_lookAtGroup_84 : decode cX1_lookAtGroup 84 = .ok (.putfield 9, 3) := by decide +kernel
theorem dX1_lookAtGroup_87 : decode cX1_lookAtGroup 87 = .ok (.aload_n 0, 1) := by decide +kernel
theorem dX1_lookAtGroup_88 : decode cX1_lookAtGroup 88 = .ok (.iload 7, 2) := by decide +kernel
theorem dX1_lookAtGroup_90 : decode cX1_lookAtGroup 90 = .ok (.putfield 50, 3) := by decide +kernel
theorem dX1_lookAtGroup_93 : decode cX1_lookAtGroup 93 = .ok (.iinc 6 1, 3) := by decide +kernel
theorem dX1_lookAtGroup_96 : decode cX1_lookAtGroup 96 = .ok (.goto (-90), 3) := by decide +kernel
theorem dX1_lookAtGroup_99 : decode cX1_lookAtGroup 99 = .ok (.iload 5, 2) := by decide +kernel
theorem dX1_lookAtGroup_101 : decode cX1_lookAtGroup 101 = .ok (.ireturn, 1) := by decide +kernel
set_option maxRecDepth 20000 in
theorem ggX1_seekIn_X3_isEmptyIn : GoodIn wsX1_seekIn wsX3_isEmptyIn := goodIn_r _ [7, 8, 34, 35, 36, 37, 38, 39] (by decide +kernel) (by decide +kernel)
set_option maxRecDepth 20000 in
theorem gX1_seekIn_X3_isEmptyIn : GoodIn wsX1_seekIn (wsV RX1 39 RX3 yX3_isEmptyIn wsX3_isEmptyIn) := goodIn_app (goodIn_of _ (by decide +kernel)) ggX1_seekIn_X3_isEmptyIn
set_option maxRecDepth 20000 in
theorem ggX1_seekIn_X3_rankIn : GoodIn wsX1_seekIn wsX3_rankIn := goodIn_r _ [12, 13, 14, 15, 16, 17, 18, 19, 20, 21, 22, 23, 24, 25, 26, 27, 28, 34, 35, 36, 37, 38, 39] (by decide +kernel) (by decide +kernel)
set_option maxRecDepth 20000 in
theorem gX1_seekIn_X3_rankIn : GoodIn wsX1_seekIn (wsV RX1 53 RX3 yX3_rankIn wsX3_rankIn) := goodIn_app (goodIn_of _ (by decide +kernel)) ggX1_seekIn_X3_rankIn
set_option maxRecDepth 20000 in
theorem ggX1_seekIn_X1_hasFound : GoodIn wsX1_seekIn wsX1_hasFound := goodIn_r _ [33, 1, 40, 41, 42, 43] (by decide +kernel) (by decide +kernel)
set_option maxRecDepth 20000 in
theorem gX1_seekIn_X1_hasFound : GoodIn wsX1_seekIn (wsV RX1 31 RX1 yX1_hasFound wsX1_hasFound) := goodIn_app (goodIn_of _ (by decide +kernel)) ggX1_seekIn_X1_hasFound
theorem dX1_seekIn_0 : decode cX1_seekIn 0 = .ok (.iconst 0, 1) := by decide +kernel
theorem dX1_seekIn_1 : decode cX1_seekIn 1 = .ok (.istore 4, 2) := by decide +kernel
theorem dX1_seekIn_3 : decode cX1_seekIn 3 = .ok (.iload 4, 2) := by decide +kernel
theorem dX1_seekIn_5 : decode cX1_seekIn 5 = .ok (.aload_n 1, 1) := by decide +kernel
theorem dX1_seekIn_6 : decode cX1_seekIn 6 = .ok (.getfield 22, 3) := by decide +kernel
theorem dX1_seekIn_9 : decode cX1_seekIn 9 = .ok (.if_icmp .ge 68, 3) := by decide +kernel
theorem dX1_seekIn_12 : decode cX1_seekIn 12 = .ok (.aload_n 1, 1) := by decide +kernel
theorem dX1_seekIn_13 : decode cX1_seekIn 13 = .ok (.iload 4, 2) := by decide +kernel
theorem dX1_seekIn_15 : decode cX1_seekIn 15 = .ok (.invokevirtual 39, 3) := by decide +kernel
theorem dX1_seekIn_18 : decode cX1_seekIn 18 = .ok (.ifCond .ne 53, 3) := by decide +kernel
theorem dX1_seekIn_21 : decode cX1_seekIn 21 = .ok (.aload_n 1, 1) := by decide +kernel
theorem dX1_seekIn_22 : decode cX1_seekIn 22 = .ok (.iload 4, 2) := by decide +kernel
theorem dX1_seekIn_24 : decode cX1_seekIn 24 = .ok (.invokevirtual 53, 3) := by decide +kernel
theorem dX1_seekIn_27 : decode cX1_seekIn 27 = .ok (.lload_n 2, 1) := by decide +kernel
theorem dX1_seekIn_28 : decode cX1_seekIn 28 = .ok (.lcmp, 1) := by decide +kernel
theorem dX1_seekIn_29 : decode cX1_seekIn 29 = .ok (.ifCond .le 42, 3) := by decide +kernel
theorem dX1_seekIn_32 : decode cX1_seekIn 32 = .ok (.aload_n 0, 1) := by decide +kernel
theorem dX1_seekIn_33 : decode cX1_seekIn 33 = .ok (.invokevirtual 31, 3) := by decide +kernel
theorem dX1_seekIn_36 : decode cX1_seekIn 36 = .ok (.ifCond .eq 24, 3) := by decide +kernel
theorem dX1_seekIn_39 : decode cX1_seekIn 39 = .ok (.aload_n 1, 1) := by decide +kernel
theorem dX1_seekIn_40 : decode cX1_seekIn 40 = .ok (.iload 4, 2) := by decide +kernel
theorem dX1_seekIn_42 : decode cX1_seekIn 42 = .ok (.invokevirtual 53, 3) := by decide +kernel
theorem dX1_seekIn_45 : decode cX1_seekIn 45 = .ok (.aload_n 0, 1) := by decide +kernel
theorem dX1_seekIn_46 : decode cX1_seekIn 46 = .ok (.getfield 9, 3) := by decide +kernel
theorem dX1_seekIn_49 : decode cX1_seekIn 49 = .ok (.aload_n 0, 1) := by decide +kernel
theorem dX1_seekIn_50 : decode cX1_seekIn 50 = .ok (.getfield 50, 3) := by decide +kernel
theorem dX1_seekIn_53 : decode cX1_seekIn 53 = .ok (.invokevirtual 53, 3) := by decide +kernel
theorem dX1_seekIn_56 : decode cX1_seekIn 56 = .ok (.lcmp, 1) := by decide +kernel
theorem dX1_seekIn_57 : decode cX1_seekIn 57 = .ok (.ifCond .ge 14, 3) := by decide +kernel
theorem dX1_seekIn_60 : decode cX1_seekIn 60 = .ok (.aload_n 0, 1) := by decide +kernel
theorem dX1_seekIn_61 : decode cX1_seekIn 61 = .ok (.aload_n 1, 1) := by decide +kernel
theorem dX1_seekIn_62 : decode cX1_seekIn 62 = .ok (.putfield 9, 3) := by decide +kernel
theorem dX1_seekIn_65 : decode cX1_seekIn 65 = .ok (.aload_n 0, 1) := by decide +kernel
theorem dX1_seekIn_66 : decode cX1_seekIn 66 = .ok (.iload 4, 2) := by decide +kernel
theorem dX1_seekIn_68 : decode cX1_seekIn 68 = .ok (.putfield 50, 3) := by decide +kernel
theorem dX1_seekIn_71 : decode cX1_seekIn 71 = .ok (.iinc 4 1, 3) := by decide +kernel
theorem dX1_seekIn_74 : decode cX1_seekIn 74 = .ok (.goto (-71), 3) := by decide +kernel
theorem dX1_seekIn_77 : decode cX1_seekIn 77 = .ok (.return_, 1) := by decide +kernel
theorem dX2_init_0 : decode cX2_init 0 = .ok (.aload_n 0, 1) := by decide +kernel
theorem dX2_init_1 : decode cX2_init 1 = .ok (.invokespecial 3, 3) := by decide +kernel
theorem dX2_init_4 : decode cX2_init 4 = .ok (.return_, 1) := by decide +kernel
theorem dX2_begin_0 : decode cX2_begin 0 = .ok (.aload_n 0, 1) := by decide +kernel
theorem dX2_begin_1 : decode cX2_begin 1 = .ok (.iconst 1, 1) := by decide +kernel
theorem dX2_begin_2 : decode cX2_begin 2 = .ok (.putfield 9, 3) := by decide +kernel
theorem dX2_begin_5 : decode cX2_begin 5 = .ok (.aload_n 0, 1) := by decide +kernel
theorem dX2_begin_6 : decode cX2_begin 6 = .ok (.iconst 0, 1) := by decide +kernel
theorem dX2_begin_7 : decode cX2_begin 7 = .ok (.putfield 15, 3) := by decide +kernel
theorem dX2_begin_10 : decode cX2_begin 10 = .ok (.aload_n 0, 1) := by decide +kernel
theorem dX2_begin_11 : decode cX2_begin 11 = .ok (.iconst 0, 1) := by decide +kernel
theorem dX2_begin_12 : decode cX2_begin 12 = .ok (.putfield 18, 3) := by decide +kernel
theorem dX2_begin_15 : decode cX2_begin 15 = .ok (.aload_n 0, 1) := by decide +kernel
theorem dX2_begin_16 : decode cX2_begin 16 = .ok (.ldc2_w 22, 3) := by decide +kernel
theorem dX2_begin_19 : decode cX2_begin 19 = .ok (.putfield 24, 3) := by decide +kernel
theorem dX2_begin_22 : decode cX2_begin 22 = .ok (.return_, 1) := by decide +kernel
theorem dX2_meet_0 : decode cX2_meet 0 = .ok (.aload_n 0, 1) := by decide +kernel
theorem dX2_meet_1 : decode cX2_meet 1 = .ok (.iconst 1, 1) := by decide +kernel
theorem dX2_meet_2 : decode cX2_meet 2 = .ok (.putfield 15, 3) := by decide +kernel
theorem dX2_meet_5 : decode cX2_meet 5 = .ok (.aload_n 0, 1) := by decide +kernel
theorem dX2_meet_6 : decode cX2_meet 6 = .ok (.dup, 1) := by decide +kernel
theorem dX2_meet_7 : decode cX2_meet 7 = .ok (.getfield 18, 3) := by decide +kernel
theorem dX2_meet_10 : decode cX2_meet 10 = .ok (.iconst 1, 1) := by decide +kernel
theorem dX2_meet_11 : decode cX2_meet 11 = .ok (.iadd, 1) := by decide +kernel
theorem dX2_meet_12 : decode cX2_meet 12 = .ok (.putfield 18, 3) := by decide +kernel
theorem dX2_meet_15 : decode cX2_meet 15 = .ok (.aload_n 0, 1) := by decide +kernel
theorem dX2_meet_16 : decode cX2_meet 16 = .ok (.iload_n 1, 1) := by decide +kernel
theorem dX2_meet_17 : decode cX2_meet 17 = .ok (.putfield 28, 3) := by decide +kernel
theorem dX2_meet_20 : decode cX2_meet 20 = .ok (.aload_n 0, 1) := by decide +kernel
theorem dX2_meet_21 : decode cX2_meet 21 = .ok (.lload_n 2, 1) := by decide +kernel
theorem dX2_meet_22 : decode cX2_meet 22 = .ok (.putfield 24, 3) := by decide +kernel
theorem dX2_meet_25 : decode cX2_meet 25 = .ok (.return_, 1) := by decide +kernel
theorem dX2_end_0 : decode cX2_end 0 = .ok (.aload_n 0, 1) := by decide +kernel
theorem dX2_end_1 : decode cX2_end 1 = .ok (.iconst 0, 1) := by decide +kernel
theorem dX2_end_2 : decode cX2_end 2 = .ok (.putfield 9, 3) := by decide +kernel
theorem dX2_end_5 : decode cX2_end 5 = .ok (.return_, 1) := by decide +kernel
set_option maxRecDepth 20000 in
theorem ggX3_init_X3_emptyWith : GoodIn wsX3_init wsX3_emptyWith := goodIn_r _ [14, 15, 16, 17, 18, 19, 20, 5, 21, 22, 23, 24, 25, 26] (by decide +kernel) (by decide +kernel)
set_option maxRecDepth 20000 in
theorem gX3_init_X3_emptyWith : GoodIn wsX3_init (wsV RX3 25 RX3 yX3_emptyWith wsX3_emptyWith) := goodIn_app (goodIn_of _ (by decide +kernel)) ggX3_init_X3_emptyWith
theorem dX3_init_0 : decode cX3_init 0 = .ok (.aload_n 0, 1) := by decide +kernel
theorem dX3_init_1 : decode cX3_init 1 = .ok (.invokespecial 3, 3) := by decide +kernel
theorem dX3_init_4 : decode cX3_init 4 = .ok (.aload_n 0, 1) := by decide +kernel
theorem dX3_init_5 : decode cX3_init 5 = .ok (.sipush 256, 3) := by decide +kernel
theorem dX3_init_8 : decode cX3_init 8 = .ok (.newarray .byte, 2) := by decide +kernel
theorem dX3_init_10 : decode cX3_init 10 = .ok (.putfield 9, 3) := by decide +kernel
theorem dX3_init_13 : decode cX3_init 13 = .ok (.aload_n 0, 1) := by decide +kernel
theorem dX3_init_14 : decode cX3_init 14 = .ok (.sipush 256, 3) := by decide +kernel
theorem dX3_init_17 : decode cX3_init 17 = .ok (.newarray .int, 2) := by decide +kernel
theorem dX3_init_19 : decode cX3_init 19 = .ok (.putfield 15, 3) := by decide +kernel
theorem dX3_init_22 : decode cX3_init 22 = .ok (.aload_n 0, 1) := by decide +kernel
theorem dX3_init_23 : decode cX3_init 23 = .ok (.sipush 256, 3) := by decide +kernel
theorem dX3_init_26 : decode cX3_init 26 = .ok (.newarray .int, 2) := by decide +kernel
theorem dX3_init_28 : decode cX3_init 28 = .ok (.putfield 19, 3) := by decide +kernel
theorem dX3_init_31 : decode cX3_init 31 = .ok (.aload_n 0, 1) := by decide +kernel
theorem dX3_init_32 : decode cX3_init 32 = .ok (.sipush 256, 3) := by decide +kernel
theorem dX3_init_35 : decode cX3_init 35 = .ok (.newarray .int, 2) := by decide +kernel
theorem dX3_init_37 : decode cX3_init 37 = .ok (.putfield 22, 3) := by decide +kernel
theorem dX3_init_40 : decode cX3_init 40 = .ok (.aload_n 0, 1) := by decide +kernel
theorem dX3_init_41 : decode cX3_init 41 = .ok (.iload_n 1, 1) := by decide +kernel
theorem dX3_init_42 : decode cX3_init 42 = .ok (.invokevirtual 25, 3) := by decide +kernel
theorem dX3_init_45 : decode cX3_init 45 = .ok (.return_, 1) := by decide +kernel
theorem dX3_emptyWith_0 : decode cX3_emptyWith 0 = .ok (.aload_n 0, 1) := by decide +kernel
theorem dX3_emptyWith_1 : decode cX3_emptyWith 1 = .ok (.iload_n 1, 1) := by decide +kernel
theorem dX3_emptyWith_2 : decode cX3_emptyWith 2 = .ok (.sipush 256, 3) := by decide +kernel
theorem dX3_emptyWith_5 : decode cX3_emptyWith 5 = .ok (.invokestatic 29, 3) := by decide +kernel
theorem dX3_emptyWith_8 : decode cX3_emptyWith 8 = .ok (.putfield 35, 3) := by decide +kernel
theorem dX3_emptyWith_11 : decode cX3_emptyWith 11 = .ok (.aload_n 0, 1) := by decide +kernel
theorem dX3_emptyWith_12 : decode cX3_emptyWith 12 = .ok (.iconst 0, 1) := by decide +kernel
theorem dX3_emptyWith_13 : decode cX3_emptyWith 13 = .ok (.putfield 39, 3) := by decide +kernel
theorem dX3_emptyWith_16 : decode cX3_emptyWith 16 = .ok (.iconst 0, 1) := by decide +kernel
theorem dX3_emptyWith_17 : decode cX3_emptyWith 17 = .ok (.istore_n 2, 1) := by decide +kernel
theorem dX3_emptyWith_18 : decode cX3_emptyWith 18 = .ok (.iload_n 2, 1) := by decide +kernel
theorem dX3_emptyWith_19 : decode cX3_emptyWith 19 = .ok (.aload_n 0, 1) := by decide +kernel
theorem dX3_emptyWith_20 : decode cX3_emptyWith 20 = .ok (.getfield 35, 3) := by decide +kernel
theorem dX3_emptyWith_23 : decode cX3_emptyWith 23 = .ok (.if_icmp .ge 17, 3) := by decide +kernel
theorem dX3_emptyWith_26 : decode cX3_emptyWith 26 = .ok (.aload_n 0, 1) := by decide +kernel
theorem dX3_emptyWith_27 : decode cX3_emptyWith 27 = .ok (.getfield 9, 3) := by decide +kernel
theorem dX3_emptyWith_30 : decode cX3_emptyWith 30 = .ok (.iload_n 2, 1) := by decide +kernel
theorem dX3_emptyWith_31 : decode cX3_emptyWith 31 = .ok (.bipush (-128), 2) := by decide +kernel
theorem dX3_emptyWith_33 : decode cX3_emptyWith 33 = .ok (.bastore, 1) := by decide +kernel
theorem dX3_emptyWith_34 : decode cX3_emptyWith 34 = .ok (.iinc 2 1, 3) := by decide +kernel
theorem dX3_emptyWith_37 : decode cX3_emptyWith 37 = .ok (.goto (-19), 3) := by decide +kernel
theorem dX3_emptyWith_40 : decode cX3_emptyWith 40 = .ok (.return_, 1) := by decide +kernel
theorem dX3_around_0 : decode cX3_around 0 = .ok (.aload_n 0, 1) := by decide +kernel
theorem dX3_around_1 : decode cX3_around 1 = .ok (.getfield 35, 3) := by decide +kernel
theorem dX3_around_4 : decode cX3_around 4 = .ok (.ifCond .le 14, 3) := by decide +kernel
theorem dX3_around_7 : decode cX3_around 7 = .ok (.iload_n 1, 1) := by decide +kernel
theorem dX3_around_8 : decode cX3_around 8 = .ok (.aload_n 0, 1) := by decide +kernel
theorem dX3_around_9 : decode cX3_around 9 = .ok (.getfield 35, 3) := by decide +kernel
theorem dX3_around_12 : decode cX3_around 12 = .ok (.iconst 1, 1) := by decide +kernel
theorem dX3_around_13 : decode cX3_around 13 = .ok (.isub, 1) := by decide +kernel
theorem dX3_around_14 : decode cX3_around 14 = .ok (.iand, 1) := by decide +kernel
theorem dX3_around_15 : decode cX3_around 15 = .ok (.goto 4, 3) := by decide +kernel
theorem dX3_around_18 : decode cX3_around 18 = .ok (.iconst 0, 1) := by decide +kernel
theorem dX3_around_19 : decode cX3_around 19 = .ok (.ireturn, 1) := by decide +kernel
theorem dX3_isEmptyIn_0 : decode cX3_isEmptyIn 0 = .ok (.aload_n 0, 1) := by decide +kernel
theorem dX3_isEmptyIn_1 : decode cX3_isEmptyIn 1 = .ok (.getfield 9, 3) := by decide +kernel
theorem dX3_isEmptyIn_4 : decode cX3_isEmptyIn 4 = .ok (.iload_n 1, 1) := by decide +kernel
theorem dX3_isEmptyIn_5 : decode cX3_isEmptyIn 5 = .ok (.baload, 1) := by decide +kernel
theorem dX3_isEmptyIn_6 : decode cX3_isEmptyIn 6 = .ok (.bipush (-128), 2) := by decide +kernel
theorem dX3_isEmptyIn_8 : decode cX3_isEmptyIn 8 = .ok (.if_icmp .ne 7, 3) := by decide +kernel
theorem dX3_isEmptyIn_11 : decode cX3_isEmptyIn 11 = .ok (.iconst 1, 1) := by decide +kernel
theorem dX3_isEmptyIn_12 : decode cX3_isEmptyIn 12 = .ok (.goto 4, 3) := by decide +kernel
theorem dX3_isEmptyIn_15 : decode cX3_isEmptyIn 15 = .ok (.iconst 0, 1) := by decide +kernel
theorem dX3_isEmptyIn_16 : decode cX3_isEmptyIn 16 = .ok (.ireturn, 1) := by decide +kernel
theorem dX3_controlIn_0 : decode cX3_controlIn 0 = .ok (.aload_n 0, 1) := by decide +kernel
theorem dX3_controlIn_1 : decode cX3_controlIn 1 = .ok (.getfield 9, 3) := by decide +kernel
theorem dX3_controlIn_4 : decode cX3_controlIn 4 = .ok (.iload_n 1, 1) := by decide +kernel
theorem dX3_controlIn_5 : decode cX3_controlIn 5 = .ok (.baload, 1) := by decide +kernel
theorem dX3_controlIn_6 : decode cX3_controlIn 6 = .ok (.ireturn, 1) := by decide +kernel
theorem dX3_hashIn_0 : decode cX3_hashIn 0 = .ok (.aload_n 0, 1) := by decide +kernel
theorem dX3_hashIn_1 : decode cX3_hashIn 1 = .ok (.getfield 15, 3) := by decide +kernel
theorem dX3_hashIn_4 : decode cX3_hashIn 4 = .ok (.iload_n 1, 1) := by decide +kernel
theorem dX3_hashIn_5 : decode cX3_hashIn 5 = .ok (.iaload, 1) := by decide +kernel
theorem dX3_hashIn_6 : decode cX3_hashIn 6 = .ok (.ireturn, 1) := by decide +kernel
theorem dX3_keyIn_0 : decode cX3_keyIn 0 = .ok (.aload_n 0, 1) := by decide +kernel
theorem dX3_keyIn_1 : decode cX3_keyIn 1 = .ok (.getfield 19, 3) := by decide +kernel
theorem dX3_keyIn_4 : decode cX3_keyIn 4 = .ok (.iload_n 1, 1) := by decide +kernel
theorem dX3_keyIn_5 : decode cX3_keyIn 5 = .ok (.iaload, 1) := by decide +kernel
theorem dX3_keyIn_6 : decode cX3_keyIn 6 = .ok (.ireturn, 1) := by decide +kernel
theorem dX3_valueIn_0 : decode cX3_valueIn 0 = .ok (.aload_n 0, 1) := by decide +kernel
theorem dX3_valueIn_1 : decode cX3_valueIn 1 = .ok (.getfield 22, 3) := by decide +kernel
theorem dX3_valueIn_4 : decode cX3_valueIn 4 = .ok (.iload_n 1, 1) := by decide +kernel
theorem dX3_valueIn_5 : decode cX3_valueIn 5 = .ok (.iaload, 1) := by decide +kernel
theorem dX3_valueIn_6 : decode cX3_valueIn 6 = .ok (.ireturn, 1) := by decide +kernel
set_option maxRecDepth 20000 in
theorem ggX3_distanceIn_X3_isEmptyIn : GoodIn wsX3_distanceIn wsX3_isEmptyIn := goodIn_r _ [6, 7, 13, 14, 15, 16, 17, 18] (by decide +kernel) (by decide +kernel)
set_option maxRecDepth 20000 in
theorem gX3_distanceIn_X3_isEmptyIn : GoodIn wsX3_distanceIn (wsV RX3 42 RX3 yX3_isEmptyIn wsX3_isEmptyIn) := goodIn_app (goodIn_of _ (by decide +kernel)) ggX3_distanceIn_X3_isEmptyIn
set_option maxRecDepth 20000 in
theorem ggX3_distanceIn_X3_around : GoodIn wsX3_distanceIn wsX3_around := goodIn_r _ [11, 12, 13, 14, 15, 16, 17, 18] (by decide +kernel) (by decide +kernel)
set_option maxRecDepth 20000 in
theorem gX3_distanceIn_X3_around : GoodIn wsX3_distanceIn (wsV RX3 46 RX3 yX3_around wsX3_around) := goodIn_app (goodIn_of _ (by decide +kernel)) ggX3_distanceIn_X3_around
theorem dX3_distanceIn_0 : decode cX3_distanceIn 0 = .ok (.aload_n 0, 1) := by decide +kernel
theorem dX3_distanceIn_1 : decode cX3_distanceIn 1 = .ok (.iload_n 1, 1) := by decide +kernel
theorem dX3_distanceIn_2 : decode cX3_distanceIn 2 = .ok (.invokevirtual 42, 3) := by decide +kernel
theorem dX3_distanceIn_5 : decode cX3_distanceIn 5 = .ok (.ifCond .eq 7, 3) := by decide +kernel
theorem dX3_distanceIn_8 : decode cX3_distanceIn 8 = .ok (.iconst (-1), 1) := by decide +kernel
theorem dX3_distanceIn_9 : decode cX3_distanceIn 9 = .ok (.goto 15, 3) := by decide +kernel
theorem dX3_distanceIn_12 : decode cX3_distanceIn 12 = .ok (.aload_n 0, 1) := by decide +kernel
theorem dX3_distanceIn_13 : decode cX3_distanceIn 13 = .ok (.iload_n 1, 1) := by decide +kernel
theorem dX3_distanceIn_14 : decode cX3_distanceIn 14 = .ok (.aload_n 0, 1) := by decide +kernel
theorem dX3_distanceIn_15 : decode cX3_distanceIn 15 = .ok (.getfield 15, 3) := by decide +kernel
theorem dX3_distanceIn_18 : decode cX3_distanceIn 18 = .ok (.iload_n 1, 1) := by decide +kernel
theorem dX3_distanceIn_19 : decode cX3_distanceIn 19 = .ok (.iaload, 1) := by decide +kernel
theorem dX3_distanceIn_20 : decode cX3_distanceIn 20 = .ok (.isub, 1) := by decide +kernel
theorem dX3_distanceIn_21 : decode cX3_distanceIn 21 = .ok (.invokevirtual 46, 3) := by decide +kernel
theorem dX3_distanceIn_24 : decode cX3_distanceIn 24 = .ok (.ireturn, 1) := by decide +kernel
set_option maxRecDepth 20000 in
theorem ggX3_rankIn_J6_reverse_0f7a4 : GoodIn wsX3_rankIn wsJ6_reverse_0f7a4 := goodIn_r _ [5, 6, 7, 8, 9, 10, 4, 11, 12] (by decide +kernel) (by decide +kernel)
set_option maxRecDepth 20000 in
theorem gX3_rankIn_J6_reverse_0f7a4 : GoodIn wsX3_rankIn (va_wsS RX3 50 yJ6_reverse_0f7a4 wsJ6_reverse_0f7a4) := goodIn_app (goodIn_of _ (by decide +kernel)) ggX3_rankIn_J6_reverse_0f7a4
set_option maxRecDepth 20000 in
theorem ggX3_rankIn_J6_toUnsignedLong_3e8ac : GoodIn wsX3_rankIn wsJ6_toUnsignedLong_3e8ac := goodIn_r _ [15, 16] (by decide +kernel) (by decide +kernel)
set_option maxRecDepth 20000 in
theorem gX3_rankIn_J6_toUnsignedLong_3e8ac : GoodIn wsX3_rankIn (va_wsS RX3 55 yJ6_toUnsignedLong_3e8ac wsJ6_toUnsignedLong_3e8ac) := goodIn_app (goodIn_of _ (by decide +kernel)) ggX3_rankIn_J6_toUnsignedLong_3e8ac
theorem dX3_rankIn_0 : decode cX3_rankIn 0 = .ok (.aload_n 0, 1) := by decide +kernel
theorem dX3_rankIn_1 : decode cX3_rankIn 1 = .ok (.getfield 15, 3) := by decide +kernel
theorem dX3_rankIn_4 : decode cX3_rankIn 4 = .ok (.iload_n 1, 1) := by decide +kernel
theorem dX3_rankIn_5 : decode cX3_rankIn 5 = .ok (.iaload, 1) := by decide +kernel
theorem dX3_rankIn_6 : decode cX3_rankIn 6 = .ok (.invokestatic 50, 3) := by decide +kernel
theorem dX3_rankIn_9 : decode cX3_rankIn 9 = .ok (.invokestatic 55, 3) := by decide +kernel
theorem dX3_rankIn_12 : decode cX3_rankIn 12 = .ok (.lreturn, 1) := by decide +kernel
theorem dX3_exchangeValue_0 : decode cX3_exchangeValue 0 = .ok (.aload_n 0, 1) := by decide +kernel
theorem dX3_exchangeValue_1 : decode cX3_exchangeValue 1 = .ok (.getfield 22, 3) := by decide +kernel
theorem dX3_exchangeValue_4 : decode cX3_exchangeValue 4 = .ok (.iload_n 1, 1) := by decide +kernel
theorem dX3_exchangeValue_5 : decode cX3_exchangeValue 5 = .ok (.iaload, 1) := by decide +kernel
theorem dX3_exchangeValue_6 : decode cX3_exchangeValue 6 = .ok (.istore_n 3, 1) := by decide +kernel
theorem dX3_exchangeValue_7 : decode cX3_exchangeValue 7 = .ok (.aload_n 0, 1) := by decide +kernel
theorem dX3_exchangeValue_8 : decode cX3_exchangeValue 8 = .ok (.getfield 22, 3) := by decide +kernel
theorem dX3_exchangeValue_11 : decode cX3_exchangeValue 11 = .ok (.iload_n 1, 1) := by decide +kernel
theorem dX3_exchangeValue_12 : decode cX3_exchangeValue 12 = .ok (.iload_n 2, 1) := by decide +kernel
theorem dX3_exchangeValue_13 : decode cX3_exchangeValue 13 = .ok (.iastore, 1) := by decide +kernel
theorem dX3_exchangeValue_14 : decode cX3_exchangeValue 14 = .ok (.iload_n 3, 1) := by decide +kernel
theorem dX3_exchangeValue_15 : decode cX3_exchangeValue 15 = .ok (.ireturn, 1) := by decide +kernel
set_option maxRecDepth 20000 in
theorem ggX3_lowestSlotWithKey_X3_isEmptyIn : GoodIn wsX3_lowestSlotWithKey wsX3_isEmptyIn := goodIn_r _ [6, 7, 8, 9, 10, 11, 12, 13] (by decide +kernel) (by decide +kernel)
set_option maxRecDepth 20000 in
theorem gX3_lowestSlotWithKey_X3_isEmptyIn : GoodIn wsX3_lowestSlotWithKey (wsV RX3 42 RX3 yX3_isEmptyIn wsX3_isEmptyIn) := goodIn_app (goodIn_of _ (by decide +kernel)) ggX3_lowestSlotWithKey_X3_isEmptyIn
theorem dX3_lowestSlotWithKey_0 : decode cX3_lowestSlotWithKey 0 = .ok (.iconst 0, 1) := by decide +kernel
theorem dX3_lowestSlotWithKey_1 : decode cX3_lowestSlotWithKey 1 = .ok (.istore_n 1, 1) := by decide +kernel
theorem dX3_lowestSlotWithKey_2 : decode cX3_lowestSlotWithKey 2 = .ok (.iload_n 1, 1) := by decide +kernel
theorem dX3_lowestSlotWithKey_3 : decode cX3_lowestSlotWithKey 3 = .ok (.aload_n 0, 1) := by decide +kernel
theorem dX3_lowestSlotWithKey_4 : decode cX3_lowestSlotWithKey 4 = .ok (.getfield 35, 3) := by decide +kernel
theorem dX3_lowestSlotWithKey_7 : decode cX3_lowestSlotWithKey 7 = .ok (.if_icmp .ge 19, 3) := by decide +kernel
theorem dX3_lowestSlotWithKey_10 : decode cX3_lowestSlotWithKey 10 = .ok (.aload_n 0, 1) := by decide +kernel
theorem dX3_lowestSlotWithKey_11 : decode cX3_lowestSlotWithKey 11 = .ok (.iload_n 1, 1) := by decide +kernel
theorem dX3_lowestSlotWithKey_12 : decode cX3_lowestSlotWithKey 12 = .ok (.invokevirtual 42, 3) := by decide +kernel
theorem dX3_lowestSlotWithKey_15 : decode cX3_lowestSlotWithKey 15 = .ok (.ifCond .ne 5, 3) := by decide +kernel
theorem dX3_lowestSlotWithKey_18 : decode cX3_lowestSlotWithKey 18 = .ok (.iload_n 1, 1) := by decide +kernel
theorem dX3_lowestSlotWithKey_19 : decode cX3_lowestSlotWithKey 19 = .ok (.ireturn, 1) := by decide +kernel
theorem dX3_lowestSlotWithKey_20 : decode cX3_lowestSlotWithKey 20 = .ok (.iinc 1 1, 3) := by decide +kernel
theorem dX3_lowestSlotWithKey_23 : decode cX3_lowestSlotWithKey 23 = .ok (.goto (-21), 3) := by decide +kernel
theorem dX3_lowestSlotWithKey_26 : decode cX3_lowestSlotWithKey 26 = .ok (.iconst 0, 1) := by decide +kernel
theorem dX3_lowestSlotWithKey_27 : decode cX3_lowestSlotWithKey 27 = .ok (.ireturn, 1) := by decide +kernel
set_option maxRecDepth 20000 in
theorem ggX3_carryIn_X3_around : GoodIn wsX3_carryIn wsX3_around := goodIn_r _ [10, 1, 24, 25, 26, 27, 28, 29] (by decide +kernel) (by decide +kernel)
set_option maxRecDepth 20000 in
theorem gX3_carryIn_X3_around : GoodIn wsX3_carryIn (wsV RX3 46 RX3 yX3_around wsX3_around) := goodIn_app (goodIn_of _ (by decide +kernel)) ggX3_carryIn_X3_around
set_option maxRecDepth 20000 in
theorem ggX3_carryIn_X3_distanceIn : GoodIn wsX3_carryIn wsX3_distanceIn := goodIn_r _ [14, 5, 15, 16, 17, 9, 18, 19, 6, 7, 8, 10, 1, 24, 25, 26, 27, 28, 29] (by decide +kernel) (by decide +kernel)
set_option maxRecDepth 20000 in
theorem gX3_carryIn_X3_distanceIn : GoodIn wsX3_carryIn (wsV RX3 59 RX3 yX3_distanceIn wsX3_distanceIn) := goodIn_app (goodIn_of _ (by decide +kernel)) ggX3_carryIn_X3_distanceIn
set_option maxRecDepth 20000 in
theorem ggX3_carryIn_X3_fill : GoodIn wsX3_carryIn wsX3_fill := goodIn_r _ [23, 19, 5, 3, 4, 24, 25, 26, 27, 28, 29] (by decide +kernel) (by decide +kernel)
set_option maxRecDepth 20000 in
theorem gX3_carryIn_X3_fill : GoodIn wsX3_carryIn (wsV RX3 62 RX3 yX3_fill wsX3_fill) := goodIn_app (goodIn_of _ (by decide +kernel)) ggX3_carryIn_X3_fill
theorem dX3_carryIn_0 : decode cX3_carryIn 0 = .ok (.iload_n 1, 1) := by decide +kernel
theorem dX3_carryIn_1 : decode cX3_carryIn 1 = .ok (.istore 4, 2) := by decide +kernel
theorem dX3_carryIn_3 : decode cX3_carryIn 3 = .ok (.iload_n 2, 1) := by decide +kernel
theorem dX3_carryIn_4 : decode cX3_carryIn 4 = .ok (.istore 5, 2) := by decide +kernel
theorem dX3_carryIn_6 : decode cX3_carryIn 6 = .ok (.iload_n 3, 1) := by decide +kernel
theorem dX3_carryIn_7 : decode cX3_carryIn 7 = .ok (.istore 6, 2) := by decide +kernel
theorem dX3_carryIn_9 : decode cX3_carryIn 9 = .ok (.iconst 0, 1) := by decide +kernel
theorem dX3_carryIn_10 : decode cX3_carryIn 10 = .ok (.istore 7, 2) := by decide +kernel
theorem dX3_carryIn_12 : decode cX3_carryIn 12 = .ok (.aload_n 0, 1) := by decide +kernel
theorem dX3_carryIn_13 : decode cX3_carryIn 13 = .ok (.iload 6, 2) := by decide +kernel
theorem dX3_carryIn_15 : decode cX3_carryIn 15 = .ok (.invokevirtual 46, 3) := by decide +kernel
theorem dX3_carryIn_18 : decode cX3_carryIn 18 = .ok (.istore 8, 2) := by decide +kernel
theorem dX3_carryIn_20 : decode cX3_carryIn 20 = .ok (.iconst 0, 1) := by decide +kernel
theorem dX3_carryIn_21 : decode cX3_carryIn 21 = .ok (.istore 9, 2) := by decide +kernel
theorem dX3_carryIn_23 : decode cX3_carryIn 23 = .ok (.iload 9, 2) := by decide +kernel
theorem dX3_carryIn_25 : decode cX3_carryIn 25 = .ok (.aload_n 0, 1) := by decide +kernel
theorem dX3_carryIn_26 : decode cX3_carryIn 26 = .ok (.getfield 35, 3) := by decide +kernel
theorem dX3_carryIn_29 : decode cX3_carryIn 29 = .ok (.if_icmp .ge 121, 3) := by decide +kernel
theorem dX3_carryIn_32 : decode cX3_carryIn 32 = .ok (.aload_n 0, 1) := by decide +kernel
theorem dX3_carryIn_33 : decode cX3_carryIn 33 = .ok (.iload 8, 2) := by decide +kernel
theorem dX3_carryIn_35 : decode cX3_carryIn 35 = .ok (.invokevirtual 59, 3) := by decide +kernel
theorem dX3_carryIn_38 : decode cX3_carryIn 38 = .ok (.istore 10, 2) := by decide +kernel
theorem dX3_carryIn_40 : decode cX3_carryIn 40 = .ok (.iload 10, 2) := by decide +kernel
theorem dX3_carryIn_42 : decode cX3_carryIn 42 = .ok (.iconst (-1), 1) := by decide +kernel
theorem dX3_carryIn_43 : decode cX3_carryIn 43 = .ok (.if_icmp .ne 26, 3) := by decide +kernel
theorem dX3_carryIn_46 : decode cX3_carryIn 46 = .ok (.aload_n 0, 1) := by decide +kernel
theorem dX3_carryIn_47 : decode cX3_carryIn 47 = .ok (.iload 8, 2) := by decide +kernel
theorem dX3_carryIn_49 : decode cX3_carryIn 49 = .ok (.iload 4, 2) := by decide +kernel
theorem dX3_carryIn_51 : decode cX3_carryIn 51 = .ok (.iload 5, 2) := by decide +kernel
theorem dX3_carryIn_53 : decode cX3_carryIn 53 = .ok (.iload 6, 2) := by decide +kernel
theorem dX3_carryIn_55 : decode cX3_carryIn 55 = .ok (.invokevirtual 62, 3) := by decide +kernel
theorem dX3_carryIn_58 : decode cX3_carryIn 58 = .ok (.aload_n 0, 1) := by decide +kernel
theorem dX3_carryIn_59 : decode cX3_carryIn 59 = .ok (.dup, 1) := by decide +kernel
theorem dX3_carryIn_60 : decode cX3_carryIn 60 = .ok (.getfield 39, 3) := by decide +kernel
theorem dX3_carryIn_63 : decode cX3_carryIn 63 = .ok (.iconst 1, 1) := by decide +kernel
theorem dX3_carryIn_64 : decode cX3_carryIn 64 = .ok (.iadd, 1) := by decide +kernel
theorem dX3_carryIn_65 : decode cX3_carryIn 65 = .ok (.putfield 39, 3) := by decide +kernel
theorem dX3_carryIn_68 : decode cX3_carryIn 68 = .ok (.return_, 1) := by decide +kernel
theorem dX3_carryIn_69 : decode cX3_carryIn 69 = .ok (.iload 10, 2) := by decide +kernel
theorem dX3_carryIn_71 : decode cX3_carryIn 71 = .ok (.iload 7, 2) := by decide +kernel
theorem dX3_carryIn_73 : decode cX3_carryIn 73 = .ok (.if_icmp .ge 58, 3) := by decide +kernel
theorem dX3_carryIn_76 : decode cX3_carryIn 76 = .ok (.aload_n 0, 1) := by decide +kernel
theorem dX3_carryIn_77 : decode cX3_carryIn 77 = .ok (.getfield 19, 3) := by decide +kernel
theorem dX3_carryIn_80 : decode cX3_carryIn 80 = .ok (.iload 8, 2) := by decide +kernel
theorem dX3_carryIn_82 : decode cX3_carryIn 82 = .ok (.iaload, 1) := by decide +kernel
theorem dX3_carryIn_83 : decode cX3_carryIn 83 = .ok (.istore 11, 2) := by decide +kernel
theorem dX3_carryIn_85 : decode cX3_carryIn 85 = .ok (.aload_n 0, 1) := by decide +kernel
theorem dX3_carryIn_86 : decode cX3_carryIn 86 = .ok (.getfield 22, 3) := by decide +kernel
theorem dX3_carryIn_89 : decode cX3_carryIn 89 = .ok (.iload 8, 2) := by decide +kernel
theorem dX3_carryIn_91 : decode cX3_carryIn 91 = .ok (.iaload, 1) := by decide +kernel
theorem dX3_carryIn_92 : decode cX3_carryIn 92 = .ok (.istore 12, 2) := by decide +kernel
theorem dX3_carryIn_94 : decode cX3_carryIn 94 = .ok (.aload_n 0, 1) := by decide +kernel
theorem dX3_carryIn_95 : decode cX3_carryIn 95 = .ok (.getfield 15, 3) := by decide +kernel
theorem dX3_carryIn_98 : decode cX3_carryIn 98 = .ok (.iload 8, 2) := by decide +kernel
theorem dX3_carryIn_100 : decode cX3_carryIn 100 = .ok (.iaload, 1) := by decide +kernel
theorem dX3_carryIn_101 : decode cX3_carryIn 101 = .ok (.istore 13, 2) := by decide +kernel
theorem dX3_carryIn_103 : decode cX3_carryIn 103 = .ok (.aload_n 0, 1) := by decide +kernel
theorem dX3_carryIn_104 : decode cX3_carryIn 104 = .ok (.iload 8, 2) := by decide +kernel
theorem dX3_carryIn_106 : decode cX3_carryIn 106 = .ok (.iload 4, 2) := by decide +kernel
theorem dX3_carryIn_108 : decode cX3_carryIn 108 = .ok (.iload 5, 2) := by decide +kernel
theorem dX3_carryIn_110 : decode cX3_carryIn 110 = .ok (.iload 6, 2) := by decide +kernel
theorem dX3_carryIn_112 : decode cX3_carryIn 112 = .ok (.invokevirtual 62, 3) := by decide +kernel
theorem dX3_carryIn_115 : decode cX3_carryIn 115 = .ok (.iload 11, 2) := by decide +kernel
theorem dX3_carryIn_117 : decode cX3_carryIn 117 = .ok (.istore 4, 2) := by decide +kernel
theorem dX3_carryIn_119 : decode cX3_carryIn 119 = .ok (.iload 12, 2) := by decide +kernel
theorem dX3_carryIn_121 : decode cX3_carryIn 121 = .ok (.istore 5, 2) := by decide +kernel
theorem dX3_carryIn_123 : decode cX3_carryIn 123 = .ok (.iload 13, 2) := by decide +kernel
theorem dX3_carryIn_125 : decode cX3_carryIn 125 = .ok (.istore 6, 2) := by decide +kernel
theorem dX3_carryIn_127 : decode cX3_carryIn 127 = .ok (.iload 10, 2) := by decide +kernel
theorem dX3_carryIn_129 : decode cX3_carryIn 129 = .ok (.istore 7, 2) := by decide +kernel
theorem dX3_carryIn_131 : decode cX3_carryIn 131 = .ok (.aload_n 0, 1) := by decide +kernel
theorem dX3_carryIn_132 : decode cX3_carryIn 132 = .ok (.iload 8, 2) := by decide +kernel
theorem dX3_carryIn_134 : decode cX3_carryIn 134 = .ok (.iconst 1, 1) := by decide +kernel
theorem dX3_carryIn_135 : decode cX3_carryIn 135 = .ok (.iadd, 1) := by decide +kernel
theorem dX3_carryIn_136 : decode cX3_carryIn 136 = .ok (.invokevirtual 46, 3) := by decide +kernel
theorem dX3_carryIn_139 : decode cX3_carryIn 139 = .ok (.istore 8, 2) := by decide +kernel
theorem dX3_carryIn_141 : decode cX3_carryIn 141 = .ok (.iinc 7 1, 3) := by decide +kernel
theorem dX3_carryIn_144 : decode cX3_carryIn 144 = .ok (.iinc 9 1, 3) := by decide +kernel
theorem dX3_carryIn_147 : decode cX3_carryIn 147 = .ok (.goto (-124), 3) := by decide +kernel
theorem dX3_carryIn_150 : decode cX3_carryIn 150 = .ok (.return_, 1) := by decide +kernel
set_option maxRecDepth 20000 in
theorem ggX3_displacedBy_X3_around : GoodIn wsX3_displacedBy wsX3_around := goodIn_r _ [6, 1, 17, 18, 19, 20, 21, 22] (by decide +kernel) (by decide +kernel)
set_option maxRecDepth 20000 in
theorem gX3_displacedBy_X3_around : GoodIn wsX3_displacedBy (wsV RX3 46 RX3 yX3_around wsX3_around) := goodIn_app (goodIn_of _ (by decide +kernel)) ggX3_displacedBy_X3_around
set_option maxRecDepth 20000 in
theorem ggX3_displacedBy_X3_distanceIn : GoodIn wsX3_displacedBy wsX3_distanceIn := goodIn_r _ [10, 11, 12, 13, 14, 5, 15, 16, 2, 3, 4, 6, 1, 17, 18, 19, 20, 21, 22] (by decide +kernel) (by decide +kernel)
set_option maxRecDepth 20000 in
theorem gX3_displacedBy_X3_distanceIn : GoodIn wsX3_displacedBy (wsV RX3 59 RX3 yX3_distanceIn wsX3_distanceIn) := goodIn_app (goodIn_of _ (by decide +kernel)) ggX3_displacedBy_X3_distanceIn
theorem dX3_displacedBy_0 : decode cX3_displacedBy 0 = .ok (.iconst 0, 1) := by decide +kernel
theorem dX3_displacedBy_1 : decode cX3_displacedBy 1 = .ok (.istore_n 2, 1) := by decide +kernel
theorem dX3_displacedBy_2 : decode cX3_displacedBy 2 = .ok (.iconst 0, 1) := by decide +kernel
theorem dX3_displacedBy_3 : decode cX3_displacedBy 3 = .ok (.istore_n 3, 1) := by decide +kernel
theorem dX3_displacedBy_4 : decode cX3_displacedBy 4 = .ok (.aload_n 0, 1) := by decide +kernel
theorem dX3_displacedBy_5 : decode cX3_displacedBy 5 = .ok (.iload_n 1, 1) := by decide +kernel
theorem dX3_displacedBy_6 : decode cX3_displacedBy 6 = .ok (.invokevirtual 46, 3) := by decide +kernel
theorem dX3_displacedBy_9 : decode cX3_displacedBy 9 = .ok (.istore 4, 2) := by decide +kernel
theorem dX3_displacedBy_11 : decode cX3_displacedBy 11 = .ok (.iconst 0, 1) := by decide +kernel
theorem dX3_displacedBy_12 : decode cX3_displacedBy 12 = .ok (.istore 5, 2) := by decide +kernel
theorem dX3_displacedBy_14 : decode cX3_displacedBy 14 = .ok (.iload 5, 2) := by decide +kernel
theorem dX3_displacedBy_16 : decode cX3_displacedBy 16 = .ok (.aload_n 0, 1) := by decide +kernel
theorem dX3_displacedBy_17 : decode cX3_displacedBy 17 = .ok (.getfield 35, 3) := by decide +kernel
theorem dX3_displacedBy_20 : decode cX3_displacedBy 20 = .ok (.if_icmp .ge 51, 3) := by decide +kernel
theorem dX3_displacedBy_23 : decode cX3_displacedBy 23 = .ok (.aload_n 0, 1) := by decide +kernel
theorem dX3_displacedBy_24 : decode cX3_displacedBy 24 = .ok (.iload 4, 2) := by decide +kernel
theorem dX3_displacedBy_26 : decode cX3_displacedBy 26 = .ok (.invokevirtual 59, 3) := by decide +kernel
theorem dX3_displacedBy_29 : decode cX3_displacedBy 29 = .ok (.istore 6, 2) := by decide +kernel
theorem dX3_displacedBy_31 : decode cX3_displacedBy 31 = .ok (.iload 6, 2) := by decide +kernel
theorem dX3_displacedBy_33 : decode cX3_displacedBy 33 = .ok (.iconst (-1), 1) := by decide +kernel
theorem dX3_displacedBy_34 : decode cX3_displacedBy 34 = .ok (.if_icmp .ne 6, 3) := by decide +kernel
theorem dX3_displacedBy_37 : decode cX3_displacedBy 37 = .ok (.goto 34, 3) := by decide +kernel
theorem dX3_displacedBy_40 : decode cX3_displacedBy 40 = .ok (.iload 6, 2) := by decide +kernel
theorem dX3_displacedBy_42 : decode cX3_displacedBy 42 = .ok (.iload_n 3, 1) := by decide +kernel
theorem dX3_displacedBy_43 : decode cX3_displacedBy 43 = .ok (.if_icmp .ge 9, 3) := by decide +kernel
theorem dX3_displacedBy_46 : decode cX3_displacedBy 46 = .ok (.iinc 2 1, 3) := by decide +kernel
theorem dX3_displacedBy_49 : decode cX3_displacedBy 49 = .ok (.iload 6, 2) := by decide +kernel
theorem dX3_displacedBy_51 : decode cX3_displacedBy 51 = .ok (.istore_n 3, 1) := by decide +kernel
theorem dX3_displacedBy_52 : decode cX3_displacedBy 52 = .ok (.aload_n 0, 1) := by decide +kernel
theorem dX3_displacedBy_53 : decode cX3_displacedBy 53 = .ok (.iload 4, 2) := by decide +kernel
theorem dX3_displacedBy_55 : decode cX3_displacedBy 55 = .ok (.iconst 1, 1) := by decide +kernel
theorem dX3_displacedBy_56 : decode cX3_displacedBy 56 = .ok (.iadd, 1) := by decide +kernel
theorem dX3_displacedBy_57 : decode cX3_displacedBy 57 = .ok (.invokevirtual 46, 3) := by decide +kernel
theorem dX3_displacedBy_60 : decode cX3_displacedBy 60 = .ok (.istore 4, 2) := by decide +kernel
theorem dX3_displacedBy_62 : decode cX3_displacedBy 62 = .ok (.iinc 3 1, 3) := by decide +kernel
theorem dX3_displacedBy_65 : decode cX3_displacedBy 65 = .ok (.iinc 5 1, 3) := by decide +kernel
theorem dX3_displacedBy_68 : decode cX3_displacedBy 68 = .ok (.goto (-54), 3) := by decide +kernel
theorem dX3_displacedBy_71 : decode cX3_displacedBy 71 = .ok (.iload_n 2, 1) := by decide +kernel
theorem dX3_displacedBy_72 : decode cX3_displacedBy 72 = .ok (.ireturn, 1) := by decide +kernel
set_option maxRecDepth 20000 in
theorem ggX3_takeOut_X3_around : GoodIn wsX3_takeOut wsX3_around := goodIn_r _ [11, 1, 24, 25, 26, 27, 28, 29] (by decide +kernel) (by decide +kernel)
set_option maxRecDepth 20000 in
theorem gX3_takeOut_X3_around : GoodIn wsX3_takeOut (wsV RX3 46 RX3 yX3_around wsX3_around) := goodIn_app (goodIn_of _ (by decide +kernel)) ggX3_takeOut_X3_around
set_option maxRecDepth 20000 in
theorem ggX3_takeOut_X3_distanceIn : GoodIn wsX3_takeOut wsX3_distanceIn := goodIn_r _ [15, 4, 16, 17, 18, 10, 19, 5, 7, 8, 9, 11, 1, 24, 25, 26, 27, 28, 29] (by decide +kernel) (by decide +kernel)
set_option maxRecDepth 20000 in
theorem gX3_takeOut_X3_distanceIn : GoodIn wsX3_takeOut (wsV RX3 59 RX3 yX3_distanceIn wsX3_distanceIn) := goodIn_app (goodIn_of _ (by decide +kernel)) ggX3_takeOut_X3_distanceIn
set_option maxRecDepth 20000 in
theorem ggX3_takeOut_X3_fill : GoodIn wsX3_takeOut wsX3_fill := goodIn_r _ [23, 5, 4, 2, 3, 24, 25, 26, 27, 28, 29] (by decide +kernel) (by decide +kernel)
set_option maxRecDepth 20000 in
theorem gX3_takeOut_X3_fill : GoodIn wsX3_takeOut (wsV RX3 62 RX3 yX3_fill wsX3_fill) := goodIn_app (goodIn_of _ (by decide +kernel)) ggX3_takeOut_X3_fill
theorem dX3_takeOut_0 : decode cX3_takeOut 0 = .ok (.iload_n 1, 1) := by decide +kernel
theorem dX3_takeOut_1 : decode cX3_takeOut 1 = .ok (.istore_n 2, 1) := by decide +kernel
theorem dX3_takeOut_2 : decode cX3_takeOut 2 = .ok (.aload_n 0, 1) := by decide +kernel
theorem dX3_takeOut_3 : decode cX3_takeOut 3 = .ok (.iload_n 2, 1) := by decide +kernel
theorem dX3_takeOut_4 : decode cX3_takeOut 4 = .ok (.iconst 1, 1) := by decide +kernel
theorem dX3_takeOut_5 : decode cX3_takeOut 5 = .ok (.iadd, 1) := by decide +kernel
theorem dX3_takeOut_6 : decode cX3_takeOut 6 = .ok (.invokevirtual 46, 3) := by decide +kernel
theorem dX3_takeOut_9 : decode cX3_takeOut 9 = .ok (.istore_n 3, 1) := by decide +kernel
theorem dX3_takeOut_10 : decode cX3_takeOut 10 = .ok (.iconst 1, 1) := by decide +kernel
theorem dX3_takeOut_11 : decode cX3_takeOut 11 = .ok (.istore 4, 2) := by decide +kernel
theorem dX3_takeOut_13 : decode cX3_takeOut 13 = .ok (.iload 4, 2) := by decide +kernel
theorem dX3_takeOut_15 : decode cX3_takeOut 15 = .ok (.aload_n 0, 1) := by decide +kernel
theorem dX3_takeOut_16 : decode cX3_takeOut 16 = .ok (.getfield 35, 3) := by decide +kernel
theorem dX3_takeOut_19 : decode cX3_takeOut 19 = .ok (.if_icmp .ge 50, 3) := by decide +kernel
theorem dX3_takeOut_22 : decode cX3_takeOut 22 = .ok (.aload_n 0, 1) := by decide +kernel
theorem dX3_takeOut_23 : decode cX3_takeOut 23 = .ok (.iload_n 3, 1) := by decide +kernel
theorem dX3_takeOut_24 : decode cX3_takeOut 24 = .ok (.invokevirtual 59, 3) := by decide +kernel
theorem dX3_takeOut_27 : decode cX3_takeOut 27 = .ok (.ifCond .le 42, 3) := by decide +kernel
theorem dX3_takeOut_30 : decode cX3_takeOut 30 = .ok (.aload_n 0, 1) := by decide +kernel
theorem dX3_takeOut_31 : decode cX3_takeOut 31 = .ok (.iload_n 2, 1) := by decide +kernel
theorem dX3_takeOut_32 : decode cX3_takeOut 32 = .ok (.aload_n 0, 1) := by decide +kernel
theorem dX3_takeOut_33 : decode cX3_takeOut 33 = .ok (.getfield 19, 3) := by decide +kernel
theorem dX3_takeOut_36 : decode cX3_takeOut 36 = .ok (.iload_n 3, 1) := by decide +kernel
theorem dX3_takeOut_37 : decode cX3_takeOut 37 = .ok (.iaload, 1) := by decide +kernel
theorem dX3_takeOut_38 : decode cX3_takeOut 38 = .ok (.aload_n 0, 1) := by decide +kernel
theorem dX3_takeOut_39 : decode cX3_takeOut 39 = .ok (.getfield 22, 3) := by decide +kernel
theorem dX3_takeOut_42 : decode cX3_takeOut 42 = .ok (.iload_n 3, 1) := by decide +kernel
theorem dX3_takeOut_43 : decode cX3_takeOut 43 = .ok (.iaload, 1) := by decide +kernel
theorem dX3_takeOut_44 : decode cX3_takeOut 44 = .ok (.aload_n 0, 1) := by decide +kernel
theorem dX3_takeOut_45 : decode cX3_takeOut 45 = .ok (.getfield 15, 3) := by decide +kernel
theorem dX3_takeOut_48 : decode cX3_takeOut 48 = .ok (.iload_n 3, 1) := by decide +kernel
theorem dX3_takeOut_49 : decode cX3_takeOut 49 = .ok (.iaload, 1) := by decide +kernel
theorem dX3_takeOut_50 : decode cX3_takeOut 50 = .ok (.invokevirtual 62, 3) := by decide +kernel
theorem dX3_takeOut_53 : decode cX3_takeOut 53 = .ok (.iload_n 3, 1) := by decide +kernel
theorem dX3_takeOut_54 : decode cX3_takeOut 54 = .ok (.istore_n 2, 1) := by decide +kernel
theorem dX3_takeOut_55 : decode cX3_takeOut 55 = .ok (.aload_n 0, 1) := by decide +kernel
theorem dX3_takeOut_56 : decode cX3_takeOut 56 = .ok (.iload_n 2, 1) := by decide +kernel
theorem dX3_takeOut_57 : decode cX3_takeOut 57 = .ok (.iconst 1, 1) := by decide +kernel
theorem dX3_takeOut_58 : decode cX3_takeOut 58 = .ok (.iadd, 1) := by decide +kernel
theorem dX3_takeOut_59 : decode cX3_takeOut 59 = .ok (.invokevirtual 46, 3) := by decide +kernel
theorem dX3_takeOut_62 : decode cX3_takeOut 62 = .ok (.istore_n 3, 1) := by decide +kernel
theorem dX3_takeOut_63 : decode cX3_takeOut 63 = .ok (.iinc 4 1, 3) := by decide +kernel
theorem dX3_takeOut_66 : decode cX3_takeOut 66 = .ok (.goto (-53), 3) := by decide +kernel
theorem dX3_takeOut_69 : decode cX3_takeOut 69 = .ok (.aload_n 0, 1) := by decide +kernel
theorem dX3_takeOut_70 : decode cX3_takeOut 70 = .ok (.getfield 9, 3) := by decide +kernel
theorem dX3_takeOut_73 : decode cX3_takeOut 73 = .ok (.iload_n 2, 1) := by decide +kernel
theorem dX3_takeOut_74 : decode cX3_takeOut 74 = .ok (.bipush (-128), 2) := by decide +kernel
theorem dX3_takeOut_76 : decode cX3_takeOut 76 = .ok (.bastore, 1) := by decide +kernel
theorem dX3_takeOut_77 : decode cX3_takeOut 77 = .ok (.aload_n 0, 1) := by decide +kernel
theorem dX3_takeOut_78 : decode cX3_takeOut 78 = .ok (.dup, 1) := by decide +kernel
theorem dX3_takeOut_79 : decode cX3_takeOut 79 = .ok (.getfield 39, 3) := by decide +kernel
theorem dX3_takeOut_82 : decode cX3_takeOut 82 = .ok (.iconst 1, 1) := by decide +kernel
theorem dX3_takeOut_83 : decode cX3_takeOut 83 = .ok (.isub, 1) := by decide +kernel
theorem dX3_takeOut_84 : decode cX3_takeOut 84 = .ok (.putfield 39, 3) := by decide +kernel
theorem dX3_takeOut_87 : decode cX3_takeOut 87 = .ok (.return_, 1) := by decide +kernel
theorem dX3_fill_0 : decode cX3_fill 0 = .ok (.aload_n 0, 1) := by decide +kernel
theorem dX3_fill_1 : decode cX3_fill 1 = .ok (.getfield 9, 3) := by decide +kernel
theorem dX3_fill_4 : decode cX3_fill 4 = .ok (.iload_n 1, 1) := by decide +kernel
theorem dX3_fill_5 : decode cX3_fill 5 = .ok (.iload 4, 2) := by decide +kernel
theorem dX3_fill_7 : decode cX3_fill 7 = .ok (.bipush 25, 2) := by decide +kernel
theorem dX3_fill_9 : decode cX3_fill 9 = .ok (.iushr, 1) := by decide +kernel
theorem dX3_fill_10 : decode cX3_fill 10 = .ok (.i2b, 1) := by decide +kernel
theorem dX3_fill_11 : decode cX3_fill 11 = .ok (.bastore, 1) := by decide +kernel
theorem dX3_fill_12 : decode cX3_fill 12 = .ok (.aload_n 0, 1) := by decide +kernel
theorem dX3_fill_13 : decode cX3_fill 13 = .ok (.getfield 15, 3) := by decide +kernel
theorem dX3_fill_16 : decode cX3_fill 16 = .ok (.iload_n 1, 1) := by decide +kernel
theorem dX3_fill_17 : decode cX3_fill 17 = .ok (.iload 4, 2) := by decide +kernel
theorem dX3_fill_19 : decode cX3_fill 19 = .ok (.iastore, 1) := by decide +kernel
theorem dX3_fill_20 : decode cX3_fill 20 = .ok (.aload_n 0, 1) := by decide +kernel
theorem dX3_fill_21 : decode cX3_fill 21 = .ok (.getfield 19, 3) := by decide +kernel
theorem dX3_fill_24 : decode cX3_fill 24 = .ok (.iload_n 1, 1) := by decide +kernel
theorem dX3_fill_25 : decode cX3_fill 25 = .ok (.iload_n 2, 1) := by decide +kernel
theorem dX3_fill_26 : decode cX3_fill 26 = .ok (.iastore, 1) := by decide +kernel
theorem dX3_fill_27 : decode cX3_fill 27 = .ok (.aload_n 0, 1) := by decide +kernel
theorem dX3_fill_28 : decode cX3_fill 28 = .ok (.getfield 22, 3) := by decide +kernel
theorem dX3_fill_31 : decode cX3_fill 31 = .ok (.iload_n 1, 1) := by decide +kernel
theorem dX3_fill_32 : decode cX3_fill 32 = .ok (.iload_n 3, 1) := by decide +kernel
theorem dX3_fill_33 : decode cX3_fill 33 = .ok (.iastore, 1) := by decide +kernel
theorem dX3_fill_34 : decode cX3_fill 34 = .ok (.return_, 1) := by decide +kernel
set_option maxRecDepth 20000 in
theorem ggX4_init_X1_init : GoodIn wsX4_init wsX1_init := goodIn_r _ [23, 24, 2, 3] (by decide +kernel) (by decide +kernel)
set_option maxRecDepth 20000 in
theorem gX4_init_X1_init_n17 : GoodIn wsX4_init (wsX1_init) := ggX4_init_X1_init
set_option maxRecDepth 20000 in
theorem ggX4_init_X0_init : GoodIn wsX4_init wsX0_init := goodIn_r _ [26, 27, 2, 3, 28, 29, 30, 31, 65, 66, 67, 68] (by decide +kernel) (by decide +kernel)
set_option maxRecDepth 20000 in
theorem gX4_init_X0_init_n24 : GoodIn wsX4_init (wsX0_init) := ggX4_init_X0_init
set_option maxRecDepth 20000 in
theorem ggX4_init_X3_init : GoodIn wsX4_init wsX3_init := goodIn_r _ [34, 35, 2, 3, 36, 37, 28, 38, 39, 40, 41, 42, 43, 16, 44, 45, 46, 47, 48, 49, 50, 69, 70, 71, 72, 73, 74] (by decide +kernel) (by decide +kernel)
set_option maxRecDepth 20000 in
theorem gX4_init_X3_init : GoodIn wsX4_init (wsX3_init) := ggX4_init_X3_init
set_option maxRecDepth 20000 in
theorem ggX4_init_X2_init : GoodIn wsX4_init wsX2_init := goodIn_r _ [52, 53, 2, 3] (by decide +kernel) (by decide +kernel)
set_option maxRecDepth 20000 in
theorem gX4_init_X2_init_n41 : GoodIn wsX4_init (wsX2_init) := ggX4_init_X2_init
theorem dX4_init_0 : decode cX4_init 0 = .ok (.aload_n 0, 1) := by decide +kernel
theorem dX4_init_1 : decode cX4_init 1 = .ok (.invokespecial 1, 3) := by decide +kernel
theorem dX4_init_4 : decode cX4_init 4 = .ok (.aload_n 0, 1) := by decide +kernel
theorem dX4_init_5 : decode cX4_init 5 = .ok (.iconst 4, 1) := by decide +kernel
theorem dX4_init_6 : decode cX4_init 6 = .ok (.anewarray 9, 3) := by decide +kernel
theorem dX4_init_9 : decode cX4_init 9 = .ok (.putfield 11, 3) := by decide +kernel
theorem dX4_init_12 : decode cX4_init 12 = .ok (.aload_n 0, 1) := by decide +kernel
theorem dX4_init_13 : decode cX4_init 13 = .ok (.new 15, 3) := by decide +kernel
theorem dX4_init_16 : decode cX4_init 16 = .ok (.dup, 1) := by decide +kernel
theorem dX4_init_17 : decode cX4_init 17 = .ok (.invokespecial 17, 3) := by decide +kernel
theorem dX4_init_20 : decode cX4_init 20 = .ok (.putfield 18, 3) := by decide +kernel
theorem dX4_init_23 : decode cX4_init 23 = .ok (.aload_n 0, 1) := by decide +kernel
theorem dX4_init_24 : decode cX4_init 24 = .ok (.new 22, 3) := by decide +kernel
theorem dX4_init_27 : decode cX4_init 27 = .ok (.dup, 1) := by decide +kernel
theorem dX4_init_28 : decode cX4_init 28 = .ok (.invokespecial 24, 3) := by decide +kernel
theorem dX4_init_31 : decode cX4_init 31 = .ok (.putfield 25, 3) := by decide +kernel
theorem dX4_init_34 : decode cX4_init 34 = .ok (.aload_n 0, 1) := by decide +kernel
theorem dX4_init_35 : decode cX4_init 35 = .ok (.new 29, 3) := by decide +kernel
theorem dX4_init_38 : decode cX4_init 38 = .ok (.dup, 1) := by decide +kernel
theorem dX4_init_39 : decode cX4_init 39 = .ok (.bipush 8, 2) := by decide +kernel
theorem dX4_init_41 : decode cX4_init 41 = .ok (.invokespecial 31, 3) := by decide +kernel
theorem dX4_init_44 : decode cX4_init 44 = .ok (.putfield 34, 3) := by decide +kernel
theorem dX4_init_47 : decode cX4_init 47 = .ok (.aload_n 0, 1) := by decide +kernel
theorem dX4_init_48 : decode cX4_init 48 = .ok (.new 29, 3) := by decide +kernel
theorem dX4_init_51 : decode cX4_init 51 = .ok (.dup, 1) := by decide +kernel
theorem dX4_init_52 : decode cX4_init 52 = .ok (.iconst 0, 1) := by decide +kernel
theorem dX4_init_53 : decode cX4_init 53 = .ok (.invokespecial 31, 3) := by decide +kernel
theorem dX4_init_56 : decode cX4_init 56 = .ok (.putfield 38, 3) := by decide +kernel
theorem dX4_init_59 : decode cX4_init 59 = .ok (.iconst 0, 1) := by decide +kernel
theorem dX4_init_60 : decode cX4_init 60 = .ok (.istore_n 1, 1) := by decide +kernel
theorem dX4_init_61 : decode cX4_init 61 = .ok (.iload_n 1, 1) := by decide +kernel
theorem dX4_init_62 : decode cX4_init 62 = .ok (.iconst 4, 1) := by decide +kernel
theorem dX4_init_63 : decode cX4_init 63 = .ok (.if_icmp .ge 22, 3) := by decide +kernel
theorem dX4_init_66 : decode cX4_init 66 = .ok (.aload_n 0, 1) := by decide +kernel
theorem dX4_init_67 : decode cX4_init 67 = .ok (.getfield 11, 3) := by decide +kernel
theorem dX4_init_70 : decode cX4_init 70 = .ok (.iload_n 1, 1) := by decide +kernel
theorem dX4_init_71 : decode cX4_init 71 = .ok (.new 9, 3) := by decide +kernel
theorem dX4_init_74 : decode cX4_init 74 = .ok (.dup, 1) := by decide +kernel
theorem dX4_init_75 : decode cX4_init 75 = .ok (.invokespecial 41, 3) := by decide +kernel
theorem dX4_init_78 : decode cX4_init 78 = .ok (.aastore, 1) := by decide +kernel
theorem dX4_init_79 : decode cX4_init 79 = .ok (.iinc 1 1, 3) := by decide +kernel
theorem dX4_init_82 : decode cX4_init 82 = .ok (.goto (-21), 3) := by decide +kernel
theorem dX4_init_85 : decode cX4_init 85 = .ok (.aload_n 0, 1) := by decide +kernel
theorem dX4_init_86 : decode cX4_init 86 = .ok (.iconst 1, 1) := by decide +kernel
theorem dX4_init_87 : decode cX4_init 87 = .ok (.putfield 42, 3) := by decide +kernel
theorem dX4_init_90 : decode cX4_init 90 = .ok (.return_, 1) := by decide +kernel
set_option maxRecDepth 20000 in
theorem ggX4_clear_X3_emptyWith : GoodIn wsX4_clear wsX3_emptyWith := goodIn_r _ [12, 13, 14, 15, 16, 17, 18, 19, 33, 34, 35, 36, 37, 38] (by decide +kernel) (by decide +kernel)
set_option maxRecDepth 20000 in
theorem gX4_clear_X3_emptyWith : GoodIn wsX4_clear (wsV RX4 53 RX3 yX3_emptyWith wsX3_emptyWith) := goodIn_app (goodIn_of _ (by decide +kernel)) ggX4_clear_X3_emptyWith
set_option maxRecDepth 20000 in
theorem ggX4_clear_X2_end : GoodIn wsX4_clear wsX2_end := goodIn_r _ [24, 25, 39, 40, 41, 42, 43] (by decide +kernel) (by decide +kernel)
set_option maxRecDepth 20000 in
theorem gX4_clear_X2_end : GoodIn wsX4_clear (wsV RX4 59 RX2 yX2_end wsX2_end) := goodIn_app (goodIn_of _ (by decide +kernel)) ggX4_clear_X2_end
theorem dX4_clear_0 : decode cX4_clear 0 = .ok (.iload_n 1, 1) := by decide +kernel
theorem dX4_clear_1 : decode cX4_clear 1 = .ok (.ifCond .eq 18, 3) := by decide +kernel
theorem dX4_clear_4 : decode cX4_clear 4 = .ok (.iload_n 1, 1) := by decide +kernel
theorem dX4_clear_5 : decode cX4_clear 5 = .ok (.iconst 1, 1) := by decide +kernel
theorem dX4_clear_6 : decode cX4_clear 6 = .ok (.if_icmp .eq 13, 3) := by decide +kernel
theorem dX4_clear_9 : decode cX4_clear 9 = .ok (.new 46, 3) := by decide +kernel
theorem dX4_clear_12 : decode cX4_clear 12 = .ok (.dup, 1) := by decide +kernel
theorem dX4_clear_13 : decode cX4_clear 13 = .ok (.ldc 48, 2) := by decide +kernel
theorem dX4_clear_15 : decode cX4_clear 15 = .ok (.invokespecial 50, 3) := by decide +kernel
theorem dX4_clear_18 : decode cX4_clear 18 = .ok (.athrow, 1) := by decide +kernel
theorem dX4_clear_19 : decode cX4_clear 19 = .ok (.aload_n 0, 1) := by decide +kernel
theorem dX4_clear_20 : decode cX4_clear 20 = .ok (.iload_n 1, 1) := by decide +kernel
theorem dX4_clear_21 : decode cX4_clear 21 = .ok (.putfield 42, 3) := by decide +kernel
theorem dX4_clear_24 : decode cX4_clear 24 = .ok (.aload_n 0, 1) := by decide +kernel
theorem dX4_clear_25 : decode cX4_clear 25 = .ok (.getfield 34, 3) := by decide +kernel
theorem dX4_clear_28 : decode cX4_clear 28 = .ok (.bipush 8, 2) := by decide +kernel
theorem dX4_clear_30 : decode cX4_clear 30 = .ok (.invokevirtual 53, 3) := by decide +kernel
theorem dX4_clear_33 : decode cX4_clear 33 = .ok (.aload_n 0, 1) := by decide +kernel
theorem dX4_clear_34 : decode cX4_clear 34 = .ok (.getfield 38, 3) := by decide +kernel
theorem dX4_clear_37 : decode cX4_clear 37 = .ok (.iconst 0, 1) := by decide +kernel
theorem dX4_clear_38 : decode cX4_clear 38 = .ok (.invokevirtual 53, 3) := by decide +kernel
theorem dX4_clear_41 : decode cX4_clear 41 = .ok (.aload_n 0, 1) := by decide +kernel
theorem dX4_clear_42 : decode cX4_clear 42 = .ok (.iconst 0, 1) := by decide +kernel
theorem dX4_clear_43 : decode cX4_clear 43 = .ok (.putfield 56, 3) := by decide +kernel
theorem dX4_clear_46 : decode cX4_clear 46 = .ok (.iconst 0, 1) := by decide +kernel
theorem dX4_clear_47 : decode cX4_clear 47 = .ok (.istore_n 2, 1) := by decide +kernel
theorem dX4_clear_48 : decode cX4_clear 48 = .ok (.iload_n 2, 1) := by decide +kernel
theorem dX4_clear_49 : decode cX4_clear 49 = .ok (.iconst 4, 1) := by decide +kernel
theorem dX4_clear_50 : decode cX4_clear 50 = .ok (.if_icmp .ge 18, 3) := by decide +kernel
theorem dX4_clear_53 : decode cX4_clear 53 = .ok (.aload_n 0, 1) := by decide +kernel
theorem dX4_clear_54 : decode cX4_clear 54 = .ok (.getfield 11, 3) := by decide +kernel
theorem dX4_clear_57 : decode cX4_clear 57 = .ok (.iload_n 2, 1) := by decide +kernel
theorem dX4_clear_58 : decode cX4_clear 58 = .ok (.aaload, 1) := by decide +kernel
theorem dX4_clear_59 : decode cX4_clear 59 = .ok (.invokevirtual 59, 3) := by decide +kernel
theorem dX4_clear_62 : decode cX4_clear 62 = .ok (.iinc 2 1, 3) := by decide +kernel
theorem dX4_clear_65 : decode cX4_clear 65 = .ok (.goto (-17), 3) := by decide +kernel
theorem dX4_clear_68 : decode cX4_clear 68 = .ok (.return_, 1) := by decide +kernel
set_option maxRecDepth 20000 in
theorem ggX4_put_X4_size : GoodIn wsX4_put wsX4_size := goodIn_r _ [10, 11, 12, 132, 133, 134, 135, 136, 137, 138, 143, 144, 145, 146, 147, 148] (by decide +kernel) (by decide +kernel)
set_option maxRecDepth 20000 in
theorem gX4_put_X4_size : GoodIn wsX4_put (wsV RX4 64 RX4 yX4_size wsX4_size) := goodIn_app (goodIn_of _ (by decide +kernel)) ggX4_put_X4_size
set_option maxRecDepth 20000 in
theorem ggX4_put_X4_get : GoodIn wsX4_put wsX4_get := goodIn_r _ [16, 5, 17, 18, 19, 9, 20, 11, 12, 21, 22, 23, 24, 25, 26, 27, 28, 29, 30, 31, 32, 33, 34, 35, 36, 37, 38, 39, 40, 41, 42, 43, 44, 45, 46, 47, 48, 49, 50, 51, 52, 53, 54, 55, 56, 57, 58, 59, 60, 61, 62, 63, 64, 65, 66, 67, 68, 69, 70, 71, 72, 73, 132, 133, 134, 135, 136, 137, 138, 139, 140, 141, 142, 143, 144, 145, 146, 147, 148] (by decide +kernel) (by decide +kernel)
set_option maxRecDepth 20000 in
theorem gX4_put_X4_get : GoodIn wsX4_put (wsV RX4 68 RX4 yX4_get wsX4_get) := goodIn_app (goodIn_of _ (by decide +kernel)) ggX4_put_X4_get
set_option maxRecDepth 20000 in
theorem ggX4_put_X4_moveSlice : GoodIn wsX4_put wsX4_moveSlice := goodIn_r _ [77, 12, 11, 78, 79, 80, 51, 81, 53, 82, 55, 56, 57, 58, 83, 64, 65, 66, 67, 69, 70, 71, 72, 73, 84, 85, 86, 87, 88, 89, 90, 91, 92, 93, 94, 49, 50, 52, 95, 96, 97, 98, 99, 100, 101, 102, 103, 104, 105, 106, 107, 108, 109, 9, 110, 111, 112, 113, 114, 115, 116, 117, 118, 132, 133, 134, 135, 136, 137, 138, 143, 144, 145, 146, 147, 148] (by decide +kernel) (by decide +kernel)
set_option maxRecDepth 20000 in
theorem gX4_put_X4_moveSlice : GoodIn wsX4_put (wsV RX4 77 RX4 yX4_moveSlice wsX4_moveSlice) := goodIn_app (goodIn_of _ (by decide +kernel)) ggX4_put_X4_moveSlice
set_option maxRecDepth 20000 in
theorem ggX4_put_X4_lookUp : GoodIn wsX4_put wsX4_lookUp := goodIn_r _ [20, 5, 11, 12, 21, 22, 23, 9, 24, 25, 26, 27, 28, 29, 30, 31, 32, 33, 34, 35, 36, 37, 38, 39, 40, 41, 42, 43, 44, 45, 46, 47, 48, 49, 50, 51, 52, 53, 54, 55, 56, 57, 58, 59, 60, 61, 62, 63, 64, 65, 66, 67, 68, 132, 133, 134, 135, 136, 137, 138, 139, 140, 141, 142, 143, 144, 145, 146, 147, 148] (by decide +kernel) (by decide +kernel)
set_option maxRecDepth 20000 in
theorem gX4_put_X4_lookUp : GoodIn wsX4_put (wsV RX4 80 RX4 yX4_lookUp wsX4_lookUp) := goodIn_app (goodIn_of _ (by decide +kernel)) ggX4_put_X4_lookUp
set_option maxRecDepth 20000 in
theorem ggX4_put_X1_hasFound : GoodIn wsX4_put wsX1_hasFound := goodIn_r _ [47, 32, 139, 140, 141, 142] (by decide +kernel) (by decide +kernel)
set_option maxRecDepth 20000 in
theorem gX4_put_X1_hasFound : GoodIn wsX4_put (wsV RX4 83 RX1 yX1_hasFound wsX1_hasFound) := goodIn_app (goodIn_of _ (by decide +kernel)) ggX4_put_X1_hasFound
set_option maxRecDepth 20000 in
theorem ggX4_put_X3_exchangeValue : GoodIn wsX4_put wsX3_exchangeValue := goodIn_r _ [122, 73, 143, 144, 145, 146, 147, 148] (by decide +kernel) (by decide +kernel)
set_option maxRecDepth 20000 in
theorem gX4_put_X3_exchangeValue : GoodIn wsX4_put (wsV RX4 93 RX3 yX3_exchangeValue wsX3_exchangeValue) := goodIn_app (goodIn_of _ (by decide +kernel)) ggX4_put_X3_exchangeValue
set_option maxRecDepth 20000 in
theorem ggX4_put_X4_putNew : GoodIn wsX4_put wsX4_putNew := goodIn_r _ [126, 11, 6, 7, 8, 9, 10, 12, 127, 128, 129, 130, 131, 111, 112, 113, 51, 114, 115, 116, 117, 118, 53, 93, 58, 21, 22, 23, 24, 25, 26, 89, 90, 91, 92, 67, 73, 88, 94, 49, 50, 52, 95, 96, 97, 98, 82, 55, 56, 57, 99, 100, 101, 102, 132, 133, 134, 135, 136, 137, 138, 143, 144, 145, 146, 147, 148] (by decide +kernel) (by decide +kernel)
set_option maxRecDepth 20000 in
theorem gX4_put_X4_putNew : GoodIn wsX4_put (wsV RX4 97 RX4 yX4_putNew wsX4_putNew) := goodIn_app (goodIn_of _ (by decide +kernel)) ggX4_put_X4_putNew
theorem dX4_put_0 : decode cX4_put 0 = .ok (.iload_n 2, 1) := by decide +kernel
theorem dX4_put_1 : decode cX4_put 1 = .ok (.ifCond .ge 13, 3) := by decide +kernel
theorem dX4_put_4 : decode cX4_put 4 = .ok (.new 46, 3) := by decide +kernel
theorem dX4_put_7 : decode cX4_put 7 = .ok (.dup, 1) := by decide +kernel
theorem dX4_put_8 : decode cX4_put 8 = .ok (.ldc 62, 2) := by decide +kernel
theorem dX4_put_10 : decode cX4_put 10 = .ok (.invokespecial 50, 3) := by decide +kernel
theorem dX4_put_13 : decode cX4_put 13 = .ok (.athrow, 1) := by decide +kernel
theorem dX4_put_14 : decode cX4_put 14 = .ok (.aload_n 0, 1) := by decide +kernel
theorem dX4_put_15 : decode cX4_put 15 = .ok (.invokevirtual 64, 3) := by decide +kernel
theorem dX4_put_18 : decode cX4_put 18 = .ok (.sipush 200, 3) := by decide +kernel
theorem dX4_put_21 : decode cX4_put 21 = .ok (.if_icmp .lt 22, 3) := by decide +kernel
theorem dX4_put_24 : decode cX4_put 24 = .ok (.aload_n 0, 1) := by decide +kernel
theorem dX4_put_25 : decode cX4_put 25 = .ok (.iload_n 1, 1) := by decide +kernel
theorem dX4_put_26 : decode cX4_put 26 = .ok (.invokevirtual 68, 3) := by decide +kernel
theorem dX4_put_29 : decode cX4_put 29 = .ok (.iconst (-1), 1) := by decide +kernel
theorem dX4_put_30 : decode cX4_put 30 = .ok (.if_icmp .ne 13, 3) := by decide +kernel
theorem dX4_put_33 : decode cX4_put 33 = .ok (.new 72, 3) := by decide +kernel
theorem dX4_put_36 : decode cX4_put 36 = .ok (.dup, 1) := by decide +kernel
theorem dX4_put_37 : decode cX4_put 37 = .ok (.ldc 74, 2) := by decide +kernel
theorem dX4_put_39 : decode cX4_put 39 = .ok (.invokespecial 76, 3) := by decide +kernel
theorem dX4_put_42 : decode cX4_put 42 = .ok (.athrow, 1) := by decide +kernel
theorem dX4_put_43 : decode cX4_put 43 = .ok (.aload_n 0, 1) := by decide +kernel
theorem dX4_put_44 : decode cX4_put 44 = .ok (.invokevirtual 77, 3) := by decide +kernel
theorem dX4_put_47 : decode cX4_put 47 = .ok (.pop, 1) := by decide +kernel
theorem dX4_put_48 : decode cX4_put 48 = .ok (.aload_n 0, 1) := by decide +kernel
theorem dX4_put_49 : decode cX4_put 49 = .ok (.iload_n 1, 1) := by decide +kernel
theorem dX4_put_50 : decode cX4_put 50 = .ok (.invokevirtual 80, 3) := by decide +kernel
theorem dX4_put_53 : decode cX4_put 53 = .ok (.aload_n 0, 1) := by decide +kernel
theorem dX4_put_54 : decode cX4_put 54 = .ok (.getfield 18, 3) := by decide +kernel
theorem dX4_put_57 : decode cX4_put 57 = .ok (.invokevirtual 83, 3) := by decide +kernel
theorem dX4_put_60 : decode cX4_put 60 = .ok (.ifCond .eq 22, 3) := by decide +kernel
theorem dX4_put_63 : decode cX4_put 63 = .ok (.aload_n 0, 1) := by decide +kernel
theorem dX4_put_64 : decode cX4_put 64 = .ok (.getfield 18, 3) := by decide +kernel
theorem dX4_put_67 : decode cX4_put 67 = .ok (.getfield 87, 3) := by decide +kernel
theorem dX4_put_70 : decode cX4_put 70 = .ok (.aload_n 0, 1) := by decide +kernel
theorem dX4_put_71 : decode cX4_put 71 = .ok (.getfield 18, 3) := by decide +kernel
theorem dX4_put_74 : decode cX4_put 74 = .ok (.getfield 90, 3) := by decide +kernel
theorem dX4_put_77 : decode cX4_put 77 = .ok (.iload_n 2, 1) := by decide +kernel
theorem dX4_put_78 : decode cX4_put 78 = .ok (.invokevirtual 93, 3) := by decide +kernel
theorem dX4_put_81 : decode cX4_put 81 = .ok (.ireturn, 1) := by decide +kernel
theorem dX4_put_82 : decode cX4_put 82 = .ok (.aload_n 0, 1) := by decide +kernel
theorem dX4_put_83 : decode cX4_put 83 = .ok (.iload_n 1, 1) := by decide +kernel
theorem dX4_put_84 : decode cX4_put 84 = .ok (.iload_n 2, 1) := by decide +kernel
theorem dX4_put_85 : decode cX4_put 85 = .ok (.invokevirtual 97, 3) := by decide +kernel
theorem dX4_put_88 : decode cX4_put 88 = .ok (.iconst (-1), 1) := by decide +kernel
theorem dX4_put_89 : decode cX4_put 89 = .ok (.ireturn, 1) := by decide +kernel
set_option maxRecDepth 20000 in
theorem ggX4_get_X4_lookUp : GoodIn wsX4_get wsX4_lookUp := goodIn_r _ [6, 1, 7, 8, 9, 10, 11, 5, 12, 13, 14, 15, 16, 17, 18, 19, 20, 21, 22, 23, 24, 25, 26, 27, 28, 29, 30, 31, 32, 33, 34, 35, 36, 37, 38, 39, 40, 41, 42, 43, 44, 45, 46, 47, 48, 49, 50, 51, 52, 53, 54, 55, 56, 62, 63, 64, 65, 66, 67, 68, 69, 70, 71, 72, 73, 74, 75, 76, 77, 78] (by decide +kernel) (by decide +kernel)
set_option maxRecDepth 20000 in
theorem gX4_get_X4_lookUp : GoodIn wsX4_get (wsV RX4 80 RX4 yX4_lookUp wsX4_lookUp) := goodIn_app (goodIn_of _ (by decide +kernel)) ggX4_get_X4_lookUp
set_option maxRecDepth 20000 in
theorem ggX4_get_X1_hasFound : GoodIn wsX4_get wsX1_hasFound := goodIn_r _ [35, 20, 69, 70, 71, 72] (by decide +kernel) (by decide +kernel)
set_option maxRecDepth 20000 in
theorem gX4_get_X1_hasFound : GoodIn wsX4_get (wsV RX4 83 RX1 yX1_hasFound wsX1_hasFound) := goodIn_app (goodIn_of _ (by decide +kernel)) ggX4_get_X1_hasFound
set_option maxRecDepth 20000 in
theorem ggX4_get_X3_valueIn : GoodIn wsX4_get wsX3_valueIn := goodIn_r _ [60, 61, 73, 74, 75, 76, 77, 78] (by decide +kernel) (by decide +kernel)
set_option maxRecDepth 20000 in
theorem gX4_get_X3_valueIn : GoodIn wsX4_get (wsV RX4 101 RX3 yX3_valueIn wsX3_valueIn) := goodIn_app (goodIn_of _ (by decide +kernel)) ggX4_get_X3_valueIn
theorem dX4_get_0 : decode cX4_get 0 = .ok (.aload_n 0, 1) := by decide +kernel
theorem dX4_get_1 : decode cX4_get 1 = .ok (.iload_n 1, 1) := by decide +kernel
theorem dX4_get_2 : decode cX4_get 2 = .ok (.invokevirtual 80, 3) := by decide +kernel
theorem dX4_get_5 : decode cX4_get 5 = .ok (.aload_n 0, 1) := by decide +kernel
theorem dX4_get_6 : decode cX4_get 6 = .ok (.getfield 18, 3) := by decide +kernel
theorem dX4_get_9 : decode cX4_get 9 = .ok (.invokevirtual 83, 3) := by decide +kernel
theorem dX4_get_12 : decode cX4_get 12 = .ok (.ifCond .eq 23, 3) := by decide +kernel
theorem dX4_get_15 : decode cX4_get 15 = .ok (.aload_n 0, 1) := by decide +kernel
theorem dX4_get_16 : decode cX4_get 16 = .ok (.getfield 18, 3) := by decide +kernel
theorem dX4_get_19 : decode cX4_get 19 = .ok (.getfield 87, 3) := by decide +kernel
theorem dX4_get_22 : decode cX4_get 22 = .ok (.aload_n 0, 1) := by decide +kernel
theorem dX4_get_23 : decode cX4_get 23 = .ok (.getfield 18, 3) := by decide +kernel
theorem dX4_get_26 : decode cX4_get 26 = .ok (.getfield 90, 3) := by decide +kernel
theorem dX4_get_29 : decode cX4_get 29 = .ok (.invokevirtual 101, 3) := by decide +kernel
theorem dX4_get_32 : decode cX4_get 32 = .ok (.goto 4, 3) := by decide +kernel
theorem dX4_get_35 : decode cX4_get 35 = .ok (.iconst (-1), 1) := by decide +kernel
theorem dX4_get_36 : decode cX4_get 36 = .ok (.ireturn, 1) := by decide +kernel
set_option maxRecDepth 20000 in
theorem ggX4_remove_X4_moveSlice : GoodIn wsX4_remove wsX4_moveSlice := goodIn_r _ [6, 7, 8, 9, 10, 11, 12, 13, 14, 15, 16, 17, 18, 19, 20, 21, 22, 23, 24, 25, 26, 27, 28, 29, 30, 31, 32, 33, 34, 35, 36, 37, 38, 39, 40, 41, 42, 43, 44, 45, 46, 47, 48, 49, 50, 51, 52, 53, 54, 55, 56, 57, 58, 5, 59, 60, 61, 62, 63, 64, 65, 66, 67, 107, 108, 109, 110, 111, 112, 113, 118, 119, 120, 121, 122, 123] (by decide +kernel) (by decide +kernel)
set_option maxRecDepth 20000 in
theorem gX4_remove_X4_moveSlice : GoodIn wsX4_remove (wsV RX4 77 RX4 yX4_moveSlice wsX4_moveSlice) := goodIn_app (goodIn_of _ (by decide +kernel)) ggX4_remove_X4_moveSlice
set_option maxRecDepth 20000 in
theorem ggX4_remove_X4_lookUp : GoodIn wsX4_remove wsX4_lookUp := goodIn_r _ [71, 1, 8, 7, 72, 73, 74, 5, 75, 76, 77, 78, 79, 80, 81, 82, 83, 84, 85, 86, 87, 88, 89, 90, 91, 92, 93, 94, 95, 96, 97, 98, 99, 41, 42, 12, 43, 14, 100, 16, 17, 18, 19, 101, 102, 103, 104, 105, 21, 22, 23, 24, 106, 107, 108, 109, 110, 111, 112, 113, 114, 115, 116, 117, 118, 119, 120, 121, 122, 123] (by decide +kernel) (by decide +kernel)
set_option maxRecDepth 20000 in
theorem gX4_remove_X4_lookUp : GoodIn wsX4_remove (wsV RX4 80 RX4 yX4_lookUp wsX4_lookUp) := goodIn_app (goodIn_of _ (by decide +kernel)) ggX4_remove_X4_lookUp
set_option maxRecDepth 20000 in
theorem ggX4_remove_X1_hasFound : GoodIn wsX4_remove wsX1_hasFound := goodIn_r _ [98, 83, 114, 115, 116, 117] (by decide +kernel) (by decide +kernel)
set_option maxRecDepth 20000 in
theorem gX4_remove_X1_hasFound : GoodIn wsX4_remove (wsV RX4 83 RX1 yX1_hasFound wsX1_hasFound) := goodIn_app (goodIn_of _ (by decide +kernel)) ggX4_remove_X1_hasFound
set_option maxRecDepth 20000 in
theorem ggX4_remove_X3_valueIn : GoodIn wsX4_remove wsX3_valueIn := goodIn_r _ [28, 29, 118, 119, 120, 121, 122, 123] (by decide +kernel) (by decide +kernel)
set_option maxRecDepth 20000 in
theorem gX4_remove_X3_valueIn : GoodIn wsX4_remove (wsV RX4 101 RX3 yX3_valueIn wsX3_valueIn) := goodIn_app (goodIn_of _ (by decide +kernel)) ggX4_remove_X3_valueIn
set_option maxRecDepth 20000 in
theorem ggX4_remove_X3_takeOut : GoodIn wsX4_remove wsX3_takeOut := goodIn_r _ [55, 14, 24, 29, 34, 19, 39, 40, 41, 42, 12, 43, 44, 45, 46, 47, 15, 16, 17, 18, 48, 49, 50, 51, 118, 119, 120, 121, 122, 123] (by decide +kernel) (by decide +kernel)
set_option maxRecDepth 20000 in
theorem gX4_remove_X3_takeOut : GoodIn wsX4_remove (wsV RX4 104 RX3 yX3_takeOut wsX3_takeOut) := goodIn_app (goodIn_of _ (by decide +kernel)) ggX4_remove_X3_takeOut
set_option maxRecDepth 20000 in
theorem ggX4_remove_X4_endMoveIfOldIsEmpty : GoodIn wsX4_remove wsX4_endMoveIfOldIsEmpty := goodIn_r _ [59, 7, 60, 61, 62, 12, 63, 64, 65, 66, 67, 14, 39, 19, 107, 108, 109, 110, 111, 112, 113, 118, 119, 120, 121, 122, 123] (by decide +kernel) (by decide +kernel)
set_option maxRecDepth 20000 in
theorem gX4_remove_X4_endMoveIfOldIsEmpty : GoodIn wsX4_remove (wsV RX4 107 RX4 yX4_endMoveIfOldIsEmpty wsX4_endMoveIfOldIsEmpty) := goodIn_app (goodIn_of _ (by decide +kernel)) ggX4_remove_X4_endMoveIfOldIsEmpty
theorem dX4_remove_0 : decode cX4_remove 0 = .ok (.aload_n 0, 1) := by decide +kernel
theorem dX4_remove_1 : decode cX4_remove 1 = .ok (.invokevirtual 77, 3) := by decide +kernel
theorem dX4_remove_4 : decode cX4_remove 4 = .ok (.pop, 1) := by decide +kernel
theorem dX4_remove_5 : decode cX4_remove 5 = .ok (.aload_n 0, 1) := by decide +kernel
theorem dX4_remove_6 : decode cX4_remove 6 = .ok (.iload_n 1, 1) := by decide +kernel
theorem dX4_remove_7 : decode cX4_remove 7 = .ok (.invokevirtual 80, 3) := by decide +kernel
theorem dX4_remove_10 : decode cX4_remove 10 = .ok (.aload_n 0, 1) := by decide +kernel
theorem dX4_remove_11 : decode cX4_remove 11 = .ok (.getfield 18, 3) := by decide +kernel
theorem dX4_remove_14 : decode cX4_remove 14 = .ok (.invokevirtual 83, 3) := by decide +kernel
theorem dX4_remove_17 : decode cX4_remove 17 = .ok (.ifCond .ne 5, 3) := by decide +kernel
theorem dX4_remove_20 : decode cX4_remove 20 = .ok (.iconst (-1), 1) := by decide +kernel
theorem dX4_remove_21 : decode cX4_remove 21 = .ok (.ireturn, 1) := by decide +kernel
theorem dX4_remove_22 : decode cX4_remove 22 = .ok (.aload_n 0, 1) := by decide +kernel
theorem dX4_remove_23 : decode cX4_remove 23 = .ok (.getfield 18, 3) := by decide +kernel
theorem dX4_remove_26 : decode cX4_remove 26 = .ok (.getfield 87, 3) := by decide +kernel
theorem dX4_remove_29 : decode cX4_remove 29 = .ok (.aload_n 0, 1) := by decide +kernel
theorem dX4_remove_30 : decode cX4_remove 30 = .ok (.getfield 18, 3) := by decide +kernel
theorem dX4_remove_33 : decode cX4_remove 33 = .ok (.getfield 90, 3) := by decide +kernel
theorem dX4_remove_36 : decode cX4_remove 36 = .ok (.invokevirtual 101, 3) := by decide +kernel
theorem dX4_remove_39 : decode cX4_remove 39 = .ok (.istore_n 2, 1) := by decide +kernel
theorem dX4_remove_40 : decode cX4_remove 40 = .ok (.aload_n 0, 1) := by decide +kernel
theorem dX4_remove_41 : decode cX4_remove 41 = .ok (.getfield 18, 3) := by decide +kernel
theorem dX4_remove_44 : decode cX4_remove 44 = .ok (.getfield 87, 3) := by decide +kernel
theorem dX4_remove_47 : decode cX4_remove 47 = .ok (.aload_n 0, 1) := by decide +kernel
theorem dX4_remove_48 : decode cX4_remove 48 = .ok (.getfield 18, 3) := by decide +kernel
theorem dX4_remove_51 : decode cX4_remove 51 = .ok (.getfield 90, 3) := by decide +kernel
theorem dX4_remove_54 : decode cX4_remove 54 = .ok (.invokevirtual 104, 3) := by decide +kernel
theorem dX4_remove_57 : decode cX4_remove 57 = .ok (.aload_n 0, 1) := by decide +kernel
theorem dX4_remove_58 : decode cX4_remove 58 = .ok (.invokevirtual 107, 3) := by decide +kernel
theorem dX4_remove_61 : decode cX4_remove 61 = .ok (.iload_n 2, 1) := by decide +kernel
theorem dX4_remove_62 : decode cX4_remove 62 = .ok (.ireturn, 1) := by decide +kernel
set_option maxRecDepth 20000 in
theorem ggX4_move_X4_moveSlice : GoodIn wsX4_move wsX4_moveSlice := goodIn_r _ [5, 6, 7, 8, 9, 10, 11, 12, 13, 14, 15, 16, 17, 18, 19, 20, 21, 22, 23, 24, 25, 26, 27, 28, 29, 30, 31, 32, 33, 34, 35, 36, 37, 38, 39, 40, 41, 42, 43, 44, 45, 46, 47, 48, 49, 50, 51, 52, 53, 54, 55, 56, 57, 4, 58, 59, 60, 61, 62, 63, 64, 65, 66, 67, 68, 69, 70, 71, 72, 73, 74, 75, 76, 77, 78, 79] (by decide +kernel) (by decide +kernel)
set_option maxRecDepth 20000 in
theorem gX4_move_X4_moveSlice : GoodIn wsX4_move (wsV RX4 77 RX4 yX4_moveSlice wsX4_moveSlice) := goodIn_app (goodIn_of _ (by decide +kernel)) ggX4_move_X4_moveSlice
theorem dX4_move_0 : decode cX4_move 0 = .ok (.aload_n 0, 1) := by decide +kernel
theorem dX4_move_1 : decode cX4_move 1 = .ok (.invokevirtual 77, 3) := by decide +kernel
theorem dX4_move_4 : decode cX4_move 4 = .ok (.ireturn, 1) := by decide +kernel
theorem dX4_size_0 : decode cX4_size 0 = .ok (.aload_n 0, 1) := by decide +kernel
theorem dX4_size_1 : decode cX4_size 1 = .ok (.getfield 34, 3) := by decide +kernel
theorem dX4_size_4 : decode cX4_size 4 = .ok (.getfield 110, 3) := by decide +kernel
theorem dX4_size_7 : decode cX4_size 7 = .ok (.aload_n 0, 1) := by decide +kernel
theorem dX4_size_8 : decode cX4_size 8 = .ok (.getfield 38, 3) := by decide +kernel
theorem dX4_size_11 : decode cX4_size 11 = .ok (.getfield 110, 3) := by decide +kernel
theorem dX4_size_14 : decode cX4_size 14 = .ok (.iadd, 1) := by decide +kernel
theorem dX4_size_15 : decode cX4_size 15 = .ok (.ireturn, 1) := by decide +kernel
theorem dX4_moves_0 : decode cX4_moves 0 = .ok (.aload_n 0, 1) := by decide +kernel
theorem dX4_moves_1 : decode cX4_moves 1 = .ok (.getfield 56, 3) := by decide +kernel
theorem dX4_moves_4 : decode cX4_moves 4 = .ok (.ireturn, 1) := by decide +kernel
set_option maxRecDepth 20000 in
theorem ggX4_openSweep_X2_begin : GoodIn wsX4_openSweep wsX2_begin := goodIn_r _ [8, 9, 10, 11, 12, 13, 21, 22, 23, 24, 25] (by decide +kernel) (by decide +kernel)
set_option maxRecDepth 20000 in
theorem gX4_openSweep_X2_begin : GoodIn wsX4_openSweep (wsV RX4 117 RX2 yX2_begin wsX2_begin) := goodIn_app (goodIn_of _ (by decide +kernel)) ggX4_openSweep_X2_begin
theorem dX4_openSweep_0 : decode cX4_openSweep 0 = .ok (.iconst 0, 1) := by decide +kernel
theorem dX4_openSweep_1 : decode cX4_openSweep 1 = .ok (.istore_n 1, 1) := by decide +kernel
theorem dX4_openSweep_2 : decode cX4_openSweep 2 = .ok (.iload_n 1, 1) := by decide +kernel
theorem dX4_openSweep_3 : decode cX4_openSweep 3 = .ok (.iconst 4, 1) := by decide +kernel
theorem dX4_openSweep_4 : decode cX4_openSweep 4 = .ok (.if_icmp .ge 32, 3) := by decide +kernel
theorem dX4_openSweep_7 : decode cX4_openSweep 7 = .ok (.aload_n 0, 1) := by decide +kernel
theorem dX4_openSweep_8 : decode cX4_openSweep 8 = .ok (.getfield 11, 3) := by decide +kernel
theorem dX4_openSweep_11 : decode cX4_openSweep 11 = .ok (.iload_n 1, 1) := by decide +kernel
theorem dX4_openSweep_12 : decode cX4_openSweep 12 = .ok (.aaload, 1) := by decide +kernel
theorem dX4_openSweep_13 : decode cX4_openSweep 13 = .ok (.getfield 113, 3) := by decide +kernel
theorem dX4_openSweep_16 : decode cX4_openSweep 16 = .ok (.ifCond .ne 14, 3) := by decide +kernel
theorem dX4_openSweep_19 : decode cX4_openSweep 19 = .ok (.aload_n 0, 1) := by decide +kernel
theorem dX4_openSweep_20 : decode cX4_openSweep 20 = .ok (.getfield 11, 3) := by decide +kernel
theorem dX4_openSweep_23 : decode cX4_openSweep 23 = .ok (.iload_n 1, 1) := by decide +kernel
theorem dX4_openSweep_24 : decode cX4_openSweep 24 = .ok (.aaload, 1) := by decide +kernel
theorem dX4_openSweep_25 : decode cX4_openSweep 25 = .ok (.invokevirtual 117, 3) := by decide +kernel
theorem dX4_openSweep_28 : decode cX4_openSweep 28 = .ok (.iload_n 1, 1) := by decide +kernel
theorem dX4_openSweep_29 : decode cX4_openSweep 29 = .ok (.ireturn, 1) := by decide +kernel
theorem dX4_openSweep_30 : decode cX4_openSweep 30 = .ok (.iinc 1 1, 3) := by decide +kernel
theorem dX4_openSweep_33 : decode cX4_openSweep 33 = .ok (.goto (-31), 3) := by decide +kernel
theorem dX4_openSweep_36 : decode cX4_openSweep 36 = .ok (.new 72, 3) := by decide +kernel
theorem dX4_openSweep_39 : decode cX4_openSweep 39 = .ok (.dup, 1) := by decide +kernel
theorem dX4_openSweep_40 : decode cX4_openSweep 40 = .ok (.ldc 120, 2) := by decide +kernel
theorem dX4_openSweep_42 : decode cX4_openSweep 42 = .ok (.invokespecial 76, 3) := by decide +kernel
theorem dX4_openSweep_45 : decode cX4_openSweep 45 = .ok (.athrow, 1) := by decide +kernel
set_option maxRecDepth 20000 in
theorem ggX4_hasNext_X4_sweepOf : GoodIn wsX4_hasNext wsX4_sweepOf := goodIn_ca (goodIn_r _ [6, 7, 8, 9, 65, 66, 67, 68, 69, 70, 71, 60, 61, 62, 63, 64] (by decide +kernel) (by decide +kernel)) (goodIn_sub (fun _ h => List.mem_cons_of_mem _ (List.mem_append_right _ h)) (by decide +kernel))
set_option maxRecDepth 20000 in
theorem gX4_hasNext_X4_sweepOf : GoodIn wsX4_hasNext (wsV RX4 122 RX4 yX4_sweepOf wsX4_sweepOf) := goodIn_app (goodIn_of _ (by decide +kernel)) ggX4_hasNext_X4_sweepOf
set_option maxRecDepth 20000 in
theorem ggX4_hasNext_X4_seekBehind : GoodIn wsX4_hasNext wsX4_seekBehind := goodIn_r _ [13, 1, 14, 15, 16, 17, 18, 19, 20, 21, 22, 23, 24, 25, 26, 27, 28, 29, 30, 31, 32, 33, 34, 35, 36, 37, 38, 39, 40, 41, 42, 43, 44, 45, 46, 47, 48, 49, 50, 51, 52, 53, 54, 55, 56, 57, 58, 65, 66, 67, 68, 69, 70, 71, 72, 73, 74, 75, 76, 77, 78, 79, 80, 81] (by decide +kernel) (by decide +kernel)
set_option maxRecDepth 20000 in
theorem gX4_hasNext_X4_seekBehind : GoodIn wsX4_hasNext (wsV RX4 130 RX4 yX4_seekBehind wsX4_seekBehind) := goodIn_app (goodIn_of _ (by decide +kernel)) ggX4_hasNext_X4_seekBehind
set_option maxRecDepth 20000 in
theorem ggX4_hasNext_X1_hasFound : GoodIn wsX4_hasNext wsX1_hasFound := goodIn_r _ [58, 21, 72, 73, 74, 75] (by decide +kernel) (by decide +kernel)
set_option maxRecDepth 20000 in
theorem gX4_hasNext_X1_hasFound : GoodIn wsX4_hasNext (wsV RX4 83 RX1 yX1_hasFound wsX1_hasFound) := goodIn_app (goodIn_of _ (by decide +kernel)) ggX4_hasNext_X1_hasFound
theorem dX4_hasNext_0 : decode cX4_hasNext 0 = .ok (.aload_n 0, 1) := by decide +kernel
theorem dX4_hasNext_1 : decode cX4_hasNext 1 = .ok (.aload_n 0, 1) := by decide +kernel
theorem dX4_hasNext_2 : decode cX4_hasNext 2 = .ok (.iload_n 1, 1) := by decide +kernel
theorem dX4_hasNext_3 : decode cX4_hasNext 3 = .ok (.invokevirtual 122, 3) := by decide +kernel
theorem dX4_hasNext_6 : decode cX4_hasNext 6 = .ok (.getfield 126, 3) := by decide +kernel
theorem dX4_hasNext_9 : decode cX4_hasNext 9 = .ok (.invokevirtual 130, 3) := by decide +kernel
theorem dX4_hasNext_12 : decode cX4_hasNext 12 = .ok (.aload_n 0, 1) := by decide +kernel
theorem dX4_hasNext_13 : decode cX4_hasNext 13 = .ok (.getfield 18, 3) := by decide +kernel
theorem dX4_hasNext_16 : decode cX4_hasNext 16 = .ok (.invokevirtual 83, 3) := by decide +kernel
theorem dX4_hasNext_19 : decode cX4_hasNext 19 = .ok (.ireturn, 1) := by decide +kernel
set_option maxRecDepth 20000 in
theorem ggX4_next_X4_sweepOf : GoodIn wsX4_next wsX4_sweepOf := goodIn_ca (goodIn_r _ [8, 9, 10, 11, 82, 83, 84, 85, 86, 87, 88, 77, 78, 79, 80, 81] (by decide +kernel) (by decide +kernel)) (goodIn_sub (fun _ h => List.mem_cons_of_mem _ (List.mem_append_right _ h)) (by decide +kernel))
set_option maxRecDepth 20000 in
theorem gX4_next_X4_sweepOf : GoodIn wsX4_next (wsV RX4 122 RX4 yX4_sweepOf wsX4_sweepOf) := goodIn_app (goodIn_of _ (by decide +kernel)) ggX4_next_X4_sweepOf
set_option maxRecDepth 20000 in
theorem ggX4_next_X4_seekBehind : GoodIn wsX4_next wsX4_seekBehind := goodIn_r _ [15, 3, 16, 17, 18, 19, 20, 21, 22, 23, 24, 25, 26, 27, 28, 29, 30, 31, 32, 33, 34, 35, 36, 37, 38, 39, 40, 41, 42, 43, 44, 45, 46, 47, 48, 49, 50, 51, 52, 53, 54, 55, 56, 57, 58, 59, 60, 82, 83, 84, 85, 86, 87, 88, 89, 90, 91, 92, 93, 94, 95, 96, 97, 98] (by decide +kernel) (by decide +kernel)
set_option maxRecDepth 20000 in
theorem gX4_next_X4_seekBehind : GoodIn wsX4_next (wsV RX4 130 RX4 yX4_seekBehind wsX4_seekBehind) := goodIn_app (goodIn_of _ (by decide +kernel)) ggX4_next_X4_seekBehind
set_option maxRecDepth 20000 in
theorem ggX4_next_X1_hasFound : GoodIn wsX4_next wsX1_hasFound := goodIn_r _ [60, 23, 89, 90, 91, 92] (by decide +kernel) (by decide +kernel)
set_option maxRecDepth 20000 in
theorem gX4_next_X1_hasFound : GoodIn wsX4_next (wsV RX4 83 RX1 yX1_hasFound wsX1_hasFound) := goodIn_app (goodIn_of _ (by decide +kernel)) ggX4_next_X1_hasFound
set_option maxRecDepth 20000 in
theorem ggX4_next_X3_keyIn : GoodIn wsX4_next wsX3_keyIn := goodIn_r _ [65, 66, 93, 94, 95, 96, 97, 98] (by decide +kernel) (by decide +kernel)
set_option maxRecDepth 20000 in
theorem gX4_next_X3_keyIn : GoodIn wsX4_next (wsV RX4 136 RX3 yX3_keyIn wsX3_keyIn) := goodIn_app (goodIn_of _ (by decide +kernel)) ggX4_next_X3_keyIn
set_option maxRecDepth 20000 in
theorem ggX4_next_X3_rankIn : GoodIn wsX4_next wsX3_rankIn := goodIn_r _ [40, 41, 42, 43, 44, 45, 46, 47, 48, 49, 50, 51, 52, 53, 54, 55, 56, 93, 94, 95, 96, 97, 98] (by decide +kernel) (by decide +kernel)
set_option maxRecDepth 20000 in
theorem gX4_next_X3_rankIn : GoodIn wsX4_next (wsV RX4 139 RX3 yX3_rankIn wsX3_rankIn) := goodIn_app (goodIn_of _ (by decide +kernel)) ggX4_next_X3_rankIn
set_option maxRecDepth 20000 in
theorem ggX4_next_X2_meet : GoodIn wsX4_next wsX2_meet := goodIn_r _ [72, 73, 74, 75, 76, 77, 78, 79, 80, 81] (by decide +kernel) (by decide +kernel)
set_option maxRecDepth 20000 in
theorem gX4_next_X2_meet : GoodIn wsX4_next (wsV RX4 143 RX2 yX2_meet wsX2_meet) := goodIn_app (goodIn_of _ (by decide +kernel)) ggX4_next_X2_meet
theorem dX4_next_0 : decode cX4_next 0 = .ok (.aload_n 0, 1) := by decide +kernel
theorem dX4_next_1 : decode cX4_next 1 = .ok (.iload_n 1, 1) := by decide +kernel
theorem dX4_next_2 : decode cX4_next 2 = .ok (.invokevirtual 122, 3) := by decide +kernel
theorem dX4_next_5 : decode cX4_next 5 = .ok (.astore_n 2, 1) := by decide +kernel
theorem dX4_next_6 : decode cX4_next 6 = .ok (.aload_n 0, 1) := by decide +kernel
theorem dX4_next_7 : decode cX4_next 7 = .ok (.aload_n 2, 1) := by decide +kernel
theorem dX4_next_8 : decode cX4_next 8 = .ok (.getfield 126, 3) := by decide +kernel
theorem dX4_next_11 : decode cX4_next 11 = .ok (.invokevirtual 130, 3) := by decide +kernel
theorem dX4_next_14 : decode cX4_next 14 = .ok (.aload_n 0, 1) := by decide +kernel
theorem dX4_next_15 : decode cX4_next 15 = .ok (.getfield 18, 3) := by decide +kernel
theorem dX4_next_18 : decode cX4_next 18 = .ok (.invokevirtual 83, 3) := by decide +kernel
theorem dX4_next_21 : decode cX4_next 21 = .ok (.ifCond .ne 13, 3) := by decide +kernel
theorem dX4_next_24 : decode cX4_next 24 = .ok (.new 72, 3) := by decide +kernel
theorem dX4_next_27 : decode cX4_next 27 = .ok (.dup, 1) := by decide +kernel
theorem dX4_next_28 : decode cX4_next 28 = .ok (.ldc 134, 2) := by decide +kernel
theorem dX4_next_30 : decode cX4_next 30 = .ok (.invokespecial 76, 3) := by decide +kernel
theorem dX4_next_33 : decode cX4_next 33 = .ok (.athrow, 1) := by decide +kernel
theorem dX4_next_34 : decode cX4_next 34 = .ok (.aload_n 0, 1) := by decide +kernel
theorem dX4_next_35 : decode cX4_next 35 = .ok (.getfield 18, 3) := by decide +kernel
theorem dX4_next_38 : decode cX4_next 38 = .ok (.getfield 87, 3) := by decide +kernel
theorem dX4_next_41 : decode cX4_next 41 = .ok (.aload_n 0, 1) := by decide +kernel
theorem dX4_next_42 : decode cX4_next 42 = .ok (.getfield 18, 3) := by decide +kernel
theorem dX4_next_45 : decode cX4_next 45 = .ok (.getfield 90, 3) := by decide +kernel
theorem dX4_next_48 : decode cX4_next 48 = .ok (.invokevirtual 136, 3) := by decide +kernel
theorem dX4_next_51 : decode cX4_next 51 = .ok (.istore_n 3, 1) := by decide +kernel
theorem dX4_next_52 : decode cX4_next 52 = .ok (.aload_n 2, 1) := by decide +kernel
theorem dX4_next_53 : decode cX4_next 53 = .ok (.iload_n 3, 1) := by decide +kernel
theorem dX4_next_54 : decode cX4_next 54 = .ok (.aload_n 0, 1) := by decide +kernel
theorem dX4_next_55 : decode cX4_next 55 = .ok (.getfield 18, 3) := by decide +kernel
theorem dX4_next_58 : decode cX4_next 58 = .ok (.getfield 87, 3) := by decide +kernel
theorem dX4_next_61 : decode cX4_next 61 = .ok (.aload_n 0, 1) := by decide +kernel
theorem dX4_next_62 : decode cX4_next 62 = .ok (.getfield 18, 3) := by decide +kernel
theorem dX4_next_65 : decode cX4_next 65 = .ok (.getfield 90, 3) := by decide +kernel
theorem dX4_next_68 : decode cX4_next 68 = .ok (.invokevirtual 139, 3) := by decide +kernel
theorem dX4_next_71 : decode cX4_next 71 = .ok (.invokevirtual 143, 3) := by decide +kernel
theorem dX4_next_74 : decode cX4_next 74 = .ok (.iload_n 3, 1) := by decide +kernel
theorem dX4_next_75 : decode cX4_next 75 = .ok (.ireturn, 1) := by decide +kernel
set_option maxRecDepth 20000 in
theorem ggX4_removeMet_X4_sweepOf : GoodIn wsX4_removeMet wsX4_sweepOf := goodIn_ca (goodIn_r _ [8, 9, 10, 11, 125, 126, 127, 128, 129, 130, 131, 120, 121, 122, 123, 124] (by decide +kernel) (by decide +kernel)) (goodIn_sub (fun _ h => List.mem_cons_of_mem _ (List.mem_append_right _ h)) (by decide +kernel))
set_option maxRecDepth 20000 in
theorem gX4_removeMet_X4_sweepOf : GoodIn wsX4_removeMet (wsV RX4 122 RX4 yX4_sweepOf wsX4_sweepOf) := goodIn_app (goodIn_of _ (by decide +kernel)) ggX4_removeMet_X4_sweepOf
set_option maxRecDepth 20000 in
theorem ggX4_removeMet_X4_lookUp : GoodIn wsX4_removeMet wsX4_lookUp := goodIn_r _ [15, 3, 16, 17, 18, 19, 20, 7, 21, 22, 23, 24, 25, 26, 27, 28, 29, 30, 31, 32, 33, 34, 35, 36, 37, 38, 39, 40, 41, 42, 43, 44, 45, 46, 47, 48, 49, 50, 51, 52, 53, 54, 55, 56, 57, 58, 59, 60, 61, 62, 63, 64, 65, 125, 126, 127, 128, 129, 130, 131, 132, 133, 134, 135, 136, 137, 138, 139, 140, 141] (by decide +kernel) (by decide +kernel)
set_option maxRecDepth 20000 in
theorem gX4_removeMet_X4_lookUp : GoodIn wsX4_removeMet (wsV RX4 80 RX4 yX4_lookUp wsX4_lookUp) := goodIn_app (goodIn_of _ (by decide +kernel)) ggX4_removeMet_X4_lookUp
set_option maxRecDepth 20000 in
theorem ggX4_removeMet_X1_hasFound : GoodIn wsX4_removeMet wsX1_hasFound := goodIn_r _ [44, 29, 132, 133, 134, 135] (by decide +kernel) (by decide +kernel)
set_option maxRecDepth 20000 in
theorem gX4_removeMet_X1_hasFound : GoodIn wsX4_removeMet (wsV RX4 83 RX1 yX1_hasFound wsX1_hasFound) := goodIn_app (goodIn_of _ (by decide +kernel)) ggX4_removeMet_X1_hasFound
set_option maxRecDepth 20000 in
theorem ggX4_removeMet_X4_remove : GoodIn wsX4_removeMet wsX4_remove := goodIn_r _ [69, 3, 70, 71, 72, 7, 73, 17, 16, 74, 75, 76, 48, 77, 50, 78, 52, 53, 54, 55, 79, 61, 62, 63, 64, 80, 81, 82, 83, 84, 85, 86, 87, 88, 89, 90, 91, 92, 93, 94, 95, 46, 47, 49, 96, 97, 98, 99, 100, 101, 102, 103, 104, 105, 106, 107, 108, 109, 110, 111, 112, 113, 114, 115, 116, 117, 118, 119, 12, 13, 14, 15, 18, 19, 20, 21, 22, 23, 24, 25, 26, 27, 28, 29, 30, 31, 32, 33, 34, 35, 36, 37, 38, 39, 40, 41, 42, 43, 44, 45, 51, 56, 57, 58, 59, 60, 65, 125, 126, 127, 128, 129, 130, 131, 132, 133, 134, 135, 136, 137, 138, 139, 140, 141] (by decide +kernel) (by decide +kernel)
set_option maxRecDepth 20000 in
theorem gX4_removeMet_X4_remove : GoodIn wsX4_removeMet (wsV RX4 157 RX4 yX4_remove wsX4_remove) := goodIn_app (goodIn_of _ (by decide +kernel)) ggX4_removeMet_X4_remove
theorem dX4_removeMet_0 : decode cX4_removeMet 0 = .ok (.aload_n 0, 1) := by decide +kernel
theorem dX4_removeMet_1 : decode cX4_removeMet 1 = .ok (.iload_n 1, 1) := by decide +kernel
theorem dX4_removeMet_2 : decode cX4_removeMet 2 = .ok (.invokevirtual 122, 3) := by decide +kernel
theorem dX4_removeMet_5 : decode cX4_removeMet 5 = .ok (.astore_n 2, 1) := by decide +kernel
theorem dX4_removeMet_6 : decode cX4_removeMet 6 = .ok (.aload_n 2, 1) := by decide +kernel
theorem dX4_removeMet_7 : decode cX4_removeMet 7 = .ok (.getfield 147, 3) := by decide +kernel
theorem dX4_removeMet_10 : decode cX4_removeMet 10 = .ok (.ifCond .ne 13, 3) := by decide +kernel
theorem dX4_removeMet_13 : decode cX4_removeMet 13 = .ok (.new 72, 3) := by decide +kernel
theorem dX4_removeMet_16 : decode cX4_removeMet 16 = .ok (.dup, 1) := by decide +kernel
theorem dX4_removeMet_17 : decode cX4_removeMet 17 = .ok (.ldc 150, 2) := by decide +kernel
theorem dX4_removeMet_19 : decode cX4_removeMet 19 = .ok (.invokespecial 76, 3) := by decide +kernel
theorem dX4_removeMet_22 : decode cX4_removeMet 22 = .ok (.athrow, 1) := by decide +kernel
theorem dX4_removeMet_23 : decode cX4_removeMet 23 = .ok (.aload_n 0, 1) := by decide +kernel
theorem dX4_removeMet_24 : decode cX4_removeMet 24 = .ok (.aload_n 2, 1) := by decide +kernel
theorem dX4_removeMet_25 : decode cX4_removeMet 25 = .ok (.getfield 152, 3) := by decide +kernel
theorem dX4_removeMet_28 : decode cX4_removeMet 28 = .ok (.invokevirtual 80, 3) := by decide +kernel
theorem dX4_removeMet_31 : decode cX4_removeMet 31 = .ok (.aload_n 0, 1) := by decide +kernel
theorem dX4_removeMet_32 : decode cX4_removeMet 32 = .ok (.getfield 18, 3) := by decide +kernel
theorem dX4_removeMet_35 : decode cX4_removeMet 35 = .ok (.invokevirtual 83, 3) := by decide +kernel
theorem dX4_removeMet_38 : decode cX4_removeMet 38 = .ok (.ifCond .ne 13, 3) := by decide +kernel
theorem dX4_removeMet_41 : decode cX4_removeMet 41 = .ok (.new 72, 3) := by decide +kernel
theorem dX4_removeMet_44 : decode cX4_removeMet 44 = .ok (.dup, 1) := by decide +kernel
theorem dX4_removeMet_45 : decode cX4_removeMet 45 = .ok (.ldc 155, 2) := by decide +kernel
theorem dX4_removeMet_47 : decode cX4_removeMet 47 = .ok (.invokespecial 76, 3) := by decide +kernel
theorem dX4_removeMet_50 : decode cX4_removeMet 50 = .ok (.athrow, 1) := by decide +kernel
theorem dX4_removeMet_51 : decode cX4_removeMet 51 = .ok (.aload_n 2, 1) := by decide +kernel
theorem dX4_removeMet_52 : decode cX4_removeMet 52 = .ok (.iconst 0, 1) := by decide +kernel
theorem dX4_removeMet_53 : decode cX4_removeMet 53 = .ok (.putfield 147, 3) := by decide +kernel
theorem dX4_removeMet_56 : decode cX4_removeMet 56 = .ok (.aload_n 0, 1) := by decide +kernel
theorem dX4_removeMet_57 : decode cX4_removeMet 57 = .ok (.aload_n 2, 1) := by decide +kernel
theorem dX4_removeMet_58 : decode cX4_removeMet 58 = .ok (.getfield 152, 3) := by decide +kernel
theorem dX4_removeMet_61 : decode cX4_removeMet 61 = .ok (.invokevirtual 157, 3) := by decide +kernel
theorem dX4_removeMet_64 : decode cX4_removeMet 64 = .ok (.ireturn, 1) := by decide +kernel
set_option maxRecDepth 20000 in
theorem ggX4_closeSweep_X4_sweepOf : GoodIn wsX4_closeSweep wsX4_sweepOf := goodIn_ca (goodIn_r _ [5, 6, 7, 8, 20, 21, 22, 23, 24, 25, 26, 15, 16, 17, 18, 19] (by decide +kernel) (by decide +kernel)) (goodIn_sub (fun _ h => List.mem_cons_of_mem _ (List.mem_append_right _ h)) (by decide +kernel))
set_option maxRecDepth 20000 in
theorem gX4_closeSweep_X4_sweepOf : GoodIn wsX4_closeSweep (wsV RX4 122 RX4 yX4_sweepOf wsX4_sweepOf) := goodIn_app (goodIn_of _ (by decide +kernel)) ggX4_closeSweep_X4_sweepOf
set_option maxRecDepth 20000 in
theorem ggX4_closeSweep_X2_end : GoodIn wsX4_closeSweep wsX2_end := goodIn_r _ [13, 14, 15, 16, 17, 18, 19] (by decide +kernel) (by decide +kernel)
set_option maxRecDepth 20000 in
theorem gX4_closeSweep_X2_end : GoodIn wsX4_closeSweep (wsV RX4 59 RX2 yX2_end wsX2_end) := goodIn_app (goodIn_of _ (by decide +kernel)) ggX4_closeSweep_X2_end
theorem dX4_closeSweep_0 : decode cX4_closeSweep 0 = .ok (.aload_n 0, 1) := by decide +kernel
theorem dX4_closeSweep_1 : decode cX4_closeSweep 1 = .ok (.iload_n 1, 1) := by decide +kernel
theorem dX4_closeSweep_2 : decode cX4_closeSweep 2 = .ok (.invokevirtual 122, 3) := by decide +kernel
theorem dX4_closeSweep_5 : decode cX4_closeSweep 5 = .ok (.astore_n 2, 1) := by decide +kernel
theorem dX4_closeSweep_6 : decode cX4_closeSweep 6 = .ok (.aload_n 2, 1) := by decide +kernel
theorem dX4_closeSweep_7 : decode cX4_closeSweep 7 = .ok (.invokevirtual 59, 3) := by decide +kernel
theorem dX4_closeSweep_10 : decode cX4_closeSweep 10 = .ok (.aload_n 2, 1) := by decide +kernel
theorem dX4_closeSweep_11 : decode cX4_closeSweep 11 = .ok (.getfield 160, 3) := by decide +kernel
theorem dX4_closeSweep_14 : decode cX4_closeSweep 14 = .ok (.ireturn, 1) := by decide +kernel
theorem dX4_hash_0 : decode cX4_hash 0 = .ok (.aload_n 0, 1) := by decide +kernel
theorem dX4_hash_1 : decode cX4_hash 1 = .ok (.getfield 42, 3) := by decide +kernel
theorem dX4_hash_4 : decode cX4_hash 4 = .ok (.ifCond .ne 5, 3) := by decide +kernel
theorem dX4_hash_7 : decode cX4_hash 7 = .ok (.iload_n 1, 1) := by decide +kernel
theorem dX4_hash_8 : decode cX4_hash 8 = .ok (.ireturn, 1) := by decide +kernel
theorem dX4_hash_9 : decode cX4_hash 9 = .ok (.iload_n 1, 1) := by decide +kernel
theorem dX4_hash_10 : decode cX4_hash 10 = .ok (.ldc 163, 2) := by decide +kernel
theorem dX4_hash_12 : decode cX4_hash 12 = .ok (.imul, 1) := by decide +kernel
theorem dX4_hash_13 : decode cX4_hash 13 = .ok (.istore_n 2, 1) := by decide +kernel
theorem dX4_hash_14 : decode cX4_hash 14 = .ok (.iload_n 2, 1) := by decide +kernel
theorem dX4_hash_15 : decode cX4_hash 15 = .ok (.iload_n 2, 1) := by decide +kernel
theorem dX4_hash_16 : decode cX4_hash 16 = .ok (.bipush 15, 2) := by decide +kernel
theorem dX4_hash_18 : decode cX4_hash 18 = .ok (.iushr, 1) := by decide +kernel
theorem dX4_hash_19 : decode cX4_hash 19 = .ok (.ixor, 1) := by decide +kernel
theorem dX4_hash_20 : decode cX4_hash 20 = .ok (.ireturn, 1) := by decide +kernel
set_option maxRecDepth 20000 in
theorem ggX4_slots_X4_tableOf : GoodIn wsX4_slots wsX4_tableOf := goodIn_ca (goodIn_r _ [5, 6, 7, 8, 9, 16, 17, 18, 19, 20, 21, 22] (by decide +kernel) (by decide +kernel)) (goodIn_sub (fun _ h => List.mem_cons_of_mem _ (List.mem_append_right _ h)) (by decide +kernel))
set_option maxRecDepth 20000 in
theorem gX4_slots_X4_tableOf : GoodIn wsX4_slots (wsV RX4 164 RX4 yX4_tableOf wsX4_tableOf) := goodIn_app (goodIn_of _ (by decide +kernel)) ggX4_slots_X4_tableOf
theorem dX4_slots_0 : decode cX4_slots 0 = .ok (.aload_n 0, 1) := by decide +kernel
theorem dX4_slots_1 : decode cX4_slots 1 = .ok (.iload_n 1, 1) := by decide +kernel
theorem dX4_slots_2 : decode cX4_slots 2 = .ok (.invokevirtual 164, 3) := by decide +kernel
theorem dX4_slots_5 : decode cX4_slots 5 = .ok (.getfield 168, 3) := by decide +kernel
theorem dX4_slots_8 : decode cX4_slots 8 = .ok (.ireturn, 1) := by decide +kernel
set_option maxRecDepth 20000 in
theorem ggX4_keysIn_X4_tableOf : GoodIn wsX4_keysIn wsX4_tableOf := goodIn_ca (goodIn_r _ [5, 6, 7, 8, 9, 16, 17, 18, 19, 20, 21, 22] (by decide +kernel) (by decide +kernel)) (goodIn_sub (fun _ h => List.mem_cons_of_mem _ (List.mem_append_right _ h)) (by decide +kernel))
set_option maxRecDepth 20000 in
theorem gX4_keysIn_X4_tableOf : GoodIn wsX4_keysIn (wsV RX4 164 RX4 yX4_tableOf wsX4_tableOf) := goodIn_app (goodIn_of _ (by decide +kernel)) ggX4_keysIn_X4_tableOf
theorem dX4_keysIn_0 : decode cX4_keysIn 0 = .ok (.aload_n 0, 1) := by decide +kernel
theorem dX4_keysIn_1 : decode cX4_keysIn 1 = .ok (.iload_n 1, 1) := by decide +kernel
theorem dX4_keysIn_2 : decode cX4_keysIn 2 = .ok (.invokevirtual 164, 3) := by decide +kernel
theorem dX4_keysIn_5 : decode cX4_keysIn 5 = .ok (.getfield 110, 3) := by decide +kernel
theorem dX4_keysIn_8 : decode cX4_keysIn 8 = .ok (.ireturn, 1) := by decide +kernel
set_option maxRecDepth 20000 in
theorem ggX4_control_X4_tableWithSlot : GoodIn wsX4_control wsX4_tableWithSlot := goodIn_ca (goodIn_r _ [5, 6, 7, 8, 9, 10, 4, 11, 12, 13, 20, 21, 22, 23, 24, 25, 26, 27, 28, 29, 30, 31, 32] (by decide +kernel) (by decide +kernel)) (goodIn_sub (fun _ h => List.mem_cons_of_mem _ (List.mem_append_right _ h)) (by decide +kernel))
set_option maxRecDepth 20000 in
theorem gX4_control_X4_tableWithSlot : GoodIn wsX4_control (wsV RX4 171 RX4 yX4_tableWithSlot wsX4_tableWithSlot) := goodIn_app (goodIn_of _ (by decide +kernel)) ggX4_control_X4_tableWithSlot
set_option maxRecDepth 20000 in
theorem ggX4_control_X3_controlIn : GoodIn wsX4_control wsX3_controlIn := goodIn_r _ [18, 19, 20, 21, 22, 23, 24, 25] (by decide +kernel) (by decide +kernel)
set_option maxRecDepth 20000 in
theorem gX4_control_X3_controlIn : GoodIn wsX4_control (wsV RX4 175 RX3 yX3_controlIn wsX3_controlIn) := goodIn_app (goodIn_of _ (by decide +kernel)) ggX4_control_X3_controlIn
theorem dX4_control_0 : decode cX4_control 0 = .ok (.aload_n 0, 1) := by decide +kernel
theorem dX4_control_1 : decode cX4_control 1 = .ok (.iload_n 1, 1) := by decide +kernel
theorem dX4_control_2 : decode cX4_control 2 = .ok (.iload_n 2, 1) := by decide +kernel
theorem dX4_control_3 : decode cX4_control 3 = .ok (.invokevirtual 171, 3) := by decide +kernel
theorem dX4_control_6 : decode cX4_control 6 = .ok (.iload_n 2, 1) := by decide +kernel
theorem dX4_control_7 : decode cX4_control 7 = .ok (.invokevirtual 175, 3) := by decide +kernel
theorem dX4_control_10 : decode cX4_control 10 = .ok (.ireturn, 1) := by decide +kernel
set_option maxRecDepth 20000 in
theorem ggX4_keyAt_X4_tableWithSlot : GoodIn wsX4_keyAt wsX4_tableWithSlot := goodIn_ca (goodIn_r _ [7, 8, 9, 10, 11, 12, 6, 13, 14, 15, 27, 28, 29, 30, 31, 32, 33, 34, 35, 36, 37, 38, 39] (by decide +kernel) (by decide +kernel)) (goodIn_sub (fun _ h => List.mem_cons_of_mem _ (List.mem_append_right _ h)) (by decide +kernel))
set_option maxRecDepth 20000 in
theorem gX4_keyAt_X4_tableWithSlot : GoodIn wsX4_keyAt (wsV RX4 171 RX4 yX4_tableWithSlot wsX4_tableWithSlot) := goodIn_app (goodIn_of _ (by decide +kernel)) ggX4_keyAt_X4_tableWithSlot
set_option maxRecDepth 20000 in
theorem ggX4_keyAt_X3_isEmptyIn : GoodIn wsX4_keyAt wsX3_isEmptyIn := goodIn_r _ [20, 21, 27, 28, 29, 30, 31, 32] (by decide +kernel) (by decide +kernel)
set_option maxRecDepth 20000 in
theorem gX4_keyAt_X3_isEmptyIn : GoodIn wsX4_keyAt (wsV RX4 179 RX3 yX3_isEmptyIn wsX3_isEmptyIn) := goodIn_app (goodIn_of _ (by decide +kernel)) ggX4_keyAt_X3_isEmptyIn
set_option maxRecDepth 20000 in
theorem ggX4_keyAt_X3_keyIn : GoodIn wsX4_keyAt wsX3_keyIn := goodIn_r _ [25, 26, 27, 28, 29, 30, 31, 32] (by decide +kernel) (by decide +kernel)
set_option maxRecDepth 20000 in
theorem gX4_keyAt_X3_keyIn : GoodIn wsX4_keyAt (wsV RX4 136 RX3 yX3_keyIn wsX3_keyIn) := goodIn_app (goodIn_of _ (by decide +kernel)) ggX4_keyAt_X3_keyIn
theorem dX4_keyAt_0 : decode cX4_keyAt 0 = .ok (.aload_n 0, 1) := by decide +kernel
theorem dX4_keyAt_1 : decode cX4_keyAt 1 = .ok (.iload_n 1, 1) := by decide +kernel
theorem dX4_keyAt_2 : decode cX4_keyAt 2 = .ok (.iload_n 2, 1) := by decide +kernel
theorem dX4_keyAt_3 : decode cX4_keyAt 3 = .ok (.invokevirtual 171, 3) := by decide +kernel
theorem dX4_keyAt_6 : decode cX4_keyAt 6 = .ok (.astore_n 3, 1) := by decide +kernel
theorem dX4_keyAt_7 : decode cX4_keyAt 7 = .ok (.aload_n 3, 1) := by decide +kernel
theorem dX4_keyAt_8 : decode cX4_keyAt 8 = .ok (.iload_n 2, 1) := by decide +kernel
theorem dX4_keyAt_9 : decode cX4_keyAt 9 = .ok (.invokevirtual 179, 3) := by decide +kernel
theorem dX4_keyAt_12 : decode cX4_keyAt 12 = .ok (.ifCond .eq 13, 3) := by decide +kernel
theorem dX4_keyAt_15 : decode cX4_keyAt 15 = .ok (.new 72, 3) := by decide +kernel
theorem dX4_keyAt_18 : decode cX4_keyAt 18 = .ok (.dup, 1) := by decide +kernel
theorem dX4_keyAt_19 : decode cX4_keyAt 19 = .ok (.ldc 183, 2) := by decide +kernel
theorem dX4_keyAt_21 : decode cX4_keyAt 21 = .ok (.invokespecial 76, 3) := by decide +kernel
theorem dX4_keyAt_24 : decode cX4_keyAt 24 = .ok (.athrow, 1) := by decide +kernel
theorem dX4_keyAt_25 : decode cX4_keyAt 25 = .ok (.aload_n 3, 1) := by decide +kernel
theorem dX4_keyAt_26 : decode cX4_keyAt 26 = .ok (.iload_n 2, 1) := by decide +kernel
theorem dX4_keyAt_27 : decode cX4_keyAt 27 = .ok (.invokevirtual 136, 3) := by decide +kernel
theorem dX4_keyAt_30 : decode cX4_keyAt 30 = .ok (.ireturn, 1) := by decide +kernel
set_option maxRecDepth 20000 in
theorem ggX4_distanceAt_X4_tableWithSlot : GoodIn wsX4_distanceAt wsX4_tableWithSlot := goodIn_ca (goodIn_r _ [5, 6, 7, 8, 9, 10, 4, 11, 12, 13, 30, 31, 32, 33, 34, 35, 36, 37, 38, 39, 40, 41, 42] (by decide +kernel) (by decide +kernel)) (goodIn_sub (fun _ h => List.mem_cons_of_mem _ (List.mem_append_right _ h)) (by decide +kernel))
set_option maxRecDepth 20000 in
theorem gX4_distanceAt_X4_tableWithSlot : GoodIn wsX4_distanceAt (wsV RX4 171 RX4 yX4_tableWithSlot wsX4_tableWithSlot) := goodIn_app (goodIn_of _ (by decide +kernel)) ggX4_distanceAt_X4_tableWithSlot
set_option maxRecDepth 20000 in
theorem ggX4_distanceAt_X3_distanceIn : GoodIn wsX4_distanceAt wsX3_distanceIn := goodIn_r _ [18, 19, 20, 21, 22, 17, 23, 24, 25, 26, 27, 28, 29, 30, 31, 32, 33, 34, 35] (by decide +kernel) (by decide +kernel)
set_option maxRecDepth 20000 in
theorem gX4_distanceAt_X3_distanceIn : GoodIn wsX4_distanceAt (wsV RX4 185 RX3 yX3_distanceIn wsX3_distanceIn) := goodIn_app (goodIn_of _ (by decide +kernel)) ggX4_distanceAt_X3_distanceIn
theorem dX4_distanceAt_0 : decode cX4_distanceAt 0 = .ok (.aload_n 0, 1) := by decide +kernel
theorem dX4_distanceAt_1 : decode cX4_distanceAt 1 = .ok (.iload_n 1, 1) := by decide +kernel
theorem dX4_distanceAt_2 : decode cX4_distanceAt 2 = .ok (.iload_n 2, 1) := by decide +kernel
theorem dX4_distanceAt_3 : decode cX4_distanceAt 3 = .ok (.invokevirtual 171, 3) := by decide +kernel
theorem dX4_distanceAt_6 : decode cX4_distanceAt 6 = .ok (.iload_n 2, 1) := by decide +kernel
theorem dX4_distanceAt_7 : decode cX4_distanceAt 7 = .ok (.invokevirtual 185, 3) := by decide +kernel
theorem dX4_distanceAt_10 : decode cX4_distanceAt 10 = .ok (.ireturn, 1) := by decide +kernel
set_option maxRecDepth 20000 in
theorem ggX4_longest_X3_distanceIn : GoodIn wsX4_longest wsX3_distanceIn := goodIn_r _ [10, 11, 12, 13, 14, 9, 15, 16, 17, 18, 19, 20, 21, 29, 30, 31, 32, 33, 34] (by decide +kernel) (by decide +kernel)
set_option maxRecDepth 20000 in
theorem gX4_longest_X3_distanceIn : GoodIn wsX4_longest (wsV RX4 185 RX3 yX3_distanceIn wsX3_distanceIn) := goodIn_app (goodIn_of _ (by decide +kernel)) ggX4_longest_X3_distanceIn
theorem dX4_longest_0 : decode cX4_longest 0 = .ok (.iconst (-1), 1) := by decide +kernel
theorem dX4_longest_1 : decode cX4_longest 1 = .ok (.istore_n 1, 1) := by decide +kernel
theorem dX4_longest_2 : decode cX4_longest 2 = .ok (.iconst 0, 1) := by decide +kernel
theorem dX4_longest_3 : decode cX4_longest 3 = .ok (.istore_n 2, 1) := by decide +kernel
theorem dX4_longest_4 : decode cX4_longest 4 = .ok (.iload_n 2, 1) := by decide +kernel
theorem dX4_longest_5 : decode cX4_longest 5 = .ok (.aload_n 0, 1) := by decide +kernel
theorem dX4_longest_6 : decode cX4_longest 6 = .ok (.getfield 34, 3) := by decide +kernel
theorem dX4_longest_9 : decode cX4_longest 9 = .ok (.getfield 168, 3) := by decide +kernel
theorem dX4_longest_12 : decode cX4_longest 12 = .ok (.if_icmp .ge 22, 3) := by decide +kernel
theorem dX4_longest_15 : decode cX4_longest 15 = .ok (.iload_n 1, 1) := by decide +kernel
theorem dX4_longest_16 : decode cX4_longest 16 = .ok (.aload_n 0, 1) := by decide +kernel
theorem dX4_longest_17 : decode cX4_longest 17 = .ok (.getfield 34, 3) := by decide +kernel
theorem dX4_longest_20 : decode cX4_longest 20 = .ok (.iload_n 2, 1) := by decide +kernel
theorem dX4_longest_21 : decode cX4_longest 21 = .ok (.invokevirtual 185, 3) := by decide +kernel
theorem dX4_longest_24 : decode cX4_longest 24 = .ok (.invokestatic 188, 3) := by decide +kernel
theorem dX4_longest_27 : decode cX4_longest 27 = .ok (.istore_n 1, 1) := by decide +kernel
theorem dX4_longest_28 : decode cX4_longest 28 = .ok (.iinc 2 1, 3) := by decide +kernel
theorem dX4_longest_31 : decode cX4_longest 31 = .ok (.goto (-27), 3) := by decide +kernel
theorem dX4_longest_34 : decode cX4_longest 34 = .ok (.iload_n 1, 1) := by decide +kernel
theorem dX4_longest_35 : decode cX4_longest 35 = .ok (.ireturn, 1) := by decide +kernel
set_option maxRecDepth 20000 in
theorem ggX4_total_X3_distanceIn : GoodIn wsX4_total wsX3_distanceIn := goodIn_r _ [10, 11, 12, 13, 14, 9, 15, 16, 17, 18, 19, 20, 21, 29, 30, 31, 32, 33, 34] (by decide +kernel) (by decide +kernel)
set_option maxRecDepth 20000 in
theorem gX4_total_X3_distanceIn : GoodIn wsX4_total (wsV RX4 185 RX3 yX3_distanceIn wsX3_distanceIn) := goodIn_app (goodIn_of _ (by decide +kernel)) ggX4_total_X3_distanceIn
theorem dX4_total_0 : decode cX4_total 0 = .ok (.iconst 0, 1) := by decide +kernel
theorem dX4_total_1 : decode cX4_total 1 = .ok (.istore_n 1, 1) := by decide +kernel
theorem dX4_total_2 : decode cX4_total 2 = .ok (.iconst 0, 1) := by decide +kernel
theorem dX4_total_3 : decode cX4_total 3 = .ok (.istore_n 2, 1) := by decide +kernel
theorem dX4_total_4 : decode cX4_total 4 = .ok (.iload_n 2, 1) := by decide +kernel
theorem dX4_total_5 : decode cX4_total 5 = .ok (.aload_n 0, 1) := by decide +kernel
theorem dX4_total_6 : decode cX4_total 6 = .ok (.getfield 34, 3) := by decide +kernel
theorem dX4_total_9 : decode cX4_total 9 = .ok (.getfield 168, 3) := by decide +kernel
theorem dX4_total_12 : decode cX4_total 12 = .ok (.if_icmp .ge 24, 3) := by decide +kernel
theorem dX4_total_15 : decode cX4_total 15 = .ok (.iload_n 1, 1) := by decide +kernel
theorem dX4_total_16 : decode cX4_total 16 = .ok (.iconst 0, 1) := by decide +kernel
theorem dX4_total_17 : decode cX4_total 17 = .ok (.aload_n 0, 1) := by decide +kernel
theorem dX4_total_18 : decode cX4_total 18 = .ok (.getfield 34, 3) := by decide +kernel
theorem dX4_total_21 : decode cX4_total 21 = .ok (.iload_n 2, 1) := by decide +kernel
theorem dX4_total_22 : decode cX4_total 22 = .ok (.invokevirtual 185, 3) := by decide +kernel
theorem dX4_total_25 : decode cX4_total 25 = .ok (.invokestatic 188, 3) := by decide +kernel
theorem dX4_total_28 : decode cX4_total 28 = .ok (.iadd, 1) := by decide +kernel
theorem dX4_total_29 : decode cX4_total 29 = .ok (.istore_n 1, 1) := by decide +kernel
theorem dX4_total_30 : decode cX4_total 30 = .ok (.iinc 2 1, 3) := by decide +kernel
theorem dX4_total_33 : decode cX4_total 33 = .ok (.goto (-29), 3) := by decide +kernel
theorem dX4_total_36 : decode cX4_total 36 = .ok (.iload_n 1, 1) := by decide +kernel
theorem dX4_total_37 : decode cX4_total 37 = .ok (.ireturn, 1) := by decide +kernel
set_option maxRecDepth 20000 in
theorem ggX4_groups_X4_lookUp : GoodIn wsX4_groups wsX4_lookUp := goodIn_r _ [6, 1, 7, 8, 9, 10, 11, 5, 12, 13, 14, 15, 16, 17, 18, 19, 20, 21, 22, 23, 24, 25, 26, 27, 28, 29, 30, 31, 32, 33, 34, 35, 36, 37, 38, 39, 40, 41, 42, 43, 44, 45, 46, 47, 48, 49, 50, 51, 52, 53, 54, 55, 56, 57, 58, 59, 60, 61, 62, 63, 64, 65, 66, 67, 68, 69, 70, 71, 72, 73] (by decide +kernel) (by decide +kernel)
set_option maxRecDepth 20000 in
theorem gX4_groups_X4_lookUp : GoodIn wsX4_groups (wsV RX4 80 RX4 yX4_lookUp wsX4_lookUp) := goodIn_app (goodIn_of _ (by decide +kernel)) ggX4_groups_X4_lookUp
theorem dX4_groups_0 : decode cX4_groups 0 = .ok (.aload_n 0, 1) := by decide +kernel
theorem dX4_groups_1 : decode cX4_groups 1 = .ok (.iload_n 1, 1) := by decide +kernel
theorem dX4_groups_2 : decode cX4_groups 2 = .ok (.invokevirtual 80, 3) := by decide +kernel
theorem dX4_groups_5 : decode cX4_groups 5 = .ok (.aload_n 0, 1) := by decide +kernel
theorem dX4_groups_6 : decode cX4_groups 6 = .ok (.getfield 18, 3) := by decide +kernel
theorem dX4_groups_9 : decode cX4_groups 9 = .ok (.getfield 193, 3) := by decide +kernel
theorem dX4_groups_12 : decode cX4_groups 12 = .ok (.ireturn, 1) := by decide +kernel
set_option maxRecDepth 20000 in
theorem ggX4_comparisons_X4_lookUp : GoodIn wsX4_comparisons wsX4_lookUp := goodIn_r _ [6, 1, 7, 8, 9, 10, 11, 5, 12, 13, 14, 15, 16, 17, 18, 19, 20, 21, 22, 23, 24, 25, 26, 27, 28, 29, 30, 31, 32, 33, 34, 35, 36, 37, 38, 39, 40, 41, 42, 43, 44, 45, 46, 47, 48, 49, 50, 51, 52, 53, 54, 55, 56, 57, 58, 59, 60, 61, 62, 63, 64, 65, 66, 67, 68, 69, 70, 71, 72, 73] (by decide +kernel) (by decide +kernel)
set_option maxRecDepth 20000 in
theorem gX4_comparisons_X4_lookUp : GoodIn wsX4_comparisons (wsV RX4 80 RX4 yX4_lookUp wsX4_lookUp) := goodIn_app (goodIn_of _ (by decide +kernel)) ggX4_comparisons_X4_lookUp
theorem dX4_comparisons_0 : decode cX4_comparisons 0 = .ok (.aload_n 0, 1) := by decide +kernel
theorem dX4_comparisons_1 : decode cX4_comparisons 1 = .ok (.iload_n 1, 1) := by decide +kernel
theorem dX4_comparisons_2 : decode cX4_comparisons 2 = .ok (.invokevirtual 80, 3) := by decide +kernel
theorem dX4_comparisons_5 : decode cX4_comparisons 5 = .ok (.aload_n 0, 1) := by decide +kernel
theorem dX4_comparisons_6 : decode cX4_comparisons 6 = .ok (.getfield 18, 3) := by decide +kernel
theorem dX4_comparisons_9 : decode cX4_comparisons 9 = .ok (.getfield 196, 3) := by decide +kernel
theorem dX4_comparisons_12 : decode cX4_comparisons 12 = .ok (.ireturn, 1) := by decide +kernel
set_option maxRecDepth 20000 in
theorem ggX4_displaced_X4_hash : GoodIn wsX4_displaced wsX4_hash := goodIn_r _ [9, 10, 11, 65, 66, 67, 68, 69, 70, 71] (by decide +kernel) (by decide +kernel)
set_option maxRecDepth 20000 in
theorem gX4_displaced_X4_hash : GoodIn wsX4_displaced (wsV RX4 199 RX4 yX4_hash wsX4_hash) := goodIn_app (goodIn_of _ (by decide +kernel)) ggX4_displaced_X4_hash
set_option maxRecDepth 20000 in
theorem ggX4_displaced_X1_begin : GoodIn wsX4_displaced wsX1_begin := goodIn_r _ [16, 17, 18, 19, 72, 73, 74, 75] (by decide +kernel) (by decide +kernel)
set_option maxRecDepth 20000 in
theorem gX4_displaced_X1_begin : GoodIn wsX4_displaced (wsV RX4 202 RX1 yX1_begin wsX1_begin) := goodIn_app (goodIn_of _ (by decide +kernel)) ggX4_displaced_X1_begin
set_option maxRecDepth 20000 in
theorem ggX4_displaced_X1_lookIn : GoodIn wsX4_displaced wsX1_lookIn := goodIn_r _ [23, 18, 24, 25, 26, 15, 27, 19, 17, 28, 29, 30, 31, 32, 33, 34, 35, 36, 37, 38, 39, 40, 41, 42, 43, 44, 45, 46, 47, 48, 49, 50, 51, 52, 76, 77, 78, 79, 80, 81, 72, 73, 74, 75] (by decide +kernel) (by decide +kernel)
set_option maxRecDepth 20000 in
theorem gX4_displaced_X1_lookIn : GoodIn wsX4_displaced (wsV RX4 203 RX1 yX1_lookIn wsX1_lookIn) := goodIn_app (goodIn_of _ (by decide +kernel)) ggX4_displaced_X1_lookIn
set_option maxRecDepth 20000 in
theorem ggX4_displaced_X1_hasFound : GoodIn wsX4_displaced wsX1_hasFound := goodIn_r _ [32, 17, 72, 73, 74, 75] (by decide +kernel) (by decide +kernel)
set_option maxRecDepth 20000 in
theorem gX4_displaced_X1_hasFound : GoodIn wsX4_displaced (wsV RX4 83 RX1 yX1_hasFound wsX1_hasFound) := goodIn_app (goodIn_of _ (by decide +kernel)) ggX4_displaced_X1_hasFound
set_option maxRecDepth 20000 in
theorem ggX4_displaced_X3_displacedBy : GoodIn wsX4_displaced wsX3_displacedBy := goodIn_r _ [57, 38, 58, 34, 35, 36, 37, 59, 60, 61, 62, 63, 64, 40, 41, 42, 43, 76, 77, 78, 79, 80, 81] (by decide +kernel) (by decide +kernel)
set_option maxRecDepth 20000 in
theorem gX4_displaced_X3_displacedBy : GoodIn wsX4_displaced (wsV RX4 209 RX3 yX3_displacedBy wsX3_displacedBy) := goodIn_app (goodIn_of _ (by decide +kernel)) ggX4_displaced_X3_displacedBy
theorem dX4_displaced_0 : decode cX4_displaced 0 = .ok (.aload_n 0, 1) := by decide +kernel
theorem dX4_displaced_1 : decode cX4_displaced 1 = .ok (.iload_n 1, 1) := by decide +kernel
theorem dX4_displaced_2 : decode cX4_displaced 2 = .ok (.invokevirtual 199, 3) := by decide +kernel
theorem dX4_displaced_5 : decode cX4_displaced 5 = .ok (.istore_n 2, 1) := by decide +kernel
theorem dX4_displaced_6 : decode cX4_displaced 6 = .ok (.aload_n 0, 1) := by decide +kernel
theorem dX4_displaced_7 : decode cX4_displaced 7 = .ok (.getfield 18, 3) := by decide +kernel
theorem dX4_displaced_10 : decode cX4_displaced 10 = .ok (.invokevirtual 202, 3) := by decide +kernel
theorem dX4_displaced_13 : decode cX4_displaced 13 = .ok (.aload_n 0, 1) := by decide +kernel
theorem dX4_displaced_14 : decode cX4_displaced 14 = .ok (.getfield 18, 3) := by decide +kernel
theorem dX4_displaced_17 : decode cX4_displaced 17 = .ok (.aload_n 0, 1) := by decide +kernel
theorem dX4_displaced_18 : decode cX4_displaced 18 = .ok (.getfield 34, 3) := by decide +kernel
theorem dX4_displaced_21 : decode cX4_displaced 21 = .ok (.iload_n 1, 1) := by decide +kernel
theorem dX4_displaced_22 : decode cX4_displaced 22 = .ok (.iload_n 2, 1) := by decide +kernel
theorem dX4_displaced_23 : decode cX4_displaced 23 = .ok (.invokevirtual 203, 3) := by decide +kernel
theorem dX4_displaced_26 : decode cX4_displaced 26 = .ok (.aload_n 0, 1) := by decide +kernel
theorem dX4_displaced_27 : decode cX4_displaced 27 = .ok (.getfield 18, 3) := by decide +kernel
theorem dX4_displaced_30 : decode cX4_displaced 30 = .ok (.invokevirtual 83, 3) := by decide +kernel
theorem dX4_displaced_33 : decode cX4_displaced 33 = .ok (.ifCond .eq 13, 3) := by decide +kernel
theorem dX4_displaced_36 : decode cX4_displaced 36 = .ok (.new 72, 3) := by decide +kernel
theorem dX4_displaced_39 : decode cX4_displaced 39 = .ok (.dup, 1) := by decide +kernel
theorem dX4_displaced_40 : decode cX4_displaced 40 = .ok (.ldc 207, 2) := by decide +kernel
theorem dX4_displaced_42 : decode cX4_displaced 42 = .ok (.invokespecial 76, 3) := by decide +kernel
theorem dX4_displaced_45 : decode cX4_displaced 45 = .ok (.athrow, 1) := by decide +kernel
theorem dX4_displaced_46 : decode cX4_displaced 46 = .ok (.aload_n 0, 1) := by decide +kernel
theorem dX4_displaced_47 : decode cX4_displaced 47 = .ok (.getfield 34, 3) := by decide +kernel
theorem dX4_displaced_50 : decode cX4_displaced 50 = .ok (.iload_n 2, 1) := by decide +kernel
theorem dX4_displaced_51 : decode cX4_displaced 51 = .ok (.invokevirtual 209, 3) := by decide +kernel
theorem dX4_displaced_54 : decode cX4_displaced 54 = .ok (.ireturn, 1) := by decide +kernel
set_option maxRecDepth 20000 in
theorem ggX4_plainTotal_X0_fillFrom : GoodIn wsX4_plainTotal wsX0_fillFrom := goodIn_r _ [7, 8, 9, 10, 11, 12, 13, 14, 15, 16, 17, 18, 6, 19, 20, 21, 22, 23, 24, 25, 26, 27, 28, 29, 30, 31, 32, 33, 34, 35, 36, 37, 38, 39, 40, 41, 42, 43, 44, 52, 53, 54, 55, 56, 57, 58, 59, 60, 61] (by decide +kernel) (by decide +kernel)
set_option maxRecDepth 20000 in
theorem gX4_plainTotal_X0_fillFrom : GoodIn wsX4_plainTotal (wsV RX4 212 RX0 yX0_fillFrom wsX0_fillFrom) := goodIn_app (goodIn_of _ (by decide +kernel)) ggX4_plainTotal_X0_fillFrom
theorem dX4_plainTotal_0 : decode cX4_plainTotal 0 = .ok (.aload_n 0, 1) := by decide +kernel
theorem dX4_plainTotal_1 : decode cX4_plainTotal 1 = .ok (.getfield 25, 3) := by decide +kernel
theorem dX4_plainTotal_4 : decode cX4_plainTotal 4 = .ok (.aload_n 0, 1) := by decide +kernel
theorem dX4_plainTotal_5 : decode cX4_plainTotal 5 = .ok (.getfield 34, 3) := by decide +kernel
theorem dX4_plainTotal_8 : decode cX4_plainTotal 8 = .ok (.invokevirtual 212, 3) := by decide +kernel
theorem dX4_plainTotal_11 : decode cX4_plainTotal 11 = .ok (.aload_n 0, 1) := by decide +kernel
theorem dX4_plainTotal_12 : decode cX4_plainTotal 12 = .ok (.getfield 25, 3) := by decide +kernel
theorem dX4_plainTotal_15 : decode cX4_plainTotal 15 = .ok (.getfield 216, 3) := by decide +kernel
theorem dX4_plainTotal_18 : decode cX4_plainTotal 18 = .ok (.ireturn, 1) := by decide +kernel
set_option maxRecDepth 20000 in
theorem ggX4_plainLongest_X0_fillFrom : GoodIn wsX4_plainLongest wsX0_fillFrom := goodIn_r _ [7, 8, 9, 10, 11, 12, 13, 14, 15, 16, 17, 18, 6, 19, 20, 21, 22, 23, 24, 25, 26, 27, 28, 29, 30, 31, 32, 33, 34, 35, 36, 37, 38, 39, 40, 41, 42, 43, 44, 52, 53, 54, 55, 56, 57, 58, 59, 60, 61] (by decide +kernel) (by decide +kernel)
set_option maxRecDepth 20000 in
theorem gX4_plainLongest_X0_fillFrom : GoodIn wsX4_plainLongest (wsV RX4 212 RX0 yX0_fillFrom wsX0_fillFrom) := goodIn_app (goodIn_of _ (by decide +kernel)) ggX4_plainLongest_X0_fillFrom
theorem dX4_plainLongest_0 : decode cX4_plainLongest 0 = .ok (.aload_n 0, 1) := by decide +kernel
theorem dX4_plainLongest_1 : decode cX4_plainLongest 1 = .ok (.getfield 25, 3) := by decide +kernel
theorem dX4_plainLongest_4 : decode cX4_plainLongest 4 = .ok (.aload_n 0, 1) := by decide +kernel
theorem dX4_plainLongest_5 : decode cX4_plainLongest 5 = .ok (.getfield 34, 3) := by decide +kernel
theorem dX4_plainLongest_8 : decode cX4_plainLongest 8 = .ok (.invokevirtual 212, 3) := by decide +kernel
theorem dX4_plainLongest_11 : decode cX4_plainLongest 11 = .ok (.aload_n 0, 1) := by decide +kernel
theorem dX4_plainLongest_12 : decode cX4_plainLongest 12 = .ok (.getfield 25, 3) := by decide +kernel
theorem dX4_plainLongest_15 : decode cX4_plainLongest 15 = .ok (.getfield 219, 3) := by decide +kernel
theorem dX4_plainLongest_18 : decode cX4_plainLongest 18 = .ok (.ireturn, 1) := by decide +kernel
theorem dX4_tableOf_0 : decode cX4_tableOf 0 = .ok (.iload_n 1, 1) := by decide +kernel
theorem dX4_tableOf_1 : decode cX4_tableOf 1 = .ok (.ifCond .eq 18, 3) := by decide +kernel
theorem dX4_tableOf_4 : decode cX4_tableOf 4 = .ok (.iload_n 1, 1) := by decide +kernel
theorem dX4_tableOf_5 : decode cX4_tableOf 5 = .ok (.iconst 1, 1) := by decide +kernel
theorem dX4_tableOf_6 : decode cX4_tableOf 6 = .ok (.if_icmp .eq 13, 3) := by decide +kernel
theorem dX4_tableOf_9 : decode cX4_tableOf 9 = .ok (.new 222, 3) := by decide +kernel
theorem dX4_tableOf_12 : decode cX4_tableOf 12 = .ok (.dup, 1) := by decide +kernel
theorem dX4_tableOf_13 : decode cX4_tableOf 13 = .ok (.ldc 224, 2) := by decide +kernel
theorem dX4_tableOf_15 : decode cX4_tableOf 15 = .ok (.invokespecial 226, 3) := by decide +kernel
theorem dX4_tableOf_18 : decode cX4_tableOf 18 = .ok (.athrow, 1) := by decide +kernel
theorem dX4_tableOf_19 : decode cX4_tableOf 19 = .ok (.iload_n 1, 1) := by decide +kernel
theorem dX4_tableOf_20 : decode cX4_tableOf 20 = .ok (.ifCond .ne 10, 3) := by decide +kernel
theorem dX4_tableOf_23 : decode cX4_tableOf 23 = .ok (.aload_n 0, 1) := by decide +kernel
theorem dX4_tableOf_24 : decode cX4_tableOf 24 = .ok (.getfield 34, 3) := by decide +kernel
theorem dX4_tableOf_27 : decode cX4_tableOf 27 = .ok (.goto 7, 3) := by decide +kernel
theorem dX4_tableOf_30 : decode cX4_tableOf 30 = .ok (.aload_n 0, 1) := by decide +kernel
theorem dX4_tableOf_31 : decode cX4_tableOf 31 = .ok (.getfield 38, 3) := by decide +kernel
theorem dX4_tableOf_34 : decode cX4_tableOf 34 = .ok (.areturn, 1) := by decide +kernel
set_option maxRecDepth 20000 in
theorem ggX4_tableWithSlot_X4_tableOf : GoodIn wsX4_tableWithSlot wsX4_tableOf := goodIn_ca (goodIn_r _ [7, 1, 2, 8, 9, 16, 17, 18, 19, 20, 21, 22] (by decide +kernel) (by decide +kernel)) (goodIn_sub (fun _ h => List.mem_cons_of_mem _ (List.mem_append_right _ h)) (by decide +kernel))
set_option maxRecDepth 20000 in
theorem gX4_tableWithSlot_X4_tableOf : GoodIn wsX4_tableWithSlot (wsV RX4 164 RX4 yX4_tableOf wsX4_tableOf) := goodIn_app (goodIn_of _ (by decide +kernel)) ggX4_tableWithSlot_X4_tableOf
theorem dX4_tableWithSlot_0 : decode cX4_tableWithSlot 0 = .ok (.aload_n 0, 1) := by decide +kernel
theorem dX4_tableWithSlot_1 : decode cX4_tableWithSlot 1 = .ok (.iload_n 1, 1) := by decide +kernel
theorem dX4_tableWithSlot_2 : decode cX4_tableWithSlot 2 = .ok (.invokevirtual 164, 3) := by decide +kernel
theorem dX4_tableWithSlot_5 : decode cX4_tableWithSlot 5 = .ok (.astore_n 3, 1) := by decide +kernel
theorem dX4_tableWithSlot_6 : decode cX4_tableWithSlot 6 = .ok (.iload_n 2, 1) := by decide +kernel
theorem dX4_tableWithSlot_7 : decode cX4_tableWithSlot 7 = .ok (.ifCond .lt 11, 3) := by decide +kernel
theorem dX4_tableWithSlot_10 : decode cX4_tableWithSlot 10 = .ok (.iload_n 2, 1) := by decide +kernel
theorem dX4_tableWithSlot_11 : decode cX4_tableWithSlot 11 = .ok (.aload_n 3, 1) := by decide +kernel
theorem dX4_tableWithSlot_12 : decode cX4_tableWithSlot 12 = .ok (.getfield 168, 3) := by decide +kernel
theorem dX4_tableWithSlot_15 : decode cX4_tableWithSlot 15 = .ok (.if_icmp .lt 13, 3) := by decide +kernel
theorem dX4_tableWithSlot_18 : decode cX4_tableWithSlot 18 = .ok (.new 222, 3) := by decide +kernel
theorem dX4_tableWithSlot_21 : decode cX4_tableWithSlot 21 = .ok (.dup, 1) := by decide +kernel
theorem dX4_tableWithSlot_22 : decode cX4_tableWithSlot 22 = .ok (.ldc 227, 2) := by decide +kernel
theorem dX4_tableWithSlot_24 : decode cX4_tableWithSlot 24 = .ok (.invokespecial 226, 3) := by decide +kernel
theorem dX4_tableWithSlot_27 : decode cX4_tableWithSlot 27 = .ok (.athrow, 1) := by decide +kernel
theorem dX4_tableWithSlot_28 : decode cX4_tableWithSlot 28 = .ok (.aload_n 3, 1) := by decide +kernel
theorem dX4_tableWithSlot_29 : decode cX4_tableWithSlot 29 = .ok (.areturn, 1) := by decide +kernel
theorem dX4_sweepOf_0 : decode cX4_sweepOf 0 = .ok (.iload_n 1, 1) := by decide +kernel
theorem dX4_sweepOf_1 : decode cX4_sweepOf 1 = .ok (.ifCond .lt 20, 3) := by decide +kernel
theorem dX4_sweepOf_4 : decode cX4_sweepOf 4 = .ok (.iload_n 1, 1) := by decide +kernel
theorem dX4_sweepOf_5 : decode cX4_sweepOf 5 = .ok (.iconst 4, 1) := by decide +kernel
theorem dX4_sweepOf_6 : decode cX4_sweepOf 6 = .ok (.if_icmp .ge 15, 3) := by decide +kernel
theorem dX4_sweepOf_9 : decode cX4_sweepOf 9 = .ok (.aload_n 0, 1) := by decide +kernel
theorem dX4_sweepOf_10 : decode cX4_sweepOf 10 = .ok (.getfield 11, 3) := by decide +kernel
theorem dX4_sweepOf_13 : decode cX4_sweepOf 13 = .ok (.iload_n 1, 1) := by decide +kernel
theorem dX4_sweepOf_14 : decode cX4_sweepOf 14 = .ok (.aaload, 1) := by decide +kernel
theorem dX4_sweepOf_15 : decode cX4_sweepOf 15 = .ok (.getfield 113, 3) := by decide +kernel
theorem dX4_sweepOf_18 : decode cX4_sweepOf 18 = .ok (.ifCond .ne 13, 3) := by decide +kernel
theorem dX4_sweepOf_21 : decode cX4_sweepOf 21 = .ok (.new 222, 3) := by decide +kernel
theorem dX4_sweepOf_24 : decode cX4_sweepOf 24 = .ok (.dup, 1) := by decide +kernel
theorem dX4_sweepOf_25 : decode cX4_sweepOf 25 = .ok (.ldc 229, 2) := by decide +kernel
theorem dX4_sweepOf_27 : decode cX4_sweepOf 27 = .ok (.invokespecial 226, 3) := by decide +kernel
theorem dX4_sweepOf_30 : decode cX4_sweepOf 30 = .ok (.athrow, 1) := by decide +kernel
theorem dX4_sweepOf_31 : decode cX4_sweepOf 31 = .ok (.aload_n 0, 1) := by decide +kernel
theorem dX4_sweepOf_32 : decode cX4_sweepOf 32 = .ok (.getfield 11, 3) := by decide +kernel
theorem dX4_sweepOf_35 : decode cX4_sweepOf 35 = .ok (.iload_n 1, 1) := by decide +kernel
theorem dX4_sweepOf_36 : decode cX4_sweepOf 36 = .ok (.aaload, 1) := by decide +kernel
theorem dX4_sweepOf_37 : decode cX4_sweepOf 37 = .ok (.areturn, 1) := by decide +kernel
set_option maxRecDepth 20000 in
theorem ggX4_lookUp_X4_hash : GoodIn wsX4_lookUp wsX4_hash := goodIn_r _ [8, 9, 10, 53, 54, 55, 56, 57, 58, 59] (by decide +kernel) (by decide +kernel)
set_option maxRecDepth 20000 in
theorem gX4_lookUp_X4_hash : GoodIn wsX4_lookUp (wsV RX4 199 RX4 yX4_hash wsX4_hash) := goodIn_app (goodIn_of _ (by decide +kernel)) ggX4_lookUp_X4_hash
set_option maxRecDepth 20000 in
theorem ggX4_lookUp_X1_begin : GoodIn wsX4_lookUp wsX1_begin := goodIn_r _ [15, 16, 17, 18, 60, 61, 62, 63] (by decide +kernel) (by decide +kernel)
set_option maxRecDepth 20000 in
theorem gX4_lookUp_X1_begin : GoodIn wsX4_lookUp (wsV RX4 202 RX1 yX1_begin wsX1_begin) := goodIn_app (goodIn_of _ (by decide +kernel)) ggX4_lookUp_X1_begin
set_option maxRecDepth 20000 in
theorem ggX4_lookUp_X1_lookIn : GoodIn wsX4_lookUp wsX1_lookIn := goodIn_r _ [22, 17, 23, 24, 25, 14, 26, 18, 16, 27, 28, 29, 30, 31, 32, 33, 34, 35, 36, 37, 38, 39, 40, 41, 42, 43, 44, 45, 46, 47, 48, 49, 50, 51, 64, 65, 66, 67, 68, 69, 60, 61, 62, 63] (by decide +kernel) (by decide +kernel)
set_option maxRecDepth 20000 in
theorem gX4_lookUp_X1_lookIn : GoodIn wsX4_lookUp (wsV RX4 203 RX1 yX1_lookIn wsX1_lookIn) := goodIn_app (goodIn_of _ (by decide +kernel)) ggX4_lookUp_X1_lookIn
set_option maxRecDepth 20000 in
theorem ggX4_lookUp_X1_hasFound : GoodIn wsX4_lookUp wsX1_hasFound := goodIn_r _ [31, 16, 60, 61, 62, 63] (by decide +kernel) (by decide +kernel)
set_option maxRecDepth 20000 in
theorem gX4_lookUp_X1_hasFound : GoodIn wsX4_lookUp (wsV RX4 83 RX1 yX1_hasFound wsX1_hasFound) := goodIn_app (goodIn_of _ (by decide +kernel)) ggX4_lookUp_X1_hasFound
theorem dX4_lookUp_0 : decode cX4_lookUp 0 = .ok (.aload_n 0, 1) := by decide +kernel
theorem dX4_lookUp_1 : decode cX4_lookUp 1 = .ok (.iload_n 1, 1) := by decide +kernel
theorem dX4_lookUp_2 : decode cX4_lookUp 2 = .ok (.invokevirtual 199, 3) := by decide +kernel
theorem dX4_lookUp_5 : decode cX4_lookUp 5 = .ok (.istore_n 2, 1) := by decide +kernel
theorem dX4_lookUp_6 : decode cX4_lookUp 6 = .ok (.aload_n 0, 1) := by decide +kernel
theorem dX4_lookUp_7 : decode cX4_lookUp 7 = .ok (.getfield 18, 3) := by decide +kernel
theorem dX4_lookUp_10 : decode cX4_lookUp 10 = .ok (.invokevirtual 202, 3) := by decide +kernel
theorem dX4_lookUp_13 : decode cX4_lookUp 13 = .ok (.aload_n 0, 1) := by decide +kernel
theorem dX4_lookUp_14 : decode cX4_lookUp 14 = .ok (.getfield 18, 3) := by decide +kernel
theorem dX4_lookUp_17 : decode cX4_lookUp 17 = .ok (.aload_n 0, 1) := by decide +kernel
theorem dX4_lookUp_18 : decode cX4_lookUp 18 = .ok (.getfield 34, 3) := by decide +kernel
theorem dX4_lookUp_21 : decode cX4_lookUp 21 = .ok (.iload_n 1, 1) := by decide +kernel
theorem dX4_lookUp_22 : decode cX4_lookUp 22 = .ok (.iload_n 2, 1) := by decide +kernel
theorem dX4_lookUp_23 : decode cX4_lookUp 23 = .ok (.invokevirtual 203, 3) := by decide +kernel
theorem dX4_lookUp_26 : decode cX4_lookUp 26 = .ok (.aload_n 0, 1) := by decide +kernel
theorem dX4_lookUp_27 : decode cX4_lookUp 27 = .ok (.getfield 18, 3) := by decide +kernel
theorem dX4_lookUp_30 : decode cX4_lookUp 30 = .ok (.invokevirtual 83, 3) := by decide +kernel
theorem dX4_lookUp_33 : decode cX4_lookUp 33 = .ok (.ifCond .ne 16, 3) := by decide +kernel
theorem dX4_lookUp_36 : decode cX4_lookUp 36 = .ok (.aload_n 0, 1) := by decide +kernel
theorem dX4_lookUp_37 : decode cX4_lookUp 37 = .ok (.getfield 18, 3) := by decide +kernel
theorem dX4_lookUp_40 : decode cX4_lookUp 40 = .ok (.aload_n 0, 1) := by decide +kernel
theorem dX4_lookUp_41 : decode cX4_lookUp 41 = .ok (.getfield 38, 3) := by decide +kernel
theorem dX4_lookUp_44 : decode cX4_lookUp 44 = .ok (.iload_n 1, 1) := by decide +kernel
theorem dX4_lookUp_45 : decode cX4_lookUp 45 = .ok (.iload_n 2, 1) := by decide +kernel
theorem dX4_lookUp_46 : decode cX4_lookUp 46 = .ok (.invokevirtual 203, 3) := by decide +kernel
theorem dX4_lookUp_49 : decode cX4_lookUp 49 = .ok (.return_, 1) := by decide +kernel
set_option maxRecDepth 20000 in
theorem ggX4_seekBehind_X1_begin : GoodIn wsX4_seekBehind wsX1_begin := goodIn_r _ [8, 9, 10, 11, 54, 55, 56, 57] (by decide +kernel) (by decide +kernel)
set_option maxRecDepth 20000 in
theorem gX4_seekBehind_X1_begin : GoodIn wsX4_seekBehind (wsV RX4 202 RX1 yX1_begin wsX1_begin) := goodIn_app (goodIn_of _ (by decide +kernel)) ggX4_seekBehind_X1_begin
set_option maxRecDepth 20000 in
theorem ggX4_seekBehind_X1_seekIn : GoodIn wsX4_seekBehind wsX1_seekIn := goodIn_r _ [15, 9, 16, 17, 18, 19, 20, 21, 22, 23, 24, 25, 26, 27, 28, 29, 30, 31, 32, 33, 34, 35, 36, 37, 38, 39, 40, 41, 42, 43, 44, 45, 7, 46, 58, 59, 60, 61, 62, 63, 54, 55, 56, 57] (by decide +kernel) (by decide +kernel)
set_option maxRecDepth 20000 in
theorem gX4_seekBehind_X1_seekIn : GoodIn wsX4_seekBehind (wsV RX4 231 RX1 yX1_seekIn wsX1_seekIn) := goodIn_app (goodIn_of _ (by decide +kernel)) ggX4_seekBehind_X1_seekIn
theorem dX4_seekBehind_0 : decode cX4_seekBehind 0 = .ok (.aload_n 0, 1) := by decide +kernel
theorem dX4_seekBehind_1 : decode cX4_seekBehind 1 = .ok (.getfield 18, 3) := by decide +kernel
theorem dX4_seekBehind_4 : decode cX4_seekBehind 4 = .ok (.invokevirtual 202, 3) := by decide +kernel
theorem dX4_seekBehind_7 : decode cX4_seekBehind 7 = .ok (.aload_n 0, 1) := by decide +kernel
theorem dX4_seekBehind_8 : decode cX4_seekBehind 8 = .ok (.getfield 18, 3) := by decide +kernel
theorem dX4_seekBehind_11 : decode cX4_seekBehind 11 = .ok (.aload_n 0, 1) := by decide +kernel
theorem dX4_seekBehind_12 : decode cX4_seekBehind 12 = .ok (.getfield 34, 3) := by decide +kernel
theorem dX4_seekBehind_15 : decode cX4_seekBehind 15 = .ok (.lload_n 1, 1) := by decide +kernel
theorem dX4_seekBehind_16 : decode cX4_seekBehind 16 = .ok (.invokevirtual 231, 3) := by decide +kernel
theorem dX4_seekBehind_19 : decode cX4_seekBehind 19 = .ok (.aload_n 0, 1) := by decide +kernel
theorem dX4_seekBehind_20 : decode cX4_seekBehind 20 = .ok (.getfield 18, 3) := by decide +kernel
theorem dX4_seekBehind_23 : decode cX4_seekBehind 23 = .ok (.aload_n 0, 1) := by decide +kernel
theorem dX4_seekBehind_24 : decode cX4_seekBehind 24 = .ok (.getfield 38, 3) := by decide +kernel
theorem dX4_seekBehind_27 : decode cX4_seekBehind 27 = .ok (.lload_n 1, 1) := by decide +kernel
theorem dX4_seekBehind_28 : decode cX4_seekBehind 28 = .ok (.invokevirtual 231, 3) := by decide +kernel
theorem dX4_seekBehind_31 : decode cX4_seekBehind 31 = .ok (.return_, 1) := by decide +kernel
set_option maxRecDepth 20000 in
theorem ggX4_putNew_X4_size : GoodIn wsX4_putNew wsX4_size := goodIn_r _ [6, 1, 7, 54, 55, 56, 57, 58, 59, 60, 61, 62, 63, 64, 65, 66] (by decide +kernel) (by decide +kernel)
set_option maxRecDepth 20000 in
theorem gX4_putNew_X4_size : GoodIn wsX4_putNew (wsV RX4 64 RX4 yX4_size wsX4_size) := goodIn_app (goodIn_of _ (by decide +kernel)) ggX4_putNew_X4_size
set_option maxRecDepth 20000 in
theorem ggX4_putNew_X4_beginMove : GoodIn wsX4_putNew wsX4_beginMove := goodIn_r _ [11, 7, 1, 12, 13, 14, 15, 16, 17, 18, 19, 20, 21, 22, 23, 24, 54, 55, 56, 57, 58, 59, 60, 61, 62, 63, 64, 65, 66] (by decide +kernel) (by decide +kernel)
set_option maxRecDepth 20000 in
theorem gX4_putNew_X4_beginMove : GoodIn wsX4_putNew (wsV RX4 235 RX4 yX4_beginMove wsX4_beginMove) := goodIn_app (goodIn_of _ (by decide +kernel)) ggX4_putNew_X4_beginMove
set_option maxRecDepth 20000 in
theorem ggX4_putNew_X4_hash : GoodIn wsX4_putNew wsX4_hash := goodIn_r _ [28, 29, 30, 54, 55, 56, 57, 58, 59, 60] (by decide +kernel) (by decide +kernel)
set_option maxRecDepth 20000 in
theorem gX4_putNew_X4_hash : GoodIn wsX4_putNew (wsV RX4 199 RX4 yX4_hash wsX4_hash) := goodIn_app (goodIn_of _ (by decide +kernel)) ggX4_putNew_X4_hash
set_option maxRecDepth 20000 in
theorem ggX4_putNew_X3_carryIn : GoodIn wsX4_putNew wsX3_carryIn := goodIn_r _ [34, 22, 23, 35, 36, 37, 38, 39, 40, 16, 41, 42, 43, 44, 45, 46, 47, 48, 49, 24, 50, 51, 52, 53, 61, 62, 63, 64, 65, 66] (by decide +kernel) (by decide +kernel)
set_option maxRecDepth 20000 in
theorem gX4_putNew_X3_carryIn : GoodIn wsX4_putNew (wsV RX4 238 RX3 yX3_carryIn wsX3_carryIn) := goodIn_app (goodIn_of _ (by decide +kernel)) ggX4_putNew_X3_carryIn
theorem dX4_putNew_0 : decode cX4_putNew 0 = .ok (.bipush 8, 2) := by decide +kernel
theorem dX4_putNew_2 : decode cX4_putNew 2 = .ok (.aload_n 0, 1) := by decide +kernel
theorem dX4_putNew_3 : decode cX4_putNew 3 = .ok (.invokevirtual 64, 3) := by decide +kernel
theorem dX4_putNew_6 : decode cX4_putNew 6 = .ok (.iconst 1, 1) := by decide +kernel
theorem dX4_putNew_7 : decode cX4_putNew 7 = .ok (.iadd, 1) := by decide +kernel
theorem dX4_putNew_8 : decode cX4_putNew 8 = .ok (.imul, 1) := by decide +kernel
theorem dX4_putNew_9 : decode cX4_putNew 9 = .ok (.bipush 7, 2) := by decide +kernel
theorem dX4_putNew_11 : decode cX4_putNew 11 = .ok (.aload_n 0, 1) := by decide +kernel
theorem dX4_putNew_12 : decode cX4_putNew 12 = .ok (.getfield 34, 3) := by decide +kernel
theorem dX4_putNew_15 : decode cX4_putNew 15 = .ok (.getfield 168, 3) := by decide +kernel
theorem dX4_putNew_18 : decode cX4_putNew 18 = .ok (.imul, 1) := by decide +kernel
theorem dX4_putNew_19 : decode cX4_putNew 19 = .ok (.if_icmp .le 7, 3) := by decide +kernel
theorem dX4_putNew_22 : decode cX4_putNew 22 = .ok (.aload_n 0, 1) := by decide +kernel
theorem dX4_putNew_23 : decode cX4_putNew 23 = .ok (.invokevirtual 235, 3) := by decide +kernel
theorem dX4_putNew_26 : decode cX4_putNew 26 = .ok (.aload_n 0, 1) := by decide +kernel
theorem dX4_putNew_27 : decode cX4_putNew 27 = .ok (.getfield 34, 3) := by decide +kernel
theorem dX4_putNew_30 : decode cX4_putNew 30 = .ok (.iload_n 1, 1) := by decide +kernel
theorem dX4_putNew_31 : decode cX4_putNew 31 = .ok (.iload_n 2, 1) := by decide +kernel
theorem dX4_putNew_32 : decode cX4_putNew 32 = .ok (.aload_n 0, 1) := by decide +kernel
theorem dX4_putNew_33 : decode cX4_putNew 33 = .ok (.iload_n 1, 1) := by decide +kernel
theorem dX4_putNew_34 : decode cX4_putNew 34 = .ok (.invokevirtual 199, 3) := by decide +kernel
theorem dX4_putNew_37 : decode cX4_putNew 37 = .ok (.invokevirtual 238, 3) := by decide +kernel
theorem dX4_putNew_40 : decode cX4_putNew 40 = .ok (.return_, 1) := by decide +kernel
set_option maxRecDepth 20000 in
theorem ggX4_beginMove_X3_emptyWith : GoodIn wsX4_beginMove wsX3_emptyWith := goodIn_r _ [8, 9, 10, 11, 12, 13, 14, 15, 23, 24, 25, 26, 27, 28] (by decide +kernel) (by decide +kernel)
set_option maxRecDepth 20000 in
theorem gX4_beginMove_X3_emptyWith : GoodIn wsX4_beginMove (wsV RX4 53 RX3 yX3_emptyWith wsX3_emptyWith) := goodIn_app (goodIn_of _ (by decide +kernel)) ggX4_beginMove_X3_emptyWith
theorem dX4_beginMove_0 : decode cX4_beginMove 0 = .ok (.aload_n 0, 1) := by decide +kernel
theorem dX4_beginMove_1 : decode cX4_beginMove 1 = .ok (.getfield 38, 3) := by decide +kernel
theorem dX4_beginMove_4 : decode cX4_beginMove 4 = .ok (.astore_n 1, 1) := by decide +kernel
theorem dX4_beginMove_5 : decode cX4_beginMove 5 = .ok (.aload_n 0, 1) := by decide +kernel
theorem dX4_beginMove_6 : decode cX4_beginMove 6 = .ok (.aload_n 0, 1) := by decide +kernel
theorem dX4_beginMove_7 : decode cX4_beginMove 7 = .ok (.getfield 34, 3) := by decide +kernel
theorem dX4_beginMove_10 : decode cX4_beginMove 10 = .ok (.putfield 38, 3) := by decide +kernel
theorem dX4_beginMove_13 : decode cX4_beginMove 13 = .ok (.aload_n 0, 1) := by decide +kernel
theorem dX4_beginMove_14 : decode cX4_beginMove 14 = .ok (.aload_n 1, 1) := by decide +kernel
theorem dX4_beginMove_15 : decode cX4_beginMove 15 = .ok (.putfield 34, 3) := by decide +kernel
theorem dX4_beginMove_18 : decode cX4_beginMove 18 = .ok (.aload_n 0, 1) := by decide +kernel
theorem dX4_beginMove_19 : decode cX4_beginMove 19 = .ok (.getfield 34, 3) := by decide +kernel
theorem dX4_beginMove_22 : decode cX4_beginMove 22 = .ok (.iconst 2, 1) := by decide +kernel
theorem dX4_beginMove_23 : decode cX4_beginMove 23 = .ok (.aload_n 0, 1) := by decide +kernel
theorem dX4_beginMove_24 : decode cX4_beginMove 24 = .ok (.getfield 38, 3) := by decide +kernel
theorem dX4_beginMove_27 : decode cX4_beginMove 27 = .ok (.getfield 168, 3) := by decide +kernel
theorem dX4_beginMove_30 : decode cX4_beginMove 30 = .ok (.imul, 1) := by decide +kernel
theorem dX4_beginMove_31 : decode cX4_beginMove 31 = .ok (.invokevirtual 53, 3) := by decide +kernel
theorem dX4_beginMove_34 : decode cX4_beginMove 34 = .ok (.aload_n 0, 1) := by decide +kernel
theorem dX4_beginMove_35 : decode cX4_beginMove 35 = .ok (.dup, 1) := by decide +kernel
theorem dX4_beginMove_36 : decode cX4_beginMove 36 = .ok (.getfield 56, 3) := by decide +kernel
theorem dX4_beginMove_39 : decode cX4_beginMove 39 = .ok (.iconst 1, 1) := by decide +kernel
theorem dX4_beginMove_40 : decode cX4_beginMove 40 = .ok (.iadd, 1) := by decide +kernel
theorem dX4_beginMove_41 : decode cX4_beginMove 41 = .ok (.putfield 56, 3) := by decide +kernel
theorem dX4_beginMove_44 : decode cX4_beginMove 44 = .ok (.return_, 1) := by decide +kernel
set_option maxRecDepth 20000 in
theorem ggX4_moveSlice_X3_lowestSlotWithKey : GoodIn wsX4_moveSlice wsX3_lowestSlotWithKey := goodIn_r _ [7, 8, 9, 10, 11, 6, 12, 13, 70, 71, 72, 73, 74, 75] (by decide +kernel) (by decide +kernel)
set_option maxRecDepth 20000 in
theorem gX4_moveSlice_X3_lowestSlotWithKey : GoodIn wsX4_moveSlice (wsV RX4 242 RX3 yX3_lowestSlotWithKey wsX3_lowestSlotWithKey) := goodIn_app (goodIn_of _ (by decide +kernel)) ggX4_moveSlice_X3_lowestSlotWithKey
set_option maxRecDepth 20000 in
theorem ggX4_moveSlice_X3_keyIn : GoodIn wsX4_moveSlice wsX3_keyIn := goodIn_r _ [17, 18, 70, 71, 72, 73, 74, 75] (by decide +kernel) (by decide +kernel)
set_option maxRecDepth 20000 in
theorem gX4_moveSlice_X3_keyIn : GoodIn wsX4_moveSlice (wsV RX4 136 RX3 yX3_keyIn wsX3_keyIn) := goodIn_app (goodIn_of _ (by decide +kernel)) ggX4_moveSlice_X3_keyIn
set_option maxRecDepth 20000 in
theorem ggX4_moveSlice_X3_valueIn : GoodIn wsX4_moveSlice wsX3_valueIn := goodIn_r _ [22, 23, 70, 71, 72, 73, 74, 75] (by decide +kernel) (by decide +kernel)
set_option maxRecDepth 20000 in
theorem gX4_moveSlice_X3_valueIn : GoodIn wsX4_moveSlice (wsV RX4 101 RX3 yX3_valueIn wsX3_valueIn) := goodIn_app (goodIn_of _ (by decide +kernel)) ggX4_moveSlice_X3_valueIn
set_option maxRecDepth 20000 in
theorem ggX4_moveSlice_X3_hashIn : GoodIn wsX4_moveSlice wsX3_hashIn := goodIn_r _ [27, 28, 70, 71, 72, 73, 74, 75] (by decide +kernel) (by decide +kernel)
set_option maxRecDepth 20000 in
theorem gX4_moveSlice_X3_hashIn : GoodIn wsX4_moveSlice (wsV RX4 245 RX3 yX3_hashIn wsX3_hashIn) := goodIn_app (goodIn_of _ (by decide +kernel)) ggX4_moveSlice_X3_hashIn
set_option maxRecDepth 20000 in
theorem ggX4_moveSlice_X3_carryIn : GoodIn wsX4_moveSlice wsX3_carryIn := goodIn_r _ [32, 8, 33, 18, 23, 28, 34, 35, 36, 6, 37, 38, 39, 40, 41, 9, 10, 11, 12, 13, 42, 43, 44, 45, 70, 71, 72, 73, 74, 75] (by decide +kernel) (by decide +kernel)
set_option maxRecDepth 20000 in
theorem gX4_moveSlice_X3_carryIn : GoodIn wsX4_moveSlice (wsV RX4 238 RX3 yX3_carryIn wsX3_carryIn) := goodIn_app (goodIn_of _ (by decide +kernel)) ggX4_moveSlice_X3_carryIn
set_option maxRecDepth 20000 in
theorem ggX4_moveSlice_X3_takeOut : GoodIn wsX4_moveSlice wsX3_takeOut := goodIn_r _ [49, 8, 18, 23, 28, 13, 33, 34, 35, 36, 6, 37, 38, 39, 40, 41, 9, 10, 11, 12, 42, 43, 44, 45, 70, 71, 72, 73, 74, 75] (by decide +kernel) (by decide +kernel)
set_option maxRecDepth 20000 in
theorem gX4_moveSlice_X3_takeOut : GoodIn wsX4_moveSlice (wsV RX4 104 RX3 yX3_takeOut wsX3_takeOut) := goodIn_app (goodIn_of _ (by decide +kernel)) ggX4_moveSlice_X3_takeOut
set_option maxRecDepth 20000 in
theorem ggX4_moveSlice_X4_endMoveIfOldIsEmpty : GoodIn wsX4_moveSlice wsX4_endMoveIfOldIsEmpty := goodIn_r _ [54, 1, 55, 56, 57, 6, 58, 59, 60, 61, 62, 8, 33, 13, 63, 64, 65, 66, 67, 68, 69, 70, 71, 72, 73, 74, 75] (by decide +kernel) (by decide +kernel)
set_option maxRecDepth 20000 in
theorem gX4_moveSlice_X4_endMoveIfOldIsEmpty : GoodIn wsX4_moveSlice (wsV RX4 107 RX4 yX4_endMoveIfOldIsEmpty wsX4_endMoveIfOldIsEmpty) := goodIn_app (goodIn_of _ (by decide +kernel)) ggX4_moveSlice_X4_endMoveIfOldIsEmpty
theorem dX4_moveSlice_0 : decode cX4_moveSlice 0 = .ok (.iconst 0, 1) := by decide +kernel
theorem dX4_moveSlice_1 : decode cX4_moveSlice 1 = .ok (.istore_n 1, 1) := by decide +kernel
theorem dX4_moveSlice_2 : decode cX4_moveSlice 2 = .ok (.iload_n 1, 1) := by decide +kernel
theorem dX4_moveSlice_3 : decode cX4_moveSlice 3 = .ok (.iconst 4, 1) := by decide +kernel
theorem dX4_moveSlice_4 : decode cX4_moveSlice 4 = .ok (.if_icmp .ge 66, 3) := by decide +kernel
theorem dX4_moveSlice_7 : decode cX4_moveSlice 7 = .ok (.aload_n 0, 1) := by decide +kernel
theorem dX4_moveSlice_8 : decode cX4_moveSlice 8 = .ok (.getfield 38, 3) := by decide +kernel
theorem dX4_moveSlice_11 : decode cX4_moveSlice 11 = .ok (.getfield 110, 3) := by decide +kernel
theorem dX4_moveSlice_14 : decode cX4_moveSlice 14 = .ok (.ifCond .le 56, 3) := by decide +kernel
theorem dX4_moveSlice_17 : decode cX4_moveSlice 17 = .ok (.aload_n 0, 1) := by decide +kernel
theorem dX4_moveSlice_18 : decode cX4_moveSlice 18 = .ok (.getfield 38, 3) := by decide +kernel
theorem dX4_moveSlice_21 : decode cX4_moveSlice 21 = .ok (.invokevirtual 242, 3) := by decide +kernel
theorem dX4_moveSlice_24 : decode cX4_moveSlice 24 = .ok (.istore_n 2, 1) := by decide +kernel
theorem dX4_moveSlice_25 : decode cX4_moveSlice 25 = .ok (.aload_n 0, 1) := by decide +kernel
theorem dX4_moveSlice_26 : decode cX4_moveSlice 26 = .ok (.getfield 34, 3) := by decide +kernel
theorem dX4_moveSlice_29 : decode cX4_moveSlice 29 = .ok (.aload_n 0, 1) := by decide +kernel
theorem dX4_moveSlice_30 : decode cX4_moveSlice 30 = .ok (.getfield 38, 3) := by decide +kernel
theorem dX4_moveSlice_33 : decode cX4_moveSlice 33 = .ok (.iload_n 2, 1) := by decide +kernel
theorem dX4_moveSlice_34 : decode cX4_moveSlice 34 = .ok (.invokevirtual 136, 3) := by decide +kernel
theorem dX4_moveSlice_37 : decode cX4_moveSlice 37 = .ok (.aload_n 0, 1) := by decide +kernel
theorem dX4_moveSlice_38 : decode cX4_moveSlice 38 = .ok (.getfield 38, 3) := by decide +kernel
theorem dX4_moveSlice_41 : decode cX4_moveSlice 41 = .ok (.iload_n 2, 1) := by decide +kernel
theorem dX4_moveSlice_42 : decode cX4_moveSlice 42 = .ok (.invokevirtual 101, 3) := by decide +kernel
theorem dX4_moveSlice_45 : decode cX4_moveSlice 45 = .ok (.aload_n 0, 1) := by decide +kernel
theorem dX4_moveSlice_46 : decode cX4_moveSlice 46 = .ok (.getfield 38, 3) := by decide +kernel
theorem dX4_moveSlice_49 : decode cX4_moveSlice 49 = .ok (.iload_n 2, 1) := by decide +kernel
theorem dX4_moveSlice_50 : decode cX4_moveSlice 50 = .ok (.invokevirtual 245, 3) := by decide +kernel
theorem dX4_moveSlice_53 : decode cX4_moveSlice 53 = .ok (.invokevirtual 238, 3) := by decide +kernel
theorem dX4_moveSlice_56 : decode cX4_moveSlice 56 = .ok (.aload_n 0, 1) := by decide +kernel
theorem dX4_moveSlice_57 : decode cX4_moveSlice 57 = .ok (.getfield 38, 3) := by decide +kernel
theorem dX4_moveSlice_60 : decode cX4_moveSlice 60 = .ok (.iload_n 2, 1) := by decide +kernel
theorem dX4_moveSlice_61 : decode cX4_moveSlice 61 = .ok (.invokevirtual 104, 3) := by decide +kernel
theorem dX4_moveSlice_64 : decode cX4_moveSlice 64 = .ok (.iinc 1 1, 3) := by decide +kernel
theorem dX4_moveSlice_67 : decode cX4_moveSlice 67 = .ok (.goto (-65), 3) := by decide +kernel
theorem dX4_moveSlice_70 : decode cX4_moveSlice 70 = .ok (.aload_n 0, 1) := by decide +kernel
theorem dX4_moveSlice_71 : decode cX4_moveSlice 71 = .ok (.invokevirtual 107, 3) := by decide +kernel
theorem dX4_moveSlice_74 : decode cX4_moveSlice 74 = .ok (.iload_n 1, 1) := by decide +kernel
theorem dX4_moveSlice_75 : decode cX4_moveSlice 75 = .ok (.ireturn, 1) := by decide +kernel
set_option maxRecDepth 20000 in
theorem ggX4_endMoveIfOldIsEmpty_X3_emptyWith : GoodIn wsX4_endMoveIfOldIsEmpty wsX3_emptyWith := goodIn_r _ [6, 7, 8, 9, 10, 11, 12, 13, 21, 22, 23, 24, 25, 26] (by decide +kernel) (by decide +kernel)
set_option maxRecDepth 20000 in
theorem gX4_endMoveIfOldIsEmpty_X3_emptyWith : GoodIn wsX4_endMoveIfOldIsEmpty (wsV RX4 53 RX3 yX3_emptyWith wsX3_emptyWith) := goodIn_app (goodIn_of _ (by decide +kernel)) ggX4_endMoveIfOldIsEmpty_X3_emptyWith
theorem dX4_endMoveIfOldIsEmpty_0 : decode cX4_endMoveIfOldIsEmpty 0 = .ok (.aload_n 0, 1) := by decide +kernel
theorem dX4_endMoveIfOldIsEmpty_1 : decode cX4_endMoveIfOldIsEmpty 1 = .ok (.getfield 38, 3) := by decide +kernel
theorem dX4_endMoveIfOldIsEmpty_4 : decode cX4_endMoveIfOldIsEmpty 4 = .ok (.getfield 110, 3) := by decide +kernel
theorem dX4_endMoveIfOldIsEmpty_7 : decode cX4_endMoveIfOldIsEmpty 7 = .ok (.ifCond .ne 11, 3) := by decide +kernel
theorem dX4_endMoveIfOldIsEmpty_10 : decode cX4_endMoveIfOldIsEmpty 10 = .ok (.aload_n 0, 1) := by decide +kernel
theorem dX4_endMoveIfOldIsEmpty_11 : decode cX4_endMoveIfOldIsEmpty 11 = .ok (.getfield 38, 3) := by decide +kernel
theorem dX4_endMoveIfOldIsEmpty_14 : decode cX4_endMoveIfOldIsEmpty 14 = .ok (.iconst 0, 1) := by decide +kernel
theorem dX4_endMoveIfOldIsEmpty_15 : decode cX4_endMoveIfOldIsEmpty 15 = .ok (.invokevirtual 53, 3) := by decide +kernel
theorem dX4_endMoveIfOldIsEmpty_18 : decode cX4_endMoveIfOldIsEmpty 18 = .ok (.return_, 1) := by decide +kernel
end
section
theorem dX5_init_0 : decode cX5_init 0 = .ok (.aload_n 0, 1) := by decide +kernel
theorem dX5_init_1 : decode cX5_init 1 = .ok (.invokespecial 1, 3) := by decide +kernel
theorem dX5_init_4 : decode cX5_init 4 = .ok (.aload_n 0, 1) := by decide +kernel
theorem dX5_init_5 : decode cX5_init 5 = .ok (.sipush 512, 3) := by decide +kernel
theorem dX5_init_8 : decode cX5_init 8 = .ok (.newarray .int, 2) := by decide +kernel
theorem dX5_init_10 : decode cX5_init 10 = .ok (.putfield 7, 3) := by decide +kernel
theorem dX5_init_13 : decode cX5_init 13 = .ok (.aload_n 0, 1) := by decide +kernel
theorem dX5_init_14 : decode cX5_init 14 = .ok (.sipush 512, 3) := by decide +kernel
theorem dX5_init_17 : decode cX5_init 17 = .ok (.newarray .int, 2) := by decide +kernel
theorem dX5_init_19 : decode cX5_init 19 = .ok (.putfield 13, 3) := by decide +kernel
theorem dX5_init_22 : decode cX5_init 22 = .ok (.aload_n 0, 1) := by decide +kernel
theorem dX5_init_23 : decode cX5_init 23 = .ok (.sipush 512, 3) := by decide +kernel
theorem dX5_init_26 : decode cX5_init 26 = .ok (.newarray .boolean, 2) := by decide +kernel
theorem dX5_init_28 : decode cX5_init 28 = .ok (.putfield 16, 3) := by decide +kernel
theorem dX5_init_31 : decode cX5_init 31 = .ok (.aload_n 0, 1) := by decide +kernel
theorem dX5_init_32 : decode cX5_init 32 = .ok (.iconst 2, 1) := by decide +kernel
theorem dX5_init_33 : decode cX5_init 33 = .ok (.newarray .int, 2) := by decide +kernel
theorem dX5_init_35 : decode cX5_init 35 = .ok (.putfield 20, 3) := by decide +kernel
theorem dX5_init_38 : decode cX5_init 38 = .ok (.aload_n 0, 1) := by decide +kernel
theorem dX5_init_39 : decode cX5_init 39 = .ok (.iconst 2, 1) := by decide +kernel
theorem dX5_init_40 : decode cX5_init 40 = .ok (.newarray .int, 2) := by decide +kernel
theorem dX5_init_42 : decode cX5_init 42 = .ok (.putfield 23, 3) := by decide +kernel
theorem dX5_init_45 : decode cX5_init 45 = .ok (.aload_n 0, 1) := by decide +kernel
theorem dX5_init_46 : decode cX5_init 46 = .ok (.iconst 1, 1) := by decide +kernel
theorem dX5_init_47 : decode cX5_init 47 = .ok (.putfield 26, 3) := by decide +kernel
theorem dX5_init_50 : decode cX5_init 50 = .ok (.aload_n 0, 1) := by decide +kernel
theorem dX5_init_51 : decode cX5_init 51 = .ok (.iconst 4, 1) := by decide +kernel
theorem dX5_init_52 : decode cX5_init 52 = .ok (.newarray .boolean, 2) := by decide +kernel
theorem dX5_init_54 : decode cX5_init 54 = .ok (.putfield 30, 3) := by decide +kernel
theorem dX5_init_57 : decode cX5_init 57 = .ok (.aload_n 0, 1) := by decide +kernel
theorem dX5_init_58 : decode cX5_init 58 = .ok (.iconst 4, 1) := by decide +kernel
theorem dX5_init_59 : decode cX5_init 59 = .ok (.newarray .long, 2) := by decide +kernel
theorem dX5_init_61 : decode cX5_init 61 = .ok (.putfield 33, 3) := by decide +kernel
theorem dX5_init_64 : decode cX5_init 64 = .ok (.aload_n 0, 1) := by decide +kernel
theorem dX5_init_65 : decode cX5_init 65 = .ok (.iconst 4, 1) := by decide +kernel
theorem dX5_init_66 : decode cX5_init 66 = .ok (.newarray .int, 2) := by decide +kernel
theorem dX5_init_68 : decode cX5_init 68 = .ok (.putfield 37, 3) := by decide +kernel
theorem dX5_init_71 : decode cX5_init 71 = .ok (.aload_n 0, 1) := by decide +kernel
theorem dX5_init_72 : decode cX5_init 72 = .ok (.iconst 4, 1) := by decide +kernel
theorem dX5_init_73 : decode cX5_init 73 = .ok (.newarray .boolean, 2) := by decide +kernel
theorem dX5_init_75 : decode cX5_init 75 = .ok (.putfield 40, 3) := by decide +kernel
theorem dX5_init_78 : decode cX5_init 78 = .ok (.aload_n 0, 1) := by decide +kernel
theorem dX5_init_79 : decode cX5_init 79 = .ok (.iconst 4, 1) := by decide +kernel
theorem dX5_init_80 : decode cX5_init 80 = .ok (.newarray .int, 2) := by decide +kernel
theorem dX5_init_82 : decode cX5_init 82 = .ok (.putfield 43, 3) := by decide +kernel
theorem dX5_init_85 : decode cX5_init 85 = .ok (.aload_n 0, 1) := by decide +kernel
theorem dX5_init_86 : decode cX5_init 86 = .ok (.sipush 256, 3) := by decide +kernel
theorem dX5_init_89 : decode cX5_init 89 = .ok (.newarray .boolean, 2) := by decide +kernel
theorem dX5_init_91 : decode cX5_init 91 = .ok (.putfield 46, 3) := by decide +kernel
theorem dX5_init_94 : decode cX5_init 94 = .ok (.aload_n 0, 1) := by decide +kernel
theorem dX5_init_95 : decode cX5_init 95 = .ok (.getfield 20, 3) := by decide +kernel
theorem dX5_init_98 : decode cX5_init 98 = .ok (.iconst 0, 1) := by decide +kernel
theorem dX5_init_99 : decode cX5_init 99 = .ok (.bipush 8, 2) := by decide +kernel
theorem dX5_init_101 : decode cX5_init 101 = .ok (.iastore, 1) := by decide +kernel
theorem dX5_init_102 : decode cX5_init 102 = .ok (.return_, 1) := by decide +kernel
theorem dX5_thrown_0 : decode cX5_thrown 0 = .ok (.aload_n 0, 1) := by decide +kernel
theorem dX5_thrown_1 : decode cX5_thrown 1 = .ok (.getfield 49, 3) := by decide +kernel
theorem dX5_thrown_4 : decode cX5_thrown 4 = .ok (.ireturn, 1) := by decide +kernel
theorem dX5_in_0 : decode cX5_in 0 = .ok (.iload_n 0, 1) := by decide +kernel
theorem dX5_in_1 : decode cX5_in 1 = .ok (.iload_n 1, 1) := by decide +kernel
theorem dX5_in_2 : decode cX5_in 2 = .ok (.if_icmp .lt 12, 3) := by decide +kernel
theorem dX5_in_5 : decode cX5_in 5 = .ok (.iload_n 0, 1) := by decide +kernel
theorem dX5_in_6 : decode cX5_in 6 = .ok (.iload_n 2, 1) := by decide +kernel
theorem dX5_in_7 : decode cX5_in 7 = .ok (.if_icmp .gt 7, 3) := by decide +kernel
theorem dX5_in_10 : decode cX5_in 10 = .ok (.iconst 1, 1) := by decide +kernel
theorem dX5_in_11 : decode cX5_in 11 = .ok (.goto 4, 3) := by decide +kernel
theorem dX5_in_14 : decode cX5_in 14 = .ok (.iconst 0, 1) := by decide +kernel
theorem dX5_in_15 : decode cX5_in 15 = .ok (.ireturn, 1) := by decide +kernel
theorem dX5_isFine_0 : decode cX5_isFine 0 = .ok (.aload_n 0, 1) := by decide +kernel
theorem dX5_isFine_1 : decode cX5_isFine 1 = .ok (.iload_n 1, 1) := by decide +kernel
theorem dX5_isFine_2 : decode cX5_isFine 2 = .ok (.putfield 49, 3) := by decide +kernel
theorem dX5_isFine_5 : decode cX5_isFine 5 = .ok (.iload_n 1, 1) := by decide +kernel
theorem dX5_isFine_6 : decode cX5_isFine 6 = .ok (.ifCond .ne 7, 3) := by decide +kernel
theorem dX5_isFine_9 : decode cX5_isFine 9 = .ok (.iconst 1, 1) := by decide +kernel
theorem dX5_isFine_10 : decode cX5_isFine 10 = .ok (.goto 4, 3) := by decide +kernel
theorem dX5_isFine_13 : decode cX5_isFine 13 = .ok (.iconst 0, 1) := by decide +kernel
theorem dX5_isFine_14 : decode cX5_isFine 14 = .ok (.ireturn, 1) := by decide +kernel
theorem dX5_hashOf_0 : decode cX5_hashOf 0 = .ok (.aload_n 0, 1) := by decide +kernel
theorem dX5_hashOf_1 : decode cX5_hashOf 1 = .ok (.getfield 26, 3) := by decide +kernel
theorem dX5_hashOf_4 : decode cX5_hashOf 4 = .ok (.iconst 1, 1) := by decide +kernel
theorem dX5_hashOf_5 : decode cX5_hashOf 5 = .ok (.if_icmp .eq 5, 3) := by decide +kernel
theorem dX5_hashOf_8 : decode cX5_hashOf 8 = .ok (.iload_n 1, 1) := by decide +kernel
theorem dX5_hashOf_9 : decode cX5_hashOf 9 = .ok (.ireturn, 1) := by decide +kernel
theorem dX5_hashOf_10 : decode cX5_hashOf 10 = .ok (.iload_n 1, 1) := by decide +kernel
theorem dX5_hashOf_11 : decode cX5_hashOf 11 = .ok (.ldc 52, 2) := by decide +kernel
theorem dX5_hashOf_13 : decode cX5_hashOf 13 = .ok (.imul, 1) := by decide +kernel
theorem dX5_hashOf_14 : decode cX5_hashOf 14 = .ok (.istore_n 2, 1) := by decide +kernel
theorem dX5_hashOf_15 : decode cX5_hashOf 15 = .ok (.iload_n 2, 1) := by decide +kernel
theorem dX5_hashOf_16 : decode cX5_hashOf 16 = .ok (.iload_n 2, 1) := by decide +kernel
theorem dX5_hashOf_17 : decode cX5_hashOf 17 = .ok (.bipush 15, 2) := by decide +kernel
theorem dX5_hashOf_19 : decode cX5_hashOf 19 = .ok (.iushr, 1) := by decide +kernel
theorem dX5_hashOf_20 : decode cX5_hashOf 20 = .ok (.ixor, 1) := by decide +kernel
theorem dX5_hashOf_21 : decode cX5_hashOf 21 = .ok (.ireturn, 1) := by decide +kernel
set_option maxRecDepth 20000 in
theorem ggX5_home_X5_hashOf : GoodIn wsX5_home wsX5_hashOf := goodIn_r _ [6, 7, 8, 9, 10, 11, 12, 13, 14, 15, 16, 17, 18, 19, 20, 21, 22, 23, 24, 25] (by decide +kernel) (by decide +kernel)
set_option maxRecDepth 20000 in
theorem gX5_home_X5_hashOf : GoodIn wsX5_home (wsV RX5 53 RX5 yX5_hashOf wsX5_hashOf) := goodIn_app (goodIn_of _ (by decide +kernel)) ggX5_home_X5_hashOf
theorem dX5_home_0 : decode cX5_home 0 = .ok (.aload_n 0, 1) := by decide +kernel
theorem dX5_home_1 : decode cX5_home 1 = .ok (.iload_n 2, 1) := by decide +kernel
theorem dX5_home_2 : decode cX5_home 2 = .ok (.invokevirtual 53, 3) := by decide +kernel
theorem dX5_home_5 : decode cX5_home 5 = .ok (.aload_n 0, 1) := by decide +kernel
theorem dX5_home_6 : decode cX5_home 6 = .ok (.getfield 20, 3) := by decide +kernel
theorem dX5_home_9 : decode cX5_home 9 = .ok (.iload_n 1, 1) := by decide +kernel
theorem dX5_home_10 : decode cX5_home 10 = .ok (.iaload, 1) := by decide +kernel
theorem dX5_home_11 : decode cX5_home 11 = .ok (.iconst 1, 1) := by decide +kernel
theorem dX5_home_12 : decode cX5_home 12 = .ok (.isub, 1) := by decide +kernel
theorem dX5_home_13 : decode cX5_home 13 = .ok (.iand, 1) := by decide +kernel
theorem dX5_home_14 : decode cX5_home 14 = .ok (.ireturn, 1) := by decide +kernel
set_option maxRecDepth 20000 in
theorem ggX5_distance_X5_home : GoodIn wsX5_distance wsX5_home := goodIn_r _ [7, 2, 8, 9, 10, 6, 11, 12, 13, 14, 15, 16, 17, 18, 19, 20, 21, 22, 23, 24, 25, 26, 27, 28, 29, 30] (by decide +kernel) (by decide +kernel)
set_option maxRecDepth 20000 in
theorem gX5_distance_X5_home : GoodIn wsX5_distance (wsV RX5 57 RX5 yX5_home wsX5_home) := goodIn_app (goodIn_of _ (by decide +kernel)) ggX5_distance_X5_home
theorem dX5_distance_0 : decode cX5_distance 0 = .ok (.iload_n 2, 1) := by decide +kernel
theorem dX5_distance_1 : decode cX5_distance 1 = .ok (.aload_n 0, 1) := by decide +kernel
theorem dX5_distance_2 : decode cX5_distance 2 = .ok (.iload_n 1, 1) := by decide +kernel
theorem dX5_distance_3 : decode cX5_distance 3 = .ok (.aload_n 0, 1) := by decide +kernel
theorem dX5_distance_4 : decode cX5_distance 4 = .ok (.getfield 7, 3) := by decide +kernel
theorem dX5_distance_7 : decode cX5_distance 7 = .ok (.sipush 256, 3) := by decide +kernel
theorem dX5_distance_10 : decode cX5_distance 10 = .ok (.iload_n 1, 1) := by decide +kernel
theorem dX5_distance_11 : decode cX5_distance 11 = .ok (.imul, 1) := by decide +kernel
theorem dX5_distance_12 : decode cX5_distance 12 = .ok (.iload_n 2, 1) := by decide +kernel
theorem dX5_distance_13 : decode cX5_distance 13 = .ok (.iadd, 1) := by decide +kernel
theorem dX5_distance_14 : decode cX5_distance 14 = .ok (.iaload, 1) := by decide +kernel
theorem dX5_distance_15 : decode cX5_distance 15 = .ok (.invokevirtual 57, 3) := by decide +kernel
theorem dX5_distance_18 : decode cX5_distance 18 = .ok (.isub, 1) := by decide +kernel
theorem dX5_distance_19 : decode cX5_distance 19 = .ok (.aload_n 0, 1) := by decide +kernel
theorem dX5_distance_20 : decode cX5_distance 20 = .ok (.getfield 20, 3) := by decide +kernel
theorem dX5_distance_23 : decode cX5_distance 23 = .ok (.iload_n 1, 1) := by decide +kernel
theorem dX5_distance_24 : decode cX5_distance 24 = .ok (.iaload, 1) := by decide +kernel
theorem dX5_distance_25 : decode cX5_distance 25 = .ok (.iconst 1, 1) := by decide +kernel
theorem dX5_distance_26 : decode cX5_distance 26 = .ok (.isub, 1) := by decide +kernel
theorem dX5_distance_27 : decode cX5_distance 27 = .ok (.iand, 1) := by decide +kernel
theorem dX5_distance_28 : decode cX5_distance 28 = .ok (.ireturn, 1) := by decide +kernel
theorem dX5_slotOf_0 : decode cX5_slotOf 0 = .ok (.iconst (-1), 1) := by decide +kernel
theorem dX5_slotOf_1 : decode cX5_slotOf 1 = .ok (.istore_n 3, 1) := by decide +kernel
theorem dX5_slotOf_2 : decode cX5_slotOf 2 = .ok (.iconst 0, 1) := by decide +kernel
theorem dX5_slotOf_3 : decode cX5_slotOf 3 = .ok (.istore 4, 2) := by decide +kernel
theorem dX5_slotOf_5 : decode cX5_slotOf 5 = .ok (.iload 4, 2) := by decide +kernel
theorem dX5_slotOf_7 : decode cX5_slotOf 7 = .ok (.aload_n 0, 1) := by decide +kernel
theorem dX5_slotOf_8 : decode cX5_slotOf 8 = .ok (.getfield 20, 3) := by decide +kernel
theorem dX5_slotOf_11 : decode cX5_slotOf 11 = .ok (.iload_n 1, 1) := by decide +kernel
theorem dX5_slotOf_12 : decode cX5_slotOf 12 = .ok (.iaload, 1) := by decide +kernel
theorem dX5_slotOf_13 : decode cX5_slotOf 13 = .ok (.if_icmp .ge 49, 3) := by decide +kernel
theorem dX5_slotOf_16 : decode cX5_slotOf 16 = .ok (.aload_n 0, 1) := by decide +kernel
theorem dX5_slotOf_17 : decode cX5_slotOf 17 = .ok (.getfield 16, 3) := by decide +kernel
theorem dX5_slotOf_20 : decode cX5_slotOf 20 = .ok (.sipush 256, 3) := by decide +kernel
theorem dX5_slotOf_23 : decode cX5_slotOf 23 = .ok (.iload_n 1, 1) := by decide +kernel
theorem dX5_slotOf_24 : decode cX5_slotOf 24 = .ok (.imul, 1) := by decide +kernel
theorem dX5_slotOf_25 : decode cX5_slotOf 25 = .ok (.iload 4, 2) := by decide +kernel
theorem dX5_slotOf_27 : decode cX5_slotOf 27 = .ok (.iadd, 1) := by decide +kernel
theorem dX5_slotOf_28 : decode cX5_slotOf 28 = .ok (.baload, 1) := by decide +kernel
theorem dX5_slotOf_29 : decode cX5_slotOf 29 = .ok (.ifCond .eq 25, 3) := by decide +kernel
theorem dX5_slotOf_32 : decode cX5_slotOf 32 = .ok (.aload_n 0, 1) := by decide +kernel
theorem dX5_slotOf_33 : decode cX5_slotOf 33 = .ok (.getfield 7, 3) := by decide +kernel
theorem dX5_slotOf_36 : decode cX5_slotOf 36 = .ok (.sipush 256, 3) := by decide +kernel
theorem dX5_slotOf_39 : decode cX5_slotOf 39 = .ok (.iload_n 1, 1) := by decide +kernel
theorem dX5_slotOf_40 : decode cX5_slotOf 40 = .ok (.imul, 1) := by decide +kernel
theorem dX5_slotOf_41 : decode cX5_slotOf 41 = .ok (.iload 4, 2) := by decide +kernel
theorem dX5_slotOf_43 : decode cX5_slotOf 43 = .ok (.iadd, 1) := by decide +kernel
theorem dX5_slotOf_44 : decode cX5_slotOf 44 = .ok (.iaload, 1) := by decide +kernel
theorem dX5_slotOf_45 : decode cX5_slotOf 45 = .ok (.iload_n 2, 1) := by decide +kernel
theorem dX5_slotOf_46 : decode cX5_slotOf 46 = .ok (.if_icmp .ne 8, 3) := by decide +kernel
theorem dX5_slotOf_49 : decode cX5_slotOf 49 = .ok (.iload 4, 2) := by decide +kernel
theorem dX5_slotOf_51 : decode cX5_slotOf 51 = .ok (.goto 4, 3) := by decide +kernel
theorem dX5_slotOf_54 : decode cX5_slotOf 54 = .ok (.iload_n 3, 1) := by decide +kernel
theorem dX5_slotOf_55 : decode cX5_slotOf 55 = .ok (.istore_n 3, 1) := by decide +kernel
theorem dX5_slotOf_56 : decode cX5_slotOf 56 = .ok (.iinc 4 1, 3) := by decide +kernel
theorem dX5_slotOf_59 : decode cX5_slotOf 59 = .ok (.goto (-54), 3) := by decide +kernel
theorem dX5_slotOf_62 : decode cX5_slotOf 62 = .ok (.iload_n 3, 1) := by decide +kernel
theorem dX5_slotOf_63 : decode cX5_slotOf 63 = .ok (.ireturn, 1) := by decide +kernel
set_option maxRecDepth 20000 in
theorem ggX5_carries_X5_home : GoodIn wsX5_carries wsX5_home := goodIn_r _ [10, 4, 11, 12, 13, 9, 14, 15, 16, 21, 22, 23, 24, 25, 26, 27, 28, 29, 30, 31, 32, 33, 34, 35, 36, 37] (by decide +kernel) (by decide +kernel)
set_option maxRecDepth 20000 in
theorem gX5_carries_X5_home : GoodIn wsX5_carries (wsV RX5 57 RX5 yX5_home wsX5_home) := goodIn_app (goodIn_of _ (by decide +kernel)) ggX5_carries_X5_home
set_option maxRecDepth 20000 in
theorem ggX5_carries_X5_distance : GoodIn wsX5_carries wsX5_distance := goodIn_r _ [20, 2, 4, 6, 7, 8, 9, 10, 11, 12, 13, 14, 15, 16, 21, 22, 23, 24, 25, 26, 27, 28, 29, 30, 31, 32, 33, 34, 35, 36, 37] (by decide +kernel) (by decide +kernel)
set_option maxRecDepth 20000 in
theorem gX5_carries_X5_distance : GoodIn wsX5_carries (wsV RX5 61 RX5 yX5_distance wsX5_distance) := goodIn_app (goodIn_of _ (by decide +kernel)) ggX5_carries_X5_distance
theorem dX5_carries_0 : decode cX5_carries 0 = .ok (.iload_n 2, 1) := by decide +kernel
theorem dX5_carries_1 : decode cX5_carries 1 = .ok (.istore 5, 2) := by decide +kernel
theorem dX5_carries_3 : decode cX5_carries 3 = .ok (.iload_n 3, 1) := by decide +kernel
theorem dX5_carries_4 : decode cX5_carries 4 = .ok (.istore 6, 2) := by decide +kernel
theorem dX5_carries_6 : decode cX5_carries 6 = .ok (.aload_n 0, 1) := by decide +kernel
theorem dX5_carries_7 : decode cX5_carries 7 = .ok (.iload_n 1, 1) := by decide +kernel
theorem dX5_carries_8 : decode cX5_carries 8 = .ok (.iload_n 2, 1) := by decide +kernel
theorem dX5_carries_9 : decode cX5_carries 9 = .ok (.invokevirtual 57, 3) := by decide +kernel
theorem dX5_carries_12 : decode cX5_carries 12 = .ok (.istore 7, 2) := by decide +kernel
theorem dX5_carries_14 : decode cX5_carries 14 = .ok (.iconst 0, 1) := by decide +kernel
theorem dX5_carries_15 : decode cX5_carries 15 = .ok (.istore 8, 2) := by decide +kernel
theorem dX5_carries_17 : decode cX5_carries 17 = .ok (.iconst 0, 1) := by decide +kernel
theorem dX5_carries_18 : decode cX5_carries 18 = .ok (.istore 9, 2) := by decide +kernel
theorem dX5_carries_20 : decode cX5_carries 20 = .ok (.aload_n 0, 1) := by decide +kernel
theorem dX5_carries_21 : decode cX5_carries 21 = .ok (.getfield 16, 3) := by decide +kernel
theorem dX5_carries_24 : decode cX5_carries 24 = .ok (.sipush 256, 3) := by decide +kernel
theorem dX5_carries_27 : decode cX5_carries 27 = .ok (.iload_n 1, 1) := by decide +kernel
theorem dX5_carries_28 : decode cX5_carries 28 = .ok (.imul, 1) := by decide +kernel
theorem dX5_carries_29 : decode cX5_carries 29 = .ok (.iload 7, 2) := by decide +kernel
theorem dX5_carries_31 : decode cX5_carries 31 = .ok (.iadd, 1) := by decide +kernel
theorem dX5_carries_32 : decode cX5_carries 32 = .ok (.baload, 1) := by decide +kernel
theorem dX5_carries_33 : decode cX5_carries 33 = .ok (.ifCond .eq 107, 3) := by decide +kernel
theorem dX5_carries_36 : decode cX5_carries 36 = .ok (.sipush 256, 3) := by decide +kernel
theorem dX5_carries_39 : decode cX5_carries 39 = .ok (.iload_n 1, 1) := by decide +kernel
theorem dX5_carries_40 : decode cX5_carries 40 = .ok (.imul, 1) := by decide +kernel
theorem dX5_carries_41 : decode cX5_carries 41 = .ok (.iload 7, 2) := by decide +kernel
theorem dX5_carries_43 : decode cX5_carries 43 = .ok (.iadd, 1) := by decide +kernel
theorem dX5_carries_44 : decode cX5_carries 44 = .ok (.istore 10, 2) := by decide +kernel
theorem dX5_carries_46 : decode cX5_carries 46 = .ok (.aload_n 0, 1) := by decide +kernel
theorem dX5_carries_47 : decode cX5_carries 47 = .ok (.iload_n 1, 1) := by decide +kernel
theorem dX5_carries_48 : decode cX5_carries 48 = .ok (.iload 7, 2) := by decide +kernel
theorem dX5_carries_50 : decode cX5_carries 50 = .ok (.invokevirtual 61, 3) := by decide +kernel
theorem dX5_carries_53 : decode cX5_carries 53 = .ok (.iload 9, 2) := by decide +kernel
theorem dX5_carries_55 : decode cX5_carries 55 = .ok (.if_icmp .ge 64, 3) := by decide +kernel
theorem dX5_carries_58 : decode cX5_carries 58 = .ok (.aload_n 0, 1) := by decide +kernel
theorem dX5_carries_59 : decode cX5_carries 59 = .ok (.getfield 7, 3) := by decide +kernel
theorem dX5_carries_62 : decode cX5_carries 62 = .ok (.iload 10, 2) := by decide +kernel
theorem dX5_carries_64 : decode cX5_carries 64 = .ok (.iaload, 1) := by decide +kernel
theorem dX5_carries_65 : decode cX5_carries 65 = .ok (.istore 11, 2) := by decide +kernel
theorem dX5_carries_67 : decode cX5_carries 67 = .ok (.aload_n 0, 1) := by decide +kernel
theorem dX5_carries_68 : decode cX5_carries 68 = .ok (.getfield 13, 3) := by decide +kernel
theorem dX5_carries_71 : decode cX5_carries 71 = .ok (.iload 10, 2) := by decide +kernel
theorem dX5_carries_73 : decode cX5_carries 73 = .ok (.iaload, 1) := by decide +kernel
theorem dX5_carries_74 : decode cX5_carries 74 = .ok (.istore 12, 2) := by decide +kernel
theorem dX5_carries_76 : decode cX5_carries 76 = .ok (.aload_n 0, 1) := by decide +kernel
theorem dX5_carries_77 : decode cX5_carries 77 = .ok (.iload_n 1, 1) := by decide +kernel
theorem dX5_carries_78 : decode cX5_carries 78 = .ok (.iload 7, 2) := by decide +kernel
theorem dX5_carries_80 : decode cX5_carries 80 = .ok (.invokevirtual 61, 3) := by decide +kernel
theorem dX5_carries_83 : decode cX5_carries 83 = .ok (.istore 9, 2) := by decide +kernel
theorem dX5_carries_85 : decode cX5_carries 85 = .ok (.iload 4, 2) := by decide +kernel
theorem dX5_carries_87 : decode cX5_carries 87 = .ok (.ifCond .ne 21, 3) := by decide +kernel
theorem dX5_carries_90 : decode cX5_carries 90 = .ok (.aload_n 0, 1) := by decide +kernel
theorem dX5_carries_91 : decode cX5_carries 91 = .ok (.getfield 7, 3) := by decide +kernel
theorem dX5_carries_94 : decode cX5_carries 94 = .ok (.iload 10, 2) := by decide +kernel
theorem dX5_carries_96 : decode cX5_carries 96 = .ok (.iload 5, 2) := by decide +kernel
theorem dX5_carries_98 : decode cX5_carries 98 = .ok (.iastore, 1) := by decide +kernel
theorem dX5_carries_99 : decode cX5_carries 99 = .ok (.aload_n 0, 1) := by decide +kernel
theorem dX5_carries_100 : decode cX5_carries 100 = .ok (.getfield 13, 3) := by decide +kernel
theorem dX5_carries_103 : decode cX5_carries 103 = .ok (.iload 10, 2) := by decide +kernel
theorem dX5_carries_105 : decode cX5_carries 105 = .ok (.iload 6, 2) := by decide +kernel
theorem dX5_carries_107 : decode cX5_carries 107 = .ok (.iastore, 1) := by decide +kernel
theorem dX5_carries_108 : decode cX5_carries 108 = .ok (.iload 11, 2) := by decide +kernel
theorem dX5_carries_110 : decode cX5_carries 110 = .ok (.istore 5, 2) := by decide +kernel
theorem dX5_carries_112 : decode cX5_carries 112 = .ok (.iload 12, 2) := by decide +kernel
theorem dX5_carries_114 : decode cX5_carries 114 = .ok (.istore 6, 2) := by decide +kernel
theorem dX5_carries_116 : decode cX5_carries 116 = .ok (.iinc 8 1, 3) := by decide +kernel
theorem dX5_carries_119 : decode cX5_carries 119 = .ok (.iload 7, 2) := by decide +kernel
theorem dX5_carries_121 : decode cX5_carries 121 = .ok (.iconst 1, 1) := by decide +kernel
theorem dX5_carries_122 : decode cX5_carries 122 = .ok (.iadd, 1) := by decide +kernel
theorem dX5_carries_123 : decode cX5_carries 123 = .ok (.aload_n 0, 1) := by decide +kernel
theorem dX5_carries_124 : decode cX5_carries 124 = .ok (.getfield 20, 3) := by decide +kernel
theorem dX5_carries_127 : decode cX5_carries 127 = .ok (.iload_n 1, 1) := by decide +kernel
theorem dX5_carries_128 : decode cX5_carries 128 = .ok (.iaload, 1) := by decide +kernel
theorem dX5_carries_129 : decode cX5_carries 129 = .ok (.iconst 1, 1) := by decide +kernel
theorem dX5_carries_130 : decode cX5_carries 130 = .ok (.isub, 1) := by decide +kernel
theorem dX5_carries_131 : decode cX5_carries 131 = .ok (.iand, 1) := by decide +kernel
theorem dX5_carries_132 : decode cX5_carries 132 = .ok (.istore 7, 2) := by decide +kernel
theorem dX5_carries_134 : decode cX5_carries 134 = .ok (.iinc 9 1, 3) := by decide +kernel
theorem dX5_carries_137 : decode cX5_carries 137 = .ok (.goto (-117), 3) := by decide +kernel
theorem dX5_carries_140 : decode cX5_carries 140 = .ok (.iload 4, 2) := by decide +kernel
theorem dX5_carries_142 : decode cX5_carries 142 = .ok (.ifCond .ne 57, 3) := by decide +kernel
theorem dX5_carries_145 : decode cX5_carries 145 = .ok (.aload_n 0, 1) := by decide +kernel
theorem dX5_carries_146 : decode cX5_carries 146 = .ok (.getfield 7, 3) := by decide +kernel
theorem dX5_carries_149 : decode cX5_carries 149 = .ok (.sipush 256, 3) := by decide +kernel
theorem dX5_carries_152 : decode cX5_carries 152 = .ok (.iload_n 1, 1) := by decide +kernel
theorem dX5_carries_153 : decode cX5_carries 153 = .ok (.imul, 1) := by decide +kernel
theorem dX5_carries_154 : decode cX5_carries 154 = .ok (.iload 7, 2) := by decide +kernel
theorem dX5_carries_156 : decode cX5_carries 156 = .ok (.iadd, 1) := by decide +kernel
theorem dX5_carries_157 : decode cX5_carries 157 = .ok (.iload 5, 2) := by decide +kernel
theorem dX5_carries_159 : decode cX5_carries 159 = .ok (.iastore, 1) := by decide +kernel
theorem dX5_carries_160 : decode cX5_carries 160 = .ok (.aload_n 0, 1) := by decide +kernel
theorem dX5_carries_161 : decode cX5_carries 161 = .ok (.getfield 13, 3) := by decide +kernel
theorem dX5_carries_164 : decode cX5_carries 164 = .ok (.sipush 256, 3) := by decide +kernel
theorem dX5_carries_167 : decode cX5_carries 167 = .ok (.iload_n 1, 1) := by decide +kernel
theorem dX5_carries_168 : decode cX5_carries 168 = .ok (.imul, 1) := by decide +kernel
theorem dX5_carries_169 : decode cX5_carries 169 = .ok (.iload 7, 2) := by decide +kernel
theorem dX5_carries_171 : decode cX5_carries 171 = .ok (.iadd, 1) := by decide +kernel
theorem dX5_carries_172 : decode cX5_carries 172 = .ok (.iload 6, 2) := by decide +kernel
theorem dX5_carries_174 : decode cX5_carries 174 = .ok (.iastore, 1) := by decide +kernel
theorem dX5_carries_175 : decode cX5_carries 175 = .ok (.aload_n 0, 1) := by decide +kernel
theorem dX5_carries_176 : decode cX5_carries 176 = .ok (.getfield 16, 3) := by decide +kernel
theorem dX5_carries_179 : decode cX5_carries 179 = .ok (.sipush 256, 3) := by decide +kernel
theorem dX5_carries_182 : decode cX5_carries 182 = .ok (.iload_n 1, 1) := by decide +kernel
theorem dX5_carries_183 : decode cX5_carries 183 = .ok (.imul, 1) := by decide +kernel
theorem dX5_carries_184 : decode cX5_carries 184 = .ok (.iload 7, 2) := by decide +kernel
theorem dX5_carries_186 : decode cX5_carries 186 = .ok (.iadd, 1) := by decide +kernel
theorem dX5_carries_187 : decode cX5_carries 187 = .ok (.iconst 1, 1) := by decide +kernel
theorem dX5_carries_188 : decode cX5_carries 188 = .ok (.bastore, 1) := by decide +kernel
theorem dX5_carries_189 : decode cX5_carries 189 = .ok (.aload_n 0, 1) := by decide +kernel
theorem dX5_carries_190 : decode cX5_carries 190 = .ok (.getfield 23, 3) := by decide +kernel
theorem dX5_carries_193 : decode cX5_carries 193 = .ok (.iload_n 1, 1) := by decide +kernel
theorem dX5_carries_194 : decode cX5_carries 194 = .ok (.dup2, 1) := by decide +kernel
theorem dX5_carries_195 : decode cX5_carries 195 = .ok (.iaload, 1) := by decide +kernel
theorem dX5_carries_196 : decode cX5_carries 196 = .ok (.iconst 1, 1) := by decide +kernel
theorem dX5_carries_197 : decode cX5_carries 197 = .ok (.iadd, 1) := by decide +kernel
theorem dX5_carries_198 : decode cX5_carries 198 = .ok (.iastore, 1) := by decide +kernel
theorem dX5_carries_199 : decode cX5_carries 199 = .ok (.iload 8, 2) := by decide +kernel
theorem dX5_carries_201 : decode cX5_carries 201 = .ok (.ireturn, 1) := by decide +kernel
set_option maxRecDepth 20000 in
theorem ggX5_takes_X5_distance : GoodIn wsX5_takes wsX5_distance := goodIn_r _ [11, 3, 1, 12, 13, 14, 10, 15, 16, 17, 18, 19, 20, 21, 22, 23, 24, 25, 26, 27, 28, 29, 30, 31, 32, 33, 34, 35, 36, 37, 38] (by decide +kernel) (by decide +kernel)
set_option maxRecDepth 20000 in
theorem gX5_takes_X5_distance : GoodIn wsX5_takes (wsV RX5 61 RX5 yX5_distance wsX5_distance) := goodIn_app (goodIn_of _ (by decide +kernel)) ggX5_takes_X5_distance
theorem dX5_takes_0 : decode cX5_takes 0 = .ok (.iload_n 2, 1) := by decide +kernel
theorem dX5_takes_1 : decode cX5_takes 1 = .ok (.istore_n 3, 1) := by decide +kernel
theorem dX5_takes_2 : decode cX5_takes 2 = .ok (.iload_n 3, 1) := by decide +kernel
theorem dX5_takes_3 : decode cX5_takes 3 = .ok (.iconst 1, 1) := by decide +kernel
theorem dX5_takes_4 : decode cX5_takes 4 = .ok (.iadd, 1) := by decide +kernel
theorem dX5_takes_5 : decode cX5_takes 5 = .ok (.aload_n 0, 1) := by decide +kernel
theorem dX5_takes_6 : decode cX5_takes 6 = .ok (.getfield 20, 3) := by decide +kernel
theorem dX5_takes_9 : decode cX5_takes 9 = .ok (.iload_n 1, 1) := by decide +kernel
theorem dX5_takes_10 : decode cX5_takes 10 = .ok (.iaload, 1) := by decide +kernel
theorem dX5_takes_11 : decode cX5_takes 11 = .ok (.iconst 1, 1) := by decide +kernel
theorem dX5_takes_12 : decode cX5_takes 12 = .ok (.isub, 1) := by decide +kernel
theorem dX5_takes_13 : decode cX5_takes 13 = .ok (.iand, 1) := by decide +kernel
theorem dX5_takes_14 : decode cX5_takes 14 = .ok (.istore 4, 2) := by decide +kernel
theorem dX5_takes_16 : decode cX5_takes 16 = .ok (.aload_n 0, 1) := by decide +kernel
theorem dX5_takes_17 : decode cX5_takes 17 = .ok (.getfield 16, 3) := by decide +kernel
theorem dX5_takes_20 : decode cX5_takes 20 = .ok (.sipush 256, 3) := by decide +kernel
theorem dX5_takes_23 : decode cX5_takes 23 = .ok (.iload_n 1, 1) := by decide +kernel
theorem dX5_takes_24 : decode cX5_takes 24 = .ok (.imul, 1) := by decide +kernel
theorem dX5_takes_25 : decode cX5_takes 25 = .ok (.iload_n 3, 1) := by decide +kernel
theorem dX5_takes_26 : decode cX5_takes 26 = .ok (.iadd, 1) := by decide +kernel
theorem dX5_takes_27 : decode cX5_takes 27 = .ok (.iconst 0, 1) := by decide +kernel
theorem dX5_takes_28 : decode cX5_takes 28 = .ok (.bastore, 1) := by decide +kernel
theorem dX5_takes_29 : decode cX5_takes 29 = .ok (.aload_n 0, 1) := by decide +kernel
theorem dX5_takes_30 : decode cX5_takes 30 = .ok (.getfield 16, 3) := by decide +kernel
theorem dX5_takes_33 : decode cX5_takes 33 = .ok (.sipush 256, 3) := by decide +kernel
theorem dX5_takes_36 : decode cX5_takes 36 = .ok (.iload_n 1, 1) := by decide +kernel
theorem dX5_takes_37 : decode cX5_takes 37 = .ok (.imul, 1) := by decide +kernel
theorem dX5_takes_38 : decode cX5_takes 38 = .ok (.iload 4, 2) := by decide +kernel
theorem dX5_takes_40 : decode cX5_takes 40 = .ok (.iadd, 1) := by decide +kernel
theorem dX5_takes_41 : decode cX5_takes 41 = .ok (.baload, 1) := by decide +kernel
theorem dX5_takes_42 : decode cX5_takes 42 = .ok (.ifCond .eq 110, 3) := by decide +kernel
theorem dX5_takes_45 : decode cX5_takes 45 = .ok (.aload_n 0, 1) := by decide +kernel
theorem dX5_takes_46 : decode cX5_takes 46 = .ok (.iload_n 1, 1) := by decide +kernel
theorem dX5_takes_47 : decode cX5_takes 47 = .ok (.iload 4, 2) := by decide +kernel
theorem dX5_takes_49 : decode cX5_takes 49 = .ok (.invokevirtual 61, 3) := by decide +kernel
theorem dX5_takes_52 : decode cX5_takes 52 = .ok (.ifCond .le 100, 3) := by decide +kernel
theorem dX5_takes_55 : decode cX5_takes 55 = .ok (.aload_n 0, 1) := by decide +kernel
theorem dX5_takes_56 : decode cX5_takes 56 = .ok (.getfield 7, 3) := by decide +kernel
theorem dX5_takes_59 : decode cX5_takes 59 = .ok (.sipush 256, 3) := by decide +kernel
theorem dX5_takes_62 : decode cX5_takes 62 = .ok (.iload_n 1, 1) := by decide +kernel
theorem dX5_takes_63 : decode cX5_takes 63 = .ok (.imul, 1) := by decide +kernel
theorem dX5_takes_64 : decode cX5_takes 64 = .ok (.iload_n 3, 1) := by decide +kernel
theorem dX5_takes_65 : decode cX5_takes 65 = .ok (.iadd, 1) := by decide +kernel
theorem dX5_takes_66 : decode cX5_takes 66 = .ok (.aload_n 0, 1) := by decide +kernel
theorem dX5_takes_67 : decode cX5_takes 67 = .ok (.getfield 7, 3) := by decide +kernel
theorem dX5_takes_70 : decode cX5_takes 70 = .ok (.sipush 256, 3) := by decide +kernel
theorem dX5_takes_73 : decode cX5_takes 73 = .ok (.iload_n 1, 1) := by decide +kernel
theorem dX5_takes_74 : decode cX5_takes 74 = .ok (.imul, 1) := by decide +kernel
theorem dX5_takes_75 : decode cX5_takes 75 = .ok (.iload 4, 2) := by decide +kernel
theorem dX5_takes_77 : decode cX5_takes 77 = .ok (.iadd, 1) := by decide +kernel
theorem dX5_takes_78 : decode cX5_takes 78 = .ok (.iaload, 1) := by decide +kernel
theorem dX5_takes_79 : decode cX5_takes 79 = .ok (.iastore, 1) := by decide +kernel
theorem dX5_takes_80 : decode cX5_takes 80 = .ok (.aload_n 0, 1) := by decide +kernel
theorem dX5_takes_81 : decode cX5_takes 81 = .ok (.getfield 13, 3) := by decide +kernel
theorem dX5_takes_84 : decode cX5_takes 84 = .ok (.sipush 256, 3) := by decide +kernel
theorem dX5_takes_87 : decode cX5_takes 87 = .ok (.iload_n 1, 1) := by decide +kernel
theorem dX5_takes_88 : decode cX5_takes 88 = .ok (.imul, 1) := by decide +kernel
theorem dX5_takes_89 : decode cX5_takes 89 = .ok (.iload_n 3, 1) := by decide +kernel
theorem dX5_takes_90 : decode cX5_takes 90 = .ok (.iadd, 1) := by decide +kernel
theorem dX5_takes_91 : decode cX5_takes 91 = .ok (.aload_n 0, 1) := by decide +kernel
theorem dX5_takes_92 : decode cX5_takes 92 = .ok (.getfield 13, 3) := by decide +kernel
theorem dX5_takes_95 : decode cX5_takes 95 = .ok (.sipush 256, 3) := by decide +kernel
theorem dX5_takes_98 : decode cX5_takes 98 = .ok (.iload_n 1, 1) := by decide +kernel
theorem dX5_takes_99 : decode cX5_takes 99 = .ok (.imul, 1) := by decide +kernel
theorem dX5_takes_100 : decode cX5_takes 100 = .ok (.iload 4, 2) := by decide +kernel
theorem dX5_takes_102 : decode cX5_takes 102 = .ok (.iadd, 1) := by decide +kernel
theorem dX5_takes_103 : decode cX5_takes 103 = .ok (.iaload, 1) := by decide +kernel
theorem dX5_takes_104 : decode cX5_takes 104 = .ok (.iastore, 1) := by decide +kernel
theorem dX5_takes_105 : decode cX5_takes 105 = .ok (.aload_n 0, 1) := by decide +kernel
theorem dX5_takes_106 : decode cX5_takes 106 = .ok (.getfield 16, 3) := by decide +kernel
theorem dX5_takes_109 : decode cX5_takes 109 = .ok (.sipush 256, 3) := by decide +kernel
theorem dX5_takes_112 : decode cX5_takes 112 = .ok (.iload_n 1, 1) := by decide +kernel
theorem dX5_takes_113 : decode cX5_takes 113 = .ok (.imul, 1) := by decide +kernel
theorem dX5_takes_114 : decode cX5_takes 114 = .ok (.iload_n 3, 1) := by decide +kernel
theorem dX5_takes_115 : decode cX5_takes 115 = .ok (.iadd, 1) := by decide +kernel
theorem dX5_takes_116 : decode cX5_takes 116 = .ok (.iconst 1, 1) := by decide +kernel
theorem dX5_takes_117 : decode cX5_takes 117 = .ok (.bastore, 1) := by decide +kernel
theorem dX5_takes_118 : decode cX5_takes 118 = .ok (.aload_n 0, 1) := by decide +kernel
theorem dX5_takes_119 : decode cX5_takes 119 = .ok (.getfield 16, 3) := by decide +kernel
theorem dX5_takes_122 : decode cX5_takes 122 = .ok (.sipush 256, 3) := by decide +kernel
theorem dX5_takes_125 : decode cX5_takes 125 = .ok (.iload_n 1, 1) := by decide +kernel
theorem dX5_takes_126 : decode cX5_takes 126 = .ok (.imul, 1) := by decide +kernel
theorem dX5_takes_127 : decode cX5_takes 127 = .ok (.iload 4, 2) := by decide +kernel
theorem dX5_takes_129 : decode cX5_takes 129 = .ok (.iadd, 1) := by decide +kernel
theorem dX5_takes_130 : decode cX5_takes 130 = .ok (.iconst 0, 1) := by decide +kernel
theorem dX5_takes_131 : decode cX5_takes 131 = .ok (.bastore, 1) := by decide +kernel
theorem dX5_takes_132 : decode cX5_takes 132 = .ok (.iload 4, 2) := by decide +kernel
theorem dX5_takes_134 : decode cX5_takes 134 = .ok (.istore_n 3, 1) := by decide +kernel
theorem dX5_takes_135 : decode cX5_takes 135 = .ok (.iload_n 3, 1) := by decide +kernel
theorem dX5_takes_136 : decode cX5_takes 136 = .ok (.iconst 1, 1) := by decide +kernel
theorem dX5_takes_137 : decode cX5_takes 137 = .ok (.iadd, 1) := by decide +kernel
theorem dX5_takes_138 : decode cX5_takes 138 = .ok (.aload_n 0, 1) := by decide +kernel
theorem dX5_takes_139 : decode cX5_takes 139 = .ok (.getfield 20, 3) := by decide +kernel
theorem dX5_takes_142 : decode cX5_takes 142 = .ok (.iload_n 1, 1) := by decide +kernel
theorem dX5_takes_143 : decode cX5_takes 143 = .ok (.iaload, 1) := by decide +kernel
theorem dX5_takes_144 : decode cX5_takes 144 = .ok (.iconst 1, 1) := by decide +kernel
theorem dX5_takes_145 : decode cX5_takes 145 = .ok (.isub, 1) := by decide +kernel
theorem dX5_takes_146 : decode cX5_takes 146 = .ok (.iand, 1) := by decide +kernel
theorem dX5_takes_147 : decode cX5_takes 147 = .ok (.istore 4, 2) := by decide +kernel
theorem dX5_takes_149 : decode cX5_takes 149 = .ok (.goto (-120), 3) := by decide +kernel
theorem dX5_takes_152 : decode cX5_takes 152 = .ok (.aload_n 0, 1) := by decide +kernel
theorem dX5_takes_153 : decode cX5_takes 153 = .ok (.getfield 23, 3) := by decide +kernel
theorem dX5_takes_156 : decode cX5_takes 156 = .ok (.iload_n 1, 1) := by decide +kernel
theorem dX5_takes_157 : decode cX5_takes 157 = .ok (.dup2, 1) := by decide +kernel
theorem dX5_takes_158 : decode cX5_takes 158 = .ok (.iaload, 1) := by decide +kernel
theorem dX5_takes_159 : decode cX5_takes 159 = .ok (.iconst 1, 1) := by decide +kernel
theorem dX5_takes_160 : decode cX5_takes 160 = .ok (.isub, 1) := by decide +kernel
theorem dX5_takes_161 : decode cX5_takes 161 = .ok (.iastore, 1) := by decide +kernel
theorem dX5_takes_162 : decode cX5_takes 162 = .ok (.iload_n 1, 1) := by decide +kernel
theorem dX5_takes_163 : decode cX5_takes 163 = .ok (.aload_n 0, 1) := by decide +kernel
theorem dX5_takes_164 : decode cX5_takes 164 = .ok (.getfield 64, 3) := by decide +kernel
theorem dX5_takes_167 : decode cX5_takes 167 = .ok (.if_icmp .eq 19, 3) := by decide +kernel
theorem dX5_takes_170 : decode cX5_takes 170 = .ok (.aload_n 0, 1) := by decide +kernel
theorem dX5_takes_171 : decode cX5_takes 171 = .ok (.getfield 23, 3) := by decide +kernel
theorem dX5_takes_174 : decode cX5_takes 174 = .ok (.iload_n 1, 1) := by decide +kernel
theorem dX5_takes_175 : decode cX5_takes 175 = .ok (.iaload, 1) := by decide +kernel
theorem dX5_takes_176 : decode cX5_takes 176 = .ok (.ifCond .ne 10, 3) := by decide +kernel
theorem dX5_takes_179 : decode cX5_takes 179 = .ok (.aload_n 0, 1) := by decide +kernel
theorem dX5_takes_180 : decode cX5_takes 180 = .ok (.getfield 20, 3) := by decide +kernel
theorem dX5_takes_183 : decode cX5_takes 183 = .ok (.iload_n 1, 1) := by decide +kernel
theorem dX5_takes_184 : decode cX5_takes 184 = .ok (.iconst 0, 1) := by decide +kernel
theorem dX5_takes_185 : decode cX5_takes 185 = .ok (.iastore, 1) := by decide +kernel
theorem dX5_takes_186 : decode cX5_takes 186 = .ok (.return_, 1) := by decide +kernel
set_option maxRecDepth 20000 in
theorem ggX5_slice_X5_takes : GoodIn wsX5_slice wsX5_takes := goodIn_r _ [10, 11, 3, 4, 5, 2, 1, 12, 13, 14, 9, 15, 16, 17, 18, 19, 20, 21, 22, 23, 24, 25, 30, 31, 32, 33, 34, 35, 36, 37, 38, 39, 40, 41, 42, 43, 44, 45, 46] (by decide +kernel) (by decide +kernel)
set_option maxRecDepth 20000 in
theorem gX5_slice_X5_takes : GoodIn wsX5_slice (wsV RX5 67 RX5 yX5_takes wsX5_takes) := goodIn_app (goodIn_of _ (by decide +kernel)) ggX5_slice_X5_takes
set_option maxRecDepth 20000 in
theorem ggX5_slice_X5_carries : GoodIn wsX5_slice wsX5_carries := goodIn_r _ [29, 3, 4, 5, 11, 2, 16, 17, 18, 9, 19, 20, 21, 22, 23, 24, 25, 12, 13, 14, 15, 30, 31, 32, 33, 34, 35, 36, 37, 38, 39, 40, 41, 42, 43, 44, 45, 46] (by decide +kernel) (by decide +kernel)
set_option maxRecDepth 20000 in
theorem gX5_slice_X5_carries : GoodIn wsX5_slice (wsV RX5 71 RX5 yX5_carries wsX5_carries) := goodIn_app (goodIn_of _ (by decide +kernel)) ggX5_slice_X5_carries
theorem dX5_slice_0 : decode cX5_slice 0 = .ok (.iconst 1, 1) := by decide +kernel
theorem dX5_slice_1 : decode cX5_slice 1 = .ok (.aload_n 0, 1) := by decide +kernel
theorem dX5_slice_2 : decode cX5_slice 2 = .ok (.getfield 64, 3) := by decide +kernel
theorem dX5_slice_5 : decode cX5_slice 5 = .ok (.isub, 1) := by decide +kernel
theorem dX5_slice_6 : decode cX5_slice 6 = .ok (.istore_n 1, 1) := by decide +kernel
theorem dX5_slice_7 : decode cX5_slice 7 = .ok (.iconst 0, 1) := by decide +kernel
theorem dX5_slice_8 : decode cX5_slice 8 = .ok (.istore_n 2, 1) := by decide +kernel
theorem dX5_slice_9 : decode cX5_slice 9 = .ok (.iload_n 2, 1) := by decide +kernel
theorem dX5_slice_10 : decode cX5_slice 10 = .ok (.iconst 4, 1) := by decide +kernel
theorem dX5_slice_11 : decode cX5_slice 11 = .ok (.if_icmp .ge 89, 3) := by decide +kernel
theorem dX5_slice_14 : decode cX5_slice 14 = .ok (.aload_n 0, 1) := by decide +kernel
theorem dX5_slice_15 : decode cX5_slice 15 = .ok (.getfield 23, 3) := by decide +kernel
theorem dX5_slice_18 : decode cX5_slice 18 = .ok (.iload_n 1, 1) := by decide +kernel
theorem dX5_slice_19 : decode cX5_slice 19 = .ok (.iaload, 1) := by decide +kernel
theorem dX5_slice_20 : decode cX5_slice 20 = .ok (.ifCond .le 80, 3) := by decide +kernel
theorem dX5_slice_23 : decode cX5_slice 23 = .ok (.iconst 0, 1) := by decide +kernel
theorem dX5_slice_24 : decode cX5_slice 24 = .ok (.istore_n 3, 1) := by decide +kernel
theorem dX5_slice_25 : decode cX5_slice 25 = .ok (.aload_n 0, 1) := by decide +kernel
theorem dX5_slice_26 : decode cX5_slice 26 = .ok (.getfield 16, 3) := by decide +kernel
theorem dX5_slice_29 : decode cX5_slice 29 = .ok (.sipush 256, 3) := by decide +kernel
theorem dX5_slice_32 : decode cX5_slice 32 = .ok (.iload_n 1, 1) := by decide +kernel
theorem dX5_slice_33 : decode cX5_slice 33 = .ok (.imul, 1) := by decide +kernel
theorem dX5_slice_34 : decode cX5_slice 34 = .ok (.iload_n 3, 1) := by decide +kernel
theorem dX5_slice_35 : decode cX5_slice 35 = .ok (.iadd, 1) := by decide +kernel
theorem dX5_slice_36 : decode cX5_slice 36 = .ok (.baload, 1) := by decide +kernel
theorem dX5_slice_37 : decode cX5_slice 37 = .ok (.ifCond .ne 9, 3) := by decide +kernel
theorem dX5_slice_40 : decode cX5_slice 40 = .ok (.iinc 3 1, 3) := by decide +kernel
theorem dX5_slice_43 : decode cX5_slice 43 = .ok (.goto (-18), 3) := by decide +kernel
theorem dX5_slice_46 : decode cX5_slice 46 = .ok (.aload_n 0, 1) := by decide +kernel
theorem dX5_slice_47 : decode cX5_slice 47 = .ok (.getfield 7, 3) := by decide +kernel
theorem dX5_slice_50 : decode cX5_slice 50 = .ok (.sipush 256, 3) := by decide +kernel
theorem dX5_slice_53 : decode cX5_slice 53 = .ok (.iload_n 1, 1) := by decide +kernel
theorem dX5_slice_54 : decode cX5_slice 54 = .ok (.imul, 1) := by decide +kernel
theorem dX5_slice_55 : decode cX5_slice 55 = .ok (.iload_n 3, 1) := by decide +kernel
theorem dX5_slice_56 : decode cX5_slice 56 = .ok (.iadd, 1) := by decide +kernel
theorem dX5_slice_57 : decode cX5_slice 57 = .ok (.iaload, 1) := by decide +kernel
theorem dX5_slice_58 : decode cX5_slice 58 = .ok (.istore 4, 2) := by decide +kernel
theorem dX5_slice_60 : decode cX5_slice 60 = .ok (.aload_n 0, 1) := by decide +kernel
theorem dX5_slice_61 : decode cX5_slice 61 = .ok (.getfield 13, 3) := by decide +kernel
theorem dX5_slice_64 : decode cX5_slice 64 = .ok (.sipush 256, 3) := by decide +kernel
theorem dX5_slice_67 : decode cX5_slice 67 = .ok (.iload_n 1, 1) := by decide +kernel
theorem dX5_slice_68 : decode cX5_slice 68 = .ok (.imul, 1) := by decide +kernel
theorem dX5_slice_69 : decode cX5_slice 69 = .ok (.iload_n 3, 1) := by decide +kernel
theorem dX5_slice_70 : decode cX5_slice 70 = .ok (.iadd, 1) := by decide +kernel
theorem dX5_slice_71 : decode cX5_slice 71 = .ok (.iaload, 1) := by decide +kernel
theorem dX5_slice_72 : decode cX5_slice 72 = .ok (.istore 5, 2) := by decide +kernel
theorem dX5_slice_74 : decode cX5_slice 74 = .ok (.aload_n 0, 1) := by decide +kernel
theorem dX5_slice_75 : decode cX5_slice 75 = .ok (.iload_n 1, 1) := by decide +kernel
theorem dX5_slice_76 : decode cX5_slice 76 = .ok (.iload_n 3, 1) := by decide +kernel
theorem dX5_slice_77 : decode cX5_slice 77 = .ok (.invokevirtual 67, 3) := by decide +kernel
theorem dX5_slice_80 : decode cX5_slice 80 = .ok (.aload_n 0, 1) := by decide +kernel
theorem dX5_slice_81 : decode cX5_slice 81 = .ok (.aload_n 0, 1) := by decide +kernel
theorem dX5_slice_82 : decode cX5_slice 82 = .ok (.getfield 64, 3) := by decide +kernel
theorem dX5_slice_85 : decode cX5_slice 85 = .ok (.iload 4, 2) := by decide +kernel
theorem dX5_slice_87 : decode cX5_slice 87 = .ok (.iload 5, 2) := by decide +kernel
theorem dX5_slice_89 : decode cX5_slice 89 = .ok (.iconst 0, 1) := by decide +kernel
theorem dX5_slice_90 : decode cX5_slice 90 = .ok (.invokevirtual 71, 3) := by decide +kernel
theorem dX5_slice_93 : decode cX5_slice 93 = .ok (.pop, 1) := by decide +kernel
theorem dX5_slice_94 : decode cX5_slice 94 = .ok (.iinc 2 1, 3) := by decide +kernel
theorem dX5_slice_97 : decode cX5_slice 97 = .ok (.goto (-88), 3) := by decide +kernel
theorem dX5_slice_100 : decode cX5_slice 100 = .ok (.iload_n 2, 1) := by decide +kernel
theorem dX5_slice_101 : decode cX5_slice 101 = .ok (.ireturn, 1) := by decide +kernel
set_option maxRecDepth 20000 in
theorem ggX5_clear_X5_in : GoodIn wsX5_clear wsX5_in := goodIn_r _ [11] (by decide +kernel) (by decide +kernel)
set_option maxRecDepth 20000 in
theorem gX5_clear_X5_in : GoodIn wsX5_clear (va_wsS RX5 75 yX5_in wsX5_in) := goodIn_app (goodIn_of _ (by decide +kernel)) ggX5_clear_X5_in
set_option maxRecDepth 20000 in
theorem ggX5_clear_X5_isFine : GoodIn wsX5_clear wsX5_isFine := goodIn_r _ [15, 16, 17, 18, 19, 20, 21, 22, 23, 24, 25, 26, 27, 28, 29, 30, 31, 32, 33] (by decide +kernel) (by decide +kernel)
set_option maxRecDepth 20000 in
theorem gX5_clear_X5_isFine : GoodIn wsX5_clear (wsV RX5 79 RX5 yX5_isFine wsX5_isFine) := goodIn_app (goodIn_of _ (by decide +kernel)) ggX5_clear_X5_isFine
theorem dX5_clear_0 : decode cX5_clear 0 = .ok (.aload_n 0, 1) := by decide +kernel
theorem dX5_clear_1 : decode cX5_clear 1 = .ok (.iload_n 1, 1) := by decide +kernel
theorem dX5_clear_2 : decode cX5_clear 2 = .ok (.iconst 0, 1) := by decide +kernel
theorem dX5_clear_3 : decode cX5_clear 3 = .ok (.iconst 1, 1) := by decide +kernel
theorem dX5_clear_4 : decode cX5_clear 4 = .ok (.invokestatic 75, 3) := by decide +kernel
theorem dX5_clear_7 : decode cX5_clear 7 = .ok (.ifCond .eq 7, 3) := by decide +kernel
theorem dX5_clear_10 : decode cX5_clear 10 = .ok (.iconst 0, 1) := by decide +kernel
theorem dX5_clear_11 : decode cX5_clear 11 = .ok (.goto 4, 3) := by decide +kernel
theorem dX5_clear_14 : decode cX5_clear 14 = .ok (.iconst 1, 1) := by decide +kernel
theorem dX5_clear_15 : decode cX5_clear 15 = .ok (.invokevirtual 79, 3) := by decide +kernel
theorem dX5_clear_18 : decode cX5_clear 18 = .ok (.ifCond .ne 4, 3) := by decide +kernel
theorem dX5_clear_21 : decode cX5_clear 21 = .ok (.return_, 1) := by decide +kernel
theorem dX5_clear_22 : decode cX5_clear 22 = .ok (.aload_n 0, 1) := by decide +kernel
theorem dX5_clear_23 : decode cX5_clear 23 = .ok (.iload_n 1, 1) := by decide +kernel
theorem dX5_clear_24 : decode cX5_clear 24 = .ok (.putfield 26, 3) := by decide +kernel
theorem dX5_clear_27 : decode cX5_clear 27 = .ok (.iconst 0, 1) := by decide +kernel
theorem dX5_clear_28 : decode cX5_clear 28 = .ok (.istore_n 2, 1) := by decide +kernel
theorem dX5_clear_29 : decode cX5_clear 29 = .ok (.iload_n 2, 1) := by decide +kernel
theorem dX5_clear_30 : decode cX5_clear 30 = .ok (.sipush 512, 3) := by decide +kernel
theorem dX5_clear_33 : decode cX5_clear 33 = .ok (.if_icmp .ge 16, 3) := by decide +kernel
theorem dX5_clear_36 : decode cX5_clear 36 = .ok (.aload_n 0, 1) := by decide +kernel
theorem dX5_clear_37 : decode cX5_clear 37 = .ok (.getfield 16, 3) := by decide +kernel
theorem dX5_clear_40 : decode cX5_clear 40 = .ok (.iload_n 2, 1) := by decide +kernel
theorem dX5_clear_41 : decode cX5_clear 41 = .ok (.iconst 0, 1) := by decide +kernel
theorem dX5_clear_42 : decode cX5_clear 42 = .ok (.bastore, 1) := by decide +kernel
theorem dX5_clear_43 : decode cX5_clear 43 = .ok (.iinc 2 1, 3) := by decide +kernel
theorem dX5_clear_46 : decode cX5_clear 46 = .ok (.goto (-17), 3) := by decide +kernel
theorem dX5_clear_49 : decode cX5_clear 49 = .ok (.aload_n 0, 1) := by decide +kernel
theorem dX5_clear_50 : decode cX5_clear 50 = .ok (.iconst 0, 1) := by decide +kernel
theorem dX5_clear_51 : decode cX5_clear 51 = .ok (.putfield 64, 3) := by decide +kernel
theorem dX5_clear_54 : decode cX5_clear 54 = .ok (.aload_n 0, 1) := by decide +kernel
theorem dX5_clear_55 : decode cX5_clear 55 = .ok (.getfield 20, 3) := by decide +kernel
theorem dX5_clear_58 : decode cX5_clear 58 = .ok (.iconst 0, 1) := by decide +kernel
theorem dX5_clear_59 : decode cX5_clear 59 = .ok (.bipush 8, 2) := by decide +kernel
theorem dX5_clear_61 : decode cX5_clear 61 = .ok (.iastore, 1) := by decide +kernel
theorem dX5_clear_62 : decode cX5_clear 62 = .ok (.aload_n 0, 1) := by decide +kernel
theorem dX5_clear_63 : decode cX5_clear 63 = .ok (.getfield 20, 3) := by decide +kernel
theorem dX5_clear_66 : decode cX5_clear 66 = .ok (.iconst 1, 1) := by decide +kernel
theorem dX5_clear_67 : decode cX5_clear 67 = .ok (.iconst 0, 1) := by decide +kernel
theorem dX5_clear_68 : decode cX5_clear 68 = .ok (.iastore, 1) := by decide +kernel
theorem dX5_clear_69 : decode cX5_clear 69 = .ok (.aload_n 0, 1) := by decide +kernel
theorem dX5_clear_70 : decode cX5_clear 70 = .ok (.getfield 23, 3) := by decide +kernel
theorem dX5_clear_73 : decode cX5_clear 73 = .ok (.iconst 0, 1) := by decide +kernel
theorem dX5_clear_74 : decode cX5_clear 74 = .ok (.iconst 0, 1) := by decide +kernel
theorem dX5_clear_75 : decode cX5_clear 75 = .ok (.iastore, 1) := by decide +kernel
theorem dX5_clear_76 : decode cX5_clear 76 = .ok (.aload_n 0, 1) := by decide +kernel
theorem dX5_clear_77 : decode cX5_clear 77 = .ok (.getfield 23, 3) := by decide +kernel
theorem dX5_clear_80 : decode cX5_clear 80 = .ok (.iconst 1, 1) := by decide +kernel
theorem dX5_clear_81 : decode cX5_clear 81 = .ok (.iconst 0, 1) := by decide +kernel
theorem dX5_clear_82 : decode cX5_clear 82 = .ok (.iastore, 1) := by decide +kernel
theorem dX5_clear_83 : decode cX5_clear 83 = .ok (.aload_n 0, 1) := by decide +kernel
theorem dX5_clear_84 : decode cX5_clear 84 = .ok (.iconst 0, 1) := by decide +kernel
theorem dX5_clear_85 : decode cX5_clear 85 = .ok (.putfield 83, 3) := by decide +kernel
theorem dX5_clear_88 : decode cX5_clear 88 = .ok (.iconst 0, 1) := by decide +kernel
theorem dX5_clear_89 : decode cX5_clear 89 = .ok (.istore_n 2, 1) := by decide +kernel
theorem dX5_clear_90 : decode cX5_clear 90 = .ok (.iload_n 2, 1) := by decide +kernel
theorem dX5_clear_91 : decode cX5_clear 91 = .ok (.iconst 4, 1) := by decide +kernel
theorem dX5_clear_92 : decode cX5_clear 92 = .ok (.if_icmp .ge 16, 3) := by decide +kernel
theorem dX5_clear_95 : decode cX5_clear 95 = .ok (.aload_n 0, 1) := by decide +kernel
theorem dX5_clear_96 : decode cX5_clear 96 = .ok (.getfield 30, 3) := by decide +kernel
theorem dX5_clear_99 : decode cX5_clear 99 = .ok (.iload_n 2, 1) := by decide +kernel
theorem dX5_clear_100 : decode cX5_clear 100 = .ok (.iconst 0, 1) := by decide +kernel
theorem dX5_clear_101 : decode cX5_clear 101 = .ok (.bastore, 1) := by decide +kernel
theorem dX5_clear_102 : decode cX5_clear 102 = .ok (.iinc 2 1, 3) := by decide +kernel
theorem dX5_clear_105 : decode cX5_clear 105 = .ok (.goto (-15), 3) := by decide +kernel
theorem dX5_clear_108 : decode cX5_clear 108 = .ok (.return_, 1) := by decide +kernel
set_option maxRecDepth 20000 in
theorem ggX5_isThere_X5_slotOf : GoodIn wsX5_isThere wsX5_slotOf := goodIn_r _ [5, 6, 7, 8, 9, 10, 11, 12, 13, 14, 15, 16, 17, 18, 19, 20, 21, 22, 23, 24, 25] (by decide +kernel) (by decide +kernel)
set_option maxRecDepth 20000 in
theorem gX5_isThere_X5_slotOf : GoodIn wsX5_isThere (wsV RX5 86 RX5 yX5_slotOf wsX5_slotOf) := goodIn_app (goodIn_of _ (by decide +kernel)) ggX5_isThere_X5_slotOf
theorem dX5_isThere_0 : decode cX5_isThere 0 = .ok (.aload_n 0, 1) := by decide +kernel
theorem dX5_isThere_1 : decode cX5_isThere 1 = .ok (.iconst 0, 1) := by decide +kernel
theorem dX5_isThere_2 : decode cX5_isThere 2 = .ok (.iload_n 1, 1) := by decide +kernel
theorem dX5_isThere_3 : decode cX5_isThere 3 = .ok (.invokevirtual 86, 3) := by decide +kernel
theorem dX5_isThere_6 : decode cX5_isThere 6 = .ok (.iconst (-1), 1) := by decide +kernel
theorem dX5_isThere_7 : decode cX5_isThere 7 = .ok (.if_icmp .ne 13, 3) := by decide +kernel
theorem dX5_isThere_10 : decode cX5_isThere 10 = .ok (.aload_n 0, 1) := by decide +kernel
theorem dX5_isThere_11 : decode cX5_isThere 11 = .ok (.iconst 1, 1) := by decide +kernel
theorem dX5_isThere_12 : decode cX5_isThere 12 = .ok (.iload_n 1, 1) := by decide +kernel
theorem dX5_isThere_13 : decode cX5_isThere 13 = .ok (.invokevirtual 86, 3) := by decide +kernel
theorem dX5_isThere_16 : decode cX5_isThere 16 = .ok (.iconst (-1), 1) := by decide +kernel
theorem dX5_isThere_17 : decode cX5_isThere 17 = .ok (.if_icmp .eq 7, 3) := by decide +kernel
theorem dX5_isThere_20 : decode cX5_isThere 20 = .ok (.iconst 1, 1) := by decide +kernel
theorem dX5_isThere_21 : decode cX5_isThere 21 = .ok (.goto 4, 3) := by decide +kernel
theorem dX5_isThere_24 : decode cX5_isThere 24 = .ok (.iconst 0, 1) := by decide +kernel
theorem dX5_isThere_25 : decode cX5_isThere 25 = .ok (.ireturn, 1) := by decide +kernel
set_option maxRecDepth 20000 in
theorem ggX5_placeOf_X5_slotOf : GoodIn wsX5_placeOf wsX5_slotOf := goodIn_r _ [5, 6, 7, 8, 13, 14, 15, 16, 17, 18, 19, 20, 21, 22, 23, 24, 25, 26, 27, 28, 29] (by decide +kernel) (by decide +kernel)
set_option maxRecDepth 20000 in
theorem gX5_placeOf_X5_slotOf : GoodIn wsX5_placeOf (wsV RX5 86 RX5 yX5_slotOf wsX5_slotOf) := goodIn_app (goodIn_of _ (by decide +kernel)) ggX5_placeOf_X5_slotOf
set_option maxRecDepth 20000 in
theorem ggX5_placeOf_X5_isThere : GoodIn wsX5_placeOf wsX5_isThere := goodIn_r _ [12, 1, 2, 3, 4, 5, 6, 7, 8, 13, 14, 15, 16, 17, 18, 19, 20, 21, 22, 23, 24, 25, 26, 27, 28, 29] (by decide +kernel) (by decide +kernel)
set_option maxRecDepth 20000 in
theorem gX5_placeOf_X5_isThere : GoodIn wsX5_placeOf (wsV RX5 89 RX5 yX5_isThere wsX5_isThere) := goodIn_app (goodIn_of _ (by decide +kernel)) ggX5_placeOf_X5_isThere
theorem dX5_placeOf_0 : decode cX5_placeOf 0 = .ok (.aload_n 0, 1) := by decide +kernel
theorem dX5_placeOf_1 : decode cX5_placeOf 1 = .ok (.iconst 0, 1) := by decide +kernel
theorem dX5_placeOf_2 : decode cX5_placeOf 2 = .ok (.iload_n 1, 1) := by decide +kernel
theorem dX5_placeOf_3 : decode cX5_placeOf 3 = .ok (.invokevirtual 86, 3) := by decide +kernel
theorem dX5_placeOf_6 : decode cX5_placeOf 6 = .ok (.iconst (-1), 1) := by decide +kernel
theorem dX5_placeOf_7 : decode cX5_placeOf 7 = .ok (.if_icmp .eq 7, 3) := by decide +kernel
theorem dX5_placeOf_10 : decode cX5_placeOf 10 = .ok (.iconst 0, 1) := by decide +kernel
theorem dX5_placeOf_11 : decode cX5_placeOf 11 = .ok (.goto 4, 3) := by decide +kernel
theorem dX5_placeOf_14 : decode cX5_placeOf 14 = .ok (.iconst 1, 1) := by decide +kernel
theorem dX5_placeOf_15 : decode cX5_placeOf 15 = .ok (.istore_n 2, 1) := by decide +kernel
theorem dX5_placeOf_16 : decode cX5_placeOf 16 = .ok (.aload_n 0, 1) := by decide +kernel
theorem dX5_placeOf_17 : decode cX5_placeOf 17 = .ok (.iload_n 1, 1) := by decide +kernel
theorem dX5_placeOf_18 : decode cX5_placeOf 18 = .ok (.invokevirtual 89, 3) := by decide +kernel
theorem dX5_placeOf_21 : decode cX5_placeOf 21 = .ok (.ifCond .eq 18, 3) := by decide +kernel
theorem dX5_placeOf_24 : decode cX5_placeOf 24 = .ok (.sipush 256, 3) := by decide +kernel
theorem dX5_placeOf_27 : decode cX5_placeOf 27 = .ok (.iload_n 2, 1) := by decide +kernel
theorem dX5_placeOf_28 : decode cX5_placeOf 28 = .ok (.imul, 1) := by decide +kernel
theorem dX5_placeOf_29 : decode cX5_placeOf 29 = .ok (.aload_n 0, 1) := by decide +kernel
theorem dX5_placeOf_30 : decode cX5_placeOf 30 = .ok (.iload_n 2, 1) := by decide +kernel
theorem dX5_placeOf_31 : decode cX5_placeOf 31 = .ok (.iload_n 1, 1) := by decide +kernel
theorem dX5_placeOf_32 : decode cX5_placeOf 32 = .ok (.invokevirtual 86, 3) := by decide +kernel
theorem dX5_placeOf_35 : decode cX5_placeOf 35 = .ok (.iadd, 1) := by decide +kernel
theorem dX5_placeOf_36 : decode cX5_placeOf 36 = .ok (.goto 4, 3) := by decide +kernel
theorem dX5_placeOf_39 : decode cX5_placeOf 39 = .ok (.iconst (-1), 1) := by decide +kernel
theorem dX5_placeOf_40 : decode cX5_placeOf 40 = .ok (.ireturn, 1) := by decide +kernel
set_option maxRecDepth 20000 in
theorem ggX5_put_X5_placeOf : GoodIn wsX5_put wsX5_placeOf := goodIn_r _ [10, 11, 12, 13, 9, 14, 3, 15, 16, 17, 18, 19, 20, 52, 53, 54, 55, 56, 57, 58, 59, 60, 61, 62, 63, 64, 65, 66, 67, 68] (by decide +kernel) (by decide +kernel)
set_option maxRecDepth 20000 in
theorem gX5_put_X5_placeOf : GoodIn wsX5_put (wsV RX5 92 RX5 yX5_placeOf wsX5_placeOf) := goodIn_app (goodIn_of _ (by decide +kernel)) ggX5_put_X5_placeOf
set_option maxRecDepth 20000 in
theorem ggX5_put_X5_isFine : GoodIn wsX5_put wsX5_isFine := goodIn_r _ [24, 25, 52, 53, 54, 55, 56, 57, 58, 59, 60, 61, 62, 63, 64, 65, 66, 67, 68] (by decide +kernel) (by decide +kernel)
set_option maxRecDepth 20000 in
theorem gX5_put_X5_isFine : GoodIn wsX5_put (wsV RX5 79 RX5 yX5_isFine wsX5_isFine) := goodIn_app (goodIn_of _ (by decide +kernel)) ggX5_put_X5_isFine
set_option maxRecDepth 20000 in
theorem ggX5_put_X5_slice : GoodIn wsX5_put wsX5_slice := goodIn_r _ [29, 4, 1, 15, 16, 2, 30, 31, 32, 9, 33, 3, 34, 35, 36, 37, 38, 39, 40, 41, 42, 43, 44, 45, 46, 47, 48, 49, 50, 51, 52, 53, 54, 55, 56, 57, 58, 59, 60, 61, 62, 63, 64, 65, 66, 67, 68] (by decide +kernel) (by decide +kernel)
set_option maxRecDepth 20000 in
theorem gX5_put_X5_slice : GoodIn wsX5_put (wsV RX5 95 RX5 yX5_slice wsX5_slice) := goodIn_app (goodIn_of _ (by decide +kernel)) ggX5_put_X5_slice
set_option maxRecDepth 20000 in
theorem ggX5_put_X5_carries : GoodIn wsX5_put wsX5_carries := goodIn_r _ [51, 15, 16, 2, 3, 1, 38, 39, 40, 9, 41, 42, 43, 44, 45, 46, 47, 34, 35, 36, 37, 52, 53, 54, 55, 56, 57, 58, 59, 60, 61, 62, 63, 64, 65, 66, 67, 68] (by decide +kernel) (by decide +kernel)
set_option maxRecDepth 20000 in
theorem gX5_put_X5_carries : GoodIn wsX5_put (wsV RX5 71 RX5 yX5_carries wsX5_carries) := goodIn_app (goodIn_of _ (by decide +kernel)) ggX5_put_X5_carries
theorem dX5_put_0 : decode cX5_put 0 = .ok (.aload_n 0, 1) := by decide +kernel
theorem dX5_put_1 : decode cX5_put 1 = .ok (.iload_n 1, 1) := by decide +kernel
theorem dX5_put_2 : decode cX5_put 2 = .ok (.invokevirtual 92, 3) := by decide +kernel
theorem dX5_put_5 : decode cX5_put 5 = .ok (.istore_n 3, 1) := by decide +kernel
theorem dX5_put_6 : decode cX5_put 6 = .ok (.aload_n 0, 1) := by decide +kernel
theorem dX5_put_7 : decode cX5_put 7 = .ok (.iload_n 2, 1) := by decide +kernel
theorem dX5_put_8 : decode cX5_put 8 = .ok (.ifCond .ge 7, 3) := by decide +kernel
theorem dX5_put_11 : decode cX5_put 11 = .ok (.iconst 1, 1) := by decide +kernel
theorem dX5_put_12 : decode cX5_put 12 = .ok (.goto 32, 3) := by decide +kernel
theorem dX5_put_15 : decode cX5_put 15 = .ok (.iload_n 3, 1) := by decide +kernel
theorem dX5_put_16 : decode cX5_put 16 = .ok (.iconst (-1), 1) := by decide +kernel
theorem dX5_put_17 : decode cX5_put 17 = .ok (.if_icmp .ne 26, 3) := by decide +kernel
theorem dX5_put_20 : decode cX5_put 20 = .ok (.aload_n 0, 1) := by decide +kernel
theorem dX5_put_21 : decode cX5_put 21 = .ok (.getfield 23, 3) := by decide +kernel
theorem dX5_put_24 : decode cX5_put 24 = .ok (.iconst 0, 1) := by decide +kernel
theorem dX5_put_25 : decode cX5_put 25 = .ok (.iaload, 1) := by decide +kernel
theorem dX5_put_26 : decode cX5_put 26 = .ok (.aload_n 0, 1) := by decide +kernel
theorem dX5_put_27 : decode cX5_put 27 = .ok (.getfield 23, 3) := by decide +kernel
theorem dX5_put_30 : decode cX5_put 30 = .ok (.iconst 1, 1) := by decide +kernel
theorem dX5_put_31 : decode cX5_put 31 = .ok (.iaload, 1) := by decide +kernel
theorem dX5_put_32 : decode cX5_put 32 = .ok (.iadd, 1) := by decide +kernel
theorem dX5_put_33 : decode cX5_put 33 = .ok (.sipush 200, 3) := by decide +kernel
theorem dX5_put_36 : decode cX5_put 36 = .ok (.if_icmp .ne 7, 3) := by decide +kernel
theorem dX5_put_39 : decode cX5_put 39 = .ok (.iconst 2, 1) := by decide +kernel
theorem dX5_put_40 : decode cX5_put 40 = .ok (.goto 4, 3) := by decide +kernel
theorem dX5_put_43 : decode cX5_put 43 = .ok (.iconst 0, 1) := by decide +kernel
theorem dX5_put_44 : decode cX5_put 44 = .ok (.invokevirtual 79, 3) := by decide +kernel
theorem dX5_put_47 : decode cX5_put 47 = .ok (.ifCond .ne 5, 3) := by decide +kernel
theorem dX5_put_50 : decode cX5_put 50 = .ok (.iconst 0, 1) := by decide +kernel
theorem dX5_put_51 : decode cX5_put 51 = .ok (.ireturn, 1) := by decide +kernel
theorem dX5_put_52 : decode cX5_put 52 = .ok (.aload_n 0, 1) := by decide +kernel
theorem dX5_put_53 : decode cX5_put 53 = .ok (.invokevirtual 95, 3) := by decide +kernel
theorem dX5_put_56 : decode cX5_put 56 = .ok (.pop, 1) := by decide +kernel
theorem dX5_put_57 : decode cX5_put 57 = .ok (.iload_n 3, 1) := by decide +kernel
theorem dX5_put_58 : decode cX5_put 58 = .ok (.iconst (-1), 1) := by decide +kernel
theorem dX5_put_59 : decode cX5_put 59 = .ok (.if_icmp .eq 27, 3) := by decide +kernel
theorem dX5_put_62 : decode cX5_put 62 = .ok (.aload_n 0, 1) := by decide +kernel
theorem dX5_put_63 : decode cX5_put 63 = .ok (.iload_n 1, 1) := by decide +kernel
theorem dX5_put_64 : decode cX5_put 64 = .ok (.invokevirtual 92, 3) := by decide +kernel
theorem dX5_put_67 : decode cX5_put 67 = .ok (.istore_n 3, 1) := by decide +kernel
theorem dX5_put_68 : decode cX5_put 68 = .ok (.aload_n 0, 1) := by decide +kernel
theorem dX5_put_69 : decode cX5_put 69 = .ok (.getfield 13, 3) := by decide +kernel
theorem dX5_put_72 : decode cX5_put 72 = .ok (.iload_n 3, 1) := by decide +kernel
theorem dX5_put_73 : decode cX5_put 73 = .ok (.iaload, 1) := by decide +kernel
theorem dX5_put_74 : decode cX5_put 74 = .ok (.istore 4, 2) := by decide +kernel
theorem dX5_put_76 : decode cX5_put 76 = .ok (.aload_n 0, 1) := by decide +kernel
theorem dX5_put_77 : decode cX5_put 77 = .ok (.getfield 13, 3) := by decide +kernel
theorem dX5_put_80 : decode cX5_put 80 = .ok (.iload_n 3, 1) := by decide +kernel
theorem dX5_put_81 : decode cX5_put 81 = .ok (.iload_n 2, 1) := by decide +kernel
theorem dX5_put_82 : decode cX5_put 82 = .ok (.iastore, 1) := by decide +kernel
theorem dX5_put_83 : decode cX5_put 83 = .ok (.iload 4, 2) := by decide +kernel
theorem dX5_put_85 : decode cX5_put 85 = .ok (.ireturn, 1) := by decide +kernel
theorem dX5_put_86 : decode cX5_put 86 = .ok (.bipush 8, 2) := by decide +kernel
theorem dX5_put_88 : decode cX5_put 88 = .ok (.aload_n 0, 1) := by decide +kernel
theorem dX5_put_89 : decode cX5_put 89 = .ok (.getfield 23, 3) := by decide +kernel
theorem dX5_put_92 : decode cX5_put 92 = .ok (.iconst 0, 1) := by decide +kernel
theorem dX5_put_93 : decode cX5_put 93 = .ok (.iaload, 1) := by decide +kernel
theorem dX5_put_94 : decode cX5_put 94 = .ok (.aload_n 0, 1) := by decide +kernel
theorem dX5_put_95 : decode cX5_put 95 = .ok (.getfield 23, 3) := by decide +kernel
theorem dX5_put_98 : decode cX5_put 98 = .ok (.iconst 1, 1) := by decide +kernel
theorem dX5_put_99 : decode cX5_put 99 = .ok (.iaload, 1) := by decide +kernel
theorem dX5_put_100 : decode cX5_put 100 = .ok (.iadd, 1) := by decide +kernel
theorem dX5_put_101 : decode cX5_put 101 = .ok (.iconst 1, 1) := by decide +kernel
theorem dX5_put_102 : decode cX5_put 102 = .ok (.iadd, 1) := by decide +kernel
theorem dX5_put_103 : decode cX5_put 103 = .ok (.imul, 1) := by decide +kernel
theorem dX5_put_104 : decode cX5_put 104 = .ok (.bipush 7, 2) := by decide +kernel
theorem dX5_put_106 : decode cX5_put 106 = .ok (.aload_n 0, 1) := by decide +kernel
theorem dX5_put_107 : decode cX5_put 107 = .ok (.getfield 20, 3) := by decide +kernel
theorem dX5_put_110 : decode cX5_put 110 = .ok (.aload_n 0, 1) := by decide +kernel
theorem dX5_put_111 : decode cX5_put 111 = .ok (.getfield 64, 3) := by decide +kernel
theorem dX5_put_114 : decode cX5_put 114 = .ok (.iaload, 1) := by decide +kernel
theorem dX5_put_115 : decode cX5_put 115 = .ok (.imul, 1) := by decide +kernel
theorem dX5_put_116 : decode cX5_put 116 = .ok (.if_icmp .le 45, 3) := by decide +kernel
theorem dX5_put_119 : decode cX5_put 119 = .ok (.aload_n 0, 1) := by decide +kernel
theorem dX5_put_120 : decode cX5_put 120 = .ok (.iconst 1, 1) := by decide +kernel
theorem dX5_put_121 : decode cX5_put 121 = .ok (.aload_n 0, 1) := by decide +kernel
theorem dX5_put_122 : decode cX5_put 122 = .ok (.getfield 64, 3) := by decide +kernel
theorem dX5_put_125 : decode cX5_put 125 = .ok (.isub, 1) := by decide +kernel
theorem dX5_put_126 : decode cX5_put 126 = .ok (.putfield 64, 3) := by decide +kernel
theorem dX5_put_129 : decode cX5_put 129 = .ok (.aload_n 0, 1) := by decide +kernel
theorem dX5_put_130 : decode cX5_put 130 = .ok (.getfield 20, 3) := by decide +kernel
theorem dX5_put_133 : decode cX5_put 133 = .ok (.aload_n 0, 1) := by decide +kernel
theorem dX5_put_134 : decode cX5_put 134 = .ok (.getfield 64, 3) := by decide +kernel
theorem dX5_put_137 : decode cX5_put 137 = .ok (.iconst 2, 1) := by decide +kernel
theorem dX5_put_138 : decode cX5_put 138 = .ok (.aload_n 0, 1) := by decide +kernel
theorem dX5_put_139 : decode cX5_put 139 = .ok (.getfield 20, 3) := by decide +kernel
theorem dX5_put_142 : decode cX5_put 142 = .ok (.iconst 1, 1) := by decide +kernel
theorem dX5_put_143 : decode cX5_put 143 = .ok (.aload_n 0, 1) := by decide +kernel
theorem dX5_put_144 : decode cX5_put 144 = .ok (.getfield 64, 3) := by decide +kernel
theorem dX5_put_147 : decode cX5_put 147 = .ok (.isub, 1) := by decide +kernel
theorem dX5_put_148 : decode cX5_put 148 = .ok (.iaload, 1) := by decide +kernel
theorem dX5_put_149 : decode cX5_put 149 = .ok (.imul, 1) := by decide +kernel
theorem dX5_put_150 : decode cX5_put 150 = .ok (.iastore, 1) := by decide +kernel
theorem dX5_put_151 : decode cX5_put 151 = .ok (.aload_n 0, 1) := by decide +kernel
theorem dX5_put_152 : decode cX5_put 152 = .ok (.dup, 1) := by decide +kernel
theorem dX5_put_153 : decode cX5_put 153 = .ok (.getfield 83, 3) := by decide +kernel
theorem dX5_put_156 : decode cX5_put 156 = .ok (.iconst 1, 1) := by decide +kernel
theorem dX5_put_157 : decode cX5_put 157 = .ok (.iadd, 1) := by decide +kernel
theorem dX5_put_158 : decode cX5_put 158 = .ok (.putfield 83, 3) := by decide +kernel
theorem dX5_put_161 : decode cX5_put 161 = .ok (.aload_n 0, 1) := by decide +kernel
theorem dX5_put_162 : decode cX5_put 162 = .ok (.aload_n 0, 1) := by decide +kernel
theorem dX5_put_163 : decode cX5_put 163 = .ok (.getfield 64, 3) := by decide +kernel
theorem dX5_put_166 : decode cX5_put 166 = .ok (.iload_n 1, 1) := by decide +kernel
theorem dX5_put_167 : decode cX5_put 167 = .ok (.iload_n 2, 1) := by decide +kernel
theorem dX5_put_168 : decode cX5_put 168 = .ok (.iconst 0, 1) := by decide +kernel
theorem dX5_put_169 : decode cX5_put 169 = .ok (.invokevirtual 71, 3) := by decide +kernel
theorem dX5_put_172 : decode cX5_put 172 = .ok (.pop, 1) := by decide +kernel
theorem dX5_put_173 : decode cX5_put 173 = .ok (.iconst (-1), 1) := by decide +kernel
theorem dX5_put_174 : decode cX5_put 174 = .ok (.ireturn, 1) := by decide +kernel
set_option maxRecDepth 20000 in
theorem ggX5_get_X5_placeOf : GoodIn wsX5_get wsX5_placeOf := goodIn_r _ [7, 8, 9, 10, 6, 11, 12, 13, 14, 15, 16, 17, 18, 19, 20, 21, 22, 23, 24, 25, 26, 27, 28, 29, 30, 31, 32, 33, 34, 35] (by decide +kernel) (by decide +kernel)
set_option maxRecDepth 20000 in
theorem gX5_get_X5_placeOf : GoodIn wsX5_get (wsV RX5 92 RX5 yX5_placeOf wsX5_placeOf) := goodIn_app (goodIn_of _ (by decide +kernel)) ggX5_get_X5_placeOf
theorem dX5_get_0 : decode cX5_get 0 = .ok (.aload_n 0, 1) := by decide +kernel
theorem dX5_get_1 : decode cX5_get 1 = .ok (.iconst 0, 1) := by decide +kernel
theorem dX5_get_2 : decode cX5_get 2 = .ok (.putfield 49, 3) := by decide +kernel
theorem dX5_get_5 : decode cX5_get 5 = .ok (.aload_n 0, 1) := by decide +kernel
theorem dX5_get_6 : decode cX5_get 6 = .ok (.iload_n 1, 1) := by decide +kernel
theorem dX5_get_7 : decode cX5_get 7 = .ok (.invokevirtual 92, 3) := by decide +kernel
theorem dX5_get_10 : decode cX5_get 10 = .ok (.istore_n 2, 1) := by decide +kernel
theorem dX5_get_11 : decode cX5_get 11 = .ok (.iload_n 2, 1) := by decide +kernel
theorem dX5_get_12 : decode cX5_get 12 = .ok (.iconst (-1), 1) := by decide +kernel
theorem dX5_get_13 : decode cX5_get 13 = .ok (.if_icmp .ne 7, 3) := by decide +kernel
theorem dX5_get_16 : decode cX5_get 16 = .ok (.iconst (-1), 1) := by decide +kernel
theorem dX5_get_17 : decode cX5_get 17 = .ok (.goto 9, 3) := by decide +kernel
theorem dX5_get_20 : decode cX5_get 20 = .ok (.aload_n 0, 1) := by decide +kernel
theorem dX5_get_21 : decode cX5_get 21 = .ok (.getfield 13, 3) := by decide +kernel
theorem dX5_get_24 : decode cX5_get 24 = .ok (.iload_n 2, 1) := by decide +kernel
theorem dX5_get_25 : decode cX5_get 25 = .ok (.iaload, 1) := by decide +kernel
theorem dX5_get_26 : decode cX5_get 26 = .ok (.ireturn, 1) := by decide +kernel
set_option maxRecDepth 20000 in
theorem ggX5_removes_X5_slice : GoodIn wsX5_removes wsX5_slice := goodIn_r _ [6, 7, 8, 9, 10, 1, 11, 12, 13, 5, 14, 15, 16, 17, 18, 19, 20, 21, 22, 23, 24, 25, 26, 27, 28, 29, 30, 31, 32, 33, 46, 47, 48, 49, 50, 51, 52, 53, 54, 55, 56, 57, 58, 59, 60, 61, 62] (by decide +kernel) (by decide +kernel)
set_option maxRecDepth 20000 in
theorem gX5_removes_X5_slice : GoodIn wsX5_removes (wsV RX5 95 RX5 yX5_slice wsX5_slice) := goodIn_app (goodIn_of _ (by decide +kernel)) ggX5_removes_X5_slice
set_option maxRecDepth 20000 in
theorem ggX5_removes_X5_placeOf : GoodIn wsX5_removes wsX5_placeOf := goodIn_r _ [37, 38, 39, 40, 5, 41, 15, 9, 10, 42, 43, 44, 45, 46, 47, 48, 49, 50, 51, 52, 53, 54, 55, 56, 57, 58, 59, 60, 61, 62] (by decide +kernel) (by decide +kernel)
set_option maxRecDepth 20000 in
theorem gX5_removes_X5_placeOf : GoodIn wsX5_removes (wsV RX5 92 RX5 yX5_placeOf wsX5_placeOf) := goodIn_app (goodIn_of _ (by decide +kernel)) ggX5_removes_X5_placeOf
set_option maxRecDepth 20000 in
theorem ggX5_removes_X5_takes : GoodIn wsX5_removes wsX5_takes := goodIn_r _ [14, 15, 9, 10, 1, 8, 7, 16, 17, 18, 5, 19, 20, 21, 22, 23, 24, 25, 26, 27, 28, 29, 46, 47, 48, 49, 50, 51, 52, 53, 54, 55, 56, 57, 58, 59, 60, 61, 62] (by decide +kernel) (by decide +kernel)
set_option maxRecDepth 20000 in
theorem gX5_removes_X5_takes : GoodIn wsX5_removes (wsV RX5 67 RX5 yX5_takes wsX5_takes) := goodIn_app (goodIn_of _ (by decide +kernel)) ggX5_removes_X5_takes
theorem dX5_removes_0 : decode cX5_removes 0 = .ok (.aload_n 0, 1) := by decide +kernel
theorem dX5_removes_1 : decode cX5_removes 1 = .ok (.invokevirtual 95, 3) := by decide +kernel
theorem dX5_removes_4 : decode cX5_removes 4 = .ok (.pop, 1) := by decide +kernel
theorem dX5_removes_5 : decode cX5_removes 5 = .ok (.aload_n 0, 1) := by decide +kernel
theorem dX5_removes_6 : decode cX5_removes 6 = .ok (.iload_n 1, 1) := by decide +kernel
theorem dX5_removes_7 : decode cX5_removes 7 = .ok (.invokevirtual 92, 3) := by decide +kernel
theorem dX5_removes_10 : decode cX5_removes 10 = .ok (.istore_n 2, 1) := by decide +kernel
theorem dX5_removes_11 : decode cX5_removes 11 = .ok (.iload_n 2, 1) := by decide +kernel
theorem dX5_removes_12 : decode cX5_removes 12 = .ok (.iconst (-1), 1) := by decide +kernel
theorem dX5_removes_13 : decode cX5_removes 13 = .ok (.if_icmp .ne 5, 3) := by decide +kernel
theorem dX5_removes_16 : decode cX5_removes 16 = .ok (.iconst (-1), 1) := by decide +kernel
theorem dX5_removes_17 : decode cX5_removes 17 = .ok (.ireturn, 1) := by decide +kernel
theorem dX5_removes_18 : decode cX5_removes 18 = .ok (.aload_n 0, 1) := by decide +kernel
theorem dX5_removes_19 : decode cX5_removes 19 = .ok (.getfield 13, 3) := by decide +kernel
theorem dX5_removes_22 : decode cX5_removes 22 = .ok (.iload_n 2, 1) := by decide +kernel
theorem dX5_removes_23 : decode cX5_removes 23 = .ok (.iaload, 1) := by decide +kernel
theorem dX5_removes_24 : decode cX5_removes 24 = .ok (.istore_n 3, 1) := by decide +kernel
theorem dX5_removes_25 : decode cX5_removes 25 = .ok (.aload_n 0, 1) := by decide +kernel
theorem dX5_removes_26 : decode cX5_removes 26 = .ok (.iload_n 2, 1) := by decide +kernel
theorem dX5_removes_27 : decode cX5_removes 27 = .ok (.sipush 256, 3) := by decide +kernel
theorem dX5_removes_30 : decode cX5_removes 30 = .ok (.idiv, 1) := by decide +kernel
theorem dX5_removes_31 : decode cX5_removes 31 = .ok (.iload_n 2, 1) := by decide +kernel
theorem dX5_removes_32 : decode cX5_removes 32 = .ok (.sipush 256, 3) := by decide +kernel
theorem dX5_removes_35 : decode cX5_removes 35 = .ok (.irem, 1) := by decide +kernel
theorem dX5_removes_36 : decode cX5_removes 36 = .ok (.invokevirtual 67, 3) := by decide +kernel
theorem dX5_removes_39 : decode cX5_removes 39 = .ok (.iload_n 3, 1) := by decide +kernel
theorem dX5_removes_40 : decode cX5_removes 40 = .ok (.ireturn, 1) := by decide +kernel
set_option maxRecDepth 20000 in
theorem ggX5_remove_X5_removes : GoodIn wsX5_remove wsX5_removes := goodIn_r _ [6, 7, 8, 9, 10, 5, 11, 12, 13, 14, 15, 16, 17, 18, 19, 20, 21, 22, 23, 24, 25, 26, 27, 28, 29, 30, 31, 32, 33, 34, 35, 36, 37, 38, 39, 40, 41, 42, 43, 44, 45, 46, 47, 48, 49, 50, 51, 52, 53, 54, 55, 56, 57, 58, 59, 60, 61, 62, 63, 64, 65, 66, 67] (by decide +kernel) (by decide +kernel)
set_option maxRecDepth 20000 in
theorem gX5_remove_X5_removes : GoodIn wsX5_remove (wsV RX5 99 RX5 yX5_removes wsX5_removes) := goodIn_app (goodIn_of _ (by decide +kernel)) ggX5_remove_X5_removes
theorem dX5_remove_0 : decode cX5_remove 0 = .ok (.aload_n 0, 1) := by decide +kernel
theorem dX5_remove_1 : decode cX5_remove 1 = .ok (.iconst 0, 1) := by decide +kernel
theorem dX5_remove_2 : decode cX5_remove 2 = .ok (.putfield 49, 3) := by decide +kernel
theorem dX5_remove_5 : decode cX5_remove 5 = .ok (.aload_n 0, 1) := by decide +kernel
theorem dX5_remove_6 : decode cX5_remove 6 = .ok (.iload_n 1, 1) := by decide +kernel
theorem dX5_remove_7 : decode cX5_remove 7 = .ok (.invokevirtual 99, 3) := by decide +kernel
theorem dX5_remove_10 : decode cX5_remove 10 = .ok (.ireturn, 1) := by decide +kernel
set_option maxRecDepth 20000 in
theorem ggX5_move_X5_slice : GoodIn wsX5_move wsX5_slice := goodIn_r _ [6, 7, 8, 9, 10, 11, 12, 13, 14, 5, 15, 16, 17, 18, 19, 20, 21, 22, 23, 24, 25, 26, 27, 28, 29, 30, 31, 32, 33, 34, 35, 36, 37, 38, 39, 40, 41, 42, 43, 44, 45, 46, 47, 48, 49, 50, 51] (by decide +kernel) (by decide +kernel)
set_option maxRecDepth 20000 in
theorem gX5_move_X5_slice : GoodIn wsX5_move (wsV RX5 95 RX5 yX5_slice wsX5_slice) := goodIn_app (goodIn_of _ (by decide +kernel)) ggX5_move_X5_slice
theorem dX5_move_0 : decode cX5_move 0 = .ok (.aload_n 0, 1) := by decide +kernel
theorem dX5_move_1 : decode cX5_move 1 = .ok (.iconst 0, 1) := by decide +kernel
theorem dX5_move_2 : decode cX5_move 2 = .ok (.putfield 49, 3) := by decide +kernel
theorem dX5_move_5 : decode cX5_move 5 = .ok (.aload_n 0, 1) := by decide +kernel
theorem dX5_move_6 : decode cX5_move 6 = .ok (.invokevirtual 95, 3) := by decide +kernel
theorem dX5_move_9 : decode cX5_move 9 = .ok (.ireturn, 1) := by decide +kernel
theorem dX5_size_0 : decode cX5_size 0 = .ok (.aload_n 0, 1) := by decide +kernel
theorem dX5_size_1 : decode cX5_size 1 = .ok (.iconst 0, 1) := by decide +kernel
theorem dX5_size_2 : decode cX5_size 2 = .ok (.putfield 49, 3) := by decide +kernel
theorem dX5_size_5 : decode cX5_size 5 = .ok (.aload_n 0, 1) := by decide +kernel
theorem dX5_size_6 : decode cX5_size 6 = .ok (.getfield 23, 3) := by decide +kernel
theorem dX5_size_9 : decode cX5_size 9 = .ok (.iconst 0, 1) := by decide +kernel
theorem dX5_size_10 : decode cX5_size 10 = .ok (.iaload, 1) := by decide +kernel
theorem dX5_size_11 : decode cX5_size 11 = .ok (.aload_n 0, 1) := by decide +kernel
theorem dX5_size_12 : decode cX5_size 12 = .ok (.getfield 23, 3) := by decide +kernel
theorem dX5_size_15 : decode cX5_size 15 = .ok (.iconst 1, 1) := by decide +kernel
theorem dX5_size_16 : decode cX5_size 16 = .ok (.iaload, 1) := by decide +kernel
theorem dX5_size_17 : decode cX5_size 17 = .ok (.iadd, 1) := by decide +kernel
theorem dX5_size_18 : decode cX5_size 18 = .ok (.ireturn, 1) := by decide +kernel
theorem dX5_moves_0 : decode cX5_moves 0 = .ok (.aload_n 0, 1) := by decide +kernel
theorem dX5_moves_1 : decode cX5_moves 1 = .ok (.iconst 0, 1) := by decide +kernel
theorem dX5_moves_2 : decode cX5_moves 2 = .ok (.putfield 49, 3) := by decide +kernel
theorem dX5_moves_5 : decode cX5_moves 5 = .ok (.aload_n 0, 1) := by decide +kernel
theorem dX5_moves_6 : decode cX5_moves 6 = .ok (.getfield 83, 3) := by decide +kernel
theorem dX5_moves_9 : decode cX5_moves 9 = .ok (.ireturn, 1) := by decide +kernel
set_option maxRecDepth 20000 in
theorem ggX5_orderOf_X5_hashOf : GoodIn wsX5_orderOf wsX5_hashOf := goodIn_r _ [6, 7, 8, 9, 10, 11, 12, 13, 14, 15, 16, 17, 18, 19, 20, 21, 22, 23, 24, 25] (by decide +kernel) (by decide +kernel)
set_option maxRecDepth 20000 in
theorem gX5_orderOf_X5_hashOf : GoodIn wsX5_orderOf (wsV RX5 53 RX5 yX5_hashOf wsX5_hashOf) := goodIn_app (goodIn_of _ (by decide +kernel)) ggX5_orderOf_X5_hashOf
theorem dX5_orderOf_0 : decode cX5_orderOf 0 = .ok (.aload_n 0, 1) := by decide +kernel
theorem dX5_orderOf_1 : decode cX5_orderOf 1 = .ok (.iload_n 1, 1) := by decide +kernel
theorem dX5_orderOf_2 : decode cX5_orderOf 2 = .ok (.invokevirtual 53, 3) := by decide +kernel
theorem dX5_orderOf_5 : decode cX5_orderOf 5 = .ok (.istore_n 2, 1) := by decide +kernel
theorem dX5_orderOf_6 : decode cX5_orderOf 6 = .ok (.lconst 0, 1) := by decide +kernel
theorem dX5_orderOf_7 : decode cX5_orderOf 7 = .ok (.lstore_n 3, 1) := by decide +kernel
theorem dX5_orderOf_8 : decode cX5_orderOf 8 = .ok (.iconst 0, 1) := by decide +kernel
theorem dX5_orderOf_9 : decode cX5_orderOf 9 = .ok (.istore 5, 2) := by decide +kernel
theorem dX5_orderOf_11 : decode cX5_orderOf 11 = .ok (.iload 5, 2) := by decide +kernel
theorem dX5_orderOf_13 : decode cX5_orderOf 13 = .ok (.bipush 32, 2) := by decide +kernel
theorem dX5_orderOf_15 : decode cX5_orderOf 15 = .ok (.if_icmp .ge 23, 3) := by decide +kernel
theorem dX5_orderOf_18 : decode cX5_orderOf 18 = .ok (.ldc2_w 102, 3) := by decide +kernel
theorem dX5_orderOf_21 : decode cX5_orderOf 21 = .ok (.lload_n 3, 1) := by decide +kernel
theorem dX5_orderOf_22 : decode cX5_orderOf 22 = .ok (.lmul, 1) := by decide +kernel
theorem dX5_orderOf_23 : decode cX5_orderOf 23 = .ok (.iload_n 2, 1) := by decide +kernel
theorem dX5_orderOf_24 : decode cX5_orderOf 24 = .ok (.iload 5, 2) := by decide +kernel
theorem dX5_orderOf_26 : decode cX5_orderOf 26 = .ok (.iushr, 1) := by decide +kernel
theorem dX5_orderOf_27 : decode cX5_orderOf 27 = .ok (.iconst 1, 1) := by decide +kernel
theorem dX5_orderOf_28 : decode cX5_orderOf 28 = .ok (.iand, 1) := by decide +kernel
theorem dX5_orderOf_29 : decode cX5_orderOf 29 = .ok (.i2l, 1) := by decide +kernel
theorem dX5_orderOf_30 : decode cX5_orderOf 30 = .ok (.ladd, 1) := by decide +kernel
theorem dX5_orderOf_31 : decode cX5_orderOf 31 = .ok (.lstore_n 3, 1) := by decide +kernel
theorem dX5_orderOf_32 : decode cX5_orderOf 32 = .ok (.iinc 5 1, 3) := by decide +kernel
theorem dX5_orderOf_35 : decode cX5_orderOf 35 = .ok (.goto (-24), 3) := by decide +kernel
theorem dX5_orderOf_38 : decode cX5_orderOf 38 = .ok (.lload_n 3, 1) := by decide +kernel
theorem dX5_orderOf_39 : decode cX5_orderOf 39 = .ok (.lreturn, 1) := by decide +kernel
set_option maxRecDepth 20000 in
theorem ggX5_behind_X5_orderOf : GoodIn wsX5_behind wsX5_orderOf := goodIn_r _ [7, 8, 9, 10, 11, 6, 12, 13, 14, 15, 16, 17, 18, 19, 20, 21, 22, 23, 24, 25, 26, 27, 28, 29, 30, 31] (by decide +kernel) (by decide +kernel)
set_option maxRecDepth 20000 in
theorem gX5_behind_X5_orderOf : GoodIn wsX5_behind (wsV RX5 104 RX5 yX5_orderOf wsX5_orderOf) := goodIn_app (goodIn_of _ (by decide +kernel)) ggX5_behind_X5_orderOf
theorem dX5_behind_0 : decode cX5_behind 0 = .ok (.iconst (-1), 1) := by decide +kernel
theorem dX5_behind_1 : decode cX5_behind 1 = .ok (.istore_n 3, 1) := by decide +kernel
theorem dX5_behind_2 : decode cX5_behind 2 = .ok (.iconst 0, 1) := by decide +kernel
theorem dX5_behind_3 : decode cX5_behind 3 = .ok (.istore 4, 2) := by decide +kernel
theorem dX5_behind_5 : decode cX5_behind 5 = .ok (.iload 4, 2) := by decide +kernel
theorem dX5_behind_7 : decode cX5_behind 7 = .ok (.sipush 512, 3) := by decide +kernel
theorem dX5_behind_10 : decode cX5_behind 10 = .ok (.if_icmp .ge 68, 3) := by decide +kernel
theorem dX5_behind_13 : decode cX5_behind 13 = .ok (.aload_n 0, 1) := by decide +kernel
theorem dX5_behind_14 : decode cX5_behind 14 = .ok (.getfield 16, 3) := by decide +kernel
theorem dX5_behind_17 : decode cX5_behind 17 = .ok (.iload 4, 2) := by decide +kernel
theorem dX5_behind_19 : decode cX5_behind 19 = .ok (.baload, 1) := by decide +kernel
theorem dX5_behind_20 : decode cX5_behind 20 = .ok (.ifCond .eq 52, 3) := by decide +kernel
theorem dX5_behind_23 : decode cX5_behind 23 = .ok (.aload_n 0, 1) := by decide +kernel
theorem dX5_behind_24 : decode cX5_behind 24 = .ok (.aload_n 0, 1) := by decide +kernel
theorem dX5_behind_25 : decode cX5_behind 25 = .ok (.getfield 7, 3) := by decide +kernel
theorem dX5_behind_28 : decode cX5_behind 28 = .ok (.iload 4, 2) := by decide +kernel
theorem dX5_behind_30 : decode cX5_behind 30 = .ok (.iaload, 1) := by decide +kernel
theorem dX5_behind_31 : decode cX5_behind 31 = .ok (.invokevirtual 104, 3) := by decide +kernel
theorem dX5_behind_34 : decode cX5_behind 34 = .ok (.lload_n 1, 1) := by decide +kernel
theorem dX5_behind_35 : decode cX5_behind 35 = .ok (.lcmp, 1) := by decide +kernel
theorem dX5_behind_36 : decode cX5_behind 36 = .ok (.ifCond .le 36, 3) := by decide +kernel
theorem dX5_behind_39 : decode cX5_behind 39 = .ok (.iload_n 3, 1) := by decide +kernel
theorem dX5_behind_40 : decode cX5_behind 40 = .ok (.iconst (-1), 1) := by decide +kernel
theorem dX5_behind_41 : decode cX5_behind 41 = .ok (.if_icmp .eq 28, 3) := by decide +kernel
theorem dX5_behind_44 : decode cX5_behind 44 = .ok (.aload_n 0, 1) := by decide +kernel
theorem dX5_behind_45 : decode cX5_behind 45 = .ok (.aload_n 0, 1) := by decide +kernel
theorem dX5_behind_46 : decode cX5_behind 46 = .ok (.getfield 7, 3) := by decide +kernel
theorem dX5_behind_49 : decode cX5_behind 49 = .ok (.iload 4, 2) := by decide +kernel
theorem dX5_behind_51 : decode cX5_behind 51 = .ok (.iaload, 1) := by decide +kernel
theorem dX5_behind_52 : decode cX5_behind 52 = .ok (.invokevirtual 104, 3) := by decide +kernel
theorem dX5_behind_55 : decode cX5_behind 55 = .ok (.aload_n 0, 1) := by decide +kernel
theorem dX5_behind_56 : decode cX5_behind 56 = .ok (.aload_n 0, 1) := by decide +kernel
theorem dX5_behind_57 : decode cX5_behind 57 = .ok (.getfield 7, 3) := by decide +kernel
theorem dX5_behind_60 : decode cX5_behind 60 = .ok (.iload_n 3, 1) := by decide +kernel
theorem dX5_behind_61 : decode cX5_behind 61 = .ok (.iaload, 1) := by decide +kernel
theorem dX5_behind_62 : decode cX5_behind 62 = .ok (.invokevirtual 104, 3) := by decide +kernel
theorem dX5_behind_65 : decode cX5_behind 65 = .ok (.lcmp, 1) := by decide +kernel
theorem dX5_behind_66 : decode cX5_behind 66 = .ok (.ifCond .ge 6, 3) := by decide +kernel
theorem dX5_behind_69 : decode cX5_behind 69 = .ok (.iload 4, 2) := by decide +kernel
theorem dX5_behind_71 : decode cX5_behind 71 = .ok (.istore_n 3, 1) := by decide +kernel
theorem dX5_behind_72 : decode cX5_behind 72 = .ok (.iinc 4 1, 3) := by decide +kernel
theorem dX5_behind_75 : decode cX5_behind 75 = .ok (.goto (-70), 3) := by decide +kernel
theorem dX5_behind_78 : decode cX5_behind 78 = .ok (.iload_n 3, 1) := by decide +kernel
theorem dX5_behind_79 : decode cX5_behind 79 = .ok (.ireturn, 1) := by decide +kernel
set_option maxRecDepth 20000 in
theorem ggX5_openSweep_X5_isFine : GoodIn wsX5_openSweep wsX5_isFine := goodIn_r _ [10, 11, 12, 13, 14, 15, 16, 17, 18, 19, 20, 21, 22, 23, 24, 25, 26, 27, 28] (by decide +kernel) (by decide +kernel)
set_option maxRecDepth 20000 in
theorem gX5_openSweep_X5_isFine : GoodIn wsX5_openSweep (wsV RX5 79 RX5 yX5_isFine wsX5_isFine) := goodIn_app (goodIn_of _ (by decide +kernel)) ggX5_openSweep_X5_isFine
theorem dX5_openSweep_0 : decode cX5_openSweep 0 = .ok (.iconst 0, 1) := by decide +kernel
theorem dX5_openSweep_1 : decode cX5_openSweep 1 = .ok (.istore_n 1, 1) := by decide +kernel
theorem dX5_openSweep_2 : decode cX5_openSweep 2 = .ok (.iload_n 1, 1) := by decide +kernel
theorem dX5_openSweep_3 : decode cX5_openSweep 3 = .ok (.iconst 4, 1) := by decide +kernel
theorem dX5_openSweep_4 : decode cX5_openSweep 4 = .ok (.if_icmp .ge 18, 3) := by decide +kernel
theorem dX5_openSweep_7 : decode cX5_openSweep 7 = .ok (.aload_n 0, 1) := by decide +kernel
theorem dX5_openSweep_8 : decode cX5_openSweep 8 = .ok (.getfield 30, 3) := by decide +kernel
theorem dX5_openSweep_11 : decode cX5_openSweep 11 = .ok (.iload_n 1, 1) := by decide +kernel
theorem dX5_openSweep_12 : decode cX5_openSweep 12 = .ok (.baload, 1) := by decide +kernel
theorem dX5_openSweep_13 : decode cX5_openSweep 13 = .ok (.ifCond .eq 9, 3) := by decide +kernel
theorem dX5_openSweep_16 : decode cX5_openSweep 16 = .ok (.iinc 1 1, 3) := by decide +kernel
theorem dX5_openSweep_19 : decode cX5_openSweep 19 = .ok (.goto (-17), 3) := by decide +kernel
theorem dX5_openSweep_22 : decode cX5_openSweep 22 = .ok (.aload_n 0, 1) := by decide +kernel
theorem dX5_openSweep_23 : decode cX5_openSweep 23 = .ok (.iload_n 1, 1) := by decide +kernel
theorem dX5_openSweep_24 : decode cX5_openSweep 24 = .ok (.iconst 4, 1) := by decide +kernel
theorem dX5_openSweep_25 : decode cX5_openSweep 25 = .ok (.if_icmp .ne 7, 3) := by decide +kernel
theorem dX5_openSweep_28 : decode cX5_openSweep 28 = .ok (.iconst 1, 1) := by decide +kernel
theorem dX5_openSweep_29 : decode cX5_openSweep 29 = .ok (.goto 4, 3) := by decide +kernel
theorem dX5_openSweep_32 : decode cX5_openSweep 32 = .ok (.iconst 0, 1) := by decide +kernel
theorem dX5_openSweep_33 : decode cX5_openSweep 33 = .ok (.invokevirtual 79, 3) := by decide +kernel
theorem dX5_openSweep_36 : decode cX5_openSweep 36 = .ok (.ifCond .ne 5, 3) := by decide +kernel
theorem dX5_openSweep_39 : decode cX5_openSweep 39 = .ok (.iconst 0, 1) := by decide +kernel
theorem dX5_openSweep_40 : decode cX5_openSweep 40 = .ok (.ireturn, 1) := by decide +kernel
theorem dX5_openSweep_41 : decode cX5_openSweep 41 = .ok (.aload_n 0, 1) := by decide +kernel
theorem dX5_openSweep_42 : decode cX5_openSweep 42 = .ok (.getfield 30, 3) := by decide +kernel
theorem dX5_openSweep_45 : decode cX5_openSweep 45 = .ok (.iload_n 1, 1) := by decide +kernel
theorem dX5_openSweep_46 : decode cX5_openSweep 46 = .ok (.iconst 1, 1) := by decide +kernel
theorem dX5_openSweep_47 : decode cX5_openSweep 47 = .ok (.bastore, 1) := by decide +kernel
theorem dX5_openSweep_48 : decode cX5_openSweep 48 = .ok (.aload_n 0, 1) := by decide +kernel
theorem dX5_openSweep_49 : decode cX5_openSweep 49 = .ok (.getfield 33, 3) := by decide +kernel
theorem dX5_openSweep_52 : decode cX5_openSweep 52 = .ok (.iload_n 1, 1) := by decide +kernel
theorem dX5_openSweep_53 : decode cX5_openSweep 53 = .ok (.ldc2_w 108, 3) := by decide +kernel
theorem dX5_openSweep_56 : decode cX5_openSweep 56 = .ok (.lastore, 1) := by decide +kernel
theorem dX5_openSweep_57 : decode cX5_openSweep 57 = .ok (.aload_n 0, 1) := by decide +kernel
theorem dX5_openSweep_58 : decode cX5_openSweep 58 = .ok (.getfield 40, 3) := by decide +kernel
theorem dX5_openSweep_61 : decode cX5_openSweep 61 = .ok (.iload_n 1, 1) := by decide +kernel
theorem dX5_openSweep_62 : decode cX5_openSweep 62 = .ok (.iconst 0, 1) := by decide +kernel
theorem dX5_openSweep_63 : decode cX5_openSweep 63 = .ok (.bastore, 1) := by decide +kernel
theorem dX5_openSweep_64 : decode cX5_openSweep 64 = .ok (.aload_n 0, 1) := by decide +kernel
theorem dX5_openSweep_65 : decode cX5_openSweep 65 = .ok (.getfield 43, 3) := by decide +kernel
theorem dX5_openSweep_68 : decode cX5_openSweep 68 = .ok (.iload_n 1, 1) := by decide +kernel
theorem dX5_openSweep_69 : decode cX5_openSweep 69 = .ok (.iconst 0, 1) := by decide +kernel
theorem dX5_openSweep_70 : decode cX5_openSweep 70 = .ok (.iastore, 1) := by decide +kernel
theorem dX5_openSweep_71 : decode cX5_openSweep 71 = .ok (.iload_n 1, 1) := by decide +kernel
theorem dX5_openSweep_72 : decode cX5_openSweep 72 = .ok (.ireturn, 1) := by decide +kernel
set_option maxRecDepth 20000 in
theorem ggX5_isSweep_X5_in : GoodIn wsX5_isSweep wsX5_in := goodIn_r _ [5] (by decide +kernel) (by decide +kernel)
set_option maxRecDepth 20000 in
theorem gX5_isSweep_X5_in : GoodIn wsX5_isSweep (va_wsS RX5 75 yX5_in wsX5_in) := goodIn_app (goodIn_of _ (by decide +kernel)) ggX5_isSweep_X5_in
theorem dX5_isSweep_0 : decode cX5_isSweep 0 = .ok (.iload_n 1, 1) := by decide +kernel
theorem dX5_isSweep_1 : decode cX5_isSweep 1 = .ok (.iconst 0, 1) := by decide +kernel
theorem dX5_isSweep_2 : decode cX5_isSweep 2 = .ok (.iconst 3, 1) := by decide +kernel
theorem dX5_isSweep_3 : decode cX5_isSweep 3 = .ok (.invokestatic 75, 3) := by decide +kernel
theorem dX5_isSweep_6 : decode cX5_isSweep 6 = .ok (.ifCond .eq 29, 3) := by decide +kernel
theorem dX5_isSweep_9 : decode cX5_isSweep 9 = .ok (.aload_n 0, 1) := by decide +kernel
theorem dX5_isSweep_10 : decode cX5_isSweep 10 = .ok (.getfield 30, 3) := by decide +kernel
theorem dX5_isSweep_13 : decode cX5_isSweep 13 = .ok (.iload_n 1, 1) := by decide +kernel
theorem dX5_isSweep_14 : decode cX5_isSweep 14 = .ok (.iconst 0, 1) := by decide +kernel
theorem dX5_isSweep_15 : decode cX5_isSweep 15 = .ok (.iconst 3, 1) := by decide +kernel
theorem dX5_isSweep_16 : decode cX5_isSweep 16 = .ok (.invokestatic 75, 3) := by decide +kernel
theorem dX5_isSweep_19 : decode cX5_isSweep 19 = .ok (.ifCond .eq 7, 3) := by decide +kernel
theorem dX5_isSweep_22 : decode cX5_isSweep 22 = .ok (.iload_n 1, 1) := by decide +kernel
theorem dX5_isSweep_23 : decode cX5_isSweep 23 = .ok (.goto 4, 3) := by decide +kernel
theorem dX5_isSweep_26 : decode cX5_isSweep 26 = .ok (.iconst 0, 1) := by decide +kernel
theorem dX5_isSweep_27 : decode cX5_isSweep 27 = .ok (.baload, 1) := by decide +kernel
theorem dX5_isSweep_28 : decode cX5_isSweep 28 = .ok (.ifCond .eq 7, 3) := by decide +kernel
theorem dX5_isSweep_31 : decode cX5_isSweep 31 = .ok (.iconst 1, 1) := by decide +kernel
theorem dX5_isSweep_32 : decode cX5_isSweep 32 = .ok (.goto 4, 3) := by decide +kernel
theorem dX5_isSweep_35 : decode cX5_isSweep 35 = .ok (.iconst 0, 1) := by decide +kernel
theorem dX5_isSweep_36 : decode cX5_isSweep 36 = .ok (.ireturn, 1) := by decide +kernel
set_option maxRecDepth 20000 in
theorem ggX5_hasNext_X5_isSweep : GoodIn wsX5_hasNext wsX5_isSweep := goodIn_r _ [6, 7, 8, 9, 5, 10, 33, 34, 35, 36, 37, 38, 39, 40, 41, 42, 43, 44, 45, 46, 47, 48, 49] (by decide +kernel) (by decide +kernel)
set_option maxRecDepth 20000 in
theorem gX5_hasNext_X5_isSweep : GoodIn wsX5_hasNext (wsV RX5 110 RX5 yX5_isSweep wsX5_isSweep) := goodIn_app (goodIn_of _ (by decide +kernel)) ggX5_hasNext_X5_isSweep
set_option maxRecDepth 20000 in
theorem ggX5_hasNext_X5_isFine : GoodIn wsX5_hasNext wsX5_isFine := goodIn_r _ [14, 15, 33, 34, 35, 36, 37, 38, 39, 40, 41, 42, 43, 44, 45, 46, 47, 48, 49] (by decide +kernel) (by decide +kernel)
set_option maxRecDepth 20000 in
theorem gX5_hasNext_X5_isFine : GoodIn wsX5_hasNext (wsV RX5 79 RX5 yX5_isFine wsX5_isFine) := goodIn_app (goodIn_of _ (by decide +kernel)) ggX5_hasNext_X5_isFine
set_option maxRecDepth 20000 in
theorem ggX5_hasNext_X5_behind : GoodIn wsX5_hasNext wsX5_behind := goodIn_r _ [19, 20, 21, 22, 23, 24, 5, 25, 26, 27, 28, 29, 30, 31, 32, 33, 34, 35, 36, 37, 38, 39, 40, 41, 42, 43, 44, 45, 46, 47, 48, 49] (by decide +kernel) (by decide +kernel)
set_option maxRecDepth 20000 in
theorem gX5_hasNext_X5_behind : GoodIn wsX5_hasNext (wsV RX5 113 RX5 yX5_behind wsX5_behind) := goodIn_app (goodIn_of _ (by decide +kernel)) ggX5_hasNext_X5_behind
theorem dX5_hasNext_0 : decode cX5_hasNext 0 = .ok (.aload_n 0, 1) := by decide +kernel
theorem dX5_hasNext_1 : decode cX5_hasNext 1 = .ok (.aload_n 0, 1) := by decide +kernel
theorem dX5_hasNext_2 : decode cX5_hasNext 2 = .ok (.iload_n 1, 1) := by decide +kernel
theorem dX5_hasNext_3 : decode cX5_hasNext 3 = .ok (.invokevirtual 110, 3) := by decide +kernel
theorem dX5_hasNext_6 : decode cX5_hasNext 6 = .ok (.ifCond .eq 7, 3) := by decide +kernel
theorem dX5_hasNext_9 : decode cX5_hasNext 9 = .ok (.iconst 0, 1) := by decide +kernel
theorem dX5_hasNext_10 : decode cX5_hasNext 10 = .ok (.goto 4, 3) := by decide +kernel
theorem dX5_hasNext_13 : decode cX5_hasNext 13 = .ok (.iconst 1, 1) := by decide +kernel
theorem dX5_hasNext_14 : decode cX5_hasNext 14 = .ok (.invokevirtual 79, 3) := by decide +kernel
theorem dX5_hasNext_17 : decode cX5_hasNext 17 = .ok (.ifCond .eq 21, 3) := by decide +kernel
theorem dX5_hasNext_20 : decode cX5_hasNext 20 = .ok (.aload_n 0, 1) := by decide +kernel
theorem dX5_hasNext_21 : decode cX5_hasNext 21 = .ok (.aload_n 0, 1) := by decide +kernel
theorem dX5_hasNext_22 : decode cX5_hasNext 22 = .ok (.getfield 33, 3) := by decide +kernel
theorem dX5_hasNext_25 : decode cX5_hasNext 25 = .ok (.iload_n 1, 1) := by decide +kernel
theorem dX5_hasNext_26 : decode cX5_hasNext 26 = .ok (.laload, 1) := by decide +kernel
theorem dX5_hasNext_27 : decode cX5_hasNext 27 = .ok (.invokevirtual 113, 3) := by decide +kernel
theorem dX5_hasNext_30 : decode cX5_hasNext 30 = .ok (.iconst (-1), 1) := by decide +kernel
theorem dX5_hasNext_31 : decode cX5_hasNext 31 = .ok (.if_icmp .eq 7, 3) := by decide +kernel
theorem dX5_hasNext_34 : decode cX5_hasNext 34 = .ok (.iconst 1, 1) := by decide +kernel
theorem dX5_hasNext_35 : decode cX5_hasNext 35 = .ok (.goto 4, 3) := by decide +kernel
theorem dX5_hasNext_38 : decode cX5_hasNext 38 = .ok (.iconst 0, 1) := by decide +kernel
theorem dX5_hasNext_39 : decode cX5_hasNext 39 = .ok (.ireturn, 1) := by decide +kernel
set_option maxRecDepth 20000 in
theorem ggX5_next_X5_isSweep : GoodIn wsX5_next wsX5_isSweep := goodIn_r _ [10, 11, 12, 13, 9, 14, 36, 37, 38, 39, 40, 41, 42, 43, 44, 45, 46, 47, 48, 49, 50, 51, 52] (by decide +kernel) (by decide +kernel)
set_option maxRecDepth 20000 in
theorem gX5_next_X5_isSweep : GoodIn wsX5_next (wsV RX5 110 RX5 yX5_isSweep wsX5_isSweep) := goodIn_app (goodIn_of _ (by decide +kernel)) ggX5_next_X5_isSweep
set_option maxRecDepth 20000 in
theorem ggX5_next_X5_behind : GoodIn wsX5_next wsX5_behind := goodIn_r _ [18, 19, 2, 20, 21, 22, 9, 23, 24, 25, 26, 27, 28, 29, 30, 36, 37, 38, 39, 40, 41, 42, 43, 44, 45, 46, 47, 48, 49, 50, 51, 52] (by decide +kernel) (by decide +kernel)
set_option maxRecDepth 20000 in
theorem gX5_next_X5_behind : GoodIn wsX5_next (wsV RX5 113 RX5 yX5_behind wsX5_behind) := goodIn_app (goodIn_of _ (by decide +kernel)) ggX5_next_X5_behind
set_option maxRecDepth 20000 in
theorem ggX5_next_X5_isFine : GoodIn wsX5_next wsX5_isFine := goodIn_r _ [34, 35, 36, 37, 38, 39, 40, 41, 42, 43, 44, 45, 46, 47, 48, 49, 50, 51, 52] (by decide +kernel) (by decide +kernel)
set_option maxRecDepth 20000 in
theorem gX5_next_X5_isFine : GoodIn wsX5_next (wsV RX5 79 RX5 yX5_isFine wsX5_isFine) := goodIn_app (goodIn_of _ (by decide +kernel)) ggX5_next_X5_isFine
set_option maxRecDepth 20000 in
theorem ggX5_next_X5_orderOf : GoodIn wsX5_next wsX5_orderOf := goodIn_r _ [23, 24, 25, 26, 27, 9, 28, 29, 30, 36, 37, 38, 39, 40, 41, 42, 43, 44, 45, 46, 47, 48, 49, 50, 51, 52] (by decide +kernel) (by decide +kernel)
set_option maxRecDepth 20000 in
theorem gX5_next_X5_orderOf : GoodIn wsX5_next (wsV RX5 104 RX5 yX5_orderOf wsX5_orderOf) := goodIn_app (goodIn_of _ (by decide +kernel)) ggX5_next_X5_orderOf
theorem dX5_next_0 : decode cX5_next 0 = .ok (.aload_n 0, 1) := by decide +kernel
theorem dX5_next_1 : decode cX5_next 1 = .ok (.aload_n 0, 1) := by decide +kernel
theorem dX5_next_2 : decode cX5_next 2 = .ok (.iload_n 1, 1) := by decide +kernel
theorem dX5_next_3 : decode cX5_next 3 = .ok (.invokevirtual 110, 3) := by decide +kernel
theorem dX5_next_6 : decode cX5_next 6 = .ok (.ifCond .ne 7, 3) := by decide +kernel
theorem dX5_next_9 : decode cX5_next 9 = .ok (.iconst 1, 1) := by decide +kernel
theorem dX5_next_10 : decode cX5_next 10 = .ok (.goto 22, 3) := by decide +kernel
theorem dX5_next_13 : decode cX5_next 13 = .ok (.aload_n 0, 1) := by decide +kernel
theorem dX5_next_14 : decode cX5_next 14 = .ok (.aload_n 0, 1) := by decide +kernel
theorem dX5_next_15 : decode cX5_next 15 = .ok (.getfield 33, 3) := by decide +kernel
theorem dX5_next_18 : decode cX5_next 18 = .ok (.iload_n 1, 1) := by decide +kernel
theorem dX5_next_19 : decode cX5_next 19 = .ok (.laload, 1) := by decide +kernel
theorem dX5_next_20 : decode cX5_next 20 = .ok (.invokevirtual 113, 3) := by decide +kernel
theorem dX5_next_23 : decode cX5_next 23 = .ok (.iconst (-1), 1) := by decide +kernel
theorem dX5_next_24 : decode cX5_next 24 = .ok (.if_icmp .ne 7, 3) := by decide +kernel
theorem dX5_next_27 : decode cX5_next 27 = .ok (.iconst 2, 1) := by decide +kernel
theorem dX5_next_28 : decode cX5_next 28 = .ok (.goto 4, 3) := by decide +kernel
theorem dX5_next_31 : decode cX5_next 31 = .ok (.iconst 0, 1) := by decide +kernel
theorem dX5_next_32 : decode cX5_next 32 = .ok (.invokevirtual 79, 3) := by decide +kernel
theorem dX5_next_35 : decode cX5_next 35 = .ok (.ifCond .ne 5, 3) := by decide +kernel
theorem dX5_next_38 : decode cX5_next 38 = .ok (.iconst 0, 1) := by decide +kernel
theorem dX5_next_39 : decode cX5_next 39 = .ok (.ireturn, 1) := by decide +kernel
theorem dX5_next_40 : decode cX5_next 40 = .ok (.aload_n 0, 1) := by decide +kernel
theorem dX5_next_41 : decode cX5_next 41 = .ok (.getfield 7, 3) := by decide +kernel
theorem dX5_next_44 : decode cX5_next 44 = .ok (.aload_n 0, 1) := by decide +kernel
theorem dX5_next_45 : decode cX5_next 45 = .ok (.aload_n 0, 1) := by decide +kernel
theorem dX5_next_46 : decode cX5_next 46 = .ok (.getfield 33, 3) := by decide +kernel
theorem dX5_next_49 : decode cX5_next 49 = .ok (.iload_n 1, 1) := by decide +kernel
theorem dX5_next_50 : decode cX5_next 50 = .ok (.laload, 1) := by decide +kernel
theorem dX5_next_51 : decode cX5_next 51 = .ok (.invokevirtual 113, 3) := by decide +kernel
theorem dX5_next_54 : decode cX5_next 54 = .ok (.iaload, 1) := by decide +kernel
theorem dX5_next_55 : decode cX5_next 55 = .ok (.istore_n 2, 1) := by decide +kernel
theorem dX5_next_56 : decode cX5_next 56 = .ok (.aload_n 0, 1) := by decide +kernel
theorem dX5_next_57 : decode cX5_next 57 = .ok (.getfield 33, 3) := by decide +kernel
theorem dX5_next_60 : decode cX5_next 60 = .ok (.iload_n 1, 1) := by decide +kernel
theorem dX5_next_61 : decode cX5_next 61 = .ok (.aload_n 0, 1) := by decide +kernel
theorem dX5_next_62 : decode cX5_next 62 = .ok (.iload_n 2, 1) := by decide +kernel
theorem dX5_next_63 : decode cX5_next 63 = .ok (.invokevirtual 104, 3) := by decide +kernel
theorem dX5_next_66 : decode cX5_next 66 = .ok (.lastore, 1) := by decide +kernel
theorem dX5_next_67 : decode cX5_next 67 = .ok (.aload_n 0, 1) := by decide +kernel
theorem dX5_next_68 : decode cX5_next 68 = .ok (.getfield 37, 3) := by decide +kernel
theorem dX5_next_71 : decode cX5_next 71 = .ok (.iload_n 1, 1) := by decide +kernel
theorem dX5_next_72 : decode cX5_next 72 = .ok (.iload_n 2, 1) := by decide +kernel
theorem dX5_next_73 : decode cX5_next 73 = .ok (.iastore, 1) := by decide +kernel
theorem dX5_next_74 : decode cX5_next 74 = .ok (.aload_n 0, 1) := by decide +kernel
theorem dX5_next_75 : decode cX5_next 75 = .ok (.getfield 40, 3) := by decide +kernel
theorem dX5_next_78 : decode cX5_next 78 = .ok (.iload_n 1, 1) := by decide +kernel
theorem dX5_next_79 : decode cX5_next 79 = .ok (.iconst 0, 1) := by decide +kernel
theorem dX5_next_80 : decode cX5_next 80 = .ok (.bastore, 1) := by decide +kernel
theorem dX5_next_81 : decode cX5_next 81 = .ok (.aload_n 0, 1) := by decide +kernel
theorem dX5_next_82 : decode cX5_next 82 = .ok (.getfield 43, 3) := by decide +kernel
theorem dX5_next_85 : decode cX5_next 85 = .ok (.iload_n 1, 1) := by decide +kernel
theorem dX5_next_86 : decode cX5_next 86 = .ok (.dup2, 1) := by decide +kernel
theorem dX5_next_87 : decode cX5_next 87 = .ok (.iaload, 1) := by decide +kernel
theorem dX5_next_88 : decode cX5_next 88 = .ok (.iconst 1, 1) := by decide +kernel
theorem dX5_next_89 : decode cX5_next 89 = .ok (.iadd, 1) := by decide +kernel
theorem dX5_next_90 : decode cX5_next 90 = .ok (.iastore, 1) := by decide +kernel
theorem dX5_next_91 : decode cX5_next 91 = .ok (.iload_n 2, 1) := by decide +kernel
theorem dX5_next_92 : decode cX5_next 92 = .ok (.ireturn, 1) := by decide +kernel
set_option maxRecDepth 20000 in
theorem ggX5_removeMet_X5_isSweep : GoodIn wsX5_removeMet wsX5_isSweep := goodIn_r _ [8, 9, 10, 11, 7, 12, 66, 67, 68, 69, 70, 71, 72, 73, 74, 75, 76, 77, 78, 79, 80, 81, 82] (by decide +kernel) (by decide +kernel)
set_option maxRecDepth 20000 in
theorem gX5_removeMet_X5_isSweep : GoodIn wsX5_removeMet (wsV RX5 110 RX5 yX5_isSweep wsX5_isSweep) := goodIn_app (goodIn_of _ (by decide +kernel)) ggX5_removeMet_X5_isSweep
set_option maxRecDepth 20000 in
theorem ggX5_removeMet_X5_isThere : GoodIn wsX5_removeMet wsX5_isThere := goodIn_r _ [16, 17, 18, 19, 7, 20, 21, 22, 23, 66, 67, 68, 69, 70, 71, 72, 73, 74, 75, 76, 77, 78, 79, 80, 81, 82] (by decide +kernel) (by decide +kernel)
set_option maxRecDepth 20000 in
theorem gX5_removeMet_X5_isThere : GoodIn wsX5_removeMet (wsV RX5 89 RX5 yX5_isThere wsX5_isThere) := goodIn_app (goodIn_of _ (by decide +kernel)) ggX5_removeMet_X5_isThere
set_option maxRecDepth 20000 in
theorem ggX5_removeMet_X5_isFine : GoodIn wsX5_removeMet wsX5_isFine := goodIn_r _ [27, 28, 66, 67, 68, 69, 70, 71, 72, 73, 74, 75, 76, 77, 78, 79, 80, 81, 82] (by decide +kernel) (by decide +kernel)
set_option maxRecDepth 20000 in
theorem gX5_removeMet_X5_isFine : GoodIn wsX5_removeMet (wsV RX5 79 RX5 yX5_isFine wsX5_isFine) := goodIn_app (goodIn_of _ (by decide +kernel)) ggX5_removeMet_X5_isFine
set_option maxRecDepth 20000 in
theorem ggX5_removeMet_X5_removes : GoodIn wsX5_removeMet wsX5_removes := goodIn_r _ [32, 33, 34, 35, 36, 7, 37, 38, 39, 22, 23, 40, 41, 42, 43, 21, 44, 45, 46, 47, 48, 49, 50, 51, 52, 53, 54, 55, 56, 57, 58, 59, 60, 61, 62, 63, 64, 65, 17, 18, 19, 20, 13, 14, 15, 16, 66, 67, 68, 69, 70, 71, 72, 73, 74, 75, 76, 77, 78, 79, 80, 81, 82] (by decide +kernel) (by decide +kernel)
set_option maxRecDepth 20000 in
theorem gX5_removeMet_X5_removes : GoodIn wsX5_removeMet (wsV RX5 99 RX5 yX5_removes wsX5_removes) := goodIn_app (goodIn_of _ (by decide +kernel)) ggX5_removeMet_X5_removes
theorem dX5_removeMet_0 : decode cX5_removeMet 0 = .ok (.aload_n 0, 1) := by decide +kernel
theorem dX5_removeMet_1 : decode cX5_removeMet 1 = .ok (.aload_n 0, 1) := by decide +kernel
theorem dX5_removeMet_2 : decode cX5_removeMet 2 = .ok (.iload_n 1, 1) := by decide +kernel
theorem dX5_removeMet_3 : decode cX5_removeMet 3 = .ok (.invokevirtual 110, 3) := by decide +kernel
theorem dX5_removeMet_6 : decode cX5_removeMet 6 = .ok (.ifCond .ne 7, 3) := by decide +kernel
theorem dX5_removeMet_9 : decode cX5_removeMet 9 = .ok (.iconst 1, 1) := by decide +kernel
theorem dX5_removeMet_10 : decode cX5_removeMet 10 = .ok (.goto 39, 3) := by decide +kernel
theorem dX5_removeMet_13 : decode cX5_removeMet 13 = .ok (.aload_n 0, 1) := by decide +kernel
theorem dX5_removeMet_14 : decode cX5_removeMet 14 = .ok (.getfield 43, 3) := by decide +kernel
theorem dX5_removeMet_17 : decode cX5_removeMet 17 = .ok (.iload_n 1, 1) := by decide +kernel
theorem dX5_removeMet_18 : decode cX5_removeMet 18 = .ok (.iaload, 1) := by decide +kernel
theorem dX5_removeMet_19 : decode cX5_removeMet 19 = .ok (.ifCond .eq 25, 3) := by decide +kernel
theorem dX5_removeMet_22 : decode cX5_removeMet 22 = .ok (.aload_n 0, 1) := by decide +kernel
theorem dX5_removeMet_23 : decode cX5_removeMet 23 = .ok (.getfield 40, 3) := by decide +kernel
theorem dX5_removeMet_26 : decode cX5_removeMet 26 = .ok (.iload_n 1, 1) := by decide +kernel
theorem dX5_removeMet_27 : decode cX5_removeMet 27 = .ok (.baload, 1) := by decide +kernel
theorem dX5_removeMet_28 : decode cX5_removeMet 28 = .ok (.ifCond .ne 16, 3) := by decide +kernel
theorem dX5_removeMet_31 : decode cX5_removeMet 31 = .ok (.aload_n 0, 1) := by decide +kernel
theorem dX5_removeMet_32 : decode cX5_removeMet 32 = .ok (.aload_n 0, 1) := by decide +kernel
theorem dX5_removeMet_33 : decode cX5_removeMet 33 = .ok (.getfield 37, 3) := by decide +kernel
theorem dX5_removeMet_36 : decode cX5_removeMet 36 = .ok (.iload_n 1, 1) := by decide +kernel
theorem dX5_removeMet_37 : decode cX5_removeMet 37 = .ok (.iaload, 1) := by decide +kernel
theorem dX5_removeMet_38 : decode cX5_removeMet 38 = .ok (.invokevirtual 89, 3) := by decide +kernel
theorem dX5_removeMet_41 : decode cX5_removeMet 41 = .ok (.ifCond .ne 7, 3) := by decide +kernel
theorem dX5_removeMet_44 : decode cX5_removeMet 44 = .ok (.iconst 2, 1) := by decide +kernel
theorem dX5_removeMet_45 : decode cX5_removeMet 45 = .ok (.goto 4, 3) := by decide +kernel
theorem dX5_removeMet_48 : decode cX5_removeMet 48 = .ok (.iconst 0, 1) := by decide +kernel
theorem dX5_removeMet_49 : decode cX5_removeMet 49 = .ok (.invokevirtual 79, 3) := by decide +kernel
theorem dX5_removeMet_52 : decode cX5_removeMet 52 = .ok (.ifCond .ne 5, 3) := by decide +kernel
theorem dX5_removeMet_55 : decode cX5_removeMet 55 = .ok (.iconst 0, 1) := by decide +kernel
theorem dX5_removeMet_56 : decode cX5_removeMet 56 = .ok (.ireturn, 1) := by decide +kernel
theorem dX5_removeMet_57 : decode cX5_removeMet 57 = .ok (.aload_n 0, 1) := by decide +kernel
theorem dX5_removeMet_58 : decode cX5_removeMet 58 = .ok (.getfield 40, 3) := by decide +kernel
theorem dX5_removeMet_61 : decode cX5_removeMet 61 = .ok (.iload_n 1, 1) := by decide +kernel
theorem dX5_removeMet_62 : decode cX5_removeMet 62 = .ok (.iconst 1, 1) := by decide +kernel
theorem dX5_removeMet_63 : decode cX5_removeMet 63 = .ok (.bastore, 1) := by decide +kernel
theorem dX5_removeMet_64 : decode cX5_removeMet 64 = .ok (.aload_n 0, 1) := by decide +kernel
theorem dX5_removeMet_65 : decode cX5_removeMet 65 = .ok (.aload_n 0, 1) := by decide +kernel
theorem dX5_removeMet_66 : decode cX5_removeMet 66 = .ok (.getfield 37, 3) := by decide +kernel
theorem dX5_removeMet_69 : decode cX5_removeMet 69 = .ok (.iload_n 1, 1) := by decide +kernel
theorem dX5_removeMet_70 : decode cX5_removeMet 70 = .ok (.iaload, 1) := by decide +kernel
theorem dX5_removeMet_71 : decode cX5_removeMet 71 = .ok (.invokevirtual 99, 3) := by decide +kernel
theorem dX5_removeMet_74 : decode cX5_removeMet 74 = .ok (.ireturn, 1) := by decide +kernel
set_option maxRecDepth 20000 in
theorem ggX5_closeSweep_X5_isSweep : GoodIn wsX5_closeSweep wsX5_isSweep := goodIn_r _ [7, 1, 8, 9, 6, 10, 16, 17, 18, 19, 20, 21, 22, 23, 24, 25, 26, 27, 28, 29, 30, 31, 32] (by decide +kernel) (by decide +kernel)
set_option maxRecDepth 20000 in
theorem gX5_closeSweep_X5_isSweep : GoodIn wsX5_closeSweep (wsV RX5 110 RX5 yX5_isSweep wsX5_isSweep) := goodIn_app (goodIn_of _ (by decide +kernel)) ggX5_closeSweep_X5_isSweep
set_option maxRecDepth 20000 in
theorem ggX5_closeSweep_X5_isFine : GoodIn wsX5_closeSweep wsX5_isFine := goodIn_r _ [14, 15, 16, 17, 18, 19, 20, 21, 22, 23, 24, 25, 26, 27, 28, 29, 30, 31, 32] (by decide +kernel) (by decide +kernel)
set_option maxRecDepth 20000 in
theorem gX5_closeSweep_X5_isFine : GoodIn wsX5_closeSweep (wsV RX5 79 RX5 yX5_isFine wsX5_isFine) := goodIn_app (goodIn_of _ (by decide +kernel)) ggX5_closeSweep_X5_isFine
theorem dX5_closeSweep_0 : decode cX5_closeSweep 0 = .ok (.aload_n 0, 1) := by decide +kernel
theorem dX5_closeSweep_1 : decode cX5_closeSweep 1 = .ok (.aload_n 0, 1) := by decide +kernel
theorem dX5_closeSweep_2 : decode cX5_closeSweep 2 = .ok (.iload_n 1, 1) := by decide +kernel
theorem dX5_closeSweep_3 : decode cX5_closeSweep 3 = .ok (.invokevirtual 110, 3) := by decide +kernel
theorem dX5_closeSweep_6 : decode cX5_closeSweep 6 = .ok (.ifCond .eq 7, 3) := by decide +kernel
theorem dX5_closeSweep_9 : decode cX5_closeSweep 9 = .ok (.iconst 0, 1) := by decide +kernel
theorem dX5_closeSweep_10 : decode cX5_closeSweep 10 = .ok (.goto 4, 3) := by decide +kernel
theorem dX5_closeSweep_13 : decode cX5_closeSweep 13 = .ok (.iconst 1, 1) := by decide +kernel
theorem dX5_closeSweep_14 : decode cX5_closeSweep 14 = .ok (.invokevirtual 79, 3) := by decide +kernel
theorem dX5_closeSweep_17 : decode cX5_closeSweep 17 = .ok (.ifCond .ne 5, 3) := by decide +kernel
theorem dX5_closeSweep_20 : decode cX5_closeSweep 20 = .ok (.iconst 0, 1) := by decide +kernel
theorem dX5_closeSweep_21 : decode cX5_closeSweep 21 = .ok (.ireturn, 1) := by decide +kernel
theorem dX5_closeSweep_22 : decode cX5_closeSweep 22 = .ok (.aload_n 0, 1) := by decide +kernel
theorem dX5_closeSweep_23 : decode cX5_closeSweep 23 = .ok (.getfield 30, 3) := by decide +kernel
theorem dX5_closeSweep_26 : decode cX5_closeSweep 26 = .ok (.iload_n 1, 1) := by decide +kernel
theorem dX5_closeSweep_27 : decode cX5_closeSweep 27 = .ok (.iconst 0, 1) := by decide +kernel
theorem dX5_closeSweep_28 : decode cX5_closeSweep 28 = .ok (.bastore, 1) := by decide +kernel
theorem dX5_closeSweep_29 : decode cX5_closeSweep 29 = .ok (.aload_n 0, 1) := by decide +kernel
theorem dX5_closeSweep_30 : decode cX5_closeSweep 30 = .ok (.getfield 43, 3) := by decide +kernel
theorem dX5_closeSweep_33 : decode cX5_closeSweep 33 = .ok (.iload_n 1, 1) := by decide +kernel
theorem dX5_closeSweep_34 : decode cX5_closeSweep 34 = .ok (.iaload, 1) := by decide +kernel
theorem dX5_closeSweep_35 : decode cX5_closeSweep 35 = .ok (.ireturn, 1) := by decide +kernel
set_option maxRecDepth 20000 in
theorem ggX5_hash_X5_hashOf : GoodIn wsX5_hash wsX5_hashOf := goodIn_r _ [6, 7, 8, 9, 10, 11, 12, 13, 14, 15, 16, 17, 18, 19, 20, 21, 22, 23, 24, 25] (by decide +kernel) (by decide +kernel)
set_option maxRecDepth 20000 in
theorem gX5_hash_X5_hashOf : GoodIn wsX5_hash (wsV RX5 53 RX5 yX5_hashOf wsX5_hashOf) := goodIn_app (goodIn_of _ (by decide +kernel)) ggX5_hash_X5_hashOf
theorem dX5_hash_0 : decode cX5_hash 0 = .ok (.aload_n 0, 1) := by decide +kernel
theorem dX5_hash_1 : decode cX5_hash 1 = .ok (.iconst 0, 1) := by decide +kernel
theorem dX5_hash_2 : decode cX5_hash 2 = .ok (.putfield 49, 3) := by decide +kernel
theorem dX5_hash_5 : decode cX5_hash 5 = .ok (.aload_n 0, 1) := by decide +kernel
theorem dX5_hash_6 : decode cX5_hash 6 = .ok (.iload_n 1, 1) := by decide +kernel
theorem dX5_hash_7 : decode cX5_hash 7 = .ok (.invokevirtual 53, 3) := by decide +kernel
theorem dX5_hash_10 : decode cX5_hash 10 = .ok (.ireturn, 1) := by decide +kernel
theorem dX5_tableOf_0 : decode cX5_tableOf 0 = .ok (.iload_n 1, 1) := by decide +kernel
theorem dX5_tableOf_1 : decode cX5_tableOf 1 = .ok (.ifCond .ne 10, 3) := by decide +kernel
theorem dX5_tableOf_4 : decode cX5_tableOf 4 = .ok (.aload_n 0, 1) := by decide +kernel
theorem dX5_tableOf_5 : decode cX5_tableOf 5 = .ok (.getfield 64, 3) := by decide +kernel
theorem dX5_tableOf_8 : decode cX5_tableOf 8 = .ok (.goto 9, 3) := by decide +kernel
theorem dX5_tableOf_11 : decode cX5_tableOf 11 = .ok (.iconst 1, 1) := by decide +kernel
theorem dX5_tableOf_12 : decode cX5_tableOf 12 = .ok (.aload_n 0, 1) := by decide +kernel
theorem dX5_tableOf_13 : decode cX5_tableOf 13 = .ok (.getfield 64, 3) := by decide +kernel
theorem dX5_tableOf_16 : decode cX5_tableOf 16 = .ok (.isub, 1) := by decide +kernel
theorem dX5_tableOf_17 : decode cX5_tableOf 17 = .ok (.ireturn, 1) := by decide +kernel
set_option maxRecDepth 20000 in
theorem ggX5_slots_X5_in : GoodIn wsX5_slots wsX5_in := goodIn_r _ [5] (by decide +kernel) (by decide +kernel)
set_option maxRecDepth 20000 in
theorem gX5_slots_X5_in : GoodIn wsX5_slots (va_wsS RX5 75 yX5_in wsX5_in) := goodIn_app (goodIn_of _ (by decide +kernel)) ggX5_slots_X5_in
set_option maxRecDepth 20000 in
theorem ggX5_slots_X5_isFine : GoodIn wsX5_slots wsX5_isFine := goodIn_r _ [9, 10, 16, 17, 18, 19, 20, 21, 22, 23, 24, 25, 26, 27, 28, 29, 30, 31, 32] (by decide +kernel) (by decide +kernel)
set_option maxRecDepth 20000 in
theorem gX5_slots_X5_isFine : GoodIn wsX5_slots (wsV RX5 79 RX5 yX5_isFine wsX5_isFine) := goodIn_app (goodIn_of _ (by decide +kernel)) ggX5_slots_X5_isFine
set_option maxRecDepth 20000 in
theorem ggX5_slots_X5_tableOf : GoodIn wsX5_slots wsX5_tableOf := goodIn_r _ [14, 15, 16, 17, 18, 19, 20, 21, 22, 23, 24, 25, 26, 27, 28, 29, 30, 31, 32] (by decide +kernel) (by decide +kernel)
set_option maxRecDepth 20000 in
theorem gX5_slots_X5_tableOf : GoodIn wsX5_slots (wsV RX5 117 RX5 yX5_tableOf wsX5_tableOf) := goodIn_app (goodIn_of _ (by decide +kernel)) ggX5_slots_X5_tableOf
theorem dX5_slots_0 : decode cX5_slots 0 = .ok (.aload_n 0, 1) := by decide +kernel
theorem dX5_slots_1 : decode cX5_slots 1 = .ok (.iload_n 1, 1) := by decide +kernel
theorem dX5_slots_2 : decode cX5_slots 2 = .ok (.iconst 0, 1) := by decide +kernel
theorem dX5_slots_3 : decode cX5_slots 3 = .ok (.iconst 1, 1) := by decide +kernel
theorem dX5_slots_4 : decode cX5_slots 4 = .ok (.invokestatic 75, 3) := by decide +kernel
theorem dX5_slots_7 : decode cX5_slots 7 = .ok (.ifCond .eq 7, 3) := by decide +kernel
theorem dX5_slots_10 : decode cX5_slots 10 = .ok (.iconst 0, 1) := by decide +kernel
theorem dX5_slots_11 : decode cX5_slots 11 = .ok (.goto 4, 3) := by decide +kernel
theorem dX5_slots_14 : decode cX5_slots 14 = .ok (.iconst 1, 1) := by decide +kernel
theorem dX5_slots_15 : decode cX5_slots 15 = .ok (.invokevirtual 79, 3) := by decide +kernel
theorem dX5_slots_18 : decode cX5_slots 18 = .ok (.ifCond .eq 16, 3) := by decide +kernel
theorem dX5_slots_21 : decode cX5_slots 21 = .ok (.aload_n 0, 1) := by decide +kernel
theorem dX5_slots_22 : decode cX5_slots 22 = .ok (.getfield 20, 3) := by decide +kernel
theorem dX5_slots_25 : decode cX5_slots 25 = .ok (.aload_n 0, 1) := by decide +kernel
theorem dX5_slots_26 : decode cX5_slots 26 = .ok (.iload_n 1, 1) := by decide +kernel
theorem dX5_slots_27 : decode cX5_slots 27 = .ok (.invokevirtual 117, 3) := by decide +kernel
theorem dX5_slots_30 : decode cX5_slots 30 = .ok (.iaload, 1) := by decide +kernel
theorem dX5_slots_31 : decode cX5_slots 31 = .ok (.goto 4, 3) := by decide +kernel
theorem dX5_slots_34 : decode cX5_slots 34 = .ok (.iconst 0, 1) := by decide +kernel
theorem dX5_slots_35 : decode cX5_slots 35 = .ok (.ireturn, 1) := by decide +kernel
set_option maxRecDepth 20000 in
theorem ggX5_keysIn_X5_in : GoodIn wsX5_keysIn wsX5_in := goodIn_r _ [5] (by decide +kernel) (by decide +kernel)
set_option maxRecDepth 20000 in
theorem gX5_keysIn_X5_in : GoodIn wsX5_keysIn (va_wsS RX5 75 yX5_in wsX5_in) := goodIn_app (goodIn_of _ (by decide +kernel)) ggX5_keysIn_X5_in
set_option maxRecDepth 20000 in
theorem ggX5_keysIn_X5_isFine : GoodIn wsX5_keysIn wsX5_isFine := goodIn_r _ [9, 10, 16, 17, 18, 19, 20, 21, 22, 23, 24, 25, 26, 27, 28, 29, 30, 31, 32] (by decide +kernel) (by decide +kernel)
set_option maxRecDepth 20000 in
theorem gX5_keysIn_X5_isFine : GoodIn wsX5_keysIn (wsV RX5 79 RX5 yX5_isFine wsX5_isFine) := goodIn_app (goodIn_of _ (by decide +kernel)) ggX5_keysIn_X5_isFine
set_option maxRecDepth 20000 in
theorem ggX5_keysIn_X5_tableOf : GoodIn wsX5_keysIn wsX5_tableOf := goodIn_r _ [14, 15, 16, 17, 18, 19, 20, 21, 22, 23, 24, 25, 26, 27, 28, 29, 30, 31, 32] (by decide +kernel) (by decide +kernel)
set_option maxRecDepth 20000 in
theorem gX5_keysIn_X5_tableOf : GoodIn wsX5_keysIn (wsV RX5 117 RX5 yX5_tableOf wsX5_tableOf) := goodIn_app (goodIn_of _ (by decide +kernel)) ggX5_keysIn_X5_tableOf
theorem dX5_keysIn_0 : decode cX5_keysIn 0 = .ok (.aload_n 0, 1) := by decide +kernel
theorem dX5_keysIn_1 : decode cX5_keysIn 1 = .ok (.iload_n 1, 1) := by decide +kernel
theorem dX5_keysIn_2 : decode cX5_keysIn 2 = .ok (.iconst 0, 1) := by decide +kernel
theorem dX5_keysIn_3 : decode cX5_keysIn 3 = .ok (.iconst 1, 1) := by decide +kernel
theorem dX5_keysIn_4 : decode cX5_keysIn 4 = .ok (.invokestatic 75, 3) := by decide +kernel
theorem dX5_keysIn_7 : decode cX5_keysIn 7 = .ok (.ifCond .eq 7, 3) := by decide +kernel
theorem dX5_keysIn_10 : decode cX5_keysIn 10 = .ok (.iconst 0, 1) := by decide +kernel
theorem dX5_keysIn_11 : decode cX5_keysIn 11 = .ok (.goto 4, 3) := by decide +kernel
theorem dX5_keysIn_14 : decode cX5_keysIn 14 = .ok (.iconst 1, 1) := by decide +kernel
theorem dX5_keysIn_15 : decode cX5_keysIn 15 = .ok (.invokevirtual 79, 3) := by decide +kernel
theorem dX5_keysIn_18 : decode cX5_keysIn 18 = .ok (.ifCond .eq 16, 3) := by decide +kernel
theorem dX5_keysIn_21 : decode cX5_keysIn 21 = .ok (.aload_n 0, 1) := by decide +kernel
theorem dX5_keysIn_22 : decode cX5_keysIn 22 = .ok (.getfield 23, 3) := by decide +kernel
theorem dX5_keysIn_25 : decode cX5_keysIn 25 = .ok (.aload_n 0, 1) := by decide +kernel
theorem dX5_keysIn_26 : decode cX5_keysIn 26 = .ok (.iload_n 1, 1) := by decide +kernel
theorem dX5_keysIn_27 : decode cX5_keysIn 27 = .ok (.invokevirtual 117, 3) := by decide +kernel
theorem dX5_keysIn_30 : decode cX5_keysIn 30 = .ok (.iaload, 1) := by decide +kernel
theorem dX5_keysIn_31 : decode cX5_keysIn 31 = .ok (.goto 4, 3) := by decide +kernel
theorem dX5_keysIn_34 : decode cX5_keysIn 34 = .ok (.iconst 0, 1) := by decide +kernel
theorem dX5_keysIn_35 : decode cX5_keysIn 35 = .ok (.ireturn, 1) := by decide +kernel
set_option maxRecDepth 20000 in
theorem ggX5_isSlot_X5_in : GoodIn wsX5_isSlot wsX5_in := goodIn_r _ [5] (by decide +kernel) (by decide +kernel)
set_option maxRecDepth 20000 in
theorem gX5_isSlot_X5_in : GoodIn wsX5_isSlot (va_wsS RX5 75 yX5_in wsX5_in) := goodIn_app (goodIn_of _ (by decide +kernel)) ggX5_isSlot_X5_in
set_option maxRecDepth 20000 in
theorem ggX5_isSlot_X5_tableOf : GoodIn wsX5_isSlot wsX5_tableOf := goodIn_r _ [9, 10, 11, 12, 13, 14, 15, 16, 17, 18, 19, 20, 21, 22, 23, 24, 25, 26, 27] (by decide +kernel) (by decide +kernel)
set_option maxRecDepth 20000 in
theorem gX5_isSlot_X5_tableOf : GoodIn wsX5_isSlot (wsV RX5 117 RX5 yX5_tableOf wsX5_tableOf) := goodIn_app (goodIn_of _ (by decide +kernel)) ggX5_isSlot_X5_tableOf
theorem dX5_isSlot_0 : decode cX5_isSlot 0 = .ok (.iload_n 1, 1) := by decide +kernel
theorem dX5_isSlot_1 : decode cX5_isSlot 1 = .ok (.iconst 0, 1) := by decide +kernel
theorem dX5_isSlot_2 : decode cX5_isSlot 2 = .ok (.iconst 1, 1) := by decide +kernel
theorem dX5_isSlot_3 : decode cX5_isSlot 3 = .ok (.invokestatic 75, 3) := by decide +kernel
theorem dX5_isSlot_6 : decode cX5_isSlot 6 = .ok (.ifCond .eq 27, 3) := by decide +kernel
theorem dX5_isSlot_9 : decode cX5_isSlot 9 = .ok (.iload_n 2, 1) := by decide +kernel
theorem dX5_isSlot_10 : decode cX5_isSlot 10 = .ok (.iconst 0, 1) := by decide +kernel
theorem dX5_isSlot_11 : decode cX5_isSlot 11 = .ok (.aload_n 0, 1) := by decide +kernel
theorem dX5_isSlot_12 : decode cX5_isSlot 12 = .ok (.getfield 20, 3) := by decide +kernel
theorem dX5_isSlot_15 : decode cX5_isSlot 15 = .ok (.aload_n 0, 1) := by decide +kernel
theorem dX5_isSlot_16 : decode cX5_isSlot 16 = .ok (.iload_n 1, 1) := by decide +kernel
theorem dX5_isSlot_17 : decode cX5_isSlot 17 = .ok (.invokevirtual 117, 3) := by decide +kernel
theorem dX5_isSlot_20 : decode cX5_isSlot 20 = .ok (.iaload, 1) := by decide +kernel
theorem dX5_isSlot_21 : decode cX5_isSlot 21 = .ok (.iconst 1, 1) := by decide +kernel
theorem dX5_isSlot_22 : decode cX5_isSlot 22 = .ok (.isub, 1) := by decide +kernel
theorem dX5_isSlot_23 : decode cX5_isSlot 23 = .ok (.invokestatic 75, 3) := by decide +kernel
theorem dX5_isSlot_26 : decode cX5_isSlot 26 = .ok (.ifCond .eq 7, 3) := by decide +kernel
theorem dX5_isSlot_29 : decode cX5_isSlot 29 = .ok (.iconst 1, 1) := by decide +kernel
theorem dX5_isSlot_30 : decode cX5_isSlot 30 = .ok (.goto 4, 3) := by decide +kernel
theorem dX5_isSlot_33 : decode cX5_isSlot 33 = .ok (.iconst 0, 1) := by decide +kernel
theorem dX5_isSlot_34 : decode cX5_isSlot 34 = .ok (.ireturn, 1) := by decide +kernel
set_option maxRecDepth 20000 in
theorem ggX5_controlOf_X5_hashOf : GoodIn wsX5_controlOf wsX5_hashOf := goodIn_r _ [7, 8, 9, 10, 11, 12, 13, 14, 15, 16, 17, 18, 19, 20, 21, 22, 23, 24, 25, 26] (by decide +kernel) (by decide +kernel)
set_option maxRecDepth 20000 in
theorem gX5_controlOf_X5_hashOf : GoodIn wsX5_controlOf (wsV RX5 53 RX5 yX5_hashOf wsX5_hashOf) := goodIn_app (goodIn_of _ (by decide +kernel)) ggX5_controlOf_X5_hashOf
theorem dX5_controlOf_0 : decode cX5_controlOf 0 = .ok (.aload_n 0, 1) := by decide +kernel
theorem dX5_controlOf_1 : decode cX5_controlOf 1 = .ok (.getfield 16, 3) := by decide +kernel
theorem dX5_controlOf_4 : decode cX5_controlOf 4 = .ok (.sipush 256, 3) := by decide +kernel
theorem dX5_controlOf_7 : decode cX5_controlOf 7 = .ok (.iload_n 1, 1) := by decide +kernel
theorem dX5_controlOf_8 : decode cX5_controlOf 8 = .ok (.imul, 1) := by decide +kernel
theorem dX5_controlOf_9 : decode cX5_controlOf 9 = .ok (.iload_n 2, 1) := by decide +kernel
theorem dX5_controlOf_10 : decode cX5_controlOf 10 = .ok (.iadd, 1) := by decide +kernel
theorem dX5_controlOf_11 : decode cX5_controlOf 11 = .ok (.baload, 1) := by decide +kernel
theorem dX5_controlOf_12 : decode cX5_controlOf 12 = .ok (.ifCond .eq 26, 3) := by decide +kernel
theorem dX5_controlOf_15 : decode cX5_controlOf 15 = .ok (.aload_n 0, 1) := by decide +kernel
theorem dX5_controlOf_16 : decode cX5_controlOf 16 = .ok (.aload_n 0, 1) := by decide +kernel
theorem dX5_controlOf_17 : decode cX5_controlOf 17 = .ok (.getfield 7, 3) := by decide +kernel
theorem dX5_controlOf_20 : decode cX5_controlOf 20 = .ok (.sipush 256, 3) := by decide +kernel
theorem dX5_controlOf_23 : decode cX5_controlOf 23 = .ok (.iload_n 1, 1) := by decide +kernel
theorem dX5_controlOf_24 : decode cX5_controlOf 24 = .ok (.imul, 1) := by decide +kernel
theorem dX5_controlOf_25 : decode cX5_controlOf 25 = .ok (.iload_n 2, 1) := by decide +kernel
theorem dX5_controlOf_26 : decode cX5_controlOf 26 = .ok (.iadd, 1) := by decide +kernel
theorem dX5_controlOf_27 : decode cX5_controlOf 27 = .ok (.iaload, 1) := by decide +kernel
theorem dX5_controlOf_28 : decode cX5_controlOf 28 = .ok (.invokevirtual 53, 3) := by decide +kernel
theorem dX5_controlOf_31 : decode cX5_controlOf 31 = .ok (.bipush 25, 2) := by decide +kernel
theorem dX5_controlOf_33 : decode cX5_controlOf 33 = .ok (.iushr, 1) := by decide +kernel
theorem dX5_controlOf_34 : decode cX5_controlOf 34 = .ok (.i2b, 1) := by decide +kernel
theorem dX5_controlOf_35 : decode cX5_controlOf 35 = .ok (.goto 5, 3) := by decide +kernel
theorem dX5_controlOf_38 : decode cX5_controlOf 38 = .ok (.bipush (-128), 2) := by decide +kernel
theorem dX5_controlOf_40 : decode cX5_controlOf 40 = .ok (.ireturn, 1) := by decide +kernel
set_option maxRecDepth 20000 in
theorem ggX5_control_X5_isSlot : GoodIn wsX5_control wsX5_isSlot := goodIn_r _ [5, 6, 7, 8, 4, 9, 10, 11, 12, 13, 14, 32, 33, 34, 35, 36, 37, 38, 39, 40, 41, 42, 43, 44, 45, 46, 47, 48] (by decide +kernel) (by decide +kernel)
set_option maxRecDepth 20000 in
theorem gX5_control_X5_isSlot : GoodIn wsX5_control (wsV RX5 120 RX5 yX5_isSlot wsX5_isSlot) := goodIn_app (goodIn_of _ (by decide +kernel)) ggX5_control_X5_isSlot
set_option maxRecDepth 20000 in
theorem ggX5_control_X5_isFine : GoodIn wsX5_control wsX5_isFine := goodIn_r _ [18, 19, 32, 33, 34, 35, 36, 37, 38, 39, 40, 41, 42, 43, 44, 45, 46, 47, 48] (by decide +kernel) (by decide +kernel)
set_option maxRecDepth 20000 in
theorem gX5_control_X5_isFine : GoodIn wsX5_control (wsV RX5 79 RX5 yX5_isFine wsX5_isFine) := goodIn_app (goodIn_of _ (by decide +kernel)) ggX5_control_X5_isFine
set_option maxRecDepth 20000 in
theorem ggX5_control_X5_tableOf : GoodIn wsX5_control wsX5_tableOf := goodIn_r _ [13, 14, 32, 33, 34, 35, 36, 37, 38, 39, 40, 41, 42, 43, 44, 45, 46, 47, 48] (by decide +kernel) (by decide +kernel)
set_option maxRecDepth 20000 in
theorem gX5_control_X5_tableOf : GoodIn wsX5_control (wsV RX5 117 RX5 yX5_tableOf wsX5_tableOf) := goodIn_app (goodIn_of _ (by decide +kernel)) ggX5_control_X5_tableOf
set_option maxRecDepth 20000 in
theorem ggX5_control_X5_controlOf : GoodIn wsX5_control wsX5_controlOf := goodIn_r _ [23, 24, 25, 26, 27, 28, 4, 29, 30, 31, 32, 33, 34, 35, 36, 37, 38, 39, 40, 41, 42, 43, 44, 45, 46, 47, 48] (by decide +kernel) (by decide +kernel)
set_option maxRecDepth 20000 in
theorem gX5_control_X5_controlOf : GoodIn wsX5_control (wsV RX5 124 RX5 yX5_controlOf wsX5_controlOf) := goodIn_app (goodIn_of _ (by decide +kernel)) ggX5_control_X5_controlOf
theorem dX5_control_0 : decode cX5_control 0 = .ok (.aload_n 0, 1) := by decide +kernel
theorem dX5_control_1 : decode cX5_control 1 = .ok (.aload_n 0, 1) := by decide +kernel
theorem dX5_control_2 : decode cX5_control 2 = .ok (.iload_n 1, 1) := by decide +kernel
theorem dX5_control_3 : decode cX5_control 3 = .ok (.iload_n 2, 1) := by decide +kernel
theorem dX5_control_4 : decode cX5_control 4 = .ok (.invokevirtual 120, 3) := by decide +kernel
theorem dX5_control_7 : decode cX5_control 7 = .ok (.ifCond .eq 7, 3) := by decide +kernel
theorem dX5_control_10 : decode cX5_control 10 = .ok (.iconst 0, 1) := by decide +kernel
theorem dX5_control_11 : decode cX5_control 11 = .ok (.goto 4, 3) := by decide +kernel
theorem dX5_control_14 : decode cX5_control 14 = .ok (.iconst 1, 1) := by decide +kernel
theorem dX5_control_15 : decode cX5_control 15 = .ok (.invokevirtual 79, 3) := by decide +kernel
theorem dX5_control_18 : decode cX5_control 18 = .ok (.ifCond .eq 16, 3) := by decide +kernel
theorem dX5_control_21 : decode cX5_control 21 = .ok (.aload_n 0, 1) := by decide +kernel
theorem dX5_control_22 : decode cX5_control 22 = .ok (.aload_n 0, 1) := by decide +kernel
theorem dX5_control_23 : decode cX5_control 23 = .ok (.iload_n 1, 1) := by decide +kernel
theorem dX5_control_24 : decode cX5_control 24 = .ok (.invokevirtual 117, 3) := by decide +kernel
theorem dX5_control_27 : decode cX5_control 27 = .ok (.iload_n 2, 1) := by decide +kernel
theorem dX5_control_28 : decode cX5_control 28 = .ok (.invokevirtual 124, 3) := by decide +kernel
theorem dX5_control_31 : decode cX5_control 31 = .ok (.goto 4, 3) := by decide +kernel
theorem dX5_control_34 : decode cX5_control 34 = .ok (.iconst 0, 1) := by decide +kernel
theorem dX5_control_35 : decode cX5_control 35 = .ok (.ireturn, 1) := by decide +kernel
set_option maxRecDepth 20000 in
theorem ggX5_keyAt_X5_tableOf : GoodIn wsX5_keyAt wsX5_tableOf := goodIn_r _ [7, 8, 22, 23, 24, 25, 26, 27, 28, 29, 30, 31, 32, 33, 34, 35, 36, 37, 38] (by decide +kernel) (by decide +kernel)
set_option maxRecDepth 20000 in
theorem gX5_keyAt_X5_tableOf : GoodIn wsX5_keyAt (wsV RX5 117 RX5 yX5_tableOf wsX5_tableOf) := goodIn_app (goodIn_of _ (by decide +kernel)) ggX5_keyAt_X5_tableOf
set_option maxRecDepth 20000 in
theorem ggX5_keyAt_X5_isSlot : GoodIn wsX5_keyAt wsX5_isSlot := goodIn_r _ [12, 13, 14, 15, 6, 16, 3, 4, 5, 7, 8, 22, 23, 24, 25, 26, 27, 28, 29, 30, 31, 32, 33, 34, 35, 36, 37, 38] (by decide +kernel) (by decide +kernel)
set_option maxRecDepth 20000 in
theorem gX5_keyAt_X5_isSlot : GoodIn wsX5_keyAt (wsV RX5 120 RX5 yX5_isSlot wsX5_isSlot) := goodIn_app (goodIn_of _ (by decide +kernel)) ggX5_keyAt_X5_isSlot
set_option maxRecDepth 20000 in
theorem ggX5_keyAt_X5_isFine : GoodIn wsX5_keyAt wsX5_isFine := goodIn_r _ [20, 21, 22, 23, 24, 25, 26, 27, 28, 29, 30, 31, 32, 33, 34, 35, 36, 37, 38] (by decide +kernel) (by decide +kernel)
set_option maxRecDepth 20000 in
theorem gX5_keyAt_X5_isFine : GoodIn wsX5_keyAt (wsV RX5 79 RX5 yX5_isFine wsX5_isFine) := goodIn_app (goodIn_of _ (by decide +kernel)) ggX5_keyAt_X5_isFine
theorem dX5_keyAt_0 : decode cX5_keyAt 0 = .ok (.sipush 256, 3) := by decide +kernel
theorem dX5_keyAt_3 : decode cX5_keyAt 3 = .ok (.aload_n 0, 1) := by decide +kernel
theorem dX5_keyAt_4 : decode cX5_keyAt 4 = .ok (.iload_n 1, 1) := by decide +kernel
theorem dX5_keyAt_5 : decode cX5_keyAt 5 = .ok (.invokevirtual 117, 3) := by decide +kernel
theorem dX5_keyAt_8 : decode cX5_keyAt 8 = .ok (.imul, 1) := by decide +kernel
theorem dX5_keyAt_9 : decode cX5_keyAt 9 = .ok (.iload_n 2, 1) := by decide +kernel
theorem dX5_keyAt_10 : decode cX5_keyAt 10 = .ok (.iadd, 1) := by decide +kernel
theorem dX5_keyAt_11 : decode cX5_keyAt 11 = .ok (.istore_n 3, 1) := by decide +kernel
theorem dX5_keyAt_12 : decode cX5_keyAt 12 = .ok (.aload_n 0, 1) := by decide +kernel
theorem dX5_keyAt_13 : decode cX5_keyAt 13 = .ok (.aload_n 0, 1) := by decide +kernel
theorem dX5_keyAt_14 : decode cX5_keyAt 14 = .ok (.iload_n 1, 1) := by decide +kernel
theorem dX5_keyAt_15 : decode cX5_keyAt 15 = .ok (.iload_n 2, 1) := by decide +kernel
theorem dX5_keyAt_16 : decode cX5_keyAt 16 = .ok (.invokevirtual 120, 3) := by decide +kernel
theorem dX5_keyAt_19 : decode cX5_keyAt 19 = .ok (.ifCond .ne 7, 3) := by decide +kernel
theorem dX5_keyAt_22 : decode cX5_keyAt 22 = .ok (.iconst 1, 1) := by decide +kernel
theorem dX5_keyAt_23 : decode cX5_keyAt 23 = .ok (.goto 17, 3) := by decide +kernel
theorem dX5_keyAt_26 : decode cX5_keyAt 26 = .ok (.aload_n 0, 1) := by decide +kernel
theorem dX5_keyAt_27 : decode cX5_keyAt 27 = .ok (.getfield 16, 3) := by decide +kernel
theorem dX5_keyAt_30 : decode cX5_keyAt 30 = .ok (.iload_n 3, 1) := by decide +kernel
theorem dX5_keyAt_31 : decode cX5_keyAt 31 = .ok (.baload, 1) := by decide +kernel
theorem dX5_keyAt_32 : decode cX5_keyAt 32 = .ok (.ifCond .ne 7, 3) := by decide +kernel
theorem dX5_keyAt_35 : decode cX5_keyAt 35 = .ok (.iconst 2, 1) := by decide +kernel
theorem dX5_keyAt_36 : decode cX5_keyAt 36 = .ok (.goto 4, 3) := by decide +kernel
theorem dX5_keyAt_39 : decode cX5_keyAt 39 = .ok (.iconst 0, 1) := by decide +kernel
theorem dX5_keyAt_40 : decode cX5_keyAt 40 = .ok (.invokevirtual 79, 3) := by decide +kernel
theorem dX5_keyAt_43 : decode cX5_keyAt 43 = .ok (.ifCond .eq 12, 3) := by decide +kernel
theorem dX5_keyAt_46 : decode cX5_keyAt 46 = .ok (.aload_n 0, 1) := by decide +kernel
theorem dX5_keyAt_47 : decode cX5_keyAt 47 = .ok (.getfield 7, 3) := by decide +kernel
theorem dX5_keyAt_50 : decode cX5_keyAt 50 = .ok (.iload_n 3, 1) := by decide +kernel
theorem dX5_keyAt_51 : decode cX5_keyAt 51 = .ok (.iaload, 1) := by decide +kernel
theorem dX5_keyAt_52 : decode cX5_keyAt 52 = .ok (.goto 4, 3) := by decide +kernel
theorem dX5_keyAt_55 : decode cX5_keyAt 55 = .ok (.iconst 0, 1) := by decide +kernel
theorem dX5_keyAt_56 : decode cX5_keyAt 56 = .ok (.ireturn, 1) := by decide +kernel
set_option maxRecDepth 20000 in
theorem ggX5_distanceAt_X5_isSlot : GoodIn wsX5_distanceAt wsX5_isSlot := goodIn_r _ [6, 7, 8, 9, 5, 10, 11, 12, 13, 14, 15, 36, 37, 38, 39, 40, 41, 42, 43, 44, 45, 46, 47, 48, 49, 50, 51, 52] (by decide +kernel) (by decide +kernel)
set_option maxRecDepth 20000 in
theorem gX5_distanceAt_X5_isSlot : GoodIn wsX5_distanceAt (wsV RX5 120 RX5 yX5_isSlot wsX5_isSlot) := goodIn_app (goodIn_of _ (by decide +kernel)) ggX5_distanceAt_X5_isSlot
set_option maxRecDepth 20000 in
theorem ggX5_distanceAt_X5_isFine : GoodIn wsX5_distanceAt wsX5_isFine := goodIn_r _ [19, 20, 36, 37, 38, 39, 40, 41, 42, 43, 44, 45, 46, 47, 48, 49, 50, 51, 52] (by decide +kernel) (by decide +kernel)
set_option maxRecDepth 20000 in
theorem gX5_distanceAt_X5_isFine : GoodIn wsX5_distanceAt (wsV RX5 79 RX5 yX5_isFine wsX5_isFine) := goodIn_app (goodIn_of _ (by decide +kernel)) ggX5_distanceAt_X5_isFine
set_option maxRecDepth 20000 in
theorem ggX5_distanceAt_X5_tableOf : GoodIn wsX5_distanceAt wsX5_tableOf := goodIn_r _ [14, 15, 36, 37, 38, 39, 40, 41, 42, 43, 44, 45, 46, 47, 48, 49, 50, 51, 52] (by decide +kernel) (by decide +kernel)
set_option maxRecDepth 20000 in
theorem gX5_distanceAt_X5_tableOf : GoodIn wsX5_distanceAt (wsV RX5 117 RX5 yX5_tableOf wsX5_tableOf) := goodIn_app (goodIn_of _ (by decide +kernel)) ggX5_distanceAt_X5_tableOf
set_option maxRecDepth 20000 in
theorem ggX5_distanceAt_X5_distance : GoodIn wsX5_distanceAt wsX5_distance := goodIn_r _ [24, 25, 7, 26, 27, 28, 5, 29, 30, 31, 32, 33, 34, 35, 36, 37, 38, 39, 40, 41, 42, 43, 44, 45, 46, 47, 48, 49, 50, 51, 52] (by decide +kernel) (by decide +kernel)
set_option maxRecDepth 20000 in
theorem gX5_distanceAt_X5_distance : GoodIn wsX5_distanceAt (wsV RX5 61 RX5 yX5_distance wsX5_distance) := goodIn_app (goodIn_of _ (by decide +kernel)) ggX5_distanceAt_X5_distance
theorem dX5_distanceAt_0 : decode cX5_distanceAt 0 = .ok (.aload_n 0, 1) := by decide +kernel
theorem dX5_distanceAt_1 : decode cX5_distanceAt 1 = .ok (.aload_n 0, 1) := by decide +kernel
theorem dX5_distanceAt_2 : decode cX5_distanceAt 2 = .ok (.iload_n 1, 1) := by decide +kernel
theorem dX5_distanceAt_3 : decode cX5_distanceAt 3 = .ok (.iload_n 2, 1) := by decide +kernel
theorem dX5_distanceAt_4 : decode cX5_distanceAt 4 = .ok (.invokevirtual 120, 3) := by decide +kernel
theorem dX5_distanceAt_7 : decode cX5_distanceAt 7 = .ok (.ifCond .eq 7, 3) := by decide +kernel
theorem dX5_distanceAt_10 : decode cX5_distanceAt 10 = .ok (.iconst 0, 1) := by decide +kernel
theorem dX5_distanceAt_11 : decode cX5_distanceAt 11 = .ok (.goto 4, 3) := by decide +kernel
theorem dX5_distanceAt_14 : decode cX5_distanceAt 14 = .ok (.iconst 1, 1) := by decide +kernel
theorem dX5_distanceAt_15 : decode cX5_distanceAt 15 = .ok (.invokevirtual 79, 3) := by decide +kernel
theorem dX5_distanceAt_18 : decode cX5_distanceAt 18 = .ok (.ifCond .ne 5, 3) := by decide +kernel
theorem dX5_distanceAt_21 : decode cX5_distanceAt 21 = .ok (.iconst 0, 1) := by decide +kernel
theorem dX5_distanceAt_22 : decode cX5_distanceAt 22 = .ok (.ireturn, 1) := by decide +kernel
theorem dX5_distanceAt_23 : decode cX5_distanceAt 23 = .ok (.aload_n 0, 1) := by decide +kernel
theorem dX5_distanceAt_24 : decode cX5_distanceAt 24 = .ok (.iload_n 1, 1) := by decide +kernel
theorem dX5_distanceAt_25 : decode cX5_distanceAt 25 = .ok (.invokevirtual 117, 3) := by decide +kernel
theorem dX5_distanceAt_28 : decode cX5_distanceAt 28 = .ok (.istore_n 3, 1) := by decide +kernel
theorem dX5_distanceAt_29 : decode cX5_distanceAt 29 = .ok (.aload_n 0, 1) := by decide +kernel
theorem dX5_distanceAt_30 : decode cX5_distanceAt 30 = .ok (.getfield 16, 3) := by decide +kernel
theorem dX5_distanceAt_33 : decode cX5_distanceAt 33 = .ok (.sipush 256, 3) := by decide +kernel
theorem dX5_distanceAt_36 : decode cX5_distanceAt 36 = .ok (.iload_n 3, 1) := by decide +kernel
theorem dX5_distanceAt_37 : decode cX5_distanceAt 37 = .ok (.imul, 1) := by decide +kernel
theorem dX5_distanceAt_38 : decode cX5_distanceAt 38 = .ok (.iload_n 2, 1) := by decide +kernel
theorem dX5_distanceAt_39 : decode cX5_distanceAt 39 = .ok (.iadd, 1) := by decide +kernel
theorem dX5_distanceAt_40 : decode cX5_distanceAt 40 = .ok (.baload, 1) := by decide +kernel
theorem dX5_distanceAt_41 : decode cX5_distanceAt 41 = .ok (.ifCond .eq 12, 3) := by decide +kernel
theorem dX5_distanceAt_44 : decode cX5_distanceAt 44 = .ok (.aload_n 0, 1) := by decide +kernel
theorem dX5_distanceAt_45 : decode cX5_distanceAt 45 = .ok (.iload_n 3, 1) := by decide +kernel
theorem dX5_distanceAt_46 : decode cX5_distanceAt 46 = .ok (.iload_n 2, 1) := by decide +kernel
theorem dX5_distanceAt_47 : decode cX5_distanceAt 47 = .ok (.invokevirtual 61, 3) := by decide +kernel
theorem dX5_distanceAt_50 : decode cX5_distanceAt 50 = .ok (.goto 4, 3) := by decide +kernel
theorem dX5_distanceAt_53 : decode cX5_distanceAt 53 = .ok (.iconst (-1), 1) := by decide +kernel
theorem dX5_distanceAt_54 : decode cX5_distanceAt 54 = .ok (.ireturn, 1) := by decide +kernel
set_option maxRecDepth 20000 in
theorem ggX5_longest_X5_distance : GoodIn wsX5_longest wsX5_distance := goodIn_r _ [9, 10, 2, 11, 12, 13, 8, 14, 15, 16, 17, 18, 19, 20, 21, 22, 23, 24, 25, 26, 27, 28, 29, 30, 31, 32, 33, 34, 35, 36, 37] (by decide +kernel) (by decide +kernel)
set_option maxRecDepth 20000 in
theorem gX5_longest_X5_distance : GoodIn wsX5_longest (wsV RX5 61 RX5 yX5_distance wsX5_distance) := goodIn_app (goodIn_of _ (by decide +kernel)) ggX5_longest_X5_distance
theorem dX5_longest_0 : decode cX5_longest 0 = .ok (.aload_n 0, 1) := by decide +kernel
theorem dX5_longest_1 : decode cX5_longest 1 = .ok (.iconst 0, 1) := by decide +kernel
theorem dX5_longest_2 : decode cX5_longest 2 = .ok (.putfield 49, 3) := by decide +kernel
theorem dX5_longest_5 : decode cX5_longest 5 = .ok (.iconst (-1), 1) := by decide +kernel
theorem dX5_longest_6 : decode cX5_longest 6 = .ok (.istore_n 1, 1) := by decide +kernel
theorem dX5_longest_7 : decode cX5_longest 7 = .ok (.iconst 0, 1) := by decide +kernel
theorem dX5_longest_8 : decode cX5_longest 8 = .ok (.istore_n 2, 1) := by decide +kernel
theorem dX5_longest_9 : decode cX5_longest 9 = .ok (.iload_n 2, 1) := by decide +kernel
theorem dX5_longest_10 : decode cX5_longest 10 = .ok (.aload_n 0, 1) := by decide +kernel
theorem dX5_longest_11 : decode cX5_longest 11 = .ok (.getfield 20, 3) := by decide +kernel
theorem dX5_longest_14 : decode cX5_longest 14 = .ok (.aload_n 0, 1) := by decide +kernel
theorem dX5_longest_15 : decode cX5_longest 15 = .ok (.getfield 64, 3) := by decide +kernel
theorem dX5_longest_18 : decode cX5_longest 18 = .ok (.iaload, 1) := by decide +kernel
theorem dX5_longest_19 : decode cX5_longest 19 = .ok (.if_icmp .ge 54, 3) := by decide +kernel
theorem dX5_longest_22 : decode cX5_longest 22 = .ok (.aload_n 0, 1) := by decide +kernel
theorem dX5_longest_23 : decode cX5_longest 23 = .ok (.getfield 16, 3) := by decide +kernel
theorem dX5_longest_26 : decode cX5_longest 26 = .ok (.sipush 256, 3) := by decide +kernel
theorem dX5_longest_29 : decode cX5_longest 29 = .ok (.aload_n 0, 1) := by decide +kernel
theorem dX5_longest_30 : decode cX5_longest 30 = .ok (.getfield 64, 3) := by decide +kernel
theorem dX5_longest_33 : decode cX5_longest 33 = .ok (.imul, 1) := by decide +kernel
theorem dX5_longest_34 : decode cX5_longest 34 = .ok (.iload_n 2, 1) := by decide +kernel
theorem dX5_longest_35 : decode cX5_longest 35 = .ok (.iadd, 1) := by decide +kernel
theorem dX5_longest_36 : decode cX5_longest 36 = .ok (.baload, 1) := by decide +kernel
theorem dX5_longest_37 : decode cX5_longest 37 = .ok (.ifCond .eq 28, 3) := by decide +kernel
theorem dX5_longest_40 : decode cX5_longest 40 = .ok (.aload_n 0, 1) := by decide +kernel
theorem dX5_longest_41 : decode cX5_longest 41 = .ok (.aload_n 0, 1) := by decide +kernel
theorem dX5_longest_42 : decode cX5_longest 42 = .ok (.getfield 64, 3) := by decide +kernel
theorem dX5_longest_45 : decode cX5_longest 45 = .ok (.iload_n 2, 1) := by decide +kernel
theorem dX5_longest_46 : decode cX5_longest 46 = .ok (.invokevirtual 61, 3) := by decide +kernel
theorem dX5_longest_49 : decode cX5_longest 49 = .ok (.iload_n 1, 1) := by decide +kernel
theorem dX5_longest_50 : decode cX5_longest 50 = .ok (.if_icmp .le 15, 3) := by decide +kernel
theorem dX5_longest_53 : decode cX5_longest 53 = .ok (.aload_n 0, 1) := by decide +kernel
theorem dX5_longest_54 : decode cX5_longest 54 = .ok (.aload_n 0, 1) := by decide +kernel
theorem dX5_longest_55 : decode cX5_longest 55 = .ok (.getfield 64, 3) := by decide +kernel
theorem dX5_longest_58 : decode cX5_longest 58 = .ok (.iload_n 2, 1) := by decide +kernel
theorem dX5_longest_59 : decode cX5_longest 59 = .ok (.invokevirtual 61, 3) := by decide +kernel
theorem dX5_longest_62 : decode cX5_longest 62 = .ok (.goto 4, 3) := by decide +kernel
theorem dX5_longest_65 : decode cX5_longest 65 = .ok (.iload_n 1, 1) := by decide +kernel
theorem dX5_longest_66 : decode cX5_longest 66 = .ok (.istore_n 1, 1) := by decide +kernel
theorem dX5_longest_67 : decode cX5_longest 67 = .ok (.iinc 2 1, 3) := by decide +kernel
theorem dX5_longest_70 : decode cX5_longest 70 = .ok (.goto (-61), 3) := by decide +kernel
theorem dX5_longest_73 : decode cX5_longest 73 = .ok (.iload_n 1, 1) := by decide +kernel
theorem dX5_longest_74 : decode cX5_longest 74 = .ok (.ireturn, 1) := by decide +kernel
set_option maxRecDepth 20000 in
theorem ggX5_total_X5_distance : GoodIn wsX5_total wsX5_distance := goodIn_r _ [9, 10, 2, 11, 12, 13, 8, 14, 15, 16, 17, 18, 19, 20, 21, 22, 23, 24, 25, 26, 27, 28, 29, 30, 31, 32, 33, 34, 35, 36, 37] (by decide +kernel) (by decide +kernel)
set_option maxRecDepth 20000 in
theorem gX5_total_X5_distance : GoodIn wsX5_total (wsV RX5 61 RX5 yX5_distance wsX5_distance) := goodIn_app (goodIn_of _ (by decide +kernel)) ggX5_total_X5_distance
theorem dX5_total_0 : decode cX5_total 0 = .ok (.aload_n 0, 1) := by decide +kernel
theorem dX5_total_1 : decode cX5_total 1 = .ok (.iconst 0, 1) := by decide +kernel
theorem dX5_total_2 : decode cX5_total 2 = .ok (.putfield 49, 3) := by decide +kernel
theorem dX5_total_5 : decode cX5_total 5 = .ok (.iconst 0, 1) := by decide +kernel
theorem dX5_total_6 : decode cX5_total 6 = .ok (.istore_n 1, 1) := by decide +kernel
theorem dX5_total_7 : decode cX5_total 7 = .ok (.iconst 0, 1) := by decide +kernel
theorem dX5_total_8 : decode cX5_total 8 = .ok (.istore_n 2, 1) := by decide +kernel
theorem dX5_total_9 : decode cX5_total 9 = .ok (.iload_n 2, 1) := by decide +kernel
theorem dX5_total_10 : decode cX5_total 10 = .ok (.aload_n 0, 1) := by decide +kernel
theorem dX5_total_11 : decode cX5_total 11 = .ok (.getfield 20, 3) := by decide +kernel
theorem dX5_total_14 : decode cX5_total 14 = .ok (.aload_n 0, 1) := by decide +kernel
theorem dX5_total_15 : decode cX5_total 15 = .ok (.getfield 64, 3) := by decide +kernel
theorem dX5_total_18 : decode cX5_total 18 = .ok (.iaload, 1) := by decide +kernel
theorem dX5_total_19 : decode cX5_total 19 = .ok (.if_icmp .ge 43, 3) := by decide +kernel
theorem dX5_total_22 : decode cX5_total 22 = .ok (.iload_n 1, 1) := by decide +kernel
theorem dX5_total_23 : decode cX5_total 23 = .ok (.aload_n 0, 1) := by decide +kernel
theorem dX5_total_24 : decode cX5_total 24 = .ok (.getfield 16, 3) := by decide +kernel
theorem dX5_total_27 : decode cX5_total 27 = .ok (.sipush 256, 3) := by decide +kernel
theorem dX5_total_30 : decode cX5_total 30 = .ok (.aload_n 0, 1) := by decide +kernel
theorem dX5_total_31 : decode cX5_total 31 = .ok (.getfield 64, 3) := by decide +kernel
theorem dX5_total_34 : decode cX5_total 34 = .ok (.imul, 1) := by decide +kernel
theorem dX5_total_35 : decode cX5_total 35 = .ok (.iload_n 2, 1) := by decide +kernel
theorem dX5_total_36 : decode cX5_total 36 = .ok (.iadd, 1) := by decide +kernel
theorem dX5_total_37 : decode cX5_total 37 = .ok (.baload, 1) := by decide +kernel
theorem dX5_total_38 : decode cX5_total 38 = .ok (.ifCond .eq 15, 3) := by decide +kernel
theorem dX5_total_41 : decode cX5_total 41 = .ok (.aload_n 0, 1) := by decide +kernel
theorem dX5_total_42 : decode cX5_total 42 = .ok (.aload_n 0, 1) := by decide +kernel
theorem dX5_total_43 : decode cX5_total 43 = .ok (.getfield 64, 3) := by decide +kernel
theorem dX5_total_46 : decode cX5_total 46 = .ok (.iload_n 2, 1) := by decide +kernel
theorem dX5_total_47 : decode cX5_total 47 = .ok (.invokevirtual 61, 3) := by decide +kernel
theorem dX5_total_50 : decode cX5_total 50 = .ok (.goto 4, 3) := by decide +kernel
theorem dX5_total_53 : decode cX5_total 53 = .ok (.iconst 0, 1) := by decide +kernel
theorem dX5_total_54 : decode cX5_total 54 = .ok (.iadd, 1) := by decide +kernel
theorem dX5_total_55 : decode cX5_total 55 = .ok (.istore_n 1, 1) := by decide +kernel
theorem dX5_total_56 : decode cX5_total 56 = .ok (.iinc 2 1, 3) := by decide +kernel
theorem dX5_total_59 : decode cX5_total 59 = .ok (.goto (-50), 3) := by decide +kernel
theorem dX5_total_62 : decode cX5_total 62 = .ok (.iload_n 1, 1) := by decide +kernel
theorem dX5_total_63 : decode cX5_total 63 = .ok (.ireturn, 1) := by decide +kernel
set_option maxRecDepth 20000 in
theorem ggX5_looks_X5_hashOf : GoodIn wsX5_looks wsX5_hashOf := goodIn_r _ [7, 8, 9, 19, 20, 21, 22, 23, 24, 25, 26, 27, 28, 29, 30, 31, 32, 33, 34, 35] (by decide +kernel) (by decide +kernel)
set_option maxRecDepth 20000 in
theorem gX5_looks_X5_hashOf : GoodIn wsX5_looks (wsV RX5 53 RX5 yX5_hashOf wsX5_hashOf) := goodIn_app (goodIn_of _ (by decide +kernel)) ggX5_looks_X5_hashOf
set_option maxRecDepth 20000 in
theorem ggX5_looks_X5_home : GoodIn wsX5_looks wsX5_home := goodIn_r _ [13, 1, 3, 4, 5, 6, 7, 8, 9, 19, 20, 21, 22, 23, 24, 25, 26, 27, 28, 29, 30, 31, 32, 33, 34, 35] (by decide +kernel) (by decide +kernel)
set_option maxRecDepth 20000 in
theorem gX5_looks_X5_home : GoodIn wsX5_looks (wsV RX5 57 RX5 yX5_home wsX5_home) := goodIn_app (goodIn_of _ (by decide +kernel)) ggX5_looks_X5_home
set_option maxRecDepth 20000 in
theorem ggX5_looks_X5_controlOf : GoodIn wsX5_looks wsX5_controlOf := goodIn_r _ [17, 18, 2, 3, 4, 5, 6, 7, 8, 9, 19, 20, 21, 22, 23, 24, 25, 26, 27, 28, 29, 30, 31, 32, 33, 34, 35] (by decide +kernel) (by decide +kernel)
set_option maxRecDepth 20000 in
theorem gX5_looks_X5_controlOf : GoodIn wsX5_looks (wsV RX5 124 RX5 yX5_controlOf wsX5_controlOf) := goodIn_app (goodIn_of _ (by decide +kernel)) ggX5_looks_X5_controlOf
theorem dX5_looks_0 : decode cX5_looks 0 = .ok (.aload_n 0, 1) := by decide +kernel
theorem dX5_looks_1 : decode cX5_looks 1 = .ok (.iload_n 2, 1) := by decide +kernel
theorem dX5_looks_2 : decode cX5_looks 2 = .ok (.invokevirtual 53, 3) := by decide +kernel
theorem dX5_looks_5 : decode cX5_looks 5 = .ok (.bipush 25, 2) := by decide +kernel
theorem dX5_looks_7 : decode cX5_looks 7 = .ok (.iushr, 1) := by decide +kernel
theorem dX5_looks_8 : decode cX5_looks 8 = .ok (.istore_n 3, 1) := by decide +kernel
theorem dX5_looks_9 : decode cX5_looks 9 = .ok (.aload_n 0, 1) := by decide +kernel
theorem dX5_looks_10 : decode cX5_looks 10 = .ok (.getfield 20, 3) := by decide +kernel
theorem dX5_looks_13 : decode cX5_looks 13 = .ok (.iload_n 1, 1) := by decide +kernel
theorem dX5_looks_14 : decode cX5_looks 14 = .ok (.iaload, 1) := by decide +kernel
theorem dX5_looks_15 : decode cX5_looks 15 = .ok (.ifCond .ne 7, 3) := by decide +kernel
theorem dX5_looks_18 : decode cX5_looks 18 = .ok (.iconst 0, 1) := by decide +kernel
theorem dX5_looks_19 : decode cX5_looks 19 = .ok (.goto 9, 3) := by decide +kernel
theorem dX5_looks_22 : decode cX5_looks 22 = .ok (.aload_n 0, 1) := by decide +kernel
theorem dX5_looks_23 : decode cX5_looks 23 = .ok (.iload_n 1, 1) := by decide +kernel
theorem dX5_looks_24 : decode cX5_looks 24 = .ok (.iload_n 2, 1) := by decide +kernel
theorem dX5_looks_25 : decode cX5_looks 25 = .ok (.invokevirtual 57, 3) := by decide +kernel
theorem dX5_looks_28 : decode cX5_looks 28 = .ok (.istore 4, 2) := by decide +kernel
theorem dX5_looks_30 : decode cX5_looks 30 = .ok (.iconst 0, 1) := by decide +kernel
theorem dX5_looks_31 : decode cX5_looks 31 = .ok (.istore 5, 2) := by decide +kernel
theorem dX5_looks_33 : decode cX5_looks 33 = .ok (.iconst 0, 1) := by decide +kernel
theorem dX5_looks_34 : decode cX5_looks 34 = .ok (.istore 6, 2) := by decide +kernel
theorem dX5_looks_36 : decode cX5_looks 36 = .ok (.iconst 0, 1) := by decide +kernel
theorem dX5_looks_37 : decode cX5_looks 37 = .ok (.istore 7, 2) := by decide +kernel
theorem dX5_looks_39 : decode cX5_looks 39 = .ok (.iload 7, 2) := by decide +kernel
theorem dX5_looks_41 : decode cX5_looks 41 = .ok (.ifCond .ne 168, 3) := by decide +kernel
theorem dX5_looks_44 : decode cX5_looks 44 = .ok (.bipush 8, 2) := by decide +kernel
theorem dX5_looks_46 : decode cX5_looks 46 = .ok (.iload 5, 2) := by decide +kernel
theorem dX5_looks_48 : decode cX5_looks 48 = .ok (.imul, 1) := by decide +kernel
theorem dX5_looks_49 : decode cX5_looks 49 = .ok (.aload_n 0, 1) := by decide +kernel
theorem dX5_looks_50 : decode cX5_looks 50 = .ok (.getfield 20, 3) := by decide +kernel
theorem dX5_looks_53 : decode cX5_looks 53 = .ok (.iload_n 1, 1) := by decide +kernel
theorem dX5_looks_54 : decode cX5_looks 54 = .ok (.iaload, 1) := by decide +kernel
theorem dX5_looks_55 : decode cX5_looks 55 = .ok (.if_icmp .ge 154, 3) := by decide +kernel
theorem dX5_looks_58 : decode cX5_looks 58 = .ok (.iconst 0, 1) := by decide +kernel
theorem dX5_looks_59 : decode cX5_looks 59 = .ok (.istore 8, 2) := by decide +kernel
theorem dX5_looks_61 : decode cX5_looks 61 = .ok (.iconst 0, 1) := by decide +kernel
theorem dX5_looks_62 : decode cX5_looks 62 = .ok (.istore 9, 2) := by decide +kernel
theorem dX5_looks_64 : decode cX5_looks 64 = .ok (.iconst 0, 1) := by decide +kernel
theorem dX5_looks_65 : decode cX5_looks 65 = .ok (.istore 10, 2) := by decide +kernel
theorem dX5_looks_67 : decode cX5_looks 67 = .ok (.iload 10, 2) := by decide +kernel
theorem dX5_looks_69 : decode cX5_looks 69 = .ok (.bipush 8, 2) := by decide +kernel
theorem dX5_looks_71 : decode cX5_looks 71 = .ok (.if_icmp .ge 115, 3) := by decide +kernel
theorem dX5_looks_74 : decode cX5_looks 74 = .ok (.iload 4, 2) := by decide +kernel
theorem dX5_looks_76 : decode cX5_looks 76 = .ok (.bipush 8, 2) := by decide +kernel
theorem dX5_looks_78 : decode cX5_looks 78 = .ok (.iload 5, 2) := by decide +kernel
theorem dX5_looks_80 : decode cX5_looks 80 = .ok (.imul, 1) := by decide +kernel
theorem dX5_looks_81 : decode cX5_looks 81 = .ok (.iadd, 1) := by decide +kernel
theorem dX5_looks_82 : decode cX5_looks 82 = .ok (.iload 10, 2) := by decide +kernel
theorem dX5_looks_84 : decode cX5_looks 84 = .ok (.iadd, 1) := by decide +kernel
theorem dX5_looks_85 : decode cX5_looks 85 = .ok (.aload_n 0, 1) := by decide +kernel
theorem dX5_looks_86 : decode cX5_looks 86 = .ok (.getfield 20, 3) := by decide +kernel
theorem dX5_looks_89 : decode cX5_looks 89 = .ok (.iload_n 1, 1) := by decide +kernel
theorem dX5_looks_90 : decode cX5_looks 90 = .ok (.iaload, 1) := by decide +kernel
theorem dX5_looks_91 : decode cX5_looks 91 = .ok (.iconst 1, 1) := by decide +kernel
theorem dX5_looks_92 : decode cX5_looks 92 = .ok (.isub, 1) := by decide +kernel
theorem dX5_looks_93 : decode cX5_looks 93 = .ok (.iand, 1) := by decide +kernel
theorem dX5_looks_94 : decode cX5_looks 94 = .ok (.istore 11, 2) := by decide +kernel
theorem dX5_looks_96 : decode cX5_looks 96 = .ok (.aload_n 0, 1) := by decide +kernel
theorem dX5_looks_97 : decode cX5_looks 97 = .ok (.iload_n 1, 1) := by decide +kernel
theorem dX5_looks_98 : decode cX5_looks 98 = .ok (.iload 11, 2) := by decide +kernel
theorem dX5_looks_100 : decode cX5_looks 100 = .ok (.invokevirtual 124, 3) := by decide +kernel
theorem dX5_looks_103 : decode cX5_looks 103 = .ok (.istore 12, 2) := by decide +kernel
theorem dX5_looks_105 : decode cX5_looks 105 = .ok (.iload 9, 2) := by decide +kernel
theorem dX5_looks_107 : decode cX5_looks 107 = .ok (.ifCond .ne 10, 3) := by decide +kernel
theorem dX5_looks_110 : decode cX5_looks 110 = .ok (.iload 12, 2) := by decide +kernel
theorem dX5_looks_112 : decode cX5_looks 112 = .ok (.bipush (-128), 2) := by decide +kernel
theorem dX5_looks_114 : decode cX5_looks 114 = .ok (.if_icmp .ne 7, 3) := by decide +kernel
theorem dX5_looks_117 : decode cX5_looks 117 = .ok (.iconst 1, 1) := by decide +kernel
theorem dX5_looks_118 : decode cX5_looks 118 = .ok (.goto 4, 3) := by decide +kernel
theorem dX5_looks_121 : decode cX5_looks 121 = .ok (.iconst 0, 1) := by decide +kernel
theorem dX5_looks_122 : decode cX5_looks 122 = .ok (.istore 9, 2) := by decide +kernel
theorem dX5_looks_124 : decode cX5_looks 124 = .ok (.iload 6, 2) := by decide +kernel
theorem dX5_looks_126 : decode cX5_looks 126 = .ok (.iload 8, 2) := by decide +kernel
theorem dX5_looks_128 : decode cX5_looks 128 = .ok (.ifCond .ne 13, 3) := by decide +kernel
theorem dX5_looks_131 : decode cX5_looks 131 = .ok (.iload 12, 2) := by decide +kernel
theorem dX5_looks_133 : decode cX5_looks 133 = .ok (.iload_n 3, 1) := by decide +kernel
theorem dX5_looks_134 : decode cX5_looks 134 = .ok (.if_icmp .ne 7, 3) := by decide +kernel
theorem dX5_looks_137 : decode cX5_looks 137 = .ok (.iconst 1, 1) := by decide +kernel
theorem dX5_looks_138 : decode cX5_looks 138 = .ok (.goto 4, 3) := by decide +kernel
theorem dX5_looks_141 : decode cX5_looks 141 = .ok (.iconst 0, 1) := by decide +kernel
theorem dX5_looks_142 : decode cX5_looks 142 = .ok (.iadd, 1) := by decide +kernel
theorem dX5_looks_143 : decode cX5_looks 143 = .ok (.istore 6, 2) := by decide +kernel
theorem dX5_looks_145 : decode cX5_looks 145 = .ok (.iload 8, 2) := by decide +kernel
theorem dX5_looks_147 : decode cX5_looks 147 = .ok (.ifCond .ne 26, 3) := by decide +kernel
theorem dX5_looks_150 : decode cX5_looks 150 = .ok (.iload 12, 2) := by decide +kernel
theorem dX5_looks_152 : decode cX5_looks 152 = .ok (.iload_n 3, 1) := by decide +kernel
theorem dX5_looks_153 : decode cX5_looks 153 = .ok (.if_icmp .ne 24, 3) := by decide +kernel
theorem dX5_looks_156 : decode cX5_looks 156 = .ok (.aload_n 0, 1) := by decide +kernel
theorem dX5_looks_157 : decode cX5_looks 157 = .ok (.getfield 7, 3) := by decide +kernel
theorem dX5_looks_160 : decode cX5_looks 160 = .ok (.sipush 256, 3) := by decide +kernel
theorem dX5_looks_163 : decode cX5_looks 163 = .ok (.iload_n 1, 1) := by decide +kernel
theorem dX5_looks_164 : decode cX5_looks 164 = .ok (.imul, 1) := by decide +kernel
theorem dX5_looks_165 : decode cX5_looks 165 = .ok (.iload 11, 2) := by decide +kernel
theorem dX5_looks_167 : decode cX5_looks 167 = .ok (.iadd, 1) := by decide +kernel
theorem dX5_looks_168 : decode cX5_looks 168 = .ok (.iaload, 1) := by decide +kernel
theorem dX5_looks_169 : decode cX5_looks 169 = .ok (.iload_n 2, 1) := by decide +kernel
theorem dX5_looks_170 : decode cX5_looks 170 = .ok (.if_icmp .ne 7, 3) := by decide +kernel
theorem dX5_looks_173 : decode cX5_looks 173 = .ok (.iconst 1, 1) := by decide +kernel
theorem dX5_looks_174 : decode cX5_looks 174 = .ok (.goto 4, 3) := by decide +kernel
theorem dX5_looks_177 : decode cX5_looks 177 = .ok (.iconst 0, 1) := by decide +kernel
theorem dX5_looks_178 : decode cX5_looks 178 = .ok (.istore 8, 2) := by decide +kernel
theorem dX5_looks_180 : decode cX5_looks 180 = .ok (.iinc 10 1, 3) := by decide +kernel
theorem dX5_looks_183 : decode cX5_looks 183 = .ok (.goto (-116), 3) := by decide +kernel
theorem dX5_looks_186 : decode cX5_looks 186 = .ok (.iinc 5 1, 3) := by decide +kernel
theorem dX5_looks_189 : decode cX5_looks 189 = .ok (.iload 8, 2) := by decide +kernel
theorem dX5_looks_191 : decode cX5_looks 191 = .ok (.ifCond .ne 8, 3) := by decide +kernel
theorem dX5_looks_194 : decode cX5_looks 194 = .ok (.iload 9, 2) := by decide +kernel
theorem dX5_looks_196 : decode cX5_looks 196 = .ok (.ifCond .eq 7, 3) := by decide +kernel
theorem dX5_looks_199 : decode cX5_looks 199 = .ok (.iconst 1, 1) := by decide +kernel
theorem dX5_looks_200 : decode cX5_looks 200 = .ok (.goto 4, 3) := by decide +kernel
theorem dX5_looks_203 : decode cX5_looks 203 = .ok (.iconst 0, 1) := by decide +kernel
theorem dX5_looks_204 : decode cX5_looks 204 = .ok (.istore 7, 2) := by decide +kernel
theorem dX5_looks_206 : decode cX5_looks 206 = .ok (.goto (-167), 3) := by decide +kernel
theorem dX5_looks_209 : decode cX5_looks 209 = .ok (.sipush 1000, 3) := by decide +kernel
theorem dX5_looks_212 : decode cX5_looks 212 = .ok (.iload 5, 2) := by decide +kernel
theorem dX5_looks_214 : decode cX5_looks 214 = .ok (.imul, 1) := by decide +kernel
theorem dX5_looks_215 : decode cX5_looks 215 = .ok (.iload 6, 2) := by decide +kernel
theorem dX5_looks_217 : decode cX5_looks 217 = .ok (.iadd, 1) := by decide +kernel
theorem dX5_looks_218 : decode cX5_looks 218 = .ok (.ireturn, 1) := by decide +kernel
set_option maxRecDepth 20000 in
theorem ggX5_looksBoth_X5_looks : GoodIn wsX5_looksBoth wsX5_looks := goodIn_r _ [6, 7, 8, 9, 10, 11, 5, 12, 13, 14, 15, 16, 17, 18, 19, 20, 21, 22, 23, 28, 29, 30, 31, 32, 33, 34, 35, 36, 37, 38, 39, 40, 41, 42, 43, 44] (by decide +kernel) (by decide +kernel)
set_option maxRecDepth 20000 in
theorem gX5_looksBoth_X5_looks : GoodIn wsX5_looksBoth (wsV RX5 128 RX5 yX5_looks wsX5_looks) := goodIn_app (goodIn_of _ (by decide +kernel)) ggX5_looksBoth_X5_looks
set_option maxRecDepth 20000 in
theorem ggX5_looksBoth_X5_slotOf : GoodIn wsX5_looksBoth wsX5_slotOf := goodIn_r _ [27, 7, 23, 8, 28, 29, 30, 31, 32, 33, 34, 35, 36, 37, 38, 39, 40, 41, 42, 43, 44] (by decide +kernel) (by decide +kernel)
set_option maxRecDepth 20000 in
theorem gX5_looksBoth_X5_slotOf : GoodIn wsX5_looksBoth (wsV RX5 86 RX5 yX5_slotOf wsX5_slotOf) := goodIn_app (goodIn_of _ (by decide +kernel)) ggX5_looksBoth_X5_slotOf
theorem dX5_looksBoth_0 : decode cX5_looksBoth 0 = .ok (.aload_n 0, 1) := by decide +kernel
theorem dX5_looksBoth_1 : decode cX5_looksBoth 1 = .ok (.aload_n 0, 1) := by decide +kernel
theorem dX5_looksBoth_2 : decode cX5_looksBoth 2 = .ok (.getfield 64, 3) := by decide +kernel
theorem dX5_looksBoth_5 : decode cX5_looksBoth 5 = .ok (.iload_n 1, 1) := by decide +kernel
theorem dX5_looksBoth_6 : decode cX5_looksBoth 6 = .ok (.invokevirtual 128, 3) := by decide +kernel
theorem dX5_looksBoth_9 : decode cX5_looksBoth 9 = .ok (.istore_n 2, 1) := by decide +kernel
theorem dX5_looksBoth_10 : decode cX5_looksBoth 10 = .ok (.aload_n 0, 1) := by decide +kernel
theorem dX5_looksBoth_11 : decode cX5_looksBoth 11 = .ok (.aload_n 0, 1) := by decide +kernel
theorem dX5_looksBoth_12 : decode cX5_looksBoth 12 = .ok (.getfield 64, 3) := by decide +kernel
theorem dX5_looksBoth_15 : decode cX5_looksBoth 15 = .ok (.iload_n 1, 1) := by decide +kernel
theorem dX5_looksBoth_16 : decode cX5_looksBoth 16 = .ok (.invokevirtual 86, 3) := by decide +kernel
theorem dX5_looksBoth_19 : decode cX5_looksBoth 19 = .ok (.iconst (-1), 1) := by decide +kernel
theorem dX5_looksBoth_20 : decode cX5_looksBoth 20 = .ok (.if_icmp .ne 19, 3) := by decide +kernel
theorem dX5_looksBoth_23 : decode cX5_looksBoth 23 = .ok (.iload_n 2, 1) := by decide +kernel
theorem dX5_looksBoth_24 : decode cX5_looksBoth 24 = .ok (.aload_n 0, 1) := by decide +kernel
theorem dX5_looksBoth_25 : decode cX5_looksBoth 25 = .ok (.iconst 1, 1) := by decide +kernel
theorem dX5_looksBoth_26 : decode cX5_looksBoth 26 = .ok (.aload_n 0, 1) := by decide +kernel
theorem dX5_looksBoth_27 : decode cX5_looksBoth 27 = .ok (.getfield 64, 3) := by decide +kernel
theorem dX5_looksBoth_30 : decode cX5_looksBoth 30 = .ok (.isub, 1) := by decide +kernel
theorem dX5_looksBoth_31 : decode cX5_looksBoth 31 = .ok (.iload_n 1, 1) := by decide +kernel
theorem dX5_looksBoth_32 : decode cX5_looksBoth 32 = .ok (.invokevirtual 128, 3) := by decide +kernel
theorem dX5_looksBoth_35 : decode cX5_looksBoth 35 = .ok (.iadd, 1) := by decide +kernel
theorem dX5_looksBoth_36 : decode cX5_looksBoth 36 = .ok (.goto 4, 3) := by decide +kernel
theorem dX5_looksBoth_39 : decode cX5_looksBoth 39 = .ok (.iload_n 2, 1) := by decide +kernel
theorem dX5_looksBoth_40 : decode cX5_looksBoth 40 = .ok (.ireturn, 1) := by decide +kernel
set_option maxRecDepth 20000 in
theorem ggX5_groups_X5_looksBoth : GoodIn wsX5_groups wsX5_looksBoth := goodIn_r _ [6, 7, 8, 9, 10, 5, 11, 12, 13, 14, 15, 16, 17, 18, 19, 20, 21, 22, 23, 24, 25, 26, 27, 28, 29, 30, 31, 32, 33, 34, 35, 36, 37, 38, 39, 40, 41, 42, 43, 44, 45, 46, 47, 48, 49] (by decide +kernel) (by decide +kernel)
set_option maxRecDepth 20000 in
theorem gX5_groups_X5_looksBoth : GoodIn wsX5_groups (wsV RX5 131 RX5 yX5_looksBoth wsX5_looksBoth) := goodIn_app (goodIn_of _ (by decide +kernel)) ggX5_groups_X5_looksBoth
theorem dX5_groups_0 : decode cX5_groups 0 = .ok (.aload_n 0, 1) := by decide +kernel
theorem dX5_groups_1 : decode cX5_groups 1 = .ok (.iconst 0, 1) := by decide +kernel
theorem dX5_groups_2 : decode cX5_groups 2 = .ok (.putfield 49, 3) := by decide +kernel
theorem dX5_groups_5 : decode cX5_groups 5 = .ok (.aload_n 0, 1) := by decide +kernel
theorem dX5_groups_6 : decode cX5_groups 6 = .ok (.iload_n 1, 1) := by decide +kernel
theorem dX5_groups_7 : decode cX5_groups 7 = .ok (.invokevirtual 131, 3) := by decide +kernel
theorem dX5_groups_10 : decode cX5_groups 10 = .ok (.sipush 1000, 3) := by decide +kernel
theorem dX5_groups_13 : decode cX5_groups 13 = .ok (.idiv, 1) := by decide +kernel
theorem dX5_groups_14 : decode cX5_groups 14 = .ok (.ireturn, 1) := by decide +kernel
set_option maxRecDepth 20000 in
theorem ggX5_comparisons_X5_looksBoth : GoodIn wsX5_comparisons wsX5_looksBoth := goodIn_r _ [6, 7, 8, 9, 10, 5, 11, 12, 13, 14, 15, 16, 17, 18, 19, 20, 21, 22, 23, 24, 25, 26, 27, 28, 29, 30, 31, 32, 33, 34, 35, 36, 37, 38, 39, 40, 41, 42, 43, 44, 45, 46, 47, 48, 49] (by decide +kernel) (by decide +kernel)
set_option maxRecDepth 20000 in
theorem gX5_comparisons_X5_looksBoth : GoodIn wsX5_comparisons (wsV RX5 131 RX5 yX5_looksBoth wsX5_looksBoth) := goodIn_app (goodIn_of _ (by decide +kernel)) ggX5_comparisons_X5_looksBoth
theorem dX5_comparisons_0 : decode cX5_comparisons 0 = .ok (.aload_n 0, 1) := by decide +kernel
theorem dX5_comparisons_1 : decode cX5_comparisons 1 = .ok (.iconst 0, 1) := by decide +kernel
theorem dX5_comparisons_2 : decode cX5_comparisons 2 = .ok (.putfield 49, 3) := by decide +kernel
theorem dX5_comparisons_5 : decode cX5_comparisons 5 = .ok (.aload_n 0, 1) := by decide +kernel
theorem dX5_comparisons_6 : decode cX5_comparisons 6 = .ok (.iload_n 1, 1) := by decide +kernel
theorem dX5_comparisons_7 : decode cX5_comparisons 7 = .ok (.invokevirtual 131, 3) := by decide +kernel
theorem dX5_comparisons_10 : decode cX5_comparisons 10 = .ok (.sipush 1000, 3) := by decide +kernel
theorem dX5_comparisons_13 : decode cX5_comparisons 13 = .ok (.irem, 1) := by decide +kernel
theorem dX5_comparisons_14 : decode cX5_comparisons 14 = .ok (.ireturn, 1) := by decide +kernel
set_option maxRecDepth 20000 in
theorem ggX5_displaced_X5_slotOf : GoodIn wsX5_displaced wsX5_slotOf := goodIn_r _ [6, 7, 8, 9, 35, 36, 37, 38, 39, 40, 41, 42, 43, 44, 45, 46, 47, 48, 49, 50, 51] (by decide +kernel) (by decide +kernel)
set_option maxRecDepth 20000 in
theorem gX5_displaced_X5_slotOf : GoodIn wsX5_displaced (wsV RX5 86 RX5 yX5_slotOf wsX5_slotOf) := goodIn_app (goodIn_of _ (by decide +kernel)) ggX5_displaced_X5_slotOf
set_option maxRecDepth 20000 in
theorem ggX5_displaced_X5_isFine : GoodIn wsX5_displaced wsX5_isFine := goodIn_r _ [13, 14, 35, 36, 37, 38, 39, 40, 41, 42, 43, 44, 45, 46, 47, 48, 49, 50, 51] (by decide +kernel) (by decide +kernel)
set_option maxRecDepth 20000 in
theorem gX5_displaced_X5_isFine : GoodIn wsX5_displaced (wsV RX5 79 RX5 yX5_isFine wsX5_isFine) := goodIn_app (goodIn_of _ (by decide +kernel)) ggX5_displaced_X5_isFine
set_option maxRecDepth 20000 in
theorem ggX5_displaced_X5_carries : GoodIn wsX5_displaced wsX5_carries := goodIn_r _ [18, 8, 9, 19, 7, 20, 21, 22, 23, 5, 24, 25, 26, 27, 28, 29, 30, 31, 32, 33, 34, 35, 36, 37, 38, 39, 40, 41, 42, 43, 44, 45, 46, 47, 48, 49, 50, 51] (by decide +kernel) (by decide +kernel)
set_option maxRecDepth 20000 in
theorem gX5_displaced_X5_carries : GoodIn wsX5_displaced (wsV RX5 71 RX5 yX5_carries wsX5_carries) := goodIn_app (goodIn_of _ (by decide +kernel)) ggX5_displaced_X5_carries
theorem dX5_displaced_0 : decode cX5_displaced 0 = .ok (.aload_n 0, 1) := by decide +kernel
theorem dX5_displaced_1 : decode cX5_displaced 1 = .ok (.aload_n 0, 1) := by decide +kernel
theorem dX5_displaced_2 : decode cX5_displaced 2 = .ok (.aload_n 0, 1) := by decide +kernel
theorem dX5_displaced_3 : decode cX5_displaced 3 = .ok (.getfield 64, 3) := by decide +kernel
theorem dX5_displaced_6 : decode cX5_displaced 6 = .ok (.iload_n 1, 1) := by decide +kernel
theorem dX5_displaced_7 : decode cX5_displaced 7 = .ok (.invokevirtual 86, 3) := by decide +kernel
theorem dX5_displaced_10 : decode cX5_displaced 10 = .ok (.iconst (-1), 1) := by decide +kernel
theorem dX5_displaced_11 : decode cX5_displaced 11 = .ok (.if_icmp .eq 7, 3) := by decide +kernel
theorem dX5_displaced_14 : decode cX5_displaced 14 = .ok (.iconst 1, 1) := by decide +kernel
theorem dX5_displaced_15 : decode cX5_displaced 15 = .ok (.goto 4, 3) := by decide +kernel
theorem dX5_displaced_18 : decode cX5_displaced 18 = .ok (.iconst 0, 1) := by decide +kernel
theorem dX5_displaced_19 : decode cX5_displaced 19 = .ok (.invokevirtual 79, 3) := by decide +kernel
theorem dX5_displaced_22 : decode cX5_displaced 22 = .ok (.ifCond .eq 17, 3) := by decide +kernel
theorem dX5_displaced_25 : decode cX5_displaced 25 = .ok (.aload_n 0, 1) := by decide +kernel
theorem dX5_displaced_26 : decode cX5_displaced 26 = .ok (.aload_n 0, 1) := by decide +kernel
theorem dX5_displaced_27 : decode cX5_displaced 27 = .ok (.getfield 64, 3) := by decide +kernel
theorem dX5_displaced_30 : decode cX5_displaced 30 = .ok (.iload_n 1, 1) := by decide +kernel
theorem dX5_displaced_31 : decode cX5_displaced 31 = .ok (.iconst 0, 1) := by decide +kernel
theorem dX5_displaced_32 : decode cX5_displaced 32 = .ok (.iconst 1, 1) := by decide +kernel
theorem dX5_displaced_33 : decode cX5_displaced 33 = .ok (.invokevirtual 71, 3) := by decide +kernel
theorem dX5_displaced_36 : decode cX5_displaced 36 = .ok (.goto 4, 3) := by decide +kernel
theorem dX5_displaced_39 : decode cX5_displaced 39 = .ok (.iconst 0, 1) := by decide +kernel
theorem dX5_displaced_40 : decode cX5_displaced 40 = .ok (.ireturn, 1) := by decide +kernel
set_option maxRecDepth 20000 in
theorem ggX5_plain_X5_home : GoodIn wsX5_plain wsX5_home := goodIn_r _ [14, 7, 15, 16, 17, 13, 18, 19, 20, 21, 22, 23, 24, 25, 26, 27, 28, 29, 30, 31, 32, 33, 34, 35, 36, 37] (by decide +kernel) (by decide +kernel)
set_option maxRecDepth 20000 in
theorem gX5_plain_X5_home : GoodIn wsX5_plain (wsV RX5 57 RX5 yX5_home wsX5_home) := goodIn_app (goodIn_of _ (by decide +kernel)) ggX5_plain_X5_home
theorem dX5_plain_0 : decode cX5_plain 0 = .ok (.iconst 0, 1) := by decide +kernel
theorem dX5_plain_1 : decode cX5_plain 1 = .ok (.istore_n 1, 1) := by decide +kernel
theorem dX5_plain_2 : decode cX5_plain 2 = .ok (.iload_n 1, 1) := by decide +kernel
theorem dX5_plain_3 : decode cX5_plain 3 = .ok (.sipush 256, 3) := by decide +kernel
theorem dX5_plain_6 : decode cX5_plain 6 = .ok (.if_icmp .ge 16, 3) := by decide +kernel
theorem dX5_plain_9 : decode cX5_plain 9 = .ok (.aload_n 0, 1) := by decide +kernel
theorem dX5_plain_10 : decode cX5_plain 10 = .ok (.getfield 46, 3) := by decide +kernel
theorem dX5_plain_13 : decode cX5_plain 13 = .ok (.iload_n 1, 1) := by decide +kernel
theorem dX5_plain_14 : decode cX5_plain 14 = .ok (.iconst 0, 1) := by decide +kernel
theorem dX5_plain_15 : decode cX5_plain 15 = .ok (.bastore, 1) := by decide +kernel
theorem dX5_plain_16 : decode cX5_plain 16 = .ok (.iinc 1 1, 3) := by decide +kernel
theorem dX5_plain_19 : decode cX5_plain 19 = .ok (.goto (-17), 3) := by decide +kernel
theorem dX5_plain_22 : decode cX5_plain 22 = .ok (.aload_n 0, 1) := by decide +kernel
theorem dX5_plain_23 : decode cX5_plain 23 = .ok (.iconst (-1), 1) := by decide +kernel
theorem dX5_plain_24 : decode cX5_plain 24 = .ok (.putfield 134, 3) := by decide +kernel
theorem dX5_plain_27 : decode cX5_plain 27 = .ok (.aload_n 0, 1) := by decide +kernel
theorem dX5_plain_28 : decode cX5_plain 28 = .ok (.iconst 0, 1) := by decide +kernel
theorem dX5_plain_29 : decode cX5_plain 29 = .ok (.putfield 137, 3) := by decide +kernel
theorem dX5_plain_32 : decode cX5_plain 32 = .ok (.ldc2_w 140, 3) := by decide +kernel
theorem dX5_plain_35 : decode cX5_plain 35 = .ok (.lstore_n 1, 1) := by decide +kernel
theorem dX5_plain_36 : decode cX5_plain 36 = .ok (.iconst 0, 1) := by decide +kernel
theorem dX5_plain_37 : decode cX5_plain 37 = .ok (.istore_n 3, 1) := by decide +kernel
theorem dX5_plain_38 : decode cX5_plain 38 = .ok (.iload_n 3, 1) := by decide +kernel
theorem dX5_plain_39 : decode cX5_plain 39 = .ok (.aload_n 0, 1) := by decide +kernel
theorem dX5_plain_40 : decode cX5_plain 40 = .ok (.getfield 23, 3) := by decide +kernel
theorem dX5_plain_43 : decode cX5_plain 43 = .ok (.aload_n 0, 1) := by decide +kernel
theorem dX5_plain_44 : decode cX5_plain 44 = .ok (.getfield 64, 3) := by decide +kernel
theorem dX5_plain_47 : decode cX5_plain 47 = .ok (.iaload, 1) := by decide +kernel
theorem dX5_plain_48 : decode cX5_plain 48 = .ok (.if_icmp .ge 202, 3) := by decide +kernel
theorem dX5_plain_51 : decode cX5_plain 51 = .ok (.iconst (-1), 1) := by decide +kernel
theorem dX5_plain_52 : decode cX5_plain 52 = .ok (.istore 4, 2) := by decide +kernel
theorem dX5_plain_54 : decode cX5_plain 54 = .ok (.iconst 0, 1) := by decide +kernel
theorem dX5_plain_55 : decode cX5_plain 55 = .ok (.istore 5, 2) := by decide +kernel
theorem dX5_plain_57 : decode cX5_plain 57 = .ok (.iload 5, 2) := by decide +kernel
theorem dX5_plain_59 : decode cX5_plain 59 = .ok (.aload_n 0, 1) := by decide +kernel
theorem dX5_plain_60 : decode cX5_plain 60 = .ok (.getfield 20, 3) := by decide +kernel
theorem dX5_plain_63 : decode cX5_plain 63 = .ok (.aload_n 0, 1) := by decide +kernel
theorem dX5_plain_64 : decode cX5_plain 64 = .ok (.getfield 64, 3) := by decide +kernel
theorem dX5_plain_67 : decode cX5_plain 67 = .ok (.iaload, 1) := by decide +kernel
theorem dX5_plain_68 : decode cX5_plain 68 = .ok (.if_icmp .ge 72, 3) := by decide +kernel
theorem dX5_plain_71 : decode cX5_plain 71 = .ok (.sipush 256, 3) := by decide +kernel
theorem dX5_plain_74 : decode cX5_plain 74 = .ok (.aload_n 0, 1) := by decide +kernel
theorem dX5_plain_75 : decode cX5_plain 75 = .ok (.getfield 64, 3) := by decide +kernel
theorem dX5_plain_78 : decode cX5_plain 78 = .ok (.imul, 1) := by decide +kernel
theorem dX5_plain_79 : decode cX5_plain 79 = .ok (.iload 5, 2) := by decide +kernel
theorem dX5_plain_81 : decode cX5_plain 81 = .ok (.iadd, 1) := by decide +kernel
theorem dX5_plain_82 : decode cX5_plain 82 = .ok (.istore 6, 2) := by decide +kernel
theorem dX5_plain_84 : decode cX5_plain 84 = .ok (.aload_n 0, 1) := by decide +kernel
theorem dX5_plain_85 : decode cX5_plain 85 = .ok (.getfield 16, 3) := by decide +kernel
theorem dX5_plain_88 : decode cX5_plain 88 = .ok (.iload 6, 2) := by decide +kernel
theorem dX5_plain_90 : decode cX5_plain 90 = .ok (.baload, 1) := by decide +kernel
theorem dX5_plain_91 : decode cX5_plain 91 = .ok (.ifCond .eq 43, 3) := by decide +kernel
theorem dX5_plain_94 : decode cX5_plain 94 = .ok (.aload_n 0, 1) := by decide +kernel
theorem dX5_plain_95 : decode cX5_plain 95 = .ok (.getfield 7, 3) := by decide +kernel
theorem dX5_plain_98 : decode cX5_plain 98 = .ok (.iload 6, 2) := by decide +kernel
theorem dX5_plain_100 : decode cX5_plain 100 = .ok (.iaload, 1) := by decide +kernel
theorem dX5_plain_101 : decode cX5_plain 101 = .ok (.i2l, 1) := by decide +kernel
theorem dX5_plain_102 : decode cX5_plain 102 = .ok (.lload_n 1, 1) := by decide +kernel
theorem dX5_plain_103 : decode cX5_plain 103 = .ok (.lcmp, 1) := by decide +kernel
theorem dX5_plain_104 : decode cX5_plain 104 = .ok (.ifCond .le 30, 3) := by decide +kernel
theorem dX5_plain_107 : decode cX5_plain 107 = .ok (.iload 4, 2) := by decide +kernel
theorem dX5_plain_109 : decode cX5_plain 109 = .ok (.iconst (-1), 1) := by decide +kernel
theorem dX5_plain_110 : decode cX5_plain 110 = .ok (.if_icmp .eq 20, 3) := by decide +kernel
theorem dX5_plain_113 : decode cX5_plain 113 = .ok (.aload_n 0, 1) := by decide +kernel
theorem dX5_plain_114 : decode cX5_plain 114 = .ok (.getfield 7, 3) := by decide +kernel
theorem dX5_plain_117 : decode cX5_plain 117 = .ok (.iload 6, 2) := by decide +kernel
theorem dX5_plain_119 : decode cX5_plain 119 = .ok (.iaload, 1) := by decide +kernel
theorem dX5_plain_120 : decode cX5_plain 120 = .ok (.aload_n 0, 1) := by decide +kernel
theorem dX5_plain_121 : decode cX5_plain 121 = .ok (.getfield 7, 3) := by decide +kernel
theorem dX5_plain_124 : decode cX5_plain 124 = .ok (.iload 4, 2) := by decide +kernel
theorem dX5_plain_126 : decode cX5_plain 126 = .ok (.iaload, 1) := by decide +kernel
theorem dX5_plain_127 : decode cX5_plain 127 = .ok (.if_icmp .ge 7, 3) := by decide +kernel
theorem dX5_plain_130 : decode cX5_plain 130 = .ok (.iload 6, 2) := by decide +kernel
theorem dX5_plain_132 : decode cX5_plain 132 = .ok (.istore 4, 2) := by decide +kernel
theorem dX5_plain_134 : decode cX5_plain 134 = .ok (.iinc 5 1, 3) := by decide +kernel
theorem dX5_plain_137 : decode cX5_plain 137 = .ok (.goto (-80), 3) := by decide +kernel
theorem dX5_plain_140 : decode cX5_plain 140 = .ok (.aload_n 0, 1) := by decide +kernel
theorem dX5_plain_141 : decode cX5_plain 141 = .ok (.getfield 7, 3) := by decide +kernel
theorem dX5_plain_144 : decode cX5_plain 144 = .ok (.iload 4, 2) := by decide +kernel
theorem dX5_plain_146 : decode cX5_plain 146 = .ok (.iaload, 1) := by decide +kernel
theorem dX5_plain_147 : decode cX5_plain 147 = .ok (.i2l, 1) := by decide +kernel
theorem dX5_plain_148 : decode cX5_plain 148 = .ok (.lstore_n 1, 1) := by decide +kernel
theorem dX5_plain_149 : decode cX5_plain 149 = .ok (.aload_n 0, 1) := by decide +kernel
theorem dX5_plain_150 : decode cX5_plain 150 = .ok (.aload_n 0, 1) := by decide +kernel
theorem dX5_plain_151 : decode cX5_plain 151 = .ok (.getfield 64, 3) := by decide +kernel
theorem dX5_plain_154 : decode cX5_plain 154 = .ok (.aload_n 0, 1) := by decide +kernel
theorem dX5_plain_155 : decode cX5_plain 155 = .ok (.getfield 7, 3) := by decide +kernel
theorem dX5_plain_158 : decode cX5_plain 158 = .ok (.iload 4, 2) := by decide +kernel
theorem dX5_plain_160 : decode cX5_plain 160 = .ok (.iaload, 1) := by decide +kernel
theorem dX5_plain_161 : decode cX5_plain 161 = .ok (.invokevirtual 57, 3) := by decide +kernel
theorem dX5_plain_164 : decode cX5_plain 164 = .ok (.istore 5, 2) := by decide +kernel
theorem dX5_plain_166 : decode cX5_plain 166 = .ok (.iconst 0, 1) := by decide +kernel
theorem dX5_plain_167 : decode cX5_plain 167 = .ok (.istore 6, 2) := by decide +kernel
theorem dX5_plain_169 : decode cX5_plain 169 = .ok (.aload_n 0, 1) := by decide +kernel
theorem dX5_plain_170 : decode cX5_plain 170 = .ok (.getfield 46, 3) := by decide +kernel
theorem dX5_plain_173 : decode cX5_plain 173 = .ok (.iload 5, 2) := by decide +kernel
theorem dX5_plain_175 : decode cX5_plain 175 = .ok (.baload, 1) := by decide +kernel
theorem dX5_plain_176 : decode cX5_plain 176 = .ok (.ifCond .eq 27, 3) := by decide +kernel
theorem dX5_plain_179 : decode cX5_plain 179 = .ok (.iload 5, 2) := by decide +kernel
theorem dX5_plain_181 : decode cX5_plain 181 = .ok (.iconst 1, 1) := by decide +kernel
theorem dX5_plain_182 : decode cX5_plain 182 = .ok (.iadd, 1) := by decide +kernel
theorem dX5_plain_183 : decode cX5_plain 183 = .ok (.aload_n 0, 1) := by decide +kernel
theorem dX5_plain_184 : decode cX5_plain 184 = .ok (.getfield 20, 3) := by decide +kernel
theorem dX5_plain_187 : decode cX5_plain 187 = .ok (.aload_n 0, 1) := by decide +kernel
theorem dX5_plain_188 : decode cX5_plain 188 = .ok (.getfield 64, 3) := by decide +kernel
theorem dX5_plain_191 : decode cX5_plain 191 = .ok (.iaload, 1) := by decide +kernel
theorem dX5_plain_192 : decode cX5_plain 192 = .ok (.iconst 1, 1) := by decide +kernel
theorem dX5_plain_193 : decode cX5_plain 193 = .ok (.isub, 1) := by decide +kernel
theorem dX5_plain_194 : decode cX5_plain 194 = .ok (.iand, 1) := by decide +kernel
theorem dX5_plain_195 : decode cX5_plain 195 = .ok (.istore 5, 2) := by decide +kernel
theorem dX5_plain_197 : decode cX5_plain 197 = .ok (.iinc 6 1, 3) := by decide +kernel
theorem dX5_plain_200 : decode cX5_plain 200 = .ok (.goto (-31), 3) := by decide +kernel
theorem dX5_plain_203 : decode cX5_plain 203 = .ok (.aload_n 0, 1) := by decide +kernel
theorem dX5_plain_204 : decode cX5_plain 204 = .ok (.getfield 46, 3) := by decide +kernel
theorem dX5_plain_207 : decode cX5_plain 207 = .ok (.iload 5, 2) := by decide +kernel
theorem dX5_plain_209 : decode cX5_plain 209 = .ok (.iconst 1, 1) := by decide +kernel
theorem dX5_plain_210 : decode cX5_plain 210 = .ok (.bastore, 1) := by decide +kernel
theorem dX5_plain_211 : decode cX5_plain 211 = .ok (.aload_n 0, 1) := by decide +kernel
theorem dX5_plain_212 : decode cX5_plain 212 = .ok (.dup, 1) := by decide +kernel
theorem dX5_plain_213 : decode cX5_plain 213 = .ok (.getfield 137, 3) := by decide +kernel
theorem dX5_plain_216 : decode cX5_plain 216 = .ok (.iload 6, 2) := by decide +kernel
theorem dX5_plain_218 : decode cX5_plain 218 = .ok (.iadd, 1) := by decide +kernel
theorem dX5_plain_219 : decode cX5_plain 219 = .ok (.putfield 137, 3) := by decide +kernel
theorem dX5_plain_222 : decode cX5_plain 222 = .ok (.aload_n 0, 1) := by decide +kernel
theorem dX5_plain_223 : decode cX5_plain 223 = .ok (.iload 6, 2) := by decide +kernel
theorem dX5_plain_225 : decode cX5_plain 225 = .ok (.aload_n 0, 1) := by decide +kernel
theorem dX5_plain_226 : decode cX5_plain 226 = .ok (.getfield 134, 3) := by decide +kernel
theorem dX5_plain_229 : decode cX5_plain 229 = .ok (.if_icmp .le 8, 3) := by decide +kernel
theorem dX5_plain_232 : decode cX5_plain 232 = .ok (.iload 6, 2) := by decide +kernel
theorem dX5_plain_234 : decode cX5_plain 234 = .ok (.goto 7, 3) := by decide +kernel
theorem dX5_plain_237 : decode cX5_plain 237 = .ok (.aload_n 0, 1) := by decide +kernel
theorem dX5_plain_238 : decode cX5_plain 238 = .ok (.getfield 134, 3) := by decide +kernel
theorem dX5_plain_241 : decode cX5_plain 241 = .ok (.putfield 134, 3) := by decide +kernel
theorem dX5_plain_244 : decode cX5_plain 244 = .ok (.iinc 3 1, 3) := by decide +kernel
theorem dX5_plain_247 : decode cX5_plain 247 = .ok (.goto (-209), 3) := by decide +kernel
theorem dX5_plain_250 : decode cX5_plain 250 = .ok (.return_, 1) := by decide +kernel
set_option maxRecDepth 20000 in
theorem ggX5_plainTotal_X5_plain : GoodIn wsX5_plainTotal wsX5_plain := goodIn_r _ [7, 8, 9, 2, 10, 11, 12, 13, 14, 15, 16, 17, 18, 6, 19, 20, 21, 22, 23, 24, 25, 26, 27, 28, 29, 30, 31, 32, 33, 34, 35, 36, 37, 38, 39, 40, 41, 42] (by decide +kernel) (by decide +kernel)
set_option maxRecDepth 20000 in
theorem gX5_plainTotal_X5_plain : GoodIn wsX5_plainTotal (wsV RX5 142 RX5 yX5_plain wsX5_plain) := goodIn_app (goodIn_of _ (by decide +kernel)) ggX5_plainTotal_X5_plain
theorem dX5_plainTotal_0 : decode cX5_plainTotal 0 = .ok (.aload_n 0, 1) := by decide +kernel
theorem dX5_plainTotal_1 : decode cX5_plainTotal 1 = .ok (.iconst 0, 1) := by decide +kernel
theorem dX5_plainTotal_2 : decode cX5_plainTotal 2 = .ok (.putfield 49, 3) := by decide +kernel
theorem dX5_plainTotal_5 : decode cX5_plainTotal 5 = .ok (.aload_n 0, 1) := by decide +kernel
theorem dX5_plainTotal_6 : decode cX5_plainTotal 6 = .ok (.invokevirtual 142, 3) := by decide +kernel
theorem dX5_plainTotal_9 : decode cX5_plainTotal 9 = .ok (.aload_n 0, 1) := by decide +kernel
theorem dX5_plainTotal_10 : decode cX5_plainTotal 10 = .ok (.getfield 137, 3) := by decide +kernel
theorem dX5_plainTotal_13 : decode cX5_plainTotal 13 = .ok (.ireturn, 1) := by decide +kernel
set_option maxRecDepth 20000 in
theorem ggX5_plainLongest_X5_plain : GoodIn wsX5_plainLongest wsX5_plain := goodIn_r _ [7, 8, 2, 9, 10, 11, 12, 13, 14, 15, 16, 17, 18, 6, 19, 20, 21, 22, 23, 24, 25, 26, 27, 28, 29, 30, 31, 32, 33, 34, 35, 36, 37, 38, 39, 40, 41, 42] (by decide +kernel) (by decide +kernel)
set_option maxRecDepth 20000 in
theorem gX5_plainLongest_X5_plain : GoodIn wsX5_plainLongest (wsV RX5 142 RX5 yX5_plain wsX5_plain) := goodIn_app (goodIn_of _ (by decide +kernel)) ggX5_plainLongest_X5_plain
theorem dX5_plainLongest_0 : decode cX5_plainLongest 0 = .ok (.aload_n 0, 1) := by decide +kernel
theorem dX5_plainLongest_1 : decode cX5_plainLongest 1 = .ok (.iconst 0, 1) := by decide +kernel
theorem dX5_plainLongest_2 : decode cX5_plainLongest 2 = .ok (.putfield 49, 3) := by decide +kernel
theorem dX5_plainLongest_5 : decode cX5_plainLongest 5 = .ok (.aload_n 0, 1) := by decide +kernel
theorem dX5_plainLongest_6 : decode cX5_plainLongest 6 = .ok (.invokevirtual 142, 3) := by decide +kernel
theorem dX5_plainLongest_9 : decode cX5_plainLongest 9 = .ok (.aload_n 0, 1) := by decide +kernel
theorem dX5_plainLongest_10 : decode cX5_plainLongest 10 = .ok (.getfield 134, 3) := by decide +kernel
theorem dX5_plainLongest_13 : decode cX5_plainLongest 13 = .ok (.ireturn, 1) := by decide +kernel
theorem dJ6_toUnsignedLong_3e8ac_0 : decode cJ6_toUnsignedLong_3e8ac 0 = .ok (.iload_n 0, 1) := by decide +kernel
theorem dJ6_toUnsignedLong_3e8ac_1 : decode cJ6_toUnsignedLong_3e8ac 1 = .ok (.i2l, 1) := by decide +kernel
theorem dJ6_toUnsignedLong_3e8ac_2 : decode cJ6_toUnsignedLong_3e8ac 2 = .ok (.ldc2_w 262, 3) := by decide +kernel
theorem dJ6_toUnsignedLong_3e8ac_5 : decode cJ6_toUnsignedLong_3e8ac 5 = .ok (.land, 1) := by decide +kernel
theorem dJ6_toUnsignedLong_3e8ac_6 : decode cJ6_toUnsignedLong_3e8ac 6 = .ok (.lreturn, 1) := by decide +kernel
set_option maxRecDepth 20000 in
theorem ggJ6_reverse_0f7a4_J6_reverseBytes_0f7a4 : GoodIn wsJ6_reverse_0f7a4 wsJ6_reverseBytes_0f7a4 := goodIn_r _ [7, 8] (by decide +kernel) (by decide +kernel)
set_option maxRecDepth 20000 in
theorem gJ6_reverse_0f7a4_J6_reverseBytes_0f7a4 : GoodIn wsJ6_reverse_0f7a4 (va_wsS RJ6 268 yJ6_reverseBytes_0f7a4 wsJ6_reverseBytes_0f7a4) := goodIn_app (goodIn_of _ (by decide +kernel)) ggJ6_reverse_0f7a4_J6_reverseBytes_0f7a4
theorem dJ6_reverse_0f7a4_0 : decode cJ6_reverse_0f7a4 0 = .ok (.iload_n 0, 1) := by decide +kernel
theorem dJ6_reverse_0f7a4_1 : decode cJ6_reverse_0f7a4 1 = .ok (.ldc_w 265, 3) := by decide +kernel
theorem dJ6_reverse_0f7a4_4 : decode cJ6_reverse_0f7a4 4 = .ok (.iand, 1) := by decide +kernel
theorem dJ6_reverse_0f7a4_5 : decode cJ6_reverse_0f7a4 5 = .ok (.iconst 1, 1) := by decide +kernel
theorem dJ6_reverse_0f7a4_6 : decode cJ6_reverse_0f7a4 6 = .ok (.ishl, 1) := by decide +kernel
theorem dJ6_reverse_0f7a4_7 : decode cJ6_reverse_0f7a4 7 = .ok (.iload_n 0, 1) := by decide +kernel
theorem dJ6_reverse_0f7a4_8 : decode cJ6_reverse_0f7a4 8 = .ok (.iconst 1, 1) := by decide +kernel
theorem dJ6_reverse_0f7a4_9 : decode cJ6_reverse_0f7a4 9 = .ok (.iushr, 1) := by decide +kernel
theorem dJ6_reverse_0f7a4_10 : decode cJ6_reverse_0f7a4 10 = .ok (.ldc_w 265, 3) := by decide +kernel
theorem dJ6_reverse_0f7a4_13 : decode cJ6_reverse_0f7a4 13 = .ok (.iand, 1) := by decide +kernel
theorem dJ6_reverse_0f7a4_14 : decode cJ6_reverse_0f7a4 14 = .ok (.ior, 1) := by decide +kernel
theorem dJ6_reverse_0f7a4_15 : decode cJ6_reverse_0f7a4 15 = .ok (.istore_n 0, 1) := by decide +kernel
theorem dJ6_reverse_0f7a4_16 : decode cJ6_reverse_0f7a4 16 = .ok (.iload_n 0, 1) := by decide +kernel
theorem dJ6_reverse_0f7a4_17 : decode cJ6_reverse_0f7a4 17 = .ok (.ldc_w 266, 3) := by decide +kernel
theorem dJ6_reverse_0f7a4_20 : decode cJ6_reverse_0f7a4 20 = .ok (.iand, 1) := by decide +kernel
theorem dJ6_reverse_0f7a4_21 : decode cJ6_reverse_0f7a4 21 = .ok (.iconst 2, 1) := by decide +kernel
theorem dJ6_reverse_0f7a4_22 : decode cJ6_reverse_0f7a4 22 = .ok (.ishl, 1) := by decide +kernel
theorem dJ6_reverse_0f7a4_23 : decode cJ6_reverse_0f7a4 23 = .ok (.iload_n 0, 1) := by decide +kernel
theorem dJ6_reverse_0f7a4_24 : decode cJ6_reverse_0f7a4 24 = .ok (.iconst 2, 1) := by decide +kernel
theorem dJ6_reverse_0f7a4_25 : decode cJ6_reverse_0f7a4 25 = .ok (.iushr, 1) := by decide +kernel
theorem dJ6_reverse_0f7a4_26 : decode cJ6_reverse_0f7a4 26 = .ok (.ldc_w 266, 3) := by decide +kernel
theorem dJ6_reverse_0f7a4_29 : decode cJ6_reverse_0f7a4 29 = .ok (.iand, 1) := by decide +kernel
theorem dJ6_reverse_0f7a4_30 : decode cJ6_reverse_0f7a4 30 = .ok (.ior, 1) := by decide +kernel
theorem dJ6_reverse_0f7a4_31 : decode cJ6_reverse_0f7a4 31 = .ok (.istore_n 0, 1) := by decide +kernel
theorem dJ6_reverse_0f7a4_32 : decode cJ6_reverse_0f7a4 32 = .ok (.iload_n 0, 1) := by decide +kernel
theorem dJ6_reverse_0f7a4_33 : decode cJ6_reverse_0f7a4 33 = .ok (.ldc_w 267, 3) := by decide +kernel
theorem dJ6_reverse_0f7a4_36 : decode cJ6_reverse_0f7a4 36 = .ok (.iand, 1) := by decide +kernel
theorem dJ6_reverse_0f7a4_37 : decode cJ6_reverse_0f7a4 37 = .ok (.iconst 4, 1) := by decide +kernel
theorem dJ6_reverse_0f7a4_38 : decode cJ6_reverse_0f7a4 38 = .ok (.ishl, 1) := by decide +kernel
theorem dJ6_reverse_0f7a4_39 : decode cJ6_reverse_0f7a4 39 = .ok (.iload_n 0, 1) := by decide +kernel
theorem dJ6_reverse_0f7a4_40 : decode cJ6_reverse_0f7a4 40 = .ok (.iconst 4, 1) := by decide +kernel
theorem dJ6_reverse_0f7a4_41 : decode cJ6_reverse_0f7a4 41 = .ok (.iushr, 1) := by decide +kernel
theorem dJ6_reverse_0f7a4_42 : decode cJ6_reverse_0f7a4 42 = .ok (.ldc_w 267, 3) := by decide +kernel
theorem dJ6_reverse_0f7a4_45 : decode cJ6_reverse_0f7a4 45 = .ok (.iand, 1) := by decide +kernel
theorem dJ6_reverse_0f7a4_46 : decode cJ6_reverse_0f7a4 46 = .ok (.ior, 1) := by decide +kernel
theorem dJ6_reverse_0f7a4_47 : decode cJ6_reverse_0f7a4 47 = .ok (.istore_n 0, 1) := by decide +kernel
theorem dJ6_reverse_0f7a4_48 : decode cJ6_reverse_0f7a4 48 = .ok (.iload_n 0, 1) := by decide +kernel
theorem dJ6_reverse_0f7a4_49 : decode cJ6_reverse_0f7a4 49 = .ok (.invokestatic 268, 3) := by decide +kernel
theorem dJ6_reverse_0f7a4_52 : decode cJ6_reverse_0f7a4 52 = .ok (.ireturn, 1) := by decide +kernel
theorem dJ6_reverseBytes_0f7a4_0 : decode cJ6_reverseBytes_0f7a4 0 = .ok (.iload_n 0, 1) := by decide +kernel
theorem dJ6_reverseBytes_0f7a4_1 : decode cJ6_reverseBytes_0f7a4 1 = .ok (.bipush 24, 2) := by decide +kernel
theorem dJ6_reverseBytes_0f7a4_3 : decode cJ6_reverseBytes_0f7a4 3 = .ok (.ishl, 1) := by decide +kernel
theorem dJ6_reverseBytes_0f7a4_4 : decode cJ6_reverseBytes_0f7a4 4 = .ok (.iload_n 0, 1) := by decide +kernel
theorem dJ6_reverseBytes_0f7a4_5 : decode cJ6_reverseBytes_0f7a4 5 = .ok (.ldc_w 274, 3) := by decide +kernel
theorem dJ6_reverseBytes_0f7a4_8 : decode cJ6_reverseBytes_0f7a4 8 = .ok (.iand, 1) := by decide +kernel
theorem dJ6_reverseBytes_0f7a4_9 : decode cJ6_reverseBytes_0f7a4 9 = .ok (.bipush 8, 2) := by decide +kernel
theorem dJ6_reverseBytes_0f7a4_11 : decode cJ6_reverseBytes_0f7a4 11 = .ok (.ishl, 1) := by decide +kernel
theorem dJ6_reverseBytes_0f7a4_12 : decode cJ6_reverseBytes_0f7a4 12 = .ok (.ior, 1) := by decide +kernel
theorem dJ6_reverseBytes_0f7a4_13 : decode cJ6_reverseBytes_0f7a4 13 = .ok (.iload_n 0, 1) := by decide +kernel
theorem dJ6_reverseBytes_0f7a4_14 : decode cJ6_reverseBytes_0f7a4 14 = .ok (.bipush 8, 2) := by decide +kernel
theorem dJ6_reverseBytes_0f7a4_16 : decode cJ6_reverseBytes_0f7a4 16 = .ok (.iushr, 1) := by decide +kernel
theorem dJ6_reverseBytes_0f7a4_17 : decode cJ6_reverseBytes_0f7a4 17 = .ok (.ldc_w 274, 3) := by decide +kernel
theorem dJ6_reverseBytes_0f7a4_20 : decode cJ6_reverseBytes_0f7a4 20 = .ok (.iand, 1) := by decide +kernel
theorem dJ6_reverseBytes_0f7a4_21 : decode cJ6_reverseBytes_0f7a4 21 = .ok (.ior, 1) := by decide +kernel
theorem dJ6_reverseBytes_0f7a4_22 : decode cJ6_reverseBytes_0f7a4 22 = .ok (.iload_n 0, 1) := by decide +kernel
theorem dJ6_reverseBytes_0f7a4_23 : decode cJ6_reverseBytes_0f7a4 23 = .ok (.bipush 24, 2) := by decide +kernel
theorem dJ6_reverseBytes_0f7a4_25 : decode cJ6_reverseBytes_0f7a4 25 = .ok (.iushr, 1) := by decide +kernel
theorem dJ6_reverseBytes_0f7a4_26 : decode cJ6_reverseBytes_0f7a4 26 = .ok (.ior, 1) := by decide +kernel
theorem dJ6_reverseBytes_0f7a4_27 : decode cJ6_reverseBytes_0f7a4 27 = .ok (.ireturn, 1) := by decide +kernel
theorem dJ9_max_7cf53_0 : decode cJ9_max_7cf53 0 = .ok (.iload_n 0, 1) := by decide +kernel
theorem dJ9_max_7cf53_1 : decode cJ9_max_7cf53 1 = .ok (.iload_n 1, 1) := by decide +kernel
theorem dJ9_max_7cf53_2 : decode cJ9_max_7cf53 2 = .ok (.if_icmp .lt 7, 3) := by decide +kernel
theorem dJ9_max_7cf53_5 : decode cJ9_max_7cf53 5 = .ok (.iload_n 0, 1) := by decide +kernel
theorem dJ9_max_7cf53_6 : decode cJ9_max_7cf53 6 = .ok (.goto 4, 3) := by decide +kernel
theorem dJ9_max_7cf53_9 : decode cJ9_max_7cf53 9 = .ok (.iload_n 1, 1) := by decide +kernel
theorem dJ9_max_7cf53_10 : decode cJ9_max_7cf53 10 = .ok (.ireturn, 1) := by decide +kernel
theorem dJ9_min_7cf53_0 : decode cJ9_min_7cf53 0 = .ok (.iload_n 0, 1) := by decide +kernel
theorem dJ9_min_7cf53_1 : decode cJ9_min_7cf53 1 = .ok (.iload_n 1, 1) := by decide +kernel
theorem dJ9_min_7cf53_2 : decode cJ9_min_7cf53 2 = .ok (.if_icmp .gt 7, 3) := by decide +kernel
theorem dJ9_min_7cf53_5 : decode cJ9_min_7cf53 5 = .ok (.iload_n 0, 1) := by decide +kernel
theorem dJ9_min_7cf53_6 : decode cJ9_min_7cf53 6 = .ok (.goto 4, 3) := by decide +kernel
theorem dJ9_min_7cf53_9 : decode cJ9_min_7cf53 9 = .ok (.iload_n 1, 1) := by decide +kernel
theorem dJ9_min_7cf53_10 : decode cJ9_min_7cf53 10 = .ok (.ireturn, 1) := by decide +kernel
end
section
set_option maxRecDepth 20000 in
theorem ggL_clear_X4_clear : GoodIn wsL_clear wsX4_clear := goodIn_ca (goodIn_r _ [6, 7, 8, 9, 10, 11, 12, 13, 14, 15, 16, 17, 18, 19, 20, 21, 22, 23, 24, 25, 26, 27, 28, 29, 30, 31, 32, 33, 34, 35, 36, 37, 38, 39, 40, 41, 42, 43, 44, 45, 46, 47, 48, 49] (by decide +kernel) (by decide +kernel)) (goodIn_sub (fun _ h => List.mem_cons_of_mem _ (List.mem_append_right _ h)) (by decide +kernel))
set_option maxRecDepth 20000 in
theorem gL_clear_X4_clear : GoodIn wsL_clear (wsV RL 7 RX4 yX4_clear wsX4_clear) := goodIn_app (goodIn_of _ (by decide +kernel)) ggL_clear_X4_clear
theorem dL_clear_0 : decode cL_clear 0 = .ok (.aload_n 0, 1) := by decide +kernel
theorem dL_clear_1 : decode cL_clear 1 = .ok (.iload_n 1, 1) := by decide +kernel
theorem dL_clear_2 : decode cL_clear 2 = .ok (.invokevirtual 7, 3) := by decide +kernel
theorem dL_clear_5 : decode cL_clear 5 = .ok (.goto 6, 3) := by decide +kernel
theorem dL_clear_8 : decode cL_clear 8 = .ok (.astore_n 2, 1) := by decide +kernel
theorem dL_clear_9 : decode cL_clear 9 = .ok (.iconst 1, 1) := by decide +kernel
theorem dL_clear_10 : decode cL_clear 10 = .ok (.ireturn, 1) := by decide +kernel
theorem dL_clear_11 : decode cL_clear 11 = .ok (.iconst 0, 1) := by decide +kernel
theorem dL_clear_12 : decode cL_clear 12 = .ok (.ireturn, 1) := by decide +kernel
set_option maxRecDepth 20000 in
theorem ggL_put_X4_put : GoodIn wsL_put wsX4_put := goodIn_ca (goodIn_ca (goodIn_r _ [7, 8, 9, 10, 11, 12, 13, 14, 15, 6, 16, 17, 18, 19, 20, 21, 22, 23, 24, 25, 26, 27, 28, 29, 30, 31, 32, 33, 34, 35, 36, 37, 38, 39, 40, 41, 42, 43, 44, 45, 46, 47, 48, 49, 50, 51, 52, 53, 54, 55, 56, 57, 58, 59, 60, 61, 62, 63, 64, 65, 66, 67, 68, 69, 70, 71, 72, 73, 74, 75, 76, 77, 78, 79, 80, 81, 82, 83, 84, 85, 86, 87, 88, 89, 90, 91, 92, 93, 94, 95, 96, 97, 98, 99, 100, 101, 102, 103, 104, 105, 106, 107, 108, 109, 110, 111, 112, 113, 114, 115, 116, 117, 118, 119, 120, 121, 122, 123, 124, 125, 126, 127, 128, 129, 130, 131, 132, 133, 134, 135, 136, 137, 138, 139, 140, 141, 142, 143, 144, 145, 146, 147, 148, 149, 150, 151, 152, 153, 154] (by decide +kernel) (by decide +kernel)) (goodIn_sub (fun _ h => List.mem_cons_of_mem _ (List.mem_append_left _ (List.mem_append_right _ h))) (by decide +kernel))) (goodIn_sub (fun _ h => List.mem_cons_of_mem _ (List.mem_append_right _ h)) (by decide +kernel))
set_option maxRecDepth 20000 in
theorem gL_put_X4_put : GoodIn wsL_put (wsV RL 15 RX4 yX4_put wsX4_put) := goodIn_app (goodIn_of _ (by decide +kernel)) ggL_put_X4_put
theorem dL_put_0 : decode cL_put 0 = .ok (.aload_n 3, 1) := by decide +kernel
theorem dL_put_1 : decode cL_put 1 = .ok (.iconst 0, 1) := by decide +kernel
theorem dL_put_2 : decode cL_put 2 = .ok (.aload_n 0, 1) := by decide +kernel
theorem dL_put_3 : decode cL_put 3 = .ok (.iload_n 1, 1) := by decide +kernel
theorem dL_put_4 : decode cL_put 4 = .ok (.iload_n 2, 1) := by decide +kernel
theorem dL_put_5 : decode cL_put 5 = .ok (.invokevirtual 15, 3) := by decide +kernel
theorem dL_put_8 : decode cL_put 8 = .ok (.i2l, 1) := by decide +kernel
theorem dL_put_9 : decode cL_put 9 = .ok (.lastore, 1) := by decide +kernel
theorem dL_put_10 : decode cL_put 10 = .ok (.goto 11, 3) := by decide +kernel
theorem dL_put_13 : decode cL_put 13 = .ok (.astore 4, 2) := by decide +kernel
theorem dL_put_15 : decode cL_put 15 = .ok (.iconst 1, 1) := by decide +kernel
theorem dL_put_16 : decode cL_put 16 = .ok (.ireturn, 1) := by decide +kernel
theorem dL_put_17 : decode cL_put 17 = .ok (.astore 4, 2) := by decide +kernel
theorem dL_put_19 : decode cL_put 19 = .ok (.iconst 2, 1) := by decide +kernel
theorem dL_put_20 : decode cL_put 20 = .ok (.ireturn, 1) := by decide +kernel
theorem dL_put_21 : decode cL_put 21 = .ok (.iconst 0, 1) := by decide +kernel
theorem dL_put_22 : decode cL_put 22 = .ok (.ireturn, 1) := by decide +kernel
set_option maxRecDepth 20000 in
theorem ggL_openSweep_X4_openSweep : GoodIn wsL_openSweep wsX4_openSweep := goodIn_ca (goodIn_r _ [6, 7, 8, 9, 10, 11, 12, 13, 14, 15, 16, 17, 18, 19, 20, 21, 22, 23, 24, 25, 26, 27, 28, 29, 30, 31] (by decide +kernel) (by decide +kernel)) (goodIn_sub (fun _ h => List.mem_cons_of_mem _ (List.mem_append_right _ h)) (by decide +kernel))
set_option maxRecDepth 20000 in
theorem gL_openSweep_X4_openSweep : GoodIn wsL_openSweep (wsV RL 21 RX4 yX4_openSweep wsX4_openSweep) := goodIn_app (goodIn_of _ (by decide +kernel)) ggL_openSweep_X4_openSweep
theorem dL_openSweep_0 : decode cL_openSweep 0 = .ok (.aload_n 1, 1) := by decide +kernel
theorem dL_openSweep_1 : decode cL_openSweep 1 = .ok (.iconst 0, 1) := by decide +kernel
theorem dL_openSweep_2 : decode cL_openSweep 2 = .ok (.aload_n 0, 1) := by decide +kernel
theorem dL_openSweep_3 : decode cL_openSweep 3 = .ok (.invokevirtual 21, 3) := by decide +kernel
theorem dL_openSweep_6 : decode cL_openSweep 6 = .ok (.i2l, 1) := by decide +kernel
theorem dL_openSweep_7 : decode cL_openSweep 7 = .ok (.lastore, 1) := by decide +kernel
theorem dL_openSweep_8 : decode cL_openSweep 8 = .ok (.goto 6, 3) := by decide +kernel
theorem dL_openSweep_11 : decode cL_openSweep 11 = .ok (.astore_n 2, 1) := by decide +kernel
theorem dL_openSweep_12 : decode cL_openSweep 12 = .ok (.iconst 1, 1) := by decide +kernel
theorem dL_openSweep_13 : decode cL_openSweep 13 = .ok (.ireturn, 1) := by decide +kernel
theorem dL_openSweep_14 : decode cL_openSweep 14 = .ok (.iconst 0, 1) := by decide +kernel
theorem dL_openSweep_15 : decode cL_openSweep 15 = .ok (.ireturn, 1) := by decide +kernel
set_option maxRecDepth 20000 in
theorem ggL_hasNext_X4_hasNext : GoodIn wsL_hasNext wsX4_hasNext := goodIn_ca (goodIn_r _ [6, 7, 8, 9, 10, 5, 11, 12, 13, 14, 15, 16, 17, 18, 19, 20, 21, 22, 23, 24, 25, 26, 27, 28, 29, 30, 31, 32, 33, 34, 35, 36, 37, 38, 39, 40, 41, 42, 43, 44, 45, 46, 47, 48, 49, 50, 51, 52, 53, 54, 55, 56, 57, 58, 59, 60, 61, 62, 63, 64, 65, 66, 67, 68, 69, 70, 71, 72, 73, 74, 75, 76, 77, 78, 79, 80, 81, 82, 83, 84, 85, 86] (by decide +kernel) (by decide +kernel)) (goodIn_sub (fun _ h => List.mem_cons_of_mem _ (List.mem_append_right _ h)) (by decide +kernel))
set_option maxRecDepth 20000 in
theorem gL_hasNext_X4_hasNext : GoodIn wsL_hasNext (wsV RL 25 RX4 yX4_hasNext wsX4_hasNext) := goodIn_app (goodIn_of _ (by decide +kernel)) ggL_hasNext_X4_hasNext
theorem dL_hasNext_0 : decode cL_hasNext 0 = .ok (.aload_n 2, 1) := by decide +kernel
theorem dL_hasNext_1 : decode cL_hasNext 1 = .ok (.iconst 0, 1) := by decide +kernel
theorem dL_hasNext_2 : decode cL_hasNext 2 = .ok (.aload_n 0, 1) := by decide +kernel
theorem dL_hasNext_3 : decode cL_hasNext 3 = .ok (.iload_n 1, 1) := by decide +kernel
theorem dL_hasNext_4 : decode cL_hasNext 4 = .ok (.invokevirtual 25, 3) := by decide +kernel
theorem dL_hasNext_7 : decode cL_hasNext 7 = .ok (.ifCond .eq 7, 3) := by decide +kernel
theorem dL_hasNext_10 : decode cL_hasNext 10 = .ok (.lconst 1, 1) := by decide +kernel
theorem dL_hasNext_11 : decode cL_hasNext 11 = .ok (.goto 4, 3) := by decide +kernel
theorem dL_hasNext_14 : decode cL_hasNext 14 = .ok (.lconst 0, 1) := by decide +kernel
theorem dL_hasNext_15 : decode cL_hasNext 15 = .ok (.lastore, 1) := by decide +kernel
theorem dL_hasNext_16 : decode cL_hasNext 16 = .ok (.goto 6, 3) := by decide +kernel
theorem dL_hasNext_19 : decode cL_hasNext 19 = .ok (.astore_n 3, 1) := by decide +kernel
theorem dL_hasNext_20 : decode cL_hasNext 20 = .ok (.iconst 1, 1) := by decide +kernel
theorem dL_hasNext_21 : decode cL_hasNext 21 = .ok (.ireturn, 1) := by decide +kernel
theorem dL_hasNext_22 : decode cL_hasNext 22 = .ok (.iconst 0, 1) := by decide +kernel
theorem dL_hasNext_23 : decode cL_hasNext 23 = .ok (.ireturn, 1) := by decide +kernel
set_option maxRecDepth 20000 in
theorem ggL_next_X4_next : GoodIn wsL_next wsX4_next := goodIn_ca (goodIn_ca (goodIn_r _ [7, 8, 9, 10, 11, 12, 13, 6, 14, 15, 16, 17, 18, 19, 20, 21, 22, 23, 24, 25, 26, 27, 28, 29, 30, 31, 32, 33, 34, 35, 36, 37, 38, 39, 40, 41, 42, 43, 44, 45, 46, 47, 48, 49, 50, 51, 52, 53, 54, 55, 56, 57, 58, 59, 60, 61, 62, 63, 64, 65, 66, 67, 68, 69, 70, 71, 72, 73, 74, 75, 76, 77, 78, 79, 80, 81, 82, 83, 84, 85, 86, 87, 88, 89, 90, 91, 92, 93, 94, 95, 96, 97, 98, 99, 100, 101, 102, 103, 104] (by decide +kernel) (by decide +kernel)) (goodIn_sub (fun _ h => List.mem_cons_of_mem _ (List.mem_append_left _ (List.mem_append_right _ h))) (by decide +kernel))) (goodIn_sub (fun _ h => List.mem_cons_of_mem _ (List.mem_append_right _ h)) (by decide +kernel))
set_option maxRecDepth 20000 in
theorem gL_next_X4_next : GoodIn wsL_next (wsV RL 31 RX4 yX4_next wsX4_next) := goodIn_app (goodIn_of _ (by decide +kernel)) ggL_next_X4_next
theorem dL_next_0 : decode cL_next 0 = .ok (.aload_n 2, 1) := by decide +kernel
theorem dL_next_1 : decode cL_next 1 = .ok (.iconst 0, 1) := by decide +kernel
theorem dL_next_2 : decode cL_next 2 = .ok (.aload_n 0, 1) := by decide +kernel
theorem dL_next_3 : decode cL_next 3 = .ok (.iload_n 1, 1) := by decide +kernel
theorem dL_next_4 : decode cL_next 4 = .ok (.invokevirtual 31, 3) := by decide +kernel
theorem dL_next_7 : decode cL_next 7 = .ok (.i2l, 1) := by decide +kernel
theorem dL_next_8 : decode cL_next 8 = .ok (.lastore, 1) := by decide +kernel
theorem dL_next_9 : decode cL_next 9 = .ok (.goto 9, 3) := by decide +kernel
theorem dL_next_12 : decode cL_next 12 = .ok (.astore_n 3, 1) := by decide +kernel
theorem dL_next_13 : decode cL_next 13 = .ok (.iconst 1, 1) := by decide +kernel
theorem dL_next_14 : decode cL_next 14 = .ok (.ireturn, 1) := by decide +kernel
theorem dL_next_15 : decode cL_next 15 = .ok (.astore_n 3, 1) := by decide +kernel
theorem dL_next_16 : decode cL_next 16 = .ok (.iconst 2, 1) := by decide +kernel
theorem dL_next_17 : decode cL_next 17 = .ok (.ireturn, 1) := by decide +kernel
theorem dL_next_18 : decode cL_next 18 = .ok (.iconst 0, 1) := by decide +kernel
theorem dL_next_19 : decode cL_next 19 = .ok (.ireturn, 1) := by decide +kernel
set_option maxRecDepth 20000 in
theorem ggL_removeMet_X4_removeMet : GoodIn wsL_removeMet wsX4_removeMet := goodIn_ca (goodIn_ca (goodIn_r _ [7, 8, 9, 10, 11, 12, 13, 6, 14, 15, 16, 17, 18, 19, 20, 21, 22, 23, 24, 25, 26, 27, 28, 29, 30, 31, 32, 33, 34, 35, 36, 37, 38, 39, 40, 41, 42, 43, 44, 45, 46, 47, 48, 49, 50, 51, 52, 53, 54, 55, 56, 57, 58, 59, 60, 61, 62, 63, 64, 65, 66, 67, 68, 69, 70, 71, 72, 73, 74, 75, 76, 77, 78, 79, 80, 81, 82, 83, 84, 85, 86, 87, 88, 89, 90, 91, 92, 93, 94, 95, 96, 97, 98, 99, 100, 101, 102, 103, 104, 105, 106, 107, 108, 109, 110, 111, 112, 113, 114, 115, 116, 117, 118, 119, 120, 121, 122, 123, 124, 125, 126, 127, 128, 129, 130, 131, 132, 133, 134, 135, 136, 137, 138, 139, 140, 141, 142, 143, 144, 145, 146, 147] (by decide +kernel) (by decide +kernel)) (goodIn_sub (fun _ h => List.mem_cons_of_mem _ (List.mem_append_left _ (List.mem_append_right _ h))) (by decide +kernel))) (goodIn_sub (fun _ h => List.mem_cons_of_mem _ (List.mem_append_right _ h)) (by decide +kernel))
set_option maxRecDepth 20000 in
theorem gL_removeMet_X4_removeMet : GoodIn wsL_removeMet (wsV RL 35 RX4 yX4_removeMet wsX4_removeMet) := goodIn_app (goodIn_of _ (by decide +kernel)) ggL_removeMet_X4_removeMet
theorem dL_removeMet_0 : decode cL_removeMet 0 = .ok (.aload_n 2, 1) := by decide +kernel
theorem dL_removeMet_1 : decode cL_removeMet 1 = .ok (.iconst 0, 1) := by decide +kernel
theorem dL_removeMet_2 : decode cL_removeMet 2 = .ok (.aload_n 0, 1) := by decide +kernel
theorem dL_removeMet_3 : decode cL_removeMet 3 = .ok (.iload_n 1, 1) := by decide +kernel
theorem dL_removeMet_4 : decode cL_removeMet 4 = .ok (.invokevirtual 35, 3) := by decide +kernel
theorem dL_removeMet_7 : decode cL_removeMet 7 = .ok (.i2l, 1) := by decide +kernel
theorem dL_removeMet_8 : decode cL_removeMet 8 = .ok (.lastore, 1) := by decide +kernel
theorem dL_removeMet_9 : decode cL_removeMet 9 = .ok (.goto 9, 3) := by decide +kernel
theorem dL_removeMet_12 : decode cL_removeMet 12 = .ok (.astore_n 3, 1) := by decide +kernel
theorem dL_removeMet_13 : decode cL_removeMet 13 = .ok (.iconst 1, 1) := by decide +kernel
theorem dL_removeMet_14 : decode cL_removeMet 14 = .ok (.ireturn, 1) := by decide +kernel
theorem dL_removeMet_15 : decode cL_removeMet 15 = .ok (.astore_n 3, 1) := by decide +kernel
theorem dL_removeMet_16 : decode cL_removeMet 16 = .ok (.iconst 2, 1) := by decide +kernel
theorem dL_removeMet_17 : decode cL_removeMet 17 = .ok (.ireturn, 1) := by decide +kernel
theorem dL_removeMet_18 : decode cL_removeMet 18 = .ok (.iconst 0, 1) := by decide +kernel
theorem dL_removeMet_19 : decode cL_removeMet 19 = .ok (.ireturn, 1) := by decide +kernel
set_option maxRecDepth 20000 in
theorem ggL_closeSweep_X4_closeSweep : GoodIn wsL_closeSweep wsX4_closeSweep := goodIn_ca (goodIn_r _ [6, 7, 8, 9, 5, 10, 11, 12, 13, 14, 15, 16, 17, 18, 19, 20, 21, 22, 23, 24, 25, 26, 27, 28, 29, 30, 31] (by decide +kernel) (by decide +kernel)) (goodIn_sub (fun _ h => List.mem_cons_of_mem _ (List.mem_append_right _ h)) (by decide +kernel))
set_option maxRecDepth 20000 in
theorem gL_closeSweep_X4_closeSweep : GoodIn wsL_closeSweep (wsV RL 38 RX4 yX4_closeSweep wsX4_closeSweep) := goodIn_app (goodIn_of _ (by decide +kernel)) ggL_closeSweep_X4_closeSweep
theorem dL_closeSweep_0 : decode cL_closeSweep 0 = .ok (.aload_n 2, 1) := by decide +kernel
theorem dL_closeSweep_1 : decode cL_closeSweep 1 = .ok (.iconst 0, 1) := by decide +kernel
theorem dL_closeSweep_2 : decode cL_closeSweep 2 = .ok (.aload_n 0, 1) := by decide +kernel
theorem dL_closeSweep_3 : decode cL_closeSweep 3 = .ok (.iload_n 1, 1) := by decide +kernel
theorem dL_closeSweep_4 : decode cL_closeSweep 4 = .ok (.invokevirtual 38, 3) := by decide +kernel
theorem dL_closeSweep_7 : decode cL_closeSweep 7 = .ok (.i2l, 1) := by decide +kernel
theorem dL_closeSweep_8 : decode cL_closeSweep 8 = .ok (.lastore, 1) := by decide +kernel
theorem dL_closeSweep_9 : decode cL_closeSweep 9 = .ok (.goto 6, 3) := by decide +kernel
theorem dL_closeSweep_12 : decode cL_closeSweep 12 = .ok (.astore_n 3, 1) := by decide +kernel
theorem dL_closeSweep_13 : decode cL_closeSweep 13 = .ok (.iconst 1, 1) := by decide +kernel
theorem dL_closeSweep_14 : decode cL_closeSweep 14 = .ok (.ireturn, 1) := by decide +kernel
theorem dL_closeSweep_15 : decode cL_closeSweep 15 = .ok (.iconst 0, 1) := by decide +kernel
theorem dL_closeSweep_16 : decode cL_closeSweep 16 = .ok (.ireturn, 1) := by decide +kernel
set_option maxRecDepth 20000 in
theorem ggL_slots_X4_slots : GoodIn wsL_slots wsX4_slots := goodIn_ca (goodIn_r _ [6, 7, 8, 9, 5, 10, 11, 12, 13, 14, 15, 16, 17, 18, 19, 20, 21, 22, 23, 24, 25, 26, 27] (by decide +kernel) (by decide +kernel)) (goodIn_sub (fun _ h => List.mem_cons_of_mem _ (List.mem_append_right _ h)) (by decide +kernel))
set_option maxRecDepth 20000 in
theorem gL_slots_X4_slots : GoodIn wsL_slots (wsV RL 41 RX4 yX4_slots wsX4_slots) := goodIn_app (goodIn_of _ (by decide +kernel)) ggL_slots_X4_slots
theorem dL_slots_0 : decode cL_slots 0 = .ok (.aload_n 2, 1) := by decide +kernel
theorem dL_slots_1 : decode cL_slots 1 = .ok (.iconst 0, 1) := by decide +kernel
theorem dL_slots_2 : decode cL_slots 2 = .ok (.aload_n 0, 1) := by decide +kernel
theorem dL_slots_3 : decode cL_slots 3 = .ok (.iload_n 1, 1) := by decide +kernel
theorem dL_slots_4 : decode cL_slots 4 = .ok (.invokevirtual 41, 3) := by decide +kernel
theorem dL_slots_7 : decode cL_slots 7 = .ok (.i2l, 1) := by decide +kernel
theorem dL_slots_8 : decode cL_slots 8 = .ok (.lastore, 1) := by decide +kernel
theorem dL_slots_9 : decode cL_slots 9 = .ok (.goto 6, 3) := by decide +kernel
theorem dL_slots_12 : decode cL_slots 12 = .ok (.astore_n 3, 1) := by decide +kernel
theorem dL_slots_13 : decode cL_slots 13 = .ok (.iconst 1, 1) := by decide +kernel
theorem dL_slots_14 : decode cL_slots 14 = .ok (.ireturn, 1) := by decide +kernel
theorem dL_slots_15 : decode cL_slots 15 = .ok (.iconst 0, 1) := by decide +kernel
theorem dL_slots_16 : decode cL_slots 16 = .ok (.ireturn, 1) := by decide +kernel
set_option maxRecDepth 20000 in
theorem ggL_keysIn_X4_keysIn : GoodIn wsL_keysIn wsX4_keysIn := goodIn_ca (goodIn_r _ [6, 7, 8, 9, 5, 10, 11, 12, 13, 14, 15, 16, 17, 18, 19, 20, 21, 22, 23, 24, 25, 26, 27] (by decide +kernel) (by decide +kernel)) (goodIn_sub (fun _ h => List.mem_cons_of_mem _ (List.mem_append_right _ h)) (by decide +kernel))
set_option maxRecDepth 20000 in
theorem gL_keysIn_X4_keysIn : GoodIn wsL_keysIn (wsV RL 44 RX4 yX4_keysIn wsX4_keysIn) := goodIn_app (goodIn_of _ (by decide +kernel)) ggL_keysIn_X4_keysIn
theorem dL_keysIn_0 : decode cL_keysIn 0 = .ok (.aload_n 2, 1) := by decide +kernel
theorem dL_keysIn_1 : decode cL_keysIn 1 = .ok (.iconst 0, 1) := by decide +kernel
theorem dL_keysIn_2 : decode cL_keysIn 2 = .ok (.aload_n 0, 1) := by decide +kernel
theorem dL_keysIn_3 : decode cL_keysIn 3 = .ok (.iload_n 1, 1) := by decide +kernel
theorem dL_keysIn_4 : decode cL_keysIn 4 = .ok (.invokevirtual 44, 3) := by decide +kernel
theorem dL_keysIn_7 : decode cL_keysIn 7 = .ok (.i2l, 1) := by decide +kernel
theorem dL_keysIn_8 : decode cL_keysIn 8 = .ok (.lastore, 1) := by decide +kernel
theorem dL_keysIn_9 : decode cL_keysIn 9 = .ok (.goto 6, 3) := by decide +kernel
theorem dL_keysIn_12 : decode cL_keysIn 12 = .ok (.astore_n 3, 1) := by decide +kernel
theorem dL_keysIn_13 : decode cL_keysIn 13 = .ok (.iconst 1, 1) := by decide +kernel
theorem dL_keysIn_14 : decode cL_keysIn 14 = .ok (.ireturn, 1) := by decide +kernel
theorem dL_keysIn_15 : decode cL_keysIn 15 = .ok (.iconst 0, 1) := by decide +kernel
theorem dL_keysIn_16 : decode cL_keysIn 16 = .ok (.ireturn, 1) := by decide +kernel
set_option maxRecDepth 20000 in
theorem ggL_control_X4_control : GoodIn wsL_control wsX4_control := goodIn_ca (goodIn_r _ [6, 7, 8, 9, 5, 10, 11, 12, 13, 14, 15, 16, 17, 18, 19, 20, 21, 22, 23, 24, 25, 26, 27, 28, 29, 30, 31, 32, 33, 34, 35, 36, 37] (by decide +kernel) (by decide +kernel)) (goodIn_sub (fun _ h => List.mem_cons_of_mem _ (List.mem_append_right _ h)) (by decide +kernel))
set_option maxRecDepth 20000 in
theorem gL_control_X4_control : GoodIn wsL_control (wsV RL 47 RX4 yX4_control wsX4_control) := goodIn_app (goodIn_of _ (by decide +kernel)) ggL_control_X4_control
theorem dL_control_0 : decode cL_control 0 = .ok (.aload_n 3, 1) := by decide +kernel
theorem dL_control_1 : decode cL_control 1 = .ok (.iconst 0, 1) := by decide +kernel
theorem dL_control_2 : decode cL_control 2 = .ok (.aload_n 0, 1) := by decide +kernel
theorem dL_control_3 : decode cL_control 3 = .ok (.iload_n 1, 1) := by decide +kernel
theorem dL_control_4 : decode cL_control 4 = .ok (.iload_n 2, 1) := by decide +kernel
theorem dL_control_5 : decode cL_control 5 = .ok (.invokevirtual 47, 3) := by decide +kernel
theorem dL_control_8 : decode cL_control 8 = .ok (.i2l, 1) := by decide +kernel
theorem dL_control_9 : decode cL_control 9 = .ok (.lastore, 1) := by decide +kernel
theorem dL_control_10 : decode cL_control 10 = .ok (.goto 7, 3) := by decide +kernel
theorem dL_control_13 : decode cL_control 13 = .ok (.astore 4, 2) := by decide +kernel
theorem dL_control_15 : decode cL_control 15 = .ok (.iconst 1, 1) := by decide +kernel
theorem dL_control_16 : decode cL_control 16 = .ok (.ireturn, 1) := by decide +kernel
theorem dL_control_17 : decode cL_control 17 = .ok (.iconst 0, 1) := by decide +kernel
theorem dL_control_18 : decode cL_control 18 = .ok (.ireturn, 1) := by decide +kernel
set_option maxRecDepth 20000 in
theorem ggL_keyAt_X4_keyAt : GoodIn wsL_keyAt wsX4_keyAt := goodIn_ca (goodIn_ca (goodIn_r _ [7, 8, 9, 10, 11, 12, 6, 13, 14, 15, 16, 17, 18, 19, 20, 21, 22, 23, 24, 25, 26, 27, 28, 29, 30, 31, 32, 33, 34, 35, 36, 37, 38, 39, 40, 41, 42, 43, 44, 45] (by decide +kernel) (by decide +kernel)) (goodIn_sub (fun _ h => List.mem_cons_of_mem _ (List.mem_append_left _ (List.mem_append_right _ h))) (by decide +kernel))) (goodIn_sub (fun _ h => List.mem_cons_of_mem _ (List.mem_append_right _ h)) (by decide +kernel))
set_option maxRecDepth 20000 in
theorem gL_keyAt_X4_keyAt : GoodIn wsL_keyAt (wsV RL 51 RX4 yX4_keyAt wsX4_keyAt) := goodIn_app (goodIn_of _ (by decide +kernel)) ggL_keyAt_X4_keyAt
theorem dL_keyAt_0 : decode cL_keyAt 0 = .ok (.aload_n 3, 1) := by decide +kernel
theorem dL_keyAt_1 : decode cL_keyAt 1 = .ok (.iconst 0, 1) := by decide +kernel
theorem dL_keyAt_2 : decode cL_keyAt 2 = .ok (.aload_n 0, 1) := by decide +kernel
theorem dL_keyAt_3 : decode cL_keyAt 3 = .ok (.iload_n 1, 1) := by decide +kernel
theorem dL_keyAt_4 : decode cL_keyAt 4 = .ok (.iload_n 2, 1) := by decide +kernel
theorem dL_keyAt_5 : decode cL_keyAt 5 = .ok (.invokevirtual 51, 3) := by decide +kernel
theorem dL_keyAt_8 : decode cL_keyAt 8 = .ok (.i2l, 1) := by decide +kernel
theorem dL_keyAt_9 : decode cL_keyAt 9 = .ok (.lastore, 1) := by decide +kernel
theorem dL_keyAt_10 : decode cL_keyAt 10 = .ok (.goto 11, 3) := by decide +kernel
theorem dL_keyAt_13 : decode cL_keyAt 13 = .ok (.astore 4, 2) := by decide +kernel
theorem dL_keyAt_15 : decode cL_keyAt 15 = .ok (.iconst 1, 1) := by decide +kernel
theorem dL_keyAt_16 : decode cL_keyAt 16 = .ok (.ireturn, 1) := by decide +kernel
theorem dL_keyAt_17 : decode cL_keyAt 17 = .ok (.astore 4, 2) := by decide +kernel
theorem dL_keyAt_19 : decode cL_keyAt 19 = .ok (.iconst 2, 1) := by decide +kernel
theorem dL_keyAt_20 : decode cL_keyAt 20 = .ok (.ireturn, 1) := by decide +kernel
theorem dL_keyAt_21 : decode cL_keyAt 21 = .ok (.iconst 0, 1) := by decide +kernel
theorem dL_keyAt_22 : decode cL_keyAt 22 = .ok (.ireturn, 1) := by decide +kernel
set_option maxRecDepth 20000 in
theorem ggL_distanceAt_X4_distanceAt : GoodIn wsL_distanceAt wsX4_distanceAt := goodIn_ca (goodIn_r _ [6, 7, 8, 9, 5, 10, 11, 12, 13, 14, 15, 16, 17, 18, 19, 20, 21, 22, 23, 24, 25, 26, 27, 28, 29, 30, 31, 32, 33, 34, 35, 36, 37, 38, 39, 40, 41, 42, 43, 44, 45, 46, 47] (by decide +kernel) (by decide +kernel)) (goodIn_sub (fun _ h => List.mem_cons_of_mem _ (List.mem_append_right _ h)) (by decide +kernel))
set_option maxRecDepth 20000 in
theorem gL_distanceAt_X4_distanceAt : GoodIn wsL_distanceAt (wsV RL 54 RX4 yX4_distanceAt wsX4_distanceAt) := goodIn_app (goodIn_of _ (by decide +kernel)) ggL_distanceAt_X4_distanceAt
theorem dL_distanceAt_0 : decode cL_distanceAt 0 = .ok (.aload_n 3, 1) := by decide +kernel
theorem dL_distanceAt_1 : decode cL_distanceAt 1 = .ok (.iconst 0, 1) := by decide +kernel
theorem dL_distanceAt_2 : decode cL_distanceAt 2 = .ok (.aload_n 0, 1) := by decide +kernel
theorem dL_distanceAt_3 : decode cL_distanceAt 3 = .ok (.iload_n 1, 1) := by decide +kernel
theorem dL_distanceAt_4 : decode cL_distanceAt 4 = .ok (.iload_n 2, 1) := by decide +kernel
theorem dL_distanceAt_5 : decode cL_distanceAt 5 = .ok (.invokevirtual 54, 3) := by decide +kernel
theorem dL_distanceAt_8 : decode cL_distanceAt 8 = .ok (.i2l, 1) := by decide +kernel
theorem dL_distanceAt_9 : decode cL_distanceAt 9 = .ok (.lastore, 1) := by decide +kernel
theorem dL_distanceAt_10 : decode cL_distanceAt 10 = .ok (.goto 7, 3) := by decide +kernel
theorem dL_distanceAt_13 : decode cL_distanceAt 13 = .ok (.astore 4, 2) := by decide +kernel
theorem dL_distanceAt_15 : decode cL_distanceAt 15 = .ok (.iconst 1, 1) := by decide +kernel
theorem dL_distanceAt_16 : decode cL_distanceAt 16 = .ok (.ireturn, 1) := by decide +kernel
theorem dL_distanceAt_17 : decode cL_distanceAt 17 = .ok (.iconst 0, 1) := by decide +kernel
theorem dL_distanceAt_18 : decode cL_distanceAt 18 = .ok (.ireturn, 1) := by decide +kernel
set_option maxRecDepth 20000 in
theorem ggL_displaced_X4_displaced : GoodIn wsL_displaced wsX4_displaced := goodIn_ca (goodIn_r _ [6, 7, 8, 9, 10, 11, 12, 13, 5, 14, 15, 16, 17, 18, 19, 20, 21, 22, 23, 24, 25, 26, 27, 28, 29, 30, 31, 32, 33, 34, 35, 36, 37, 38, 39, 40, 41, 42, 43, 44, 45, 46, 47, 48, 49, 50, 51, 52, 53, 54, 55, 56, 57, 58, 59, 60, 61, 62, 63, 64, 65, 66, 67, 68, 69, 70, 71, 72, 73, 74, 75, 76, 77, 78, 79, 80, 81, 82, 83, 84, 85, 86] (by decide +kernel) (by decide +kernel)) (goodIn_sub (fun _ h => List.mem_cons_of_mem _ (List.mem_append_right _ h)) (by decide +kernel))
set_option maxRecDepth 20000 in
theorem gL_displaced_X4_displaced : GoodIn wsL_displaced (wsV RL 57 RX4 yX4_displaced wsX4_displaced) := goodIn_app (goodIn_of _ (by decide +kernel)) ggL_displaced_X4_displaced
theorem dL_displaced_0 : decode cL_displaced 0 = .ok (.aload_n 2, 1) := by decide +kernel
theorem dL_displaced_1 : decode cL_displaced 1 = .ok (.iconst 0, 1) := by decide +kernel
theorem dL_displaced_2 : decode cL_displaced 2 = .ok (.aload_n 0, 1) := by decide +kernel
theorem dL_displaced_3 : decode cL_displaced 3 = .ok (.iload_n 1, 1) := by decide +kernel
theorem dL_displaced_4 : decode cL_displaced 4 = .ok (.invokevirtual 57, 3) := by decide +kernel
theorem dL_displaced_7 : decode cL_displaced 7 = .ok (.i2l, 1) := by decide +kernel
theorem dL_displaced_8 : decode cL_displaced 8 = .ok (.lastore, 1) := by decide +kernel
theorem dL_displaced_9 : decode cL_displaced 9 = .ok (.goto 6, 3) := by decide +kernel
theorem dL_displaced_12 : decode cL_displaced 12 = .ok (.astore_n 3, 1) := by decide +kernel
theorem dL_displaced_13 : decode cL_displaced 13 = .ok (.iconst 1, 1) := by decide +kernel
theorem dL_displaced_14 : decode cL_displaced 14 = .ok (.ireturn, 1) := by decide +kernel
theorem dL_displaced_15 : decode cL_displaced 15 = .ok (.iconst 0, 1) := by decide +kernel
theorem dL_displaced_16 : decode cL_displaced 16 = .ok (.ireturn, 1) := by decide +kernel
set_option maxRecDepth 20000 in
theorem ggL_law_X4_init : GoodIn wsL_law wsX4_init := goodIn_r _ [9, 10, 11, 12, 13, 14, 15, 16, 17, 18, 19, 20, 21, 22, 23, 24, 25, 26, 27, 28, 29, 30, 31, 32, 33, 34, 35, 36, 37, 38, 39, 40, 41, 42, 43, 44, 45, 46, 47, 48, 49, 50, 51, 52, 53, 54, 55, 56, 57, 58, 59, 60, 61, 62, 610, 611, 612, 613, 614, 615, 616, 634, 635, 636, 637, 638, 639, 640, 641, 642, 643, 644, 645, 646, 647, 648, 649, 650, 651, 652] (by decide +kernel) (by decide +kernel)
set_option maxRecDepth 20000 in
theorem gL_law_X4_init : GoodIn wsL_law (wsX4_init) := ggL_law_X4_init
set_option maxRecDepth 20000 in
theorem ggL_law_X5_init : GoodIn wsL_law wsX5_init := goodIn_r _ [65, 66, 11, 12, 37, 67, 68, 39, 69, 70, 71, 72, 73, 6, 74, 75, 76, 77, 78, 617, 618, 619, 620, 621, 622, 623, 624, 625, 626, 627, 628, 629, 630, 631, 632, 633] (by decide +kernel) (by decide +kernel)
set_option maxRecDepth 20000 in
theorem gL_law_X5_init : GoodIn wsL_law (wsX5_init) := ggL_law_X5_init
set_option maxRecDepth 20000 in
theorem ggL_law_L_clear : GoodIn wsL_law wsL_clear := goodIn_ca (goodIn_r _ [82, 83, 84, 85, 86, 2, 87, 88, 89, 30, 26, 27, 90, 14, 91, 51, 52, 25, 53, 54, 55, 56, 57, 58, 59, 46, 92, 93, 94, 29, 95, 96, 610, 611, 612, 613, 614, 615, 616, 642, 643, 644, 645, 646, 647, 648, 649, 650, 651, 652] (by decide +kernel) (by decide +kernel)) (goodIn_sub (fun _ h => List.mem_append_left _ (List.mem_append_left _ (List.mem_append_right _ h))) (by decide +kernel))
set_option maxRecDepth 20000 in
theorem gL_law_L_clear : GoodIn wsL_law (va_wsS RL 64 yL_clear wsL_clear) := goodIn_app (goodIn_of _ (by decide +kernel)) ggL_law_L_clear
set_option maxRecDepth 20000 in
theorem ggL_law_X5_clear : GoodIn wsL_law wsX5_clear := goodIn_r _ [100, 72, 69, 101, 70, 71, 102, 73, 103, 104, 5, 105, 106, 107, 108, 109, 110, 617, 618, 619, 620, 621, 622, 623, 624, 625, 626, 627, 628, 629, 630, 631, 632, 633] (by decide +kernel) (by decide +kernel)
set_option maxRecDepth 20000 in
theorem gL_law_X5_clear : GoodIn wsL_law (wsV RL 69 RX5 yX5_clear wsX5_clear) := goodIn_app (goodIn_of _ (by decide +kernel)) ggL_law_X5_clear
set_option maxRecDepth 20000 in
theorem ggL_law_X5_thrown : GoodIn wsL_law wsX5_thrown := goodIn_r _ [114, 110, 617, 618, 619, 620, 621, 622, 623, 624, 625, 626, 627, 628, 629, 630, 631, 632, 633] (by decide +kernel) (by decide +kernel)
set_option maxRecDepth 20000 in
theorem gL_law_X5_thrown : GoodIn wsL_law (wsV RL 70 RX5 yX5_thrown wsX5_thrown) := goodIn_app (goodIn_of _ (by decide +kernel)) ggL_law_X5_thrown
set_option maxRecDepth 20000 in
theorem ggL_law_L_put : GoodIn wsL_law wsL_put := goodIn_ca (goodIn_ca (goodIn_r _ [117, 83, 118, 119, 120, 121, 2, 122, 88, 89, 123, 124, 18, 125, 126, 127, 128, 26, 27, 129, 130, 131, 132, 133, 134, 135, 136, 137, 138, 139, 140, 30, 141, 142, 143, 144, 17, 145, 146, 147, 148, 149, 150, 151, 152, 153, 154, 155, 156, 157, 158, 159, 160, 161, 162, 163, 164, 25, 165, 58, 166, 167, 168, 169, 46, 170, 171, 172, 173, 174, 175, 176, 177, 48, 178, 179, 180, 181, 182, 49, 183, 184, 185, 186, 187, 188, 189, 190, 191, 192, 193, 194, 195, 196, 47, 197, 198, 199, 200, 59, 201, 202, 203, 204, 205, 206, 207, 208, 209, 210, 211, 212, 213, 214, 215, 216, 217, 91, 51, 52, 53, 54, 55, 56, 57, 218, 219, 220, 221, 222, 223, 224, 225, 226, 227, 228, 229, 90, 610, 611, 612, 613, 614, 615, 616, 634, 635, 636, 637, 642, 643, 644, 645, 646, 647] (by decide +kernel) (by decide +kernel)) (goodIn_sub (fun _ h => List.mem_append_left _ (List.mem_append_left _ (List.mem_append_right _ h))) (by decide +kernel))) (goodIn_sub (fun _ h => List.mem_append_left _ (List.mem_append_right _ h)) (by decide +kernel))
set_option maxRecDepth 20000 in
theorem gL_law_L_put : GoodIn wsL_law (va_wsS RL 73 yL_put wsL_put) := goodIn_app (goodIn_of _ (by decide +kernel)) ggL_law_L_put
set_option maxRecDepth 20000 in
theorem ggL_law_X5_put : GoodIn wsL_law wsX5_put := goodIn_r _ [233, 71, 68, 70, 101, 102, 234, 235, 236, 5, 237, 238, 239, 240, 241, 69, 67, 242, 243, 244, 245, 106, 107, 108, 109, 110, 246, 247, 248, 249, 250, 251, 252, 253, 254, 255, 256, 257, 258, 259, 260, 261, 262, 263, 264, 265, 72, 266, 267, 268, 269, 270, 617, 618, 619, 620, 621, 622, 623, 624, 625, 626, 627, 628, 629, 630, 631, 632, 633] (by decide +kernel) (by decide +kernel)
set_option maxRecDepth 20000 in
theorem gL_law_X5_put : GoodIn wsL_law (wsV RL 76 RX5 yX5_put wsX5_put) := goodIn_app (goodIn_of _ (by decide +kernel)) ggL_law_X5_put
set_option maxRecDepth 20000 in
theorem ggL_law_X4_get : GoodIn wsL_law wsX4_get := goodIn_r _ [132, 18, 133, 134, 135, 2, 136, 26, 27, 137, 138, 139, 140, 30, 141, 142, 143, 144, 17, 145, 146, 147, 148, 149, 150, 151, 152, 153, 154, 155, 156, 157, 158, 159, 160, 161, 162, 163, 164, 25, 165, 58, 166, 167, 168, 169, 46, 170, 171, 172, 173, 174, 175, 176, 177, 48, 178, 179, 180, 181, 182, 49, 610, 611, 612, 613, 614, 615, 616, 634, 635, 636, 637, 642, 643, 644, 645, 646, 647] (by decide +kernel) (by decide +kernel)
set_option maxRecDepth 20000 in
theorem gL_law_X4_get : GoodIn wsL_law (wsV RL 77 RX4 yX4_get wsX4_get) := goodIn_app (goodIn_of _ (by decide +kernel)) ggL_law_X4_get
set_option maxRecDepth 20000 in
theorem ggL_law_X5_get : GoodIn wsL_law wsX5_get := goodIn_r _ [275, 110, 68, 234, 235, 236, 5, 237, 238, 239, 240, 241, 70, 69, 67, 242, 243, 244, 245, 617, 618, 619, 620, 621, 622, 623, 624, 625, 626, 627, 628, 629, 630, 631, 632, 633] (by decide +kernel) (by decide +kernel)
set_option maxRecDepth 20000 in
theorem gL_law_X5_get : GoodIn wsL_law (wsV RL 80 RX5 yX5_get wsX5_get) := goodIn_app (goodIn_of _ (by decide +kernel)) ggL_law_X5_get
set_option maxRecDepth 20000 in
theorem ggL_law_X4_remove : GoodIn wsL_law wsX4_remove := goodIn_r _ [279, 18, 183, 184, 185, 2, 186, 27, 26, 187, 188, 189, 25, 190, 58, 191, 167, 168, 169, 46, 192, 175, 176, 177, 48, 179, 180, 181, 182, 49, 193, 194, 195, 196, 47, 197, 198, 199, 200, 59, 201, 163, 164, 165, 202, 203, 204, 205, 206, 207, 208, 209, 210, 211, 212, 213, 214, 215, 216, 217, 91, 51, 52, 53, 54, 55, 56, 57, 133, 134, 135, 136, 137, 138, 139, 140, 30, 141, 142, 143, 144, 17, 145, 146, 147, 148, 149, 150, 151, 152, 153, 154, 155, 156, 157, 158, 159, 160, 161, 162, 166, 170, 171, 172, 173, 174, 178, 610, 611, 612, 613, 614, 615, 616, 634, 635, 636, 637, 642, 643, 644, 645, 646, 647] (by decide +kernel) (by decide +kernel)
set_option maxRecDepth 20000 in
theorem gL_law_X4_remove : GoodIn wsL_law (wsV RL 81 RX4 yX4_remove wsX4_remove) := goodIn_app (goodIn_of _ (by decide +kernel)) ggL_law_X4_remove
set_option maxRecDepth 20000 in
theorem ggL_law_X5_remove : GoodIn wsL_law wsX5_remove := goodIn_r _ [283, 110, 284, 285, 286, 5, 287, 68, 246, 247, 248, 249, 101, 71, 69, 67, 250, 251, 252, 253, 70, 254, 255, 256, 257, 258, 259, 260, 261, 262, 263, 264, 265, 72, 266, 267, 268, 269, 270, 234, 235, 236, 237, 238, 239, 240, 241, 242, 243, 244, 245, 617, 618, 619, 620, 621, 622, 623, 624, 625, 626, 627, 628, 629, 630, 631, 632, 633] (by decide +kernel) (by decide +kernel)
set_option maxRecDepth 20000 in
theorem gL_law_X5_remove : GoodIn wsL_law (wsV RL 84 RX5 yX5_remove wsX5_remove) := goodIn_app (goodIn_of _ (by decide +kernel)) ggL_law_X5_remove
set_option maxRecDepth 20000 in
theorem ggL_law_X4_move : GoodIn wsL_law wsX4_move := goodIn_r _ [291, 183, 184, 185, 2, 186, 27, 26, 187, 188, 189, 25, 190, 58, 191, 167, 168, 169, 46, 192, 175, 176, 177, 48, 179, 180, 181, 182, 49, 193, 194, 195, 196, 47, 197, 198, 199, 200, 59, 201, 163, 164, 165, 202, 203, 204, 205, 206, 207, 208, 209, 210, 211, 212, 213, 214, 215, 216, 217, 91, 51, 52, 53, 54, 55, 56, 57, 610, 611, 612, 613, 614, 615, 616, 642, 643, 644, 645, 646, 647] (by decide +kernel) (by decide +kernel)
set_option maxRecDepth 20000 in
theorem gL_law_X4_move : GoodIn wsL_law (wsV RL 85 RX4 yX4_move wsX4_move) := goodIn_app (goodIn_of _ (by decide +kernel)) ggL_law_X4_move
set_option maxRecDepth 20000 in
theorem ggL_law_X5_move : GoodIn wsL_law wsX5_move := goodIn_r _ [295, 110, 246, 247, 248, 5, 249, 101, 71, 69, 67, 68, 250, 251, 252, 253, 70, 254, 255, 256, 257, 258, 259, 260, 261, 262, 263, 264, 265, 72, 266, 267, 268, 269, 270, 617, 618, 619, 620, 621, 622, 623, 624, 625, 626, 627, 628, 629, 630, 631, 632, 633] (by decide +kernel) (by decide +kernel)
set_option maxRecDepth 20000 in
theorem gL_law_X5_move : GoodIn wsL_law (wsV RL 88 RX5 yX5_move wsX5_move) := goodIn_app (goodIn_of _ (by decide +kernel)) ggL_law_X5_move
set_option maxRecDepth 20000 in
theorem ggL_law_X4_size : GoodIn wsL_law wsX4_size := goodIn_r _ [128, 26, 27, 610, 611, 612, 613, 614, 615, 616, 642, 643, 644, 645, 646, 647] (by decide +kernel) (by decide +kernel)
set_option maxRecDepth 20000 in
theorem gL_law_X4_size : GoodIn wsL_law (wsV RL 89 RX4 yX4_size wsX4_size) := goodIn_app (goodIn_of _ (by decide +kernel)) ggL_law_X4_size
set_option maxRecDepth 20000 in
theorem ggL_law_X5_size : GoodIn wsL_law wsX5_size := goodIn_r _ [300, 110, 71, 617, 618, 619, 620, 621, 622, 623, 624, 625, 626, 627, 628, 629, 630, 631, 632, 633] (by decide +kernel) (by decide +kernel)
set_option maxRecDepth 20000 in
theorem gL_law_X5_size : GoodIn wsL_law (wsV RL 92 RX5 yX5_size wsX5_size) := goodIn_app (goodIn_of _ (by decide +kernel)) ggL_law_X5_size
set_option maxRecDepth 20000 in
theorem ggL_law_X4_moves : GoodIn wsL_law wsX4_moves := goodIn_r _ [304, 90, 610, 611, 612, 613, 614, 615, 616] (by decide +kernel) (by decide +kernel)
set_option maxRecDepth 20000 in
theorem gL_law_X4_moves : GoodIn wsL_law (wsV RL 93 RX4 yX4_moves wsX4_moves) := goodIn_app (goodIn_of _ (by decide +kernel)) ggL_law_X4_moves
set_option maxRecDepth 20000 in
theorem ggL_law_X5_moves : GoodIn wsL_law wsX5_moves := goodIn_r _ [308, 110, 102, 617, 618, 619, 620, 621, 622, 623, 624, 625, 626, 627, 628, 629, 630, 631, 632, 633] (by decide +kernel) (by decide +kernel)
set_option maxRecDepth 20000 in
theorem gL_law_X5_moves : GoodIn wsL_law (wsV RL 96 RX5 yX5_moves wsX5_moves) := goodIn_app (goodIn_of _ (by decide +kernel)) ggL_law_X5_moves
set_option maxRecDepth 20000 in
theorem ggL_law_L_openSweep : GoodIn wsL_law wsL_openSweep := goodIn_ca (goodIn_r _ [311, 118, 312, 313, 314, 2, 315, 123, 124, 14, 316, 317, 318, 29, 319, 96, 320, 321, 322, 323, 610, 611, 612, 613, 614, 615, 616, 648, 649, 650, 651, 652] (by decide +kernel) (by decide +kernel)) (goodIn_sub (fun _ h => List.mem_append_left _ (List.mem_append_right _ h)) (by decide +kernel))
set_option maxRecDepth 20000 in
theorem gL_law_L_openSweep : GoodIn wsL_law (va_wsS RL 97 yL_openSweep wsL_openSweep) := goodIn_app (goodIn_of _ (by decide +kernel)) ggL_law_L_openSweep
set_option maxRecDepth 20000 in
theorem ggL_law_X5_openSweep : GoodIn wsL_law wsX5_openSweep := goodIn_r _ [327, 73, 74, 328, 76, 77, 106, 107, 108, 5, 109, 110, 617, 618, 619, 620, 621, 622, 623, 624, 625, 626, 627, 628, 629, 630, 631, 632, 633] (by decide +kernel) (by decide +kernel)
set_option maxRecDepth 20000 in
theorem gL_law_X5_openSweep : GoodIn wsL_law (wsV RL 100 RX5 yX5_openSweep wsX5_openSweep) := goodIn_app (goodIn_of _ (by decide +kernel)) ggL_law_X5_openSweep
set_option maxRecDepth 20000 in
theorem ggL_law_L_hasNext : GoodIn wsL_law wsL_hasNext := goodIn_ca (goodIn_r _ [331, 332, 333, 334, 335, 2, 336, 18, 337, 338, 339, 340, 341, 342, 14, 343, 344, 345, 346, 26, 27, 142, 143, 144, 17, 145, 146, 147, 148, 347, 348, 349, 350, 157, 166, 167, 168, 25, 169, 46, 351, 352, 353, 354, 47, 355, 356, 357, 358, 359, 360, 361, 362, 363, 364, 365, 366, 367, 368, 369, 158, 159, 160, 161, 178, 648, 649, 650, 651, 652, 610, 611, 612, 613, 614, 615, 616, 634, 635, 636, 637, 642, 643, 644, 645, 646, 647] (by decide +kernel) (by decide +kernel)) (goodIn_sub (fun _ h => List.mem_append_right _ h) (by decide +kernel))
set_option maxRecDepth 20000 in
theorem gL_law_L_hasNext : GoodIn wsL_law (va_wsS RL 101 yL_hasNext wsL_hasNext) := goodIn_app (goodIn_of _ (by decide +kernel)) ggL_law_L_hasNext
set_option maxRecDepth 20000 in
theorem ggL_law_X5_hasNext : GoodIn wsL_law wsX5_hasNext := goodIn_r _ [373, 74, 374, 375, 376, 5, 377, 73, 103, 104, 105, 106, 107, 108, 109, 110, 378, 379, 380, 381, 69, 67, 382, 383, 384, 385, 386, 262, 263, 264, 265, 72, 266, 617, 618, 619, 620, 621, 622, 623, 624, 625, 626, 627, 628, 629, 630, 631, 632, 633] (by decide +kernel) (by decide +kernel)
set_option maxRecDepth 20000 in
theorem gL_law_X5_hasNext : GoodIn wsL_law (wsV RL 104 RX5 yX5_hasNext wsX5_hasNext) := goodIn_app (goodIn_of _ (by decide +kernel)) ggL_law_X5_hasNext
set_option maxRecDepth 20000 in
theorem ggL_law_L_next : GoodIn wsL_law wsL_next := goodIn_ca (goodIn_ca (goodIn_r _ [389, 332, 118, 390, 391, 392, 2, 393, 123, 124, 18, 337, 338, 339, 340, 341, 342, 14, 343, 344, 345, 346, 26, 27, 142, 143, 144, 17, 145, 146, 147, 148, 347, 348, 349, 350, 157, 166, 167, 168, 25, 169, 46, 351, 352, 353, 354, 47, 355, 356, 357, 358, 359, 360, 361, 362, 363, 364, 365, 366, 367, 368, 369, 158, 159, 160, 161, 178, 192, 175, 176, 177, 48, 394, 395, 396, 397, 29, 398, 320, 321, 399, 323, 648, 649, 650, 651, 652, 610, 611, 612, 613, 614, 615, 616, 634, 635, 636, 637, 642, 643, 644, 645, 646, 647] (by decide +kernel) (by decide +kernel)) (goodIn_sub (fun _ h => List.mem_append_left _ (List.mem_append_right _ h)) (by decide +kernel))) (goodIn_sub (fun _ h => List.mem_append_right _ h) (by decide +kernel))
set_option maxRecDepth 20000 in
theorem gL_law_L_next : GoodIn wsL_law (va_wsS RL 105 yL_next wsL_next) := goodIn_app (goodIn_of _ (by decide +kernel)) ggL_law_L_next
set_option maxRecDepth 20000 in
theorem ggL_law_X5_next : GoodIn wsL_law wsX5_next := goodIn_r _ [403, 74, 67, 75, 76, 77, 374, 375, 376, 5, 377, 73, 103, 104, 105, 378, 379, 380, 381, 69, 382, 383, 384, 385, 386, 262, 263, 264, 265, 72, 266, 106, 107, 108, 109, 110, 617, 618, 619, 620, 621, 622, 623, 624, 625, 626, 627, 628, 629, 630, 631, 632, 633] (by decide +kernel) (by decide +kernel)
set_option maxRecDepth 20000 in
theorem gL_law_X5_next : GoodIn wsL_law (wsV RL 107 RX5 yX5_next wsX5_next) := goodIn_app (goodIn_of _ (by decide +kernel)) ggL_law_X5_next
set_option maxRecDepth 20000 in
theorem ggL_law_L_removeMet : GoodIn wsL_law wsL_removeMet := goodIn_ca (goodIn_ca (goodIn_r _ [406, 332, 118, 407, 408, 409, 2, 410, 123, 124, 18, 337, 338, 339, 340, 341, 342, 14, 133, 134, 135, 136, 26, 27, 137, 138, 139, 140, 30, 141, 142, 143, 144, 17, 145, 146, 147, 148, 149, 150, 151, 152, 153, 154, 155, 156, 157, 158, 159, 160, 161, 162, 163, 164, 25, 165, 58, 166, 167, 168, 169, 46, 170, 171, 172, 173, 174, 175, 176, 177, 48, 178, 411, 277, 278, 279, 183, 184, 185, 186, 187, 188, 189, 190, 191, 192, 179, 180, 181, 182, 49, 193, 194, 195, 196, 47, 197, 198, 199, 200, 59, 201, 202, 203, 204, 205, 206, 207, 208, 209, 210, 211, 212, 213, 214, 215, 216, 217, 91, 51, 52, 53, 54, 55, 56, 57, 648, 649, 650, 651, 652, 610, 611, 612, 613, 614, 615, 616, 634, 635, 636, 637, 642, 643, 644, 645, 646, 647] (by decide +kernel) (by decide +kernel)) (goodIn_sub (fun _ h => List.mem_append_left _ (List.mem_append_right _ h)) (by decide +kernel))) (goodIn_sub (fun _ h => List.mem_append_right _ h) (by decide +kernel))
set_option maxRecDepth 20000 in
theorem gL_law_L_removeMet : GoodIn wsL_law (va_wsS RL 108 yL_removeMet wsL_removeMet) := goodIn_app (goodIn_of _ (by decide +kernel)) ggL_law_L_removeMet
set_option maxRecDepth 20000 in
theorem ggL_law_X5_removeMet : GoodIn wsL_law wsX5_removeMet := goodIn_r _ [415, 77, 76, 75, 374, 375, 376, 5, 377, 73, 103, 104, 105, 242, 243, 244, 245, 238, 239, 240, 241, 70, 69, 67, 106, 107, 108, 109, 110, 284, 285, 286, 287, 68, 246, 247, 248, 249, 101, 71, 250, 251, 252, 253, 254, 255, 256, 257, 258, 259, 260, 261, 262, 263, 264, 265, 72, 266, 267, 268, 269, 270, 234, 235, 236, 237, 617, 618, 619, 620, 621, 622, 623, 624, 625, 626, 627, 628, 629, 630, 631, 632, 633] (by decide +kernel) (by decide +kernel)
set_option maxRecDepth 20000 in
theorem gL_law_X5_removeMet : GoodIn wsL_law (wsV RL 110 RX5 yX5_removeMet wsX5_removeMet) := goodIn_app (goodIn_of _ (by decide +kernel)) ggL_law_X5_removeMet
set_option maxRecDepth 20000 in
theorem ggL_law_L_closeSweep : GoodIn wsL_law wsL_closeSweep := goodIn_ca (goodIn_r _ [418, 332, 419, 420, 421, 2, 422, 337, 338, 339, 340, 341, 342, 14, 92, 93, 94, 29, 95, 96, 648, 649, 650, 651, 652, 610, 611, 612, 613, 614, 615, 616] (by decide +kernel) (by decide +kernel)) (goodIn_sub (fun _ h => List.mem_append_right _ h) (by decide +kernel))
set_option maxRecDepth 20000 in
theorem gL_law_L_closeSweep : GoodIn wsL_law (va_wsS RL 111 yL_closeSweep wsL_closeSweep) := goodIn_app (goodIn_of _ (by decide +kernel)) ggL_law_L_closeSweep
set_option maxRecDepth 20000 in
theorem ggL_law_X5_closeSweep : GoodIn wsL_law wsX5_closeSweep := goodIn_r _ [426, 73, 77, 374, 375, 376, 5, 377, 103, 104, 105, 106, 107, 108, 109, 110, 617, 618, 619, 620, 621, 622, 623, 624, 625, 626, 627, 628, 629, 630, 631, 632, 633] (by decide +kernel) (by decide +kernel)
set_option maxRecDepth 20000 in
theorem gL_law_X5_closeSweep : GoodIn wsL_law (wsV RL 113 RX5 yX5_closeSweep wsX5_closeSweep) := goodIn_app (goodIn_of _ (by decide +kernel)) ggL_law_X5_closeSweep
set_option maxRecDepth 20000 in
theorem ggL_law_X4_hash : GoodIn wsL_law wsX4_hash := goodIn_r _ [140, 30, 141, 610, 611, 612, 613, 614, 615, 616] (by decide +kernel) (by decide +kernel)
set_option maxRecDepth 20000 in
theorem gL_law_X4_hash : GoodIn wsL_law (wsV RL 114 RX4 yX4_hash wsX4_hash) := goodIn_app (goodIn_of _ (by decide +kernel)) ggL_law_X4_hash
set_option maxRecDepth 20000 in
theorem ggL_law_X5_hash : GoodIn wsL_law wsX5_hash := goodIn_r _ [431, 110, 262, 263, 264, 5, 265, 72, 266, 617, 618, 619, 620, 621, 622, 623, 624, 625, 626, 627, 628, 629, 630, 631, 632, 633] (by decide +kernel) (by decide +kernel)
set_option maxRecDepth 20000 in
theorem gL_law_X5_hash : GoodIn wsL_law (wsV RL 117 RX5 yX5_hash wsX5_hash) := goodIn_app (goodIn_of _ (by decide +kernel)) ggL_law_X5_hash
set_option maxRecDepth 20000 in
theorem ggL_law_L_slots : GoodIn wsL_law wsL_slots := goodIn_ca (goodIn_r _ [434, 332, 435, 436, 437, 2, 438, 439, 440, 441, 442, 341, 342, 26, 27, 642, 643, 644, 645, 646, 647, 610, 611, 612, 613, 614, 615, 616] (by decide +kernel) (by decide +kernel)) (goodIn_sub (fun _ h => List.mem_append_right _ h) (by decide +kernel))
set_option maxRecDepth 20000 in
theorem gL_law_L_slots : GoodIn wsL_law (va_wsS RL 118 yL_slots wsL_slots) := goodIn_app (goodIn_of _ (by decide +kernel)) ggL_law_L_slots
set_option maxRecDepth 20000 in
theorem ggL_law_X5_slots : GoodIn wsL_law wsX5_slots := goodIn_r _ [446, 70, 103, 104, 5, 105, 106, 107, 108, 109, 110, 447, 448, 449, 450, 101, 617, 618, 619, 620, 621, 622, 623, 624, 625, 626, 627, 628, 629, 630, 631, 632, 633] (by decide +kernel) (by decide +kernel)
set_option maxRecDepth 20000 in
theorem gL_law_X5_slots : GoodIn wsL_law (wsV RL 120 RX5 yX5_slots wsX5_slots) := goodIn_app (goodIn_of _ (by decide +kernel)) ggL_law_X5_slots
set_option maxRecDepth 20000 in
theorem ggL_law_L_keysIn : GoodIn wsL_law wsL_keysIn := goodIn_ca (goodIn_r _ [453, 332, 454, 455, 456, 2, 457, 439, 440, 441, 442, 341, 342, 26, 27, 642, 643, 644, 645, 646, 647, 610, 611, 612, 613, 614, 615, 616] (by decide +kernel) (by decide +kernel)) (goodIn_sub (fun _ h => List.mem_append_right _ h) (by decide +kernel))
set_option maxRecDepth 20000 in
theorem gL_law_L_keysIn : GoodIn wsL_law (va_wsS RL 121 yL_keysIn wsL_keysIn) := goodIn_app (goodIn_of _ (by decide +kernel)) ggL_law_L_keysIn
set_option maxRecDepth 20000 in
theorem ggL_law_X5_keysIn : GoodIn wsL_law wsX5_keysIn := goodIn_r _ [461, 71, 103, 104, 5, 105, 106, 107, 108, 109, 110, 447, 448, 449, 450, 101, 617, 618, 619, 620, 621, 622, 623, 624, 625, 626, 627, 628, 629, 630, 631, 632, 633] (by decide +kernel) (by decide +kernel)
set_option maxRecDepth 20000 in
theorem gL_law_X5_keysIn : GoodIn wsL_law (wsV RL 123 RX5 yX5_keysIn wsX5_keysIn) := goodIn_app (goodIn_of _ (by decide +kernel)) ggL_law_X5_keysIn
set_option maxRecDepth 20000 in
theorem ggL_law_L_control : GoodIn wsL_law wsL_control := goodIn_ca (goodIn_r _ [464, 332, 465, 466, 467, 2, 468, 469, 470, 471, 472, 341, 342, 439, 440, 441, 442, 26, 27, 473, 171, 172, 25, 173, 46, 642, 643, 644, 645, 646, 647, 610, 611, 612, 613, 614, 615, 616] (by decide +kernel) (by decide +kernel)) (goodIn_sub (fun _ h => List.mem_append_right _ h) (by decide +kernel))
set_option maxRecDepth 20000 in
theorem gL_law_L_control : GoodIn wsL_law (va_wsS RL 124 yL_control wsL_control) := goodIn_app (goodIn_of _ (by decide +kernel)) ggL_law_L_control
set_option maxRecDepth 20000 in
theorem ggL_law_X5_control : GoodIn wsL_law wsX5_control := goodIn_r _ [477, 478, 479, 480, 5, 481, 70, 103, 104, 105, 447, 448, 449, 450, 101, 106, 107, 108, 109, 110, 482, 483, 484, 485, 69, 67, 262, 263, 264, 265, 72, 266, 617, 618, 619, 620, 621, 622, 623, 624, 625, 626, 627, 628, 629, 630, 631, 632, 633] (by decide +kernel) (by decide +kernel)
set_option maxRecDepth 20000 in
theorem gL_law_X5_control : GoodIn wsL_law (wsV RL 126 RX5 yX5_control wsX5_control) := goodIn_app (goodIn_of _ (by decide +kernel)) ggL_law_X5_control
set_option maxRecDepth 20000 in
theorem ggL_law_L_keyAt : GoodIn wsL_law wsL_keyAt := goodIn_ca (goodIn_ca (goodIn_r _ [488, 332, 118, 489, 490, 491, 2, 492, 123, 124, 469, 470, 471, 472, 341, 342, 439, 440, 441, 442, 26, 27, 493, 167, 168, 25, 169, 46, 192, 175, 176, 177, 48, 642, 643, 644, 645, 646, 647, 610, 611, 612, 613, 614, 615, 616] (by decide +kernel) (by decide +kernel)) (goodIn_sub (fun _ h => List.mem_append_left _ (List.mem_append_right _ h)) (by decide +kernel))) (goodIn_sub (fun _ h => List.mem_append_right _ h) (by decide +kernel))
set_option maxRecDepth 20000 in
theorem gL_law_L_keyAt : GoodIn wsL_law (va_wsS RL 127 yL_keyAt wsL_keyAt) := goodIn_app (goodIn_of _ (by decide +kernel)) ggL_law_L_keyAt
set_option maxRecDepth 20000 in
theorem ggL_law_X5_keyAt : GoodIn wsL_law wsX5_keyAt := goodIn_r _ [497, 69, 67, 447, 448, 449, 5, 450, 101, 478, 479, 480, 481, 70, 103, 104, 105, 106, 107, 108, 109, 110, 617, 618, 619, 620, 621, 622, 623, 624, 625, 626, 627, 628, 629, 630, 631, 632, 633] (by decide +kernel) (by decide +kernel)
set_option maxRecDepth 20000 in
theorem gL_law_X5_keyAt : GoodIn wsL_law (wsV RL 129 RX5 yX5_keyAt wsX5_keyAt) := goodIn_app (goodIn_of _ (by decide +kernel)) ggL_law_X5_keyAt
set_option maxRecDepth 20000 in
theorem ggL_law_L_distanceAt : GoodIn wsL_law wsL_distanceAt := goodIn_ca (goodIn_r _ [500, 332, 501, 502, 503, 2, 504, 469, 470, 471, 472, 341, 342, 439, 440, 441, 442, 26, 27, 505, 203, 204, 25, 205, 47, 191, 167, 168, 169, 46, 201, 163, 164, 165, 58, 642, 643, 644, 645, 646, 647, 610, 611, 612, 613, 614, 615, 616] (by decide +kernel) (by decide +kernel)) (goodIn_sub (fun _ h => List.mem_append_right _ h) (by decide +kernel))
set_option maxRecDepth 20000 in
theorem gL_law_L_distanceAt : GoodIn wsL_law (va_wsS RL 130 yL_distanceAt wsL_distanceAt) := goodIn_app (goodIn_of _ (by decide +kernel)) ggL_law_L_distanceAt
set_option maxRecDepth 20000 in
theorem ggL_law_X5_distanceAt : GoodIn wsL_law wsX5_distanceAt := goodIn_r _ [509, 69, 478, 479, 480, 5, 481, 70, 103, 104, 105, 447, 448, 449, 450, 101, 106, 107, 108, 109, 110, 254, 255, 256, 257, 67, 258, 259, 260, 261, 262, 263, 264, 265, 72, 266, 617, 618, 619, 620, 621, 622, 623, 624, 625, 626, 627, 628, 629, 630, 631, 632, 633] (by decide +kernel) (by decide +kernel)
set_option maxRecDepth 20000 in
theorem gL_law_X5_distanceAt : GoodIn wsL_law (wsV RL 132 RX5 yX5_distanceAt wsX5_distanceAt) := goodIn_app (goodIn_of _ (by decide +kernel)) ggL_law_X5_distanceAt
set_option maxRecDepth 20000 in
theorem ggL_law_X4_longest : GoodIn wsL_law wsX4_longest := goodIn_r _ [513, 26, 514, 515, 56, 516, 505, 203, 204, 25, 205, 47, 191, 167, 168, 169, 46, 201, 163, 164, 165, 58, 610, 611, 612, 613, 614, 615, 616, 642, 643, 644, 645, 646, 647] (by decide +kernel) (by decide +kernel)
set_option maxRecDepth 20000 in
theorem gL_law_X4_longest : GoodIn wsL_law (wsV RL 133 RX4 yX4_longest wsX4_longest) := goodIn_app (goodIn_of _ (by decide +kernel)) ggL_law_X4_longest
set_option maxRecDepth 20000 in
theorem ggL_law_X5_longest : GoodIn wsL_law wsX5_longest := goodIn_r _ [520, 110, 70, 101, 69, 254, 255, 256, 5, 257, 67, 258, 259, 260, 261, 262, 263, 264, 265, 72, 266, 617, 618, 619, 620, 621, 622, 623, 624, 625, 626, 627, 628, 629, 630, 631, 632, 633] (by decide +kernel) (by decide +kernel)
set_option maxRecDepth 20000 in
theorem gL_law_X5_longest : GoodIn wsL_law (wsV RL 136 RX5 yX5_longest wsX5_longest) := goodIn_app (goodIn_of _ (by decide +kernel)) ggL_law_X5_longest
set_option maxRecDepth 20000 in
theorem ggL_law_X4_total : GoodIn wsL_law wsX4_total := goodIn_r _ [524, 26, 514, 515, 56, 516, 505, 203, 204, 25, 205, 47, 191, 167, 168, 169, 46, 201, 163, 164, 165, 58, 610, 611, 612, 613, 614, 615, 616, 642, 643, 644, 645, 646, 647] (by decide +kernel) (by decide +kernel)
set_option maxRecDepth 20000 in
theorem gL_law_X4_total : GoodIn wsL_law (wsV RL 137 RX4 yX4_total wsX4_total) := goodIn_app (goodIn_of _ (by decide +kernel)) ggL_law_X4_total
set_option maxRecDepth 20000 in
theorem ggL_law_X5_total : GoodIn wsL_law wsX5_total := goodIn_r _ [528, 110, 70, 101, 69, 254, 255, 256, 5, 257, 67, 258, 259, 260, 261, 262, 263, 264, 265, 72, 266, 617, 618, 619, 620, 621, 622, 623, 624, 625, 626, 627, 628, 629, 630, 631, 632, 633] (by decide +kernel) (by decide +kernel)
set_option maxRecDepth 20000 in
theorem gL_law_X5_total : GoodIn wsL_law (wsV RL 140 RX5 yX5_total wsX5_total) := goodIn_app (goodIn_of _ (by decide +kernel)) ggL_law_X5_total
set_option maxRecDepth 20000 in
theorem ggL_law_X4_groups : GoodIn wsL_law wsX4_groups := goodIn_r _ [532, 18, 133, 134, 135, 2, 136, 26, 27, 137, 138, 139, 140, 30, 141, 142, 143, 144, 17, 145, 146, 147, 148, 149, 150, 151, 152, 153, 154, 155, 156, 157, 158, 159, 160, 161, 162, 163, 164, 25, 165, 58, 166, 167, 168, 169, 46, 170, 171, 172, 173, 174, 175, 176, 177, 48, 178, 610, 611, 612, 613, 614, 615, 616, 634, 635, 636, 637, 642, 643, 644, 645, 646, 647] (by decide +kernel) (by decide +kernel)
set_option maxRecDepth 20000 in
theorem gL_law_X4_groups : GoodIn wsL_law (wsV RL 141 RX4 yX4_groups wsX4_groups) := goodIn_app (goodIn_of _ (by decide +kernel)) ggL_law_X4_groups
set_option maxRecDepth 20000 in
theorem ggL_law_X5_groups : GoodIn wsL_law wsX5_groups := goodIn_r _ [536, 110, 537, 538, 539, 5, 540, 101, 541, 542, 543, 544, 70, 67, 262, 263, 264, 265, 72, 266, 258, 259, 260, 261, 482, 483, 484, 485, 69, 238, 239, 240, 241, 617, 618, 619, 620, 621, 622, 623, 624, 625, 626, 627, 628, 629, 630, 631, 632, 633] (by decide +kernel) (by decide +kernel)
set_option maxRecDepth 20000 in
theorem gL_law_X5_groups : GoodIn wsL_law (wsV RL 144 RX5 yX5_groups wsX5_groups) := goodIn_app (goodIn_of _ (by decide +kernel)) ggL_law_X5_groups
set_option maxRecDepth 20000 in
theorem ggL_law_X4_comparisons : GoodIn wsL_law wsX4_comparisons := goodIn_r _ [548, 18, 133, 134, 135, 2, 136, 26, 27, 137, 138, 139, 140, 30, 141, 142, 143, 144, 17, 145, 146, 147, 148, 149, 150, 151, 152, 153, 154, 155, 156, 157, 158, 159, 160, 161, 162, 163, 164, 25, 165, 58, 166, 167, 168, 169, 46, 170, 171, 172, 173, 174, 175, 176, 177, 48, 178, 610, 611, 612, 613, 614, 615, 616, 634, 635, 636, 637, 642, 643, 644, 645, 646, 647] (by decide +kernel) (by decide +kernel)
set_option maxRecDepth 20000 in
theorem gL_law_X4_comparisons : GoodIn wsL_law (wsV RL 145 RX4 yX4_comparisons wsX4_comparisons) := goodIn_app (goodIn_of _ (by decide +kernel)) ggL_law_X4_comparisons
set_option maxRecDepth 20000 in
theorem ggL_law_X5_comparisons : GoodIn wsL_law wsX5_comparisons := goodIn_r _ [552, 110, 537, 538, 539, 5, 540, 101, 541, 542, 543, 544, 70, 67, 262, 263, 264, 265, 72, 266, 258, 259, 260, 261, 482, 483, 484, 485, 69, 238, 239, 240, 241, 617, 618, 619, 620, 621, 622, 623, 624, 625, 626, 627, 628, 629, 630, 631, 632, 633] (by decide +kernel) (by decide +kernel)
set_option maxRecDepth 20000 in
theorem gL_law_X5_comparisons : GoodIn wsL_law (wsV RL 148 RX5 yX5_comparisons wsX5_comparisons) := goodIn_app (goodIn_of _ (by decide +kernel)) ggL_law_X5_comparisons
set_option maxRecDepth 20000 in
theorem ggL_law_L_displaced : GoodIn wsL_law wsL_displaced := goodIn_ca (goodIn_r _ [555, 118, 556, 557, 558, 2, 559, 123, 124, 18, 26, 137, 138, 139, 140, 30, 141, 142, 143, 144, 17, 145, 146, 147, 148, 149, 150, 151, 152, 153, 154, 155, 156, 157, 158, 159, 160, 161, 162, 163, 164, 25, 165, 58, 166, 167, 168, 169, 46, 170, 171, 172, 173, 174, 175, 176, 177, 48, 178, 560, 561, 562, 563, 201, 202, 203, 204, 205, 47, 191, 610, 611, 612, 613, 614, 615, 616, 634, 635, 636, 637, 642, 643, 644, 645, 646, 647] (by decide +kernel) (by decide +kernel)) (goodIn_sub (fun _ h => List.mem_append_left _ (List.mem_append_right _ h)) (by decide +kernel))
set_option maxRecDepth 20000 in
theorem gL_law_L_displaced : GoodIn wsL_law (va_wsS RL 149 yL_displaced wsL_displaced) := goodIn_app (goodIn_of _ (by decide +kernel)) ggL_law_L_displaced
set_option maxRecDepth 20000 in
theorem ggL_law_X5_displaced : GoodIn wsL_law wsX5_displaced := goodIn_r _ [567, 101, 238, 239, 240, 5, 241, 70, 69, 67, 106, 107, 108, 109, 110, 267, 268, 269, 270, 68, 71, 258, 259, 260, 261, 262, 263, 264, 265, 72, 266, 254, 255, 256, 257, 617, 618, 619, 620, 621, 622, 623, 624, 625, 626, 627, 628, 629, 630, 631, 632, 633] (by decide +kernel) (by decide +kernel)
set_option maxRecDepth 20000 in
theorem gL_law_X5_displaced : GoodIn wsL_law (wsV RL 151 RX5 yX5_displaced wsX5_displaced) := goodIn_app (goodIn_of _ (by decide +kernel)) ggL_law_X5_displaced
set_option maxRecDepth 20000 in
theorem ggL_law_X4_plainTotal : GoodIn wsL_law wsX4_plainTotal := goodIn_r _ [571, 22, 26, 572, 573, 574, 21, 575, 576, 577, 40, 38, 578, 515, 56, 516, 579, 580, 581, 582, 583, 167, 168, 25, 169, 46, 584, 175, 176, 177, 48, 585, 194, 195, 196, 47, 586, 587, 588, 589, 590, 163, 164, 165, 58, 610, 611, 612, 613, 614, 615, 616, 638, 639, 640, 641, 642, 643, 644, 645, 646, 647] (by decide +kernel) (by decide +kernel)
set_option maxRecDepth 20000 in
theorem gL_law_X4_plainTotal : GoodIn wsL_law (wsV RL 152 RX4 yX4_plainTotal wsX4_plainTotal) := goodIn_app (goodIn_of _ (by decide +kernel)) ggL_law_X4_plainTotal
set_option maxRecDepth 20000 in
theorem ggL_law_X5_plainTotal : GoodIn wsL_law wsX5_plainTotal := goodIn_r _ [594, 110, 595, 596, 597, 598, 5, 599, 78, 600, 601, 71, 101, 70, 69, 67, 258, 259, 260, 261, 262, 263, 264, 265, 72, 266, 617, 618, 619, 620, 621, 622, 623, 624, 625, 626, 627, 628, 629, 630, 631, 632, 633] (by decide +kernel) (by decide +kernel)
set_option maxRecDepth 20000 in
theorem gL_law_X5_plainTotal : GoodIn wsL_law (wsV RL 155 RX5 yX5_plainTotal wsX5_plainTotal) := goodIn_app (goodIn_of _ (by decide +kernel)) ggL_law_X5_plainTotal
set_option maxRecDepth 20000 in
theorem ggL_law_X4_plainLongest : GoodIn wsL_law wsX4_plainLongest := goodIn_r _ [605, 22, 26, 572, 573, 574, 21, 575, 576, 577, 40, 38, 578, 515, 56, 516, 579, 580, 581, 582, 583, 167, 168, 25, 169, 46, 584, 175, 176, 177, 48, 585, 194, 195, 196, 47, 586, 587, 588, 589, 590, 163, 164, 165, 58, 610, 611, 612, 613, 614, 615, 616, 638, 639, 640, 641, 642, 643, 644, 645, 646, 647] (by decide +kernel) (by decide +kernel)
set_option maxRecDepth 20000 in
theorem gL_law_X4_plainLongest : GoodIn wsL_law (wsV RL 156 RX4 yX4_plainLongest wsX4_plainLongest) := goodIn_app (goodIn_of _ (by decide +kernel)) ggL_law_X4_plainLongest
set_option maxRecDepth 20000 in
theorem ggL_law_X5_plainLongest : GoodIn wsL_law wsX5_plainLongest := goodIn_r _ [609, 110, 600, 596, 597, 598, 5, 599, 78, 595, 601, 71, 101, 70, 69, 67, 258, 259, 260, 261, 262, 263, 264, 265, 72, 266, 617, 618, 619, 620, 621, 622, 623, 624, 625, 626, 627, 628, 629, 630, 631, 632, 633] (by decide +kernel) (by decide +kernel)
set_option maxRecDepth 20000 in
theorem gL_law_X5_plainLongest : GoodIn wsL_law (wsV RL 159 RX5 yX5_plainLongest wsX5_plainLongest) := goodIn_app (goodIn_of _ (by decide +kernel)) ggL_law_X5_plainLongest
theorem dL_law_0 : decode cL_law 0 = .ok (.new 8, 3) := by decide +kernel
theorem dL_law_3 : decode cL_law 3 = .ok (.dup, 1) := by decide +kernel
theorem dL_law_4 : decode cL_law 4 = .ok (.invokespecial 60, 3) := by decide +kernel
theorem dL_law_7 : decode cL_law 7 = .ok (.astore_n 1, 1) := by decide +kernel
theorem dL_law_8 : decode cL_law 8 = .ok (.new 61, 3) := by decide +kernel
theorem dL_law_11 : decode cL_law 11 = .ok (.dup, 1) := by decide +kernel
theorem dL_law_12 : decode cL_law 12 = .ok (.invokespecial 63, 3) := by decide +kernel
theorem dL_law_15 : decode cL_law 15 = .ok (.astore_n 2, 1) := by decide +kernel
theorem dL_law_16 : decode cL_law 16 = .ok (.iconst 1, 1) := by decide +kernel
theorem dL_law_17 : decode cL_law 17 = .ok (.newarray .long, 2) := by decide +kernel
theorem dL_law_19 : decode cL_law 19 = .ok (.astore_n 3, 1) := by decide +kernel
theorem dL_law_20 : decode cL_law 20 = .ok (.iconst 0, 1) := by decide +kernel
theorem dL_law_21 : decode cL_law 21 = .ok (.istore 4, 2) := by decide +kernel
theorem dL_law_23 : decode cL_law 23 = .ok (.iload 4, 2) := by decide +kernel
theorem dL_law_25 : decode cL_law 25 = .ok (.aload_n 0, 1) := by decide +kernel
theorem dL_law_26 : decode cL_law 26 = .ok (.arraylength, 1) := by decide +kernel
theorem dL_law_27 : decode cL_law 27 = .ok (.iconst 3, 1) := by decide +kernel
theorem dL_law_28 : decode cL_law 28 = .ok (.isub, 1) := by decide +kernel
theorem dL_law_29 : decode cL_law 29 = .ok (.if_icmp .gt 1096, 3) := by decide +kernel
theorem dL_law_32 : decode cL_law 32 = .ok (.aload_n 0, 1) := by decide +kernel
theorem dL_law_33 : decode cL_law 33 = .ok (.iload 4, 2) := by decide +kernel
theorem dL_law_35 : decode cL_law 35 = .ok (.iaload, 1) := by decide +kernel
theorem dL_law_36 : decode cL_law 36 = .ok (.bipush 31, 2) := by decide +kernel
theorem dL_law_38 : decode cL_law 38 = .ok (.iand, 1) := by decide +kernel
theorem dL_law_39 : decode cL_law 39 = .ok (.tableswitch 1080 0 24 #[113, 149, 217, 242, 267, 280, 293, 306, 350, 413, 469, 525, 581, 606, 662, 718, 786, 854, 922, 935, 948, 973, 998, 1054, 1067], 113) := by decide +kernel
theorem dL_law_152 : decode cL_law 152 = .ok (.aload_n 1, 1) := by decide +kernel
theorem dL_law_153 : decode cL_law 153 = .ok (.aload_n 0, 1) := by decide +kernel
theorem dL_law_154 : decode cL_law 154 = .ok (.iload 4, 2) := by decide +kernel
theorem dL_law_156 : decode cL_law 156 = .ok (.iconst 1, 1) := by decide +kernel
theorem dL_law_157 : decode cL_law 157 = .ok (.iadd, 1) := by decide +kernel
theorem dL_law_158 : decode cL_law 158 = .ok (.iaload, 1) := by decide +kernel
theorem dL_law_159 : decode cL_law 159 = .ok (.invokestatic 64, 3) := by decide +kernel
theorem dL_law_162 : decode cL_law 162 = .ok (.istore 5, 2) := by decide +kernel
theorem dL_law_164 : decode cL_law 164 = .ok (.aload_n 2, 1) := by decide +kernel
theorem dL_law_165 : decode cL_law 165 = .ok (.aload_n 0, 1) := by decide +kernel
theorem dL_law_166 : decode cL_law 166 = .ok (.iload 4, 2) := by decide +kernel
theorem dL_law_168 : decode cL_law 168 = .ok (.iconst 1, 1) := by decide +kernel
theorem dL_law_169 : decode cL_law 169 = .ok (.iadd, 1) := by decide +kernel
theorem dL_law_170 : decode cL_law 170 = .ok (.iaload, 1) := by decide +kernel
theorem dL_law_171 : decode cL_law 171 = .ok (.invokevirtual 69, 3) := by decide +kernel
theorem dL_law_174 : decode cL_law 174 = .ok (.aload_n 2, 1) := by decide +kernel
theorem dL_law_175 : decode cL_law 175 = .ok (.invokevirtual 70, 3) := by decide +kernel
theorem dL_law_178 : decode cL_law 178 = .ok (.iload 5, 2) := by decide +kernel
theorem dL_law_180 : decode cL_law 180 = .ok (.if_icmp .eq 5, 3) := by decide +kernel
theorem dL_law_183 : decode cL_law 183 = .ok (.iconst 0, 1) := by decide +kernel
theorem dL_law_184 : decode cL_law 184 = .ok (.ireturn, 1) := by decide +kernel
theorem dL_law_185 : decode cL_law 185 = .ok (.goto 934, 3) := by decide +kernel
theorem dL_law_188 : decode cL_law 188 = .ok (.aload_n 1, 1) := by decide +kernel
theorem dL_law_189 : decode cL_law 189 = .ok (.aload_n 0, 1) := by decide +kernel
theorem dL_law_190 : decode cL_law 190 = .ok (.iload 4, 2) := by decide +kernel
theorem dL_law_192 : decode cL_law 192 = .ok (.iconst 1, 1) := by decide +kernel
theorem dL_law_193 : decode cL_law 193 = .ok (.iadd, 1) := by decide +kernel
theorem dL_law_194 : decode cL_law 194 = .ok (.iaload, 1) := by decide +kernel
theorem dL_law_195 : decode cL_law 195 = .ok (.aload_n 0, 1) := by decide +kernel
theorem dL_law_196 : decode cL_law 196 = .ok (.iload 4, 2) := by decide +kernel
theorem dL_law_198 : decode cL_law 198 = .ok (.iconst 2, 1) := by decide +kernel
theorem dL_law_199 : decode cL_law 199 = .ok (.iadd, 1) := by decide +kernel
theorem dL_law_200 : decode cL_law 200 = .ok (.iaload, 1) := by decide +kernel
theorem dL_law_201 : decode cL_law 201 = .ok (.aload_n 3, 1) := by decide +kernel
theorem dL_law_202 : decode cL_law 202 = .ok (.invokestatic 73, 3) := by decide +kernel
theorem dL_law_205 : decode cL_law 205 = .ok (.istore 5, 2) := by decide +kernel
theorem dL_law_207 : decode cL_law 207 = .ok (.aload_n 2, 1) := by decide +kernel
theorem dL_law_208 : decode cL_law 208 = .ok (.aload_n 0, 1) := by decide +kernel
theorem dL_law_209 : decode cL_law 209 = .ok (.iload 4, 2) := by decide +kernel
theorem dL_law_211 : decode cL_law 211 = .ok (.iconst 1, 1) := by decide +kernel
theorem dL_law_212 : decode cL_law 212 = .ok (.iadd, 1) := by decide +kernel
theorem dL_law_213 : decode cL_law 213 = .ok (.iaload, 1) := by decide +kernel
theorem dL_law_214 : decode cL_law 214 = .ok (.aload_n 0, 1) := by decide +kernel
theorem dL_law_215 : decode cL_law 215 = .ok (.iload 4, 2) := by decide +kernel
theorem dL_law_217 : decode cL_law 217 = .ok (.iconst 2, 1) := by decide +kernel
theorem dL_law_218 : decode cL_law 218 = .ok (.iadd, 1) := by decide +kernel
theorem dL_law_219 : decode cL_law 219 = .ok (.iaload, 1) := by decide +kernel
theorem dL_law_220 : decode cL_law 220 = .ok (.invokevirtual 76, 3) := by decide +kernel
theorem dL_law_223 : decode cL_law 223 = .ok (.istore 6, 2) := by decide +kernel
theorem dL_law_225 : decode cL_law 225 = .ok (.aload_n 2, 1) := by decide +kernel
theorem dL_law_226 : decode cL_law 226 = .ok (.invokevirtual 70, 3) := by decide +kernel
theorem dL_law_229 : decode cL_law 229 = .ok (.iload 5, 2) := by decide +kernel
theorem dL_law_231 : decode cL_law 231 = .ok (.if_icmp .eq 5, 3) := by decide +kernel
theorem dL_law_234 : decode cL_law 234 = .ok (.iconst 0, 1) := by decide +kernel
theorem dL_law_235 : decode cL_law 235 = .ok (.ireturn, 1) := by decide +kernel
theorem dL_law_236 : decode cL_law 236 = .ok (.iload 5, 2) := by decide +kernel
theorem dL_law_238 : decode cL_law 238 = .ok (.ifCond .ne 15, 3) := by decide +kernel
theorem dL_law_241 : decode cL_law 241 = .ok (.aload_n 3, 1) := by decide +kernel
theorem dL_law_242 : decode cL_law 242 = .ok (.iconst 0, 1) := by decide +kernel
theorem dL_law_243 : decode cL_law 243 = .ok (.laload, 1) := by decide +kernel
theorem dL_law_244 : decode cL_law 244 = .ok (.iload 6, 2) := by decide +kernel
theorem dL_law_246 : decode cL_law 246 = .ok (.i2l, 1) := by decide +kernel
theorem dL_law_247 : decode cL_law 247 = .ok (.lcmp, 1) := by decide +kernel
theorem dL_law_248 : decode cL_law 248 = .ok (.ifCond .eq 5, 3) := by decide +kernel
theorem dL_law_251 : decode cL_law 251 = .ok (.iconst 0, 1) := by decide +kernel
theorem dL_law_252 : decode cL_law 252 = .ok (.ireturn, 1) := by decide +kernel
theorem dL_law_253 : decode cL_law 253 = .ok (.goto 866, 3) := by decide +kernel
theorem dL_law_256 : decode cL_law 256 = .ok (.aload_n 1, 1) := by decide +kernel
theorem dL_law_257 : decode cL_law 257 = .ok (.aload_n 0, 1) := by decide +kernel
theorem dL_law_258 : decode cL_law 258 = .ok (.iload 4, 2) := by decide +kernel
theorem dL_law_260 : decode cL_law 260 = .ok (.iconst 1, 1) := by decide +kernel
theorem dL_law_261 : decode cL_law 261 = .ok (.iadd, 1) := by decide +kernel
theorem dL_law_262 : decode cL_law 262 = .ok (.iaload, 1) := by decide +kernel
theorem dL_law_263 : decode cL_law 263 = .ok (.invokevirtual 77, 3) := by decide +kernel
theorem dL_law_266 : decode cL_law 266 = .ok (.aload_n 2, 1) := by decide +kernel
theorem dL_law_267 : decode cL_law 267 = .ok (.aload_n 0, 1) := by decide +kernel
theorem dL_law_268 : decode cL_law 268 = .ok (.iload 4, 2) := by decide +kernel
theorem dL_law_270 : decode cL_law 270 = .ok (.iconst 1, 1) := by decide +kernel
theorem dL_law_271 : decode cL_law 271 = .ok (.iadd, 1) := by decide +kernel
theorem dL_law_272 : decode cL_law 272 = .ok (.iaload, 1) := by decide +kernel
theorem dL_law_273 : decode cL_law 273 = .ok (.invokevirtual 80, 3) := by decide +kernel
theorem dL_law_276 : decode cL_law 276 = .ok (.if_icmp .eq 843, 3) := by decide +kernel
theorem dL_law_279 : decode cL_law 279 = .ok (.iconst 0, 1) := by decide +kernel
theorem dL_law_280 : decode cL_law 280 = .ok (.ireturn, 1) := by decide +kernel
theorem dL_law_281 : decode cL_law 281 = .ok (.aload_n 1, 1) := by decide +kernel
theorem dL_law_282 : decode cL_law 282 = .ok (.aload_n 0, 1) := by decide +kernel
theorem dL_law_283 : decode cL_law 283 = .ok (.iload 4, 2) := by decide +kernel
theorem dL_law_285 : decode cL_law 285 = .ok (.iconst 1, 1) := by decide +kernel
theorem dL_law_286 : decode cL_law 286 = .ok (.iadd, 1) := by decide +kernel
theorem dL_law_287 : decode cL_law 287 = .ok (.iaload, 1) := by decide +kernel
theorem dL_law_288 : decode cL_law 288 = .ok (.invokevirtual 81, 3) := by decide +kernel
theorem dL_law_291 : decode cL_law 291 = .ok (.aload_n 2, 1) := by decide +kernel
theorem dL_law_292 : decode cL_law 292 = .ok (.aload_n 0, 1) := by decide +kernel
theorem dL_law_293 : decode cL_law 293 = .ok (.iload 4, 2) := by decide +kernel
theorem dL_law_295 : decode cL_law 295 = .ok (.iconst 1, 1) := by decide +kernel
theorem dL_law_296 : decode cL_law 296 = .ok (.iadd, 1) := by decide +kernel
theorem dL_law_297 : decode cL_law 297 = .ok (.iaload, 1) := by decide +kernel
theorem dL_law_298 : decode cL_law 298 = .ok (.invokevirtual 84, 3) := by decide +kernel
theorem dL_law_301 : decode cL_law 301 = .ok (.if_icmp .eq 818, 3) := by decide +kernel
theorem dL_law_304 : decode cL_law 304 = .ok (.iconst 0, 1) := by decide +kernel
theorem dL_law_305 : decode cL_law 305 = .ok (.ireturn, 1) := by decide +kernel
theorem dL_law_306 : decode cL_law 306 = .ok (.aload_n 1, 1) := by decide +kernel
theorem dL_law_307 : decode cL_law 307 = .ok (.invokevirtual 85, 3) := by decide +kernel
theorem dL_law_310 : decode cL_law 310 = .ok (.aload_n 2, 1) := by decide +kernel
theorem dL_law_311 : decode cL_law 311 = .ok (.invokevirtual 88, 3) := by decide +kernel
theorem dL_law_314 : decode cL_law 314 = .ok (.if_icmp .eq 805, 3) := by decide +kernel
theorem dL_law_317 : decode cL_law 317 = .ok (.iconst 0, 1) := by decide +kernel
theorem dL_law_318 : decode cL_law 318 = .ok (.ireturn, 1) := by decide +kernel
theorem dL_law_319 : decode cL_law 319 = .ok (.aload_n 1, 1) := by decide +kernel
theorem dL_law_320 : decode cL_law 320 = .ok (.invokevirtual 89, 3) := by decide +kernel
theorem dL_law_323 : decode cL_law 323 = .ok (.aload_n 2, 1) := by decide +kernel
theorem dL_law_324 : decode cL_law 324 = .ok (.invokevirtual 92, 3) := by decide +kernel
theorem dL_law_327 : decode cL_law 327 = .ok (.if_icmp .eq 792, 3) := by decide +kernel
theorem dL_law_330 : decode cL_law 330 = .ok (.iconst 0, 1) := by decide +kernel
theorem dL_law_331 : decode cL_law 331 = .ok (.ireturn, 1) := by decide +kernel
theorem dL_law_332 : decode cL_law 332 = .ok (.aload_n 1, 1) := by decide +kernel
theorem dL_law_333 : decode cL_law 333 = .ok (.invokevirtual 93, 3) := by decide +kernel
theorem dL_law_336 : decode cL_law 336 = .ok (.aload_n 2, 1) := by decide +kernel
theorem dL_law_337 : decode cL_law 337 = .ok (.invokevirtual 96, 3) := by decide +kernel
theorem dL_law_340 : decode cL_law 340 = .ok (.if_icmp .eq 779, 3) := by decide +kernel
theorem dL_law_343 : decode cL_law 343 = .ok (.iconst 0, 1) := by decide +kernel
theorem dL_law_344 : decode cL_law 344 = .ok (.ireturn, 1) := by decide +kernel
theorem dL_law_345 : decode cL_law 345 = .ok (.aload_n 1, 1) := by decide +kernel
theorem dL_law_346 : decode cL_law 346 = .ok (.aload_n 3, 1) := by decide +kernel
theorem dL_law_347 : decode cL_law 347 = .ok (.invokestatic 97, 3) := by decide +kernel
theorem dL_law_350 : decode cL_law 350 = .ok (.istore 5, 2) := by decide +kernel
theorem dL_law_352 : decode cL_law 352 = .ok (.aload_n 2, 1) := by decide +kernel
theorem dL_law_353 : decode cL_law 353 = .ok (.invokevirtual 100, 3) := by decide +kernel
theorem dL_law_356 : decode cL_law 356 = .ok (.istore 6, 2) := by decide +kernel
theorem dL_law_358 : decode cL_law 358 = .ok (.aload_n 2, 1) := by decide +kernel
theorem dL_law_359 : decode cL_law 359 = .ok (.invokevirtual 70, 3) := by decide +kernel
theorem dL_law_362 : decode cL_law 362 = .ok (.iload 5, 2) := by decide +kernel
theorem dL_law_364 : decode cL_law 364 = .ok (.if_icmp .eq 5, 3) := by decide +kernel
theorem dL_law_367 : decode cL_law 367 = .ok (.iconst 0, 1) := by decide +kernel
theorem dL_law_368 : decode cL_law 368 = .ok (.ireturn, 1) := by decide +kernel
theorem dL_law_369 : decode cL_law 369 = .ok (.iload 5, 2) := by decide +kernel
theorem dL_law_371 : decode cL_law 371 = .ok (.ifCond .ne 15, 3) := by decide +kernel
theorem dL_law_374 : decode cL_law 374 = .ok (.aload_n 3, 1) := by decide +kernel
theorem dL_law_375 : decode cL_law 375 = .ok (.iconst 0, 1) := by decide +kernel
theorem dL_law_376 : decode cL_law 376 = .ok (.laload, 1) := by decide +kernel
theorem dL_law_377 : decode cL_law 377 = .ok (.iload 6, 2) := by decide +kernel
theorem dL_law_379 : decode cL_law 379 = .ok (.i2l, 1) := by decide +kernel
theorem dL_law_380 : decode cL_law 380 = .ok (.lcmp, 1) := by decide +kernel
theorem dL_law_381 : decode cL_law 381 = .ok (.ifCond .eq 5, 3) := by decide +kernel
theorem dL_law_384 : decode cL_law 384 = .ok (.iconst 0, 1) := by decide +kernel
theorem dL_law_385 : decode cL_law 385 = .ok (.ireturn, 1) := by decide +kernel
theorem dL_law_386 : decode cL_law 386 = .ok (.goto 733, 3) := by decide +kernel
theorem dL_law_389 : decode cL_law 389 = .ok (.aload_n 1, 1) := by decide +kernel
theorem dL_law_390 : decode cL_law 390 = .ok (.aload_n 0, 1) := by decide +kernel
theorem dL_law_391 : decode cL_law 391 = .ok (.iload 4, 2) := by decide +kernel
theorem dL_law_393 : decode cL_law 393 = .ok (.iconst 1, 1) := by decide +kernel
theorem dL_law_394 : decode cL_law 394 = .ok (.iadd, 1) := by decide +kernel
theorem dL_law_395 : decode cL_law 395 = .ok (.iaload, 1) := by decide +kernel
theorem dL_law_396 : decode cL_law 396 = .ok (.aload_n 3, 1) := by decide +kernel
theorem dL_law_397 : decode cL_law 397 = .ok (.invokestatic 101, 3) := by decide +kernel
theorem dL_law_400 : decode cL_law 400 = .ok (.istore 5, 2) := by decide +kernel
theorem dL_law_402 : decode cL_law 402 = .ok (.aload_n 2, 1) := by decide +kernel
theorem dL_law_403 : decode cL_law 403 = .ok (.aload_n 0, 1) := by decide +kernel
theorem dL_law_404 : decode cL_law 404 = .ok (.iload 4, 2) := by decide +kernel
theorem dL_law_406 : decode cL_law 406 = .ok (.iconst 1, 1) := by decide +kernel
theorem dL_law_407 : decode cL_law 407 = .ok (.iadd, 1) := by decide +kernel
theorem dL_law_408 : decode cL_law 408 = .ok (.iaload, 1) := by decide +kernel
theorem dL_law_409 : decode cL_law 409 = .ok (.invokevirtual 104, 3) := by decide +kernel
theorem dL_law_412 : decode cL_law 412 = .ok (.istore 6, 2) := by decide +kernel
theorem dL_law_414 : decode cL_law 414 = .ok (.aload_n 2, 1) := by decide +kernel
theorem dL_law_415 : decode cL_law 415 = .ok (.invokevirtual 70, 3) := by decide +kernel
theorem dL_law_418 : decode cL_law 418 = .ok (.iload 5, 2) := by decide +kernel
theorem dL_law_420 : decode cL_law 420 = .ok (.if_icmp .eq 5, 3) := by decide +kernel
theorem dL_law_423 : decode cL_law 423 = .ok (.iconst 0, 1) := by decide +kernel
theorem dL_law_424 : decode cL_law 424 = .ok (.ireturn, 1) := by decide +kernel
theorem dL_law_425 : decode cL_law 425 = .ok (.iload 5, 2) := by decide +kernel
theorem dL_law_427 : decode cL_law 427 = .ok (.ifCond .ne 22, 3) := by decide +kernel
theorem dL_law_430 : decode cL_law 430 = .ok (.aload_n 3, 1) := by decide +kernel
theorem dL_law_431 : decode cL_law 431 = .ok (.iconst 0, 1) := by decide +kernel
theorem dL_law_432 : decode cL_law 432 = .ok (.laload, 1) := by decide +kernel
theorem dL_law_433 : decode cL_law 433 = .ok (.iload 6, 2) := by decide +kernel
theorem dL_law_435 : decode cL_law 435 = .ok (.ifCond .eq 7, 3) := by decide +kernel
theorem dL_law_438 : decode cL_law 438 = .ok (.lconst 1, 1) := by decide +kernel
theorem dL_law_439 : decode cL_law 439 = .ok (.goto 4, 3) := by decide +kernel
theorem dL_law_442 : decode cL_law 442 = .ok (.lconst 0, 1) := by decide +kernel
theorem dL_law_443 : decode cL_law 443 = .ok (.lcmp, 1) := by decide +kernel
theorem dL_law_444 : decode cL_law 444 = .ok (.ifCond .eq 5, 3) := by decide +kernel
theorem dL_law_447 : decode cL_law 447 = .ok (.iconst 0, 1) := by decide +kernel
theorem dL_law_448 : decode cL_law 448 = .ok (.ireturn, 1) := by decide +kernel
theorem dL_law_449 : decode cL_law 449 = .ok (.goto 670, 3) := by decide +kernel
theorem dL_law_452 : decode cL_law 452 = .ok (.aload_n 1, 1) := by decide +kernel
theorem dL_law_453 : decode cL_law 453 = .ok (.aload_n 0, 1) := by decide +kernel
theorem dL_law_454 : decode cL_law 454 = .ok (.iload 4, 2) := by decide +kernel
theorem dL_law_456 : decode cL_law 456 = .ok (.iconst 1, 1) := by decide +kernel
theorem dL_law_457 : decode cL_law 457 = .ok (.iadd, 1) := by decide +kernel
theorem dL_law_458 : decode cL_law 458 = .ok (.iaload, 1) := by decide +kernel
theorem dL_law_459 : decode cL_law 459 = .ok (.aload_n 3, 1) := by decide +kernel
theorem dL_law_460 : decode cL_law 460 = .ok (.invokestatic 105, 3) := by decide +kernel
theorem dL_law_463 : decode cL_law 463 = .ok (.istore 5, 2) := by decide +kernel
theorem dL_law_465 : decode cL_law 465 = .ok (.aload_n 2, 1) := by decide +kernel
theorem dL_law_466 : decode cL_law 466 = .ok (.aload_n 0, 1) := by decide +kernel
theorem dL_law_467 : decode cL_law 467 = .ok (.iload 4, 2) := by decide +kernel
theorem dL_law_469 : decode cL_law 469 = .ok (.iconst 1, 1) := by decide +kernel
theorem dL_law_470 : decode cL_law 470 = .ok (.iadd, 1) := by decide +kernel
theorem dL_law_471 : decode cL_law 471 = .ok (.iaload, 1) := by decide +kernel
theorem dL_law_472 : decode cL_law 472 = .ok (.invokevirtual 107, 3) := by decide +kernel
theorem dL_law_475 : decode cL_law 475 = .ok (.istore 6, 2) := by decide +kernel
theorem dL_law_477 : decode cL_law 477 = .ok (.aload_n 2, 1) := by decide +kernel
theorem dL_law_478 : decode cL_law 478 = .ok (.invokevirtual 70, 3) := by decide +kernel
theorem dL_law_481 : decode cL_law 481 = .ok (.iload 5, 2) := by decide +kernel
theorem dL_law_483 : decode cL_law 483 = .ok (.if_icmp .eq 5, 3) := by decide +kernel
theorem dL_law_486 : decode cL_law 486 = .ok (.iconst 0, 1) := by decide +kernel
theorem dL_law_487 : decode cL_law 487 = .ok (.ireturn, 1) := by decide +kernel
theorem dL_law_488 : decode cL_law 488 = .ok (.iload 5, 2) := by decide +kernel
theorem dL_law_490 : decode cL_law 490 = .ok (.ifCond .ne 15, 3) := by decide +kernel
theorem dL_law_493 : decode cL_law 493 = .ok (.aload_n 3, 1) := by decide +kernel
theorem dL_law_494 : decode cL_law 494 = .ok (.iconst 0, 1) := by decide +kernel
theorem dL_law_495 : decode cL_law 495 = .ok (.laload, 1) := by decide +kernel
theorem dL_law_496 : decode cL_law 496 = .ok (.iload 6, 2) := by decide +kernel
theorem dL_law_498 : decode cL_law 498 = .ok (.i2l, 1) := by decide +kernel
theorem dL_law_499 : decode cL_law 499 = .ok (.lcmp, 1) := by decide +kernel
theorem dL_law_500 : decode cL_law 500 = .ok (.ifCond .eq 5, 3) := by decide +kernel
theorem dL_law_503 : decode cL_law 503 = .ok (.iconst 0, 1) := by decide +kernel
theorem dL_law_504 : decode cL_law 504 = .ok (.ireturn, 1) := by decide +kernel
theorem dL_law_505 : decode cL_law 505 = .ok (.goto 614, 3) := by decide +kernel
theorem dL_law_508 : decode cL_law 508 = .ok (.aload_n 1, 1) := by decide +kernel
theorem dL_law_509 : decode cL_law 509 = .ok (.aload_n 0, 1) := by decide +kernel
theorem dL_law_510 : decode cL_law 510 = .ok (.iload 4, 2) := by decide +kernel
theorem dL_law_512 : decode cL_law 512 = .ok (.iconst 1, 1) := by decide +kernel
theorem dL_law_513 : decode cL_law 513 = .ok (.iadd, 1) := by decide +kernel
theorem dL_law_514 : decode cL_law 514 = .ok (.iaload, 1) := by decide +kernel
theorem dL_law_515 : decode cL_law 515 = .ok (.aload_n 3, 1) := by decide +kernel
theorem dL_law_516 : decode cL_law 516 = .ok (.invokestatic 108, 3) := by decide +kernel
theorem dL_law_519 : decode cL_law 519 = .ok (.istore 5, 2) := by decide +kernel
theorem dL_law_521 : decode cL_law 521 = .ok (.aload_n 2, 1) := by decide +kernel
theorem dL_law_522 : decode cL_law 522 = .ok (.aload_n 0, 1) := by decide +kernel
theorem dL_law_523 : decode cL_law 523 = .ok (.iload 4, 2) := by decide +kernel
theorem dL_law_525 : decode cL_law 525 = .ok (.iconst 1, 1) := by decide +kernel
theorem dL_law_526 : decode cL_law 526 = .ok (.iadd, 1) := by decide +kernel
theorem dL_law_527 : decode cL_law 527 = .ok (.iaload, 1) := by decide +kernel
theorem dL_law_528 : decode cL_law 528 = .ok (.invokevirtual 110, 3) := by decide +kernel
theorem dL_law_531 : decode cL_law 531 = .ok (.istore 6, 2) := by decide +kernel
theorem dL_law_533 : decode cL_law 533 = .ok (.aload_n 2, 1) := by decide +kernel
theorem dL_law_534 : decode cL_law 534 = .ok (.invokevirtual 70, 3) := by decide +kernel
theorem dL_law_537 : decode cL_law 537 = .ok (.iload 5, 2) := by decide +kernel
theorem dL_law_539 : decode cL_law 539 = .ok (.if_icmp .eq 5, 3) := by decide +kernel
theorem dL_law_542 : decode cL_law 542 = .ok (.iconst 0, 1) := by decide +kernel
theorem dL_law_543 : decode cL_law 543 = .ok (.ireturn, 1) := by decide +kernel
theorem dL_law_544 : decode cL_law 544 = .ok (.iload 5, 2) := by decide +kernel
theorem dL_law_546 : decode cL_law 546 = .ok (.ifCond .ne 15, 3) := by decide +kernel
theorem dL_law_549 : decode cL_law 549 = .ok (.aload_n 3, 1) := by decide +kernel
theorem dL_law_550 : decode cL_law 550 = .ok (.iconst 0, 1) := by decide +kernel
theorem dL_law_551 : decode cL_law 551 = .ok (.laload, 1) := by decide +kernel
theorem dL_law_552 : decode cL_law 552 = .ok (.iload 6, 2) := by decide +kernel
theorem dL_law_554 : decode cL_law 554 = .ok (.i2l, 1) := by decide +kernel
theorem dL_law_555 : decode cL_law 555 = .ok (.lcmp, 1) := by decide +kernel
theorem dL_law_556 : decode cL_law 556 = .ok (.ifCond .eq 5, 3) := by decide +kernel
theorem dL_law_559 : decode cL_law 559 = .ok (.iconst 0, 1) := by decide +kernel
theorem dL_law_560 : decode cL_law 560 = .ok (.ireturn, 1) := by decide +kernel
theorem dL_law_561 : decode cL_law 561 = .ok (.goto 558, 3) := by decide +kernel
theorem dL_law_564 : decode cL_law 564 = .ok (.aload_n 1, 1) := by decide +kernel
theorem dL_law_565 : decode cL_law 565 = .ok (.aload_n 0, 1) := by decide +kernel
theorem dL_law_566 : decode cL_law 566 = .ok (.iload 4, 2) := by decide +kernel
theorem dL_law_568 : decode cL_law 568 = .ok (.iconst 1, 1) := by decide +kernel
theorem dL_law_569 : decode cL_law 569 = .ok (.iadd, 1) := by decide +kernel
theorem dL_law_570 : decode cL_law 570 = .ok (.iaload, 1) := by decide +kernel
theorem dL_law_571 : decode cL_law 571 = .ok (.aload_n 3, 1) := by decide +kernel
theorem dL_law_572 : decode cL_law 572 = .ok (.invokestatic 111, 3) := by decide +kernel
theorem dL_law_575 : decode cL_law 575 = .ok (.istore 5, 2) := by decide +kernel
theorem dL_law_577 : decode cL_law 577 = .ok (.aload_n 2, 1) := by decide +kernel
theorem dL_law_578 : decode cL_law 578 = .ok (.aload_n 0, 1) := by decide +kernel
theorem dL_law_579 : decode cL_law 579 = .ok (.iload 4, 2) := by decide +kernel
theorem dL_law_581 : decode cL_law 581 = .ok (.iconst 1, 1) := by decide +kernel
theorem dL_law_582 : decode cL_law 582 = .ok (.iadd, 1) := by decide +kernel
theorem dL_law_583 : decode cL_law 583 = .ok (.iaload, 1) := by decide +kernel
theorem dL_law_584 : decode cL_law 584 = .ok (.invokevirtual 113, 3) := by decide +kernel
theorem dL_law_587 : decode cL_law 587 = .ok (.istore 6, 2) := by decide +kernel
theorem dL_law_589 : decode cL_law 589 = .ok (.aload_n 2, 1) := by decide +kernel
theorem dL_law_590 : decode cL_law 590 = .ok (.invokevirtual 70, 3) := by decide +kernel
theorem dL_law_593 : decode cL_law 593 = .ok (.iload 5, 2) := by decide +kernel
theorem dL_law_595 : decode cL_law 595 = .ok (.if_icmp .eq 5, 3) := by decide +kernel
theorem dL_law_598 : decode cL_law 598 = .ok (.iconst 0, 1) := by decide +kernel
theorem dL_law_599 : decode cL_law 599 = .ok (.ireturn, 1) := by decide +kernel
theorem dL_law_600 : decode cL_law 600 = .ok (.iload 5, 2) := by decide +kernel
theorem dL_law_602 : decode cL_law 602 = .ok (.ifCond .ne 15, 3) := by decide +kernel
theorem dL_law_605 : decode cL_law 605 = .ok (.aload_n 3, 1) := by decide +kernel
theorem dL_law_606 : decode cL_law 606 = .ok (.iconst 0, 1) := by decide +kernel
theorem dL_law_607 : decode cL_law 607 = .ok (.laload, 1) := by decide +kernel
theorem dL_law_608 : decode cL_law 608 = .ok (.iload 6, 2) := by decide +kernel
theorem dL_law_610 : decode cL_law 610 = .ok (.i2l, 1) := by decide +kernel
theorem dL_law_611 : decode cL_law 611 = .ok (.lcmp, 1) := by decide +kernel
theorem dL_law_612 : decode cL_law 612 = .ok (.ifCond .eq 5, 3) := by decide +kernel
theorem dL_law_615 : decode cL_law 615 = .ok (.iconst 0, 1) := by decide +kernel
theorem dL_law_616 : decode cL_law 616 = .ok (.ireturn, 1) := by decide +kernel
theorem dL_law_617 : decode cL_law 617 = .ok (.goto 502, 3) := by decide +kernel
theorem dL_law_620 : decode cL_law 620 = .ok (.aload_n 1, 1) := by decide +kernel
theorem dL_law_621 : decode cL_law 621 = .ok (.aload_n 0, 1) := by decide +kernel
theorem dL_law_622 : decode cL_law 622 = .ok (.iload 4, 2) := by decide +kernel
theorem dL_law_624 : decode cL_law 624 = .ok (.iconst 1, 1) := by decide +kernel
theorem dL_law_625 : decode cL_law 625 = .ok (.iadd, 1) := by decide +kernel
theorem dL_law_626 : decode cL_law 626 = .ok (.iaload, 1) := by decide +kernel
theorem dL_law_627 : decode cL_law 627 = .ok (.invokevirtual 114, 3) := by decide +kernel
theorem dL_law_630 : decode cL_law 630 = .ok (.aload_n 2, 1) := by decide +kernel
theorem dL_law_631 : decode cL_law 631 = .ok (.aload_n 0, 1) := by decide +kernel
theorem dL_law_632 : decode cL_law 632 = .ok (.iload 4, 2) := by decide +kernel
theorem dL_law_634 : decode cL_law 634 = .ok (.iconst 1, 1) := by decide +kernel
theorem dL_law_635 : decode cL_law 635 = .ok (.iadd, 1) := by decide +kernel
theorem dL_law_636 : decode cL_law 636 = .ok (.iaload, 1) := by decide +kernel
theorem dL_law_637 : decode cL_law 637 = .ok (.invokevirtual 117, 3) := by decide +kernel
theorem dL_law_640 : decode cL_law 640 = .ok (.if_icmp .eq 479, 3) := by decide +kernel
theorem dL_law_643 : decode cL_law 643 = .ok (.iconst 0, 1) := by decide +kernel
theorem dL_law_644 : decode cL_law 644 = .ok (.ireturn, 1) := by decide +kernel
theorem dL_law_645 : decode cL_law 645 = .ok (.aload_n 1, 1) := by decide +kernel
theorem dL_law_646 : decode cL_law 646 = .ok (.aload_n 0, 1) := by decide +kernel
theorem dL_law_647 : decode cL_law 647 = .ok (.iload 4, 2) := by decide +kernel
theorem dL_law_649 : decode cL_law 649 = .ok (.iconst 1, 1) := by decide +kernel
theorem dL_law_650 : decode cL_law 650 = .ok (.iadd, 1) := by decide +kernel
theorem dL_law_651 : decode cL_law 651 = .ok (.iaload, 1) := by decide +kernel
theorem dL_law_652 : decode cL_law 652 = .ok (.aload_n 3, 1) := by decide +kernel
theorem dL_law_653 : decode cL_law 653 = .ok (.invokestatic 118, 3) := by decide +kernel
theorem dL_law_656 : decode cL_law 656 = .ok (.istore 5, 2) := by decide +kernel
theorem dL_law_658 : decode cL_law 658 = .ok (.aload_n 2, 1) := by decide +kernel
theorem dL_law_659 : decode cL_law 659 = .ok (.aload_n 0, 1) := by decide +kernel
theorem dL_law_660 : decode cL_law 660 = .ok (.iload 4, 2) := by decide +kernel
theorem dL_law_662 : decode cL_law 662 = .ok (.iconst 1, 1) := by decide +kernel
theorem dL_law_663 : decode cL_law 663 = .ok (.iadd, 1) := by decide +kernel
theorem dL_law_664 : decode cL_law 664 = .ok (.iaload, 1) := by decide +kernel
theorem dL_law_665 : decode cL_law 665 = .ok (.invokevirtual 120, 3) := by decide +kernel
theorem dL_law_668 : decode cL_law 668 = .ok (.istore 6, 2) := by decide +kernel
theorem dL_law_670 : decode cL_law 670 = .ok (.aload_n 2, 1) := by decide +kernel
theorem dL_law_671 : decode cL_law 671 = .ok (.invokevirtual 70, 3) := by decide +kernel
theorem dL_law_674 : decode cL_law 674 = .ok (.iload 5, 2) := by decide +kernel
theorem dL_law_676 : decode cL_law 676 = .ok (.if_icmp .eq 5, 3) := by decide +kernel
theorem dL_law_679 : decode cL_law 679 = .ok (.iconst 0, 1) := by decide +kernel
theorem dL_law_680 : decode cL_law 680 = .ok (.ireturn, 1) := by decide +kernel
theorem dL_law_681 : decode cL_law 681 = .ok (.iload 5, 2) := by decide +kernel
theorem dL_law_683 : decode cL_law 683 = .ok (.ifCond .ne 15, 3) := by decide +kernel
theorem dL_law_686 : decode cL_law 686 = .ok (.aload_n 3, 1) := by decide +kernel
theorem dL_law_687 : decode cL_law 687 = .ok (.iconst 0, 1) := by decide +kernel
theorem dL_law_688 : decode cL_law 688 = .ok (.laload, 1) := by decide +kernel
theorem dL_law_689 : decode cL_law 689 = .ok (.iload 6, 2) := by decide +kernel
theorem dL_law_691 : decode cL_law 691 = .ok (.i2l, 1) := by decide +kernel
theorem dL_law_692 : decode cL_law 692 = .ok (.lcmp, 1) := by decide +kernel
theorem dL_law_693 : decode cL_law 693 = .ok (.ifCond .eq 5, 3) := by decide +kernel
theorem dL_law_696 : decode cL_law 696 = .ok (.iconst 0, 1) := by decide +kernel
theorem dL_law_697 : decode cL_law 697 = .ok (.ireturn, 1) := by decide +kernel
theorem dL_law_698 : decode cL_law 698 = .ok (.goto 421, 3) := by decide +kernel
theorem dL_law_701 : decode cL_law 701 = .ok (.aload_n 1, 1) := by decide +kernel
theorem dL_law_702 : decode cL_law 702 = .ok (.aload_n 0, 1) := by decide +kernel
theorem dL_law_703 : decode cL_law 703 = .ok (.iload 4, 2) := by decide +kernel
theorem dL_law_705 : decode cL_law 705 = .ok (.iconst 1, 1) := by decide +kernel
theorem dL_law_706 : decode cL_law 706 = .ok (.iadd, 1) := by decide +kernel
theorem dL_law_707 : decode cL_law 707 = .ok (.iaload, 1) := by decide +kernel
theorem dL_law_708 : decode cL_law 708 = .ok (.aload_n 3, 1) := by decide +kernel
theorem dL_law_709 : decode cL_law 709 = .ok (.invokestatic 121, 3) := by decide +kernel
theorem dL_law_712 : decode cL_law 712 = .ok (.istore 5, 2) := by decide +kernel
theorem dL_law_714 : decode cL_law 714 = .ok (.aload_n 2, 1) := by decide +kernel
theorem dL_law_715 : decode cL_law 715 = .ok (.aload_n 0, 1) := by decide +kernel
theorem dL_law_716 : decode cL_law 716 = .ok (.iload 4, 2) := by decide +kernel
theorem dL_law_718 : decode cL_law 718 = .ok (.iconst 1, 1) := by decide +kernel
theorem dL_law_719 : decode cL_law 719 = .ok (.iadd, 1) := by decide +kernel
theorem dL_law_720 : decode cL_law 720 = .ok (.iaload, 1) := by decide +kernel
theorem dL_law_721 : decode cL_law 721 = .ok (.invokevirtual 123, 3) := by decide +kernel
theorem dL_law_724 : decode cL_law 724 = .ok (.istore 6, 2) := by decide +kernel
theorem dL_law_726 : decode cL_law 726 = .ok (.aload_n 2, 1) := by decide +kernel
theorem dL_law_727 : decode cL_law 727 = .ok (.invokevirtual 70, 3) := by decide +kernel
theorem dL_law_730 : decode cL_law 730 = .ok (.iload 5, 2) := by decide +kernel
theorem dL_law_732 : decode cL_law 732 = .ok (.if_icmp .eq 5, 3) := by decide +kernel
theorem dL_law_735 : decode cL_law 735 = .ok (.iconst 0, 1) := by decide +kernel
theorem dL_law_736 : decode cL_law 736 = .ok (.ireturn, 1) := by decide +kernel
theorem dL_law_737 : decode cL_law 737 = .ok (.iload 5, 2) := by decide +kernel
theorem dL_law_739 : decode cL_law 739 = .ok (.ifCond .ne 15, 3) := by decide +kernel
theorem dL_law_742 : decode cL_law 742 = .ok (.aload_n 3, 1) := by decide +kernel
theorem dL_law_743 : decode cL_law 743 = .ok (.iconst 0, 1) := by decide +kernel
theorem dL_law_744 : decode cL_law 744 = .ok (.laload, 1) := by decide +kernel
theorem dL_law_745 : decode cL_law 745 = .ok (.iload 6, 2) := by decide +kernel
theorem dL_law_747 : decode cL_law 747 = .ok (.i2l, 1) := by decide +kernel
theorem dL_law_748 : decode cL_law 748 = .ok (.lcmp, 1) := by decide +kernel
theorem dL_law_749 : decode cL_law 749 = .ok (.ifCond .eq 5, 3) := by decide +kernel
theorem dL_law_752 : decode cL_law 752 = .ok (.iconst 0, 1) := by decide +kernel
theorem dL_law_753 : decode cL_law 753 = .ok (.ireturn, 1) := by decide +kernel
theorem dL_law_754 : decode cL_law 754 = .ok (.goto 365, 3) := by decide +kernel
theorem dL_law_757 : decode cL_law 757 = .ok (.aload_n 1, 1) := by decide +kernel
theorem dL_law_758 : decode cL_law 758 = .ok (.aload_n 0, 1) := by decide +kernel
theorem dL_law_759 : decode cL_law 759 = .ok (.iload 4, 2) := by decide +kernel
theorem dL_law_761 : decode cL_law 761 = .ok (.iconst 1, 1) := by decide +kernel
theorem dL_law_762 : decode cL_law 762 = .ok (.iadd, 1) := by decide +kernel
theorem dL_law_763 : decode cL_law 763 = .ok (.iaload, 1) := by decide +kernel
theorem dL_law_764 : decode cL_law 764 = .ok (.aload_n 0, 1) := by decide +kernel
theorem dL_law_765 : decode cL_law 765 = .ok (.iload 4, 2) := by decide +kernel
theorem dL_law_767 : decode cL_law 767 = .ok (.iconst 2, 1) := by decide +kernel
theorem dL_law_768 : decode cL_law 768 = .ok (.iadd, 1) := by decide +kernel
theorem dL_law_769 : decode cL_law 769 = .ok (.iaload, 1) := by decide +kernel
theorem dL_law_770 : decode cL_law 770 = .ok (.aload_n 3, 1) := by decide +kernel
theorem dL_law_771 : decode cL_law 771 = .ok (.invokestatic 124, 3) := by decide +kernel
theorem dL_law_774 : decode cL_law 774 = .ok (.istore 5, 2) := by decide +kernel
theorem dL_law_776 : decode cL_law 776 = .ok (.aload_n 2, 1) := by decide +kernel
theorem dL_law_777 : decode cL_law 777 = .ok (.aload_n 0, 1) := by decide +kernel
theorem dL_law_778 : decode cL_law 778 = .ok (.iload 4, 2) := by decide +kernel
theorem dL_law_780 : decode cL_law 780 = .ok (.iconst 1, 1) := by decide +kernel
theorem dL_law_781 : decode cL_law 781 = .ok (.iadd, 1) := by decide +kernel
theorem dL_law_782 : decode cL_law 782 = .ok (.iaload, 1) := by decide +kernel
theorem dL_law_783 : decode cL_law 783 = .ok (.aload_n 0, 1) := by decide +kernel
theorem dL_law_784 : decode cL_law 784 = .ok (.iload 4, 2) := by decide +kernel
theorem dL_law_786 : decode cL_law 786 = .ok (.iconst 2, 1) := by decide +kernel
theorem dL_law_787 : decode cL_law 787 = .ok (.iadd, 1) := by decide +kernel
theorem dL_law_788 : decode cL_law 788 = .ok (.iaload, 1) := by decide +kernel
theorem dL_law_789 : decode cL_law 789 = .ok (.invokevirtual 126, 3) := by decide +kernel
theorem dL_law_792 : decode cL_law 792 = .ok (.istore 6, 2) := by decide +kernel
theorem dL_law_794 : decode cL_law 794 = .ok (.aload_n 2, 1) := by decide +kernel
theorem dL_law_795 : decode cL_law 795 = .ok (.invokevirtual 70, 3) := by decide +kernel
theorem dL_law_798 : decode cL_law 798 = .ok (.iload 5, 2) := by decide +kernel
theorem dL_law_800 : decode cL_law 800 = .ok (.if_icmp .eq 5, 3) := by decide +kernel
theorem dL_law_803 : decode cL_law 803 = .ok (.iconst 0, 1) := by decide +kernel
theorem dL_law_804 : decode cL_law 804 = .ok (.ireturn, 1) := by decide +kernel
theorem dL_law_805 : decode cL_law 805 = .ok (.iload 5, 2) := by decide +kernel
theorem dL_law_807 : decode cL_law 807 = .ok (.ifCond .ne 15, 3) := by decide +kernel
theorem dL_law_810 : decode cL_law 810 = .ok (.aload_n 3, 1) := by decide +kernel
theorem dL_law_811 : decode cL_law 811 = .ok (.iconst 0, 1) := by decide +kernel
theorem dL_law_812 : decode cL_law 812 = .ok (.laload, 1) := by decide +kernel
theorem dL_law_813 : decode cL_law 813 = .ok (.iload 6, 2) := by decide +kernel
theorem dL_law_815 : decode cL_law 815 = .ok (.i2l, 1) := by decide +kernel
theorem dL_law_816 : decode cL_law 816 = .ok (.lcmp, 1) := by decide +kernel
theorem dL_law_817 : decode cL_law 817 = .ok (.ifCond .eq 5, 3) := by decide +kernel
theorem dL_law_820 : decode cL_law 820 = .ok (.iconst 0, 1) := by decide +kernel
theorem dL_law_821 : decode cL_law 821 = .ok (.ireturn, 1) := by decide +kernel
theorem dL_law_822 : decode cL_law 822 = .ok (.goto 297, 3) := by decide +kernel
theorem dL_law_825 : decode cL_law 825 = .ok (.aload_n 1, 1) := by decide +kernel
theorem dL_law_826 : decode cL_law 826 = .ok (.aload_n 0, 1) := by decide +kernel
theorem dL_law_827 : decode cL_law 827 = .ok (.iload 4, 2) := by decide +kernel
theorem dL_law_829 : decode cL_law 829 = .ok (.iconst 1, 1) := by decide +kernel
theorem dL_law_830 : decode cL_law 830 = .ok (.iadd, 1) := by decide +kernel
theorem dL_law_831 : decode cL_law 831 = .ok (.iaload, 1) := by decide +kernel
theorem dL_law_832 : decode cL_law 832 = .ok (.aload_n 0, 1) := by decide +kernel
theorem dL_law_833 : decode cL_law 833 = .ok (.iload 4, 2) := by decide +kernel
theorem dL_law_835 : decode cL_law 835 = .ok (.iconst 2, 1) := by decide +kernel
theorem dL_law_836 : decode cL_law 836 = .ok (.iadd, 1) := by decide +kernel
theorem dL_law_837 : decode cL_law 837 = .ok (.iaload, 1) := by decide +kernel
theorem dL_law_838 : decode cL_law 838 = .ok (.aload_n 3, 1) := by decide +kernel
theorem dL_law_839 : decode cL_law 839 = .ok (.invokestatic 127, 3) := by decide +kernel
theorem dL_law_842 : decode cL_law 842 = .ok (.istore 5, 2) := by decide +kernel
theorem dL_law_844 : decode cL_law 844 = .ok (.aload_n 2, 1) := by decide +kernel
theorem dL_law_845 : decode cL_law 845 = .ok (.aload_n 0, 1) := by decide +kernel
theorem dL_law_846 : decode cL_law 846 = .ok (.iload 4, 2) := by decide +kernel
theorem dL_law_848 : decode cL_law 848 = .ok (.iconst 1, 1) := by decide +kernel
theorem dL_law_849 : decode cL_law 849 = .ok (.iadd, 1) := by decide +kernel
theorem dL_law_850 : decode cL_law 850 = .ok (.iaload, 1) := by decide +kernel
theorem dL_law_851 : decode cL_law 851 = .ok (.aload_n 0, 1) := by decide +kernel
theorem dL_law_852 : decode cL_law 852 = .ok (.iload 4, 2) := by decide +kernel
theorem dL_law_854 : decode cL_law 854 = .ok (.iconst 2, 1) := by decide +kernel
theorem dL_law_855 : decode cL_law 855 = .ok (.iadd, 1) := by decide +kernel
theorem dL_law_856 : decode cL_law 856 = .ok (.iaload, 1) := by decide +kernel
theorem dL_law_857 : decode cL_law 857 = .ok (.invokevirtual 129, 3) := by decide +kernel
theorem dL_law_860 : decode cL_law 860 = .ok (.istore 6, 2) := by decide +kernel
theorem dL_law_862 : decode cL_law 862 = .ok (.aload_n 2, 1) := by decide +kernel
theorem dL_law_863 : decode cL_law 863 = .ok (.invokevirtual 70, 3) := by decide +kernel
theorem dL_law_866 : decode cL_law 866 = .ok (.iload 5, 2) := by decide +kernel
theorem dL_law_868 : decode cL_law 868 = .ok (.if_icmp .eq 5, 3) := by decide +kernel
theorem dL_law_871 : decode cL_law 871 = .ok (.iconst 0, 1) := by decide +kernel
theorem dL_law_872 : decode cL_law 872 = .ok (.ireturn, 1) := by decide +kernel
theorem dL_law_873 : decode cL_law 873 = .ok (.iload 5, 2) := by decide +kernel
theorem dL_law_875 : decode cL_law 875 = .ok (.ifCond .ne 15, 3) := by decide +kernel
theorem dL_law_878 : decode cL_law 878 = .ok (.aload_n 3, 1) := by decide +kernel
theorem dL_law_879 : decode cL_law 879 = .ok (.iconst 0, 1) := by decide +kernel
theorem dL_law_880 : decode cL_law 880 = .ok (.laload, 1) := by decide +kernel
theorem dL_law_881 : decode cL_law 881 = .ok (.iload 6, 2) := by decide +kernel
theorem dL_law_883 : decode cL_law 883 = .ok (.i2l, 1) := by decide +kernel
theorem dL_law_884 : decode cL_law 884 = .ok (.lcmp, 1) := by decide +kernel
theorem dL_law_885 : decode cL_law 885 = .ok (.ifCond .eq 5, 3) := by decide +kernel
theorem dL_law_888 : decode cL_law 888 = .ok (.iconst 0, 1) := by decide +kernel
theorem dL_law_889 : decode cL_law 889 = .ok (.ireturn, 1) := by decide +kernel
theorem dL_law_890 : decode cL_law 890 = .ok (.goto 229, 3) := by decide +kernel
theorem dL_law_893 : decode cL_law 893 = .ok (.aload_n 1, 1) := by decide +kernel
theorem dL_law_894 : decode cL_law 894 = .ok (.aload_n 0, 1) := by decide +kernel
theorem dL_law_895 : decode cL_law 895 = .ok (.iload 4, 2) := by decide +kernel
theorem dL_law_897 : decode cL_law 897 = .ok (.iconst 1, 1) := by decide +kernel
theorem dL_law_898 : decode cL_law 898 = .ok (.iadd, 1) := by decide +kernel
theorem dL_law_899 : decode cL_law 899 = .ok (.iaload, 1) := by decide +kernel
theorem dL_law_900 : decode cL_law 900 = .ok (.aload_n 0, 1) := by decide +kernel
theorem dL_law_901 : decode cL_law 901 = .ok (.iload 4, 2) := by decide +kernel
theorem dL_law_903 : decode cL_law 903 = .ok (.iconst 2, 1) := by decide +kernel
theorem dL_law_904 : decode cL_law 904 = .ok (.iadd, 1) := by decide +kernel
theorem dL_law_905 : decode cL_law 905 = .ok (.iaload, 1) := by decide +kernel
theorem dL_law_906 : decode cL_law 906 = .ok (.aload_n 3, 1) := by decide +kernel
theorem dL_law_907 : decode cL_law 907 = .ok (.invokestatic 130, 3) := by decide +kernel
theorem dL_law_910 : decode cL_law 910 = .ok (.istore 5, 2) := by decide +kernel
theorem dL_law_912 : decode cL_law 912 = .ok (.aload_n 2, 1) := by decide +kernel
theorem dL_law_913 : decode cL_law 913 = .ok (.aload_n 0, 1) := by decide +kernel
theorem dL_law_914 : decode cL_law 914 = .ok (.iload 4, 2) := by decide +kernel
theorem dL_law_916 : decode cL_law 916 = .ok (.iconst 1, 1) := by decide +kernel
theorem dL_law_917 : decode cL_law 917 = .ok (.iadd, 1) := by decide +kernel
theorem dL_law_918 : decode cL_law 918 = .ok (.iaload, 1) := by decide +kernel
theorem dL_law_919 : decode cL_law 919 = .ok (.aload_n 0, 1) := by decide +kernel
theorem dL_law_920 : decode cL_law 920 = .ok (.iload 4, 2) := by decide +kernel
theorem dL_law_922 : decode cL_law 922 = .ok (.iconst 2, 1) := by decide +kernel
theorem dL_law_923 : decode cL_law 923 = .ok (.iadd, 1) := by decide +kernel
theorem dL_law_924 : decode cL_law 924 = .ok (.iaload, 1) := by decide +kernel
theorem dL_law_925 : decode cL_law 925 = .ok (.invokevirtual 132, 3) := by decide +kernel
theorem dL_law_928 : decode cL_law 928 = .ok (.istore 6, 2) := by decide +kernel
theorem dL_law_930 : decode cL_law 930 = .ok (.aload_n 2, 1) := by decide +kernel
theorem dL_law_931 : decode cL_law 931 = .ok (.invokevirtual 70, 3) := by decide +kernel
theorem dL_law_934 : decode cL_law 934 = .ok (.iload 5, 2) := by decide +kernel
theorem dL_law_936 : decode cL_law 936 = .ok (.if_icmp .eq 5, 3) := by decide +kernel
theorem dL_law_939 : decode cL_law 939 = .ok (.iconst 0, 1) := by decide +kernel
theorem dL_law_940 : decode cL_law 940 = .ok (.ireturn, 1) := by decide +kernel
theorem dL_law_941 : decode cL_law 941 = .ok (.iload 5, 2) := by decide +kernel
theorem dL_law_943 : decode cL_law 943 = .ok (.ifCond .ne 15, 3) := by decide +kernel
theorem dL_law_946 : decode cL_law 946 = .ok (.aload_n 3, 1) := by decide +kernel
theorem dL_law_947 : decode cL_law 947 = .ok (.iconst 0, 1) := by decide +kernel
theorem dL_law_948 : decode cL_law 948 = .ok (.laload, 1) := by decide +kernel
theorem dL_law_949 : decode cL_law 949 = .ok (.iload 6, 2) := by decide +kernel
theorem dL_law_951 : decode cL_law 951 = .ok (.i2l, 1) := by decide +kernel
theorem dL_law_952 : decode cL_law 952 = .ok (.lcmp, 1) := by decide +kernel
theorem dL_law_953 : decode cL_law 953 = .ok (.ifCond .eq 5, 3) := by decide +kernel
theorem dL_law_956 : decode cL_law 956 = .ok (.iconst 0, 1) := by decide +kernel
theorem dL_law_957 : decode cL_law 957 = .ok (.ireturn, 1) := by decide +kernel
theorem dL_law_958 : decode cL_law 958 = .ok (.goto 161, 3) := by decide +kernel
theorem dL_law_961 : decode cL_law 961 = .ok (.aload_n 1, 1) := by decide +kernel
theorem dL_law_962 : decode cL_law 962 = .ok (.invokevirtual 133, 3) := by decide +kernel
theorem dL_law_965 : decode cL_law 965 = .ok (.aload_n 2, 1) := by decide +kernel
theorem dL_law_966 : decode cL_law 966 = .ok (.invokevirtual 136, 3) := by decide +kernel
theorem dL_law_969 : decode cL_law 969 = .ok (.if_icmp .eq 150, 3) := by decide +kernel
theorem dL_law_972 : decode cL_law 972 = .ok (.iconst 0, 1) := by decide +kernel
theorem dL_law_973 : decode cL_law 973 = .ok (.ireturn, 1) := by decide +kernel
theorem dL_law_974 : decode cL_law 974 = .ok (.aload_n 1, 1) := by decide +kernel
theorem dL_law_975 : decode cL_law 975 = .ok (.invokevirtual 137, 3) := by decide +kernel
theorem dL_law_978 : decode cL_law 978 = .ok (.aload_n 2, 1) := by decide +kernel
theorem dL_law_979 : decode cL_law 979 = .ok (.invokevirtual 140, 3) := by decide +kernel
theorem dL_law_982 : decode cL_law 982 = .ok (.if_icmp .eq 137, 3) := by decide +kernel
theorem dL_law_985 : decode cL_law 985 = .ok (.iconst 0, 1) := by decide +kernel
theorem dL_law_986 : decode cL_law 986 = .ok (.ireturn, 1) := by decide +kernel
theorem dL_law_987 : decode cL_law 987 = .ok (.aload_n 1, 1) := by decide +kernel
theorem dL_law_988 : decode cL_law 988 = .ok (.aload_n 0, 1) := by decide +kernel
theorem dL_law_989 : decode cL_law 989 = .ok (.iload 4, 2) := by decide +kernel
theorem dL_law_991 : decode cL_law 991 = .ok (.iconst 1, 1) := by decide +kernel
theorem dL_law_992 : decode cL_law 992 = .ok (.iadd, 1) := by decide +kernel
theorem dL_law_993 : decode cL_law 993 = .ok (.iaload, 1) := by decide +kernel
theorem dL_law_994 : decode cL_law 994 = .ok (.invokevirtual 141, 3) := by decide +kernel
theorem dL_law_997 : decode cL_law 997 = .ok (.aload_n 2, 1) := by decide +kernel
theorem dL_law_998 : decode cL_law 998 = .ok (.aload_n 0, 1) := by decide +kernel
theorem dL_law_999 : decode cL_law 999 = .ok (.iload 4, 2) := by decide +kernel
theorem dL_law_1001 : decode cL_law 1001 = .ok (.iconst 1, 1) := by decide +kernel
theorem dL_law_1002 : decode cL_law 1002 = .ok (.iadd, 1) := by decide +kernel
theorem dL_law_1003 : decode cL_law 1003 = .ok (.iaload, 1) := by decide +kernel
theorem dL_law_1004 : decode cL_law 1004 = .ok (.invokevirtual 144, 3) := by decide +kernel
theorem dL_law_1007 : decode cL_law 1007 = .ok (.if_icmp .eq 112, 3) := by decide +kernel
theorem dL_law_1010 : decode cL_law 1010 = .ok (.iconst 0, 1) := by decide +kernel
theorem dL_law_1011 : decode cL_law 1011 = .ok (.ireturn, 1) := by decide +kernel
theorem dL_law_1012 : decode cL_law 1012 = .ok (.aload_n 1, 1) := by decide +kernel
theorem dL_law_1013 : decode cL_law 1013 = .ok (.aload_n 0, 1) := by decide +kernel
theorem dL_law_1014 : decode cL_law 1014 = .ok (.iload 4, 2) := by decide +kernel
theorem dL_law_1016 : decode cL_law 1016 = .ok (.iconst 1, 1) := by decide +kernel
theorem dL_law_1017 : decode cL_law 1017 = .ok (.iadd, 1) := by decide +kernel
theorem dL_law_1018 : decode cL_law 1018 = .ok (.iaload, 1) := by decide +kernel
theorem dL_law_1019 : decode cL_law 1019 = .ok (.invokevirtual 145, 3) := by decide +kernel
theorem dL_law_1022 : decode cL_law 1022 = .ok (.aload_n 2, 1) := by decide +kernel
theorem dL_law_1023 : decode cL_law 1023 = .ok (.aload_n 0, 1) := by decide +kernel
theorem dL_law_1024 : decode cL_law 1024 = .ok (.iload 4, 2) := by decide +kernel
theorem dL_law_1026 : decode cL_law 1026 = .ok (.iconst 1, 1) := by decide +kernel
theorem dL_law_1027 : decode cL_law 1027 = .ok (.iadd, 1) := by decide +kernel
theorem dL_law_1028 : decode cL_law 1028 = .ok (.iaload, 1) := by decide +kernel
theorem dL_law_1029 : decode cL_law 1029 = .ok (.invokevirtual 148, 3) := by decide +kernel
theorem dL_law_1032 : decode cL_law 1032 = .ok (.if_icmp .eq 87, 3) := by decide +kernel
theorem dL_law_1035 : decode cL_law 1035 = .ok (.iconst 0, 1) := by decide +kernel
theorem dL_law_1036 : decode cL_law 1036 = .ok (.ireturn, 1) := by decide +kernel
theorem dL_law_1037 : decode cL_law 1037 = .ok (.aload_n 1, 1) := by decide +kernel
theorem dL_law_1038 : decode cL_law 1038 = .ok (.aload_n 0, 1) := by decide +kernel
theorem dL_law_1039 : decode cL_law 1039 = .ok (.iload 4, 2) := by decide +kernel
theorem dL_law_1041 : decode cL_law 1041 = .ok (.iconst 1, 1) := by decide +kernel
theorem dL_law_1042 : decode cL_law 1042 = .ok (.iadd, 1) := by decide +kernel
theorem dL_law_1043 : decode cL_law 1043 = .ok (.iaload, 1) := by decide +kernel
theorem dL_law_1044 : decode cL_law 1044 = .ok (.aload_n 3, 1) := by decide +kernel
theorem dL_law_1045 : decode cL_law 1045 = .ok (.invokestatic 149, 3) := by decide +kernel
theorem dL_law_1048 : decode cL_law 1048 = .ok (.istore 5, 2) := by decide +kernel
theorem dL_law_1050 : decode cL_law 1050 = .ok (.aload_n 2, 1) := by decide +kernel
theorem dL_law_1051 : decode cL_law 1051 = .ok (.aload_n 0, 1) := by decide +kernel
theorem dL_law_1052 : decode cL_law 1052 = .ok (.iload 4, 2) := by decide +kernel
theorem dL_law_1054 : decode cL_law 1054 = .ok (.iconst 1, 1) := by decide +kernel
theorem dL_law_1055 : decode cL_law 1055 = .ok (.iadd, 1) := by decide +kernel
theorem dL_law_1056 : decode cL_law 1056 = .ok (.iaload, 1) := by decide +kernel
theorem dL_law_1057 : decode cL_law 1057 = .ok (.invokevirtual 151, 3) := by decide +kernel
theorem dL_law_1060 : decode cL_law 1060 = .ok (.istore 6, 2) := by decide +kernel
theorem dL_law_1062 : decode cL_law 1062 = .ok (.aload_n 2, 1) := by decide +kernel
theorem dL_law_1063 : decode cL_law 1063 = .ok (.invokevirtual 70, 3) := by decide +kernel
theorem dL_law_1066 : decode cL_law 1066 = .ok (.iload 5, 2) := by decide +kernel
theorem dL_law_1068 : decode cL_law 1068 = .ok (.if_icmp .eq 5, 3) := by decide +kernel
theorem dL_law_1071 : decode cL_law 1071 = .ok (.iconst 0, 1) := by decide +kernel
theorem dL_law_1072 : decode cL_law 1072 = .ok (.ireturn, 1) := by decide +kernel
theorem dL_law_1073 : decode cL_law 1073 = .ok (.iload 5, 2) := by decide +kernel
theorem dL_law_1075 : decode cL_law 1075 = .ok (.ifCond .ne 15, 3) := by decide +kernel
theorem dL_law_1078 : decode cL_law 1078 = .ok (.aload_n 3, 1) := by decide +kernel
theorem dL_law_1079 : decode cL_law 1079 = .ok (.iconst 0, 1) := by decide +kernel
theorem dL_law_1080 : decode cL_law 1080 = .ok (.laload, 1) := by decide +kernel
theorem dL_law_1081 : decode cL_law 1081 = .ok (.iload 6, 2) := by decide +kernel
theorem dL_law_1083 : decode cL_law 1083 = .ok (.i2l, 1) := by decide +kernel
theorem dL_law_1084 : decode cL_law 1084 = .ok (.lcmp, 1) := by decide +kernel
theorem dL_law_1085 : decode cL_law 1085 = .ok (.ifCond .eq 5, 3) := by decide +kernel
theorem dL_law_1088 : decode cL_law 1088 = .ok (.iconst 0, 1) := by decide +kernel
theorem dL_law_1089 : decode cL_law 1089 = .ok (.ireturn, 1) := by decide +kernel
theorem dL_law_1090 : decode cL_law 1090 = .ok (.goto 29, 3) := by decide +kernel
theorem dL_law_1093 : decode cL_law 1093 = .ok (.aload_n 1, 1) := by decide +kernel
theorem dL_law_1094 : decode cL_law 1094 = .ok (.invokevirtual 152, 3) := by decide +kernel
theorem dL_law_1097 : decode cL_law 1097 = .ok (.aload_n 2, 1) := by decide +kernel
theorem dL_law_1098 : decode cL_law 1098 = .ok (.invokevirtual 155, 3) := by decide +kernel
theorem dL_law_1101 : decode cL_law 1101 = .ok (.if_icmp .eq 18, 3) := by decide +kernel
theorem dL_law_1104 : decode cL_law 1104 = .ok (.iconst 0, 1) := by decide +kernel
theorem dL_law_1105 : decode cL_law 1105 = .ok (.ireturn, 1) := by decide +kernel
theorem dL_law_1106 : decode cL_law 1106 = .ok (.aload_n 1, 1) := by decide +kernel
theorem dL_law_1107 : decode cL_law 1107 = .ok (.invokevirtual 156, 3) := by decide +kernel
theorem dL_law_1110 : decode cL_law 1110 = .ok (.aload_n 2, 1) := by decide +kernel
theorem dL_law_1111 : decode cL_law 1111 = .ok (.invokevirtual 159, 3) := by decide +kernel
theorem dL_law_1114 : decode cL_law 1114 = .ok (.if_icmp .eq 5, 3) := by decide +kernel
theorem dL_law_1117 : decode cL_law 1117 = .ok (.iconst 0, 1) := by decide +kernel
theorem dL_law_1118 : decode cL_law 1118 = .ok (.ireturn, 1) := by decide +kernel
theorem dL_law_1119 : decode cL_law 1119 = .ok (.iinc 4 3, 3) := by decide +kernel
theorem dL_law_1122 : decode cL_law 1122 = .ok (.goto (-1099), 3) := by decide +kernel
theorem dL_law_1125 : decode cL_law 1125 = .ok (.iconst 1, 1) := by decide +kernel
theorem dL_law_1126 : decode cL_law 1126 = .ok (.ireturn, 1) := by decide +kernel
end
section
theorem zz_last : True := trivial
end
