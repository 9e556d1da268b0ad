section
/-- a private method of a class that the tables say can be made, by its rows of tables_1 -/
def lw_okq (q : MethodName × Nat) : Prop := (q.1.cls ≠ "java/lang/invoke/MethodHandle" ∧ q.1.cls ≠ "java/lang/invoke/VarHandle") ∧ Cond.instantiable q.1.cls q.2 ∈ tables_1 ∧ Cond.privateMethod q.1 ∈ tables_1 ∧ Cond.instanceMethod q.1 ∈ tables_1
theorem lw_p0 : lw_okq (⟨"java/lang/Throwable", "fillInStackTrace", "(I)Ljava/lang/Throwable;"⟩, 6) := ⟨⟨by decide +kernel, by decide +kernel⟩, List.mem_of_getElem? (i := 188) (by decide +kernel), List.mem_of_getElem? (i := 186) (by decide +kernel), List.mem_of_getElem? (i := 187) (by decide +kernel)⟩
theorem lw_p1 : lw_okq (⟨"RobinRow", "moveSlice", "()I"⟩, 7) := ⟨⟨by decide +kernel, by decide +kernel⟩, List.mem_of_getElem? (i := 14) (by decide +kernel), List.mem_of_getElem? (i := 226) (by decide +kernel), List.mem_of_getElem? (i := 227) (by decide +kernel)⟩
theorem lw_p2 : lw_okq (⟨"RobinRow", "endMoveIfOldIsEmpty", "()V"⟩, 7) := ⟨⟨by decide +kernel, by decide +kernel⟩, List.mem_of_getElem? (i := 14) (by decide +kernel), List.mem_of_getElem? (i := 270) (by decide +kernel), List.mem_of_getElem? (i := 271) (by decide +kernel)⟩
theorem lw_p3 : lw_okq (⟨"RobinRow", "tableOf", "(I)LRobinRow$Table;"⟩, 7) := ⟨⟨by decide +kernel, by decide +kernel⟩, List.mem_of_getElem? (i := 14) (by decide +kernel), List.mem_of_getElem? (i := 278) (by decide +kernel), List.mem_of_getElem? (i := 279) (by decide +kernel)⟩
theorem lw_p4 : lw_okq (⟨"RobinRow", "lookUp", "(I)V"⟩, 7) := ⟨⟨by decide +kernel, by decide +kernel⟩, List.mem_of_getElem? (i := 14) (by decide +kernel), List.mem_of_getElem? (i := 328) (by decide +kernel), List.mem_of_getElem? (i := 329) (by decide +kernel)⟩
theorem lw_p5 : lw_okq (⟨"RobinRow", "putNew", "(II)V"⟩, 7) := ⟨⟨by decide +kernel, by decide +kernel⟩, List.mem_of_getElem? (i := 14) (by decide +kernel), List.mem_of_getElem? (i := 381) (by decide +kernel), List.mem_of_getElem? (i := 382) (by decide +kernel)⟩
theorem lw_p6 : lw_okq (⟨"RobinRow", "beginMove", "()V"⟩, 7) := ⟨⟨by decide +kernel, by decide +kernel⟩, List.mem_of_getElem? (i := 14) (by decide +kernel), List.mem_of_getElem? (i := 385) (by decide +kernel), List.mem_of_getElem? (i := 386) (by decide +kernel)⟩
theorem lw_p7 : lw_okq (⟨"RobinRow", "tableWithSlot", "(II)LRobinRow$Table;"⟩, 7) := ⟨⟨by decide +kernel, by decide +kernel⟩, List.mem_of_getElem? (i := 14) (by decide +kernel), List.mem_of_getElem? (i := 410) (by decide +kernel), List.mem_of_getElem? (i := 411) (by decide +kernel)⟩
def lw_privs_1 : List (MethodName × Nat) := [(⟨"java/lang/Throwable", "fillInStackTrace", "(I)Ljava/lang/Throwable;"⟩, 6), (⟨"RobinRow", "moveSlice", "()I"⟩, 7), (⟨"RobinRow", "endMoveIfOldIsEmpty", "()V"⟩, 7), (⟨"RobinRow", "tableOf", "(I)LRobinRow$Table;"⟩, 7), (⟨"RobinRow", "lookUp", "(I)V"⟩, 7), (⟨"RobinRow", "putNew", "(II)V"⟩, 7), (⟨"RobinRow", "beginMove", "()V"⟩, 7), (⟨"RobinRow", "tableWithSlot", "(II)LRobinRow$Table;"⟩, 7)]
theorem lw_r1 : ∀ q ∈ lw_privs_1, lw_okq q := List.forall_mem_cons.mpr ⟨lw_p0, List.forall_mem_cons.mpr ⟨lw_p1, List.forall_mem_cons.mpr ⟨lw_p2, List.forall_mem_cons.mpr ⟨lw_p3, List.forall_mem_cons.mpr ⟨lw_p4, List.forall_mem_cons.mpr ⟨lw_p5, List.forall_mem_cons.mpr ⟨lw_p6, List.forall_mem_cons.mpr ⟨lw_p7, fun _ h => absurd h List.not_mem_nil⟩⟩⟩⟩⟩⟩⟩⟩
def lw_privs : List (MethodName × Nat) := lw_privs_1
def lw_tbl : List Cond := k2_sels lw_privs ++ tables_1
theorem lw_privs_ok : ∀ q ∈ lw_privs, lw_okq q := lw_r1
end
section
/-! ===== BEGIN words of one list among another's, by their places ===== -/
theorem goodIn_r {big : List Cond} (ws : List Cond) (ps : List Nat) (hp : ws = ps.filterMap (fun i => big[i]?)) (h : ws.all goodWord = true) : GoodIn big ws := by
  intro w hw
  have h1 := List.all_eq_true.mp h w hw
  rw [hp] at hw
  obtain ⟨i, -, hi⟩ := List.mem_filterMap.mp hw
  have hm : w ∈ big := by first | exact List.mem_of_getElem? hi | exact List.getElem?_mem hi
  exact ⟨hm, good_of_word h1⟩
theorem goodIn_app {big a b : List Cond} (ha : GoodIn big a) (hb : GoodIn big b) : GoodIn big (a ++ b) := fun w h => (List.mem_append.mp h).elim (ha w) (hb w)
theorem goodIn_ca {big a b : List Cond} {c : Cond} (ha : GoodIn big (c :: a)) (hb : GoodIn big b) : GoodIn big (c :: (a ++ b)) := fun w h => (List.mem_cons.mp h).elim (fun e => ha w (List.mem_cons.mpr (Or.inl e))) (fun h => (List.mem_append.mp h).elim (fun h => ha w (List.mem_cons.mpr (Or.inr h))) (hb w))
theorem goodIn_sub {big ws : List Cond} (hm : ∀ w ∈ ws, w ∈ big) (h : ws.all goodWord = true) : GoodIn big ws := fun w hw => ⟨hm w hw, good_of_word (List.all_eq_true.mp h w hw)⟩
/-! ===== END ===== -/

/-! ===== BEGIN exceptions that leave a method, and their catching by the caller (launches without stack traces) ===== -/
section VXA
/-! The laws vx_back, vx_callV, vx_callS, vx_callSW, vx_throw0, vx_throwS follow proofs of the library, with one case more: JvmDerived/Free/Laws.lean (Back.of_free), Shelf42/LK1.lean (callV, callS), Shelf/KitTraced.lean (throwNew0V, throwNewS). -/
/-- where a method has thrown q: the class by its name, the cell, what was written, the world -/
def vx_T (XC : String → State → State → Prop) (st : State) (q : Addr) (t : State) (mc ms : Nat) (free : Addr → Prop) : Prop :=
  ∃ (E : String) (ce : Cell) (L : List Loc), XC E st t ∧ t.heap[q]? = some ce ∧ ce.vm = .none ∧ st.vm.findClass E = some ce.cls ∧ st.WarmedH t.vm ∧ st.sameButNew ({ t with vm := st.vm } : State) L mc ms ∧ ∀ z ∈ L, free z.base
def vx_Q (Qc : Array Value → State → Outcome → State → Prop) (XC : String → State → State → Prop) (mc ms : Nat) (free : Addr → Prop) : Array Value → State → Outcome → State → Prop := fun a st o t =>
  (Qc a st o t ∧ ∃ L, FrameEnd st o t L mc ms ∧ ∀ q ∈ L, free q.base) ∨ ∃ q, o = .threw q ∧ vx_T XC st q t mc ms free
/-- a callee that returns or throws -/
def vx_Met (l : Launch) (y : MethodName) (ws : List Cond) (rm : Room) (Pc : Array Value → State → Prop) (Qc : Array Value → State → Outcome → State → Prop) (XC : String → State → State → Prop) (mc ms : Nat) (free : Addr → Prop) : Prop :=
  MetFree l y (headSpec ws rm) Pc (fun _ _ _ _ _ => True) (vx_Q Qc XC mc ms free)
def vx_Post (XC : String → State → State → Prop) (mc ms : Nat) (free : Addr → Prop) : Pt → Array Value → Addr → Pt → Prop := fun A a q B =>
  ∃ (g : JFrame) (mk : MethodId) (t : State) (L : List Loc) (E : String) (ce : Cell), B.U.heap = t.heap ∧ B.U.vm = t.vm ∧ XC E (A.U.calling g mk a) t ∧ t.heap[q]? = some ce ∧ ce.vm = .none ∧ A.U.vm.findClass E = some ce.cls ∧ B.locs = A.locs ++ L ∧ (∀ z ∈ L, free z.base) ∧ B.cells = A.cells + mc ∧ B.slots = A.slots + ms
def vx_Back (l : Launch) (R : Room) (p : Program) (e : Env) (below : List Frame) (s : State) (sargs : Array Value) (y : MethodName) (len W9 : Nat)
    (Pre : Pt → Array Value → Prop) (Post : Pt → Array Value → Option Value → Pt → Prop) (PostX : Pt → Array Value → Addr → Pt → Prop) : Prop :=
  ∀ (m : MethodId) (meth : Method) (c : Code) (A : Pt) (g : JFrame) (ig : Instr) (mk : MethodId) (a : Array Value),
    Stand p l e R s m sargs below meth c A.U A.locs A.cells A.slots → g.method = m → g.locals.size = c.maxLocals → decode c.code g.pc = .ok (ig, len) →
    2 * g.monitorRoom + (g.stack.map fun v => v.category).sum ≤ W9 → A.U.methodNamed? y = some mk → Pre A a →
    (∃ (v : Option Value) (B : Pt), Stand p l e R s m sargs below meth c B.U B.locs B.cells B.slots ∧ Post A a v B ∧
      Steps p.tables e below (doInvoke e (A.U.setTop g) [] mk a).1 (B.U.setTop { g with pc := g.pc + len, stack := v.toList ++ g.stack })) ∨
    (∃ (q : Addr) (B : Pt), Stand p l e R s m sargs below meth c B.U B.locs B.cells B.slots ∧ PostX A a q B ∧
      Steps p.tables e below (doInvoke e (A.U.setTop g) [] mk a).1 ((B.U.setTop g).pushFrame (.throwing q)))
section Payer
variable {l : Launch} {R : Room} {p : Program} {e : Env} {below : List Frame} {s : State} {sargs : Array Value} {y : MethodName} {len W9 : Nat}
theorem vx_back {ws : List Cond} {rm : Room} {Pc : Array Value → State → Prop} {Qc : Array Value → State → Outcome → State → Prop} {XC : String → State → State → Prop} {mc ms : Nat} {free : Addr → Prop} {bytes : ByteArray} {maxL : Nat} {ret : Option FieldType}
    (hM : vx_Met l y ws rm Pc Qc XC mc ms free) (hblind : FrameBlind Pc) (hrc : rm.cells = mc) (hrs : rm.slots = ms)
    (hframes : rm.frames + 1 ≤ R.frames) (hlocals : W9 + (maxL + 11) + rm.locals ≤ R.locals)
    (hws : ∀ w ∈ ws, ∀ a' U, s.WarmedH U.vm → w.before a' U = true) (hcode : Cond.code y bytes maxL ret ∈ ws) (hinit : ∀ a' U, s.WarmedH U.vm → (Cond.initialized y.cls).before a' U = true) :
    vx_Back l R p e below s sargs y len W9 (PreOf R mc ms Pc) (PostOf Qc mc ms free) (vx_Post XC mc ms free) := by
  intro m meth c A g ig mk a X hg hsize hdg hW hn hp
  have h1 : (headSpec ws rm).pre.before a A.U = true := atoms_intro fun w hw => hws w hw _ _ X.warmed
  have h2 : (Cond.code y bytes maxL ret).before a A.U = true := hws _ hcode _ _ X.warmed
  have h3 : (Cond.initialized y.cls).before a A.U = true := hinit _ _ X.warmed
  have h4 : A.cells + (headSpec ws rm).room.cells ≤ R.cells := by rw [show (headSpec ws rm).room.cells = mc from hrc]; exact hp.1
  have h5 : A.slots + (headSpec ws rm).room.slots ≤ R.slots := by rw [show (headSpec ws rm).room.slots = ms from hrs]; exact hp.2.1
  have hPc : Pc a (A.U.calling g mk a) := hblind _ _ _ _ hp.2.2
  obtain ⟨U, Ls, c0, s0⟩ := A
  dsimp only [Pt.U, Pt.locs, Pt.cells, Pt.slots] at h1 h2 h3 h4 h5 X hn hPc ⊢
  obtain ⟨methY, cY, hmY, hcY, -, hlY, -, -, -, -⟩ := Cond.code_spec hn h2
  obtain ⟨kY, hkY, -⟩ := className_of_methodNamed hn
  have hinitY : kY.init = .initialized := Cond.initialized_spec (findClass_of_methodNamed hn) hkY h3
  have h : At U g.method c below := by rw [hg]; exact X.here
  have hlocals9 : W9 + (maxL + 11) + (headSpec ws rm).room.locals ≤ R.locals := hlocals
  have happ : (headSpec ws rm).appliesLoose y e.platform (U.calling g mk a) = true :=
    Spec.appliesLoose_calling (g := g) h hdg hn hkY hinitY
      (X.room_calling (g := g) (R' := (headSpec ws rm).room) hsize hmY hcY hframes (by rw [hlY]; omega) h4 h5) h1
  obtain ⟨mid, hmid⟩ := h.above
  have hfr : (U.setTop g).frames = (.java g :: mid) ++ below := by rw [State.frames_setTop' g h.top, hmid]; rfl
  obtain ⟨o, s₂, hsteps, -, hend, hq⟩ := Steps.callFree hM p X.admits X.cas X.clock (acts := []) hfr happ hPc trivial
  have hq' : vx_Q Qc XC mc ms free a (U.calling g mk a) o s₂ := hq
  rw [State.frames_setTop' g h.top] at hend
  obtain ⟨g₀, hg0⟩ := Option.isSome_iff_exists.mp h.top
  obtain ⟨r, hr⟩ := State.topJava?_eq_some.mp hg0
  have hr' : (({ U with heap := s₂.heap, slotsUsed := s₂.slotsUsed } : State).setVm s₂.vm).frames = .java g₀ :: r := hr
  rcases hq' with ⟨hqc, L, hfe, hL⟩ | ⟨q, rfl, E, ce, L, hx, hce, hcv, hcl, hW₂, hsm, hL⟩
  · obtain ⟨⟨v, rfl⟩, hW₂, e2, q2, q3, q4, q5, q6⟩ := id hfe
    have e3 : s₂ = ({ (U.calling g mk a).setFrames s₂.frames with heap := s₂.heap, slotsUsed := s₂.slotsUsed } : State).setVm s₂.vm := by
      have : s₂ = ({ s₂ with vm := (U.calling g mk a).vm } : State).setVm s₂.vm := rfl
      rw [e2] at this
      exact this
    obtain ⟨c₂, i₂, len₂, hc₂, hd₂, hf₂⟩ := hend
    have hW' : U.WarmedH s₂.vm := hW₂
    have hcc : c₂ = c := by
      have h1 : s₂.code? g.method = U.code? g.method := by
        rw [State.code?_eq, State.code?_eq, hW'.alike.method?]
      exact Option.some.inj (hc₂.symm.trans (h1.trans h.code))
    subst hcc
    have hlen : len₂ = len := by rw [hdg] at hd₂; cases hd₂; rfl
    subst hlen
    have hs₂ : s₂ = (({ U with heap := s₂.heap, slotsUsed := s₂.slotsUsed } : State).setVm s₂.vm).setTop { g with pc := g.pc + len₂, stack := v.toList ++ g.stack } := by
      refine e3.trans ?_
      rw [hf₂, State.calling_eq h.top, State.setFrames_setFrames, State.setTop_of_frames _ hr', hr]
      rfl
    have hsame : U.sameButNew ({ U with heap := s₂.heap, slotsUsed := s₂.slotsUsed } : State) L mc ms := by
      refine ⟨?_, q2, q3, q4, q5, q6⟩
      obtain ⟨t, ht, -⟩ := State.frames_cons hr
      show ({ U with heap := s₂.heap, slotsUsed := s₂.slotsUsed } : State) = { U.setFrames U.frames with heap := s₂.heap, slotsUsed := s₂.slotsUsed }
      rw [State.setFrames_self ht]
    subst hg
    refine Or.inl ⟨v, ⟨(({ U with heap := s₂.heap, slotsUsed := s₂.slotsUsed } : State).setVm s₂.vm), Ls ++ L, c0 + mc, s0 + ms⟩,
      ⟨X.admits, X.cas, X.clock, X.frames, X.room, X.hears, X.method, X.code, (X.here.setHeapUsed s₂.heap s₂.slotsUsed).setVm hW'.alike, X.tail, State.WarmedH.trans X.warmed hW', X.limits, X.bytes, X.same.trans (hsame.setVm s.vm)⟩,
      ⟨g, mk, s₂, L, rfl, rfl, hqc, rfl, hL, rfl, rfl⟩, ?_⟩
    show Steps p.tables e below _ ((({ U with heap := s₂.heap, slotsUsed := s₂.slotsUsed } : State).setVm s₂.vm).setTop { g with pc := g.pc + len₂, stack := v.toList ++ g.stack })
    rw [← hs₂]
    exact hsteps
  · obtain ⟨e2, q2, q3, q4, q5, q6⟩ := id hsm
    have e3 : s₂ = ({ (U.calling g mk a).setFrames s₂.frames with heap := s₂.heap, slotsUsed := s₂.slotsUsed } : State).setVm s₂.vm := by
      have : s₂ = ({ s₂ with vm := (U.calling g mk a).vm } : State).setVm s₂.vm := rfl
      rw [e2] at this
      exact this
    have hf₂ : s₂.frames = .throwing q :: .java g :: U.frames.tail := hend
    have hW' : U.WarmedH s₂.vm := hW₂
    have hs₂ : s₂ = ((({ U with heap := s₂.heap, slotsUsed := s₂.slotsUsed } : State).setVm s₂.vm).setTop g).pushFrame (.throwing q) := by
      refine e3.trans ?_
      rw [hf₂, State.calling_eq h.top, State.setFrames_setFrames, State.pushFrame, State.frames_setTop _ hr', State.setTop_of_frames _ hr', State.setFrames_setFrames, hr]
      rfl
    have hsame : U.sameButNew ({ U with heap := s₂.heap, slotsUsed := s₂.slotsUsed } : State) L mc ms := by
      refine ⟨?_, q2, q3, q4, q5, q6⟩
      obtain ⟨t, ht, -⟩ := State.frames_cons hr
      show ({ U with heap := s₂.heap, slotsUsed := s₂.slotsUsed } : State) = { U.setFrames U.frames with heap := s₂.heap, slotsUsed := s₂.slotsUsed }
      rw [State.setFrames_self ht]
    subst hg
    refine Or.inr ⟨q, ⟨(({ U with heap := s₂.heap, slotsUsed := s₂.slotsUsed } : State).setVm s₂.vm), Ls ++ L, c0 + mc, s0 + ms⟩,
      ⟨X.admits, X.cas, X.clock, X.frames, X.room, X.hears, X.method, X.code, (X.here.setHeapUsed s₂.heap s₂.slotsUsed).setVm hW'.alike, X.tail, State.WarmedH.trans X.warmed hW', X.limits, X.bytes, X.same.trans (hsame.setVm s.vm)⟩,
      ⟨g, mk, s₂, L, E, ce, rfl, rfl, hx, hce, hcv, hcl, rfl, hL, rfl, rfl⟩, ?_⟩
    show Steps p.tables e below _ (((({ U with heap := s₂.heap, slotsUsed := s₂.slotsUsed } : State).setVm s₂.vm).setTop g).pushFrame (.throwing q))
    rw [← hs₂]
    exact hsteps
end Payer
section Calls
variable {p : Program} {l : Launch} {e : Env} {R : Room} {s : State} {m : MethodId} {args : Array Value} {below : List Frame} {meth : Method} {c : Code} {T : State} {locs : List Loc} {cells slots : Nat}
theorem vx_callV (X : Stand p l e R s m args below meth c T locs cells slots) (hexec : p.tables.exec = Jvm.exec) {own C : String} {index : Nat} {y : MethodName} {bytes : ByteArray} {maxL : Nat} {ret : Option FieldType}
    (hown : s.vm.findClass own = some m.cls) (hlink : (Cond.methodLink own index y).before args s = true) (hinst : (Cond.instanceMethod y).before args s = true) (hsel : (Cond.selects C y y).before args s = true)
    (hcode : (Cond.code y bytes maxL ret).before args s = true) (hy : y.cls ≠ "java/lang/invoke/MethodHandle" ∧ y.cls ≠ "java/lang/invoke/VarHandle")
    {W9 : Nat} {Pre : Pt → Array Value → Prop} {Post : Pt → Array Value → Option Value → Pt → Prop} {PostX : Pt → Array Value → Addr → Pt → Prop} (hK : vx_Back l R p e below s args y 3 W9 Pre Post PostX)
    {b : Addr} {cellB : Cell} (hcell : T.heap[b]? = some cellB) (hobj : cellB.vm.isStatics = false) (hcls : s.vm.findClass C = some cellB.cls)
    {g : JFrame} (hg : g.method = m) (hsize : g.locals.size = c.maxLocals) {argsL rest : List Value} (hlen : ∀ sig, parseMethodDescriptor y.desc = some sig → argsL.length = sig.parameters.length)
    (hstack : g.stack = argsL.reverse ++ .ref b :: rest) (hW : 2 * g.monitorRoom + (rest.map fun v => v.category).sum ≤ W9) (hdg : decode c.code g.pc = .ok (.invokevirtual index, 3))
    (hpre : ∀ vm₁, s.WarmedH vm₁ → Pre ⟨T.setVm vm₁, locs, cells, slots⟩ (Value.ref b :: argsL).toArray) :
    (∃ (v : Option Value) (vm₁ : Vm) (B : Pt), s.WarmedH vm₁ ∧ Stand p l e R s m args below meth c B.U B.locs B.cells B.slots ∧ Post ⟨T.setVm vm₁, locs, cells, slots⟩ (Value.ref b :: argsL).toArray v B ∧
      ∀ target, Steps p.tables e below (B.U.setTop { g with pc := g.pc + 3, stack := v.toList ++ rest }) target → Steps p.tables e below (T.setTop g) target) ∨
    (∃ (q : Addr) (vm₁ : Vm) (B : Pt), s.WarmedH vm₁ ∧ Stand p l e R s m args below meth c B.U B.locs B.cells B.slots ∧ PostX ⟨T.setVm vm₁, locs, cells, slots⟩ (Value.ref b :: argsL).toArray q B ∧
      Steps p.tables e below (T.setTop g) ((B.U.setTop { g with stack := rest }).pushFrame (.throwing q))) := by
  obtain ⟨mk, methM, hnamed, hmethM, hstM, habM⟩ := Cond.instanceMethod_spec hinst
  obtain ⟨methM', cM, hmethM', -, -, -, -, -, -, hsigM⟩ := Cond.code_spec hnamed hcode
  cases hmethM.symm.trans hmethM'
  obtain ⟨c2, r2, m2, q1, q2, q3, q4, kP, hkP, hkPi⟩ := Cond.selects_spec hsel
  cases hcls.symm.trans q1
  cases (State.methodFound?_of_named hnamed hy).symm.trans q2
  cases hnamed.symm.trans q3
  have hselP : selectMethod e.platform s.vm cellB.cls mk = .method mk := by rw [Launch.admits_selectMethod X.admits]; exact q4
  obtain ⟨vm₁, X₁, hstep₁⟩ := X.invokevirtual hexec hown hlink hnamed hmethM hstM hkP hkPi hy (a := b) (cell := cellB) hcell
    (fun z h => by rw [h] at hobj; cases hobj) hselP hmethM habM hkP hkPi (g := g) hg (argsL := argsL) (rest := rest) (hlen _ hsigM) hstack hdg
  rcases hK m meth c ⟨T.setVm vm₁, locs, cells, slots⟩ { g with stack := rest } (.invokevirtual index) mk (Value.ref b :: argsL).toArray X₁ hg hsize hdg hW (X₁.named hnamed) (hpre vm₁ X₁.warmed) with ⟨v, B, X', hpost, hsteps⟩ | ⟨q, B, X', hpost, hsteps⟩
  · exact Or.inl ⟨v, vm₁, B, X₁.warmed, X', hpost, fun target h => hstep₁ _ fun acts => by rw [doInvoke_state]; exact hsteps.trans h⟩
  · exact Or.inr ⟨q, vm₁, B, X₁.warmed, X', hpost, hstep₁ _ fun acts => by rw [doInvoke_state]; exact hsteps⟩
theorem vx_callS (X : Stand p l e R s m args below meth c T locs cells slots) (hexec : p.tables.exec = Jvm.exec) {own : String} {index : Nat} {y : MethodName} {bytes : ByteArray} {maxL : Nat} {ret : Option FieldType}
    (hown : s.vm.findClass own = some m.cls) (hlink : (Cond.methodLink own index y).before args s = true) (hstat : (Cond.static y).before args s = true) (hinit : (Cond.initialized y.cls).before args s = true)
    (hcode : (Cond.code y bytes maxL ret).before args s = true) (hy : y.cls ≠ "java/lang/invoke/MethodHandle" ∧ y.cls ≠ "java/lang/invoke/VarHandle")
    {W9 : Nat} {Pre : Pt → Array Value → Prop} {Post : Pt → Array Value → Option Value → Pt → Prop} {PostX : Pt → Array Value → Addr → Pt → Prop} (hK : vx_Back l R p e below s args y 3 W9 Pre Post PostX)
    {g : JFrame} (hg : g.method = m) (hsize : g.locals.size = c.maxLocals) {argsL rest : List Value} (hlen : ∀ sig, parseMethodDescriptor y.desc = some sig → argsL.length = sig.parameters.length)
    (hstack : g.stack = argsL.reverse ++ rest) (hW : 2 * g.monitorRoom + (rest.map fun v => v.category).sum ≤ W9) (hdg : decode c.code g.pc = .ok (.invokestatic index, 3))
    (hpre : ∀ vm₁, s.WarmedH vm₁ → Pre ⟨T.setVm vm₁, locs, cells, slots⟩ argsL.toArray) :
    (∃ (v : Option Value) (vm₁ : Vm) (B : Pt), s.WarmedH vm₁ ∧ Stand p l e R s m args below meth c B.U B.locs B.cells B.slots ∧ Post ⟨T.setVm vm₁, locs, cells, slots⟩ argsL.toArray v B ∧
      ∀ target, Steps p.tables e below (B.U.setTop { g with pc := g.pc + 3, stack := v.toList ++ rest }) target → Steps p.tables e below (T.setTop g) target) ∨
    (∃ (q : Addr) (vm₁ : Vm) (B : Pt), s.WarmedH vm₁ ∧ Stand p l e R s m args below meth c B.U B.locs B.cells B.slots ∧ PostX ⟨T.setVm vm₁, locs, cells, slots⟩ argsL.toArray q B ∧
      Steps p.tables e below (T.setTop g) ((B.U.setTop { g with stack := rest }).pushFrame (.throwing q))) := by
  obtain ⟨mk, hnamed⟩ := Cond.code_named hcode
  obtain ⟨methM, cM, hmethM, -, -, -, -, -, -, hsigM⟩ := Cond.code_spec hnamed hcode
  have hstatic : methM.isStatic = true := Cond.static_spec hnamed hmethM hstat
  obtain ⟨kP, hkP, -⟩ := className_of_methodNamed hnamed
  have hinitP : kP.init = .initialized := Cond.initialized_spec (findClass_of_methodNamed hnamed) hkP hinit
  obtain ⟨vm₁, X₁, hstep₁⟩ := X.invokestatic hexec hown hlink hnamed hmethM hstatic hkP hinitP hy (g := g) hg (argsL := argsL) (rest := rest) (hlen _ hsigM) hstack hdg
  rcases hK m meth c ⟨T.setVm vm₁, locs, cells, slots⟩ { g with stack := rest } (.invokestatic index) mk argsL.toArray X₁ hg hsize hdg hW (X₁.named hnamed) (hpre vm₁ X₁.warmed) with ⟨v, B, X', hpost, hsteps⟩ | ⟨q, B, X', hpost, hsteps⟩
  · exact Or.inl ⟨v, vm₁, B, X₁.warmed, X', hpost, fun target h => hstep₁ _ fun acts => by rw [doInvoke_state]; exact hsteps.trans h⟩
  · exact Or.inr ⟨q, vm₁, B, X₁.warmed, X', hpost, hstep₁ _ fun acts => by rw [doInvoke_state]; exact hsteps⟩
end Calls
theorem vx_cls {s : State} {T : State} {vm₁ : Vm} {E : String} {k : ClassId} (hW : s.WarmedH vm₁) (h : (T.setVm vm₁).vm.findClass E = some k) : s.vm.findClass E = some k := by
  have h1 : vm₁.findClass E = some k := h
  rw [hW.alike.findClass] at h1
  exact h1
/-- the method's frame g, with q thrown over it -/
def vx_W (p : Program) (l : Launch) (e : Env) (R : Room) (s : State) (m : MethodId) (args : Array Value) (below : List Frame) (meth : Method) (c : Code) (H : Heap) (locs : List Loc) (cells slots : Nat) (Q : State → Prop) (g : JFrame) (q : Addr) : Prop :=
  ∀ T : State, T.heap = H → Stand p l e R s m args below meth c T locs cells slots → ∃ t, Steps p.tables e below ((T.setTop g).pushFrame (.throwing q)) t ∧ Q t
def vx_Run (p : Program) (l : Launch) (e : Env) (R : Room) (s : State) (m : MethodId) (args : Array Value) (below : List Frame) (meth : Method) (c : Code) (H : Heap) (locs : List Loc) (cells slots mc ms : Nat) (g : JFrame) (rest : List Value) (Qa : State → Outcome → State → Prop) (XC : String → State → State → Prop) (free : Addr → Prop) : Prop :=
  ∀ T : State, T.heap = H → Stand p l e R s m args below meth c T locs cells slots →
    (∃ (v : Option Value) (st₀ t T' : State) (L : List Loc), st₀.heap = H ∧ Stand p l e R s m args below meth c T' (locs ++ L) (cells + mc) (slots + ms) ∧ (∀ q ∈ L, free q.base) ∧ T'.heap = t.heap ∧ T'.vm = t.vm ∧ Qa st₀ (.returned v) t ∧
      Goes p e below T g T' { g with pc := g.pc + 3, stack := v.toList ++ rest }) ∨
    (∃ (q : Addr) (st₀ t T' : State) (L : List Loc) (E : String) (ce : Cell), st₀.heap = H ∧ Stand p l e R s m args below meth c T' (locs ++ L) (cells + mc) (slots + ms) ∧ (∀ z ∈ L, free z.base) ∧ T'.heap = t.heap ∧ T'.vm = t.vm ∧ XC E st₀ t ∧ t.heap[q]? = some ce ∧ ce.vm = .none ∧ s.vm.findClass E = some ce.cls ∧
      Steps p.tables e below (T.setTop g) ((T'.setTop { g with stack := rest }).pushFrame (.throwing q)))
def vx_X {S : Type} (px : S → Prop) (B : String → S → State → Prop) (A : Nat → Prop) : String → State → State → Prop := fun E st t => ∃ u : S, px u ∧ B E u t ∧ va_F A st t
section Runs
variable {p : Program} {l : Launch} {e : Env} {R : Room} {s : State} {m : MethodId} {args : Array Value} {below : List Frame} {meth : Method} {c : Code} {H : Heap} {locs : List Loc} {cells slots : Nat}
variable {y : MethodName} {bytes cc : ByteArray} {maxL nL mc ms n index : Nat} {ret : Option FieldType} {ws : List Cond} {rm : Room} {Pc : Array Value → State → Prop} {Qc : Array Value → State → Outcome → State → Prop} {XC : String → State → State → Prop} {free : Addr → Prop} {Ts : List Cond} {own C : String} {b : Addr} {As rest : List Value} {g : JFrame}
theorem vx_callBack (cb : CallB R s args own index y bytes maxL ret ws rm mc ms n) (hM : vx_Met l y ws rm Pc Qc XC mc ms free) (hbl : FrameBlind Pc) : vx_Back l R p e below s args y 3 8 (PreOf R mc ms Pc) (PostOf Qc mc ms free) (vx_Post XC mc ms free) := by
  obtain ⟨hrc, hrs, hfr, hlo, hws, hcw, -, hini, -⟩ := cb
  exact vx_back (bytes := bytes) (maxL := maxL) (ret := ret) hM hbl hrc hrs hfr hlo hws hcw (fun a' U hW => word_at hW (Or.inl (by first | rfl | simp [Cond.onTables, Cond.keeps, Cond.steady])) hini)
theorem vx_runV (S : CallFix p m c cc nL s args Ts own) (hM : vx_Met l y ws rm Pc Qc XC mc ms free) (cw : CallW R s args own C index y bytes maxL ret ws rm mc ms n) (hp : PreV s H C b Pc As)
    (hg : g.method = m) (hn : As.length = n) (hsize : g.locals.size = nL) (hstack : g.stack = As.reverse ++ .ref b :: rest) (hW : 2 * g.monitorRoom + (rest.map fun v => v.category).sum ≤ 8) (hdg : decode cc g.pc = .ok (.invokevirtual index, 3)) (hf : cells + mc ≤ R.cells ∧ slots + ms ≤ R.slots) :
    vx_Run p l e R s m args below meth c H locs cells slots mc ms g rest (Qc (Value.ref b :: As).toArray) XC free := by
  have hK : vx_Back l R p e below s args y 3 8 (PreOf R mc ms Pc) (PostOf Qc mc ms free) (vx_Post XC mc ms free) := vx_callBack cw.1 hM hp.1
  obtain ⟨⟨-, -, -, -, -, -, hcode, -, hy, hlen, hl⟩, hin, hse⟩ := cw
  obtain ⟨hx, hb, hml, ho, -⟩ := S
  obtain ⟨-, ⟨cellB, hcB, hoB, hclB⟩, hPc⟩ := hp
  intro T hT X
  rcases vx_callV X hx (C := C) (bytes := bytes) (maxL := maxL) (ret := ret) ho hl hin hse hcode hy hK (by rw [hT]; exact hcB) hoB hclB hg (hsize.trans hml.symm) (argsL := As) (rest := rest) (fun sig h => hn.trans (hlen sig h)) hstack hW (by rw [hb]; exact hdg)
    (fun vm₁ hW₁ => ⟨hf.1, hf.2, hPc (T.setVm vm₁) hT hW₁⟩) with ⟨v, vm₁, ⟨U', l2, c2, s2⟩, hW₁, X', ⟨g', mk, t, L, e1, e2, hq, h1, hL, h2, h3⟩, st⟩ | ⟨q, vm₁, ⟨U', l2, c2, s2⟩, hW₁, X', ⟨g', mk, t, L, E, ce, e1, e2, hq, hce, hcv, hcl, h1, hL, h2, h3⟩, st⟩
  · dsimp only [Pt.U, Pt.locs, Pt.cells, Pt.slots] at X' e1 e2 h1 h2 h3 st
    subst h1; subst h2; subst h3
    exact Or.inl ⟨v, (T.setVm vm₁).calling g' mk (Value.ref b :: As).toArray, t, U', L, hT, X', hL, e1, e2, hq, st⟩
  · dsimp only [Pt.U, Pt.locs, Pt.cells, Pt.slots] at X' e1 e2 h1 h2 h3 st hcl
    subst h1; subst h2; subst h3
    exact Or.inr ⟨q, (T.setVm vm₁).calling g' mk (Value.ref b :: As).toArray, t, U', L, E, ce, hT, X', hL, e1, e2, hq, hce, hcv, vx_cls hW₁ hcl, st⟩
theorem vx_runS (S : CallFix p m c cc nL s args Ts own) (hM : vx_Met l y ws rm Pc Qc XC mc ms free) (cw : CallB R s args own index y bytes maxL ret ws rm mc ms n ∧ (Cond.static y).before args s = true) (hp : PreS s H Pc As)
    (hg : g.method = m) (hn : As.length = n) (hsize : g.locals.size = nL) (hstack : g.stack = As.reverse ++ rest) (hW : 2 * g.monitorRoom + (rest.map fun v => v.category).sum ≤ 8) (hdg : decode cc g.pc = .ok (.invokestatic index, 3)) (hf : cells + mc ≤ R.cells ∧ slots + ms ≤ R.slots) :
    vx_Run p l e R s m args below meth c H locs cells slots mc ms g rest (Qc As.toArray) XC free := by
  have hK : vx_Back l R p e below s args y 3 8 (PreOf R mc ms Pc) (PostOf Qc mc ms free) (vx_Post XC mc ms free) := vx_callBack cw.1 hM hp.1
  obtain ⟨⟨-, -, -, -, -, -, hcode, hini, hy, hlen, hl⟩, hstt⟩ := cw
  obtain ⟨hx, hb, hml, ho, -⟩ := S
  intro T hT X
  rcases vx_callS X hx (bytes := bytes) (maxL := maxL) (ret := ret) ho hl hstt hini hcode hy hK hg (hsize.trans hml.symm) (argsL := As) (rest := rest) (fun sig h => hn.trans (hlen sig h)) hstack hW (by rw [hb]; exact hdg)
    (fun vm₁ hW₁ => ⟨hf.1, hf.2, hp.2 (T.setVm vm₁) hT hW₁⟩) with ⟨v, vm₁, ⟨U', l2, c2, s2⟩, hW₁, X', ⟨g', mk, t, L, e1, e2, hq, h1, hL, h2, h3⟩, st⟩ | ⟨q, vm₁, ⟨U', l2, c2, s2⟩, hW₁, X', ⟨g', mk, t, L, E, ce, e1, e2, hq, hce, hcv, hcl, h1, hL, h2, h3⟩, st⟩
  · dsimp only [Pt.U, Pt.locs, Pt.cells, Pt.slots] at X' e1 e2 h1 h2 h3 st
    subst h1; subst h2; subst h3
    exact Or.inl ⟨v, (T.setVm vm₁).calling g' mk As.toArray, t, U', L, hT, X', hL, e1, e2, hq, st⟩
  · dsimp only [Pt.U, Pt.locs, Pt.cells, Pt.slots] at X' e1 e2 h1 h2 h3 st hcl
    subst h1; subst h2; subst h3
    exact Or.inr ⟨q, (T.setVm vm₁).calling g' mk As.toArray, t, U', L, E, ce, hT, X', hL, e1, e2, hq, hce, hcv, vx_cls hW₁ hcl, st⟩
end Runs
section Rows
variable {p : Program} {l : Launch} {e : Env} {R : Room} {s : State} {m : MethodId} {args : Array Value} {below : List Frame} {meth : Method} {c : Code} {H : Heap} {locs : List Loc} {cells slots : Nat} {Q : State → Prop}
variable {mc ms : Nat} {free : Addr → Prop} {A0 A1 : Nat → Prop} {H0 : Heap} {a : Array Value} {pc : Nat} {ls : Array Slot} {st0 rest : List Value}
theorem vx_keep {st₀ t T' : State} {L : List Loc} (h0 : st₀.heap = H) (e1 : T'.heap = t.heap) (hS : va_S A0 H0 H locs) (hA : ∀ q, q < H.size → A1 q → A0 q) (hf : ∀ q, free q → A0 q) (hL : ∀ q ∈ L, free q.base) (hF : va_F A1 st₀ t) :
    H.size ≤ T'.heap.size ∧ (∀ q : Nat, q < H.size → ¬ A1 q → T'.heap[q]? = H[q]?) ∧ va_S A0 H0 T'.heap (locs ++ L) := by
  obtain ⟨hz, hk⟩ := hF
  rw [h0] at hz hk
  exact ⟨by rw [e1]; exact hz, fun q h1 h2 => by rw [e1]; exact hk q h1 h2,
    ⟨Nat.le_trans hS.1 (by rw [e1]; exact hz), fun q h1 h2 => by rw [e1, hk q (Nat.lt_of_lt_of_le h1 hS.1) (fun z => h2 (hA q (Nat.lt_of_lt_of_le h1 hS.1) z))]; exact hS.2.1 q h1 h2, fun q hq => by
      rcases List.mem_append.mp hq with h | h
      · exact hS.2.2 q h
      · exact hf _ (hL q h)⟩⟩
theorem vx_calli {S SX : Type} {post : Int32 → S → Prop} {px : SX → Prop} {B : S → State → Prop} {BX : String → SX → State → Prop} {AX : Nat → Prop} (hr : vx_Run p l e R s m args below meth c H locs cells slots mc ms (F0 m pc ls st0) rest (va_Qi post B A1 a) (vx_X px BX AX) free) (hS : va_S A0 H0 H locs) (hA : ∀ q, q < H.size → A1 q → A0 q) (hf : ∀ q, free q → A0 q) (hAX : ∀ q, q < H.size → AX q → A0 q)
    (kx : ∀ (E : String) (ce : Cell) (q9 : Addr) (u : SX) (t : State) (H1 : Heap) (locs1 : List Loc), t.heap = H1 → s.vm.Alike t.vm → px u → BX E u t → H.size ≤ H1.size → (∀ q : Nat, q < H.size → ¬ AX q → H1[q]? = H[q]?) → va_S A0 H0 H1 locs1 → H1[q9]? = some ce → ce.vm = .none → s.vm.findClass E = some ce.cls → vx_W p l e R s m args below meth c H1 locs1 (cells + mc) (slots + ms) Q (F0 m pc ls rest) q9)
    (kk : ∀ (r : Int32) (u : S) (t : State) (H1 : Heap) (locs1 : List Loc), t.heap = H1 → s.vm.Alike t.vm → post r u → B u t → H.size ≤ H1.size → (∀ q : Nat, q < H.size → ¬ A1 q → H1[q]? = H[q]?) → va_S A0 H0 H1 locs1 → W p l e R s m args below meth c H1 locs1 (cells + mc) (slots + ms) Q (F0 m (pc + 3) ls (.int r :: rest))) : W p l e R s m args below meth c H locs cells slots Q (F0 m pc ls st0) := by
  intro T hT X
  rcases hr T hT X with ⟨v, st₀, t, T', L, h0, X', hL, e1, e2, ⟨⟨r, u, hv, hp, hb⟩, hF⟩, st⟩ | ⟨q, st₀, t, T', L, E, ce, h0, X', hL, e1, e2, ⟨u, hp, hb, hF⟩, hce, hcv, hcl, st⟩
  · cases hv
    obtain ⟨k1, k2, k3⟩ := vx_keep h0 e1 hS hA hf hL hF
    obtain ⟨t2, a1, b1⟩ := kk r u t T'.heap (locs ++ L) e1.symm (by rw [← e2]; exact X'.warmed.alike) hp hb k1 k2 k3 T' rfl X'
    exact ⟨t2, st t2 a1, b1⟩
  · obtain ⟨k1, k2, k3⟩ := vx_keep h0 e1 hS hAX hf hL hF
    obtain ⟨t2, a1, b1⟩ := kx E ce q u t T'.heap (locs ++ L) e1.symm (by rw [← e2]; exact X'.warmed.alike) hp hb k1 k2 k3 (by rw [e1]; exact hce) hcv hcl T' rfl X'
    exact ⟨t2, st.trans a1, b1⟩
theorem vx_calll {S SX : Type} {post : Int64 → S → Prop} {px : SX → Prop} {B : S → State → Prop} {BX : String → SX → State → Prop} {AX : Nat → Prop} (hr : vx_Run p l e R s m args below meth c H locs cells slots mc ms (F0 m pc ls st0) rest (va_Ql post B A1 a) (vx_X px BX AX) free) (hS : va_S A0 H0 H locs) (hA : ∀ q, q < H.size → A1 q → A0 q) (hf : ∀ q, free q → A0 q) (hAX : ∀ q, q < H.size → AX q → A0 q)
    (kx : ∀ (E : String) (ce : Cell) (q9 : Addr) (u : SX) (t : State) (H1 : Heap) (locs1 : List Loc), t.heap = H1 → s.vm.Alike t.vm → px u → BX E u t → H.size ≤ H1.size → (∀ q : Nat, q < H.size → ¬ AX q → H1[q]? = H[q]?) → va_S A0 H0 H1 locs1 → H1[q9]? = some ce → ce.vm = .none → s.vm.findClass E = some ce.cls → vx_W p l e R s m args below meth c H1 locs1 (cells + mc) (slots + ms) Q (F0 m pc ls rest) q9)
    (kk : ∀ (r : Int64) (u : S) (t : State) (H1 : Heap) (locs1 : List Loc), t.heap = H1 → s.vm.Alike t.vm → post r u → B u t → H.size ≤ H1.size → (∀ q : Nat, q < H.size → ¬ A1 q → H1[q]? = H[q]?) → va_S A0 H0 H1 locs1 → W p l e R s m args below meth c H1 locs1 (cells + mc) (slots + ms) Q (F0 m (pc + 3) ls (.long r :: rest))) : W p l e R s m args below meth c H locs cells slots Q (F0 m pc ls st0) := by
  intro T hT X
  rcases hr T hT X with ⟨v, st₀, t, T', L, h0, X', hL, e1, e2, ⟨⟨r, u, hv, hp, hb⟩, hF⟩, st⟩ | ⟨q, st₀, t, T', L, E, ce, h0, X', hL, e1, e2, ⟨u, hp, hb, hF⟩, hce, hcv, hcl, st⟩
  · cases hv
    obtain ⟨k1, k2, k3⟩ := vx_keep h0 e1 hS hA hf hL hF
    obtain ⟨t2, a1, b1⟩ := kk r u t T'.heap (locs ++ L) e1.symm (by rw [← e2]; exact X'.warmed.alike) hp hb k1 k2 k3 T' rfl X'
    exact ⟨t2, st t2 a1, b1⟩
  · obtain ⟨k1, k2, k3⟩ := vx_keep h0 e1 hS hAX hf hL hF
    obtain ⟨t2, a1, b1⟩ := kx E ce q u t T'.heap (locs ++ L) e1.symm (by rw [← e2]; exact X'.warmed.alike) hp hb k1 k2 k3 (by rw [e1]; exact hce) hcv hcl T' rfl X'
    exact ⟨t2, st.trans a1, b1⟩
theorem vx_callf {S SX : Type} {post : UInt32 → S → Prop} {px : SX → Prop} {B : S → State → Prop} {BX : String → SX → State → Prop} {AX : Nat → Prop} (hr : vx_Run p l e R s m args below meth c H locs cells slots mc ms (F0 m pc ls st0) rest (va_Qf post B A1 a) (vx_X px BX AX) free) (hS : va_S A0 H0 H locs) (hA : ∀ q, q < H.size → A1 q → A0 q) (hf : ∀ q, free q → A0 q) (hAX : ∀ q, q < H.size → AX q → A0 q)
    (kx : ∀ (E : String) (ce : Cell) (q9 : Addr) (u : SX) (t : State) (H1 : Heap) (locs1 : List Loc), t.heap = H1 → s.vm.Alike t.vm → px u → BX E u t → H.size ≤ H1.size → (∀ q : Nat, q < H.size → ¬ AX q → H1[q]? = H[q]?) → va_S A0 H0 H1 locs1 → H1[q9]? = some ce → ce.vm = .none → s.vm.findClass E = some ce.cls → vx_W p l e R s m args below meth c H1 locs1 (cells + mc) (slots + ms) Q (F0 m pc ls rest) q9)
    (kk : ∀ (r : UInt32) (u : S) (t : State) (H1 : Heap) (locs1 : List Loc), t.heap = H1 → s.vm.Alike t.vm → post r u → B u t → H.size ≤ H1.size → (∀ q : Nat, q < H.size → ¬ A1 q → H1[q]? = H[q]?) → va_S A0 H0 H1 locs1 → W p l e R s m args below meth c H1 locs1 (cells + mc) (slots + ms) Q (F0 m (pc + 3) ls (.float r :: rest))) : W p l e R s m args below meth c H locs cells slots Q (F0 m pc ls st0) := by
  intro T hT X
  rcases hr T hT X with ⟨v, st₀, t, T', L, h0, X', hL, e1, e2, ⟨⟨r, u, hv, hp, hb⟩, hF⟩, st⟩ | ⟨q, st₀, t, T', L, E, ce, h0, X', hL, e1, e2, ⟨u, hp, hb, hF⟩, hce, hcv, hcl, st⟩
  · cases hv
    obtain ⟨k1, k2, k3⟩ := vx_keep h0 e1 hS hA hf hL hF
    obtain ⟨t2, a1, b1⟩ := kk r u t T'.heap (locs ++ L) e1.symm (by rw [← e2]; exact X'.warmed.alike) hp hb k1 k2 k3 T' rfl X'
    exact ⟨t2, st t2 a1, b1⟩
  · obtain ⟨k1, k2, k3⟩ := vx_keep h0 e1 hS hAX hf hL hF
    obtain ⟨t2, a1, b1⟩ := kx E ce q u t T'.heap (locs ++ L) e1.symm (by rw [← e2]; exact X'.warmed.alike) hp hb k1 k2 k3 (by rw [e1]; exact hce) hcv hcl T' rfl X'
    exact ⟨t2, st.trans a1, b1⟩
theorem vx_calld {S SX : Type} {post : UInt64 → S → Prop} {px : SX → Prop} {B : S → State → Prop} {BX : String → SX → State → Prop} {AX : Nat → Prop} (hr : vx_Run p l e R s m args below meth c H locs cells slots mc ms (F0 m pc ls st0) rest (va_Qd post B A1 a) (vx_X px BX AX) free) (hS : va_S A0 H0 H locs) (hA : ∀ q, q < H.size → A1 q → A0 q) (hf : ∀ q, free q → A0 q) (hAX : ∀ q, q < H.size → AX q → A0 q)
    (kx : ∀ (E : String) (ce : Cell) (q9 : Addr) (u : SX) (t : State) (H1 : Heap) (locs1 : List Loc), t.heap = H1 → s.vm.Alike t.vm → px u → BX E u t → H.size ≤ H1.size → (∀ q : Nat, q < H.size → ¬ AX q → H1[q]? = H[q]?) → va_S A0 H0 H1 locs1 → H1[q9]? = some ce → ce.vm = .none → s.vm.findClass E = some ce.cls → vx_W p l e R s m args below meth c H1 locs1 (cells + mc) (slots + ms) Q (F0 m pc ls rest) q9)
    (kk : ∀ (r : UInt64) (u : S) (t : State) (H1 : Heap) (locs1 : List Loc), t.heap = H1 → s.vm.Alike t.vm → post r u → B u t → H.size ≤ H1.size → (∀ q : Nat, q < H.size → ¬ A1 q → H1[q]? = H[q]?) → va_S A0 H0 H1 locs1 → W p l e R s m args below meth c H1 locs1 (cells + mc) (slots + ms) Q (F0 m (pc + 3) ls (.double r :: rest))) : W p l e R s m args below meth c H locs cells slots Q (F0 m pc ls st0) := by
  intro T hT X
  rcases hr T hT X with ⟨v, st₀, t, T', L, h0, X', hL, e1, e2, ⟨⟨r, u, hv, hp, hb⟩, hF⟩, st⟩ | ⟨q, st₀, t, T', L, E, ce, h0, X', hL, e1, e2, ⟨u, hp, hb, hF⟩, hce, hcv, hcl, st⟩
  · cases hv
    obtain ⟨k1, k2, k3⟩ := vx_keep h0 e1 hS hA hf hL hF
    obtain ⟨t2, a1, b1⟩ := kk r u t T'.heap (locs ++ L) e1.symm (by rw [← e2]; exact X'.warmed.alike) hp hb k1 k2 k3 T' rfl X'
    exact ⟨t2, st t2 a1, b1⟩
  · obtain ⟨k1, k2, k3⟩ := vx_keep h0 e1 hS hAX hf hL hF
    obtain ⟨t2, a1, b1⟩ := kx E ce q u t T'.heap (locs ++ L) e1.symm (by rw [← e2]; exact X'.warmed.alike) hp hb k1 k2 k3 (by rw [e1]; exact hce) hcv hcl T' rfl X'
    exact ⟨t2, st.trans a1, b1⟩
theorem vx_callv {S SX : Type} {post : S → Prop} {px : SX → Prop} {B : S → State → Prop} {BX : String → SX → State → Prop} {AX : Nat → Prop} (hr : vx_Run p l e R s m args below meth c H locs cells slots mc ms (F0 m pc ls st0) rest (va_Qv post B A1 a) (vx_X px BX AX) free) (hS : va_S A0 H0 H locs) (hA : ∀ q, q < H.size → A1 q → A0 q) (hf : ∀ q, free q → A0 q) (hAX : ∀ q, q < H.size → AX q → A0 q)
    (kx : ∀ (E : String) (ce : Cell) (q9 : Addr) (u : SX) (t : State) (H1 : Heap) (locs1 : List Loc), t.heap = H1 → s.vm.Alike t.vm → px u → BX E u t → H.size ≤ H1.size → (∀ q : Nat, q < H.size → ¬ AX q → H1[q]? = H[q]?) → va_S A0 H0 H1 locs1 → H1[q9]? = some ce → ce.vm = .none → s.vm.findClass E = some ce.cls → vx_W p l e R s m args below meth c H1 locs1 (cells + mc) (slots + ms) Q (F0 m pc ls rest) q9)
    (kk : ∀ (u : S) (t : State) (H1 : Heap) (locs1 : List Loc), t.heap = H1 → s.vm.Alike t.vm → post u → B u t → H.size ≤ H1.size → (∀ q : Nat, q < H.size → ¬ A1 q → H1[q]? = H[q]?) → va_S A0 H0 H1 locs1 → W p l e R s m args below meth c H1 locs1 (cells + mc) (slots + ms) Q (F0 m (pc + 3) ls (rest))) : W p l e R s m args below meth c H locs cells slots Q (F0 m pc ls st0) := by
  intro T hT X
  rcases hr T hT X with ⟨v, st₀, t, T', L, h0, X', hL, e1, e2, ⟨⟨u, hv, hp, hb⟩, hF⟩, st⟩ | ⟨q, st₀, t, T', L, E, ce, h0, X', hL, e1, e2, ⟨u, hp, hb, hF⟩, hce, hcv, hcl, st⟩
  · cases hv
    obtain ⟨k1, k2, k3⟩ := vx_keep h0 e1 hS hA hf hL hF
    obtain ⟨t2, a1, b1⟩ := kk u t T'.heap (locs ++ L) e1.symm (by rw [← e2]; exact X'.warmed.alike) hp hb k1 k2 k3 T' rfl X'
    exact ⟨t2, st t2 a1, b1⟩
  · obtain ⟨k1, k2, k3⟩ := vx_keep h0 e1 hS hAX hf hL hF
    obtain ⟨t2, a1, b1⟩ := kx E ce q u t T'.heap (locs ++ L) e1.symm (by rw [← e2]; exact X'.warmed.alike) hp hb k1 k2 k3 (by rw [e1]; exact hce) hcv hcl T' rfl X'
    exact ⟨t2, st.trans a1, b1⟩
/-- caught by the row x of this method's table; the rows ahead don't take it -/
theorem vx_catch {own name : String} {E : String} {ce : Cell} {q : Addr} (hown : s.vm.findClass own = some m.cls) (pre : List ExceptionTableEntry) (x : ExceptionTableEntry) (suf : List ExceptionTableEntry) (hsplit : c.exceptionTable.toList = pre ++ x :: suf)
    (hpass : ∀ z ∈ pre, covers z pc = false ∨ (z.catchType ≠ 0 ∧ ∃ nm : String, (Cond.classLink own z.catchType nm).before args s = true ∧ va_Nc E nm s)) (hx : covers x pc = true) (h0 : x.catchType ≠ 0)
    (hlink : (Cond.classLink own x.catchType name).before args s = true) (hcast : (Cond.castable E name).before args s = true) (hcell : H[q]? = some ce) (hv : ce.vm = .none) (hcl : s.vm.findClass E = some ce.cls)
    (kk : W p l e R s m args below meth c H locs cells slots Q (F0 m x.handlerPc ls [.ref q])) : vx_W p l e R s m args below meth c H locs cells slots Q (F0 m pc ls rest) q := by
  intro T hT X
  have hpl : e.platform.magicAccessors = ({} : Platform).magicAccessors := by rw [X.admits.platform]
  obtain ⟨c3, c4, hc3, hc4, hasg⟩ := Cond.castable_spec hcast
  cases Option.some.inj (hc3.symm.trans hcl)
  obtain ⟨c5, hc5, hcl5⟩ := Cond.classLink_spec hown hlink e.platform hpl
  cases Option.some.inj (hc4.symm.trans hc5)
  obtain ⟨vm', X', st⟩ := X.thenCaughtThrough q (g := F0 m pc ls rest) rfl (Steps.refl _) (by rw [hT]; exact hcell) (by rw [hv]; rfl) (by obtain ⟨k9, h9, -⟩ := Vm.findClass_spec hcl; exact ⟨k9, h9⟩) pre x suf hsplit
    (fun z hz => by
      rcases hpass z hz with h | ⟨hz0, nm, hl1, hn1⟩
      · exact Or.inl h
      · obtain ⟨c6, hc6, hcl6⟩ := Cond.classLink_spec hown hl1 e.platform hpl
        obtain ⟨a8, b8, h1, h2, h3⟩ := hn1
        cases Option.some.inj (h1.symm.trans hcl)
        cases Option.some.inj (h2.symm.trans hc6)
        exact Or.inr ⟨hz0, _, hcl6, h3⟩) hx (Or.inr ⟨h0, c4, hcl5, hasg⟩)
  obtain ⟨t, a1, b1⟩ := kk (T.setVm vm') hT X'
  exact ⟨t, st.trans a1, b1⟩
end Rows
section Ends
variable {p : Program} {l : Launch} {e : Env} {R : Room} {s : State} {m : MethodId} {args : Array Value} {below : List Frame} {meth : Method} {c : Code} {H : Heap} {locs : List Loc} {cells slots : Nat} {Q : State → Prop}
variable {mc ms : Nat} {free : Addr → Prop} {A0 A1 : Nat → Prop} {H0 : Heap} {a : Array Value} {ls : Array Slot} {st0 rest : List Value}
variable {Qc : Array Value → State → Outcome → State → Prop} {XC : String → State → State → Prop}
/-- what a body that may throw owes at its end -/
def vx_MQ (below : List Frame) (Qc : Array Value → State → Outcome → State → Prop) (XC : String → State → State → Prop) (a : Array Value) (s : State) (mc ms : Nat) (free : Addr → Prop) : State → Prop := fun t =>
  ∃ o, t.status = .running ∧ Ended t below o ∧ vx_Q Qc XC mc ms free a s o t
theorem vx_ret {g : JFrame} {mc ms : Nat} (k : W p l e R s m args below meth c H locs cells slots (MQ below Qc args s mc ms free) g) : W p l e R s m args below meth c H locs cells slots (vx_MQ below Qc XC args s mc ms free) g := by
  intro T hT X
  obtain ⟨t, a1, o, b1, b2, b3, b4⟩ := k T hT X
  exact ⟨t, a1, o, b1, b2, Or.inl ⟨b3, b4⟩⟩
/-- not caught here: it goes on to the caller -/
theorem vx_widen {g : JFrame} {q : Addr} {k n : Nat} (h1 : cells ≤ k) (h2 : slots ≤ n) (kk : vx_W p l e R s m args below meth c H locs k n Q g q) : vx_W p l e R s m args below meth c H locs cells slots Q g q := fun T hT X => kk T hT (stand_widen X h1 h2)
theorem vx_out {pc : Nat} {E : String} {ce : Cell} {q : Addr} {mc ms : Nat} (hout : ∀ x ∈ c.exceptionTable.toList, covers x pc = false) (hlocks : meth.locks = false) (hcell : H[q]? = some ce) (hv : ce.vm = .none) (hcl : s.vm.findClass E = some ce.cls)
    (hx : ∀ t : State, t.heap = H → s.vm.Alike t.vm → XC E s t) (hf : ∀ z ∈ locs, free z.base) (hc : cells ≤ mc) (hs : slots ≤ ms) :
    vx_W p l e R s m args below meth c H locs cells slots (vx_MQ below Qc XC args s mc ms free) (F0 m pc ls rest) q := by
  intro T hT X
  obtain ⟨st1, hrun, hend, hW, hsm⟩ := X.leaveThrown q (g := F0 m pc ls rest) rfl rfl rfl hout hlocks
  have hcell9 : (T.setFrames (.throwing q :: below)).heap[q]? = some ce := by
    show T.heap[q]? = some ce
    rw [hT]; exact hcell
  exact ⟨_, st1, .threw q, hrun, hend, Or.inr ⟨q, rfl, E, ce, locs, hx _ hT hW.alike, hcell9, hv, hcl, hW, hsm.mono hc hs, hf⟩⟩
theorem vx_frame {U : State} {k n : Nat} (h : s.sameButNew ({ U with vm := s.vm } : State) locs k n) : s.heap.size ≤ U.heap.size ∧ ∀ q : Nat, q < s.heap.size → (∀ z ∈ locs, z.base ≠ q) → U.heap[q]? = s.heap[q]? := by
  obtain ⟨-, h2, -, -, -, h6⟩ := h
  refine ⟨h2, fun q hq hz => ?_⟩
  obtain ⟨c9, e1, e2, e3, e4⟩ := h6 q _ (Array.getElem?_eq_getElem hq)
  have hs : c9.slots = (s.heap[q]).slots := Array.ext_getElem? fun i => e4 i fun hm => hz _ hm rfl
  have h9 : c9 = s.heap[q] := by
    rw [hs] at e2
    exact e2
  have e5 : U.heap[q]? = some c9 := e1
  rw [e5, h9, Array.getElem?_eq_getElem hq]
/-- the words of a throw but the four that speak of the heap -/
def vx_no (w : Cond) : Bool := decide (w ≠ .isRef (.static Bundle.tN "UNASSIGNED_STACK" Bundle.steD)) && decide (w ≠ .isRef (.static Bundle.tN "SUPPRESSED_SENTINEL" Bundle.listD)) && decide (w ≠ .laysStatic Bundle.tN "UNASSIGNED_STACK" Bundle.steD) && decide (w ≠ .laysStatic Bundle.tN "SUPPRESSED_SENTINEL" Bundle.listD)
def vx_at0 (own : String) (ic : Nat) (X : String) (names : List String) : List Cond := (Bundle.ownAtoms0 own ic X names).filter vx_no
def vx_atS (own : String) (ic : Nat) (X : String) (names : List String) : List Cond := (Bundle.ownAtoms own ic X names).filter vx_no
/-- a word that the tables alone decide, or a good one -/
def vx_ot (w : Cond) : Bool := w.onTables || goodWord w
theorem vx_ot_at {args a' : Array Value} {s U : State} {w : Cond} (hW : s.WarmedH U.vm) (hvm : s.vm = U.vm) (hg : vx_ot w = true) (h : w.before args s = true) : w.before a' U = true := by
  simp only [vx_ot, Bool.or_eq_true] at hg
  rcases hg with hg | hg
  · exact va_tabs hg hvm h
  · exact word_at hW (good_of_word hg) h
/-- a list's words: the good ones out of the method's own list, the others by premises of their own -/
theorem vx_hat {args : Array Value} {s : State} {L B : List Cond} (h1 : ∀ w ∈ L.filter goodWord, w.before args s = true) (h2 : ∀ w ∈ L.filter (fun w => !goodWord w), w ∈ B) (h3 : ∀ w ∈ B, w.before args s = true) : ∀ w ∈ L, w.before args s = true := by
  intro w hw
  by_cases g : goodWord w = true
  · exact h1 w (List.mem_filter.mpr ⟨hw, g⟩)
  · refine h3 w (h2 w (List.mem_filter.mpr ⟨hw, ?_⟩))
    show (!goodWord w) = true
    cases hgw : goodWord w
    · rfl
    · exact absurd hgw g
theorem vx_c {args : Array Value} {s : State} {w : Cond} {B : List Cond} (h : w.before args s = true) (t : ∀ w ∈ B, w.before args s = true) : ∀ w' ∈ w :: B, w'.before args s = true := fun w' h' => (List.mem_cons.mp h').elim (fun e => by rw [e]; exact h) (t w')
theorem vx_n {args : Array Value} {s : State} : ∀ w ∈ ([] : List Cond), w.before args s = true := fun _ h => nomatch h
theorem vx_own {args : Array Value} {s : State} {L : List Cond} (h1 : ∀ w ∈ L.filter vx_no, w.before args s = true)
    (hU : (Cond.isRef (.static Bundle.tN "UNASSIGNED_STACK" Bundle.steD)).before args s = true) (hN : (Cond.isRef (.static Bundle.tN "SUPPRESSED_SENTINEL" Bundle.listD)).before args s = true)
    (lU : (Cond.laysStatic Bundle.tN "UNASSIGNED_STACK" Bundle.steD).before args s = true) (lN : (Cond.laysStatic Bundle.tN "SUPPRESSED_SENTINEL" Bundle.listD).before args s = true) : ∀ w ∈ L, w.before args s = true := by
  intro w hw
  by_cases e1 : w = .isRef (.static Bundle.tN "UNASSIGNED_STACK" Bundle.steD)
  · rw [e1]; exact hU
  · by_cases e2 : w = .isRef (.static Bundle.tN "SUPPRESSED_SENTINEL" Bundle.listD)
    · rw [e2]; exact hN
    · by_cases e3 : w = .laysStatic Bundle.tN "UNASSIGNED_STACK" Bundle.steD
      · rw [e3]; exact lU
      · by_cases e4 : w = .laysStatic Bundle.tN "SUPPRESSED_SENTINEL" Bundle.listD
        · rw [e4]; exact lN
        · exact h1 w (List.mem_filter.mpr ⟨hw, by unfold vx_no; rw [decide_eq_true e1, decide_eq_true e2, decide_eq_true e3, decide_eq_true e4]; rfl⟩)
/-- where a static field lies, its class's statics cell in H -/
def vx_L (C n d : String) (A : Nat → Prop) (U : State) (H : Heap) : Prop := ∃ (c : ClassId) (k : Class) (i : Nat) (f : Field) (a : Nat) (cell : Cell), U.vm.findClass C = some c ∧ U.fieldFound? C n d = some (c, k, i, f) ∧ f.isStatic = true ∧ k.statics = some a ∧ H[a]? = some cell ∧ cell.vm.isStatics = true ∧ cell.cls = c ∧ f.slot < cell.slots.size ∧ k.staticTypes[f.slot]? = some f.type ∧ ¬ A a
theorem vx_L.moved {C n d : String} {A : Nat → Prop} {u U : State} {H : Heap} (hvm : u.vm.Alike U.vm) (h : vx_L C n d A u H) : vx_L C n d A U H := by
  obtain ⟨c, k, i, f, a, cell, h1, h2, h3, h4, h5, h6, h7, h8, h9, h10⟩ := h
  obtain ⟨k', hi', he⟩ := State.fieldFound?_setVm hvm h2
  exact ⟨c, k', i, f, a, cell, by rw [hvm.findClass]; exact h1, hi', h3, by rw [he]; exact h4, h5, h6, h7, h8, by rw [he]; exact h9, h10⟩
theorem vx_L.kept {C n d : String} {A : Nat → Prop} {U : State} {H H1 : Heap} (h : vx_L C n d A U H) (hq : ∀ a : Nat, a < H.size → ¬ A a → H1[a]? = H[a]?) : vx_L C n d A U H1 := by
  obtain ⟨c, k, i, f, a, cell, h1, h2, h3, h4, h5, h6, h7, h8, h9, h10⟩ := h
  exact ⟨c, k, i, f, a, cell, h1, h2, h3, h4, by rw [hq a (Array.getElem?_eq_some_iff.mp h5).1 h10]; exact h5, h6, h7, h8, h9, h10⟩
theorem vx_L.narrow {C n d : String} {A B : Nat → Prop} {U : State} {H : Heap} (h : vx_L C n d A U H) (hAB : ∀ q, B q → A q) : vx_L C n d B U H := by
  obtain ⟨c, k, i, f, a, cell, h1, h2, h3, h4, h5, h6, h7, h8, h9, h10⟩ := h
  exact ⟨c, k, i, f, a, cell, h1, h2, h3, h4, h5, h6, h7, h8, h9, fun z => h10 (hAB _ z)⟩
theorem vx_L.word {C n d : String} {A : Nat → Prop} {s : State} {args : Array Value} (h : vx_L C n d A s s.heap) : (Cond.laysStatic C n d).before args s = true := by
  obtain ⟨c, k, i, f, a, cell, h1, h2, h3, h4, h5, h6, h7, h8, h9, -⟩ := h
  show (Cond.laysStatic C n d).holds args s none s [] = true
  exact Cond.laysStatic_of h1 h2 h3 h4 h5 h6 h7 h8 h9
/-- .. and what it holds: null or some reference -/
def vx_Zq (C n d : String) (A : Nat → Prop) (U : State) (H : Heap) : Prop := va_Zq C n d A U H ∧ vx_L C n d A U H
theorem vx_Zq.moved {C n d : String} {A : Nat → Prop} {u U : State} {H : Heap} (hvm : u.vm.Alike U.vm) (h : vx_Zq C n d A u H) : vx_Zq C n d A U H := ⟨va_Zq.moved hvm h.1, vx_L.moved hvm h.2⟩
theorem vx_Zq.kept {C n d : String} {A : Nat → Prop} {U : State} {H H1 : Heap} (h : vx_Zq C n d A U H) (hq : ∀ a : Nat, a < H.size → ¬ A a → H1[a]? = H[a]?) : vx_Zq C n d A U H1 := ⟨va_Zq.kept h.1 hq, vx_L.kept h.2 hq⟩
theorem vx_Zq.narrow {C n d : String} {A B : Nat → Prop} {U : State} {H : Heap} (h : vx_Zq C n d A U H) (hAB : ∀ q, B q → A q) : vx_Zq C n d B U H := ⟨va_Zq.narrow h.1 hAB, vx_L.narrow h.2 hAB⟩
theorem vx_Zqof {args : Array Value} {s : State} {C n d : String} {A : Nat → Prop} (hl : (Cond.laysStatic C n d).before args s = true) (hini : (Cond.initialized C).before args s = true) (h : (Cond.isRef (.static C n d)).before args s = true) (hA : ∀ a : Nat, a < s.heap.size → ¬ A a) : vx_Zq C n d A s s.heap := by
  refine ⟨va_Zqof hl hini h hA, ?_⟩
  obtain ⟨c, k, i, f, a, cell, h1, h2, h3, h4, h5, h6, h7, h8, h9⟩ := Cond.laysStatic_spec hl
  exact ⟨c, k, i, f, a, cell, h1, h2, h3, h4, h5, h6, h7, h8, h9, hA a (Array.getElem?_eq_some_iff.mp h5).1⟩
theorem vx_isRef {C n d : String} {v : Value} {A : Nat → Prop} {s : State} {args : Array Value} (h : va_Z C n d v A s s.heap) (hv : v.isRef = true) : (Cond.isRef (.static C n d)).before args s = true := by
  obtain ⟨cf, kf, fi, f, a, cell, h1, h2, h3, h4, h5, h6, h7, -⟩ := h
  have he : (Term.static C n d).eval args s none [] s = some v := by
    simp [Term.eval, State.fieldNamed?, h1, h2, h4, h5, h6, h7]
  simp only [Cond.before, Cond.holds, Cond.value, he]
  cases v <;> simp_all [Value.isRef]
theorem vx_isRefq {C n d : String} {A : Nat → Prop} {s : State} {args : Array Value} (h : va_Zq C n d A s s.heap) : (Cond.isRef (.static C n d)).before args s = true := by
  rcases h with h | ⟨t, h⟩
  · exact vx_isRef h rfl
  · exact vx_isRef h rfl
/-- the same frame, seen from here: as if the method were called anew in this heap -/
theorem vx_rebase {T : State} (X : Stand p l e R s m args below meth c T locs cells slots) {R' : Room} (hf : R'.frames ≤ R.frames) (hl : R'.locals ≤ R.locals) (hc : cells + R'.cells ≤ R.cells) (hs : slots + R'.slots ≤ R.slots) :
    Stand p l e R' ((T.setVm s.vm).setFrames (.invoking m args :: below)) m args below meth c T [] 0 0 := by
  have htop : (T.setVm s.vm).topJava?.isSome := X.here.top
  have hF : ((T.setVm s.vm).setFrames (.invoking m args :: below)).frames = .invoking m args :: below := State.frames_setFrames _ (State.cur_lt_of_top htop)
  obtain ⟨g₀, hg0⟩ := Option.isSome_iff_exists.mp htop
  obtain ⟨r, hr⟩ := State.topJava?_eq_some.mp hg0
  have hl9 : e.platform.stackLimits (T.setVm s.vm).me = e.platform.stackLimits s.me := X.limits
  have hb9 : (T.setVm s.vm).me.stackBytes = s.me.stackBytes := X.bytes
  refine ⟨X.admits, X.cas, X.clock, hF, ?_, X.hears, X.method, X.code, X.here, X.tail, X.warmed, ?_, ?_, ?_⟩
  · have h := X.room
    have hU : ((T.setVm s.vm).setFrames (.invoking m args :: below)).localsInUse = s.localsInUse := by
      rw [State.localsInUse_invoking hF (meth := meth) (c := c) X.method X.code, State.localsInUse_invoking X.frames X.method X.code]
    simp only [State.hasRoom, Bool.and_eq_true, decide_eq_true_eq] at h ⊢
    obtain ⟨⟨⟨⟨h1, h2, h3, h4, h5, h6⟩, h7⟩, h8⟩, h9⟩ := h
    rw [X.frames, List.length_cons] at h2 h3
    have q1 := X.heapSize
    have q2 := X.used
    simp only [hF, hU, List.length_cons, State.stackLimits_setFrames, State.stackBytes_setFrames, hl9, hb9]
    refine ⟨⟨⟨⟨by omega, by omega, by omega, by omega, by omega, h6⟩, ?_⟩, ?_⟩, X.book⟩
    · show T.heap.size + R'.cells ≤ e.platform.maxCells
      omega
    · show T.slotsUsed + R'.slots ≤ e.platform.maxSlots
      omega
  · rw [State.stackLimits_setFrames]; rfl
  · rw [State.stackBytes_setFrames]; rfl
  · refine ⟨?_, Nat.le_refl _, Nat.le_refl _, ?_, ?_, fun a c9 h9 => ⟨c9, h9, rfl, rfl, fun _ _ => rfl⟩⟩
    · obtain ⟨t, ht, -⟩ := State.frames_cons hr
      show T.setVm s.vm = { ((T.setVm s.vm).setFrames (.invoking m args :: below)).setFrames (T.setVm s.vm).frames with heap := T.heap, slotsUsed := T.slotsUsed }
      rw [State.setFrames_setFrames, State.setFrames_self ht]
      rfl
    · show T.slotsUsed = T.slotsUsed + ((T.heap.toList.drop T.heap.size).map (·.slots.size)).sum
      rw [List.drop_eq_nil_of_le (Nat.le_of_eq Array.length_toList)]
      rfl
    · show ((T.heap.toList.drop T.heap.size).map (·.slots.size)).sum ≤ 0
      rw [List.drop_eq_nil_of_le (Nat.le_of_eq Array.length_toList)]
      exact Nat.le_refl _
/-- 'throw new E()': new; dup; invokespecial; athrow -/
theorem vx_throw0 {cc : ByteArray} {pc : Nat} (hexec : p.tables.exec = Jvm.exec) (hb : c.code = cc) (hl : l.stackTraces = false) {own cls : String} {names : List String} {ik ic mc ms : Nat} {A : Nat → Prop}
    (hown : s.vm.findClass own = some m.cls) (hcls : Bundle.fit cls = true) (hnames : ∀ n ∈ names, Bundle.fit n = true)
    (hk : (Cond.classLink own ik cls).before args s = true) (hini : (Cond.initialized cls).before args s = true) (hat : ∀ w ∈ vx_at0 own ic cls names, w.before args s = true)
    (hgood : ∀ w ∈ Cond.classLink own ik cls :: Cond.initialized cls :: vx_at0 own ic cls names, vx_ot w = true)
    (hU : vx_Zq Bundle.tN "UNASSIGNED_STACK" Bundle.steD A s s.heap) (hN : vx_Zq Bundle.tN "SUPPRESSED_SENTINEL" Bundle.listD A s s.heap) (hS : va_S A s.heap H locs) (hsize : ls.size = c.maxLocals)
    (d0 : decode cc pc = .ok (.new ik, 3)) (d3 : decode cc (pc + 3) = .ok (.dup, 1)) (d4 : decode cc (pc + 4) = .ok (.invokespecial ic, 3)) (d7 : decode cc (pc + 7) = .ok (.athrow, 1))
    (hout : ∀ x ∈ c.exceptionTable.toList, covers x (pc + 7) = false)
    (hRframes : names.length + 3 < R.frames) (hRlocals : (rest.map fun v => v.category).sum + (13 * (names.length + 1) + 42) ≤ R.locals) (hRcells : cells + 1 ≤ R.cells) (hRslots : slots + 6 ≤ R.slots) (hlocks : meth.locks = false)
    (hx : ∀ t : State, s.vm.Alike t.vm → H.size ≤ t.heap.size → (∀ q : Nat, q < H.size → t.heap[q]? = H[q]?) → XC cls s t)
    (hf : ∀ z ∈ locs, free z.base) (hc : cells + 1 ≤ mc) (hs : slots + 6 ≤ ms) :
    W p l e R s m args below meth c H locs cells slots (vx_MQ below Qc XC args s mc ms free) (F0 m pc ls rest) := by
  intro T hT X
  have htr : e.platform.stackTraces = false := (show e.platform.stackTraces = l.stackTraces by rw [X.admits.platform]).trans hl
  have Y := vx_rebase X (R' := { frames := R.frames, locals := R.locals, cells := 1, slots := 6 }) (Nat.le_refl _) (Nat.le_refl _) hRcells hRslots
  obtain ⟨s', hA⟩ : ∃ z, z = (T.setVm s.vm).setFrames (.invoking m args :: below) := ⟨_, rfl⟩
  rw [← hA] at Y
  have hvm : s'.vm = s.vm := by rw [hA]; rfl
  have hhp : s'.heap = H := by rw [hA]; exact hT
  have hW0 : s.WarmedH s'.vm := by rw [hvm]; exact State.WarmedH.refl s
  have hat' : ∀ w ∈ vx_at0 own ic cls names, w.before args s' = true := fun w hw => vx_ot_at hW0 hvm.symm (hgood w (List.mem_cons_of_mem _ (List.mem_cons_of_mem _ hw))) (hat w hw)
  have hk' : (Cond.classLink own ik cls).before args s' = true := vx_ot_at hW0 hvm.symm (hgood _ List.mem_cons_self) hk
  have hini' : (Cond.initialized cls).before args s' = true := vx_ot_at hW0 hvm.symm (hgood _ (List.mem_cons_of_mem _ List.mem_cons_self)) hini
  have hU' : vx_Zq Bundle.tN "UNASSIGNED_STACK" Bundle.steD A s' s'.heap := by rw [hhp]; exact vx_Zq.moved hW0.alike (hU.kept hS.2.1)
  have hN' : vx_Zq Bundle.tN "SUPPRESSED_SENTINEL" Bundle.listD A s' s'.heap := by rw [hhp]; exact vx_Zq.moved hW0.alike (hN.kept hS.2.1)
  have h : ∀ w ∈ Bundle.ownAtoms0 own ic cls names, w.before args s' = true := vx_own hat' (vx_isRefq hU'.1) (vx_isRefq hN'.1) hU'.2.word hN'.2.word
  have hown' : s'.vm.findClass own = some m.cls := by rw [hvm]; exact hown
  have hins : (Cond.instantiable cls 6).before args s' = true := h _ (by simp [Bundle.ownAtoms0])
  obtain ⟨vm₁, cX, kX, hfX, hkX, -, -, X₁, st1⟩ := Y.newCold hexec (own := own) (C := cls) (index := ik) (n := 6) hown' hk' hins hini'
    (g := F0 m pc ls rest) rfl (by rw [hb]; exact d0) (Nat.le_refl _) (Nat.le_refl _)
  generalize hT1 : (T.setVm vm₁).pushCell { cls := cX, slots := kX.instanceTypes.map defaultValue, vm := .none } = T1 at X₁ st1
  have hcat : (Value.ref T.heap.size).category = 1 := rfl
  have hcellA : T1.heap[T.heap.size]? = some (freshCell cX kX) := by rw [← hT1]; exact State.heap_pushCell_size _ _
  have d3' : decode c.code (pc + 3) = .ok (.dup, 1) := by rw [hb]; exact d3
  obtain ⟨U, hsteps, hrun, hend, hW, hsame, ce, hce, hO⟩ := X₁.ctorThrow0 hexec htr (own := own) (cls := cls) (names := names) (ic := ic) hown' hcls hnames h (fun x hx => nomatch hx) hfX hkX hcellA (by rw [hhp, hT]; exact Nat.le_refl _)
    (g := { method := m, pc := pc + 4, locals := ls, stack := .ref T.heap.size :: .ref T.heap.size :: rest, locked := none }) rfl hsize rfl rfl (rest := rest) rfl
    (by rw [hb]; exact d4) (by rw [hb]; exact d7) hout hRframes (by simp only [List.map_cons, List.sum_cons, hcat]; omega) hlocks
  obtain ⟨f1, f2⟩ := vx_frame hsame
  rw [hhp] at f1 f2
  have hWs : s.WarmedH U.vm := State.WarmedH.trans hW0 hW
  have hcl : s.vm.findClass cls = some ce.cls := by
    have h9 := hO.cls
    rw [hvm] at h9
    exact h9
  have hall : s.sameButNew ({ U with vm := s.vm } : State) locs mc ms := by
    subst hA
    obtain ⟨e1, e2⟩ := hsame
    rw [State.setFrames_setFrames] at e1
    have h2 : (T.setVm s.vm).sameButNew ({ U with vm := s.vm } : State) [] (0 + 1) (0 + 6) := ⟨e1, e2⟩
    have h3 := X.same.trans h2
    rw [List.append_nil] at h3
    exact h3.mono hc hs
  refine ⟨U, ?_, .threw T.heap.size, hrun, hend, Or.inr ⟨T.heap.size, rfl, cls, ce, locs, hx U hWs.alike f1 (fun q hq => f2 q hq (fun z hz => nomatch hz)), hce, hO.vm, hcl, hWs, hall, hf⟩⟩
  refine st1 _ ?_
  show Steps p.tables e below (T1.setTop { method := m, pc := pc + 3, locals := ls, stack := .ref T.heap.size :: rest, locked := none }) _
  jvm_step X₁.here [X₁.here.top, hexec, d3', Value.category]
  exact hsteps
/-- 'throw new E("text")': new; dup; ldc; invokespecial; athrow -/
theorem vx_throwS {cc : ByteArray} {pc : Nat} (hexec : p.tables.exec = Jvm.exec) (hb : c.code = cc) (hl : l.stackTraces = false) {own cls text : String} {names : List String} {ik is ic mc ms sa : Nat} {A : Nat → Prop}
    (hown : s.vm.findClass own = some m.cls) (hcls : Bundle.fit cls = true) (hnames : ∀ n ∈ names, Bundle.fit n = true)
    (hk : (Cond.classLink own ik cls).before args s = true) (hini : (Cond.initialized cls).before args s = true) (hstr : vk_R own is text sa s) (hat : ∀ w ∈ vx_atS own ic cls names, w.before args s = true)
    (hgood : ∀ w ∈ Cond.classLink own ik cls :: Cond.initialized cls :: vx_atS own ic cls names, vx_ot w = true)
    (hU : vx_Zq Bundle.tN "UNASSIGNED_STACK" Bundle.steD A s s.heap) (hN : vx_Zq Bundle.tN "SUPPRESSED_SENTINEL" Bundle.listD A s s.heap) (hS : va_S A s.heap H locs) (hsize : ls.size = c.maxLocals)
    (d0 : decode cc pc = .ok (.new ik, 3)) (d3 : decode cc (pc + 3) = .ok (.dup, 1)) (d4 : decode cc (pc + 4) = .ok (.ldc is, 2)) (d6 : decode cc (pc + 6) = .ok (.invokespecial ic, 3)) (d9 : decode cc (pc + 9) = .ok (.athrow, 1))
    (hout : ∀ x ∈ c.exceptionTable.toList, covers x (pc + 9) = false)
    (hRframes : names.length + 3 < R.frames) (hRlocals : (rest.map fun v => v.category).sum + (13 * (names.length + 1) + 43) ≤ R.locals) (hRcells : cells + 1 ≤ R.cells) (hRslots : slots + 6 ≤ R.slots) (hlocks : meth.locks = false)
    (hx : ∀ t : State, s.vm.Alike t.vm → H.size ≤ t.heap.size → (∀ q : Nat, q < H.size → t.heap[q]? = H[q]?) → XC cls s t)
    (hf : ∀ z ∈ locs, free z.base) (hc : cells + 1 ≤ mc) (hs : slots + 6 ≤ ms) :
    W p l e R s m args below meth c H locs cells slots (vx_MQ below Qc XC args s mc ms free) (F0 m pc ls rest) := by
  intro T hT X
  have htr : e.platform.stackTraces = false := (show e.platform.stackTraces = l.stackTraces by rw [X.admits.platform]).trans hl
  have Y := vx_rebase X (R' := { frames := R.frames, locals := R.locals, cells := 1, slots := 6 }) (Nat.le_refl _) (Nat.le_refl _) hRcells hRslots
  obtain ⟨s', hA⟩ : ∃ z, z = (T.setVm s.vm).setFrames (.invoking m args :: below) := ⟨_, rfl⟩
  rw [← hA] at Y
  have hvm : s'.vm = s.vm := by rw [hA]; rfl
  have hhp : s'.heap = H := by rw [hA]; exact hT
  have hW0 : s.WarmedH s'.vm := by rw [hvm]; exact State.WarmedH.refl s
  have hat' : ∀ w ∈ vx_atS own ic cls names, w.before args s' = true := fun w hw => vx_ot_at hW0 hvm.symm (hgood w (List.mem_cons_of_mem _ (List.mem_cons_of_mem _ hw))) (hat w hw)
  have hk' : (Cond.classLink own ik cls).before args s' = true := vx_ot_at hW0 hvm.symm (hgood _ List.mem_cons_self) hk
  have hini' : (Cond.initialized cls).before args s' = true := vx_ot_at hW0 hvm.symm (hgood _ (List.mem_cons_of_mem _ List.mem_cons_self)) hini
  have hU' : vx_Zq Bundle.tN "UNASSIGNED_STACK" Bundle.steD A s' s'.heap := by rw [hhp]; exact vx_Zq.moved hW0.alike (hU.kept hS.2.1)
  have hN' : vx_Zq Bundle.tN "SUPPRESSED_SENTINEL" Bundle.listD A s' s'.heap := by rw [hhp]; exact vx_Zq.moved hW0.alike (hN.kept hS.2.1)
  have h : ∀ w ∈ Bundle.ownAtoms own ic cls names, w.before args s' = true := vx_own hat' (vx_isRefq hU'.1) (vx_isRefq hN'.1) hU'.2.word hN'.2.word
  have hown' : s'.vm.findClass own = some m.cls := by rw [hvm]; exact hown
  have hins : (Cond.instantiable cls 6).before args s' = true := h _ (by simp [Bundle.ownAtoms])
  obtain ⟨vm₁, cX, kX, hfX, hkX, -, -, X₁, st1⟩ := Y.newCold hexec (own := own) (C := cls) (index := ik) (n := 6) hown' hk' hins hini'
    (g := F0 m pc ls rest) rfl (by rw [hb]; exact d0) (Nat.le_refl _) (Nat.le_refl _)
  generalize hT1 : (T.setVm vm₁).pushCell { cls := cX, slots := kX.instanceTypes.map defaultValue, vm := .none } = T1 at X₁ st1
  have hcat : (Value.ref T.heap.size).category = 1 := rfl
  have hcellA : T1.heap[T.heap.size]? = some (freshCell cX kX) := by rw [← hT1]; exact State.heap_pushCell_size _ _
  have d3' : decode c.code (pc + 3) = .ok (.dup, 1) := by rw [hb]; exact d3
  have d4' : decode c.code (pc + 4) = .ok (.ldc is, 2) := by rw [hb]; exact d4
  have hstr' : vk_R own is text sa s' := vk_R.warm hW0 hstr
  obtain ⟨U, hsteps, hrun, hend, hW, hsame, ce, hce, hO⟩ := X₁.ctorThrowS hexec htr (own := own) (cls := cls) (names := names) (ic := ic) hown' hcls hnames h (fun x hx => nomatch hx) hfX hkX hcellA (by rw [hhp, hT]; exact Nat.le_refl _) (msg := .ref sa) rfl
    (g := { method := m, pc := pc + 6, locals := ls, stack := .ref sa :: .ref T.heap.size :: .ref T.heap.size :: rest, locked := none }) rfl hsize rfl rfl (rest := rest) rfl
    (by rw [hb]; exact d6) (by rw [hb]; exact d9) hout hRframes (by simp only [List.map_cons, List.sum_cons, hcat]; omega) hlocks
  obtain ⟨f1, f2⟩ := vx_frame hsame
  rw [hhp] at f1 f2
  have hWs : s.WarmedH U.vm := State.WarmedH.trans hW0 hW
  have hcl : s.vm.findClass cls = some ce.cls := by
    have h9 := hO.cls
    rw [hvm] at h9
    exact h9
  have hall : s.sameButNew ({ U with vm := s.vm } : State) locs mc ms := by
    subst hA
    obtain ⟨e1, e2⟩ := hsame
    rw [State.setFrames_setFrames] at e1
    have h2 : (T.setVm s.vm).sameButNew ({ U with vm := s.vm } : State) [] (0 + 1) (0 + 6) := ⟨e1, e2⟩
    have h3 := X.same.trans h2
    rw [List.append_nil] at h3
    exact h3.mono hc hs
  refine ⟨U, ?_, .threw T.heap.size, hrun, hend, Or.inr ⟨T.heap.size, rfl, cls, ce, locs, hx U hWs.alike f1 (fun q hq => f2 q hq (fun z hz => nomatch hz)), hce, hO.vm, hcl, hWs, hall, hf⟩⟩
  refine st1 _ ?_
  show Steps p.tables e below (T1.setTop { method := m, pc := pc + 3, locals := ls, stack := .ref T.heap.size :: rest, locked := none }) _
  jvm_step X₁.here [X₁.here.top, hexec, d3', Value.category]
  exact X₁.ldcString hexec (own := own) (text := text) (index := is) (a := sa) hown' hstr'.1 hstr'.2
    (g := { method := m, pc := pc + 4, locals := ls, stack := .ref T.heap.size :: .ref T.heap.size :: rest, locked := none }) rfl d4' _ hsteps
/-- 'throw new E("text")', the text by a wide index -/
theorem vx_throwSW {cc : ByteArray} {pc : Nat} (hexec : p.tables.exec = Jvm.exec) (hb : c.code = cc) (hl : l.stackTraces = false) {own cls text : String} {names : List String} {ik is ic mc ms sa : Nat} {A : Nat → Prop}
    (hown : s.vm.findClass own = some m.cls) (hcls : Bundle.fit cls = true) (hnames : ∀ n ∈ names, Bundle.fit n = true)
    (hk : (Cond.classLink own ik cls).before args s = true) (hini : (Cond.initialized cls).before args s = true) (hstr : vk_R own is text sa s) (hat : ∀ w ∈ vx_atS own ic cls names, w.before args s = true)
    (hgood : ∀ w ∈ Cond.classLink own ik cls :: Cond.initialized cls :: vx_atS own ic cls names, vx_ot w = true)
    (hU : vx_Zq Bundle.tN "UNASSIGNED_STACK" Bundle.steD A s s.heap) (hN : vx_Zq Bundle.tN "SUPPRESSED_SENTINEL" Bundle.listD A s s.heap) (hS : va_S A s.heap H locs) (hsize : ls.size = c.maxLocals)
    (d0 : decode cc pc = .ok (.new ik, 3)) (d3 : decode cc (pc + 3) = .ok (.dup, 1)) (d4 : decode cc (pc + 4) = .ok (.ldc_w is, 3)) (d7 : decode cc (pc + 7) = .ok (.invokespecial ic, 3)) (d10 : decode cc (pc + 10) = .ok (.athrow, 1))
    (hout : ∀ x ∈ c.exceptionTable.toList, covers x (pc + 10) = false)
    (hRframes : names.length + 3 < R.frames) (hRlocals : (rest.map fun v => v.category).sum + (13 * (names.length + 1) + 43) ≤ R.locals) (hRcells : cells + 1 ≤ R.cells) (hRslots : slots + 6 ≤ R.slots) (hlocks : meth.locks = false)
    (hx : ∀ t : State, s.vm.Alike t.vm → H.size ≤ t.heap.size → (∀ q : Nat, q < H.size → t.heap[q]? = H[q]?) → XC cls s t)
    (hf : ∀ z ∈ locs, free z.base) (hc : cells + 1 ≤ mc) (hs : slots + 6 ≤ ms) :
    W p l e R s m args below meth c H locs cells slots (vx_MQ below Qc XC args s mc ms free) (F0 m pc ls rest) := by
  intro T hT X
  have htr : e.platform.stackTraces = false := (show e.platform.stackTraces = l.stackTraces by rw [X.admits.platform]).trans hl
  have Y := vx_rebase X (R' := { frames := R.frames, locals := R.locals, cells := 1, slots := 6 }) (Nat.le_refl _) (Nat.le_refl _) hRcells hRslots
  obtain ⟨s', hA⟩ : ∃ z, z = (T.setVm s.vm).setFrames (.invoking m args :: below) := ⟨_, rfl⟩
  rw [← hA] at Y
  have hvm : s'.vm = s.vm := by rw [hA]; rfl
  have hhp : s'.heap = H := by rw [hA]; exact hT
  have hW0 : s.WarmedH s'.vm := by rw [hvm]; exact State.WarmedH.refl s
  have hat' : ∀ w ∈ vx_atS own ic cls names, w.before args s' = true := fun w hw => vx_ot_at hW0 hvm.symm (hgood w (List.mem_cons_of_mem _ (List.mem_cons_of_mem _ hw))) (hat w hw)
  have hk' : (Cond.classLink own ik cls).before args s' = true := vx_ot_at hW0 hvm.symm (hgood _ List.mem_cons_self) hk
  have hini' : (Cond.initialized cls).before args s' = true := vx_ot_at hW0 hvm.symm (hgood _ (List.mem_cons_of_mem _ List.mem_cons_self)) hini
  have hU' : vx_Zq Bundle.tN "UNASSIGNED_STACK" Bundle.steD A s' s'.heap := by rw [hhp]; exact vx_Zq.moved hW0.alike (hU.kept hS.2.1)
  have hN' : vx_Zq Bundle.tN "SUPPRESSED_SENTINEL" Bundle.listD A s' s'.heap := by rw [hhp]; exact vx_Zq.moved hW0.alike (hN.kept hS.2.1)
  have h : ∀ w ∈ Bundle.ownAtoms own ic cls names, w.before args s' = true := vx_own hat' (vx_isRefq hU'.1) (vx_isRefq hN'.1) hU'.2.word hN'.2.word
  have hown' : s'.vm.findClass own = some m.cls := by rw [hvm]; exact hown
  have hins : (Cond.instantiable cls 6).before args s' = true := h _ (by simp [Bundle.ownAtoms])
  obtain ⟨vm₁, cX, kX, hfX, hkX, -, -, X₁, st1⟩ := Y.newCold hexec (own := own) (C := cls) (index := ik) (n := 6) hown' hk' hins hini'
    (g := F0 m pc ls rest) rfl (by rw [hb]; exact d0) (Nat.le_refl _) (Nat.le_refl _)
  generalize hT1 : (T.setVm vm₁).pushCell { cls := cX, slots := kX.instanceTypes.map defaultValue, vm := .none } = T1 at X₁ st1
  have hcat : (Value.ref T.heap.size).category = 1 := rfl
  have hcellA : T1.heap[T.heap.size]? = some (freshCell cX kX) := by rw [← hT1]; exact State.heap_pushCell_size _ _
  have d3' : decode c.code (pc + 3) = .ok (.dup, 1) := by rw [hb]; exact d3
  have d4' : decode c.code (pc + 4) = .ok (.ldc_w is, 3) := by rw [hb]; exact d4
  have hstr' : vk_R own is text sa s' := vk_R.warm hW0 hstr
  obtain ⟨U, hsteps, hrun, hend, hW, hsame, ce, hce, hO⟩ := X₁.ctorThrowS hexec htr (own := own) (cls := cls) (names := names) (ic := ic) hown' hcls hnames h (fun x hx => nomatch hx) hfX hkX hcellA (by rw [hhp, hT]; exact Nat.le_refl _) (msg := .ref sa) rfl
    (g := { method := m, pc := pc + 7, locals := ls, stack := .ref sa :: .ref T.heap.size :: .ref T.heap.size :: rest, locked := none }) rfl hsize rfl rfl (rest := rest) rfl
    (by rw [hb]; exact d7) (by rw [hb]; exact d10) hout hRframes (by simp only [List.map_cons, List.sum_cons, hcat]; omega) hlocks
  obtain ⟨f1, f2⟩ := vx_frame hsame
  rw [hhp] at f1 f2
  have hWs : s.WarmedH U.vm := State.WarmedH.trans hW0 hW
  have hcl : s.vm.findClass cls = some ce.cls := by
    have h9 := hO.cls
    rw [hvm] at h9
    exact h9
  have hall : s.sameButNew ({ U with vm := s.vm } : State) locs mc ms := by
    subst hA
    obtain ⟨e1, e2⟩ := hsame
    rw [State.setFrames_setFrames] at e1
    have h2 : (T.setVm s.vm).sameButNew ({ U with vm := s.vm } : State) [] (0 + 1) (0 + 6) := ⟨e1, e2⟩
    have h3 := X.same.trans h2
    rw [List.append_nil] at h3
    exact h3.mono hc hs
  refine ⟨U, ?_, .threw T.heap.size, hrun, hend, Or.inr ⟨T.heap.size, rfl, cls, ce, locs, hx U hWs.alike f1 (fun q hq => f2 q hq (fun z hz => nomatch hz)), hce, hO.vm, hcl, hWs, hall, hf⟩⟩
  refine st1 _ ?_
  show Steps p.tables e below (T1.setTop { method := m, pc := pc + 3, locals := ls, stack := .ref T.heap.size :: rest, locked := none }) _
  jvm_step X₁.here [X₁.here.top, hexec, d3', Value.category]
  exact X₁.ldcStringW hexec (own := own) (text := text) (index := is) (a := sa) hown' hstr'.1 hstr'.2
    (g := { method := m, pc := pc + 4, locals := ls, stack := .ref T.heap.size :: .ref T.heap.size :: rest, locked := none }) rfl d4' _ hsteps
end Ends
section Bodies
variable {l : Launch}
theorem vx_ofW {y : MethodName} {ws ws' : List Cond} {rm : Room} {Pc : Array Value → State → Prop} {Qc : Array Value → State → Outcome → State → Prop} {XC : String → State → State → Prop} {mc ms : Nat} {free : Addr → Prop} {cc : ByteArray} {maxL : Nat} {ret : Option FieldType}
    (hy : plainName y.cls = true) (hw : ws = Cond.code y cc maxL ret :: ws')
    (body : ∀ p e s m args below meth c s₁, BodyLoose p l y (headSpec ws rm) cc maxL ret e s m args below meth c s₁ → c.maxLocals = maxL → (∀ x ∈ c.exceptionTable.toList, False) → Pc args s →
      W p l e (headSpec ws rm).room s m args below meth c s.heap [] 0 0 (vx_MQ below Qc XC args s mc ms free) (entryFrame m args maxL)) : vx_Met l y ws rm Pc Qc XC mc ms free := by
  refine MetFree.of_bodyS (code := cc) (maxLocals := maxL) (ret := ret) hy ?_ ?_
  · intro args s m h hn
    obtain ⟨meth, c, h1, h2, h3, h4, h5, h6, -, -⟩ := Cond.code_spec hn (atoms_spec (ws := ws) h _ (by rw [hw]; exact List.mem_cons_self))
    exact ⟨meth, c, h1, h2, h3, h4, h5, h6⟩
  · intro p e s m args below meth c s₁ B hml hP _
    have hh0 : s₁.heap = s.heap := by rw [B.state]; rfl
    have ht : ∀ x ∈ c.exceptionTable.toList, False := by
      obtain ⟨meth9, c9, h1, h2, -, -, -, -, h7, -⟩ := Cond.code_spec B.named (atoms_spec (ws := ws) B.pre _ (by rw [hw]; exact List.mem_cons_self))
      cases Option.some.inj (h1.symm.trans B.method)
      cases Option.some.inj (h2.symm.trans (Stand.of_body B).code)
      intro x hx
      rw [Array.isEmpty_iff.mp h7] at hx
      cases hx
    obtain ⟨t, a1, o, b1, b2, b3⟩ := body p e s m args below meth c s₁ B hml ht hP s₁ hh0 (Stand.of_body B)
    exact ⟨t, o, a1, b1, b2, b3⟩
/-- the table of a body with handlers -/
theorem vx_table {p : Program} {x y : MethodName} {S : Spec} {cc bytes : ByteArray} {maxL maxL' : Nat} {ret ret' : Option FieldType} {e : Env} {s s₁ : State} {m : MethodId} {args : Array Value} {below : List Frame} {meth : Method} {c : Code} {hh : List (Nat × Nat × Nat × Nat)}
    (B : BodyLoose p l y S cc maxL ret e s m args below meth c s₁) (h : (Cond.codeWith y bytes maxL' ret' hh).before args s = true) : c.exceptionTable.toList = tableOf hh := by
  obtain ⟨m9, meth9, c9, hn9, h1, h2, -, -, h6, -⟩ := Cond.codeWith_spec h
  cases Option.some.inj (hn9.symm.trans B.named)
  cases Option.some.inj (h1.symm.trans B.method)
  cases Option.some.inj (h2.symm.trans (Stand.of_body B).code)
  rw [← h6, table_eq]
end Bodies
end VXA
/-! ===== END ===== -/
/-! ===== BEGIN a static call of a method with an exception table ===== -/
section VXS
variable {p : Program} {l : Launch} {e : Env} {R : Room} {s : State} {m : MethodId} {args : Array Value} {below : List Frame} {meth : Method} {c : Code} {T : State} {H : Heap} {locs : List Loc} {cells slots : Nat}
abbrev vx_CSW (R : Room) (s : State) (args : Array Value) (own : String) (index : Nat) (y : MethodName) (bytes : ByteArray) (maxL : Nat) (ret : Option FieldType) (hh : List (Nat × Nat × Nat × Nat)) (ws : List Cond) (rm : Room) (mc ms n : Nat) : Prop :=
  (rm.cells = mc ∧ rm.slots = ms ∧ rm.frames + 1 ≤ R.frames ∧ 8 + (maxL + 11) + rm.locals ≤ R.locals ∧ (∀ w ∈ ws, ∀ (a' : Array Value) (U : State), s.WarmedH U.vm → w.before a' U = true) ∧ Cond.codeWith y bytes maxL ret hh ∈ ws) ∧
  (Cond.codeWith y bytes maxL ret hh).before args s = true ∧ (Cond.initialized y.cls).before args s = true ∧ (y.cls ≠ "java/lang/invoke/MethodHandle" ∧ y.cls ≠ "java/lang/invoke/VarHandle") ∧
  (∀ sig, parseMethodDescriptor y.desc = some sig → n = sig.parameters.length) ∧ (Cond.methodLink own index y).before args s = true ∧ (Cond.static y).before args s = true
theorem vx_cwSW {own : String} {index maxL mc ms : Nat} {y : MethodName} {bytes : ByteArray} {ret : Option FieldType} {hh : List (Nat × Nat × Nat × Nat)} {Ts ws ws' : List Cond} {rm : Room} (n : Nat) (ht : ∀ w ∈ Ts, w.before args s = true) (hT : GoodIn Ts (va_wsS own index y ws)) (hw : ws = Cond.codeWith y bytes maxL ret hh :: ws') (hrc : rm.cells = mc) (hrs : rm.slots = ms)
    (hd : y.cls ≠ "java/lang/invoke/MethodHandle" ∧ y.cls ≠ "java/lang/invoke/VarHandle" ∧ (parseMethodDescriptor y.desc).map (fun d => d.parameters.length) = some n) (hR : rm.frames + 1 ≤ R.frames ∧ 8 + (maxL + 11) + rm.locals ≤ R.locals) :
    vx_CSW R s args own index y bytes maxL ret hh ws rm mc ms n := by
  have ok : ∀ w ∈ va_wsS own index y ws, w.before args s = true := fun w h => ht w (hT w h).1
  have hG : GoodIn Ts ws := fun w h => hT w (by unfold va_wsS; exact List.mem_append_right _ h)
  have hc : Cond.codeWith y bytes maxL ret hh ∈ ws := by rw [hw]; exact List.mem_cons_self
  refine ⟨⟨hrc, hrs, hR.1, hR.2, pay_in ht hG, hc⟩, ht _ (hG _ hc).1, ok _ (by simp [va_wsS]), ⟨hd.1, hd.2.1⟩, fun sig h => ?_, ok _ (by simp [va_wsS]), ok _ (by simp [va_wsS])⟩
  have h2 := hd.2.2
  rw [h] at h2
  exact (Option.some.inj h2).symm
theorem vx_callSW (X : Stand p l e R s m args below meth c T locs cells slots) (hexec : p.tables.exec = Jvm.exec) {own : String} {index : Nat} {y : MethodName} {bytes : ByteArray} {maxL : Nat} {ret : Option FieldType} {hh : List (Nat × Nat × Nat × Nat)}
    (hown : s.vm.findClass own = some m.cls) (hlink : (Cond.methodLink own index y).before args s = true) (hstat : (Cond.static y).before args s = true) (hinit : (Cond.initialized y.cls).before args s = true)
    (hcode : (Cond.codeWith y bytes maxL ret hh).before args s = true) (hy : y.cls ≠ "java/lang/invoke/MethodHandle" ∧ y.cls ≠ "java/lang/invoke/VarHandle")
    {W9 : Nat} {Pre : Pt → Array Value → Prop} {Post : Pt → Array Value → Option Value → Pt → Prop} (hK : Back l R p e below s args y 3 W9 Pre Post)
    {g : JFrame} (hg : g.method = m) (hsize : g.locals.size = c.maxLocals) {argsL rest : List Value} (hlen : ∀ sig, parseMethodDescriptor y.desc = some sig → argsL.length = sig.parameters.length)
    (hstack : g.stack = argsL.reverse ++ rest) (hW : 2 * g.monitorRoom + (rest.map fun v => v.category).sum ≤ W9) (hdg : decode c.code g.pc = .ok (.invokestatic index, 3))
    (hpre : ∀ vm₁, s.WarmedH vm₁ → Pre ⟨T.setVm vm₁, locs, cells, slots⟩ argsL.toArray) :
    ∃ (v : Option Value) (vm₁ : Vm) (B : Pt), s.WarmedH vm₁ ∧ Stand p l e R s m args below meth c B.U B.locs B.cells B.slots ∧ Post ⟨T.setVm vm₁, locs, cells, slots⟩ argsL.toArray v B ∧
      ∀ target, Steps p.tables e below (B.U.setTop { g with pc := g.pc + 3, stack := v.toList ++ rest }) target → Steps p.tables e below (T.setTop g) target := by
  obtain ⟨mk, methM, cM, hnamed, hmethM, -, -, -, -, -, -, hsigM⟩ := Cond.codeWith_spec hcode
  have hstatic : methM.isStatic = true := Cond.static_spec hnamed hmethM hstat
  obtain ⟨kP, hkP, -⟩ := className_of_methodNamed hnamed
  have hinitP : kP.init = .initialized := Cond.initialized_spec (findClass_of_methodNamed hnamed) hkP hinit
  obtain ⟨vm₁, X₁, hstep₁⟩ := X.invokestatic hexec hown hlink hnamed hmethM hstatic hkP hinitP hy (g := g) hg (argsL := argsL) (rest := rest) (hlen _ hsigM) hstack hdg
  obtain ⟨v, B, X', hpost, hsteps⟩ := hK m meth c ⟨T.setVm vm₁, locs, cells, slots⟩ { g with stack := rest } (.invokestatic index) mk argsL.toArray X₁ hg hsize hdg hW (X₁.named hnamed) (hpre vm₁ X₁.warmed)
  exact ⟨v, vm₁, B, X₁.warmed, X', hpost, fun target h => hstep₁ _ fun acts => by rw [doInvoke_state]; exact hsteps.trans h⟩
theorem vx_runSW {y : MethodName} {bytes cc : ByteArray} {maxL nL mc ms n index : Nat} {ret : Option FieldType} {hh : List (Nat × Nat × Nat × Nat)} {ws : List Cond} {rm : Room} {Pc : Array Value → State → Prop} {Qc : Array Value → State → Outcome → State → Prop} {free : Addr → Prop} {Ts : List Cond} {own : String} {As rest : List Value} {g : JFrame}
    (S : CallFix p m c cc nL s args Ts own) (hM : Met l y ws rm Pc Qc mc ms free) (cw : vx_CSW R s args own index y bytes maxL ret hh ws rm mc ms n) (hp : PreS s H Pc As)
    (hg : g.method = m) (hn : As.length = n) (hsize : g.locals.size = nL) (hstack : g.stack = As.reverse ++ rest) (hW : 2 * g.monitorRoom + (rest.map fun v => v.category).sum ≤ 8) (hdg : decode cc g.pc = .ok (.invokestatic index, 3)) (hf : cells + mc ≤ R.cells ∧ slots + ms ≤ R.slots) :
    va_Run p l e R s m args below meth c H locs cells slots mc ms g rest (Qc As.toArray) (free) := by
  obtain ⟨⟨hrc, hrs, hfr, hlo, hws, hcw⟩, hcode, hini, hy, hlen, hl, hstt⟩ := cw
  have hK : Back l R p e below s args y 3 8 (PreOf R mc ms Pc) (PostOf Qc mc ms free) := va_backW (hh := hh) (bytes := bytes) (maxL := maxL) (ret := ret) hM hp.1 hrc hrs hfr hlo hws hcw (fun a' U hW => word_at hW (Or.inl (by first | rfl | simp [Cond.onTables, Cond.keeps, Cond.steady])) hini)
  obtain ⟨hx, hb, hml, ho, -⟩ := S
  intro T hT X
  obtain ⟨v, vm₁, ⟨U', l2, c2, s2⟩, hW₁, X', ⟨g', mk, t, L, e1, e2, hq, h1, hL, h2, h3⟩, st⟩ := vx_callSW X hx (hh := hh) (bytes := bytes) (maxL := maxL) (ret := ret) ho hl hstt hini hcode hy hK hg (hsize.trans hml.symm) (argsL := As) (rest := rest) (fun sig h => hn.trans (hlen sig h)) hstack hW (by rw [hb]; exact hdg)
    (fun vm₁ hW₁ => ⟨hf.1, hf.2, hp.2 (T.setVm vm₁) hT hW₁⟩)
  dsimp only [Pt.U, Pt.locs, Pt.cells, Pt.slots] at X' e1 e2 h1 h2 h3 st
  subst h1; subst h2; subst h3
  exact ⟨v, (T.setVm vm₁).calling g' mk As.toArray, t, U', L, hT, X', hL, e1, e2, hq, st⟩
/-- not caught here, past rows that name other classes: it goes on to the caller -/
theorem vx_outP {p : Program} {l : Launch} {e : Env} {R : Room} {s : State} {m : MethodId} {args : Array Value} {below : List Frame} {meth : Method} {c : Code} {H : Heap} {locs : List Loc} {cells slots : Nat} {free : Addr → Prop} {ls : Array Slot} {rest : List Value} {Qc : Array Value → State → Outcome → State → Prop} {XC : String → State → State → Prop}
    {pc : Nat} {own E : String} {ce : Cell} {q : Addr} {mc ms : Nat} (hown : s.vm.findClass own = some m.cls) (hlocks : meth.locks = false)
    (hpass : ∀ z ∈ c.exceptionTable.toList, covers z pc = false ∨ (z.catchType ≠ 0 ∧ ∃ nm : String, (Cond.classLink own z.catchType nm).before args s = true ∧ va_Nc E nm s)) (hcell : H[q]? = some ce) (hv : ce.vm = .none) (hcl : s.vm.findClass E = some ce.cls)
    (hx : ∀ t : State, t.heap = H → s.vm.Alike t.vm → XC E s t) (hf : ∀ z ∈ locs, free z.base) (hc : cells ≤ mc) (hs : slots ≤ ms) :
    vx_W p l e R s m args below meth c H locs cells slots (vx_MQ below Qc XC args s mc ms free) (F0 m pc ls rest) q := by
  intro T hT X
  have hpl : e.platform.magicAccessors = ({} : Platform).magicAccessors := by rw [X.admits.platform]
  obtain ⟨vm', hW', X', st⟩ := X.outThrough hlocks q (g := F0 m pc ls rest) rfl rfl rfl (cell := ce) (by rw [hT]; exact hcell) (by rw [hv]; rfl)
    (by obtain ⟨k9, h9, -⟩ := Vm.findClass_spec hcl; exact ⟨k9, h9⟩) (fun z hz => by
      rcases hpass z hz with h | ⟨hz0, nm, hl1, hn1⟩
      · exact Or.inl h
      · obtain ⟨c6, hc6, hcl6⟩ := Cond.classLink_spec hown hl1 e.platform hpl
        obtain ⟨a8, b8, h1, h2, h3⟩ := hn1
        cases Option.some.inj (h1.symm.trans hcl)
        cases Option.some.inj (h2.symm.trans hc6)
        exact Or.inr ⟨hz0, _, hcl6, h3⟩)
  obtain ⟨g₀, hfr⟩ := X'.frames_eq
  have hcell9 : ((T.setVm vm').setFrames (.throwing q :: below)).heap[q]? = some ce := by
    show T.heap[q]? = some ce
    rw [hT]; exact hcell
  have hend : Ended ((T.setVm vm').setFrames (.throwing q :: below)) below (.threw q) := State.frames_setFrames _ (State.cur_lt_of_frames hfr)
  refine ⟨(T.setVm vm').setFrames (.throwing q :: below), ?_, .threw q, X'.here.running, hend, Or.inr ⟨q, rfl, E, ce, locs, hx _ hT (X'.ends _).1.alike, hcell9, hv, hcl, (X'.ends _).1, (X'.ends _).2.mono hc hs, hf⟩⟩
  rw [X.pushThrowing_eq]
  exact st
/-- a thing of a world lies in the heap -/
theorem vx_lt {D : va_G} {cl : List vw_C} {ws : va_W} {H1 : Heap} (h : va_P D cl ws H1) {k : Nat} {q : Nat × va_E} (hk : ws[k]? = some q) : q.1 < H1.size := (h k q hk).lt
end VXS
/-! ===== END ===== -/
/-! ===== BEGIN methods with a table of their own: called by a name, returning or throwing ===== -/
section VXH
/-! vx_backW, vx_callVX, vx_callSX, vx_callVW, vx_runVW, vx_runVX, vx_runSX, vx_ofWH follow the same proofs as their sisters above (Free/Laws.lean, Shelf42/LK1.lean); vx_outP calls Shelf42/NT130.lean (outThrough). -/
section
variable {l : Launch} {R : Room} {p : Program} {e : Env} {below : List Frame} {s : State} {sargs : Array Value} {y : MethodName} {len W9 : Nat}
theorem vx_backW {ws : List Cond} {rm : Room} {Pc : Array Value → State → Prop} {Qc : Array Value → State → Outcome → State → Prop} {XC : String → State → State → Prop} {mc ms : Nat} {free : Addr → Prop} {bytes : ByteArray} {maxL : Nat} {ret : Option FieldType} {hh : List (Nat × Nat × Nat × Nat)}
    (hM : vx_Met l y ws rm Pc Qc XC mc ms free) (hblind : FrameBlind Pc) (hrc : rm.cells = mc) (hrs : rm.slots = ms)
    (hframes : rm.frames + 1 ≤ R.frames) (hlocals : W9 + (maxL + 11) + rm.locals ≤ R.locals)
    (hws : ∀ w ∈ ws, ∀ a' U, s.WarmedH U.vm → w.before a' U = true) (hcode : Cond.codeWith y bytes maxL ret hh ∈ ws) (hinit : ∀ a' U, s.WarmedH U.vm → (Cond.initialized y.cls).before a' U = true) :
    vx_Back l R p e below s sargs y len W9 (PreOf R mc ms Pc) (PostOf Qc mc ms free) (vx_Post XC mc ms free) := by
  intro m meth c A g ig mk a X hg hsize hdg hW hn hp
  have h1 : (headSpec ws rm).pre.before a A.U = true := atoms_intro fun w hw => hws w hw _ _ X.warmed
  have h2 : (Cond.codeWith y bytes maxL ret hh).before a A.U = true := hws _ hcode _ _ X.warmed
  have h3 : (Cond.initialized y.cls).before a A.U = true := hinit _ _ X.warmed
  have h4 : A.cells + (headSpec ws rm).room.cells ≤ R.cells := by rw [show (headSpec ws rm).room.cells = mc from hrc]; exact hp.1
  have h5 : A.slots + (headSpec ws rm).room.slots ≤ R.slots := by rw [show (headSpec ws rm).room.slots = ms from hrs]; exact hp.2.1
  have hPc : Pc a (A.U.calling g mk a) := hblind _ _ _ _ hp.2.2
  obtain ⟨U, Ls, c0, s0⟩ := A
  dsimp only [Pt.U, Pt.locs, Pt.cells, Pt.slots] at h1 h2 h3 h4 h5 X hn hPc ⊢
  obtain ⟨m9, methY, cY, hn9, hmY, hcY, -, hlY, -⟩ := Cond.codeWith_spec h2
  cases Option.some.inj (hn9.symm.trans hn)
  obtain ⟨kY, hkY, -⟩ := className_of_methodNamed hn
  have hinitY : kY.init = .initialized := Cond.initialized_spec (findClass_of_methodNamed hn) hkY h3
  have h : At U g.method c below := by rw [hg]; exact X.here
  have hlocals9 : W9 + (maxL + 11) + (headSpec ws rm).room.locals ≤ R.locals := hlocals
  have happ : (headSpec ws rm).appliesLoose y e.platform (U.calling g mk a) = true :=
    Spec.appliesLoose_calling (g := g) h hdg hn hkY hinitY
      (X.room_calling (g := g) (R' := (headSpec ws rm).room) hsize hmY hcY hframes (by rw [hlY]; omega) h4 h5) h1
  obtain ⟨mid, hmid⟩ := h.above
  have hfr : (U.setTop g).frames = (.java g :: mid) ++ below := by rw [State.frames_setTop' g h.top, hmid]; rfl
  obtain ⟨o, s₂, hsteps, -, hend, hq⟩ := Steps.callFree hM p X.admits X.cas X.clock (acts := []) hfr happ hPc trivial
  have hq' : vx_Q Qc XC mc ms free a (U.calling g mk a) o s₂ := hq
  rw [State.frames_setTop' g h.top] at hend
  obtain ⟨g₀, hg0⟩ := Option.isSome_iff_exists.mp h.top
  obtain ⟨r, hr⟩ := State.topJava?_eq_some.mp hg0
  have hr' : (({ U with heap := s₂.heap, slotsUsed := s₂.slotsUsed } : State).setVm s₂.vm).frames = .java g₀ :: r := hr
  rcases hq' with ⟨hqc, L, hfe, hL⟩ | ⟨q, rfl, E, ce, L, hx, hce, hcv, hcl, hW₂, hsm, hL⟩
  · obtain ⟨⟨v, rfl⟩, hW₂, e2, q2, q3, q4, q5, q6⟩ := id hfe
    have e3 : s₂ = ({ (U.calling g mk a).setFrames s₂.frames with heap := s₂.heap, slotsUsed := s₂.slotsUsed } : State).setVm s₂.vm := by
      have : s₂ = ({ s₂ with vm := (U.calling g mk a).vm } : State).setVm s₂.vm := rfl
      rw [e2] at this
      exact this
    obtain ⟨c₂, i₂, len₂, hc₂, hd₂, hf₂⟩ := hend
    have hW' : U.WarmedH s₂.vm := hW₂
    have hcc : c₂ = c := by
      have h1 : s₂.code? g.method = U.code? g.method := by
        rw [State.code?_eq, State.code?_eq, hW'.alike.method?]
      exact Option.some.inj (hc₂.symm.trans (h1.trans h.code))
    subst hcc
    have hlen : len₂ = len := by rw [hdg] at hd₂; cases hd₂; rfl
    subst hlen
    have hs₂ : s₂ = (({ U with heap := s₂.heap, slotsUsed := s₂.slotsUsed } : State).setVm s₂.vm).setTop { g with pc := g.pc + len₂, stack := v.toList ++ g.stack } := by
      refine e3.trans ?_
      rw [hf₂, State.calling_eq h.top, State.setFrames_setFrames, State.setTop_of_frames _ hr', hr]
      rfl
    have hsame : U.sameButNew ({ U with heap := s₂.heap, slotsUsed := s₂.slotsUsed } : State) L mc ms := by
      refine ⟨?_, q2, q3, q4, q5, q6⟩
      obtain ⟨t, ht, -⟩ := State.frames_cons hr
      show ({ U with heap := s₂.heap, slotsUsed := s₂.slotsUsed } : State) = { U.setFrames U.frames with heap := s₂.heap, slotsUsed := s₂.slotsUsed }
      rw [State.setFrames_self ht]
    subst hg
    refine Or.inl ⟨v, ⟨(({ U with heap := s₂.heap, slotsUsed := s₂.slotsUsed } : State).setVm s₂.vm), Ls ++ L, c0 + mc, s0 + ms⟩,
      ⟨X.admits, X.cas, X.clock, X.frames, X.room, X.hears, X.method, X.code, (X.here.setHeapUsed s₂.heap s₂.slotsUsed).setVm hW'.alike, X.tail, State.WarmedH.trans X.warmed hW', X.limits, X.bytes, X.same.trans (hsame.setVm s.vm)⟩,
      ⟨g, mk, s₂, L, rfl, rfl, hqc, rfl, hL, rfl, rfl⟩, ?_⟩
    show Steps p.tables e below _ ((({ U with heap := s₂.heap, slotsUsed := s₂.slotsUsed } : State).setVm s₂.vm).setTop { g with pc := g.pc + len₂, stack := v.toList ++ g.stack })
    rw [← hs₂]
    exact hsteps
  · obtain ⟨e2, q2, q3, q4, q5, q6⟩ := id hsm
    have e3 : s₂ = ({ (U.calling g mk a).setFrames s₂.frames with heap := s₂.heap, slotsUsed := s₂.slotsUsed } : State).setVm s₂.vm := by
      have : s₂ = ({ s₂ with vm := (U.calling g mk a).vm } : State).setVm s₂.vm := rfl
      rw [e2] at this
      exact this
    have hf₂ : s₂.frames = .throwing q :: .java g :: U.frames.tail := hend
    have hW' : U.WarmedH s₂.vm := hW₂
    have hs₂ : s₂ = ((({ U with heap := s₂.heap, slotsUsed := s₂.slotsUsed } : State).setVm s₂.vm).setTop g).pushFrame (.throwing q) := by
      refine e3.trans ?_
      rw [hf₂, State.calling_eq h.top, State.setFrames_setFrames, State.pushFrame, State.frames_setTop _ hr', State.setTop_of_frames _ hr', State.setFrames_setFrames, hr]
      rfl
    have hsame : U.sameButNew ({ U with heap := s₂.heap, slotsUsed := s₂.slotsUsed } : State) L mc ms := by
      refine ⟨?_, q2, q3, q4, q5, q6⟩
      obtain ⟨t, ht, -⟩ := State.frames_cons hr
      show ({ U with heap := s₂.heap, slotsUsed := s₂.slotsUsed } : State) = { U.setFrames U.frames with heap := s₂.heap, slotsUsed := s₂.slotsUsed }
      rw [State.setFrames_self ht]
    subst hg
    refine Or.inr ⟨q, ⟨(({ U with heap := s₂.heap, slotsUsed := s₂.slotsUsed } : State).setVm s₂.vm), Ls ++ L, c0 + mc, s0 + ms⟩,
      ⟨X.admits, X.cas, X.clock, X.frames, X.room, X.hears, X.method, X.code, (X.here.setHeapUsed s₂.heap s₂.slotsUsed).setVm hW'.alike, X.tail, State.WarmedH.trans X.warmed hW', X.limits, X.bytes, X.same.trans (hsame.setVm s.vm)⟩,
      ⟨g, mk, s₂, L, E, ce, rfl, rfl, hx, hce, hcv, hcl, rfl, hL, rfl, rfl⟩, ?_⟩
    show Steps p.tables e below _ (((({ U with heap := s₂.heap, slotsUsed := s₂.slotsUsed } : State).setVm s₂.vm).setTop g).pushFrame (.throwing q))
    rw [← hs₂]
    exact hsteps
end
variable {p : Program} {l : Launch} {e : Env} {R : Room} {s : State} {m : MethodId} {args : Array Value} {below : List Frame} {meth : Method} {c : Code} {T : State} {H : Heap} {locs : List Loc} {cells slots : Nat}
theorem vx_callVX (X : Stand p l e R s m args below meth c T locs cells slots) (hexec : p.tables.exec = Jvm.exec) {own C : String} {index : Nat} {y : MethodName} {bytes : ByteArray} {maxL : Nat} {ret : Option FieldType} {hh : List (Nat × Nat × Nat × Nat)}
    (hown : s.vm.findClass own = some m.cls) (hlink : (Cond.methodLink own index y).before args s = true) (hinst : (Cond.instanceMethod y).before args s = true) (hsel : (Cond.selects C y y).before args s = true)
    (hcode : (Cond.codeWith y bytes maxL ret hh).before args s = true) (hy : y.cls ≠ "java/lang/invoke/MethodHandle" ∧ y.cls ≠ "java/lang/invoke/VarHandle")
    {W9 : Nat} {Pre : Pt → Array Value → Prop} {Post : Pt → Array Value → Option Value → Pt → Prop} {PostX : Pt → Array Value → Addr → Pt → Prop} (hK : vx_Back l R p e below s args y 3 W9 Pre Post PostX)
    {b : Addr} {cellB : Cell} (hcell : T.heap[b]? = some cellB) (hobj : cellB.vm.isStatics = false) (hcls : s.vm.findClass C = some cellB.cls)
    {g : JFrame} (hg : g.method = m) (hsize : g.locals.size = c.maxLocals) {argsL rest : List Value} (hlen : ∀ sig, parseMethodDescriptor y.desc = some sig → argsL.length = sig.parameters.length)
    (hstack : g.stack = argsL.reverse ++ .ref b :: rest) (hW : 2 * g.monitorRoom + (rest.map fun v => v.category).sum ≤ W9) (hdg : decode c.code g.pc = .ok (.invokevirtual index, 3))
    (hpre : ∀ vm₁, s.WarmedH vm₁ → Pre ⟨T.setVm vm₁, locs, cells, slots⟩ (Value.ref b :: argsL).toArray) :
    (∃ (v : Option Value) (vm₁ : Vm) (B : Pt), s.WarmedH vm₁ ∧ Stand p l e R s m args below meth c B.U B.locs B.cells B.slots ∧ Post ⟨T.setVm vm₁, locs, cells, slots⟩ (Value.ref b :: argsL).toArray v B ∧
      ∀ target, Steps p.tables e below (B.U.setTop { g with pc := g.pc + 3, stack := v.toList ++ rest }) target → Steps p.tables e below (T.setTop g) target) ∨
    (∃ (q : Addr) (vm₁ : Vm) (B : Pt), s.WarmedH vm₁ ∧ Stand p l e R s m args below meth c B.U B.locs B.cells B.slots ∧ PostX ⟨T.setVm vm₁, locs, cells, slots⟩ (Value.ref b :: argsL).toArray q B ∧
      Steps p.tables e below (T.setTop g) ((B.U.setTop { g with stack := rest }).pushFrame (.throwing q))) := by
  obtain ⟨mk, methM, hnamed, hmethM, hstM, habM⟩ := Cond.instanceMethod_spec hinst
  obtain ⟨m8, methM', cM, hn8, hmethM', -, -, -, -, -, -, hsigM⟩ := Cond.codeWith_spec hcode
  cases Option.some.inj (hn8.symm.trans hnamed)
  cases hmethM.symm.trans hmethM'
  obtain ⟨c2, r2, m2, q1, q2, q3, q4, kP, hkP, hkPi⟩ := Cond.selects_spec hsel
  cases hcls.symm.trans q1
  cases (State.methodFound?_of_named hnamed hy).symm.trans q2
  cases hnamed.symm.trans q3
  have hselP : selectMethod e.platform s.vm cellB.cls mk = .method mk := by rw [Launch.admits_selectMethod X.admits]; exact q4
  obtain ⟨vm₁, X₁, hstep₁⟩ := X.invokevirtual hexec hown hlink hnamed hmethM hstM hkP hkPi hy (a := b) (cell := cellB) hcell
    (fun z h => by rw [h] at hobj; cases hobj) hselP hmethM habM hkP hkPi (g := g) hg (argsL := argsL) (rest := rest) (hlen _ hsigM) hstack hdg
  rcases hK m meth c ⟨T.setVm vm₁, locs, cells, slots⟩ { g with stack := rest } (.invokevirtual index) mk (Value.ref b :: argsL).toArray X₁ hg hsize hdg hW (X₁.named hnamed) (hpre vm₁ X₁.warmed) with ⟨v, B, X', hpost, hsteps⟩ | ⟨q, B, X', hpost, hsteps⟩
  · exact Or.inl ⟨v, vm₁, B, X₁.warmed, X', hpost, fun target h => hstep₁ _ fun acts => by rw [doInvoke_state]; exact hsteps.trans h⟩
  · exact Or.inr ⟨q, vm₁, B, X₁.warmed, X', hpost, hstep₁ _ fun acts => by rw [doInvoke_state]; exact hsteps⟩
theorem vx_callSX (X : Stand p l e R s m args below meth c T locs cells slots) (hexec : p.tables.exec = Jvm.exec) {own : String} {index : Nat} {y : MethodName} {bytes : ByteArray} {maxL : Nat} {ret : Option FieldType} {hh : List (Nat × Nat × Nat × Nat)}
    (hown : s.vm.findClass own = some m.cls) (hlink : (Cond.methodLink own index y).before args s = true) (hstat : (Cond.static y).before args s = true) (hinit : (Cond.initialized y.cls).before args s = true)
    (hcode : (Cond.codeWith y bytes maxL ret hh).before args s = true) (hy : y.cls ≠ "java/lang/invoke/MethodHandle" ∧ y.cls ≠ "java/lang/invoke/VarHandle")
    {W9 : Nat} {Pre : Pt → Array Value → Prop} {Post : Pt → Array Value → Option Value → Pt → Prop} {PostX : Pt → Array Value → Addr → Pt → Prop} (hK : vx_Back l R p e below s args y 3 W9 Pre Post PostX)
    {g : JFrame} (hg : g.method = m) (hsize : g.locals.size = c.maxLocals) {argsL rest : List Value} (hlen : ∀ sig, parseMethodDescriptor y.desc = some sig → argsL.length = sig.parameters.length)
    (hstack : g.stack = argsL.reverse ++ rest) (hW : 2 * g.monitorRoom + (rest.map fun v => v.category).sum ≤ W9) (hdg : decode c.code g.pc = .ok (.invokestatic index, 3))
    (hpre : ∀ vm₁, s.WarmedH vm₁ → Pre ⟨T.setVm vm₁, locs, cells, slots⟩ argsL.toArray) :
    (∃ (v : Option Value) (vm₁ : Vm) (B : Pt), s.WarmedH vm₁ ∧ Stand p l e R s m args below meth c B.U B.locs B.cells B.slots ∧ Post ⟨T.setVm vm₁, locs, cells, slots⟩ argsL.toArray v B ∧
      ∀ target, Steps p.tables e below (B.U.setTop { g with pc := g.pc + 3, stack := v.toList ++ rest }) target → Steps p.tables e below (T.setTop g) target) ∨
    (∃ (q : Addr) (vm₁ : Vm) (B : Pt), s.WarmedH vm₁ ∧ Stand p l e R s m args below meth c B.U B.locs B.cells B.slots ∧ PostX ⟨T.setVm vm₁, locs, cells, slots⟩ argsL.toArray q B ∧
      Steps p.tables e below (T.setTop g) ((B.U.setTop { g with stack := rest }).pushFrame (.throwing q))) := by
  obtain ⟨mk, methM, cM, hnamed, hmethM, -, -, -, -, -, -, hsigM⟩ := Cond.codeWith_spec hcode
  have hstatic : methM.isStatic = true := Cond.static_spec hnamed hmethM hstat
  obtain ⟨kP, hkP, -⟩ := className_of_methodNamed hnamed
  have hinitP : kP.init = .initialized := Cond.initialized_spec (findClass_of_methodNamed hnamed) hkP hinit
  obtain ⟨vm₁, X₁, hstep₁⟩ := X.invokestatic hexec hown hlink hnamed hmethM hstatic hkP hinitP hy (g := g) hg (argsL := argsL) (rest := rest) (hlen _ hsigM) hstack hdg
  rcases hK m meth c ⟨T.setVm vm₁, locs, cells, slots⟩ { g with stack := rest } (.invokestatic index) mk argsL.toArray X₁ hg hsize hdg hW (X₁.named hnamed) (hpre vm₁ X₁.warmed) with ⟨v, B, X', hpost, hsteps⟩ | ⟨q, B, X', hpost, hsteps⟩
  · exact Or.inl ⟨v, vm₁, B, X₁.warmed, X', hpost, fun target h => hstep₁ _ fun acts => by rw [doInvoke_state]; exact hsteps.trans h⟩
  · exact Or.inr ⟨q, vm₁, B, X₁.warmed, X', hpost, hstep₁ _ fun acts => by rw [doInvoke_state]; exact hsteps⟩
theorem vx_callVW (X : Stand p l e R s m args below meth c T locs cells slots) (hexec : p.tables.exec = Jvm.exec) {own C : String} {index : Nat} {y : MethodName} {bytes : ByteArray} {maxL : Nat} {ret : Option FieldType} {hh : List (Nat × Nat × Nat × Nat)}
    (hown : s.vm.findClass own = some m.cls) (hlink : (Cond.methodLink own index y).before args s = true) (hinst : (Cond.instanceMethod y).before args s = true) (hsel : (Cond.selects C y y).before args s = true)
    (hcode : (Cond.codeWith y bytes maxL ret hh).before args s = true) (hy : y.cls ≠ "java/lang/invoke/MethodHandle" ∧ y.cls ≠ "java/lang/invoke/VarHandle")
    {W9 : Nat} {Pre : Pt → Array Value → Prop} {Post : Pt → Array Value → Option Value → Pt → Prop} (hK : Back l R p e below s args y 3 W9 Pre Post)
    {b : Addr} {cellB : Cell} (hcell : T.heap[b]? = some cellB) (hobj : cellB.vm.isStatics = false) (hcls : s.vm.findClass C = some cellB.cls)
    {g : JFrame} (hg : g.method = m) (hsize : g.locals.size = c.maxLocals) {argsL rest : List Value} (hlen : ∀ sig, parseMethodDescriptor y.desc = some sig → argsL.length = sig.parameters.length)
    (hstack : g.stack = argsL.reverse ++ .ref b :: rest) (hW : 2 * g.monitorRoom + (rest.map fun v => v.category).sum ≤ W9) (hdg : decode c.code g.pc = .ok (.invokevirtual index, 3))
    (hpre : ∀ vm₁, s.WarmedH vm₁ → Pre ⟨T.setVm vm₁, locs, cells, slots⟩ (Value.ref b :: argsL).toArray) :
    ∃ (v : Option Value) (vm₁ : Vm) (B : Pt), s.WarmedH vm₁ ∧ Stand p l e R s m args below meth c B.U B.locs B.cells B.slots ∧ Post ⟨T.setVm vm₁, locs, cells, slots⟩ (Value.ref b :: argsL).toArray v B ∧
      ∀ target, Steps p.tables e below (B.U.setTop { g with pc := g.pc + 3, stack := v.toList ++ rest }) target → Steps p.tables e below (T.setTop g) target := by
  obtain ⟨mk, methM, hnamed, hmethM, hstM, habM⟩ := Cond.instanceMethod_spec hinst
  obtain ⟨m8, methM', cM, hn8, hmethM', -, -, -, -, -, -, hsigM⟩ := Cond.codeWith_spec hcode
  cases Option.some.inj (hn8.symm.trans hnamed)
  cases hmethM.symm.trans hmethM'
  obtain ⟨c2, r2, m2, q1, q2, q3, q4, kP, hkP, hkPi⟩ := Cond.selects_spec hsel
  cases hcls.symm.trans q1
  cases (State.methodFound?_of_named hnamed hy).symm.trans q2
  cases hnamed.symm.trans q3
  have hselP : selectMethod e.platform s.vm cellB.cls mk = .method mk := by rw [Launch.admits_selectMethod X.admits]; exact q4
  obtain ⟨vm₁, X₁, hstep₁⟩ := X.invokevirtual hexec hown hlink hnamed hmethM hstM hkP hkPi hy (a := b) (cell := cellB) hcell
    (fun z h => by rw [h] at hobj; cases hobj) hselP hmethM habM hkP hkPi (g := g) hg (argsL := argsL) (rest := rest) (hlen _ hsigM) hstack hdg
  obtain ⟨v, B, X', hpost, hsteps⟩ := hK m meth c ⟨T.setVm vm₁, locs, cells, slots⟩ { g with stack := rest } (.invokevirtual index) mk (Value.ref b :: argsL).toArray X₁ hg hsize hdg hW (X₁.named hnamed) (hpre vm₁ X₁.warmed)
  exact ⟨v, vm₁, B, X₁.warmed, X', hpost, fun target h => hstep₁ _ fun acts => by rw [doInvoke_state]; exact hsteps.trans h⟩
abbrev vx_CVW (R : Room) (s : State) (args : Array Value) (own C : String) (index : Nat) (y : MethodName) (bytes : ByteArray) (maxL : Nat) (ret : Option FieldType) (hh : List (Nat × Nat × Nat × Nat)) (ws : List Cond) (rm : Room) (mc ms n : Nat) : Prop :=
  (rm.cells = mc ∧ rm.slots = ms ∧ rm.frames + 1 ≤ R.frames ∧ 8 + (maxL + 11) + rm.locals ≤ R.locals ∧ (∀ w ∈ ws, ∀ (a' : Array Value) (U : State), s.WarmedH U.vm → w.before a' U = true) ∧ Cond.codeWith y bytes maxL ret hh ∈ ws) ∧
  (Cond.codeWith y bytes maxL ret hh).before args s = true ∧ (Cond.initialized y.cls).before args s = true ∧ (y.cls ≠ "java/lang/invoke/MethodHandle" ∧ y.cls ≠ "java/lang/invoke/VarHandle") ∧
  (∀ sig, parseMethodDescriptor y.desc = some sig → n = sig.parameters.length) ∧ (Cond.methodLink own index y).before args s = true ∧ (Cond.instanceMethod y).before args s = true ∧ (Cond.selects C y y).before args s = true
theorem vx_cwVW {own C : String} {index maxL mc ms : Nat} {y : MethodName} {bytes : ByteArray} {ret : Option FieldType} {hh : List (Nat × Nat × Nat × Nat)} {Ts ws ws' : List Cond} {rm : Room} (n : Nat) (ht : ∀ w ∈ Ts, w.before args s = true) (hT : GoodIn Ts (wsV own index C y ws)) (hw : ws = Cond.codeWith y bytes maxL ret hh :: ws') (hrc : rm.cells = mc) (hrs : rm.slots = ms)
    (hd : y.cls = C ∧ y.cls ≠ "java/lang/invoke/MethodHandle" ∧ y.cls ≠ "java/lang/invoke/VarHandle" ∧ (parseMethodDescriptor y.desc).map (fun d => d.parameters.length) = some n) (hR : rm.frames + 1 ≤ R.frames ∧ 8 + (maxL + 11) + rm.locals ≤ R.locals) :
    vx_CVW R s args own C index y bytes maxL ret hh ws rm mc ms n := by
  obtain ⟨hC, hd⟩ := hd
  subst hC
  have ok : ∀ w ∈ wsV own index y.cls y ws, w.before args s = true := fun w h => ht w (hT w h).1
  have hG : GoodIn Ts ws := fun w h => hT w (by unfold wsV; exact List.mem_append_right _ h)
  have hc : Cond.codeWith y bytes maxL ret hh ∈ ws := by rw [hw]; exact List.mem_cons_self
  refine ⟨⟨hrc, hrs, hR.1, hR.2, pay_in ht hG, hc⟩, ht _ (hG _ hc).1, ok _ (by simp [wsV]), ⟨hd.1, hd.2.1⟩, fun sig h => ?_, ok _ (by simp [wsV]), ok _ (by simp [wsV]), ok _ (by simp [wsV])⟩
  have h2 := hd.2.2
  rw [h] at h2
  exact (Option.some.inj h2).symm
theorem vx_runVW {y : MethodName} {bytes cc : ByteArray} {maxL nL mc ms n index : Nat} {ret : Option FieldType} {hh : List (Nat × Nat × Nat × Nat)} {ws : List Cond} {rm : Room} {Pc : Array Value → State → Prop} {Qc : Array Value → State → Outcome → State → Prop} {free : Addr → Prop} {Ts : List Cond} {own C : String} {b : Addr} {As rest : List Value} {g : JFrame}
    (S : CallFix p m c cc nL s args Ts own) (hM : Met l y ws rm Pc Qc mc ms free) (cw : vx_CVW R s args own C index y bytes maxL ret hh ws rm mc ms n) (hp : PreV s H C b Pc As)
    (hg : g.method = m) (hn : As.length = n) (hsize : g.locals.size = nL) (hstack : g.stack = As.reverse ++ .ref b :: rest) (hW : 2 * g.monitorRoom + (rest.map fun v => v.category).sum ≤ 8) (hdg : decode cc g.pc = .ok (.invokevirtual index, 3)) (hf : cells + mc ≤ R.cells ∧ slots + ms ≤ R.slots) :
    va_Run p l e R s m args below meth c H locs cells slots mc ms g rest (Qc (Value.ref b :: As).toArray) free := by
  obtain ⟨⟨hrc, hrs, hfr, hlo, hws, hcw⟩, hcode, hini, hy, hlen, hl, hin, hse⟩ := cw
  have hK : Back l R p e below s args y 3 8 (PreOf R mc ms Pc) (PostOf Qc mc ms free) := va_backW (hh := hh) (bytes := bytes) (maxL := maxL) (ret := ret) hM hp.1 hrc hrs hfr hlo hws hcw (fun a' U hW => word_at hW (Or.inl (by first | rfl | simp [Cond.onTables, Cond.keeps, Cond.steady])) hini)
  obtain ⟨hx, hb, hml, ho, -⟩ := S
  obtain ⟨-, ⟨cellB, hcB, hoB, hclB⟩, hPc⟩ := hp
  intro T hT X
  obtain ⟨v, vm₁, ⟨U', l2, c2, s2⟩, hW₁, X', ⟨g', mk, t, L, e1, e2, hq, h1, hL, h2, h3⟩, st⟩ := vx_callVW X hx (C := C) (hh := hh) (bytes := bytes) (maxL := maxL) (ret := ret) ho hl hin hse hcode hy hK (by rw [hT]; exact hcB) hoB hclB hg (hsize.trans hml.symm) (argsL := As) (rest := rest) (fun sig h => hn.trans (hlen sig h)) hstack hW (by rw [hb]; exact hdg)
    (fun vm₁ hW₁ => ⟨hf.1, hf.2, hPc (T.setVm vm₁) hT hW₁⟩)
  dsimp only [Pt.U, Pt.locs, Pt.cells, Pt.slots] at X' e1 e2 h1 h2 h3 st
  subst h1; subst h2; subst h3
  exact ⟨v, (T.setVm vm₁).calling g' mk (Value.ref b :: As).toArray, t, U', L, hT, X', hL, e1, e2, hq, st⟩
section
variable {y : MethodName} {bytes cc : ByteArray} {maxL nL mc ms n index : Nat} {ret : Option FieldType} {ws : List Cond} {rm : Room} {Pc : Array Value → State → Prop} {Qc : Array Value → State → Outcome → State → Prop} {XC : String → State → State → Prop} {free : Addr → Prop} {Ts : List Cond} {own C : String} {b : Addr} {As rest : List Value} {g : JFrame}
theorem vx_runVX {hh : List (Nat × Nat × Nat × Nat)} (S : CallFix p m c cc nL s args Ts own) (hM : vx_Met l y ws rm Pc Qc XC mc ms free) (cw : vx_CVW R s args own C index y bytes maxL ret hh ws rm mc ms n) (hp : PreV s H C b Pc As)
    (hg : g.method = m) (hn : As.length = n) (hsize : g.locals.size = nL) (hstack : g.stack = As.reverse ++ .ref b :: rest) (hW : 2 * g.monitorRoom + (rest.map fun v => v.category).sum ≤ 8) (hdg : decode cc g.pc = .ok (.invokevirtual index, 3)) (hf : cells + mc ≤ R.cells ∧ slots + ms ≤ R.slots) :
    vx_Run p l e R s m args below meth c H locs cells slots mc ms g rest (Qc (Value.ref b :: As).toArray) XC free := by
  obtain ⟨⟨hrc, hrs, hfr, hlo, hws, hcw⟩, hcode, hini, hy, hlen, hl, hin, hse⟩ := cw
  have hK : vx_Back l R p e below s args y 3 8 (PreOf R mc ms Pc) (PostOf Qc mc ms free) (vx_Post XC mc ms free) := vx_backW (hh := hh) (bytes := bytes) (maxL := maxL) (ret := ret) hM hp.1 hrc hrs hfr hlo hws hcw (fun a' U hW => word_at hW (Or.inl (by first | rfl | simp [Cond.onTables, Cond.keeps, Cond.steady])) hini)
  obtain ⟨hx, hb, hml, ho, -⟩ := S
  obtain ⟨-, ⟨cellB, hcB, hoB, hclB⟩, hPc⟩ := hp
  intro T hT X
  rcases vx_callVX X hx (C := C) (hh := hh) (bytes := bytes) (maxL := maxL) (ret := ret) ho hl hin hse hcode hy hK (by rw [hT]; exact hcB) hoB hclB hg (hsize.trans hml.symm) (argsL := As) (rest := rest) (fun sig h => hn.trans (hlen sig h)) hstack hW (by rw [hb]; exact hdg)
    (fun vm₁ hW₁ => ⟨hf.1, hf.2, hPc (T.setVm vm₁) hT hW₁⟩) with ⟨v, vm₁, ⟨U', l2, c2, s2⟩, hW₁, X', ⟨g', mk, t, L, e1, e2, hq, h1, hL, h2, h3⟩, st⟩ | ⟨q, vm₁, ⟨U', l2, c2, s2⟩, hW₁, X', ⟨g', mk, t, L, E, ce, e1, e2, hq, hce, hcv, hcl, h1, hL, h2, h3⟩, st⟩
  · dsimp only [Pt.U, Pt.locs, Pt.cells, Pt.slots] at X' e1 e2 h1 h2 h3 st
    subst h1; subst h2; subst h3
    exact Or.inl ⟨v, (T.setVm vm₁).calling g' mk (Value.ref b :: As).toArray, t, U', L, hT, X', hL, e1, e2, hq, st⟩
  · dsimp only [Pt.U, Pt.locs, Pt.cells, Pt.slots] at X' e1 e2 h1 h2 h3 st hcl
    subst h1; subst h2; subst h3
    exact Or.inr ⟨q, (T.setVm vm₁).calling g' mk (Value.ref b :: As).toArray, t, U', L, E, ce, hT, X', hL, e1, e2, hq, hce, hcv, vx_cls hW₁ hcl, st⟩
theorem vx_runSX {hh : List (Nat × Nat × Nat × Nat)} (S : CallFix p m c cc nL s args Ts own) (hM : vx_Met l y ws rm Pc Qc XC mc ms free) (cw : vx_CSW R s args own index y bytes maxL ret hh ws rm mc ms n) (hp : PreS s H Pc As)
    (hg : g.method = m) (hn : As.length = n) (hsize : g.locals.size = nL) (hstack : g.stack = As.reverse ++ rest) (hW : 2 * g.monitorRoom + (rest.map fun v => v.category).sum ≤ 8) (hdg : decode cc g.pc = .ok (.invokestatic index, 3)) (hf : cells + mc ≤ R.cells ∧ slots + ms ≤ R.slots) :
    vx_Run p l e R s m args below meth c H locs cells slots mc ms g rest (Qc As.toArray) XC free := by
  obtain ⟨⟨hrc, hrs, hfr, hlo, hws, hcw⟩, hcode, hini, hy, hlen, hl, hstt⟩ := cw
  have hK : vx_Back l R p e below s args y 3 8 (PreOf R mc ms Pc) (PostOf Qc mc ms free) (vx_Post XC mc ms free) := vx_backW (hh := hh) (bytes := bytes) (maxL := maxL) (ret := ret) hM hp.1 hrc hrs hfr hlo hws hcw (fun a' U hW => word_at hW (Or.inl (by first | rfl | simp [Cond.onTables, Cond.keeps, Cond.steady])) hini)
  obtain ⟨hx, hb, hml, ho, -⟩ := S
  intro T hT X
  rcases vx_callSX X hx (hh := hh) (bytes := bytes) (maxL := maxL) (ret := ret) ho hl hstt hini hcode hy hK hg (hsize.trans hml.symm) (argsL := As) (rest := rest) (fun sig h => hn.trans (hlen sig h)) hstack hW (by rw [hb]; exact hdg)
    (fun vm₁ hW₁ => ⟨hf.1, hf.2, hp.2 (T.setVm vm₁) hT hW₁⟩) with ⟨v, vm₁, ⟨U', l2, c2, s2⟩, hW₁, X', ⟨g', mk, t, L, e1, e2, hq, h1, hL, h2, h3⟩, st⟩ | ⟨q, vm₁, ⟨U', l2, c2, s2⟩, hW₁, X', ⟨g', mk, t, L, E, ce, e1, e2, hq, hce, hcv, hcl, h1, hL, h2, h3⟩, st⟩
  · dsimp only [Pt.U, Pt.locs, Pt.cells, Pt.slots] at X' e1 e2 h1 h2 h3 st
    subst h1; subst h2; subst h3
    exact Or.inl ⟨v, (T.setVm vm₁).calling g' mk As.toArray, t, U', L, hT, X', hL, e1, e2, hq, st⟩
  · dsimp only [Pt.U, Pt.locs, Pt.cells, Pt.slots] at X' e1 e2 h1 h2 h3 st hcl
    subst h1; subst h2; subst h3
    exact Or.inr ⟨q, (T.setVm vm₁).calling g' mk As.toArray, t, U', L, E, ce, hT, X', hL, e1, e2, hq, hce, hcv, vx_cls hW₁ hcl, st⟩
end
end VXH
theorem vx_ofWH {l : Launch} {y : MethodName} {ws ws' : List Cond} {rm : Room} {Pc : Array Value → State → Prop} {Qc : Array Value → State → Outcome → State → Prop} {XC : String → State → State → Prop} {mc ms : Nat} {free : Addr → Prop} {cc : ByteArray} {maxL : Nat} {ret : Option FieldType} {hh : List (Nat × Nat × Nat × Nat)}
    (hy : plainName y.cls = true) (hw : ws = Cond.codeWith y cc maxL ret hh :: ws')
    (body : ∀ p e s m args below meth c s₁, BodyLoose p l y (headSpec ws rm) cc maxL ret e s m args below meth c s₁ → c.maxLocals = maxL → Pc args s →
      W p l e (headSpec ws rm).room s m args below meth c s.heap [] 0 0 (vx_MQ below Qc XC args s mc ms free) (entryFrame m args maxL)) : vx_Met l y ws rm Pc Qc XC mc ms free := by
  refine MetFree.of_bodyS (code := cc) (maxLocals := maxL) (ret := ret) hy ?_ ?_
  · intro args s m h hn
    obtain ⟨m9, meth, c, hn9, h1, h2, h3, h4, -, h5, h6, -⟩ := Cond.codeWith_spec (atoms_spec (ws := ws) h _ (by rw [hw]; exact List.mem_cons_self))
    cases hn.symm.trans hn9
    exact ⟨meth, c, h1, h2, h3, h4, h5, h6⟩
  · intro p e s m args below meth c s₁ B hml hP _
    have hh0 : s₁.heap = s.heap := by rw [B.state]; rfl
    obtain ⟨t, a1, o, b1, b2, b3⟩ := body p e s m args below meth c s₁ B hml hP s₁ hh0 (Stand.of_body B)
    exact ⟨t, o, a1, b1, b2, b3⟩
/-! ===== END ===== -/
end
section
/-! ===== BEGIN printed: names, fields, word lists, decode rows ===== -/
def RX0 : String := "RobinRow$PlainRow"
def TX0 : u_T := fun k => match k with
  | 0 => ("RobinRow$PlainRow", "rising", "[I", true)
  | 1 => ("RobinRow$PlainRow", "taken", "[Z", true)
  | 2 => ("RobinRow$PlainRow", "total", "I", false)
  | _ => ("RobinRow$PlainRow", "longest", "I", false)
def tyX0 : Nat → FieldType := fun k => match k with
  | 0 => .array .int
  | 1 => .array .boolean
  | 2 => .int
  | _ => .int
abbrev wsX00 : List Cond := u_ws RX0 TX0 4
theorem nmX0 : ∀ a, a < 4 → ∀ b, b < 4 → a ≠ b → (TX0 a).2.1 ≠ (TX0 b).2.1 := by decide +kernel
theorem tyX0_ok : ∀ k, k < 4 → parseFieldDescriptor (TX0 k).2.2.1 = some (tyX0 k) := by decide +kernel
abbrev cX0_init : ByteArray := prog_2_method_1_code
def yX0_init : MethodName := ⟨RX0, "<init>", "()V"⟩
abbrev cX0_fillFrom : ByteArray := prog_2_method_2_code
def yX0_fillFrom : MethodName := ⟨RX0, "fillFrom", "(LRobinRow$Table;)V"⟩
abbrev cX0_sortByKeys : ByteArray := prog_2_method_3_code
def yX0_sortByKeys : MethodName := ⟨RX0, "sortByKeys", "(LRobinRow$Table;)I"⟩
abbrev cX0_takeFirstFree : ByteArray := prog_2_method_4_code
def yX0_takeFirstFree : MethodName := ⟨RX0, "takeFirstFree", "(LRobinRow$Table;I)I"⟩
def RX1 : String := "RobinRow$Search"
def TX1 : u_T := fun k => match k with
  | 0 => ("RobinRow$Search", "table", "LRobinRow$Table;", false)
  | 1 => ("RobinRow$Search", "slot", "I", false)
  | 2 => ("RobinRow$Search", "groups", "I", false)
  | _ => ("RobinRow$Search", "comparisons", "I", false)
def tyX1 : Nat → FieldType := fun k => match k with
  | 0 => .object "RobinRow$Table"
  | 1 => .int
  | 2 => .int
  | _ => .int
abbrev wsX10 : List Cond := u_ws RX1 TX1 4
theorem nmX1 : ∀ a, a < 4 → ∀ b, b < 4 → a ≠ b → (TX1 a).2.1 ≠ (TX1 b).2.1 := by decide +kernel
theorem tyX1_ok : ∀ k, k < 4 → parseFieldDescriptor (TX1 k).2.2.1 = some (tyX1 k) := by decide +kernel
abbrev cX1_init : ByteArray := prog_3_method_1_code
def yX1_init : MethodName := ⟨RX1, "<init>", "()V"⟩
abbrev cX1_begin : ByteArray := prog_3_method_2_code
def yX1_begin : MethodName := ⟨RX1, "begin", "()V"⟩
abbrev cX1_hasFound : ByteArray := prog_3_method_3_code
def yX1_hasFound : MethodName := ⟨RX1, "hasFound", "()Z"⟩
abbrev cX1_lookIn : ByteArray := prog_3_method_4_code
def yX1_lookIn : MethodName := ⟨RX1, "lookIn", "(LRobinRow$Table;II)V"⟩
abbrev cX1_lookAtGroup : ByteArray := prog_3_method_5_code
def yX1_lookAtGroup : MethodName := ⟨RX1, "lookAtGroup", "(LRobinRow$Table;III)Z"⟩
def RX2 : String := "RobinRow$Sweep"
def TX2 : u_T := fun k => match k with
  | 0 => ("RobinRow$Sweep", "isOpen", "Z", false)
  | 1 => ("RobinRow$Sweep", "mayRemove", "Z", false)
  | 2 => ("RobinRow$Sweep", "met", "I", false)
  | 3 => ("RobinRow$Sweep", "key", "I", false)
  | _ => ("RobinRow$Sweep", "rank", "J", false)
def tyX2 : Nat → FieldType := fun k => match k with
  | 0 => .boolean
  | 1 => .boolean
  | 2 => .int
  | 3 => .int
  | _ => .long
abbrev wsX20 : List Cond := u_ws RX2 TX2 5
theorem nmX2 : ∀ a, a < 5 → ∀ b, b < 5 → a ≠ b → (TX2 a).2.1 ≠ (TX2 b).2.1 := by decide +kernel
theorem tyX2_ok : ∀ k, k < 5 → parseFieldDescriptor (TX2 k).2.2.1 = some (tyX2 k) := by decide +kernel
abbrev cX2_init : ByteArray := prog_4_method_1_code
def yX2_init : MethodName := ⟨RX2, "<init>", "()V"⟩
abbrev cX2_end : ByteArray := prog_4_method_4_code
def yX2_end : MethodName := ⟨RX2, "end", "()V"⟩
def RX3 : String := "RobinRow$Table"
def TX3 : u_T := fun k => match k with
  | 0 => ("RobinRow$Table", "controls", "[B", true)
  | 1 => ("RobinRow$Table", "hashes", "[I", true)
  | 2 => ("RobinRow$Table", "keys", "[I", true)
  | 3 => ("RobinRow$Table", "values", "[I", true)
  | 4 => ("RobinRow$Table", "slots", "I", false)
  | _ => ("RobinRow$Table", "count", "I", false)
def tyX3 : Nat → FieldType := fun k => match k with
  | 0 => .array .byte
  | 1 => .array .int
  | 2 => .array .int
  | 3 => .array .int
  | 4 => .int
  | _ => .int
abbrev wsX30 : List Cond := u_ws RX3 TX3 6
theorem nmX3 : ∀ a, a < 6 → ∀ b, b < 6 → a ≠ b → (TX3 a).2.1 ≠ (TX3 b).2.1 := by decide +kernel
theorem tyX3_ok : ∀ k, k < 6 → parseFieldDescriptor (TX3 k).2.2.1 = some (tyX3 k) := by decide +kernel
abbrev cX3_init : ByteArray := prog_5_method_1_code
def yX3_init : MethodName := ⟨RX3, "<init>", "(I)V"⟩
abbrev cX3_emptyWith : ByteArray := prog_5_method_2_code
def yX3_emptyWith : MethodName := ⟨RX3, "emptyWith", "(I)V"⟩
abbrev cX3_around : ByteArray := prog_5_method_3_code
def yX3_around : MethodName := ⟨RX3, "around", "(I)I"⟩
abbrev cX3_isEmptyIn : ByteArray := prog_5_method_4_code
def yX3_isEmptyIn : MethodName := ⟨RX3, "isEmptyIn", "(I)Z"⟩
abbrev cX3_controlIn : ByteArray := prog_5_method_5_code
def yX3_controlIn : MethodName := ⟨RX3, "controlIn", "(I)B"⟩
abbrev cX3_hashIn : ByteArray := prog_5_method_6_code
def yX3_hashIn : MethodName := ⟨RX3, "hashIn", "(I)I"⟩
abbrev cX3_keyIn : ByteArray := prog_5_method_7_code
def yX3_keyIn : MethodName := ⟨RX3, "keyIn", "(I)I"⟩
abbrev cX3_valueIn : ByteArray := prog_5_method_8_code
def yX3_valueIn : MethodName := ⟨RX3, "valueIn", "(I)I"⟩
abbrev cX3_distanceIn : ByteArray := prog_5_method_9_code
def yX3_distanceIn : MethodName := ⟨RX3, "distanceIn", "(I)I"⟩
abbrev cX3_exchangeValue : ByteArray := prog_5_method_11_code
def yX3_exchangeValue : MethodName := ⟨RX3, "exchangeValue", "(II)I"⟩
abbrev cX3_lowestSlotWithKey : ByteArray := prog_5_method_12_code
def yX3_lowestSlotWithKey : MethodName := ⟨RX3, "lowestSlotWithKey", "()I"⟩
abbrev cX3_carryIn : ByteArray := prog_5_method_13_code
def yX3_carryIn : MethodName := ⟨RX3, "carryIn", "(III)V"⟩
abbrev cX3_takeOut : ByteArray := prog_5_method_15_code
def yX3_takeOut : MethodName := ⟨RX3, "takeOut", "(I)V"⟩
abbrev cX3_fill : ByteArray := prog_5_method_16_code
def yX3_fill : MethodName := ⟨RX3, "fill", "(IIII)V"⟩
def RX4 : String := "RobinRow"
def TX4 : u_T := fun k => match k with
  | 0 => ("RobinRow", "sweeps", "[LRobinRow$Sweep;", true)
  | 1 => ("RobinRow", "search", "LRobinRow$Search;", true)
  | 2 => ("RobinRow", "plainRow", "LRobinRow$PlainRow;", true)
  | 3 => ("RobinRow", "present", "LRobinRow$Table;", false)
  | 4 => ("RobinRow", "old", "LRobinRow$Table;", false)
  | 5 => ("RobinRow", "way", "I", false)
  | _ => ("RobinRow", "begunMoves", "I", false)
def tyX4 : Nat → FieldType := fun k => match k with
  | 0 => .array (.object "RobinRow$Sweep")
  | 1 => .object "RobinRow$Search"
  | 2 => .object "RobinRow$PlainRow"
  | 3 => .object "RobinRow$Table"
  | 4 => .object "RobinRow$Table"
  | 5 => .int
  | _ => .int
abbrev wsX40 : List Cond := u_ws RX4 TX4 7
theorem nmX4 : ∀ a, a < 7 → ∀ b, b < 7 → a ≠ b → (TX4 a).2.1 ≠ (TX4 b).2.1 := by decide +kernel
theorem tyX4_ok : ∀ k, k < 7 → parseFieldDescriptor (TX4 k).2.2.1 = some (tyX4 k) := by decide +kernel
abbrev cX4_init : ByteArray := prog_1_method_1_code
def yX4_init : MethodName := ⟨RX4, "<init>", "()V"⟩
abbrev cX4_clear : ByteArray := prog_1_method_2_code
def yX4_clear : MethodName := ⟨RX4, "clear", "(I)V"⟩
abbrev cX4_put : ByteArray := prog_1_method_3_code
def yX4_put : MethodName := ⟨RX4, "put", "(II)I"⟩
abbrev cX4_get : ByteArray := prog_1_method_4_code
def yX4_get : MethodName := ⟨RX4, "get", "(I)I"⟩
abbrev cX4_remove : ByteArray := prog_1_method_5_code
def yX4_remove : MethodName := ⟨RX4, "remove", "(I)I"⟩
abbrev cX4_move : ByteArray := prog_1_method_6_code
def yX4_move : MethodName := ⟨RX4, "move", "()I"⟩
abbrev cX4_size : ByteArray := prog_1_method_7_code
def yX4_size : MethodName := ⟨RX4, "size", "()I"⟩
abbrev cX4_hash : ByteArray := prog_1_method_14_code
def yX4_hash : MethodName := ⟨RX4, "hash", "(I)I"⟩
abbrev cX4_slots : ByteArray := prog_1_method_15_code
def yX4_slots : MethodName := ⟨RX4, "slots", "(I)I"⟩
abbrev cX4_keysIn : ByteArray := prog_1_method_16_code
def yX4_keysIn : MethodName := ⟨RX4, "keysIn", "(I)I"⟩
abbrev cX4_control : ByteArray := prog_1_method_17_code
def yX4_control : MethodName := ⟨RX4, "control", "(II)B"⟩
abbrev cX4_keyAt : ByteArray := prog_1_method_18_code
def yX4_keyAt : MethodName := ⟨RX4, "keyAt", "(II)I"⟩
abbrev cX4_distanceAt : ByteArray := prog_1_method_19_code
def yX4_distanceAt : MethodName := ⟨RX4, "distanceAt", "(II)I"⟩
abbrev cX4_longest : ByteArray := prog_1_method_20_code
def yX4_longest : MethodName := ⟨RX4, "longest", "()I"⟩
abbrev cX4_total : ByteArray := prog_1_method_21_code
def yX4_total : MethodName := ⟨RX4, "total", "()I"⟩
abbrev cX4_groups : ByteArray := prog_1_method_22_code
def yX4_groups : MethodName := ⟨RX4, "groups", "(I)I"⟩
abbrev cX4_comparisons : ByteArray := prog_1_method_23_code
def yX4_comparisons : MethodName := ⟨RX4, "comparisons", "(I)I"⟩
abbrev cX4_plainTotal : ByteArray := prog_1_method_25_code
def yX4_plainTotal : MethodName := ⟨RX4, "plainTotal", "()I"⟩
abbrev cX4_plainLongest : ByteArray := prog_1_method_26_code
def yX4_plainLongest : MethodName := ⟨RX4, "plainLongest", "()I"⟩
abbrev cX4_tableOf : ByteArray := prog_1_method_27_code
def yX4_tableOf : MethodName := ⟨RX4, "tableOf", "(I)LRobinRow$Table;"⟩
abbrev cX4_tableWithSlot : ByteArray := prog_1_method_28_code
def yX4_tableWithSlot : MethodName := ⟨RX4, "tableWithSlot", "(II)LRobinRow$Table;"⟩
abbrev cX4_lookUp : ByteArray := prog_1_method_30_code
def yX4_lookUp : MethodName := ⟨RX4, "lookUp", "(I)V"⟩
abbrev cX4_putNew : ByteArray := prog_1_method_32_code
def yX4_putNew : MethodName := ⟨RX4, "putNew", "(II)V"⟩
abbrev cX4_beginMove : ByteArray := prog_1_method_33_code
def yX4_beginMove : MethodName := ⟨RX4, "beginMove", "()V"⟩
abbrev cX4_moveSlice : ByteArray := prog_1_method_34_code
def yX4_moveSlice : MethodName := ⟨RX4, "moveSlice", "()I"⟩
abbrev cX4_endMoveIfOldIsEmpty : ByteArray := prog_1_method_35_code
def yX4_endMoveIfOldIsEmpty : MethodName := ⟨RX4, "endMoveIfOldIsEmpty", "()V"⟩
def RX5 : String := "RobinRowModel"
def TX5 : u_T := fun k => match k with
  | _ => ("", "", "", false)
def tyX5 : Nat → FieldType := fun k => match k with
  | _ => .int
abbrev wsX50 : List Cond := u_ws RX5 TX5 0
theorem nmX5 : ∀ a, a < 0 → ∀ b, b < 0 → a ≠ b → (TX5 a).2.1 ≠ (TX5 b).2.1 := by decide +kernel
theorem tyX5_ok : ∀ k, k < 0 → parseFieldDescriptor (TX5 k).2.2.1 = some (tyX5 k) := by decide +kernel
def RJ9 : String := "java/lang/Math"
def TJ9 : u_T := fun k => match k with
  | _ => ("", "", "", false)
def tyJ9 : Nat → FieldType := fun k => match k with
  | _ => .int
abbrev wsJ90 : List Cond := u_ws RJ9 TJ9 0
theorem nmJ9 : ∀ a, a < 0 → ∀ b, b < 0 → a ≠ b → (TJ9 a).2.1 ≠ (TJ9 b).2.1 := by decide +kernel
theorem tyJ9_ok : ∀ k, k < 0 → parseFieldDescriptor (TJ9 k).2.2.1 = some (tyJ9 k) := by decide +kernel
abbrev cJ9_max_7cf53 : ByteArray := prog_12_method_65_code
def yJ9_max_7cf53 : MethodName := ⟨RJ9, "max", "(II)I"⟩
abbrev cJ9_min_7cf53 : ByteArray := prog_12_method_69_code
def yJ9_min_7cf53 : MethodName := ⟨RJ9, "min", "(II)I"⟩
def RJ0 : String := "java/lang/String"
def TJ0 : u_T := fun k => match k with
  | _ => ("", "", "", false)
def tyJ0 : Nat → FieldType := fun k => match k with
  | _ => .int
abbrev wsJ00 : List Cond := u_ws RJ0 TJ0 0
theorem nmJ0 : ∀ a, a < 0 → ∀ b, b < 0 → a ≠ b → (TJ0 a).2.1 ≠ (TJ0 b).2.1 := by decide +kernel
theorem tyJ0_ok : ∀ k, k < 0 → parseFieldDescriptor (TJ0 k).2.2.1 = some (tyJ0 k) := by decide +kernel
def RL : String := "RobinRowLaw"
abbrev cL_drawn : ByteArray := method_2_code
def yL_drawn : MethodName := ⟨RL, "drawn", "([II)I"⟩
abbrev cL_low : ByteArray := method_3_code
def yL_low : MethodName := ⟨RL, "low", "(II)I"⟩
abbrev cL_placeOf : ByteArray := method_4_code
def yL_placeOf : MethodName := ⟨RL, "placeOf", "([III)I"⟩
abbrev cL_size : ByteArray := method_5_code
def yL_size : MethodName := ⟨RL, "size", "([II)I"⟩
abbrev cL_isPut : ByteArray := method_6_code
def yL_isPut : MethodName := ⟨RL, "isPut", "(LRobinRow;[I[I[III)Z"⟩
abbrev cL_isRemoved : ByteArray := method_7_code
def yL_isRemoved : MethodName := ⟨RL, "isRemoved", "(LRobinRow;[I[III)Z"⟩
abbrev cL_keysOf : ByteArray := method_8_code
def yL_keysOf : MethodName := ⟨RL, "keysOf", "(LRobinRow;I)I"⟩
abbrev cL_isSo : ByteArray := method_9_code
def yL_isSo : MethodName := ⟨RL, "isSo", "(LRobinRow;[I[III)Z"⟩
abbrev cL_law : ByteArray := code
def yL_law : MethodName := ⟨RL, "law", "([I)Z"⟩
def wsX0_init : List Cond := .code yX0_init cX0_init 1 none :: ([.methodLink RX0 3 objectInit, .instanceMethod objectInit, .code objectInit ⟨#[0xb1]⟩ 1 none, .arrayClass .int, .fieldLink RX0 9 "RobinRow$PlainRow" "rising" "[I", .arrayClass .boolean, .fieldLink RX0 15 "RobinRow$PlainRow" "taken" "[Z"] ++ wsX00)
def wsX3_isEmptyIn : List Cond := .code yX3_isEmptyIn cX3_isEmptyIn 2 (some .boolean) :: ([.fieldLink RX3 9 "RobinRow$Table" "controls" "[B"] ++ wsX30)
def wsX3_keyIn : List Cond := .code yX3_keyIn cX3_keyIn 2 (some .int) :: ([.fieldLink RX3 19 "RobinRow$Table" "keys" "[I"] ++ wsX30)
def wsX0_sortByKeys : List Cond := .code yX0_sortByKeys cX0_sortByKeys 5 (some .int) :: ([.fieldLink RX0 9 "RobinRow$PlainRow" "rising" "[I", .methodLink RX0 49 yX3_isEmptyIn, .instanceMethod yX3_isEmptyIn, .selects RX3 yX3_isEmptyIn yX3_isEmptyIn, .initialized RX3, .code yX3_isEmptyIn cX3_isEmptyIn 2 (some .boolean), .fieldLink RX3 9 "RobinRow$Table" "controls" "[B", .methodLink RX0 53 yX3_keyIn, .instanceMethod yX3_keyIn, .selects RX3 yX3_keyIn yX3_keyIn, .code yX3_keyIn cX3_keyIn 2 (some .int), .fieldLink RX3 19 "RobinRow$Table" "keys" "[I"] ++ wsX30 ++ wsX00)
def wsX3_hashIn : List Cond := .code yX3_hashIn cX3_hashIn 2 (some .int) :: ([.fieldLink RX3 15 "RobinRow$Table" "hashes" "[I"] ++ wsX30)
def wsX3_around : List Cond := .code yX3_around cX3_around 2 (some .int) :: ([.fieldLink RX3 35 "RobinRow$Table" "slots" "I"] ++ wsX30)
def wsX0_takeFirstFree : List Cond := .code yX0_takeFirstFree cX0_takeFirstFree 4 (some .int) :: ([.fieldLink RX0 15 "RobinRow$PlainRow" "taken" "[Z", .methodLink RX0 56 yX3_around, .instanceMethod yX3_around, .selects RX3 yX3_around yX3_around, .initialized RX3, .code yX3_around cX3_around 2 (some .int), .fieldLink RX3 35 "RobinRow$Table" "slots" "I"] ++ wsX30 ++ wsX00)
def wsX0_fillFrom_r1 : List Cond := [Cond.fieldLink RX0 19 "RobinRow$PlainRow" "total" "I", Cond.fieldLink RX0 23 "RobinRow$PlainRow" "longest" "I", Cond.fieldLink RX0 15 "RobinRow$PlainRow" "taken" "[Z", Cond.fieldLink RX0 9 "RobinRow$PlainRow" "rising" "[I", Cond.methodLink RX0 40 Lib.Math.max.name, Cond.static Lib.Math.max.name, Cond.initialized "java/lang/Math", Cond.code Lib.Math.max.name Lib.Math.max.code 2 (some .int), Cond.methodLink RX0 26 yX0_sortByKeys, Cond.instanceMethod yX0_sortByKeys, Cond.selects RX0 yX0_sortByKeys yX0_sortByKeys, Cond.initialized RX0, Cond.code yX0_sortByKeys cX0_sortByKeys 5 (some .int), Cond.methodLink RX0 49 yX3_isEmptyIn, Cond.instanceMethod yX3_isEmptyIn, Cond.selects RX3 yX3_isEmptyIn yX3_isEmptyIn, Cond.initialized RX3, Cond.code yX3_isEmptyIn cX3_isEmptyIn 2 (some .boolean), Cond.fieldLink RX3 9 "RobinRow$Table" "controls" "[B", Cond.methodLink RX0 53 yX3_keyIn, Cond.instanceMethod yX3_keyIn, Cond.selects RX3 yX3_keyIn yX3_keyIn, Cond.code yX3_keyIn cX3_keyIn 2 (some .int), Cond.fieldLink RX3 19 "RobinRow$Table" "keys" "[I"]
def wsX0_fillFrom_r2 : List Cond := [Cond.methodLink RX0 30 yX3_hashIn, Cond.instanceMethod yX3_hashIn, Cond.selects RX3 yX3_hashIn yX3_hashIn, Cond.code yX3_hashIn cX3_hashIn 2 (some .int), Cond.fieldLink RX3 15 "RobinRow$Table" "hashes" "[I", Cond.methodLink RX0 36 yX0_takeFirstFree, Cond.instanceMethod yX0_takeFirstFree, Cond.selects RX0 yX0_takeFirstFree yX0_takeFirstFree, Cond.code yX0_takeFirstFree cX0_takeFirstFree 4 (some .int), Cond.methodLink RX0 56 yX3_around, Cond.instanceMethod yX3_around, Cond.selects RX3 yX3_around yX3_around, Cond.code yX3_around cX3_around 2 (some .int), Cond.fieldLink RX3 35 "RobinRow$Table" "slots" "I"]
def wsX0_fillFrom : List Cond := .code yX0_fillFrom cX0_fillFrom 5 none :: ((wsX0_fillFrom_r1 ++ wsX0_fillFrom_r2) ++ wsX00 ++ wsX30)
def wsX1_init : List Cond := .code yX1_init cX1_init 1 none :: ([.methodLink RX1 3 objectInit, .instanceMethod objectInit, .code objectInit ⟨#[0xb1]⟩ 1 none])
def wsX1_begin : List Cond := .code yX1_begin cX1_begin 1 none :: ([.fieldLink RX1 9 "RobinRow$Search" "table" "LRobinRow$Table;", .fieldLink RX1 15 "RobinRow$Search" "groups" "I", .fieldLink RX1 19 "RobinRow$Search" "comparisons" "I"] ++ wsX10)
def wsX1_hasFound : List Cond := .code yX1_hasFound cX1_hasFound 1 (some .boolean) :: ([.fieldLink RX1 9 "RobinRow$Search" "table" "LRobinRow$Table;"] ++ wsX10)
def wsX3_controlIn : List Cond := .code yX3_controlIn cX3_controlIn 2 (some .byte) :: ([.fieldLink RX3 9 "RobinRow$Table" "controls" "[B"] ++ wsX30)
def wsX1_lookAtGroup_r1 : List Cond := [Cond.fieldLink RX1 19 "RobinRow$Search" "comparisons" "I", Cond.fieldLink RX1 9 "RobinRow$Search" "table" "LRobinRow$Table;", Cond.fieldLink RX1 50 "RobinRow$Search" "slot" "I", Cond.methodLink RX1 31 yX1_hasFound, Cond.instanceMethod yX1_hasFound, Cond.selects RX1 yX1_hasFound yX1_hasFound, Cond.initialized RX1, Cond.code yX1_hasFound cX1_hasFound 1 (some .boolean), Cond.methodLink RX1 35 yX3_around, Cond.instanceMethod yX3_around, Cond.selects RX3 yX3_around yX3_around, Cond.initialized RX3, Cond.code yX3_around cX3_around 2 (some .int), Cond.fieldLink RX3 35 "RobinRow$Table" "slots" "I", Cond.methodLink RX1 39 yX3_isEmptyIn, Cond.instanceMethod yX3_isEmptyIn, Cond.selects RX3 yX3_isEmptyIn yX3_isEmptyIn, Cond.code yX3_isEmptyIn cX3_isEmptyIn 2 (some .boolean), Cond.fieldLink RX3 9 "RobinRow$Table" "controls" "[B", Cond.methodLink RX1 43 yX3_controlIn, Cond.instanceMethod yX3_controlIn, Cond.selects RX3 yX3_controlIn yX3_controlIn, Cond.code yX3_controlIn cX3_controlIn 2 (some .byte), Cond.methodLink RX1 47 yX3_keyIn]
def wsX1_lookAtGroup_r2 : List Cond := [Cond.instanceMethod yX3_keyIn, Cond.selects RX3 yX3_keyIn yX3_keyIn, Cond.code yX3_keyIn cX3_keyIn 2 (some .int), Cond.fieldLink RX3 19 "RobinRow$Table" "keys" "[I"]
def wsX1_lookAtGroup : List Cond := .code yX1_lookAtGroup cX1_lookAtGroup 8 (some .boolean) :: ((wsX1_lookAtGroup_r1 ++ wsX1_lookAtGroup_r2) ++ wsX10 ++ wsX30)
def wsX1_lookIn_r1 : List Cond := [Cond.fieldLink RX1 15 "RobinRow$Search" "groups" "I", Cond.methodLink RX1 27 yX1_lookAtGroup, Cond.instanceMethod yX1_lookAtGroup, Cond.selects RX1 yX1_lookAtGroup yX1_lookAtGroup, Cond.initialized RX1, Cond.code yX1_lookAtGroup cX1_lookAtGroup 8 (some .boolean), Cond.fieldLink RX1 19 "RobinRow$Search" "comparisons" "I", Cond.fieldLink RX1 9 "RobinRow$Search" "table" "LRobinRow$Table;", Cond.fieldLink RX1 50 "RobinRow$Search" "slot" "I", Cond.methodLink RX1 31 yX1_hasFound, Cond.instanceMethod yX1_hasFound, Cond.selects RX1 yX1_hasFound yX1_hasFound, Cond.code yX1_hasFound cX1_hasFound 1 (some .boolean), Cond.methodLink RX1 35 yX3_around, Cond.instanceMethod yX3_around, Cond.selects RX3 yX3_around yX3_around, Cond.initialized RX3, Cond.code yX3_around cX3_around 2 (some .int), Cond.fieldLink RX3 35 "RobinRow$Table" "slots" "I", Cond.methodLink RX1 39 yX3_isEmptyIn, Cond.instanceMethod yX3_isEmptyIn, Cond.selects RX3 yX3_isEmptyIn yX3_isEmptyIn, Cond.code yX3_isEmptyIn cX3_isEmptyIn 2 (some .boolean), Cond.fieldLink RX3 9 "RobinRow$Table" "controls" "[B"]
def wsX1_lookIn_r2 : List Cond := [Cond.methodLink RX1 43 yX3_controlIn, Cond.instanceMethod yX3_controlIn, Cond.selects RX3 yX3_controlIn yX3_controlIn, Cond.code yX3_controlIn cX3_controlIn 2 (some .byte), Cond.methodLink RX1 47 yX3_keyIn, Cond.instanceMethod yX3_keyIn, Cond.selects RX3 yX3_keyIn yX3_keyIn, Cond.code yX3_keyIn cX3_keyIn 2 (some .int), Cond.fieldLink RX3 19 "RobinRow$Table" "keys" "[I"]
def wsX1_lookIn : List Cond := .code yX1_lookIn cX1_lookIn 7 none :: ((wsX1_lookIn_r1 ++ wsX1_lookIn_r2) ++ wsX30 ++ wsX10)
def wsX2_init : List Cond := .code yX2_init cX2_init 1 none :: ([.methodLink RX2 3 objectInit, .instanceMethod objectInit, .code objectInit ⟨#[0xb1]⟩ 1 none])
def wsX2_end : List Cond := .code yX2_end cX2_end 1 none :: ([.fieldLink RX2 9 "RobinRow$Sweep" "isOpen" "Z"] ++ wsX20)
def wsX3_emptyWith : List Cond := .code yX3_emptyWith cX3_emptyWith 3 none :: ([.methodLink RX3 29 Lib.Math.min.name, .static Lib.Math.min.name, .initialized "java/lang/Math", .code Lib.Math.min.name Lib.Math.min.code 2 (some .int), .fieldLink RX3 35 "RobinRow$Table" "slots" "I", .fieldLink RX3 39 "RobinRow$Table" "count" "I", .fieldLink RX3 9 "RobinRow$Table" "controls" "[B"] ++ wsX30)
def wsX3_init : List Cond := .code yX3_init cX3_init 2 none :: ([.methodLink RX3 3 objectInit, .instanceMethod objectInit, .code objectInit ⟨#[0xb1]⟩ 1 none, .arrayClass .byte, .fieldLink RX3 9 "RobinRow$Table" "controls" "[B", .arrayClass .int, .fieldLink RX3 15 "RobinRow$Table" "hashes" "[I", .fieldLink RX3 19 "RobinRow$Table" "keys" "[I", .fieldLink RX3 22 "RobinRow$Table" "values" "[I", .methodLink RX3 25 yX3_emptyWith, .instanceMethod yX3_emptyWith, .selects RX3 yX3_emptyWith yX3_emptyWith, .initialized RX3, .code yX3_emptyWith cX3_emptyWith 3 none, .methodLink RX3 29 Lib.Math.min.name, .static Lib.Math.min.name, .initialized "java/lang/Math", .code Lib.Math.min.name Lib.Math.min.code 2 (some .int), .fieldLink RX3 35 "RobinRow$Table" "slots" "I", .fieldLink RX3 39 "RobinRow$Table" "count" "I"] ++ wsX30)
def wsX3_valueIn : List Cond := .code yX3_valueIn cX3_valueIn 2 (some .int) :: ([.fieldLink RX3 22 "RobinRow$Table" "values" "[I"] ++ wsX30)
def wsX3_distanceIn : List Cond := .code yX3_distanceIn cX3_distanceIn 2 (some .int) :: ([.fieldLink RX3 15 "RobinRow$Table" "hashes" "[I", .methodLink RX3 42 yX3_isEmptyIn, .instanceMethod yX3_isEmptyIn, .selects RX3 yX3_isEmptyIn yX3_isEmptyIn, .initialized RX3, .code yX3_isEmptyIn cX3_isEmptyIn 2 (some .boolean), .fieldLink RX3 9 "RobinRow$Table" "controls" "[B", .methodLink RX3 46 yX3_around, .instanceMethod yX3_around, .selects RX3 yX3_around yX3_around, .code yX3_around cX3_around 2 (some .int), .fieldLink RX3 35 "RobinRow$Table" "slots" "I"] ++ wsX30)
def wsX3_exchangeValue : List Cond := .code yX3_exchangeValue cX3_exchangeValue 4 (some .int) :: ([.fieldLink RX3 22 "RobinRow$Table" "values" "[I"] ++ wsX30)
def wsX3_lowestSlotWithKey : List Cond := .code yX3_lowestSlotWithKey cX3_lowestSlotWithKey 2 (some .int) :: ([.fieldLink RX3 35 "RobinRow$Table" "slots" "I", .methodLink RX3 42 yX3_isEmptyIn, .instanceMethod yX3_isEmptyIn, .selects RX3 yX3_isEmptyIn yX3_isEmptyIn, .initialized RX3, .code yX3_isEmptyIn cX3_isEmptyIn 2 (some .boolean), .fieldLink RX3 9 "RobinRow$Table" "controls" "[B"] ++ wsX30)
def wsX3_fill : List Cond := .code yX3_fill cX3_fill 5 none :: ([.fieldLink RX3 9 "RobinRow$Table" "controls" "[B", .fieldLink RX3 15 "RobinRow$Table" "hashes" "[I", .fieldLink RX3 19 "RobinRow$Table" "keys" "[I", .fieldLink RX3 22 "RobinRow$Table" "values" "[I"] ++ wsX30)
def wsX3_carryIn : List Cond := .code yX3_carryIn cX3_carryIn 14 none :: ([.fieldLink RX3 35 "RobinRow$Table" "slots" "I", .fieldLink RX3 39 "RobinRow$Table" "count" "I", .fieldLink RX3 19 "RobinRow$Table" "keys" "[I", .fieldLink RX3 22 "RobinRow$Table" "values" "[I", .fieldLink RX3 15 "RobinRow$Table" "hashes" "[I", .methodLink RX3 46 yX3_around, .instanceMethod yX3_around, .selects RX3 yX3_around yX3_around, .initialized RX3, .code yX3_around cX3_around 2 (some .int), .methodLink RX3 59 yX3_distanceIn, .instanceMethod yX3_distanceIn, .selects RX3 yX3_distanceIn yX3_distanceIn, .code yX3_distanceIn cX3_distanceIn 2 (some .int), .methodLink RX3 42 yX3_isEmptyIn, .instanceMethod yX3_isEmptyIn, .selects RX3 yX3_isEmptyIn yX3_isEmptyIn, .code yX3_isEmptyIn cX3_isEmptyIn 2 (some .boolean), .fieldLink RX3 9 "RobinRow$Table" "controls" "[B", .methodLink RX3 62 yX3_fill, .instanceMethod yX3_fill, .selects RX3 yX3_fill yX3_fill, .code yX3_fill cX3_fill 5 none] ++ wsX30)
def wsX3_takeOut : List Cond := .code yX3_takeOut cX3_takeOut 5 none :: ([.fieldLink RX3 35 "RobinRow$Table" "slots" "I", .fieldLink RX3 19 "RobinRow$Table" "keys" "[I", .fieldLink RX3 22 "RobinRow$Table" "values" "[I", .fieldLink RX3 15 "RobinRow$Table" "hashes" "[I", .fieldLink RX3 9 "RobinRow$Table" "controls" "[B", .fieldLink RX3 39 "RobinRow$Table" "count" "I", .methodLink RX3 46 yX3_around, .instanceMethod yX3_around, .selects RX3 yX3_around yX3_around, .initialized RX3, .code yX3_around cX3_around 2 (some .int), .methodLink RX3 59 yX3_distanceIn, .instanceMethod yX3_distanceIn, .selects RX3 yX3_distanceIn yX3_distanceIn, .code yX3_distanceIn cX3_distanceIn 2 (some .int), .methodLink RX3 42 yX3_isEmptyIn, .instanceMethod yX3_isEmptyIn, .selects RX3 yX3_isEmptyIn yX3_isEmptyIn, .code yX3_isEmptyIn cX3_isEmptyIn 2 (some .boolean), .methodLink RX3 62 yX3_fill, .instanceMethod yX3_fill, .selects RX3 yX3_fill yX3_fill, .code yX3_fill cX3_fill 5 none] ++ wsX30)
def wsX4_init_r1 : List Cond := [Cond.methodLink RX4 1 objectInit, Cond.instanceMethod objectInit, Cond.code objectInit ⟨#[0xb1]⟩ 1 none, Cond.classLink RX4 9 RX2, Cond.fieldLink RX4 11 "RobinRow" "sweeps" "[LRobinRow$Sweep;", Cond.classLink RX4 15 RX1, Cond.instantiable RX1 4, Cond.initialized RX1, Cond.fieldLink RX4 18 "RobinRow" "search" "LRobinRow$Search;", Cond.classLink RX4 22 RX0, Cond.instantiable RX0 4, Cond.initialized RX0, Cond.fieldLink RX4 25 "RobinRow" "plainRow" "LRobinRow$PlainRow;", Cond.classLink RX4 29 RX3, Cond.instantiable RX3 6, Cond.initialized RX3, Cond.fieldLink RX4 34 "RobinRow" "present" "LRobinRow$Table;", Cond.fieldLink RX4 38 "RobinRow" "old" "LRobinRow$Table;", Cond.instantiable RX2 5, Cond.initialized RX2, Cond.fieldLink RX4 42 "RobinRow" "way" "I", Cond.instanceMethod yX1_init, Cond.code yX1_init cX1_init 1 none, Cond.methodLink RX1 3 objectInit]
def wsX4_init_r2 : List Cond := [Cond.instanceMethod yX0_init, Cond.code yX0_init cX0_init 1 none, Cond.methodLink RX0 3 objectInit, Cond.arrayClass .int, Cond.fieldLink RX0 9 "RobinRow$PlainRow" "rising" "[I", Cond.arrayClass .boolean, Cond.fieldLink RX0 15 "RobinRow$PlainRow" "taken" "[Z", Cond.methodLink RX4 31 yX3_init, Cond.instanceMethod yX3_init, Cond.code yX3_init cX3_init 2 none, Cond.methodLink RX3 3 objectInit, Cond.arrayClass .byte, Cond.fieldLink RX3 9 "RobinRow$Table" "controls" "[B", Cond.fieldLink RX3 15 "RobinRow$Table" "hashes" "[I", Cond.fieldLink RX3 19 "RobinRow$Table" "keys" "[I", Cond.fieldLink RX3 22 "RobinRow$Table" "values" "[I", Cond.methodLink RX3 25 yX3_emptyWith, Cond.instanceMethod yX3_emptyWith, Cond.selects RX3 yX3_emptyWith yX3_emptyWith, Cond.code yX3_emptyWith cX3_emptyWith 3 none, Cond.methodLink RX3 29 Lib.Math.min.name, Cond.static Lib.Math.min.name, Cond.initialized "java/lang/Math", Cond.code Lib.Math.min.name Lib.Math.min.code 2 (some .int)]
def wsX4_init_r3 : List Cond := [Cond.fieldLink RX3 35 "RobinRow$Table" "slots" "I", Cond.fieldLink RX3 39 "RobinRow$Table" "count" "I", Cond.instanceMethod yX2_init, Cond.code yX2_init cX2_init 1 none, Cond.methodLink RX2 3 objectInit]
def wsX4_init : List Cond := .code yX4_init cX4_init 2 none :: ((wsX4_init_r1 ++ (wsX4_init_r2 ++ wsX4_init_r3)) ++ wsX40 ++ wsX10 ++ wsX00 ++ wsX30 ++ wsX20)
def wsX4_clear_r1 : List Cond := [Cond.classLink RX4 46 "java/lang/IllegalArgumentException", Cond.initialized "java/lang/IllegalArgumentException", Cond.fieldLink RX4 42 "RobinRow" "way" "I", Cond.fieldLink RX4 34 "RobinRow" "present" "LRobinRow$Table;", Cond.fieldLink RX4 38 "RobinRow" "old" "LRobinRow$Table;", Cond.fieldLink RX4 56 "RobinRow" "begunMoves" "I", Cond.fieldLink RX4 11 "RobinRow" "sweeps" "[LRobinRow$Sweep;", Cond.methodLink RX4 53 yX3_emptyWith, Cond.instanceMethod yX3_emptyWith, Cond.selects RX3 yX3_emptyWith yX3_emptyWith, Cond.initialized RX3, Cond.code yX3_emptyWith cX3_emptyWith 3 none, Cond.methodLink RX3 29 Lib.Math.min.name, Cond.static Lib.Math.min.name, Cond.initialized "java/lang/Math", Cond.code Lib.Math.min.name Lib.Math.min.code 2 (some .int), Cond.fieldLink RX3 35 "RobinRow$Table" "slots" "I", Cond.fieldLink RX3 39 "RobinRow$Table" "count" "I", Cond.fieldLink RX3 9 "RobinRow$Table" "controls" "[B", Cond.methodLink RX4 59 yX2_end, Cond.instanceMethod yX2_end, Cond.selects RX2 yX2_end yX2_end, Cond.initialized RX2, Cond.code yX2_end cX2_end 1 none]
def wsX4_clear_r2 : List Cond := [Cond.fieldLink RX2 9 "RobinRow$Sweep" "isOpen" "Z"]
def wsX4_clear : List Cond := .code yX4_clear cX4_clear 3 none :: ((wsX4_clear_r1 ++ wsX4_clear_r2) ++ wsX40 ++ wsX30 ++ wsX20 ++ (vx_atS RX4 50 "java/lang/IllegalArgumentException" ["java/lang/RuntimeException", "java/lang/Exception"]).filter goodWord)
def wsX4_size : List Cond := .code yX4_size cX4_size 1 (some .int) :: ([.fieldLink RX4 34 "RobinRow" "present" "LRobinRow$Table;", .fieldLink RX4 38 "RobinRow" "old" "LRobinRow$Table;"] ++ wsX40 ++ wsX30)
def wsX4_hash : List Cond := .code yX4_hash cX4_hash 3 (some .int) :: ([.fieldLink RX4 42 "RobinRow" "way" "I", .constant RX4 163 (-1640531535)] ++ wsX40)
def wsX4_lookUp_r1 : List Cond := [Cond.fieldLink RX4 18 "RobinRow" "search" "LRobinRow$Search;", Cond.fieldLink RX4 34 "RobinRow" "present" "LRobinRow$Table;", Cond.fieldLink RX4 38 "RobinRow" "old" "LRobinRow$Table;", Cond.methodLink RX4 199 yX4_hash, Cond.instanceMethod yX4_hash, Cond.selects RX4 yX4_hash yX4_hash, Cond.initialized RX4, Cond.code yX4_hash cX4_hash 3 (some .int), Cond.fieldLink RX4 42 "RobinRow" "way" "I", Cond.constant RX4 163 (-1640531535), Cond.methodLink RX4 202 yX1_begin, Cond.instanceMethod yX1_begin, Cond.selects RX1 yX1_begin yX1_begin, Cond.initialized RX1, Cond.code yX1_begin cX1_begin 1 none, Cond.fieldLink RX1 9 "RobinRow$Search" "table" "LRobinRow$Table;", Cond.fieldLink RX1 15 "RobinRow$Search" "groups" "I", Cond.fieldLink RX1 19 "RobinRow$Search" "comparisons" "I", Cond.methodLink RX4 203 yX1_lookIn, Cond.instanceMethod yX1_lookIn, Cond.selects RX1 yX1_lookIn yX1_lookIn, Cond.code yX1_lookIn cX1_lookIn 7 none, Cond.methodLink RX1 27 yX1_lookAtGroup, Cond.instanceMethod yX1_lookAtGroup]
def wsX4_lookUp_r2 : List Cond := [Cond.selects RX1 yX1_lookAtGroup yX1_lookAtGroup, Cond.code yX1_lookAtGroup cX1_lookAtGroup 8 (some .boolean), Cond.fieldLink RX1 50 "RobinRow$Search" "slot" "I", Cond.methodLink RX1 31 yX1_hasFound, Cond.instanceMethod yX1_hasFound, Cond.selects RX1 yX1_hasFound yX1_hasFound, Cond.code yX1_hasFound cX1_hasFound 1 (some .boolean), Cond.methodLink RX1 35 yX3_around, Cond.instanceMethod yX3_around, Cond.selects RX3 yX3_around yX3_around, Cond.initialized RX3, Cond.code yX3_around cX3_around 2 (some .int), Cond.fieldLink RX3 35 "RobinRow$Table" "slots" "I", Cond.methodLink RX1 39 yX3_isEmptyIn, Cond.instanceMethod yX3_isEmptyIn, Cond.selects RX3 yX3_isEmptyIn yX3_isEmptyIn, Cond.code yX3_isEmptyIn cX3_isEmptyIn 2 (some .boolean), Cond.fieldLink RX3 9 "RobinRow$Table" "controls" "[B", Cond.methodLink RX1 43 yX3_controlIn, Cond.instanceMethod yX3_controlIn, Cond.selects RX3 yX3_controlIn yX3_controlIn, Cond.code yX3_controlIn cX3_controlIn 2 (some .byte), Cond.methodLink RX1 47 yX3_keyIn, Cond.instanceMethod yX3_keyIn]
def wsX4_lookUp_r3 : List Cond := [Cond.selects RX3 yX3_keyIn yX3_keyIn, Cond.code yX3_keyIn cX3_keyIn 2 (some .int), Cond.fieldLink RX3 19 "RobinRow$Table" "keys" "[I", Cond.methodLink RX4 83 yX1_hasFound]
def wsX4_lookUp : List Cond := .code yX4_lookUp cX4_lookUp 3 none :: ((wsX4_lookUp_r1 ++ (wsX4_lookUp_r2 ++ wsX4_lookUp_r3)) ++ wsX40 ++ wsX10 ++ wsX30)
def wsX4_get_r1 : List Cond := [Cond.fieldLink RX4 18 "RobinRow" "search" "LRobinRow$Search;", Cond.methodLink RX4 80 yX4_lookUp, Cond.instanceMethod yX4_lookUp, Cond.selects RX4 yX4_lookUp yX4_lookUp, Cond.initialized RX4, Cond.code yX4_lookUp cX4_lookUp 3 none, Cond.fieldLink RX4 34 "RobinRow" "present" "LRobinRow$Table;", Cond.fieldLink RX4 38 "RobinRow" "old" "LRobinRow$Table;", Cond.methodLink RX4 199 yX4_hash, Cond.instanceMethod yX4_hash, Cond.selects RX4 yX4_hash yX4_hash, Cond.code yX4_hash cX4_hash 3 (some .int), Cond.fieldLink RX4 42 "RobinRow" "way" "I", Cond.constant RX4 163 (-1640531535), Cond.methodLink RX4 202 yX1_begin, Cond.instanceMethod yX1_begin, Cond.selects RX1 yX1_begin yX1_begin, Cond.initialized RX1, Cond.code yX1_begin cX1_begin 1 none, Cond.fieldLink RX1 9 "RobinRow$Search" "table" "LRobinRow$Table;", Cond.fieldLink RX1 15 "RobinRow$Search" "groups" "I", Cond.fieldLink RX1 19 "RobinRow$Search" "comparisons" "I", Cond.methodLink RX4 203 yX1_lookIn, Cond.instanceMethod yX1_lookIn]
def wsX4_get_r2 : List Cond := [Cond.selects RX1 yX1_lookIn yX1_lookIn, Cond.code yX1_lookIn cX1_lookIn 7 none, Cond.methodLink RX1 27 yX1_lookAtGroup, Cond.instanceMethod yX1_lookAtGroup, Cond.selects RX1 yX1_lookAtGroup yX1_lookAtGroup, Cond.code yX1_lookAtGroup cX1_lookAtGroup 8 (some .boolean), Cond.fieldLink RX1 50 "RobinRow$Search" "slot" "I", Cond.methodLink RX1 31 yX1_hasFound, Cond.instanceMethod yX1_hasFound, Cond.selects RX1 yX1_hasFound yX1_hasFound, Cond.code yX1_hasFound cX1_hasFound 1 (some .boolean), Cond.methodLink RX1 35 yX3_around, Cond.instanceMethod yX3_around, Cond.selects RX3 yX3_around yX3_around, Cond.initialized RX3, Cond.code yX3_around cX3_around 2 (some .int), Cond.fieldLink RX3 35 "RobinRow$Table" "slots" "I", Cond.methodLink RX1 39 yX3_isEmptyIn, Cond.instanceMethod yX3_isEmptyIn, Cond.selects RX3 yX3_isEmptyIn yX3_isEmptyIn, Cond.code yX3_isEmptyIn cX3_isEmptyIn 2 (some .boolean), Cond.fieldLink RX3 9 "RobinRow$Table" "controls" "[B", Cond.methodLink RX1 43 yX3_controlIn, Cond.instanceMethod yX3_controlIn]
def wsX4_get_r3 : List Cond := [Cond.selects RX3 yX3_controlIn yX3_controlIn, Cond.code yX3_controlIn cX3_controlIn 2 (some .byte), Cond.methodLink RX1 47 yX3_keyIn, Cond.instanceMethod yX3_keyIn, Cond.selects RX3 yX3_keyIn yX3_keyIn, Cond.code yX3_keyIn cX3_keyIn 2 (some .int), Cond.fieldLink RX3 19 "RobinRow$Table" "keys" "[I", Cond.methodLink RX4 83 yX1_hasFound, Cond.methodLink RX4 101 yX3_valueIn, Cond.instanceMethod yX3_valueIn, Cond.selects RX3 yX3_valueIn yX3_valueIn, Cond.code yX3_valueIn cX3_valueIn 2 (some .int), Cond.fieldLink RX3 22 "RobinRow$Table" "values" "[I"]
def wsX4_get : List Cond := .code yX4_get cX4_get 2 (some .int) :: ((wsX4_get_r1 ++ (wsX4_get_r2 ++ wsX4_get_r3)) ++ wsX40 ++ wsX10 ++ wsX30)
def wsX4_endMoveIfOldIsEmpty : List Cond := .code yX4_endMoveIfOldIsEmpty cX4_endMoveIfOldIsEmpty 1 none :: ([.fieldLink RX4 38 "RobinRow" "old" "LRobinRow$Table;", .methodLink RX4 53 yX3_emptyWith, .instanceMethod yX3_emptyWith, .selects RX3 yX3_emptyWith yX3_emptyWith, .initialized RX3, .code yX3_emptyWith cX3_emptyWith 3 none, .methodLink RX3 29 Lib.Math.min.name, .static Lib.Math.min.name, .initialized "java/lang/Math", .code Lib.Math.min.name Lib.Math.min.code 2 (some .int), .fieldLink RX3 35 "RobinRow$Table" "slots" "I", .fieldLink RX3 39 "RobinRow$Table" "count" "I", .fieldLink RX3 9 "RobinRow$Table" "controls" "[B"] ++ wsX40 ++ wsX30)
def wsX4_moveSlice_r1 : List Cond := [Cond.fieldLink RX4 38 "RobinRow" "old" "LRobinRow$Table;", Cond.fieldLink RX4 34 "RobinRow" "present" "LRobinRow$Table;", Cond.methodLink RX4 242 yX3_lowestSlotWithKey, Cond.instanceMethod yX3_lowestSlotWithKey, Cond.selects RX3 yX3_lowestSlotWithKey yX3_lowestSlotWithKey, Cond.initialized RX3, Cond.code yX3_lowestSlotWithKey cX3_lowestSlotWithKey 2 (some .int), Cond.fieldLink RX3 35 "RobinRow$Table" "slots" "I", Cond.methodLink RX3 42 yX3_isEmptyIn, Cond.instanceMethod yX3_isEmptyIn, Cond.selects RX3 yX3_isEmptyIn yX3_isEmptyIn, Cond.code yX3_isEmptyIn cX3_isEmptyIn 2 (some .boolean), Cond.fieldLink RX3 9 "RobinRow$Table" "controls" "[B", Cond.methodLink RX4 136 yX3_keyIn, Cond.instanceMethod yX3_keyIn, Cond.selects RX3 yX3_keyIn yX3_keyIn, Cond.code yX3_keyIn cX3_keyIn 2 (some .int), Cond.fieldLink RX3 19 "RobinRow$Table" "keys" "[I", Cond.methodLink RX4 101 yX3_valueIn, Cond.instanceMethod yX3_valueIn, Cond.selects RX3 yX3_valueIn yX3_valueIn, Cond.code yX3_valueIn cX3_valueIn 2 (some .int), Cond.fieldLink RX3 22 "RobinRow$Table" "values" "[I", Cond.methodLink RX4 245 yX3_hashIn]
def wsX4_moveSlice_r2 : List Cond := [Cond.instanceMethod yX3_hashIn, Cond.selects RX3 yX3_hashIn yX3_hashIn, Cond.code yX3_hashIn cX3_hashIn 2 (some .int), Cond.fieldLink RX3 15 "RobinRow$Table" "hashes" "[I", Cond.methodLink RX4 238 yX3_carryIn, Cond.instanceMethod yX3_carryIn, Cond.selects RX3 yX3_carryIn yX3_carryIn, Cond.code yX3_carryIn cX3_carryIn 14 none, Cond.fieldLink RX3 39 "RobinRow$Table" "count" "I", Cond.methodLink RX3 46 yX3_around, Cond.instanceMethod yX3_around, Cond.selects RX3 yX3_around yX3_around, Cond.code yX3_around cX3_around 2 (some .int), Cond.methodLink RX3 59 yX3_distanceIn, Cond.instanceMethod yX3_distanceIn, Cond.selects RX3 yX3_distanceIn yX3_distanceIn, Cond.code yX3_distanceIn cX3_distanceIn 2 (some .int), Cond.methodLink RX3 62 yX3_fill, Cond.instanceMethod yX3_fill, Cond.selects RX3 yX3_fill yX3_fill, Cond.code yX3_fill cX3_fill 5 none, Cond.methodLink RX4 104 yX3_takeOut, Cond.instanceMethod yX3_takeOut, Cond.selects RX3 yX3_takeOut yX3_takeOut]
def wsX4_moveSlice_r3 : List Cond := [Cond.code yX3_takeOut cX3_takeOut 5 none, Cond.methodLink RX4 107 yX4_endMoveIfOldIsEmpty, Cond.instanceMethod yX4_endMoveIfOldIsEmpty, Cond.selects RX4 yX4_endMoveIfOldIsEmpty yX4_endMoveIfOldIsEmpty, Cond.initialized RX4, Cond.code yX4_endMoveIfOldIsEmpty cX4_endMoveIfOldIsEmpty 1 none, Cond.methodLink RX4 53 yX3_emptyWith, Cond.instanceMethod yX3_emptyWith, Cond.selects RX3 yX3_emptyWith yX3_emptyWith, Cond.code yX3_emptyWith cX3_emptyWith 3 none, Cond.methodLink RX3 29 Lib.Math.min.name, Cond.static Lib.Math.min.name, Cond.initialized "java/lang/Math", Cond.code Lib.Math.min.name Lib.Math.min.code 2 (some .int)]
def wsX4_moveSlice : List Cond := .code yX4_moveSlice cX4_moveSlice 3 (some .int) :: ((wsX4_moveSlice_r1 ++ (wsX4_moveSlice_r2 ++ wsX4_moveSlice_r3)) ++ wsX40 ++ wsX30)
def wsX4_beginMove : List Cond := .code yX4_beginMove cX4_beginMove 2 none :: ([.fieldLink RX4 38 "RobinRow" "old" "LRobinRow$Table;", .fieldLink RX4 34 "RobinRow" "present" "LRobinRow$Table;", .fieldLink RX4 56 "RobinRow" "begunMoves" "I", .methodLink RX4 53 yX3_emptyWith, .instanceMethod yX3_emptyWith, .selects RX3 yX3_emptyWith yX3_emptyWith, .initialized RX3, .code yX3_emptyWith cX3_emptyWith 3 none, .methodLink RX3 29 Lib.Math.min.name, .static Lib.Math.min.name, .initialized "java/lang/Math", .code Lib.Math.min.name Lib.Math.min.code 2 (some .int), .fieldLink RX3 35 "RobinRow$Table" "slots" "I", .fieldLink RX3 39 "RobinRow$Table" "count" "I", .fieldLink RX3 9 "RobinRow$Table" "controls" "[B"] ++ wsX40 ++ wsX30)
def wsX4_putNew_r1 : List Cond := [Cond.fieldLink RX4 34 "RobinRow" "present" "LRobinRow$Table;", Cond.methodLink RX4 64 yX4_size, Cond.instanceMethod yX4_size, Cond.selects RX4 yX4_size yX4_size, Cond.initialized RX4, Cond.code yX4_size cX4_size 1 (some .int), Cond.fieldLink RX4 38 "RobinRow" "old" "LRobinRow$Table;", Cond.methodLink RX4 235 yX4_beginMove, Cond.instanceMethod yX4_beginMove, Cond.selects RX4 yX4_beginMove yX4_beginMove, Cond.code yX4_beginMove cX4_beginMove 2 none, Cond.fieldLink RX4 56 "RobinRow" "begunMoves" "I", Cond.methodLink RX4 53 yX3_emptyWith, Cond.instanceMethod yX3_emptyWith, Cond.selects RX3 yX3_emptyWith yX3_emptyWith, Cond.initialized RX3, Cond.code yX3_emptyWith cX3_emptyWith 3 none, Cond.methodLink RX3 29 Lib.Math.min.name, Cond.static Lib.Math.min.name, Cond.initialized "java/lang/Math", Cond.code Lib.Math.min.name Lib.Math.min.code 2 (some .int), Cond.fieldLink RX3 35 "RobinRow$Table" "slots" "I", Cond.fieldLink RX3 39 "RobinRow$Table" "count" "I", Cond.fieldLink RX3 9 "RobinRow$Table" "controls" "[B"]
def wsX4_putNew_r2 : List Cond := [Cond.methodLink RX4 199 yX4_hash, Cond.instanceMethod yX4_hash, Cond.selects RX4 yX4_hash yX4_hash, Cond.code yX4_hash cX4_hash 3 (some .int), Cond.fieldLink RX4 42 "RobinRow" "way" "I", Cond.constant RX4 163 (-1640531535), Cond.methodLink RX4 238 yX3_carryIn, Cond.instanceMethod yX3_carryIn, Cond.selects RX3 yX3_carryIn yX3_carryIn, Cond.code yX3_carryIn cX3_carryIn 14 none, Cond.fieldLink RX3 19 "RobinRow$Table" "keys" "[I", Cond.fieldLink RX3 22 "RobinRow$Table" "values" "[I", Cond.fieldLink RX3 15 "RobinRow$Table" "hashes" "[I", Cond.methodLink RX3 46 yX3_around, Cond.instanceMethod yX3_around, Cond.selects RX3 yX3_around yX3_around, Cond.code yX3_around cX3_around 2 (some .int), Cond.methodLink RX3 59 yX3_distanceIn, Cond.instanceMethod yX3_distanceIn, Cond.selects RX3 yX3_distanceIn yX3_distanceIn, Cond.code yX3_distanceIn cX3_distanceIn 2 (some .int), Cond.methodLink RX3 42 yX3_isEmptyIn, Cond.instanceMethod yX3_isEmptyIn, Cond.selects RX3 yX3_isEmptyIn yX3_isEmptyIn]
def wsX4_putNew_r3 : List Cond := [Cond.code yX3_isEmptyIn cX3_isEmptyIn 2 (some .boolean), Cond.methodLink RX3 62 yX3_fill, Cond.instanceMethod yX3_fill, Cond.selects RX3 yX3_fill yX3_fill, Cond.code yX3_fill cX3_fill 5 none]
def wsX4_putNew : List Cond := .code yX4_putNew cX4_putNew 3 none :: ((wsX4_putNew_r1 ++ (wsX4_putNew_r2 ++ wsX4_putNew_r3)) ++ wsX40 ++ wsX30)
def wsX4_put_r1 : List Cond := [Cond.classLink RX4 46 "java/lang/IllegalArgumentException", Cond.initialized "java/lang/IllegalArgumentException", Cond.classLink RX4 72 "java/lang/IllegalStateException", Cond.initialized "java/lang/IllegalStateException", Cond.fieldLink RX4 18 "RobinRow" "search" "LRobinRow$Search;", Cond.methodLink RX4 64 yX4_size, Cond.instanceMethod yX4_size, Cond.selects RX4 yX4_size yX4_size, Cond.initialized RX4, Cond.code yX4_size cX4_size 1 (some .int), Cond.fieldLink RX4 34 "RobinRow" "present" "LRobinRow$Table;", Cond.fieldLink RX4 38 "RobinRow" "old" "LRobinRow$Table;", Cond.methodLink RX4 68 yX4_get, Cond.instanceMethod yX4_get, Cond.selects RX4 yX4_get yX4_get, Cond.code yX4_get cX4_get 2 (some .int), Cond.methodLink RX4 80 yX4_lookUp, Cond.instanceMethod yX4_lookUp, Cond.selects RX4 yX4_lookUp yX4_lookUp, Cond.code yX4_lookUp cX4_lookUp 3 none, Cond.methodLink RX4 199 yX4_hash, Cond.instanceMethod yX4_hash, Cond.selects RX4 yX4_hash yX4_hash, Cond.code yX4_hash cX4_hash 3 (some .int)]
def wsX4_put_r2 : List Cond := [Cond.fieldLink RX4 42 "RobinRow" "way" "I", Cond.constant RX4 163 (-1640531535), Cond.methodLink RX4 202 yX1_begin, Cond.instanceMethod yX1_begin, Cond.selects RX1 yX1_begin yX1_begin, Cond.initialized RX1, Cond.code yX1_begin cX1_begin 1 none, Cond.fieldLink RX1 9 "RobinRow$Search" "table" "LRobinRow$Table;", Cond.fieldLink RX1 15 "RobinRow$Search" "groups" "I", Cond.fieldLink RX1 19 "RobinRow$Search" "comparisons" "I", Cond.methodLink RX4 203 yX1_lookIn, Cond.instanceMethod yX1_lookIn, Cond.selects RX1 yX1_lookIn yX1_lookIn, Cond.code yX1_lookIn cX1_lookIn 7 none, Cond.methodLink RX1 27 yX1_lookAtGroup, Cond.instanceMethod yX1_lookAtGroup, Cond.selects RX1 yX1_lookAtGroup yX1_lookAtGroup, Cond.code yX1_lookAtGroup cX1_lookAtGroup 8 (some .boolean), Cond.fieldLink RX1 50 "RobinRow$Search" "slot" "I", Cond.methodLink RX1 31 yX1_hasFound, Cond.instanceMethod yX1_hasFound, Cond.selects RX1 yX1_hasFound yX1_hasFound, Cond.code yX1_hasFound cX1_hasFound 1 (some .boolean), Cond.methodLink RX1 35 yX3_around]
def wsX4_put_r3 : List Cond := [Cond.instanceMethod yX3_around, Cond.selects RX3 yX3_around yX3_around, Cond.initialized RX3, Cond.code yX3_around cX3_around 2 (some .int), Cond.fieldLink RX3 35 "RobinRow$Table" "slots" "I", Cond.methodLink RX1 39 yX3_isEmptyIn, Cond.instanceMethod yX3_isEmptyIn, Cond.selects RX3 yX3_isEmptyIn yX3_isEmptyIn, Cond.code yX3_isEmptyIn cX3_isEmptyIn 2 (some .boolean), Cond.fieldLink RX3 9 "RobinRow$Table" "controls" "[B", Cond.methodLink RX1 43 yX3_controlIn, Cond.instanceMethod yX3_controlIn, Cond.selects RX3 yX3_controlIn yX3_controlIn, Cond.code yX3_controlIn cX3_controlIn 2 (some .byte), Cond.methodLink RX1 47 yX3_keyIn, Cond.instanceMethod yX3_keyIn, Cond.selects RX3 yX3_keyIn yX3_keyIn, Cond.code yX3_keyIn cX3_keyIn 2 (some .int), Cond.fieldLink RX3 19 "RobinRow$Table" "keys" "[I", Cond.methodLink RX4 83 yX1_hasFound, Cond.methodLink RX4 101 yX3_valueIn, Cond.instanceMethod yX3_valueIn, Cond.selects RX3 yX3_valueIn yX3_valueIn, Cond.code yX3_valueIn cX3_valueIn 2 (some .int)]
def wsX4_put_r4 : List Cond := [Cond.fieldLink RX3 22 "RobinRow$Table" "values" "[I", Cond.methodLink RX4 77 yX4_moveSlice, Cond.instanceMethod yX4_moveSlice, Cond.selects RX4 yX4_moveSlice yX4_moveSlice, Cond.code yX4_moveSlice cX4_moveSlice 3 (some .int), Cond.methodLink RX4 242 yX3_lowestSlotWithKey, Cond.instanceMethod yX3_lowestSlotWithKey, Cond.selects RX3 yX3_lowestSlotWithKey yX3_lowestSlotWithKey, Cond.code yX3_lowestSlotWithKey cX3_lowestSlotWithKey 2 (some .int), Cond.methodLink RX3 42 yX3_isEmptyIn, Cond.methodLink RX4 136 yX3_keyIn, Cond.methodLink RX4 245 yX3_hashIn, Cond.instanceMethod yX3_hashIn, Cond.selects RX3 yX3_hashIn yX3_hashIn, Cond.code yX3_hashIn cX3_hashIn 2 (some .int), Cond.fieldLink RX3 15 "RobinRow$Table" "hashes" "[I", Cond.methodLink RX4 238 yX3_carryIn, Cond.instanceMethod yX3_carryIn, Cond.selects RX3 yX3_carryIn yX3_carryIn, Cond.code yX3_carryIn cX3_carryIn 14 none, Cond.fieldLink RX3 39 "RobinRow$Table" "count" "I", Cond.methodLink RX3 46 yX3_around, Cond.methodLink RX3 59 yX3_distanceIn, Cond.instanceMethod yX3_distanceIn]
def wsX4_put_r5 : List Cond := [Cond.selects RX3 yX3_distanceIn yX3_distanceIn, Cond.code yX3_distanceIn cX3_distanceIn 2 (some .int), Cond.methodLink RX3 62 yX3_fill, Cond.instanceMethod yX3_fill, Cond.selects RX3 yX3_fill yX3_fill, Cond.code yX3_fill cX3_fill 5 none, Cond.methodLink RX4 104 yX3_takeOut, Cond.instanceMethod yX3_takeOut, Cond.selects RX3 yX3_takeOut yX3_takeOut, Cond.code yX3_takeOut cX3_takeOut 5 none, Cond.methodLink RX4 107 yX4_endMoveIfOldIsEmpty, Cond.instanceMethod yX4_endMoveIfOldIsEmpty, Cond.selects RX4 yX4_endMoveIfOldIsEmpty yX4_endMoveIfOldIsEmpty, Cond.code yX4_endMoveIfOldIsEmpty cX4_endMoveIfOldIsEmpty 1 none, Cond.methodLink RX4 53 yX3_emptyWith, Cond.instanceMethod yX3_emptyWith, Cond.selects RX3 yX3_emptyWith yX3_emptyWith, Cond.code yX3_emptyWith cX3_emptyWith 3 none, Cond.methodLink RX3 29 Lib.Math.min.name, Cond.static Lib.Math.min.name, Cond.initialized "java/lang/Math", Cond.code Lib.Math.min.name Lib.Math.min.code 2 (some .int), Cond.methodLink RX4 93 yX3_exchangeValue, Cond.instanceMethod yX3_exchangeValue]
def wsX4_put_r6 : List Cond := [Cond.selects RX3 yX3_exchangeValue yX3_exchangeValue, Cond.code yX3_exchangeValue cX3_exchangeValue 4 (some .int), Cond.methodLink RX4 97 yX4_putNew, Cond.instanceMethod yX4_putNew, Cond.selects RX4 yX4_putNew yX4_putNew, Cond.code yX4_putNew cX4_putNew 3 none, Cond.methodLink RX4 235 yX4_beginMove, Cond.instanceMethod yX4_beginMove, Cond.selects RX4 yX4_beginMove yX4_beginMove, Cond.code yX4_beginMove cX4_beginMove 2 none, Cond.fieldLink RX4 56 "RobinRow" "begunMoves" "I"]
def wsX4_put : List Cond := .code yX4_put cX4_put 3 (some .int) :: ((wsX4_put_r1 ++ (wsX4_put_r2 ++ (wsX4_put_r3 ++ (wsX4_put_r4 ++ (wsX4_put_r5 ++ wsX4_put_r6))))) ++ wsX40 ++ wsX10 ++ wsX30 ++ (vx_atS RX4 50 "java/lang/IllegalArgumentException" ["java/lang/RuntimeException", "java/lang/Exception"]).filter goodWord ++ (vx_atS RX4 76 "java/lang/IllegalStateException" ["java/lang/RuntimeException", "java/lang/Exception"]).filter goodWord)
def wsX4_remove_r1 : List Cond := [Cond.fieldLink RX4 18 "RobinRow" "search" "LRobinRow$Search;", Cond.methodLink RX4 77 yX4_moveSlice, Cond.instanceMethod yX4_moveSlice, Cond.selects RX4 yX4_moveSlice yX4_moveSlice, Cond.initialized RX4, Cond.code yX4_moveSlice cX4_moveSlice 3 (some .int), Cond.fieldLink RX4 38 "RobinRow" "old" "LRobinRow$Table;", Cond.fieldLink RX4 34 "RobinRow" "present" "LRobinRow$Table;", Cond.methodLink RX4 242 yX3_lowestSlotWithKey, Cond.instanceMethod yX3_lowestSlotWithKey, Cond.selects RX3 yX3_lowestSlotWithKey yX3_lowestSlotWithKey, Cond.initialized RX3, Cond.code yX3_lowestSlotWithKey cX3_lowestSlotWithKey 2 (some .int), Cond.fieldLink RX3 35 "RobinRow$Table" "slots" "I", Cond.methodLink RX3 42 yX3_isEmptyIn, Cond.instanceMethod yX3_isEmptyIn, Cond.selects RX3 yX3_isEmptyIn yX3_isEmptyIn, Cond.code yX3_isEmptyIn cX3_isEmptyIn 2 (some .boolean), Cond.fieldLink RX3 9 "RobinRow$Table" "controls" "[B", Cond.methodLink RX4 136 yX3_keyIn, Cond.instanceMethod yX3_keyIn, Cond.selects RX3 yX3_keyIn yX3_keyIn, Cond.code yX3_keyIn cX3_keyIn 2 (some .int), Cond.fieldLink RX3 19 "RobinRow$Table" "keys" "[I"]
def wsX4_remove_r2 : List Cond := [Cond.methodLink RX4 101 yX3_valueIn, Cond.instanceMethod yX3_valueIn, Cond.selects RX3 yX3_valueIn yX3_valueIn, Cond.code yX3_valueIn cX3_valueIn 2 (some .int), Cond.fieldLink RX3 22 "RobinRow$Table" "values" "[I", Cond.methodLink RX4 245 yX3_hashIn, Cond.instanceMethod yX3_hashIn, Cond.selects RX3 yX3_hashIn yX3_hashIn, Cond.code yX3_hashIn cX3_hashIn 2 (some .int), Cond.fieldLink RX3 15 "RobinRow$Table" "hashes" "[I", Cond.methodLink RX4 238 yX3_carryIn, Cond.instanceMethod yX3_carryIn, Cond.selects RX3 yX3_carryIn yX3_carryIn, Cond.code yX3_carryIn cX3_carryIn 14 none, Cond.fieldLink RX3 39 "RobinRow$Table" "count" "I", Cond.methodLink RX3 46 yX3_around, Cond.instanceMethod yX3_around, Cond.selects RX3 yX3_around yX3_around, Cond.code yX3_around cX3_around 2 (some .int), Cond.methodLink RX3 59 yX3_distanceIn, Cond.instanceMethod yX3_distanceIn, Cond.selects RX3 yX3_distanceIn yX3_distanceIn, Cond.code yX3_distanceIn cX3_distanceIn 2 (some .int), Cond.methodLink RX3 62 yX3_fill]
def wsX4_remove_r3 : List Cond := [Cond.instanceMethod yX3_fill, Cond.selects RX3 yX3_fill yX3_fill, Cond.code yX3_fill cX3_fill 5 none, Cond.methodLink RX4 104 yX3_takeOut, Cond.instanceMethod yX3_takeOut, Cond.selects RX3 yX3_takeOut yX3_takeOut, Cond.code yX3_takeOut cX3_takeOut 5 none, Cond.methodLink RX4 107 yX4_endMoveIfOldIsEmpty, Cond.instanceMethod yX4_endMoveIfOldIsEmpty, Cond.selects RX4 yX4_endMoveIfOldIsEmpty yX4_endMoveIfOldIsEmpty, Cond.code yX4_endMoveIfOldIsEmpty cX4_endMoveIfOldIsEmpty 1 none, Cond.methodLink RX4 53 yX3_emptyWith, Cond.instanceMethod yX3_emptyWith, Cond.selects RX3 yX3_emptyWith yX3_emptyWith, Cond.code yX3_emptyWith cX3_emptyWith 3 none, Cond.methodLink RX3 29 Lib.Math.min.name, Cond.static Lib.Math.min.name, Cond.initialized "java/lang/Math", Cond.code Lib.Math.min.name Lib.Math.min.code 2 (some .int), Cond.methodLink RX4 80 yX4_lookUp, Cond.instanceMethod yX4_lookUp, Cond.selects RX4 yX4_lookUp yX4_lookUp, Cond.code yX4_lookUp cX4_lookUp 3 none, Cond.methodLink RX4 199 yX4_hash]
def wsX4_remove_r4 : List Cond := [Cond.instanceMethod yX4_hash, Cond.selects RX4 yX4_hash yX4_hash, Cond.code yX4_hash cX4_hash 3 (some .int), Cond.fieldLink RX4 42 "RobinRow" "way" "I", Cond.constant RX4 163 (-1640531535), Cond.methodLink RX4 202 yX1_begin, Cond.instanceMethod yX1_begin, Cond.selects RX1 yX1_begin yX1_begin, Cond.initialized RX1, Cond.code yX1_begin cX1_begin 1 none, Cond.fieldLink RX1 9 "RobinRow$Search" "table" "LRobinRow$Table;", Cond.fieldLink RX1 15 "RobinRow$Search" "groups" "I", Cond.fieldLink RX1 19 "RobinRow$Search" "comparisons" "I", Cond.methodLink RX4 203 yX1_lookIn, Cond.instanceMethod yX1_lookIn, Cond.selects RX1 yX1_lookIn yX1_lookIn, Cond.code yX1_lookIn cX1_lookIn 7 none, Cond.methodLink RX1 27 yX1_lookAtGroup, Cond.instanceMethod yX1_lookAtGroup, Cond.selects RX1 yX1_lookAtGroup yX1_lookAtGroup, Cond.code yX1_lookAtGroup cX1_lookAtGroup 8 (some .boolean), Cond.fieldLink RX1 50 "RobinRow$Search" "slot" "I", Cond.methodLink RX1 31 yX1_hasFound, Cond.instanceMethod yX1_hasFound]
def wsX4_remove_r5 : List Cond := [Cond.selects RX1 yX1_hasFound yX1_hasFound, Cond.code yX1_hasFound cX1_hasFound 1 (some .boolean), Cond.methodLink RX1 35 yX3_around, Cond.methodLink RX1 39 yX3_isEmptyIn, Cond.methodLink RX1 43 yX3_controlIn, Cond.instanceMethod yX3_controlIn, Cond.selects RX3 yX3_controlIn yX3_controlIn, Cond.code yX3_controlIn cX3_controlIn 2 (some .byte), Cond.methodLink RX1 47 yX3_keyIn, Cond.methodLink RX4 83 yX1_hasFound]
def wsX4_remove : List Cond := .code yX4_remove cX4_remove 3 (some .int) :: ((wsX4_remove_r1 ++ (wsX4_remove_r2 ++ (wsX4_remove_r3 ++ (wsX4_remove_r4 ++ wsX4_remove_r5)))) ++ wsX40 ++ wsX10 ++ wsX30)
def wsX4_move_r1 : List Cond := [Cond.methodLink RX4 77 yX4_moveSlice, Cond.instanceMethod yX4_moveSlice, Cond.selects RX4 yX4_moveSlice yX4_moveSlice, Cond.initialized RX4, Cond.code yX4_moveSlice cX4_moveSlice 3 (some .int), Cond.fieldLink RX4 38 "RobinRow" "old" "LRobinRow$Table;", Cond.fieldLink RX4 34 "RobinRow" "present" "LRobinRow$Table;", Cond.methodLink RX4 242 yX3_lowestSlotWithKey, Cond.instanceMethod yX3_lowestSlotWithKey, Cond.selects RX3 yX3_lowestSlotWithKey yX3_lowestSlotWithKey, Cond.initialized RX3, Cond.code yX3_lowestSlotWithKey cX3_lowestSlotWithKey 2 (some .int), Cond.fieldLink RX3 35 "RobinRow$Table" "slots" "I", Cond.methodLink RX3 42 yX3_isEmptyIn, Cond.instanceMethod yX3_isEmptyIn, Cond.selects RX3 yX3_isEmptyIn yX3_isEmptyIn, Cond.code yX3_isEmptyIn cX3_isEmptyIn 2 (some .boolean), Cond.fieldLink RX3 9 "RobinRow$Table" "controls" "[B", Cond.methodLink RX4 136 yX3_keyIn, Cond.instanceMethod yX3_keyIn, Cond.selects RX3 yX3_keyIn yX3_keyIn, Cond.code yX3_keyIn cX3_keyIn 2 (some .int), Cond.fieldLink RX3 19 "RobinRow$Table" "keys" "[I", Cond.methodLink RX4 101 yX3_valueIn]
def wsX4_move_r2 : List Cond := [Cond.instanceMethod yX3_valueIn, Cond.selects RX3 yX3_valueIn yX3_valueIn, Cond.code yX3_valueIn cX3_valueIn 2 (some .int), Cond.fieldLink RX3 22 "RobinRow$Table" "values" "[I", Cond.methodLink RX4 245 yX3_hashIn, Cond.instanceMethod yX3_hashIn, Cond.selects RX3 yX3_hashIn yX3_hashIn, Cond.code yX3_hashIn cX3_hashIn 2 (some .int), Cond.fieldLink RX3 15 "RobinRow$Table" "hashes" "[I", Cond.methodLink RX4 238 yX3_carryIn, Cond.instanceMethod yX3_carryIn, Cond.selects RX3 yX3_carryIn yX3_carryIn, Cond.code yX3_carryIn cX3_carryIn 14 none, Cond.fieldLink RX3 39 "RobinRow$Table" "count" "I", Cond.methodLink RX3 46 yX3_around, Cond.instanceMethod yX3_around, Cond.selects RX3 yX3_around yX3_around, Cond.code yX3_around cX3_around 2 (some .int), Cond.methodLink RX3 59 yX3_distanceIn, Cond.instanceMethod yX3_distanceIn, Cond.selects RX3 yX3_distanceIn yX3_distanceIn, Cond.code yX3_distanceIn cX3_distanceIn 2 (some .int), Cond.methodLink RX3 62 yX3_fill, Cond.instanceMethod yX3_fill]
def wsX4_move_r3 : List Cond := [Cond.selects RX3 yX3_fill yX3_fill, Cond.code yX3_fill cX3_fill 5 none, Cond.methodLink RX4 104 yX3_takeOut, Cond.instanceMethod yX3_takeOut, Cond.selects RX3 yX3_takeOut yX3_takeOut, Cond.code yX3_takeOut cX3_takeOut 5 none, Cond.methodLink RX4 107 yX4_endMoveIfOldIsEmpty, Cond.instanceMethod yX4_endMoveIfOldIsEmpty, Cond.selects RX4 yX4_endMoveIfOldIsEmpty yX4_endMoveIfOldIsEmpty, Cond.code yX4_endMoveIfOldIsEmpty cX4_endMoveIfOldIsEmpty 1 none, Cond.methodLink RX4 53 yX3_emptyWith, Cond.instanceMethod yX3_emptyWith, Cond.selects RX3 yX3_emptyWith yX3_emptyWith, Cond.code yX3_emptyWith cX3_emptyWith 3 none, Cond.methodLink RX3 29 Lib.Math.min.name, Cond.static Lib.Math.min.name, Cond.initialized "java/lang/Math", Cond.code Lib.Math.min.name Lib.Math.min.code 2 (some .int)]
def wsX4_move : List Cond := .code yX4_move cX4_move 1 (some .int) :: ((wsX4_move_r1 ++ (wsX4_move_r2 ++ wsX4_move_r3)) ++ wsX40 ++ wsX30)
def wsX4_tableOf : List Cond := .code yX4_tableOf cX4_tableOf 2 (some (.object "RobinRow$Table")) :: ([.classLink RX4 222 "java/lang/IndexOutOfBoundsException", .initialized "java/lang/IndexOutOfBoundsException", .fieldLink RX4 34 "RobinRow" "present" "LRobinRow$Table;", .fieldLink RX4 38 "RobinRow" "old" "LRobinRow$Table;"] ++ wsX40 ++ (vx_atS RX4 226 "java/lang/IndexOutOfBoundsException" ["java/lang/RuntimeException", "java/lang/Exception"]).filter goodWord)
def wsX4_slots : List Cond := .code yX4_slots cX4_slots 2 (some .int) :: ([.methodLink RX4 164 yX4_tableOf, .instanceMethod yX4_tableOf, .selects RX4 yX4_tableOf yX4_tableOf, .initialized RX4, .code yX4_tableOf cX4_tableOf 2 (some (.object "RobinRow$Table")), .classLink RX4 222 "java/lang/IndexOutOfBoundsException", .initialized "java/lang/IndexOutOfBoundsException", .fieldLink RX4 34 "RobinRow" "present" "LRobinRow$Table;", .fieldLink RX4 38 "RobinRow" "old" "LRobinRow$Table;"] ++ wsX30 ++ wsX40 ++ (vx_atS RX4 226 "java/lang/IndexOutOfBoundsException" ["java/lang/RuntimeException", "java/lang/Exception"]).filter goodWord)
def wsX4_keysIn : List Cond := .code yX4_keysIn cX4_keysIn 2 (some .int) :: ([.methodLink RX4 164 yX4_tableOf, .instanceMethod yX4_tableOf, .selects RX4 yX4_tableOf yX4_tableOf, .initialized RX4, .code yX4_tableOf cX4_tableOf 2 (some (.object "RobinRow$Table")), .classLink RX4 222 "java/lang/IndexOutOfBoundsException", .initialized "java/lang/IndexOutOfBoundsException", .fieldLink RX4 34 "RobinRow" "present" "LRobinRow$Table;", .fieldLink RX4 38 "RobinRow" "old" "LRobinRow$Table;"] ++ wsX30 ++ wsX40 ++ (vx_atS RX4 226 "java/lang/IndexOutOfBoundsException" ["java/lang/RuntimeException", "java/lang/Exception"]).filter goodWord)
def wsX4_tableWithSlot : List Cond := .code yX4_tableWithSlot cX4_tableWithSlot 4 (some (.object "RobinRow$Table")) :: ([.classLink RX4 222 "java/lang/IndexOutOfBoundsException", .initialized "java/lang/IndexOutOfBoundsException", .methodLink RX4 164 yX4_tableOf, .instanceMethod yX4_tableOf, .selects RX4 yX4_tableOf yX4_tableOf, .initialized RX4, .code yX4_tableOf cX4_tableOf 2 (some (.object "RobinRow$Table")), .fieldLink RX4 34 "RobinRow" "present" "LRobinRow$Table;", .fieldLink RX4 38 "RobinRow" "old" "LRobinRow$Table;"] ++ wsX30 ++ wsX40 ++ (vx_atS RX4 226 "java/lang/IndexOutOfBoundsException" ["java/lang/RuntimeException", "java/lang/Exception"]).filter goodWord)
def wsX4_control : List Cond := .code yX4_control cX4_control 3 (some .byte) :: ([.methodLink RX4 171 yX4_tableWithSlot, .instanceMethod yX4_tableWithSlot, .selects RX4 yX4_tableWithSlot yX4_tableWithSlot, .initialized RX4, .code yX4_tableWithSlot cX4_tableWithSlot 4 (some (.object "RobinRow$Table")), .classLink RX4 222 "java/lang/IndexOutOfBoundsException", .initialized "java/lang/IndexOutOfBoundsException", .methodLink RX4 164 yX4_tableOf, .instanceMethod yX4_tableOf, .selects RX4 yX4_tableOf yX4_tableOf, .code yX4_tableOf cX4_tableOf 2 (some (.object "RobinRow$Table")), .fieldLink RX4 34 "RobinRow" "present" "LRobinRow$Table;", .fieldLink RX4 38 "RobinRow" "old" "LRobinRow$Table;", .methodLink RX4 175 yX3_controlIn, .instanceMethod yX3_controlIn, .selects RX3 yX3_controlIn yX3_controlIn, .initialized RX3, .code yX3_controlIn cX3_controlIn 2 (some .byte), .fieldLink RX3 9 "RobinRow$Table" "controls" "[B"] ++ wsX30 ++ wsX40 ++ (vx_atS RX4 226 "java/lang/IndexOutOfBoundsException" ["java/lang/RuntimeException", "java/lang/Exception"]).filter goodWord)
def wsX4_keyAt_r1 : List Cond := [Cond.classLink RX4 72 "java/lang/IllegalStateException", Cond.initialized "java/lang/IllegalStateException", Cond.methodLink RX4 171 yX4_tableWithSlot, Cond.instanceMethod yX4_tableWithSlot, Cond.selects RX4 yX4_tableWithSlot yX4_tableWithSlot, Cond.initialized RX4, Cond.code yX4_tableWithSlot cX4_tableWithSlot 4 (some (.object "RobinRow$Table")), Cond.classLink RX4 222 "java/lang/IndexOutOfBoundsException", Cond.initialized "java/lang/IndexOutOfBoundsException", Cond.methodLink RX4 164 yX4_tableOf, Cond.instanceMethod yX4_tableOf, Cond.selects RX4 yX4_tableOf yX4_tableOf, Cond.code yX4_tableOf cX4_tableOf 2 (some (.object "RobinRow$Table")), Cond.fieldLink RX4 34 "RobinRow" "present" "LRobinRow$Table;", Cond.fieldLink RX4 38 "RobinRow" "old" "LRobinRow$Table;", Cond.methodLink RX4 179 yX3_isEmptyIn, Cond.instanceMethod yX3_isEmptyIn, Cond.selects RX3 yX3_isEmptyIn yX3_isEmptyIn, Cond.initialized RX3, Cond.code yX3_isEmptyIn cX3_isEmptyIn 2 (some .boolean), Cond.fieldLink RX3 9 "RobinRow$Table" "controls" "[B", Cond.methodLink RX4 136 yX3_keyIn, Cond.instanceMethod yX3_keyIn, Cond.selects RX3 yX3_keyIn yX3_keyIn]
def wsX4_keyAt_r2 : List Cond := [Cond.code yX3_keyIn cX3_keyIn 2 (some .int), Cond.fieldLink RX3 19 "RobinRow$Table" "keys" "[I"]
def wsX4_keyAt : List Cond := .code yX4_keyAt cX4_keyAt 4 (some .int) :: ((wsX4_keyAt_r1 ++ wsX4_keyAt_r2) ++ wsX30 ++ wsX40 ++ (vx_atS RX4 76 "java/lang/IllegalStateException" ["java/lang/RuntimeException", "java/lang/Exception"]).filter goodWord ++ (vx_atS RX4 226 "java/lang/IndexOutOfBoundsException" ["java/lang/RuntimeException", "java/lang/Exception"]).filter goodWord)
def wsX4_distanceAt_r1 : List Cond := [Cond.methodLink RX4 171 yX4_tableWithSlot, Cond.instanceMethod yX4_tableWithSlot, Cond.selects RX4 yX4_tableWithSlot yX4_tableWithSlot, Cond.initialized RX4, Cond.code yX4_tableWithSlot cX4_tableWithSlot 4 (some (.object "RobinRow$Table")), Cond.classLink RX4 222 "java/lang/IndexOutOfBoundsException", Cond.initialized "java/lang/IndexOutOfBoundsException", Cond.methodLink RX4 164 yX4_tableOf, Cond.instanceMethod yX4_tableOf, Cond.selects RX4 yX4_tableOf yX4_tableOf, Cond.code yX4_tableOf cX4_tableOf 2 (some (.object "RobinRow$Table")), Cond.fieldLink RX4 34 "RobinRow" "present" "LRobinRow$Table;", Cond.fieldLink RX4 38 "RobinRow" "old" "LRobinRow$Table;", Cond.methodLink RX4 185 yX3_distanceIn, Cond.instanceMethod yX3_distanceIn, Cond.selects RX3 yX3_distanceIn yX3_distanceIn, Cond.initialized RX3, Cond.code yX3_distanceIn cX3_distanceIn 2 (some .int), Cond.fieldLink RX3 15 "RobinRow$Table" "hashes" "[I", Cond.methodLink RX3 42 yX3_isEmptyIn, Cond.instanceMethod yX3_isEmptyIn, Cond.selects RX3 yX3_isEmptyIn yX3_isEmptyIn, Cond.code yX3_isEmptyIn cX3_isEmptyIn 2 (some .boolean), Cond.fieldLink RX3 9 "RobinRow$Table" "controls" "[B"]
def wsX4_distanceAt_r2 : List Cond := [Cond.methodLink RX3 46 yX3_around, Cond.instanceMethod yX3_around, Cond.selects RX3 yX3_around yX3_around, Cond.code yX3_around cX3_around 2 (some .int), Cond.fieldLink RX3 35 "RobinRow$Table" "slots" "I"]
def wsX4_distanceAt : List Cond := .code yX4_distanceAt cX4_distanceAt 3 (some .int) :: ((wsX4_distanceAt_r1 ++ wsX4_distanceAt_r2) ++ wsX30 ++ wsX40 ++ (vx_atS RX4 226 "java/lang/IndexOutOfBoundsException" ["java/lang/RuntimeException", "java/lang/Exception"]).filter goodWord)
def wsX4_longest : List Cond := .code yX4_longest cX4_longest 3 (some .int) :: ([.fieldLink RX4 34 "RobinRow" "present" "LRobinRow$Table;", .methodLink RX4 188 Lib.Math.max.name, .static Lib.Math.max.name, .initialized "java/lang/Math", .code Lib.Math.max.name Lib.Math.max.code 2 (some .int), .methodLink RX4 185 yX3_distanceIn, .instanceMethod yX3_distanceIn, .selects RX3 yX3_distanceIn yX3_distanceIn, .initialized RX3, .code yX3_distanceIn cX3_distanceIn 2 (some .int), .fieldLink RX3 15 "RobinRow$Table" "hashes" "[I", .methodLink RX3 42 yX3_isEmptyIn, .instanceMethod yX3_isEmptyIn, .selects RX3 yX3_isEmptyIn yX3_isEmptyIn, .code yX3_isEmptyIn cX3_isEmptyIn 2 (some .boolean), .fieldLink RX3 9 "RobinRow$Table" "controls" "[B", .methodLink RX3 46 yX3_around, .instanceMethod yX3_around, .selects RX3 yX3_around yX3_around, .code yX3_around cX3_around 2 (some .int), .fieldLink RX3 35 "RobinRow$Table" "slots" "I"] ++ wsX40 ++ wsX30)
def wsX4_total : List Cond := .code yX4_total cX4_total 3 (some .int) :: ([.fieldLink RX4 34 "RobinRow" "present" "LRobinRow$Table;", .methodLink RX4 188 Lib.Math.max.name, .static Lib.Math.max.name, .initialized "java/lang/Math", .code Lib.Math.max.name Lib.Math.max.code 2 (some .int), .methodLink RX4 185 yX3_distanceIn, .instanceMethod yX3_distanceIn, .selects RX3 yX3_distanceIn yX3_distanceIn, .initialized RX3, .code yX3_distanceIn cX3_distanceIn 2 (some .int), .fieldLink RX3 15 "RobinRow$Table" "hashes" "[I", .methodLink RX3 42 yX3_isEmptyIn, .instanceMethod yX3_isEmptyIn, .selects RX3 yX3_isEmptyIn yX3_isEmptyIn, .code yX3_isEmptyIn cX3_isEmptyIn 2 (some .boolean), .fieldLink RX3 9 "RobinRow$Table" "controls" "[B", .methodLink RX3 46 yX3_around, .instanceMethod yX3_around, .selects RX3 yX3_around yX3_around, .code yX3_around cX3_around 2 (some .int), .fieldLink RX3 35 "RobinRow$Table" "slots" "I"] ++ wsX40 ++ wsX30)
def wsX4_groups_r1 : List Cond := [Cond.fieldLink RX4 18 "RobinRow" "search" "LRobinRow$Search;", Cond.methodLink RX4 80 yX4_lookUp, Cond.instanceMethod yX4_lookUp, Cond.selects RX4 yX4_lookUp yX4_lookUp, Cond.initialized RX4, Cond.code yX4_lookUp cX4_lookUp 3 none, Cond.fieldLink RX4 34 "RobinRow" "present" "LRobinRow$Table;", Cond.fieldLink RX4 38 "RobinRow" "old" "LRobinRow$Table;", Cond.methodLink RX4 199 yX4_hash, Cond.instanceMethod yX4_hash, Cond.selects RX4 yX4_hash yX4_hash, Cond.code yX4_hash cX4_hash 3 (some .int), Cond.fieldLink RX4 42 "RobinRow" "way" "I", Cond.constant RX4 163 (-1640531535), Cond.methodLink RX4 202 yX1_begin, Cond.instanceMethod yX1_begin, Cond.selects RX1 yX1_begin yX1_begin, Cond.initialized RX1, Cond.code yX1_begin cX1_begin 1 none, Cond.fieldLink RX1 9 "RobinRow$Search" "table" "LRobinRow$Table;", Cond.fieldLink RX1 15 "RobinRow$Search" "groups" "I", Cond.fieldLink RX1 19 "RobinRow$Search" "comparisons" "I", Cond.methodLink RX4 203 yX1_lookIn, Cond.instanceMethod yX1_lookIn]
def wsX4_groups_r2 : List Cond := [Cond.selects RX1 yX1_lookIn yX1_lookIn, Cond.code yX1_lookIn cX1_lookIn 7 none, Cond.methodLink RX1 27 yX1_lookAtGroup, Cond.instanceMethod yX1_lookAtGroup, Cond.selects RX1 yX1_lookAtGroup yX1_lookAtGroup, Cond.code yX1_lookAtGroup cX1_lookAtGroup 8 (some .boolean), Cond.fieldLink RX1 50 "RobinRow$Search" "slot" "I", Cond.methodLink RX1 31 yX1_hasFound, Cond.instanceMethod yX1_hasFound, Cond.selects RX1 yX1_hasFound yX1_hasFound, Cond.code yX1_hasFound cX1_hasFound 1 (some .boolean), Cond.methodLink RX1 35 yX3_around, Cond.instanceMethod yX3_around, Cond.selects RX3 yX3_around yX3_around, Cond.initialized RX3, Cond.code yX3_around cX3_around 2 (some .int), Cond.fieldLink RX3 35 "RobinRow$Table" "slots" "I", Cond.methodLink RX1 39 yX3_isEmptyIn, Cond.instanceMethod yX3_isEmptyIn, Cond.selects RX3 yX3_isEmptyIn yX3_isEmptyIn, Cond.code yX3_isEmptyIn cX3_isEmptyIn 2 (some .boolean), Cond.fieldLink RX3 9 "RobinRow$Table" "controls" "[B", Cond.methodLink RX1 43 yX3_controlIn, Cond.instanceMethod yX3_controlIn]
def wsX4_groups_r3 : List Cond := [Cond.selects RX3 yX3_controlIn yX3_controlIn, Cond.code yX3_controlIn cX3_controlIn 2 (some .byte), Cond.methodLink RX1 47 yX3_keyIn, Cond.instanceMethod yX3_keyIn, Cond.selects RX3 yX3_keyIn yX3_keyIn, Cond.code yX3_keyIn cX3_keyIn 2 (some .int), Cond.fieldLink RX3 19 "RobinRow$Table" "keys" "[I", Cond.methodLink RX4 83 yX1_hasFound]
def wsX4_groups : List Cond := .code yX4_groups cX4_groups 2 (some .int) :: ((wsX4_groups_r1 ++ (wsX4_groups_r2 ++ wsX4_groups_r3)) ++ wsX40 ++ wsX10 ++ wsX30)
def wsX4_comparisons_r1 : List Cond := [Cond.fieldLink RX4 18 "RobinRow" "search" "LRobinRow$Search;", Cond.methodLink RX4 80 yX4_lookUp, Cond.instanceMethod yX4_lookUp, Cond.selects RX4 yX4_lookUp yX4_lookUp, Cond.initialized RX4, Cond.code yX4_lookUp cX4_lookUp 3 none, Cond.fieldLink RX4 34 "RobinRow" "present" "LRobinRow$Table;", Cond.fieldLink RX4 38 "RobinRow" "old" "LRobinRow$Table;", Cond.methodLink RX4 199 yX4_hash, Cond.instanceMethod yX4_hash, Cond.selects RX4 yX4_hash yX4_hash, Cond.code yX4_hash cX4_hash 3 (some .int), Cond.fieldLink RX4 42 "RobinRow" "way" "I", Cond.constant RX4 163 (-1640531535), Cond.methodLink RX4 202 yX1_begin, Cond.instanceMethod yX1_begin, Cond.selects RX1 yX1_begin yX1_begin, Cond.initialized RX1, Cond.code yX1_begin cX1_begin 1 none, Cond.fieldLink RX1 9 "RobinRow$Search" "table" "LRobinRow$Table;", Cond.fieldLink RX1 15 "RobinRow$Search" "groups" "I", Cond.fieldLink RX1 19 "RobinRow$Search" "comparisons" "I", Cond.methodLink RX4 203 yX1_lookIn, Cond.instanceMethod yX1_lookIn]
def wsX4_comparisons_r2 : List Cond := [Cond.selects RX1 yX1_lookIn yX1_lookIn, Cond.code yX1_lookIn cX1_lookIn 7 none, Cond.methodLink RX1 27 yX1_lookAtGroup, Cond.instanceMethod yX1_lookAtGroup, Cond.selects RX1 yX1_lookAtGroup yX1_lookAtGroup, Cond.code yX1_lookAtGroup cX1_lookAtGroup 8 (some .boolean), Cond.fieldLink RX1 50 "RobinRow$Search" "slot" "I", Cond.methodLink RX1 31 yX1_hasFound, Cond.instanceMethod yX1_hasFound, Cond.selects RX1 yX1_hasFound yX1_hasFound, Cond.code yX1_hasFound cX1_hasFound 1 (some .boolean), Cond.methodLink RX1 35 yX3_around, Cond.instanceMethod yX3_around, Cond.selects RX3 yX3_around yX3_around, Cond.initialized RX3, Cond.code yX3_around cX3_around 2 (some .int), Cond.fieldLink RX3 35 "RobinRow$Table" "slots" "I", Cond.methodLink RX1 39 yX3_isEmptyIn, Cond.instanceMethod yX3_isEmptyIn, Cond.selects RX3 yX3_isEmptyIn yX3_isEmptyIn, Cond.code yX3_isEmptyIn cX3_isEmptyIn 2 (some .boolean), Cond.fieldLink RX3 9 "RobinRow$Table" "controls" "[B", Cond.methodLink RX1 43 yX3_controlIn, Cond.instanceMethod yX3_controlIn]
def wsX4_comparisons_r3 : List Cond := [Cond.selects RX3 yX3_controlIn yX3_controlIn, Cond.code yX3_controlIn cX3_controlIn 2 (some .byte), Cond.methodLink RX1 47 yX3_keyIn, Cond.instanceMethod yX3_keyIn, Cond.selects RX3 yX3_keyIn yX3_keyIn, Cond.code yX3_keyIn cX3_keyIn 2 (some .int), Cond.fieldLink RX3 19 "RobinRow$Table" "keys" "[I", Cond.methodLink RX4 83 yX1_hasFound]
def wsX4_comparisons : List Cond := .code yX4_comparisons cX4_comparisons 2 (some .int) :: ((wsX4_comparisons_r1 ++ (wsX4_comparisons_r2 ++ wsX4_comparisons_r3)) ++ wsX40 ++ wsX10 ++ wsX30)
def wsX4_plainTotal_r1 : List Cond := [Cond.fieldLink RX4 25 "RobinRow" "plainRow" "LRobinRow$PlainRow;", Cond.fieldLink RX4 34 "RobinRow" "present" "LRobinRow$Table;", Cond.methodLink RX4 212 yX0_fillFrom, Cond.instanceMethod yX0_fillFrom, Cond.selects RX0 yX0_fillFrom yX0_fillFrom, Cond.initialized RX0, Cond.code yX0_fillFrom cX0_fillFrom 5 none, Cond.fieldLink RX0 19 "RobinRow$PlainRow" "total" "I", Cond.fieldLink RX0 23 "RobinRow$PlainRow" "longest" "I", Cond.fieldLink RX0 15 "RobinRow$PlainRow" "taken" "[Z", Cond.fieldLink RX0 9 "RobinRow$PlainRow" "rising" "[I", Cond.methodLink RX0 40 Lib.Math.max.name, Cond.static Lib.Math.max.name, Cond.initialized "java/lang/Math", Cond.code Lib.Math.max.name Lib.Math.max.code 2 (some .int), Cond.methodLink RX0 26 yX0_sortByKeys, Cond.instanceMethod yX0_sortByKeys, Cond.selects RX0 yX0_sortByKeys yX0_sortByKeys, Cond.code yX0_sortByKeys cX0_sortByKeys 5 (some .int), Cond.methodLink RX0 49 yX3_isEmptyIn, Cond.instanceMethod yX3_isEmptyIn, Cond.selects RX3 yX3_isEmptyIn yX3_isEmptyIn, Cond.initialized RX3, Cond.code yX3_isEmptyIn cX3_isEmptyIn 2 (some .boolean)]
def wsX4_plainTotal_r2 : List Cond := [Cond.fieldLink RX3 9 "RobinRow$Table" "controls" "[B", Cond.methodLink RX0 53 yX3_keyIn, Cond.instanceMethod yX3_keyIn, Cond.selects RX3 yX3_keyIn yX3_keyIn, Cond.code yX3_keyIn cX3_keyIn 2 (some .int), Cond.fieldLink RX3 19 "RobinRow$Table" "keys" "[I", Cond.methodLink RX0 30 yX3_hashIn, Cond.instanceMethod yX3_hashIn, Cond.selects RX3 yX3_hashIn yX3_hashIn, Cond.code yX3_hashIn cX3_hashIn 2 (some .int), Cond.fieldLink RX3 15 "RobinRow$Table" "hashes" "[I", Cond.methodLink RX0 36 yX0_takeFirstFree, Cond.instanceMethod yX0_takeFirstFree, Cond.selects RX0 yX0_takeFirstFree yX0_takeFirstFree, Cond.code yX0_takeFirstFree cX0_takeFirstFree 4 (some .int), Cond.methodLink RX0 56 yX3_around, Cond.instanceMethod yX3_around, Cond.selects RX3 yX3_around yX3_around, Cond.code yX3_around cX3_around 2 (some .int), Cond.fieldLink RX3 35 "RobinRow$Table" "slots" "I"]
def wsX4_plainTotal : List Cond := .code yX4_plainTotal cX4_plainTotal 1 (some .int) :: ((wsX4_plainTotal_r1 ++ wsX4_plainTotal_r2) ++ wsX40 ++ wsX00 ++ wsX30)
def wsX4_plainLongest_r1 : List Cond := [Cond.fieldLink RX4 25 "RobinRow" "plainRow" "LRobinRow$PlainRow;", Cond.fieldLink RX4 34 "RobinRow" "present" "LRobinRow$Table;", Cond.methodLink RX4 212 yX0_fillFrom, Cond.instanceMethod yX0_fillFrom, Cond.selects RX0 yX0_fillFrom yX0_fillFrom, Cond.initialized RX0, Cond.code yX0_fillFrom cX0_fillFrom 5 none, Cond.fieldLink RX0 19 "RobinRow$PlainRow" "total" "I", Cond.fieldLink RX0 23 "RobinRow$PlainRow" "longest" "I", Cond.fieldLink RX0 15 "RobinRow$PlainRow" "taken" "[Z", Cond.fieldLink RX0 9 "RobinRow$PlainRow" "rising" "[I", Cond.methodLink RX0 40 Lib.Math.max.name, Cond.static Lib.Math.max.name, Cond.initialized "java/lang/Math", Cond.code Lib.Math.max.name Lib.Math.max.code 2 (some .int), Cond.methodLink RX0 26 yX0_sortByKeys, Cond.instanceMethod yX0_sortByKeys, Cond.selects RX0 yX0_sortByKeys yX0_sortByKeys, Cond.code yX0_sortByKeys cX0_sortByKeys 5 (some .int), Cond.methodLink RX0 49 yX3_isEmptyIn, Cond.instanceMethod yX3_isEmptyIn, Cond.selects RX3 yX3_isEmptyIn yX3_isEmptyIn, Cond.initialized RX3, Cond.code yX3_isEmptyIn cX3_isEmptyIn 2 (some .boolean)]
def wsX4_plainLongest_r2 : List Cond := [Cond.fieldLink RX3 9 "RobinRow$Table" "controls" "[B", Cond.methodLink RX0 53 yX3_keyIn, Cond.instanceMethod yX3_keyIn, Cond.selects RX3 yX3_keyIn yX3_keyIn, Cond.code yX3_keyIn cX3_keyIn 2 (some .int), Cond.fieldLink RX3 19 "RobinRow$Table" "keys" "[I", Cond.methodLink RX0 30 yX3_hashIn, Cond.instanceMethod yX3_hashIn, Cond.selects RX3 yX3_hashIn yX3_hashIn, Cond.code yX3_hashIn cX3_hashIn 2 (some .int), Cond.fieldLink RX3 15 "RobinRow$Table" "hashes" "[I", Cond.methodLink RX0 36 yX0_takeFirstFree, Cond.instanceMethod yX0_takeFirstFree, Cond.selects RX0 yX0_takeFirstFree yX0_takeFirstFree, Cond.code yX0_takeFirstFree cX0_takeFirstFree 4 (some .int), Cond.methodLink RX0 56 yX3_around, Cond.instanceMethod yX3_around, Cond.selects RX3 yX3_around yX3_around, Cond.code yX3_around cX3_around 2 (some .int), Cond.fieldLink RX3 35 "RobinRow$Table" "slots" "I"]
def wsX4_plainLongest : List Cond := .code yX4_plainLongest cX4_plainLongest 1 (some .int) :: ((wsX4_plainLongest_r1 ++ wsX4_plainLongest_r2) ++ wsX40 ++ wsX00 ++ wsX30)
def wsJ9_max_7cf53 : List Cond := .code yJ9_max_7cf53 cJ9_max_7cf53 2 (some .int) :: ([])
def wsJ9_min_7cf53 : List Cond := .code yJ9_min_7cf53 cJ9_min_7cf53 2 (some .int) :: ([])
def wsL_drawn : List Cond := .code yL_drawn cL_drawn 2 (some .int) :: ([])
def wsL_low : List Cond := .code yL_low cL_low 2 (some .int) :: ([.constant RL 7 (2147483647)])
def wsL_placeOf : List Cond := .code yL_placeOf cL_placeOf 5 (some .int) :: ([])
def wsL_size : List Cond := .code yL_size cL_size 4 (some .int) :: ([])
def wsL_isPut_r1 : List Cond := [Cond.methodLink RL 8 yL_placeOf, Cond.static yL_placeOf, Cond.initialized RL, Cond.code yL_placeOf cL_placeOf 5 (some .int), Cond.methodLink RL 14 yX4_put, Cond.instanceMethod yX4_put, Cond.selects RX4 yX4_put yX4_put, Cond.initialized RX4, Cond.code yX4_put cX4_put 3 (some .int), Cond.classLink RX4 46 "java/lang/IllegalArgumentException", Cond.initialized "java/lang/IllegalArgumentException", Cond.classLink RX4 72 "java/lang/IllegalStateException", Cond.initialized "java/lang/IllegalStateException", Cond.fieldLink RX4 18 "RobinRow" "search" "LRobinRow$Search;", Cond.methodLink RX4 64 yX4_size, Cond.instanceMethod yX4_size, Cond.selects RX4 yX4_size yX4_size, Cond.code yX4_size cX4_size 1 (some .int), Cond.fieldLink RX4 34 "RobinRow" "present" "LRobinRow$Table;", Cond.fieldLink RX4 38 "RobinRow" "old" "LRobinRow$Table;", Cond.methodLink RX4 68 yX4_get, Cond.instanceMethod yX4_get, Cond.selects RX4 yX4_get yX4_get, Cond.code yX4_get cX4_get 2 (some .int)]
def wsL_isPut_r2 : List Cond := [Cond.methodLink RX4 80 yX4_lookUp, Cond.instanceMethod yX4_lookUp, Cond.selects RX4 yX4_lookUp yX4_lookUp, Cond.code yX4_lookUp cX4_lookUp 3 none, Cond.methodLink RX4 199 yX4_hash, Cond.instanceMethod yX4_hash, Cond.selects RX4 yX4_hash yX4_hash, Cond.code yX4_hash cX4_hash 3 (some .int), Cond.fieldLink RX4 42 "RobinRow" "way" "I", Cond.constant RX4 163 (-1640531535), Cond.methodLink RX4 202 yX1_begin, Cond.instanceMethod yX1_begin, Cond.selects RX1 yX1_begin yX1_begin, Cond.initialized RX1, Cond.code yX1_begin cX1_begin 1 none, Cond.fieldLink RX1 9 "RobinRow$Search" "table" "LRobinRow$Table;", Cond.fieldLink RX1 15 "RobinRow$Search" "groups" "I", Cond.fieldLink RX1 19 "RobinRow$Search" "comparisons" "I", Cond.methodLink RX4 203 yX1_lookIn, Cond.instanceMethod yX1_lookIn, Cond.selects RX1 yX1_lookIn yX1_lookIn, Cond.code yX1_lookIn cX1_lookIn 7 none, Cond.methodLink RX1 27 yX1_lookAtGroup, Cond.instanceMethod yX1_lookAtGroup]
def wsL_isPut_r3 : List Cond := [Cond.selects RX1 yX1_lookAtGroup yX1_lookAtGroup, Cond.code yX1_lookAtGroup cX1_lookAtGroup 8 (some .boolean), Cond.fieldLink RX1 50 "RobinRow$Search" "slot" "I", Cond.methodLink RX1 31 yX1_hasFound, Cond.instanceMethod yX1_hasFound, Cond.selects RX1 yX1_hasFound yX1_hasFound, Cond.code yX1_hasFound cX1_hasFound 1 (some .boolean), Cond.methodLink RX1 35 yX3_around, Cond.instanceMethod yX3_around, Cond.selects RX3 yX3_around yX3_around, Cond.initialized RX3, Cond.code yX3_around cX3_around 2 (some .int), Cond.fieldLink RX3 35 "RobinRow$Table" "slots" "I", Cond.methodLink RX1 39 yX3_isEmptyIn, Cond.instanceMethod yX3_isEmptyIn, Cond.selects RX3 yX3_isEmptyIn yX3_isEmptyIn, Cond.code yX3_isEmptyIn cX3_isEmptyIn 2 (some .boolean), Cond.fieldLink RX3 9 "RobinRow$Table" "controls" "[B", Cond.methodLink RX1 43 yX3_controlIn, Cond.instanceMethod yX3_controlIn, Cond.selects RX3 yX3_controlIn yX3_controlIn, Cond.code yX3_controlIn cX3_controlIn 2 (some .byte), Cond.methodLink RX1 47 yX3_keyIn, Cond.instanceMethod yX3_keyIn]
def wsL_isPut_r4 : List Cond := [Cond.selects RX3 yX3_keyIn yX3_keyIn, Cond.code yX3_keyIn cX3_keyIn 2 (some .int), Cond.fieldLink RX3 19 "RobinRow$Table" "keys" "[I", Cond.methodLink RX4 83 yX1_hasFound, Cond.methodLink RX4 101 yX3_valueIn, Cond.instanceMethod yX3_valueIn, Cond.selects RX3 yX3_valueIn yX3_valueIn, Cond.code yX3_valueIn cX3_valueIn 2 (some .int), Cond.fieldLink RX3 22 "RobinRow$Table" "values" "[I", Cond.methodLink RX4 77 yX4_moveSlice, Cond.instanceMethod yX4_moveSlice, Cond.selects RX4 yX4_moveSlice yX4_moveSlice, Cond.code yX4_moveSlice cX4_moveSlice 3 (some .int), Cond.methodLink RX4 242 yX3_lowestSlotWithKey, Cond.instanceMethod yX3_lowestSlotWithKey, Cond.selects RX3 yX3_lowestSlotWithKey yX3_lowestSlotWithKey, Cond.code yX3_lowestSlotWithKey cX3_lowestSlotWithKey 2 (some .int), Cond.methodLink RX3 42 yX3_isEmptyIn, Cond.methodLink RX4 136 yX3_keyIn, Cond.methodLink RX4 245 yX3_hashIn, Cond.instanceMethod yX3_hashIn, Cond.selects RX3 yX3_hashIn yX3_hashIn, Cond.code yX3_hashIn cX3_hashIn 2 (some .int), Cond.fieldLink RX3 15 "RobinRow$Table" "hashes" "[I"]
def wsL_isPut_r5 : List Cond := [Cond.methodLink RX4 238 yX3_carryIn, Cond.instanceMethod yX3_carryIn, Cond.selects RX3 yX3_carryIn yX3_carryIn, Cond.code yX3_carryIn cX3_carryIn 14 none, Cond.fieldLink RX3 39 "RobinRow$Table" "count" "I", Cond.methodLink RX3 46 yX3_around, Cond.methodLink RX3 59 yX3_distanceIn, Cond.instanceMethod yX3_distanceIn, Cond.selects RX3 yX3_distanceIn yX3_distanceIn, Cond.code yX3_distanceIn cX3_distanceIn 2 (some .int), Cond.methodLink RX3 62 yX3_fill, Cond.instanceMethod yX3_fill, Cond.selects RX3 yX3_fill yX3_fill, Cond.code yX3_fill cX3_fill 5 none, Cond.methodLink RX4 104 yX3_takeOut, Cond.instanceMethod yX3_takeOut, Cond.selects RX3 yX3_takeOut yX3_takeOut, Cond.code yX3_takeOut cX3_takeOut 5 none, Cond.methodLink RX4 107 yX4_endMoveIfOldIsEmpty, Cond.instanceMethod yX4_endMoveIfOldIsEmpty, Cond.selects RX4 yX4_endMoveIfOldIsEmpty yX4_endMoveIfOldIsEmpty, Cond.code yX4_endMoveIfOldIsEmpty cX4_endMoveIfOldIsEmpty 1 none, Cond.methodLink RX4 53 yX3_emptyWith, Cond.instanceMethod yX3_emptyWith]
def wsL_isPut_r6 : List Cond := [Cond.selects RX3 yX3_emptyWith yX3_emptyWith, Cond.code yX3_emptyWith cX3_emptyWith 3 none, Cond.methodLink RX3 29 Lib.Math.min.name, Cond.static Lib.Math.min.name, Cond.initialized "java/lang/Math", Cond.code Lib.Math.min.name Lib.Math.min.code 2 (some .int), Cond.methodLink RX4 93 yX3_exchangeValue, Cond.instanceMethod yX3_exchangeValue, Cond.selects RX3 yX3_exchangeValue yX3_exchangeValue, Cond.code yX3_exchangeValue cX3_exchangeValue 4 (some .int), Cond.methodLink RX4 97 yX4_putNew, Cond.instanceMethod yX4_putNew, Cond.selects RX4 yX4_putNew yX4_putNew, Cond.code yX4_putNew cX4_putNew 3 none, Cond.methodLink RX4 235 yX4_beginMove, Cond.instanceMethod yX4_beginMove, Cond.selects RX4 yX4_beginMove yX4_beginMove, Cond.code yX4_beginMove cX4_beginMove 2 none, Cond.fieldLink RX4 56 "RobinRow" "begunMoves" "I", Cond.methodLink RL 20 yX4_get]
def wsL_isPut : List Cond := .code yL_isPut cL_isPut 8 (some .boolean) :: ((wsL_isPut_r1 ++ (wsL_isPut_r2 ++ (wsL_isPut_r3 ++ (wsL_isPut_r4 ++ (wsL_isPut_r5 ++ wsL_isPut_r6))))) ++ wsX40 ++ wsX10 ++ wsX30 ++ (vx_atS RX4 50 "java/lang/IllegalArgumentException" ["java/lang/RuntimeException", "java/lang/Exception"]).filter goodWord ++ (vx_atS RX4 76 "java/lang/IllegalStateException" ["java/lang/RuntimeException", "java/lang/Exception"]).filter goodWord)
def wsL_isRemoved_r1 : List Cond := [Cond.methodLink RL 8 yL_placeOf, Cond.static yL_placeOf, Cond.initialized RL, Cond.code yL_placeOf cL_placeOf 5 (some .int), Cond.methodLink RL 24 yX4_remove, Cond.instanceMethod yX4_remove, Cond.selects RX4 yX4_remove yX4_remove, Cond.initialized RX4, Cond.code yX4_remove cX4_remove 3 (some .int), Cond.fieldLink RX4 18 "RobinRow" "search" "LRobinRow$Search;", Cond.methodLink RX4 77 yX4_moveSlice, Cond.instanceMethod yX4_moveSlice, Cond.selects RX4 yX4_moveSlice yX4_moveSlice, Cond.code yX4_moveSlice cX4_moveSlice 3 (some .int), Cond.fieldLink RX4 38 "RobinRow" "old" "LRobinRow$Table;", Cond.fieldLink RX4 34 "RobinRow" "present" "LRobinRow$Table;", Cond.methodLink RX4 242 yX3_lowestSlotWithKey, Cond.instanceMethod yX3_lowestSlotWithKey, Cond.selects RX3 yX3_lowestSlotWithKey yX3_lowestSlotWithKey, Cond.initialized RX3, Cond.code yX3_lowestSlotWithKey cX3_lowestSlotWithKey 2 (some .int), Cond.fieldLink RX3 35 "RobinRow$Table" "slots" "I", Cond.methodLink RX3 42 yX3_isEmptyIn, Cond.instanceMethod yX3_isEmptyIn]
def wsL_isRemoved_r2 : List Cond := [Cond.selects RX3 yX3_isEmptyIn yX3_isEmptyIn, Cond.code yX3_isEmptyIn cX3_isEmptyIn 2 (some .boolean), Cond.fieldLink RX3 9 "RobinRow$Table" "controls" "[B", Cond.methodLink RX4 136 yX3_keyIn, Cond.instanceMethod yX3_keyIn, Cond.selects RX3 yX3_keyIn yX3_keyIn, Cond.code yX3_keyIn cX3_keyIn 2 (some .int), Cond.fieldLink RX3 19 "RobinRow$Table" "keys" "[I", Cond.methodLink RX4 101 yX3_valueIn, Cond.instanceMethod yX3_valueIn, Cond.selects RX3 yX3_valueIn yX3_valueIn, Cond.code yX3_valueIn cX3_valueIn 2 (some .int), Cond.fieldLink RX3 22 "RobinRow$Table" "values" "[I", Cond.methodLink RX4 245 yX3_hashIn, Cond.instanceMethod yX3_hashIn, Cond.selects RX3 yX3_hashIn yX3_hashIn, Cond.code yX3_hashIn cX3_hashIn 2 (some .int), Cond.fieldLink RX3 15 "RobinRow$Table" "hashes" "[I", Cond.methodLink RX4 238 yX3_carryIn, Cond.instanceMethod yX3_carryIn, Cond.selects RX3 yX3_carryIn yX3_carryIn, Cond.code yX3_carryIn cX3_carryIn 14 none, Cond.fieldLink RX3 39 "RobinRow$Table" "count" "I", Cond.methodLink RX3 46 yX3_around]
def wsL_isRemoved_r3 : List Cond := [Cond.instanceMethod yX3_around, Cond.selects RX3 yX3_around yX3_around, Cond.code yX3_around cX3_around 2 (some .int), Cond.methodLink RX3 59 yX3_distanceIn, Cond.instanceMethod yX3_distanceIn, Cond.selects RX3 yX3_distanceIn yX3_distanceIn, Cond.code yX3_distanceIn cX3_distanceIn 2 (some .int), Cond.methodLink RX3 62 yX3_fill, Cond.instanceMethod yX3_fill, Cond.selects RX3 yX3_fill yX3_fill, Cond.code yX3_fill cX3_fill 5 none, Cond.methodLink RX4 104 yX3_takeOut, Cond.instanceMethod yX3_takeOut, Cond.selects RX3 yX3_takeOut yX3_takeOut, Cond.code yX3_takeOut cX3_takeOut 5 none, Cond.methodLink RX4 107 yX4_endMoveIfOldIsEmpty, Cond.instanceMethod yX4_endMoveIfOldIsEmpty, Cond.selects RX4 yX4_endMoveIfOldIsEmpty yX4_endMoveIfOldIsEmpty, Cond.code yX4_endMoveIfOldIsEmpty cX4_endMoveIfOldIsEmpty 1 none, Cond.methodLink RX4 53 yX3_emptyWith, Cond.instanceMethod yX3_emptyWith, Cond.selects RX3 yX3_emptyWith yX3_emptyWith, Cond.code yX3_emptyWith cX3_emptyWith 3 none, Cond.methodLink RX3 29 Lib.Math.min.name]
def wsL_isRemoved_r4 : List Cond := [Cond.static Lib.Math.min.name, Cond.initialized "java/lang/Math", Cond.code Lib.Math.min.name Lib.Math.min.code 2 (some .int), Cond.methodLink RX4 80 yX4_lookUp, Cond.instanceMethod yX4_lookUp, Cond.selects RX4 yX4_lookUp yX4_lookUp, Cond.code yX4_lookUp cX4_lookUp 3 none, Cond.methodLink RX4 199 yX4_hash, Cond.instanceMethod yX4_hash, Cond.selects RX4 yX4_hash yX4_hash, Cond.code yX4_hash cX4_hash 3 (some .int), Cond.fieldLink RX4 42 "RobinRow" "way" "I", Cond.constant RX4 163 (-1640531535), Cond.methodLink RX4 202 yX1_begin, Cond.instanceMethod yX1_begin, Cond.selects RX1 yX1_begin yX1_begin, Cond.initialized RX1, Cond.code yX1_begin cX1_begin 1 none, Cond.fieldLink RX1 9 "RobinRow$Search" "table" "LRobinRow$Table;", Cond.fieldLink RX1 15 "RobinRow$Search" "groups" "I", Cond.fieldLink RX1 19 "RobinRow$Search" "comparisons" "I", Cond.methodLink RX4 203 yX1_lookIn, Cond.instanceMethod yX1_lookIn, Cond.selects RX1 yX1_lookIn yX1_lookIn]
def wsL_isRemoved_r5 : List Cond := [Cond.code yX1_lookIn cX1_lookIn 7 none, Cond.methodLink RX1 27 yX1_lookAtGroup, Cond.instanceMethod yX1_lookAtGroup, Cond.selects RX1 yX1_lookAtGroup yX1_lookAtGroup, Cond.code yX1_lookAtGroup cX1_lookAtGroup 8 (some .boolean), Cond.fieldLink RX1 50 "RobinRow$Search" "slot" "I", Cond.methodLink RX1 31 yX1_hasFound, Cond.instanceMethod yX1_hasFound, Cond.selects RX1 yX1_hasFound yX1_hasFound, Cond.code yX1_hasFound cX1_hasFound 1 (some .boolean), Cond.methodLink RX1 35 yX3_around, Cond.methodLink RX1 39 yX3_isEmptyIn, Cond.methodLink RX1 43 yX3_controlIn, Cond.instanceMethod yX3_controlIn, Cond.selects RX3 yX3_controlIn yX3_controlIn, Cond.code yX3_controlIn cX3_controlIn 2 (some .byte), Cond.methodLink RX1 47 yX3_keyIn, Cond.methodLink RX4 83 yX1_hasFound, Cond.methodLink RL 20 yX4_get, Cond.instanceMethod yX4_get, Cond.selects RX4 yX4_get yX4_get, Cond.code yX4_get cX4_get 2 (some .int)]
def wsL_isRemoved : List Cond := .code yL_isRemoved cL_isRemoved 7 (some .boolean) :: ((wsL_isRemoved_r1 ++ (wsL_isRemoved_r2 ++ (wsL_isRemoved_r3 ++ (wsL_isRemoved_r4 ++ wsL_isRemoved_r5)))) ++ wsX40 ++ wsX10 ++ wsX30)
def wsL_keysOf_r1 : List Cond := [Cond.methodLink RL 27 yX4_slots, Cond.instanceMethod yX4_slots, Cond.selects RX4 yX4_slots yX4_slots, Cond.initialized RX4, Cond.code yX4_slots cX4_slots 2 (some .int), Cond.methodLink RX4 164 yX4_tableOf, Cond.instanceMethod yX4_tableOf, Cond.selects RX4 yX4_tableOf yX4_tableOf, Cond.code yX4_tableOf cX4_tableOf 2 (some (.object "RobinRow$Table")), Cond.classLink RX4 222 "java/lang/IndexOutOfBoundsException", Cond.initialized "java/lang/IndexOutOfBoundsException", Cond.fieldLink RX4 34 "RobinRow" "present" "LRobinRow$Table;", Cond.fieldLink RX4 38 "RobinRow" "old" "LRobinRow$Table;", Cond.methodLink RL 30 yX4_distanceAt, Cond.instanceMethod yX4_distanceAt, Cond.selects RX4 yX4_distanceAt yX4_distanceAt, Cond.code yX4_distanceAt cX4_distanceAt 3 (some .int), Cond.methodLink RX4 171 yX4_tableWithSlot, Cond.instanceMethod yX4_tableWithSlot, Cond.selects RX4 yX4_tableWithSlot yX4_tableWithSlot, Cond.code yX4_tableWithSlot cX4_tableWithSlot 4 (some (.object "RobinRow$Table")), Cond.methodLink RX4 185 yX3_distanceIn, Cond.instanceMethod yX3_distanceIn, Cond.selects RX3 yX3_distanceIn yX3_distanceIn]
def wsL_keysOf_r2 : List Cond := [Cond.initialized RX3, Cond.code yX3_distanceIn cX3_distanceIn 2 (some .int), Cond.fieldLink RX3 15 "RobinRow$Table" "hashes" "[I", Cond.methodLink RX3 42 yX3_isEmptyIn, Cond.instanceMethod yX3_isEmptyIn, Cond.selects RX3 yX3_isEmptyIn yX3_isEmptyIn, Cond.code yX3_isEmptyIn cX3_isEmptyIn 2 (some .boolean), Cond.fieldLink RX3 9 "RobinRow$Table" "controls" "[B", Cond.methodLink RX3 46 yX3_around, Cond.instanceMethod yX3_around, Cond.selects RX3 yX3_around yX3_around, Cond.code yX3_around cX3_around 2 (some .int), Cond.fieldLink RX3 35 "RobinRow$Table" "slots" "I", Cond.methodLink RL 33 yX4_control, Cond.instanceMethod yX4_control, Cond.selects RX4 yX4_control yX4_control, Cond.code yX4_control cX4_control 3 (some .byte), Cond.methodLink RX4 175 yX3_controlIn, Cond.instanceMethod yX3_controlIn, Cond.selects RX3 yX3_controlIn yX3_controlIn, Cond.code yX3_controlIn cX3_controlIn 2 (some .byte), Cond.methodLink RL 37 yX4_keyAt, Cond.instanceMethod yX4_keyAt, Cond.selects RX4 yX4_keyAt yX4_keyAt]
def wsL_keysOf_r3 : List Cond := [Cond.code yX4_keyAt cX4_keyAt 4 (some .int), Cond.classLink RX4 72 "java/lang/IllegalStateException", Cond.initialized "java/lang/IllegalStateException", Cond.methodLink RX4 179 yX3_isEmptyIn, Cond.methodLink RX4 136 yX3_keyIn, Cond.instanceMethod yX3_keyIn, Cond.selects RX3 yX3_keyIn yX3_keyIn, Cond.code yX3_keyIn cX3_keyIn 2 (some .int), Cond.fieldLink RX3 19 "RobinRow$Table" "keys" "[I", Cond.methodLink RL 40 yX4_hash, Cond.instanceMethod yX4_hash, Cond.selects RX4 yX4_hash yX4_hash, Cond.code yX4_hash cX4_hash 3 (some .int), Cond.fieldLink RX4 42 "RobinRow" "way" "I", Cond.constant RX4 163 (-1640531535), Cond.methodLink RL 43 yX4_keysIn, Cond.instanceMethod yX4_keysIn, Cond.selects RX4 yX4_keysIn yX4_keysIn, Cond.code yX4_keysIn cX4_keysIn 2 (some .int)]
def wsL_keysOf : List Cond := .code yL_keysOf cL_keysOf 9 (some .int) :: ((wsL_keysOf_r1 ++ (wsL_keysOf_r2 ++ wsL_keysOf_r3)) ++ wsX30 ++ wsX40 ++ (vx_atS RX4 226 "java/lang/IndexOutOfBoundsException" ["java/lang/RuntimeException", "java/lang/Exception"]).filter goodWord ++ (vx_atS RX4 76 "java/lang/IllegalStateException" ["java/lang/RuntimeException", "java/lang/Exception"]).filter goodWord)
def wsL_isSo_r1 : List Cond := [Cond.methodLink RL 46 yL_size, Cond.static yL_size, Cond.initialized RL, Cond.code yL_size cL_size 4 (some .int), Cond.methodLink RL 50 yL_keysOf, Cond.static yL_keysOf, Cond.code yL_keysOf cL_keysOf 9 (some .int), Cond.methodLink RL 27 yX4_slots, Cond.instanceMethod yX4_slots, Cond.selects RX4 yX4_slots yX4_slots, Cond.initialized RX4, Cond.code yX4_slots cX4_slots 2 (some .int), Cond.methodLink RX4 164 yX4_tableOf, Cond.instanceMethod yX4_tableOf, Cond.selects RX4 yX4_tableOf yX4_tableOf, Cond.code yX4_tableOf cX4_tableOf 2 (some (.object "RobinRow$Table")), Cond.classLink RX4 222 "java/lang/IndexOutOfBoundsException", Cond.initialized "java/lang/IndexOutOfBoundsException", Cond.fieldLink RX4 34 "RobinRow" "present" "LRobinRow$Table;", Cond.fieldLink RX4 38 "RobinRow" "old" "LRobinRow$Table;", Cond.methodLink RL 30 yX4_distanceAt, Cond.instanceMethod yX4_distanceAt, Cond.selects RX4 yX4_distanceAt yX4_distanceAt, Cond.code yX4_distanceAt cX4_distanceAt 3 (some .int)]
def wsL_isSo_r2 : List Cond := [Cond.methodLink RX4 171 yX4_tableWithSlot, Cond.instanceMethod yX4_tableWithSlot, Cond.selects RX4 yX4_tableWithSlot yX4_tableWithSlot, Cond.code yX4_tableWithSlot cX4_tableWithSlot 4 (some (.object "RobinRow$Table")), Cond.methodLink RX4 185 yX3_distanceIn, Cond.instanceMethod yX3_distanceIn, Cond.selects RX3 yX3_distanceIn yX3_distanceIn, Cond.initialized RX3, Cond.code yX3_distanceIn cX3_distanceIn 2 (some .int), Cond.fieldLink RX3 15 "RobinRow$Table" "hashes" "[I", Cond.methodLink RX3 42 yX3_isEmptyIn, Cond.instanceMethod yX3_isEmptyIn, Cond.selects RX3 yX3_isEmptyIn yX3_isEmptyIn, Cond.code yX3_isEmptyIn cX3_isEmptyIn 2 (some .boolean), Cond.fieldLink RX3 9 "RobinRow$Table" "controls" "[B", Cond.methodLink RX3 46 yX3_around, Cond.instanceMethod yX3_around, Cond.selects RX3 yX3_around yX3_around, Cond.code yX3_around cX3_around 2 (some .int), Cond.fieldLink RX3 35 "RobinRow$Table" "slots" "I", Cond.methodLink RL 33 yX4_control, Cond.instanceMethod yX4_control, Cond.selects RX4 yX4_control yX4_control, Cond.code yX4_control cX4_control 3 (some .byte)]
def wsL_isSo_r3 : List Cond := [Cond.methodLink RX4 175 yX3_controlIn, Cond.instanceMethod yX3_controlIn, Cond.selects RX3 yX3_controlIn yX3_controlIn, Cond.code yX3_controlIn cX3_controlIn 2 (some .byte), Cond.methodLink RL 37 yX4_keyAt, Cond.instanceMethod yX4_keyAt, Cond.selects RX4 yX4_keyAt yX4_keyAt, Cond.code yX4_keyAt cX4_keyAt 4 (some .int), Cond.classLink RX4 72 "java/lang/IllegalStateException", Cond.initialized "java/lang/IllegalStateException", Cond.methodLink RX4 179 yX3_isEmptyIn, Cond.methodLink RX4 136 yX3_keyIn, Cond.instanceMethod yX3_keyIn, Cond.selects RX3 yX3_keyIn yX3_keyIn, Cond.code yX3_keyIn cX3_keyIn 2 (some .int), Cond.fieldLink RX3 19 "RobinRow$Table" "keys" "[I", Cond.methodLink RL 40 yX4_hash, Cond.instanceMethod yX4_hash, Cond.selects RX4 yX4_hash yX4_hash, Cond.code yX4_hash cX4_hash 3 (some .int), Cond.fieldLink RX4 42 "RobinRow" "way" "I", Cond.constant RX4 163 (-1640531535), Cond.methodLink RL 43 yX4_keysIn, Cond.instanceMethod yX4_keysIn]
def wsL_isSo_r4 : List Cond := [Cond.selects RX4 yX4_keysIn yX4_keysIn, Cond.code yX4_keysIn cX4_keysIn 2 (some .int), Cond.methodLink RL 54 yX4_size, Cond.instanceMethod yX4_size, Cond.selects RX4 yX4_size yX4_size, Cond.code yX4_size cX4_size 1 (some .int), Cond.methodLink RL 57 yX4_longest, Cond.instanceMethod yX4_longest, Cond.selects RX4 yX4_longest yX4_longest, Cond.code yX4_longest cX4_longest 3 (some .int), Cond.methodLink RX4 188 Lib.Math.max.name, Cond.static Lib.Math.max.name, Cond.initialized "java/lang/Math", Cond.code Lib.Math.max.name Lib.Math.max.code 2 (some .int), Cond.methodLink RL 60 yX4_plainLongest, Cond.instanceMethod yX4_plainLongest, Cond.selects RX4 yX4_plainLongest yX4_plainLongest, Cond.code yX4_plainLongest cX4_plainLongest 1 (some .int), Cond.fieldLink RX4 25 "RobinRow" "plainRow" "LRobinRow$PlainRow;", Cond.methodLink RX4 212 yX0_fillFrom, Cond.instanceMethod yX0_fillFrom, Cond.selects RX0 yX0_fillFrom yX0_fillFrom, Cond.initialized RX0, Cond.code yX0_fillFrom cX0_fillFrom 5 none]
def wsL_isSo_r5 : List Cond := [Cond.fieldLink RX0 19 "RobinRow$PlainRow" "total" "I", Cond.fieldLink RX0 23 "RobinRow$PlainRow" "longest" "I", Cond.fieldLink RX0 15 "RobinRow$PlainRow" "taken" "[Z", Cond.fieldLink RX0 9 "RobinRow$PlainRow" "rising" "[I", Cond.methodLink RX0 40 Lib.Math.max.name, Cond.methodLink RX0 26 yX0_sortByKeys, Cond.instanceMethod yX0_sortByKeys, Cond.selects RX0 yX0_sortByKeys yX0_sortByKeys, Cond.code yX0_sortByKeys cX0_sortByKeys 5 (some .int), Cond.methodLink RX0 49 yX3_isEmptyIn, Cond.methodLink RX0 53 yX3_keyIn, Cond.methodLink RX0 30 yX3_hashIn, Cond.instanceMethod yX3_hashIn, Cond.selects RX3 yX3_hashIn yX3_hashIn, Cond.code yX3_hashIn cX3_hashIn 2 (some .int), Cond.methodLink RX0 36 yX0_takeFirstFree, Cond.instanceMethod yX0_takeFirstFree, Cond.selects RX0 yX0_takeFirstFree yX0_takeFirstFree, Cond.code yX0_takeFirstFree cX0_takeFirstFree 4 (some .int), Cond.methodLink RX0 56 yX3_around, Cond.methodLink RL 63 yX4_plainTotal, Cond.instanceMethod yX4_plainTotal, Cond.selects RX4 yX4_plainTotal yX4_plainTotal, Cond.code yX4_plainTotal cX4_plainTotal 1 (some .int)]
def wsL_isSo_r6 : List Cond := [Cond.methodLink RL 66 yX4_total, Cond.instanceMethod yX4_total, Cond.selects RX4 yX4_total yX4_total, Cond.code yX4_total cX4_total 3 (some .int), Cond.methodLink RL 8 yL_placeOf, Cond.static yL_placeOf, Cond.code yL_placeOf cL_placeOf 5 (some .int), Cond.methodLink RL 20 yX4_get, Cond.instanceMethod yX4_get, Cond.selects RX4 yX4_get yX4_get, Cond.code yX4_get cX4_get 2 (some .int), Cond.fieldLink RX4 18 "RobinRow" "search" "LRobinRow$Search;", Cond.methodLink RX4 80 yX4_lookUp, Cond.instanceMethod yX4_lookUp, Cond.selects RX4 yX4_lookUp yX4_lookUp, Cond.code yX4_lookUp cX4_lookUp 3 none, Cond.methodLink RX4 199 yX4_hash, Cond.methodLink RX4 202 yX1_begin, Cond.instanceMethod yX1_begin, Cond.selects RX1 yX1_begin yX1_begin, Cond.initialized RX1, Cond.code yX1_begin cX1_begin 1 none, Cond.fieldLink RX1 9 "RobinRow$Search" "table" "LRobinRow$Table;", Cond.fieldLink RX1 15 "RobinRow$Search" "groups" "I"]
def wsL_isSo_r7 : List Cond := [Cond.fieldLink RX1 19 "RobinRow$Search" "comparisons" "I", Cond.methodLink RX4 203 yX1_lookIn, Cond.instanceMethod yX1_lookIn, Cond.selects RX1 yX1_lookIn yX1_lookIn, Cond.code yX1_lookIn cX1_lookIn 7 none, Cond.methodLink RX1 27 yX1_lookAtGroup, Cond.instanceMethod yX1_lookAtGroup, Cond.selects RX1 yX1_lookAtGroup yX1_lookAtGroup, Cond.code yX1_lookAtGroup cX1_lookAtGroup 8 (some .boolean), Cond.fieldLink RX1 50 "RobinRow$Search" "slot" "I", Cond.methodLink RX1 31 yX1_hasFound, Cond.instanceMethod yX1_hasFound, Cond.selects RX1 yX1_hasFound yX1_hasFound, Cond.code yX1_hasFound cX1_hasFound 1 (some .boolean), Cond.methodLink RX1 35 yX3_around, Cond.methodLink RX1 39 yX3_isEmptyIn, Cond.methodLink RX1 43 yX3_controlIn, Cond.methodLink RX1 47 yX3_keyIn, Cond.methodLink RX4 83 yX1_hasFound, Cond.methodLink RX4 101 yX3_valueIn, Cond.instanceMethod yX3_valueIn, Cond.selects RX3 yX3_valueIn yX3_valueIn, Cond.code yX3_valueIn cX3_valueIn 2 (some .int), Cond.fieldLink RX3 22 "RobinRow$Table" "values" "[I"]
def wsL_isSo_r8 : List Cond := [Cond.methodLink RL 69 yX4_groups, Cond.instanceMethod yX4_groups, Cond.selects RX4 yX4_groups yX4_groups, Cond.code yX4_groups cX4_groups 2 (some .int), Cond.methodLink RL 72 yX4_comparisons, Cond.instanceMethod yX4_comparisons, Cond.selects RX4 yX4_comparisons yX4_comparisons, Cond.code yX4_comparisons cX4_comparisons 2 (some .int)]
def wsL_isSo : List Cond := .code yL_isSo cL_isSo 10 (some .boolean) :: ((wsL_isSo_r1 ++ (wsL_isSo_r2 ++ (wsL_isSo_r3 ++ (wsL_isSo_r4 ++ (wsL_isSo_r5 ++ (wsL_isSo_r6 ++ (wsL_isSo_r7 ++ wsL_isSo_r8))))))) ++ wsX30 ++ wsX40 ++ wsX00 ++ wsX10 ++ (vx_atS RX4 226 "java/lang/IndexOutOfBoundsException" ["java/lang/RuntimeException", "java/lang/Exception"]).filter goodWord ++ (vx_atS RX4 76 "java/lang/IllegalStateException" ["java/lang/RuntimeException", "java/lang/Exception"]).filter goodWord)
def wsL_law0_r1 : List Cond := [Cond.classLink RL 15 RX4, Cond.instantiable RX4 7, Cond.initialized RX4, Cond.arrayClass .int, Cond.constant RL 86 (1000000), Cond.methodLink RL 75 yX4_init, Cond.instanceMethod yX4_init, Cond.code yX4_init cX4_init 2 none, Cond.methodLink RX4 1 objectInit, Cond.instanceMethod objectInit, Cond.code objectInit ⟨#[0xb1]⟩ 1 none, Cond.classLink RX4 9 RX2, Cond.fieldLink RX4 11 "RobinRow" "sweeps" "[LRobinRow$Sweep;", Cond.classLink RX4 15 RX1, Cond.instantiable RX1 4, Cond.initialized RX1, Cond.fieldLink RX4 18 "RobinRow" "search" "LRobinRow$Search;", Cond.classLink RX4 22 RX0, Cond.instantiable RX0 4, Cond.initialized RX0, Cond.fieldLink RX4 25 "RobinRow" "plainRow" "LRobinRow$PlainRow;", Cond.classLink RX4 29 RX3, Cond.instantiable RX3 6, Cond.initialized RX3]
def wsL_law0_r2 : List Cond := [Cond.fieldLink RX4 34 "RobinRow" "present" "LRobinRow$Table;", Cond.fieldLink RX4 38 "RobinRow" "old" "LRobinRow$Table;", Cond.instantiable RX2 5, Cond.initialized RX2, Cond.fieldLink RX4 42 "RobinRow" "way" "I", Cond.instanceMethod yX1_init, Cond.code yX1_init cX1_init 1 none, Cond.methodLink RX1 3 objectInit, Cond.instanceMethod yX0_init, Cond.code yX0_init cX0_init 1 none, Cond.methodLink RX0 3 objectInit, Cond.fieldLink RX0 9 "RobinRow$PlainRow" "rising" "[I", Cond.arrayClass .boolean, Cond.fieldLink RX0 15 "RobinRow$PlainRow" "taken" "[Z", Cond.methodLink RX4 31 yX3_init, Cond.instanceMethod yX3_init, Cond.code yX3_init cX3_init 2 none, Cond.methodLink RX3 3 objectInit, Cond.arrayClass .byte, Cond.fieldLink RX3 9 "RobinRow$Table" "controls" "[B", Cond.fieldLink RX3 15 "RobinRow$Table" "hashes" "[I", Cond.fieldLink RX3 19 "RobinRow$Table" "keys" "[I", Cond.fieldLink RX3 22 "RobinRow$Table" "values" "[I", Cond.methodLink RX3 25 yX3_emptyWith]
def wsL_law0_r3 : List Cond := [Cond.instanceMethod yX3_emptyWith, Cond.selects RX3 yX3_emptyWith yX3_emptyWith, Cond.code yX3_emptyWith cX3_emptyWith 3 none, Cond.methodLink RX3 29 Lib.Math.min.name, Cond.static Lib.Math.min.name, Cond.initialized "java/lang/Math", Cond.code Lib.Math.min.name Lib.Math.min.code 2 (some .int), Cond.fieldLink RX3 35 "RobinRow$Table" "slots" "I", Cond.fieldLink RX3 39 "RobinRow$Table" "count" "I", Cond.instanceMethod yX2_init, Cond.code yX2_init cX2_init 1 none, Cond.methodLink RX2 3 objectInit, Cond.methodLink RL 76 yL_drawn, Cond.static yL_drawn, Cond.initialized RL, Cond.code yL_drawn cL_drawn 2 (some .int), Cond.methodLink RL 79 yL_low, Cond.static yL_low, Cond.code yL_low cL_low 2 (some .int), Cond.constant RL 7 (2147483647), Cond.methodLink RL 82 yX4_clear, Cond.instanceMethod yX4_clear, Cond.selects RX4 yX4_clear yX4_clear, Cond.code yX4_clear cX4_clear 3 none]
def wsL_law0_r4 : List Cond := [Cond.classLink RX4 46 "java/lang/IllegalArgumentException", Cond.initialized "java/lang/IllegalArgumentException", Cond.fieldLink RX4 56 "RobinRow" "begunMoves" "I", Cond.methodLink RX4 53 yX3_emptyWith, Cond.methodLink RX4 59 yX2_end, Cond.instanceMethod yX2_end, Cond.selects RX2 yX2_end yX2_end, Cond.code yX2_end cX2_end 1 none, Cond.fieldLink RX2 9 "RobinRow$Sweep" "isOpen" "Z", Cond.methodLink RL 87 yL_isPut, Cond.static yL_isPut, Cond.code yL_isPut cL_isPut 8 (some .boolean), Cond.methodLink RL 8 yL_placeOf, Cond.static yL_placeOf, Cond.code yL_placeOf cL_placeOf 5 (some .int), Cond.methodLink RL 14 yX4_put, Cond.instanceMethod yX4_put, Cond.selects RX4 yX4_put yX4_put, Cond.code yX4_put cX4_put 3 (some .int), Cond.classLink RX4 72 "java/lang/IllegalStateException", Cond.initialized "java/lang/IllegalStateException", Cond.methodLink RX4 64 yX4_size, Cond.instanceMethod yX4_size, Cond.selects RX4 yX4_size yX4_size]
def wsL_law0_r5 : List Cond := [Cond.code yX4_size cX4_size 1 (some .int), Cond.methodLink RX4 68 yX4_get, Cond.instanceMethod yX4_get, Cond.selects RX4 yX4_get yX4_get, Cond.code yX4_get cX4_get 2 (some .int), Cond.methodLink RX4 80 yX4_lookUp, Cond.instanceMethod yX4_lookUp, Cond.selects RX4 yX4_lookUp yX4_lookUp, Cond.code yX4_lookUp cX4_lookUp 3 none, Cond.methodLink RX4 199 yX4_hash, Cond.instanceMethod yX4_hash, Cond.selects RX4 yX4_hash yX4_hash, Cond.code yX4_hash cX4_hash 3 (some .int), Cond.constant RX4 163 (-1640531535), Cond.methodLink RX4 202 yX1_begin, Cond.instanceMethod yX1_begin, Cond.selects RX1 yX1_begin yX1_begin, Cond.code yX1_begin cX1_begin 1 none, Cond.fieldLink RX1 9 "RobinRow$Search" "table" "LRobinRow$Table;", Cond.fieldLink RX1 15 "RobinRow$Search" "groups" "I", Cond.fieldLink RX1 19 "RobinRow$Search" "comparisons" "I", Cond.methodLink RX4 203 yX1_lookIn, Cond.instanceMethod yX1_lookIn, Cond.selects RX1 yX1_lookIn yX1_lookIn]
def wsL_law0_r6 : List Cond := [Cond.code yX1_lookIn cX1_lookIn 7 none, Cond.methodLink RX1 27 yX1_lookAtGroup, Cond.instanceMethod yX1_lookAtGroup, Cond.selects RX1 yX1_lookAtGroup yX1_lookAtGroup, Cond.code yX1_lookAtGroup cX1_lookAtGroup 8 (some .boolean), Cond.fieldLink RX1 50 "RobinRow$Search" "slot" "I", Cond.methodLink RX1 31 yX1_hasFound, Cond.instanceMethod yX1_hasFound, Cond.selects RX1 yX1_hasFound yX1_hasFound, Cond.code yX1_hasFound cX1_hasFound 1 (some .boolean), Cond.methodLink RX1 35 yX3_around, Cond.instanceMethod yX3_around, Cond.selects RX3 yX3_around yX3_around, Cond.code yX3_around cX3_around 2 (some .int), Cond.methodLink RX1 39 yX3_isEmptyIn, Cond.instanceMethod yX3_isEmptyIn, Cond.selects RX3 yX3_isEmptyIn yX3_isEmptyIn, Cond.code yX3_isEmptyIn cX3_isEmptyIn 2 (some .boolean), Cond.methodLink RX1 43 yX3_controlIn, Cond.instanceMethod yX3_controlIn, Cond.selects RX3 yX3_controlIn yX3_controlIn, Cond.code yX3_controlIn cX3_controlIn 2 (some .byte), Cond.methodLink RX1 47 yX3_keyIn, Cond.instanceMethod yX3_keyIn]
def wsL_law0_r7 : List Cond := [Cond.selects RX3 yX3_keyIn yX3_keyIn, Cond.code yX3_keyIn cX3_keyIn 2 (some .int), Cond.methodLink RX4 83 yX1_hasFound, Cond.methodLink RX4 101 yX3_valueIn, Cond.instanceMethod yX3_valueIn, Cond.selects RX3 yX3_valueIn yX3_valueIn, Cond.code yX3_valueIn cX3_valueIn 2 (some .int), Cond.methodLink RX4 77 yX4_moveSlice, Cond.instanceMethod yX4_moveSlice, Cond.selects RX4 yX4_moveSlice yX4_moveSlice, Cond.code yX4_moveSlice cX4_moveSlice 3 (some .int), Cond.methodLink RX4 242 yX3_lowestSlotWithKey, Cond.instanceMethod yX3_lowestSlotWithKey, Cond.selects RX3 yX3_lowestSlotWithKey yX3_lowestSlotWithKey, Cond.code yX3_lowestSlotWithKey cX3_lowestSlotWithKey 2 (some .int), Cond.methodLink RX3 42 yX3_isEmptyIn, Cond.methodLink RX4 136 yX3_keyIn, Cond.methodLink RX4 245 yX3_hashIn, Cond.instanceMethod yX3_hashIn, Cond.selects RX3 yX3_hashIn yX3_hashIn, Cond.code yX3_hashIn cX3_hashIn 2 (some .int), Cond.methodLink RX4 238 yX3_carryIn, Cond.instanceMethod yX3_carryIn, Cond.selects RX3 yX3_carryIn yX3_carryIn]
def wsL_law0_r8 : List Cond := [Cond.code yX3_carryIn cX3_carryIn 14 none, Cond.methodLink RX3 46 yX3_around, Cond.methodLink RX3 59 yX3_distanceIn, Cond.instanceMethod yX3_distanceIn, Cond.selects RX3 yX3_distanceIn yX3_distanceIn, Cond.code yX3_distanceIn cX3_distanceIn 2 (some .int), Cond.methodLink RX3 62 yX3_fill, Cond.instanceMethod yX3_fill, Cond.selects RX3 yX3_fill yX3_fill, Cond.code yX3_fill cX3_fill 5 none, Cond.methodLink RX4 104 yX3_takeOut, Cond.instanceMethod yX3_takeOut, Cond.selects RX3 yX3_takeOut yX3_takeOut, Cond.code yX3_takeOut cX3_takeOut 5 none, Cond.methodLink RX4 107 yX4_endMoveIfOldIsEmpty, Cond.instanceMethod yX4_endMoveIfOldIsEmpty, Cond.selects RX4 yX4_endMoveIfOldIsEmpty yX4_endMoveIfOldIsEmpty, Cond.code yX4_endMoveIfOldIsEmpty cX4_endMoveIfOldIsEmpty 1 none, Cond.methodLink RX4 93 yX3_exchangeValue, Cond.instanceMethod yX3_exchangeValue, Cond.selects RX3 yX3_exchangeValue yX3_exchangeValue, Cond.code yX3_exchangeValue cX3_exchangeValue 4 (some .int), Cond.methodLink RX4 97 yX4_putNew, Cond.instanceMethod yX4_putNew]
def wsL_law0_r9 : List Cond := [Cond.selects RX4 yX4_putNew yX4_putNew, Cond.code yX4_putNew cX4_putNew 3 none, Cond.methodLink RX4 235 yX4_beginMove, Cond.instanceMethod yX4_beginMove, Cond.selects RX4 yX4_beginMove yX4_beginMove, Cond.code yX4_beginMove cX4_beginMove 2 none, Cond.methodLink RL 20 yX4_get, Cond.methodLink RL 91 yL_isRemoved, Cond.static yL_isRemoved, Cond.code yL_isRemoved cL_isRemoved 7 (some .boolean), Cond.methodLink RL 24 yX4_remove, Cond.instanceMethod yX4_remove, Cond.selects RX4 yX4_remove yX4_remove, Cond.code yX4_remove cX4_remove 3 (some .int), Cond.methodLink RL 43 yX4_keysIn, Cond.instanceMethod yX4_keysIn, Cond.selects RX4 yX4_keysIn yX4_keysIn, Cond.code yX4_keysIn cX4_keysIn 2 (some .int), Cond.methodLink RX4 164 yX4_tableOf, Cond.instanceMethod yX4_tableOf, Cond.selects RX4 yX4_tableOf yX4_tableOf, Cond.code yX4_tableOf cX4_tableOf 2 (some (.object "RobinRow$Table")), Cond.classLink RX4 222 "java/lang/IndexOutOfBoundsException", Cond.initialized "java/lang/IndexOutOfBoundsException"]
def wsL_law0_r10 : List Cond := [Cond.methodLink RL 95 yX4_move, Cond.instanceMethod yX4_move, Cond.selects RX4 yX4_move yX4_move, Cond.code yX4_move cX4_move 1 (some .int), Cond.methodLink RL 27 yX4_slots, Cond.instanceMethod yX4_slots, Cond.selects RX4 yX4_slots yX4_slots, Cond.code yX4_slots cX4_slots 2 (some .int), Cond.methodLink RL 98 yL_isSo, Cond.static yL_isSo, Cond.code yL_isSo cL_isSo 10 (some .boolean), Cond.methodLink RL 46 yL_size, Cond.static yL_size, Cond.code yL_size cL_size 4 (some .int), Cond.methodLink RL 50 yL_keysOf, Cond.static yL_keysOf, Cond.code yL_keysOf cL_keysOf 9 (some .int), Cond.methodLink RL 30 yX4_distanceAt, Cond.instanceMethod yX4_distanceAt, Cond.selects RX4 yX4_distanceAt yX4_distanceAt, Cond.code yX4_distanceAt cX4_distanceAt 3 (some .int), Cond.methodLink RX4 171 yX4_tableWithSlot, Cond.instanceMethod yX4_tableWithSlot, Cond.selects RX4 yX4_tableWithSlot yX4_tableWithSlot]
def wsL_law0_r11 : List Cond := [Cond.code yX4_tableWithSlot cX4_tableWithSlot 4 (some (.object "RobinRow$Table")), Cond.methodLink RX4 185 yX3_distanceIn, Cond.methodLink RL 33 yX4_control, Cond.instanceMethod yX4_control, Cond.selects RX4 yX4_control yX4_control, Cond.code yX4_control cX4_control 3 (some .byte), Cond.methodLink RX4 175 yX3_controlIn, Cond.methodLink RL 37 yX4_keyAt, Cond.instanceMethod yX4_keyAt, Cond.selects RX4 yX4_keyAt yX4_keyAt, Cond.code yX4_keyAt cX4_keyAt 4 (some .int), Cond.methodLink RX4 179 yX3_isEmptyIn, Cond.methodLink RL 40 yX4_hash, Cond.methodLink RL 54 yX4_size, Cond.methodLink RL 57 yX4_longest, Cond.instanceMethod yX4_longest, Cond.selects RX4 yX4_longest yX4_longest, Cond.code yX4_longest cX4_longest 3 (some .int), Cond.methodLink RX4 188 Lib.Math.max.name, Cond.static Lib.Math.max.name, Cond.code Lib.Math.max.name Lib.Math.max.code 2 (some .int), Cond.methodLink RL 60 yX4_plainLongest, Cond.instanceMethod yX4_plainLongest, Cond.selects RX4 yX4_plainLongest yX4_plainLongest]
def wsL_law0_r12 : List Cond := [Cond.code yX4_plainLongest cX4_plainLongest 1 (some .int), Cond.methodLink RX4 212 yX0_fillFrom, Cond.instanceMethod yX0_fillFrom, Cond.selects RX0 yX0_fillFrom yX0_fillFrom, Cond.code yX0_fillFrom cX0_fillFrom 5 none, Cond.fieldLink RX0 19 "RobinRow$PlainRow" "total" "I", Cond.fieldLink RX0 23 "RobinRow$PlainRow" "longest" "I", Cond.methodLink RX0 40 Lib.Math.max.name, Cond.methodLink RX0 26 yX0_sortByKeys, Cond.instanceMethod yX0_sortByKeys, Cond.selects RX0 yX0_sortByKeys yX0_sortByKeys, Cond.code yX0_sortByKeys cX0_sortByKeys 5 (some .int), Cond.methodLink RX0 49 yX3_isEmptyIn, Cond.methodLink RX0 53 yX3_keyIn, Cond.methodLink RX0 30 yX3_hashIn, Cond.methodLink RX0 36 yX0_takeFirstFree, Cond.instanceMethod yX0_takeFirstFree, Cond.selects RX0 yX0_takeFirstFree yX0_takeFirstFree, Cond.code yX0_takeFirstFree cX0_takeFirstFree 4 (some .int), Cond.methodLink RX0 56 yX3_around, Cond.methodLink RL 63 yX4_plainTotal, Cond.instanceMethod yX4_plainTotal, Cond.selects RX4 yX4_plainTotal yX4_plainTotal, Cond.code yX4_plainTotal cX4_plainTotal 1 (some .int)]
def wsL_law0_r13 : List Cond := [Cond.methodLink RL 66 yX4_total, Cond.instanceMethod yX4_total, Cond.selects RX4 yX4_total yX4_total, Cond.code yX4_total cX4_total 3 (some .int), Cond.methodLink RL 69 yX4_groups, Cond.instanceMethod yX4_groups, Cond.selects RX4 yX4_groups yX4_groups, Cond.code yX4_groups cX4_groups 2 (some .int), Cond.methodLink RL 72 yX4_comparisons, Cond.instanceMethod yX4_comparisons, Cond.selects RX4 yX4_comparisons yX4_comparisons, Cond.code yX4_comparisons cX4_comparisons 2 (some .int)]
def wsL_law0 : List Cond := (wsL_law0_r1 ++ (wsL_law0_r2 ++ (wsL_law0_r3 ++ (wsL_law0_r4 ++ (wsL_law0_r5 ++ (wsL_law0_r6 ++ (wsL_law0_r7 ++ (wsL_law0_r8 ++ (wsL_law0_r9 ++ (wsL_law0_r10 ++ (wsL_law0_r11 ++ (wsL_law0_r12 ++ wsL_law0_r13)))))))))))) ++ wsX40 ++ wsX10 ++ wsX00 ++ wsX30 ++ wsX20 ++ ([] : List Cond)
def wsL_law : List Cond := wsL_law0 ++ (vx_atS RX4 50 "java/lang/IllegalArgumentException" ["java/lang/RuntimeException", "java/lang/Exception"]).filter goodWord ++ (vx_atS RX4 76 "java/lang/IllegalStateException" ["java/lang/RuntimeException", "java/lang/Exception"]).filter goodWord ++ (vx_atS RX4 226 "java/lang/IndexOutOfBoundsException" ["java/lang/RuntimeException", "java/lang/Exception"]).filter goodWord
end
section
set_option maxRecDepth 20000 in
theorem wsL_law0_r1_in : ∀ w ∈ wsL_law0_r1, w ∈ lw_tbl := fun w h => (goodIn_p wsL_law0_r1 [25, 28] (by decide +kernel) (by decide +kernel) w h).1
set_option maxRecDepth 20000 in
theorem wsL_law0_r2_in : ∀ w ∈ wsL_law0_r2, w ∈ lw_tbl := fun w h => (goodIn_p wsL_law0_r2 [35, 58, 81] (by decide +kernel) (by decide +kernel) w h).1
set_option maxRecDepth 20000 in
theorem wsL_law0_r3_in : ∀ w ∈ wsL_law0_r3, w ∈ lw_tbl := fun w h => (goodIn_p wsL_law0_r3 [86, 89, 117, 311, 314, 156] (by decide +kernel) (by decide +kernel) w h).1
set_option maxRecDepth 20000 in
theorem wsL_law0_r4_in : ∀ w ∈ wsL_law0_r4, w ∈ lw_tbl := fun w h => (goodIn_p wsL_law0_r4 [228, 318, 321, 325] (by decide +kernel) (by decide +kernel) w h).1
set_option maxRecDepth 20000 in
theorem wsL_law0_r5_in : ∀ w ∈ wsL_law0_r5, w ∈ lw_tbl := fun w h => (goodIn_p wsL_law0_r5 [330, 334, 338, 342, 347] (by decide +kernel) (by decide +kernel) w h).1
set_option maxRecDepth 20000 in
theorem wsL_law0_r6_in : ∀ w ∈ wsL_law0_r6, w ∈ lw_tbl := fun w h => (goodIn_p wsL_law0_r6 [351, 355, 359, 264, 244, 365] (by decide +kernel) (by decide +kernel) w h).1
set_option maxRecDepth 20000 in
theorem wsL_law0_r7_in : ∀ w ∈ wsL_law0_r7, w ∈ lw_tbl := fun w h => (goodIn_p wsL_law0_r7 [248, 252, 236, 240, 256] (by decide +kernel) (by decide +kernel) w h).1
set_option maxRecDepth 20000 in
theorem wsL_law0_r8_in : ∀ w ∈ wsL_law0_r8, w ∈ lw_tbl := fun w h => (goodIn_p wsL_law0_r8 [260, 268, 272, 276, 280, 387] (by decide +kernel) (by decide +kernel) w h).1
set_option maxRecDepth 20000 in
theorem wsL_law0_r9_in : ∀ w ∈ wsL_law0_r9, w ∈ lw_tbl := fun w h => (goodIn_p wsL_law0_r9 [391, 395, 399, 403, 308, 288] (by decide +kernel) (by decide +kernel) w h).1
set_option maxRecDepth 20000 in
theorem wsL_law0_r10_in : ∀ w ∈ wsL_law0_r10, w ∈ lw_tbl := fun w h => (goodIn_p wsL_law0_r10 [232, 284, 406, 409, 412, 416] (by decide +kernel) (by decide +kernel) w h).1
set_option maxRecDepth 20000 in
theorem wsL_law0_r11_in : ∀ w ∈ wsL_law0_r11, w ∈ lw_tbl := fun w h => (goodIn_p wsL_law0_r11 [420, 426, 431, 439, 442] (by decide +kernel) (by decide +kernel) w h).1
set_option maxRecDepth 20000 in
theorem wsL_law0_r12_in : ∀ w ∈ wsL_law0_r12, w ∈ lw_tbl := fun w h => (goodIn_p wsL_law0_r12 [446, 450, 454, 461, 467] (by decide +kernel) (by decide +kernel) w h).1
set_option maxRecDepth 20000 in
theorem wsL_law0_r13_in : ∀ w ∈ wsL_law0_r13, w ∈ lw_tbl := fun w h => (goodIn_p wsL_law0_r13 [471, 475, 479] (by decide +kernel) (by decide +kernel) w h).1
theorem inw_wsX40 : ∀ w ∈ wsX40, w ∈ lw_tbl := by decide +kernel
theorem inw_wsX10 : ∀ w ∈ wsX10, w ∈ lw_tbl := by decide +kernel
theorem inw_wsX00 : ∀ w ∈ wsX00, w ∈ lw_tbl := by decide +kernel
theorem inw_wsX30 : ∀ w ∈ wsX30, w ∈ lw_tbl := by decide +kernel
theorem inw_wsX20 : ∀ w ∈ wsX20, w ∈ lw_tbl := by decide +kernel
theorem wsL_law_in0 : ∀ w ∈ wsL_law0, w ∈ lw_tbl := fun w h => (List.mem_append.mp h).elim (fun h => (List.mem_append.mp h).elim (fun h => (List.mem_append.mp h).elim (fun h => (List.mem_append.mp h).elim (fun h => (List.mem_append.mp h).elim (fun h => (List.mem_append.mp h).elim (fun h => (List.mem_append.mp h).elim (wsL_law0_r1_in w) (fun h => (List.mem_append.mp h).elim (wsL_law0_r2_in w) (fun h => (List.mem_append.mp h).elim (wsL_law0_r3_in w) (fun h => (List.mem_append.mp h).elim (wsL_law0_r4_in w) (fun h => (List.mem_append.mp h).elim (wsL_law0_r5_in w) (fun h => (List.mem_append.mp h).elim (wsL_law0_r6_in w) (fun h => (List.mem_append.mp h).elim (wsL_law0_r7_in w) (fun h => (List.mem_append.mp h).elim (wsL_law0_r8_in w) (fun h => (List.mem_append.mp h).elim (wsL_law0_r9_in w) (fun h => (List.mem_append.mp h).elim (wsL_law0_r10_in w) (fun h => (List.mem_append.mp h).elim (wsL_law0_r11_in w) (fun h => (List.mem_append.mp h).elim (wsL_law0_r12_in w) (wsL_law0_r13_in w))))))))))))) (inw_wsX40 w)) (inw_wsX10 w)) (inw_wsX00 w)) (inw_wsX30 w)) (inw_wsX20 w)) (fun h => absurd h List.not_mem_nil)
theorem wsL_law_x0 : ∀ w ∈ (vx_atS RX4 50 "java/lang/IllegalArgumentException" ["java/lang/RuntimeException", "java/lang/Exception"]).filter goodWord, w ∈ lw_tbl := by decide +kernel
theorem wsL_law_x1 : ∀ w ∈ (vx_atS RX4 76 "java/lang/IllegalStateException" ["java/lang/RuntimeException", "java/lang/Exception"]).filter goodWord, w ∈ lw_tbl := by decide +kernel
theorem wsL_law_x2 : ∀ w ∈ (vx_atS RX4 226 "java/lang/IndexOutOfBoundsException" ["java/lang/RuntimeException", "java/lang/Exception"]).filter goodWord, w ∈ lw_tbl := by decide +kernel
theorem wsL_law_in : ∀ w ∈ wsL_law, w ∈ lw_tbl := fun w h => (List.mem_append.mp h).elim (fun h => (List.mem_append.mp h).elim (fun h => (List.mem_append.mp h).elim (fun h => wsL_law_in0 w h) (fun h => wsL_law_x0 w h)) (fun h => wsL_law_x1 w h)) (fun h => wsL_law_x2 w h)
theorem inlX0 : ∀ w ∈ wsX00, w ∈ wsL_law := fun _ h => List.mem_append_left _ (List.mem_append_left _ (List.mem_append_left _ (List.mem_append_left _ (List.mem_append_left _ (List.mem_append_left _ (List.mem_append_right _ h))))))
theorem inX0 : ∀ w ∈ wsX00, w ∈ lw_tbl := fun w h => wsL_law_in w (inlX0 w h)
theorem inlX1 : ∀ w ∈ wsX10, w ∈ wsL_law := fun _ h => List.mem_append_left _ (List.mem_append_left _ (List.mem_append_left _ (List.mem_append_left _ (List.mem_append_left _ (List.mem_append_left _ (List.mem_append_left _ (List.mem_append_right _ h)))))))
theorem inX1 : ∀ w ∈ wsX10, w ∈ lw_tbl := fun w h => wsL_law_in w (inlX1 w h)
theorem inlX2 : ∀ w ∈ wsX20, w ∈ wsL_law := fun _ h => List.mem_append_left _ (List.mem_append_left _ (List.mem_append_left _ (List.mem_append_left _ (List.mem_append_right _ h))))
theorem inX2 : ∀ w ∈ wsX20, w ∈ lw_tbl := fun w h => wsL_law_in w (inlX2 w h)
theorem inlX3 : ∀ w ∈ wsX30, w ∈ wsL_law := fun _ h => List.mem_append_left _ (List.mem_append_left _ (List.mem_append_left _ (List.mem_append_left _ (List.mem_append_left _ (List.mem_append_right _ h)))))
theorem inX3 : ∀ w ∈ wsX30, w ∈ lw_tbl := fun w h => wsL_law_in w (inlX3 w h)
theorem inlX4 : ∀ w ∈ wsX40, w ∈ wsL_law := fun _ h => List.mem_append_left _ (List.mem_append_left _ (List.mem_append_left _ (List.mem_append_left _ (List.mem_append_left _ (List.mem_append_left _ (List.mem_append_left _ (List.mem_append_left _ (List.mem_append_right _ h))))))))
theorem inX4 : ∀ w ∈ wsX40, w ∈ lw_tbl := fun w h => wsL_law_in w (inlX4 w h)
theorem inX5 : ∀ w ∈ wsX50, w ∈ lw_tbl := by decide +kernel
theorem inJ9 : ∀ w ∈ wsJ90, w ∈ lw_tbl := by decide +kernel
theorem inJ0 : ∀ w ∈ wsJ00, w ∈ lw_tbl := by decide +kernel
end
section
theorem dX0_init_0 : decode cX0_init 0 = .ok (.aload_n 0, 1) := by decide +kernel
theorem dX0_init_1 : decode cX0_init 1 = .ok (.invokespecial 3, 3) := by decide +kernel
theorem dX0_init_4 : decode cX0_init 4 = .ok (.aload_n 0, 1) := by decide +kernel
theorem dX0_init_5 : decode cX0_init 5 = .ok (.sipush 256, 3) := by decide +kernel
theorem dX0_init_8 : decode cX0_init 8 = .ok (.newarray .int, 2) := by decide +kernel
theorem dX0_init_10 : decode cX0_init 10 = .ok (.putfield 9, 3) := by decide +kernel
theorem dX0_init_13 : decode cX0_init 13 = .ok (.aload_n 0, 1) := by decide +kernel
theorem dX0_init_14 : decode cX0_init 14 = .ok (.sipush 256, 3) := by decide +kernel
theorem dX0_init_17 : decode cX0_init 17 = .ok (.newarray .boolean, 2) := by decide +kernel
theorem dX0_init_19 : decode cX0_init 19 = .ok (.putfield 15, 3) := by decide +kernel
theorem dX0_init_22 : decode cX0_init 22 = .ok (.return_, 1) := by decide +kernel
set_option maxRecDepth 20000 in
theorem ggX0_fillFrom_X0_sortByKeys : GoodIn wsX0_fillFrom wsX0_sortByKeys := goodIn_r _ [13, 4, 14, 15, 16, 17, 18, 19, 20, 21, 22, 23, 24, 43, 44, 45, 46, 47, 48, 39, 40, 41, 42] (by decide +kernel) (by decide +kernel)
set_option maxRecDepth 20000 in
theorem gX0_fillFrom_X0_sortByKeys : GoodIn wsX0_fillFrom (wsV RX0 26 RX0 yX0_sortByKeys wsX0_sortByKeys) := goodIn_app (goodIn_of _ (by decide +kernel)) ggX0_fillFrom_X0_sortByKeys
set_option maxRecDepth 20000 in
theorem ggX0_fillFrom_X3_hashIn : GoodIn wsX0_fillFrom wsX3_hashIn := goodIn_r _ [28, 29, 43, 44, 45, 46, 47, 48] (by decide +kernel) (by decide +kernel)
set_option maxRecDepth 20000 in
theorem gX0_fillFrom_X3_hashIn : GoodIn wsX0_fillFrom (wsV RX0 30 RX3 yX3_hashIn wsX3_hashIn) := goodIn_app (goodIn_of _ (by decide +kernel)) ggX0_fillFrom_X3_hashIn
set_option maxRecDepth 20000 in
theorem ggX0_fillFrom_X0_takeFirstFree : GoodIn wsX0_fillFrom wsX0_takeFirstFree := goodIn_r _ [33, 3, 34, 35, 36, 17, 37, 38, 43, 44, 45, 46, 47, 48, 39, 40, 41, 42] (by decide +kernel) (by decide +kernel)
set_option maxRecDepth 20000 in
theorem gX0_fillFrom_X0_takeFirstFree : GoodIn wsX0_fillFrom (wsV RX0 36 RX0 yX0_takeFirstFree wsX0_takeFirstFree) := goodIn_app (goodIn_of _ (by decide +kernel)) ggX0_fillFrom_X0_takeFirstFree
theorem dX0_fillFrom_0 : decode cX0_fillFrom 0 = .ok (.aload_n 0, 1) := by decide +kernel
theorem dX0_fillFrom_1 : decode cX0_fillFrom 1 = .ok (.iconst 0, 1) := by decide +kernel
theorem dX0_fillFrom_2 : decode cX0_fillFrom 2 = .ok (.putfield 19, 3) := by decide +kernel
theorem dX0_fillFrom_5 : decode cX0_fillFrom 5 = .ok (.aload_n 0, 1) := by decide +kernel
theorem dX0_fillFrom_6 : decode cX0_fillFrom 6 = .ok (.iconst (-1), 1) := by decide +kernel
theorem dX0_fillFrom_7 : decode cX0_fillFrom 7 = .ok (.putfield 23, 3) := by decide +kernel
theorem dX0_fillFrom_10 : decode cX0_fillFrom 10 = .ok (.iconst 0, 1) := by decide +kernel
theorem dX0_fillFrom_11 : decode cX0_fillFrom 11 = .ok (.istore_n 2, 1) := by decide +kernel
theorem dX0_fillFrom_12 : decode cX0_fillFrom 12 = .ok (.iload_n 2, 1) := by decide +kernel
theorem dX0_fillFrom_13 : decode cX0_fillFrom 13 = .ok (.sipush 256, 3) := by decide +kernel
theorem dX0_fillFrom_16 : decode cX0_fillFrom 16 = .ok (.if_icmp .ge 16, 3) := by decide +kernel
theorem dX0_fillFrom_19 : decode cX0_fillFrom 19 = .ok (.aload_n 0, 1) := by decide +kernel
theorem dX0_fillFrom_20 : decode cX0_fillFrom 20 = .ok (.getfield 15, 3) := by decide +kernel
theorem dX0_fillFrom_23 : decode cX0_fillFrom 23 = .ok (.iload_n 2, 1) := by decide +kernel
theorem dX0_fillFrom_24 : decode cX0_fillFrom 24 = .ok (.iconst 0, 1) := by decide +kernel
theorem dX0_fillFrom_25 : decode cX0_fillFrom 25 = .ok (.bastore, 1) := by decide +kernel
theorem dX0_fillFrom_26 : decode cX0_fillFrom 26 = .ok (.iinc 2 1, 3) := by decide +kernel
theorem dX0_fillFrom_29 : decode cX0_fillFrom 29 = .ok (.goto (-17), 3) := by decide +kernel
theorem dX0_fillFrom_32 : decode cX0_fillFrom 32 = .ok (.aload_n 0, 1) := by decide +kernel
theorem dX0_fillFrom_33 : decode cX0_fillFrom 33 = .ok (.aload_n 1, 1) := by decide +kernel
theorem dX0_fillFrom_34 : decode cX0_fillFrom 34 = .ok (.invokevirtual 26, 3) := by decide +kernel
theorem dX0_fillFrom_37 : decode cX0_fillFrom 37 = .ok (.istore_n 2, 1) := by decide +kernel
theorem dX0_fillFrom_38 : decode cX0_fillFrom 38 = .ok (.iconst 0, 1) := by decide +kernel
theorem dX0_fillFrom_39 : decode cX0_fillFrom 39 = .ok (.istore_n 3, 1) := by decide +kernel
theorem dX0_fillFrom_40 : decode cX0_fillFrom 40 = .ok (.iload_n 3, 1) := by decide +kernel
theorem dX0_fillFrom_41 : decode cX0_fillFrom 41 = .ok (.iload_n 2, 1) := by decide +kernel
theorem dX0_fillFrom_42 : decode cX0_fillFrom 42 = .ok (.if_icmp .ge 50, 3) := by decide +kernel
theorem dX0_fillFrom_45 : decode cX0_fillFrom 45 = .ok (.aload_n 0, 1) := by decide +kernel
theorem dX0_fillFrom_46 : decode cX0_fillFrom 46 = .ok (.aload_n 1, 1) := by decide +kernel
theorem dX0_fillFrom_47 : decode cX0_fillFrom 47 = .ok (.aload_n 1, 1) := by decide +kernel
theorem dX0_fillFrom_48 : decode cX0_fillFrom 48 = .ok (.aload_n 0, 1) := by decide +kernel
theorem dX0_fillFrom_49 : decode cX0_fillFrom 49 = .ok (.getfield 9, 3) := by decide +kernel
theorem dX0_fillFrom_52 : decode cX0_fillFrom 52 = .ok (.iload_n 3, 1) := by decide +kernel
theorem dX0_fillFrom_53 : decode cX0_fillFrom 53 = .ok (.iaload, 1) := by decide +kernel
theorem dX0_fillFrom_54 : decode cX0_fillFrom 54 = .ok (.invokevirtual 30, 3) := by decide +kernel
theorem dX0_fillFrom_57 : decode cX0_fillFrom 57 = .ok (.invokevirtual 36, 3) := by decide +kernel
theorem dX0_fillFrom_60 : decode cX0_fillFrom 60 = .ok (.istore 4, 2) := by decide +kernel
theorem dX0_fillFrom_62 : decode cX0_fillFrom 62 = .ok (.aload_n 0, 1) := by decide +kernel
theorem dX0_fillFrom_63 : decode cX0_fillFrom 63 = .ok (.dup, 1) := by decide +kernel
theorem dX0_fillFrom_64 : decode cX0_fillFrom 64 = .ok (.getfield 19, 3) := by decide +kernel
theorem dX0_fillFrom_67 : decode cX0_fillFrom 67 = .ok (.iload 4, 2) := by decide +kernel
theorem dX0_fillFrom_69 : decode cX0_fillFrom 69 = .ok (.iadd, 1) := by decide +kernel
theorem dX0_fillFrom_70 : decode cX0_fillFrom 70 = .ok (.putfield 19, 3) := by decide +kernel
theorem dX0_fillFrom_73 : decode cX0_fillFrom 73 = .ok (.aload_n 0, 1) := by decide +kernel
theorem dX0_fillFrom_74 : decode cX0_fillFrom 74 = .ok (.aload_n 0, 1) := by decide +kernel
theorem dX0_fillFrom_75 : decode cX0_fillFrom 75 = .ok (.getfield 23, 3) := by decide +kernel
theorem dX0_fillFrom_78 : decode cX0_fillFrom 78 = .ok (.iload 4, 2) := by decide +kernel
theorem dX0_fillFrom_80 : decode cX0_fillFrom 80 = .ok (.invokestatic 40, 3) := by decide +kernel
theorem dX0_fillFrom_83 : decode cX0_fillFrom 83 = .ok (.putfield 23, 3) := by decide +kernel
theorem dX0_fillFrom_86 : decode cX0_fillFrom 86 = .ok (.iinc 3 1, 3) := by decide +kernel
theorem dX0_fillFrom_89 : decode cX0_fillFrom 89 = .ok (.goto (-49), 3) := by decide +kernel
theorem dX0_fillFrom_92 : decode cX0_fillFrom 92 = .ok (.return_, 1) := by decide +kernel
set_option maxRecDepth 20000 in
theorem ggX0_sortByKeys_X3_isEmptyIn : GoodIn wsX0_sortByKeys wsX3_isEmptyIn := goodIn_r _ [6, 7, 13, 14, 15, 16, 17, 18] (by decide +kernel) (by decide +kernel)
set_option maxRecDepth 20000 in
theorem gX0_sortByKeys_X3_isEmptyIn : GoodIn wsX0_sortByKeys (wsV RX0 49 RX3 yX3_isEmptyIn wsX3_isEmptyIn) := goodIn_app (goodIn_of _ (by decide +kernel)) ggX0_sortByKeys_X3_isEmptyIn
set_option maxRecDepth 20000 in
theorem ggX0_sortByKeys_X3_keyIn : GoodIn wsX0_sortByKeys wsX3_keyIn := goodIn_r _ [11, 12, 13, 14, 15, 16, 17, 18] (by decide +kernel) (by decide +kernel)
set_option maxRecDepth 20000 in
theorem gX0_sortByKeys_X3_keyIn : GoodIn wsX0_sortByKeys (wsV RX0 53 RX3 yX3_keyIn wsX3_keyIn) := goodIn_app (goodIn_of _ (by decide +kernel)) ggX0_sortByKeys_X3_keyIn
theorem dX0_sortByKeys_0 : decode cX0_sortByKeys 0 = .ok (.iconst 0, 1) := by decide +kernel
theorem dX0_sortByKeys_1 : decode cX0_sortByKeys 1 = .ok (.istore_n 2, 1) := by decide +kernel
theorem dX0_sortByKeys_2 : decode cX0_sortByKeys 2 = .ok (.iconst 0, 1) := by decide +kernel
theorem dX0_sortByKeys_3 : decode cX0_sortByKeys 3 = .ok (.istore_n 3, 1) := by decide +kernel
theorem dX0_sortByKeys_4 : decode cX0_sortByKeys 4 = .ok (.iload_n 3, 1) := by decide +kernel
theorem dX0_sortByKeys_5 : decode cX0_sortByKeys 5 = .ok (.aload_n 1, 1) := by decide +kernel
theorem dX0_sortByKeys_6 : decode cX0_sortByKeys 6 = .ok (.getfield 46, 3) := by decide +kernel
theorem dX0_sortByKeys_9 : decode cX0_sortByKeys 9 = .ok (.if_icmp .ge 79, 3) := by decide +kernel
theorem dX0_sortByKeys_12 : decode cX0_sortByKeys 12 = .ok (.aload_n 1, 1) := by decide +kernel
theorem dX0_sortByKeys_13 : decode cX0_sortByKeys 13 = .ok (.iload_n 3, 1) := by decide +kernel
theorem dX0_sortByKeys_14 : decode cX0_sortByKeys 14 = .ok (.invokevirtual 49, 3) := by decide +kernel
theorem dX0_sortByKeys_17 : decode cX0_sortByKeys 17 = .ok (.ifCond .ne 65, 3) := by decide +kernel
theorem dX0_sortByKeys_20 : decode cX0_sortByKeys 20 = .ok (.iload_n 2, 1) := by decide +kernel
theorem dX0_sortByKeys_21 : decode cX0_sortByKeys 21 = .ok (.istore 4, 2) := by decide +kernel
theorem dX0_sortByKeys_23 : decode cX0_sortByKeys 23 = .ok (.iload 4, 2) := by decide +kernel
theorem dX0_sortByKeys_25 : decode cX0_sortByKeys 25 = .ok (.ifCond .le 46, 3) := by decide +kernel
theorem dX0_sortByKeys_28 : decode cX0_sortByKeys 28 = .ok (.aload_n 1, 1) := by decide +kernel
theorem dX0_sortByKeys_29 : decode cX0_sortByKeys 29 = .ok (.aload_n 0, 1) := by decide +kernel
theorem dX0_sortByKeys_30 : decode cX0_sortByKeys 30 = .ok (.getfield 9, 3) := by decide +kernel
theorem dX0_sortByKeys_33 : decode cX0_sortByKeys 33 = .ok (.iload 4, 2) := by decide +kernel
theorem dX0_sortByKeys_35 : decode cX0_sortByKeys 35 = .ok (.iconst 1, 1) := by decide +kernel
theorem dX0_sortByKeys_36 : decode cX0_sortByKeys 36 = .ok (.isub, 1) := by decide +kernel
theorem dX0_sortByKeys_37 : decode cX0_sortByKeys 37 = .ok (.iaload, 1) := by decide +kernel
theorem dX0_sortByKeys_38 : decode cX0_sortByKeys 38 = .ok (.invokevirtual 53, 3) := by decide +kernel
theorem dX0_sortByKeys_41 : decode cX0_sortByKeys 41 = .ok (.aload_n 1, 1) := by decide +kernel
theorem dX0_sortByKeys_42 : decode cX0_sortByKeys 42 = .ok (.iload_n 3, 1) := by decide +kernel
theorem dX0_sortByKeys_43 : decode cX0_sortByKeys 43 = .ok (.invokevirtual 53, 3) := by decide +kernel
theorem dX0_sortByKeys_46 : decode cX0_sortByKeys 46 = .ok (.if_icmp .le 25, 3) := by decide +kernel
theorem dX0_sortByKeys_49 : decode cX0_sortByKeys 49 = .ok (.aload_n 0, 1) := by decide +kernel
theorem dX0_sortByKeys_50 : decode cX0_sortByKeys 50 = .ok (.getfield 9, 3) := by decide +kernel
theorem dX0_sortByKeys_53 : decode cX0_sortByKeys 53 = .ok (.iload 4, 2) := by decide +kernel
theorem dX0_sortByKeys_55 : decode cX0_sortByKeys 55 = .ok (.aload_n 0, 1) := by decide +kernel
theorem dX0_sortByKeys_56 : decode cX0_sortByKeys 56 = .ok (.getfield 9, 3) := by decide +kernel
theorem dX0_sortByKeys_59 : decode cX0_sortByKeys 59 = .ok (.iload 4, 2) := by decide +kernel
theorem dX0_sortByKeys_61 : decode cX0_sortByKeys 61 = .ok (.iconst 1, 1) := by decide +kernel
theorem dX0_sortByKeys_62 : decode cX0_sortByKeys 62 = .ok (.isub, 1) := by decide +kernel
theorem dX0_sortByKeys_63 : decode cX0_sortByKeys 63 = .ok (.iaload, 1) := by decide +kernel
theorem dX0_sortByKeys_64 : decode cX0_sortByKeys 64 = .ok (.iastore, 1) := by decide +kernel
theorem dX0_sortByKeys_65 : decode cX0_sortByKeys 65 = .ok (.iinc 4 (-1), 3) := by decide +kernel
theorem dX0_sortByKeys_68 : decode cX0_sortByKeys 68 = .ok (.goto (-45), 3) := by decide +kernel
theorem dX0_sortByKeys_71 : decode cX0_sortByKeys 71 = .ok (.aload_n 0, 1) := by decide +kernel
theorem dX0_sortByKeys_72 : decode cX0_sortByKeys 72 = .ok (.getfield 9, 3) := by decide +kernel
theorem dX0_sortByKeys_75 : decode cX0_sortByKeys 75 = .ok (.iload 4, 2) := by decide +kernel
theorem dX0_sortByKeys_77 : decode cX0_sortByKeys 77 = .ok (.iload_n 3, 1) := by decide +kernel
theorem dX0_sortByKeys_78 : decode cX0_sortByKeys 78 = .ok (.iastore, 1) := by decide +kernel
theorem dX0_sortByKeys_79 : decode cX0_sortByKeys 79 = .ok (.iinc 2 1, 3) := by decide +kernel
theorem dX0_sortByKeys_82 : decode cX0_sortByKeys 82 = .ok (.iinc 3 1, 3) := by decide +kernel
theorem dX0_sortByKeys_85 : decode cX0_sortByKeys 85 = .ok (.goto (-81), 3) := by decide +kernel
theorem dX0_sortByKeys_88 : decode cX0_sortByKeys 88 = .ok (.iload_n 2, 1) := by decide +kernel
theorem dX0_sortByKeys_89 : decode cX0_sortByKeys 89 = .ok (.ireturn, 1) := by decide +kernel
set_option maxRecDepth 20000 in
theorem ggX0_takeFirstFree_X3_around : GoodIn wsX0_takeFirstFree wsX3_around := goodIn_r _ [6, 7, 8, 9, 10, 11, 12, 13] (by decide +kernel) (by decide +kernel)
set_option maxRecDepth 20000 in
theorem gX0_takeFirstFree_X3_around : GoodIn wsX0_takeFirstFree (wsV RX0 56 RX3 yX3_around wsX3_around) := goodIn_app (goodIn_of _ (by decide +kernel)) ggX0_takeFirstFree_X3_around
theorem dX0_takeFirstFree_0 : decode cX0_takeFirstFree 0 = .ok (.iconst 0, 1) := by decide +kernel
theorem dX0_takeFirstFree_1 : decode cX0_takeFirstFree 1 = .ok (.istore_n 3, 1) := by decide +kernel
theorem dX0_takeFirstFree_2 : decode cX0_takeFirstFree 2 = .ok (.iload_n 3, 1) := by decide +kernel
theorem dX0_takeFirstFree_3 : decode cX0_takeFirstFree 3 = .ok (.aload_n 1, 1) := by decide +kernel
theorem dX0_takeFirstFree_4 : decode cX0_takeFirstFree 4 = .ok (.getfield 46, 3) := by decide +kernel
theorem dX0_takeFirstFree_7 : decode cX0_takeFirstFree 7 = .ok (.if_icmp .ge 24, 3) := by decide +kernel
theorem dX0_takeFirstFree_10 : decode cX0_takeFirstFree 10 = .ok (.aload_n 0, 1) := by decide +kernel
theorem dX0_takeFirstFree_11 : decode cX0_takeFirstFree 11 = .ok (.getfield 15, 3) := by decide +kernel
theorem dX0_takeFirstFree_14 : decode cX0_takeFirstFree 14 = .ok (.aload_n 1, 1) := by decide +kernel
theorem dX0_takeFirstFree_15 : decode cX0_takeFirstFree 15 = .ok (.iload_n 2, 1) := by decide +kernel
theorem dX0_takeFirstFree_16 : decode cX0_takeFirstFree 16 = .ok (.iload_n 3, 1) := by decide +kernel
theorem dX0_takeFirstFree_17 : decode cX0_takeFirstFree 17 = .ok (.iadd, 1) := by decide +kernel
theorem dX0_takeFirstFree_18 : decode cX0_takeFirstFree 18 = .ok (.invokevirtual 56, 3) := by decide +kernel
theorem dX0_takeFirstFree_21 : decode cX0_takeFirstFree 21 = .ok (.baload, 1) := by decide +kernel
theorem dX0_takeFirstFree_22 : decode cX0_takeFirstFree 22 = .ok (.ifCond .eq 9, 3) := by decide +kernel
theorem dX0_takeFirstFree_25 : decode cX0_takeFirstFree 25 = .ok (.iinc 3 1, 3) := by decide +kernel
theorem dX0_takeFirstFree_28 : decode cX0_takeFirstFree 28 = .ok (.goto (-26), 3) := by decide +kernel
theorem dX0_takeFirstFree_31 : decode cX0_takeFirstFree 31 = .ok (.aload_n 0, 1) := by decide +kernel
theorem dX0_takeFirstFree_32 : decode cX0_takeFirstFree 32 = .ok (.getfield 15, 3) := by decide +kernel
theorem dX0_takeFirstFree_35 : decode cX0_takeFirstFree 35 = .ok (.aload_n 1, 1) := by decide +kernel
theorem dX0_takeFirstFree_36 : decode cX0_takeFirstFree 36 = .ok (.iload_n 2, 1) := by decide +kernel
theorem dX0_takeFirstFree_37 : decode cX0_takeFirstFree 37 = .ok (.iload_n 3, 1) := by decide +kernel
theorem dX0_takeFirstFree_38 : decode cX0_takeFirstFree 38 = .ok (.iadd, 1) := by decide +kernel
theorem dX0_takeFirstFree_39 : decode cX0_takeFirstFree 39 = .ok (.invokevirtual 56, 3) := by decide +kernel
theorem dX0_takeFirstFree_42 : decode cX0_takeFirstFree 42 = .ok (.iconst 1, 1) := by decide +kernel
theorem dX0_takeFirstFree_43 : decode cX0_takeFirstFree 43 = .ok (.bastore, 1) := by decide +kernel
theorem dX0_takeFirstFree_44 : decode cX0_takeFirstFree 44 = .ok (.iload_n 3, 1) := by decide +kernel
theorem dX0_takeFirstFree_45 : decode cX0_takeFirstFree 45 = .ok (.ireturn, 1) := by decide +kernel
theorem dX1_init_0 : decode cX1_init 0 = .ok (.aload_n 0, 1) := by decide +kernel
theorem dX1_init_1 : decode cX1_init 1 = .ok (.invokespecial 3, 3) := by decide +kernel
theorem dX1_init_4 : decode cX1_init 4 = .ok (.return_, 1) := by decide +kernel
theorem dX1_begin_0 : decode cX1_begin 0 = .ok (.aload_n 0, 1) := by decide +kernel
theorem dX1_begin_1 : decode cX1_begin 1 = .ok (.aconst_null, 1) := by decide +kernel
theorem dX1_begin_2 : decode cX1_begin 2 = .ok (.putfield 9, 3) := by decide +kernel
theorem dX1_begin_5 : decode cX1_begin 5 = .ok (.aload_n 0, 1) := by decide +kernel
theorem dX1_begin_6 : decode cX1_begin 6 = .ok (.iconst 0, 1) := by decide +kernel
theorem dX1_begin_7 : decode cX1_begin 7 = .ok (.putfield 15, 3) := by decide +kernel
theorem dX1_begin_10 : decode cX1_begin 10 = .ok (.aload_n 0, 1) := by decide +kernel
theorem dX1_begin_11 : decode cX1_begin 11 = .ok (.iconst 0, 1) := by decide +kernel
theorem dX1_begin_12 : decode cX1_begin 12 = .ok (.putfield 19, 3) := by decide +kernel
theorem dX1_begin_15 : decode cX1_begin 15 = .ok (.return_, 1) := by decide +kernel
theorem dX1_hasFound_0 : decode cX1_hasFound 0 = .ok (.aload_n 0, 1) := by decide +kernel
theorem dX1_hasFound_1 : decode cX1_hasFound 1 = .ok (.getfield 9, 3) := by decide +kernel
theorem dX1_hasFound_4 : decode cX1_hasFound 4 = .ok (.ifnull 7, 3) := by decide +kernel
theorem dX1_hasFound_7 : decode cX1_hasFound 7 = .ok (.iconst 1, 1) := by decide +kernel
theorem dX1_hasFound_8 : decode cX1_hasFound 8 = .ok (.goto 4, 3) := by decide +kernel
theorem dX1_hasFound_11 : decode cX1_hasFound 11 = .ok (.iconst 0, 1) := by decide +kernel
theorem dX1_hasFound_12 : decode cX1_hasFound 12 = .ok (.ireturn, 1) := by decide +kernel
set_option maxRecDepth 20000 in
theorem ggX1_lookIn_X1_lookAtGroup : GoodIn wsX1_lookIn wsX1_lookAtGroup := goodIn_r _ [6, 7, 8, 9, 10, 11, 12, 5, 13, 14, 15, 16, 17, 18, 19, 20, 21, 22, 23, 24, 25, 26, 27, 28, 29, 30, 31, 32, 33, 40, 41, 42, 43, 34, 35, 36, 37, 38, 39] (by decide +kernel) (by decide +kernel)
set_option maxRecDepth 20000 in
theorem gX1_lookIn_X1_lookAtGroup : GoodIn wsX1_lookIn (wsV RX1 27 RX1 yX1_lookAtGroup wsX1_lookAtGroup) := goodIn_app (goodIn_of _ (by decide +kernel)) ggX1_lookIn_X1_lookAtGroup
set_option maxRecDepth 20000 in
theorem ggX1_lookIn_X1_hasFound : GoodIn wsX1_lookIn wsX1_hasFound := goodIn_r _ [13, 8, 40, 41, 42, 43] (by decide +kernel) (by decide +kernel)
set_option maxRecDepth 20000 in
theorem gX1_lookIn_X1_hasFound : GoodIn wsX1_lookIn (wsV RX1 31 RX1 yX1_hasFound wsX1_hasFound) := goodIn_app (goodIn_of _ (by decide +kernel)) ggX1_lookIn_X1_hasFound
theorem dX1_lookIn_0 : decode cX1_lookIn 0 = .ok (.iconst 0, 1) := by decide +kernel
theorem dX1_lookIn_1 : decode cX1_lookIn 1 = .ok (.istore 4, 2) := by decide +kernel
theorem dX1_lookIn_3 : decode cX1_lookIn 3 = .ok (.iconst 0, 1) := by decide +kernel
theorem dX1_lookIn_4 : decode cX1_lookIn 4 = .ok (.istore 5, 2) := by decide +kernel
theorem dX1_lookIn_6 : decode cX1_lookIn 6 = .ok (.iload 5, 2) := by decide +kernel
theorem dX1_lookIn_8 : decode cX1_lookIn 8 = .ok (.aload_n 1, 1) := by decide +kernel
theorem dX1_lookIn_9 : decode cX1_lookIn 9 = .ok (.getfield 22, 3) := by decide +kernel
theorem dX1_lookIn_12 : decode cX1_lookIn 12 = .ok (.if_icmp .ge 59, 3) := by decide +kernel
theorem dX1_lookIn_15 : decode cX1_lookIn 15 = .ok (.iload 4, 2) := by decide +kernel
theorem dX1_lookIn_17 : decode cX1_lookIn 17 = .ok (.ifCond .ne 54, 3) := by decide +kernel
theorem dX1_lookIn_20 : decode cX1_lookIn 20 = .ok (.aload_n 0, 1) := by decide +kernel
theorem dX1_lookIn_21 : decode cX1_lookIn 21 = .ok (.dup, 1) := by decide +kernel
theorem dX1_lookIn_22 : decode cX1_lookIn 22 = .ok (.getfield 15, 3) := by decide +kernel
theorem dX1_lookIn_25 : decode cX1_lookIn 25 = .ok (.iconst 1, 1) := by decide +kernel
theorem dX1_lookIn_26 : decode cX1_lookIn 26 = .ok (.iadd, 1) := by decide +kernel
theorem dX1_lookIn_27 : decode cX1_lookIn 27 = .ok (.putfield 15, 3) := by decide +kernel
theorem dX1_lookIn_30 : decode cX1_lookIn 30 = .ok (.aload_n 0, 1) := by decide +kernel
theorem dX1_lookIn_31 : decode cX1_lookIn 31 = .ok (.aload_n 1, 1) := by decide +kernel
theorem dX1_lookIn_32 : decode cX1_lookIn 32 = .ok (.iload_n 3, 1) := by decide +kernel
theorem dX1_lookIn_33 : decode cX1_lookIn 33 = .ok (.iload 5, 2) := by decide +kernel
theorem dX1_lookIn_35 : decode cX1_lookIn 35 = .ok (.iadd, 1) := by decide +kernel
theorem dX1_lookIn_36 : decode cX1_lookIn 36 = .ok (.iload_n 2, 1) := by decide +kernel
theorem dX1_lookIn_37 : decode cX1_lookIn 37 = .ok (.iload_n 3, 1) := by decide +kernel
theorem dX1_lookIn_38 : decode cX1_lookIn 38 = .ok (.bipush 25, 2) := by decide +kernel
theorem dX1_lookIn_40 : decode cX1_lookIn 40 = .ok (.iushr, 1) := by decide +kernel
theorem dX1_lookIn_41 : decode cX1_lookIn 41 = .ok (.invokevirtual 27, 3) := by decide +kernel
theorem dX1_lookIn_44 : decode cX1_lookIn 44 = .ok (.istore 6, 2) := by decide +kernel
theorem dX1_lookIn_46 : decode cX1_lookIn 46 = .ok (.iload 6, 2) := by decide +kernel
theorem dX1_lookIn_48 : decode cX1_lookIn 48 = .ok (.ifCond .ne 10, 3) := by decide +kernel
theorem dX1_lookIn_51 : decode cX1_lookIn 51 = .ok (.aload_n 0, 1) := by decide +kernel
theorem dX1_lookIn_52 : decode cX1_lookIn 52 = .ok (.invokevirtual 31, 3) := by decide +kernel
theorem dX1_lookIn_55 : decode cX1_lookIn 55 = .ok (.ifCond .eq 7, 3) := by decide +kernel
theorem dX1_lookIn_58 : decode cX1_lookIn 58 = .ok (.iconst 1, 1) := by decide +kernel
theorem dX1_lookIn_59 : decode cX1_lookIn 59 = .ok (.goto 4, 3) := by decide +kernel
theorem dX1_lookIn_62 : decode cX1_lookIn 62 = .ok (.iconst 0, 1) := by decide +kernel
theorem dX1_lookIn_63 : decode cX1_lookIn 63 = .ok (.istore 4, 2) := by decide +kernel
theorem dX1_lookIn_65 : decode cX1_lookIn 65 = .ok (.iinc 5 8, 3) := by decide +kernel
theorem dX1_lookIn_68 : decode cX1_lookIn 68 = .ok (.goto (-62), 3) := by decide +kernel
theorem dX1_lookIn_71 : decode cX1_lookIn 71 = .ok (.return_, 1) := by decide +kernel
set_option maxRecDepth 20000 in
theorem ggX1_lookAtGroup_X1_hasFound : GoodIn wsX1_lookAtGroup wsX1_hasFound := goodIn_r _ [8, 2, 29, 30, 31, 32] (by decide +kernel) (by decide +kernel)
set_option maxRecDepth 20000 in
theorem gX1_lookAtGroup_X1_hasFound : GoodIn wsX1_lookAtGroup (wsV RX1 31 RX1 yX1_hasFound wsX1_hasFound) := goodIn_app (goodIn_of _ (by decide +kernel)) ggX1_lookAtGroup_X1_hasFound
set_option maxRecDepth 20000 in
theorem ggX1_lookAtGroup_X3_around : GoodIn wsX1_lookAtGroup wsX3_around := goodIn_r _ [13, 14, 33, 34, 35, 36, 37, 38] (by decide +kernel) (by decide +kernel)
set_option maxRecDepth 20000 in
theorem gX1_lookAtGroup_X3_around : GoodIn wsX1_lookAtGroup (wsV RX1 35 RX3 yX3_around wsX3_around) := goodIn_app (goodIn_of _ (by decide +kernel)) ggX1_lookAtGroup_X3_around
set_option maxRecDepth 20000 in
theorem ggX1_lookAtGroup_X3_isEmptyIn : GoodIn wsX1_lookAtGroup wsX3_isEmptyIn := goodIn_r _ [18, 19, 33, 34, 35, 36, 37, 38] (by decide +kernel) (by decide +kernel)
set_option maxRecDepth 20000 in
theorem gX1_lookAtGroup_X3_isEmptyIn : GoodIn wsX1_lookAtGroup (wsV RX1 39 RX3 yX3_isEmptyIn wsX3_isEmptyIn) := goodIn_app (goodIn_of _ (by decide +kernel)) ggX1_lookAtGroup_X3_isEmptyIn
set_option maxRecDepth 20000 in
theorem ggX1_lookAtGroup_X3_controlIn : GoodIn wsX1_lookAtGroup wsX3_controlIn := goodIn_r _ [23, 19, 33, 34, 35, 36, 37, 38] (by decide +kernel) (by decide +kernel)
set_option maxRecDepth 20000 in
theorem gX1_lookAtGroup_X3_controlIn : GoodIn wsX1_lookAtGroup (wsV RX1 43 RX3 yX3_controlIn wsX3_controlIn) := goodIn_app (goodIn_of _ (by decide +kernel)) ggX1_lookAtGroup_X3_controlIn
set_option maxRecDepth 20000 in
theorem ggX1_lookAtGroup_X3_keyIn : GoodIn wsX1_lookAtGroup wsX3_keyIn := goodIn_r _ [27, 28, 33, 34, 35, 36, 37, 38] (by decide +kernel) (by decide +kernel)
set_option maxRecDepth 20000 in
theorem gX1_lookAtGroup_X3_keyIn : GoodIn wsX1_lookAtGroup (wsV RX1 47 RX3 yX3_keyIn wsX3_keyIn) := goodIn_app (goodIn_of _ (by decide +kernel)) ggX1_lookAtGroup_X3_keyIn
theorem dX1_lookAtGroup_0 : decode cX1_lookAtGroup 0 = .ok (.iconst 0, 1) := by decide +kernel
theorem dX1_lookAtGroup_1 : decode cX1_lookAtGroup 1 = .ok (.istore 5, 2) := by decide +kernel
theorem dX1_lookAtGroup_3 : decode cX1_lookAtGroup 3 = .ok (.iconst 0, 1) := by decide +kernel
theorem dX1_lookAtGroup_4 : decode cX1_lookAtGroup 4 = .ok (.istore 6, 2) := by decide +kernel
theorem dX1_lookAtGroup_6 : decode cX1_lookAtGroup 6 = .ok (.iload 6, 2) := by decide +kernel
theorem dX1_lookAtGroup_8 : decode cX1_lookAtGroup 8 = .ok (.bipush 8, 2) := by decide +kernel
theorem dX1_lookAtGroup_10 : decode cX1_lookAtGroup 10 = .ok (.if_icmp .ge 89, 3) := by decide +kernel
theorem dX1_lookAtGroup_13 : decode cX1_lookAtGroup 13 = .ok (.aload_n 0, 1) := by decide +kernel
theorem dX1_lookAtGroup_14 : decode cX1_lookAtGroup 14 = .ok (.invokevirtual 31, 3) := by decide +kernel
theorem dX1_lookAtGroup_17 : decode cX1_lookAtGroup 17 = .ok (.ifCond .ne 82, 3) := by decide +kernel
theorem dX1_lookAtGroup_20 : decode cX1_lookAtGroup 20 = .ok (.aload_n 1, 1) := by decide +kernel
theorem dX1_lookAtGroup_21 : decode cX1_lookAtGroup 21 = .ok (.iload_n 2, 1) := by decide +kernel
theorem dX1_lookAtGroup_22 : decode cX1_lookAtGroup 22 = .ok (.iload 6, 2) := by decide +kernel
theorem dX1_lookAtGroup_24 : decode cX1_lookAtGroup 24 = .ok (.iadd, 1) := by decide +kernel
theorem dX1_lookAtGroup_25 : decode cX1_lookAtGroup 25 = .ok (.invokevirtual 35, 3) := by decide +kernel
theorem dX1_lookAtGroup_28 : decode cX1_lookAtGroup 28 = .ok (.istore 7, 2) := by decide +kernel
theorem dX1_lookAtGroup_30 : decode cX1_lookAtGroup 30 = .ok (.iload 5, 2) := by decide +kernel
theorem dX1_lookAtGroup_32 : decode cX1_lookAtGroup 32 = .ok (.ifCond .ne 12, 3) := by decide +kernel
theorem dX1_lookAtGroup_35 : decode cX1_lookAtGroup 35 = .ok (.aload_n 1, 1) := by decide +kernel
theorem dX1_lookAtGroup_36 : decode cX1_lookAtGroup 36 = .ok (.iload 7, 2) := by decide +kernel
theorem dX1_lookAtGroup_38 : decode cX1_lookAtGroup 38 = .ok (.invokevirtual 39, 3) := by decide +kernel
theorem dX1_lookAtGroup_41 : decode cX1_lookAtGroup 41 = .ok (.ifCond .eq 7, 3) := by decide +kernel
theorem dX1_lookAtGroup_44 : decode cX1_lookAtGroup 44 = .ok (.iconst 1, 1) := by decide +kernel
theorem dX1_lookAtGroup_45 : decode cX1_lookAtGroup 45 = .ok (.goto 4, 3) := by decide +kernel
theorem dX1_lookAtGroup_48 : decode cX1_lookAtGroup 48 = .ok (.iconst 0, 1) := by decide +kernel
theorem dX1_lookAtGroup_49 : decode cX1_lookAtGroup 49 = .ok (.istore 5, 2) := by decide +kernel
theorem dX1_lookAtGroup_51 : decode cX1_lookAtGroup 51 = .ok (.aload_n 1, 1) := by decide +kernel
theorem dX1_lookAtGroup_52 : decode cX1_lookAtGroup 52 = .ok (.iload 7, 2) := by decide +kernel
theorem dX1_lookAtGroup_54 : decode cX1_lookAtGroup 54 = .ok (.invokevirtual 43, 3) := by decide +kernel
theorem dX1_lookAtGroup_57 : decode cX1_lookAtGroup 57 = .ok (.iload 4, 2) := by decide +kernel
theorem dX1_lookAtGroup_59 : decode cX1_lookAtGroup 59 = .ok (.if_icmp .ne 34, 3) := by decide +kernel
theorem dX1_lookAtGroup_62 : decode cX1_lookAtGroup 62 = .ok (.aload_n 0, 1) := by decide +kernel
theorem dX1_lookAtGroup_63 : decode cX1_lookAtGroup 63 = .ok (.dup, 1) := by decide +kernel
theorem dX1_lookAtGroup_64 : decode cX1_lookAtGroup 64 = .ok (.getfield 19, 3) := by decide +kernel
theorem dX1_lookAtGroup_67 : decode cX1_lookAtGroup 67 = .ok (.iconst 1, 1) := by decide +kernel
theorem dX1_lookAtGroup_68 : decode cX1_lookAtGroup 68 = .ok (.iadd, 1) := by decide +kernel
theorem dX1_lookAtGroup_69 : decode cX1_lookAtGroup 69 = .ok (.putfield 19, 3) := by decide +kernel
theorem dX1_lookAtGroup_72 : decode cX1_lookAtGroup 72 = .ok (.aload_n 1, 1) := by decide +kernel
theorem dX1_lookAtGroup_73 : decode cX1_lookAtGroup 73 = .ok (.iload 7, 2) := by decide +kernel
theorem dX1_lookAtGroup_75 : decode cX1_lookAtGroup 75 = .ok (.invokevirtual 47, 3) := by decide +kernel
theorem dX1_lookAtGroup_78 : decode cX1_lookAtGroup 78 = .ok (.iload_n 3, 1) := by decide +kernel
theorem dX1_lookAtGroup_79 : decode cX1_lookAtGroup 79 = .ok (.if_icmp .ne 14, 3) := by decide +kernel
theorem dX1_lookAtGroup_82 : decode cX1_lookAtGroup 82 = .ok (.aload_n 0, 1) := by decide +kernel
theorem dX1_lookAtGroup_83 : decode cX1_lookAtGroup 83 = .ok (.aload_n 1, 1) := by decide +kernel
theorem dX1_lookAtGroup_84 : decode cX1_lookAtGroup 84 = .ok (.putfield 9, 3) := by decide +kernel
theorem dX1_lookAtGroup_87 : decode cX1_lookAtGroup 87 = .ok (.aload_n 0, 1) := by decide +kernel
theorem dX1_lookAtGroup_88 : decode cX1_lookAtGroup 88 = .ok (.iload 7, 2) := by decide +kernel
theorem dX1_lookAtGroup_90 : decode cX1_lookAtGroup 90 = .ok (.putfield 50, 3) := by decide +kernel
theorem dX1_lookAtGroup_93 : decode cX1_lookAtGroup 93 = .ok (.iinc 6 1, 3) := by decide +kernel
theorem dX1_lookAtGroup_96 : decode cX1_lookAtGroup 96 = .ok (.goto (-90), 3) := by decide +kernel
theorem dX1_lookAtGroup_99 : decode cX1_lookAtGroup 99 = .ok (.iload 5, 2) := by decide +kernel
theorem dX1_lookAtGroup_101 : decode cX1_lookAtGroup 101 = .ok (.ireturn, 1) := by decide +kernel
theorem dX2_init_0 : decode cX2_init 0 = .ok (.aload_n 0, 1) := by decide +kernel
theorem dX2_init_1 : decode cX2_init 1 = .ok (.invokespecial 3, 3) := by decide +kernel
theorem dX2_init_4 : decode cX2_init 4 = .ok (.return_, 1) := by decide +kernel
theorem dX2_end_0 : decode cX2_end 0 = .ok (.aload_n 0, 1) := by decide +kernel
theorem dX2_end_1 : decode cX2_end 1 = .ok (.iconst 0, 1) := by decide +kernel
theorem dX2_end_2 : decode cX2_end 2 = .ok (.putfield 9, 3) := by decide +kernel
theorem dX2_end_5 : decode cX2_end 5 = .ok (.return_, 1) := by decide +kernel
set_option maxRecDepth 20000 in
theorem ggX3_init_X3_emptyWith : GoodIn wsX3_init wsX3_emptyWith := goodIn_r _ [14, 15, 16, 17, 18, 19, 20, 5, 21, 22, 23, 24, 25, 26] (by decide +kernel) (by decide +kernel)
set_option maxRecDepth 20000 in
theorem gX3_init_X3_emptyWith : GoodIn wsX3_init (wsV RX3 25 RX3 yX3_emptyWith wsX3_emptyWith) := goodIn_app (goodIn_of _ (by decide +kernel)) ggX3_init_X3_emptyWith
theorem dX3_init_0 : decode cX3_init 0 = .ok (.aload_n 0, 1) := by decide +kernel
theorem dX3_init_1 : decode cX3_init 1 = .ok (.invokespecial 3, 3) := by decide +kernel
theorem dX3_init_4 : decode cX3_init 4 = .ok (.aload_n 0, 1) := by decide +kernel
theorem dX3_init_5 : decode cX3_init 5 = .ok (.sipush 256, 3) := by decide +kernel
theorem dX3_init_8 : decode cX3_init 8 = .ok (.newarray .byte, 2) := by decide +kernel
theorem dX3_init_10 : decode cX3_init 10 = .ok (.putfield 9, 3) := by decide +kernel
theorem dX3_init_13 : decode cX3_init 13 = .ok (.aload_n 0, 1) := by decide +kernel
theorem dX3_init_14 : decode cX3_init 14 = .ok (.sipush 256, 3) := by decide +kernel
theorem dX3_init_17 : decode cX3_init 17 = .ok (.newarray .int, 2) := by decide +kernel
theorem dX3_init_19 : decode cX3_init 19 = .ok (.putfield 15, 3) := by decide +kernel
theorem dX3_init_22 : decode cX3_init 22 = .ok (.aload_n 0, 1) := by decide +kernel
theorem dX3_init_23 : decode cX3_init 23 = .ok (.sipush 256, 3) := by decide +kernel
theorem dX3_init_26 : decode cX3_init 26 = .ok (.newarray .int, 2) := by decide +kernel
theorem dX3_init_28 : decode cX3_init 28 = .ok (.putfield 19, 3) := by decide +kernel
theorem dX3_init_31 : decode cX3_init 31 = .ok (.aload_n 0, 1) := by decide +kernel
theorem dX3_init_32 : decode cX3_init 32 = .ok (.sipush 256, 3) := by decide +kernel
theorem dX3_init_35 : decode cX3_init 35 = .ok (.newarray .int, 2) := by decide +kernel
theorem dX3_init_37 : decode cX3_init 37 = .ok (.putfield 22, 3) := by decide +kernel
theorem dX3_init_40 : decode cX3_init 40 = .ok (.aload_n 0, 1) := by decide +kernel
theorem dX3_init_41 : decode cX3_init 41 = .ok (.iload_n 1, 1) := by decide +kernel
theorem dX3_init_42 : decode cX3_init 42 = .ok (.invokevirtual 25, 3) := by decide +kernel
theorem dX3_init_45 : decode cX3_init 45 = .ok (.return_, 1) := by decide +kernel
theorem dX3_emptyWith_0 : decode cX3_emptyWith 0 = .ok (.aload_n 0, 1) := by decide +kernel
theorem dX3_emptyWith_1 : decode cX3_emptyWith 1 = .ok (.iload_n 1, 1) := by decide +kernel
theorem dX3_emptyWith_2 : decode cX3_emptyWith 2 = .ok (.sipush 256, 3) := by decide +kernel
theorem dX3_emptyWith_5 : decode cX3_emptyWith 5 = .ok (.invokestatic 29, 3) := by decide +kernel
theorem dX3_emptyWith_8 : decode cX3_emptyWith 8 = .ok (.putfield 35, 3) := by decide +kernel
theorem dX3_emptyWith_11 : decode cX3_emptyWith 11 = .ok (.aload_n 0, 1) := by decide +kernel
theorem dX3_emptyWith_12 : decode cX3_emptyWith 12 = .ok (.iconst 0, 1) := by decide +kernel
theorem dX3_emptyWith_13 : decode cX3_emptyWith 13 = .ok (.putfield 39, 3) := by decide +kernel
theorem dX3_emptyWith_16 : decode cX3_emptyWith 16 = .ok (.iconst 0, 1) := by decide +kernel
theorem dX3_emptyWith_17 : decode cX3_emptyWith 17 = .ok (.istore_n 2, 1) := by decide +kernel
theorem dX3_emptyWith_18 : decode cX3_emptyWith 18 = .ok (.iload_n 2, 1) := by decide +kernel
theorem dX3_emptyWith_19 : decode cX3_emptyWith 19 = .ok (.aload_n 0, 1) := by decide +kernel
theorem dX3_emptyWith_20 : decode cX3_emptyWith 20 = .ok (.getfield 35, 3) := by decide +kernel
theorem dX3_emptyWith_23 : decode cX3_emptyWith 23 = .ok (.if_icmp .ge 17, 3) := by decide +kernel
theorem dX3_emptyWith_26 : decode cX3_emptyWith 26 = .ok (.aload_n 0, 1) := by decide +kernel
theorem dX3_emptyWith_27 : decode cX3_emptyWith 27 = .ok (.getfield 9, 3) := by decide +kernel
theorem dX3_emptyWith_30 : decode cX3_emptyWith 30 = .ok (.iload_n 2, 1) := by decide +kernel
theorem dX3_emptyWith_31 : decode cX3_emptyWith 31 = .ok (.bipush (-128), 2) := by decide +kernel
theorem dX3_emptyWith_33 : decode cX3_emptyWith 33 = .ok (.bastore, 1) := by decide +kernel
theorem dX3_emptyWith_34 : decode cX3_emptyWith 34 = .ok (.iinc 2 1, 3) := by decide +kernel
theorem dX3_emptyWith_37 : decode cX3_emptyWith 37 = .ok (.goto (-19), 3) := by decide +kernel
theorem dX3_emptyWith_40 : decode cX3_emptyWith 40 = .ok (.return_, 1) := by decide +kernel
theorem dX3_around_0 : decode cX3_around 0 = .ok (.aload_n 0, 1) := by decide +kernel
theorem dX3_around_1 : decode cX3_around 1 = .ok (.getfield 35, 3) := by decide +kernel
theorem dX3_around_4 : decode cX3_around 4 = .ok (.ifCond .le 14, 3) := by decide +kernel
theorem dX3_around_7 : decode cX3_around 7 = .ok (.iload_n 1, 1) := by decide +kernel
theorem dX3_around_8 : decode cX3_around 8 = .ok (.aload_n 0, 1) := by decide +kernel
theorem dX3_around_9 : decode cX3_around 9 = .ok (.getfield 35, 3) := by decide +kernel
theorem dX3_around_12 : decode cX3_around 12 = .ok (.iconst 1, 1) := by decide +kernel
theorem dX3_around_13 : decode cX3_around 13 = .ok (.isub, 1) := by decide +kernel
theorem dX3_around_14 : decode cX3_around 14 = .ok (.iand, 1) := by decide +kernel
theorem dX3_around_15 : decode cX3_around 15 = .ok (.goto 4, 3) := by decide +kernel
theorem dX3_around_18 : decode cX3_around 18 = .ok (.iconst 0, 1) := by decide +kernel
theorem dX3_around_19 : decode cX3_around 19 = .ok (.ireturn, 1) := by decide +kernel
theorem dX3_isEmptyIn_0 : decode cX3_isEmptyIn 0 = .ok (.aload_n 0, 1) := by decide +kernel
theorem dX3_isEmptyIn_1 : decode cX3_isEmptyIn 1 = .ok (.getfield 9, 3) := by decide +kernel
theorem dX3_isEmptyIn_4 : decode cX3_isEmptyIn 4 = .ok (.iload_n 1, 1) := by decide +kernel
theorem dX3_isEmptyIn_5 : decode cX3_isEmptyIn 5 = .ok (.baload, 1) := by decide +kernel
theorem dX3_isEmptyIn_6 : decode cX3_isEmptyIn 6 = .ok (.bipush (-128), 2) := by decide +kernel
theorem dX3_isEmptyIn_8 : decode cX3_isEmptyIn 8 = .ok (.if_icmp .ne 7, 3) := by decide +kernel
theorem dX3_isEmptyIn_11 : decode cX3_isEmptyIn 11 = .ok (.iconst 1, 1) := by decide +kernel
theorem dX3_isEmptyIn_12 : decode cX3_isEmptyIn 12 = .ok (.goto 4, 3) := by decide +kernel
theorem dX3_isEmptyIn_15 : decode cX3_isEmptyIn 15 = .ok (.iconst 0, 1) := by decide +kernel
theorem dX3_isEmptyIn_16 : decode cX3_isEmptyIn 16 = .ok (.ireturn, 1) := by decide +kernel
theorem dX3_controlIn_0 : decode cX3_controlIn 0 = .ok (.aload_n 0, 1) := by decide +kernel
theorem dX3_controlIn_1 : decode cX3_controlIn 1 = .ok (.getfield 9, 3) := by decide +kernel
theorem dX3_controlIn_4 : decode cX3_controlIn 4 = .ok (.iload_n 1, 1) := by decide +kernel
theorem dX3_controlIn_5 : decode cX3_controlIn 5 = .ok (.baload, 1) := by decide +kernel
theorem dX3_controlIn_6 : decode cX3_controlIn 6 = .ok (.ireturn, 1) := by decide +kernel
theorem dX3_hashIn_0 : decode cX3_hashIn 0 = .ok (.aload_n 0, 1) := by decide +kernel
theorem dX3_hashIn_1 : decode cX3_hashIn 1 = .ok (.getfield 15, 3) := by decide +kernel
theorem dX3_hashIn_4 : decode cX3_hashIn 4 = .ok (.iload_n 1, 1) := by decide +kernel
theorem dX3_hashIn_5 : decode cX3_hashIn 5 = .ok (.iaload, 1) := by decide +kernel
theorem dX3_hashIn_6 : decode cX3_hashIn 6 = .ok (.ireturn, 1) := by decide +kernel
theorem dX3_keyIn_0 : decode cX3_keyIn 0 = .ok (.aload_n 0, 1) := by decide +kernel
theorem dX3_keyIn_1 : decode cX3_keyIn 1 = .ok (.getfield 19, 3) := by decide +kernel
theorem dX3_keyIn_4 : decode cX3_keyIn 4 = .ok (.iload_n 1, 1) := by decide +kernel
theorem dX3_keyIn_5 : decode cX3_keyIn 5 = .ok (.iaload, 1) := by decide +kernel
theorem dX3_keyIn_6 : decode cX3_keyIn 6 = .ok (.ireturn, 1) := by decide +kernel
theorem dX3_valueIn_0 : decode cX3_valueIn 0 = .ok (.aload_n 0, 1) := by decide +kernel
theorem dX3_valueIn_1 : decode cX3_valueIn 1 = .ok (.getfield 22, 3) := by decide +kernel
theorem dX3_valueIn_4 : decode cX3_valueIn 4 = .ok (.iload_n 1, 1) := by decide +kernel
theorem dX3_valueIn_5 : decode cX3_valueIn 5 = .ok (.iaload, 1) := by decide +kernel
theorem dX3_valueIn_6 : decode cX3_valueIn 6 = .ok (.ireturn, 1) := by decide +kernel
set_option maxRecDepth 20000 in
theorem ggX3_distanceIn_X3_isEmptyIn : GoodIn wsX3_distanceIn wsX3_isEmptyIn := goodIn_r _ [6, 7, 13, 14, 15, 16, 17, 18] (by decide +kernel) (by decide +kernel)
set_option maxRecDepth 20000 in
theorem gX3_distanceIn_X3_isEmptyIn : GoodIn wsX3_distanceIn (wsV RX3 42 RX3 yX3_isEmptyIn wsX3_isEmptyIn) := goodIn_app (goodIn_of _ (by decide +kernel)) ggX3_distanceIn_X3_isEmptyIn
set_option maxRecDepth 20000 in
theorem ggX3_distanceIn_X3_around : GoodIn wsX3_distanceIn wsX3_around := goodIn_r _ [11, 12, 13, 14, 15, 16, 17, 18] (by decide +kernel) (by decide +kernel)
set_option maxRecDepth 20000 in
theorem gX3_distanceIn_X3_around : GoodIn wsX3_distanceIn (wsV RX3 46 RX3 yX3_around wsX3_around) := goodIn_app (goodIn_of _ (by decide +kernel)) ggX3_distanceIn_X3_around
theorem dX3_distanceIn_0 : decode cX3_distanceIn 0 = .ok (.aload_n 0, 1) := by decide +kernel
theorem dX3_distanceIn_1 : decode cX3_distanceIn 1 = .ok (.iload_n 1, 1) := by decide +kernel
theorem dX3_distanceIn_2 : decode cX3_distanceIn 2 = .ok (.invokevirtual 42, 3) := by decide +kernel
theorem dX3_distanceIn_5 : decode cX3_distanceIn 5 = .ok (.ifCond .eq 7, 3) := by decide +kernel
theorem dX3_distanceIn_8 : decode cX3_distanceIn 8 = .ok (.iconst (-1), 1) := by decide +kernel
theorem dX3_distanceIn_9 : decode cX3_distanceIn 9 = .ok (.goto 15, 3) := by decide +kernel
theorem dX3_distanceIn_12 : decode cX3_distanceIn 12 = .ok (.aload_n 0, 1) := by decide +kernel
theorem dX3_distanceIn_13 : decode cX3_distanceIn 13 = .ok (.iload_n 1, 1) := by decide +kernel
theorem dX3_distanceIn_14 : decode cX3_distanceIn 14 = .ok (.aload_n 0, 1) := by decide +kernel
theorem dX3_distanceIn_15 : decode cX3_distanceIn 15 = .ok (.getfield 15, 3) := by decide +kernel
theorem dX3_distanceIn_18 : decode cX3_distanceIn 18 = .ok (.iload_n 1, 1) := by decide +kernel
theorem dX3_distanceIn_19 : decode cX3_distanceIn 19 = .ok (.iaload, 1) := by decide +kernel
theorem dX3_distanceIn_20 : decode cX3_distanceIn 20 = .ok (.isub, 1) := by decide +kernel
theorem dX3_distanceIn_21 : decode cX3_distanceIn 21 = .ok (.invokevirtual 46, 3) := by decide +kernel
theorem dX3_distanceIn_24 : decode cX3_distanceIn 24 = .ok (.ireturn, 1) := by decide +kernel
theorem dX3_exchangeValue_0 : decode cX3_exchangeValue 0 = .ok (.aload_n 0, 1) := by decide +kernel
theorem dX3_exchangeValue_1 : decode cX3_exchangeValue 1 = .ok (.getfield 22, 3) := by decide +kernel
theorem dX3_exchangeValue_4 : decode cX3_exchangeValue 4 = .ok (.iload_n 1, 1) := by decide +kernel
theorem dX3_exchangeValue_5 : decode cX3_exchangeValue 5 = .ok (.iaload, 1) := by decide +kernel
theorem dX3_exchangeValue_6 : decode cX3_exchangeValue 6 = .ok (.istore_n 3, 1) := by decide +kernel
theorem dX3_exchangeValue_7 : decode cX3_exchangeValue 7 = .ok (.aload_n 0, 1) := by decide +kernel
theorem dX3_exchangeValue_8 : decode cX3_exchangeValue 8 = .ok (.getfield 22, 3) := by decide +kernel
theorem dX3_exchangeValue_11 : decode cX3_exchangeValue 11 = .ok (.iload_n 1, 1) := by decide +kernel
theorem dX3_exchangeValue_12 : decode cX3_exchangeValue 12 = .ok (.iload_n 2, 1) := by decide +kernel
theorem dX3_exchangeValue_13 : decode cX3_exchangeValue 13 = .ok (.iastore, 1) := by decide +kernel
theorem dX3_exchangeValue_14 : decode cX3_exchangeValue 14 = .ok (.iload_n 3, 1) := by decide +kernel
theorem dX3_exchangeValue_15 : decode cX3_exchangeValue 15 = .ok (.ireturn, 1) := by decide +kernel
set_option maxRecDepth 20000 in
theorem ggX3_lowestSlotWithKey_X3_isEmptyIn : GoodIn wsX3_lowestSlotWithKey wsX3_isEmptyIn := goodIn_r _ [6, 7, 8, 9, 10, 11, 12, 13] (by decide +kernel) (by decide +kernel)
set_option maxRecDepth 20000 in
theorem gX3_lowestSlotWithKey_X3_isEmptyIn : GoodIn wsX3_lowestSlotWithKey (wsV RX3 42 RX3 yX3_isEmptyIn wsX3_isEmptyIn) := goodIn_app (goodIn_of _ (by decide +kernel)) ggX3_lowestSlotWithKey_X3_isEmptyIn
theorem dX3_lowestSlotWithKey_0 : decode cX3_lowestSlotWithKey 0 = .ok (.iconst 0, 1) := by decide +kernel
theorem dX3_lowestSlotWithKey_1 : decode cX3_lowestSlotWithKey 1 = .ok (.istore_n 1, 1) := by decide +kernel
theorem dX3_lowestSlotWithKey_2 : decode cX3_lowestSlotWithKey 2 = .ok (.iload_n 1, 1) := by decide +kernel
theorem dX3_lowestSlotWithKey_3 : decode cX3_lowestSlotWithKey 3 = .ok (.aload_n 0, 1) := by decide +kernel
theorem dX3_lowestSlotWithKey_4 : decode cX3_lowestSlotWithKey 4 = .ok (.getfield 35, 3) := by decide +kernel
theorem dX3_lowestSlotWithKey_7 : decode cX3_lowestSlotWithKey 7 = .ok (.if_icmp .ge 19, 3) := by decide +kernel
theorem dX3_lowestSlotWithKey_10 : decode cX3_lowestSlotWithKey 10 = .ok (.aload_n 0, 1) := by decide +kernel
theorem dX3_lowestSlotWithKey_11 : decode cX3_lowestSlotWithKey 11 = .ok (.iload_n 1, 1) := by decide +kernel
theorem dX3_lowestSlotWithKey_12 : decode cX3_lowestSlotWithKey 12 = .ok (.invokevirtual 42, 3) := by decide +kernel
theorem dX3_lowestSlotWithKey_15 : decode cX3_lowestSlotWithKey 15 = .ok (.ifCond .ne 5, 3) := by decide +kernel
theorem dX3_lowestSlotWithKey_18 : decode cX3_lowestSlotWithKey 18 = .ok (.iload_n 1, 1) := by decide +kernel
theorem dX3_lowestSlotWithKey_19 : decode cX3_lowestSlotWithKey 19 = .ok (.ireturn, 1) := by decide +kernel
theorem dX3_lowestSlotWithKey_20 : decode cX3_lowestSlotWithKey 20 = .ok (.iinc 1 1, 3) := by decide +kernel
theorem dX3_lowestSlotWithKey_23 : decode cX3_lowestSlotWithKey 23 = .ok (.goto (-21), 3) := by decide +kernel
theorem dX3_lowestSlotWithKey_26 : decode cX3_lowestSlotWithKey 26 = .ok (.iconst 0, 1) := by decide +kernel
theorem dX3_lowestSlotWithKey_27 : decode cX3_lowestSlotWithKey 27 = .ok (.ireturn, 1) := by decide +kernel
set_option maxRecDepth 20000 in
theorem ggX3_carryIn_X3_around : GoodIn wsX3_carryIn wsX3_around := goodIn_r _ [10, 1, 24, 25, 26, 27, 28, 29] (by decide +kernel) (by decide +kernel)
set_option maxRecDepth 20000 in
theorem gX3_carryIn_X3_around : GoodIn wsX3_carryIn (wsV RX3 46 RX3 yX3_around wsX3_around) := goodIn_app (goodIn_of _ (by decide +kernel)) ggX3_carryIn_X3_around
set_option maxRecDepth 20000 in
theorem ggX3_carryIn_X3_distanceIn : GoodIn wsX3_carryIn wsX3_distanceIn := goodIn_r _ [14, 5, 15, 16, 17, 9, 18, 19, 6, 7, 8, 10, 1, 24, 25, 26, 27, 28, 29] (by decide +kernel) (by decide +kernel)
set_option maxRecDepth 20000 in
theorem gX3_carryIn_X3_distanceIn : GoodIn wsX3_carryIn (wsV RX3 59 RX3 yX3_distanceIn wsX3_distanceIn) := goodIn_app (goodIn_of _ (by decide +kernel)) ggX3_carryIn_X3_distanceIn
set_option maxRecDepth 20000 in
theorem ggX3_carryIn_X3_fill : GoodIn wsX3_carryIn wsX3_fill := goodIn_r _ [23, 19, 5, 3, 4, 24, 25, 26, 27, 28, 29] (by decide +kernel) (by decide +kernel)
set_option maxRecDepth 20000 in
theorem gX3_carryIn_X3_fill : GoodIn wsX3_carryIn (wsV RX3 62 RX3 yX3_fill wsX3_fill) := goodIn_app (goodIn_of _ (by decide +kernel)) ggX3_carryIn_X3_fill
theorem dX3_carryIn_0 : decode cX3_carryIn 0 = .ok (.iload_n 1, 1) := by decide +kernel
theorem dX3_carryIn_1 : decode cX3_carryIn 1 = .ok (.istore 4, 2) := by decide +kernel
theorem dX3_carryIn_3 : decode cX3_carryIn 3 = .ok (.iload_n 2, 1) := by decide +kernel
theorem dX3_carryIn_4 : decode cX3_carryIn 4 = .ok (.istore 5, 2) := by decide +kernel
theorem dX3_carryIn_6 : decode cX3_carryIn 6 = .ok (.iload_n 3, 1) := by decide +kernel
theorem dX3_carryIn_7 : decode cX3_carryIn 7 = .ok (.istore 6, 2) := by decide +kernel
theorem dX3_carryIn_9 : decode cX3_carryIn 9 = .ok (.iconst 0, 1) := by decide +kernel
theorem dX3_carryIn_10 : decode cX3_carryIn 10 = .ok (.istore 7, 2) := by decide +kernel
theorem dX3_carryIn_12 : decode cX3_carryIn 12 = .ok (.aload_n 0, 1) := by decide +kernel
theorem dX3_carryIn_13 : decode cX3_carryIn 13 = .ok (.iload 6, 2) := by decide +kernel
theorem dX3_carryIn_15 : decode cX3_carryIn 15 = .ok (.invokevirtual 46, 3) := by decide +kernel
theorem dX3_carryIn_18 : decode cX3_carryIn 18 = .ok (.istore 8, 2) := by decide +kernel
theorem dX3_carryIn_20 : decode cX3_carryIn 20 = .ok (.iconst 0, 1) := by decide +kernel
theorem dX3_carryIn_21 : decode cX3_carryIn 21 = .ok (.istore 9, 2) := by decide +kernel
theorem dX3_carryIn_23 : decode cX3_carryIn 23 = .ok (.iload 9, 2) := by decide +kernel
theorem dX3_carryIn_25 : decode cX3_carryIn 25 = .ok (.aload_n 0, 1) := by decide +kernel
theorem dX3_carryIn_26 : decode cX3_carryIn 26 = .ok (.getfield 35, 3) := by decide +kernel
theorem dX3_carryIn_29 : decode cX3_carryIn 29 = .ok (.if_icmp .ge 121, 3) := by decide +kernel
theorem dX3_carryIn_32 : decode cX3_carryIn 32 = .ok (.aload_n 0, 1) := by decide +kernel
theorem dX3_carryIn_33 : decode cX3_carryIn 33 = .ok (.iload 8, 2) := by decide +kernel
theorem dX3_carryIn_35 : decode cX3_carryIn 35 = .ok (.invokevirtual 59, 3) := by decide +kernel
theorem dX3_carryIn_38 : decode cX3_carryIn 38 = .ok (.istore 10, 2) := by decide +kernel
theorem dX3_carryIn_40 : decode cX3_carryIn 40 = .ok (.iload 10, 2) := by decide +kernel
theorem dX3_carryIn_42 : decode cX3_carryIn 42 = .ok (.iconst (-1), 1) := by decide +kernel
theorem dX3_carryIn_43 : decode cX3_carryIn 43 = .ok (.if_icmp .ne 26, 3) := by decide +kernel
theorem dX3_carryIn_46 : decode cX3_carryIn 46 = .ok (.aload_n 0, 1) := by decide +kernel
theorem dX3_carryIn_47 : decode cX3_carryIn 47 = .ok (.iload 8, 2) := by decide +kernel
theorem dX3_carryIn_49 : decode cX3_carryIn 49 = .ok (.iload 4, 2) := by decide +kernel
theorem dX3_carryIn_51 : decode cX3_carryIn 51 = .ok (.iload 5, 2) := by decide +kernel
theorem dX3_carryIn_53 : decode cX3_carryIn 53 = .ok (.iload 6, 2) := by decide +kernel
theorem dX3_carryIn_55 : decode cX3_carryIn 55 = .ok (.invokevirtual 62, 3) := by decide +kernel
theorem dX3_carryIn_58 : decode cX3_carryIn 58 = .ok (.aload_n 0, 1) := by decide +kernel
theorem dX3_carryIn_59 : decode cX3_carryIn 59 = .ok (.dup, 1) := by decide +kernel
theorem dX3_carryIn_60 : decode cX3_carryIn 60 = .ok (.getfield 39, 3) := by decide +kernel
theorem dX3_carryIn_63 : decode cX3_carryIn 63 = .ok (.iconst 1, 1) := by decide +kernel
theorem dX3_carryIn_64 : decode cX3_carryIn 64 = .ok (.iadd, 1) := by decide +kernel
theorem dX3_carryIn_65 : decode cX3_carryIn 65 = .ok (.putfield 39, 3) := by decide +kernel
theorem dX3_carryIn_68 : decode cX3_carryIn 68 = .ok (.return_, 1) := by decide +kernel
theorem dX3_carryIn_69 : decode cX3_carryIn 69 = .ok (.iload 10, 2) := by decide +kernel
theorem dX3_carryIn_71 : decode cX3_carryIn 71 = .ok (.iload 7, 2) := by decide +kernel
theorem dX3_carryIn_73 : decode cX3_carryIn 73 = .ok (.if_icmp .ge 58, 3) := by decide +kernel
theorem dX3_carryIn_76 : decode cX3_carryIn 76 = .ok (.aload_n 0, 1) := by decide +kernel
theorem dX3_carryIn_77 : decode cX3_carryIn 77 = .ok (.getfield 19, 3) := by decide +kernel
theorem dX3_carryIn_80 : decode cX3_carryIn 80 = .ok (.iload 8, 2) := by decide +kernel
theorem dX3_carryIn_82 : decode cX3_carryIn 82 = .ok (.iaload, 1) := by decide +kernel
theorem dX3_carryIn_83 : decode cX3_carryIn 83 = .ok (.istore 11, 2) := by decide +kernel
theorem dX3_carryIn_85 : decode cX3_carryIn 85 = .ok (.aload_n 0, 1) := by decide +kernel
theorem dX3_carryIn_86 : decode cX3_carryIn 86 = .ok (.getfield 22, 3) := by decide +kernel
theorem dX3_carryIn_89 : decode cX3_carryIn 89 = .ok (.iload 8, 2) := by decide +kernel
theorem dX3_carryIn_91 : decode cX3_carryIn 91 = .ok (.iaload, 1) := by decide +kernel
theorem dX3_carryIn_92 : decode cX3_carryIn 92 = .ok (.istore 12, 2) := by decide +kernel
theorem dX3_carryIn_94 : decode cX3_carryIn 94 = .ok (.aload_n 0, 1) := by decide +kernel
theorem dX3_carryIn_95 : decode cX3_carryIn 95 = .ok (.getfield 15, 3) := by decide +kernel
theorem dX3_carryIn_98 : decode cX3_carryIn 98 = .ok (.iload 8, 2) := by decide +kernel
theorem dX3_carryIn_100 : decode cX3_carryIn 100 = .ok (.iaload, 1) := by decide +kernel
theorem dX3_carryIn_101 : decode cX3_carryIn 101 = .ok (.istore 13, 2) := by decide +kernel
theorem dX3_carryIn_103 : decode cX3_carryIn 103 = .ok (.aload_n 0, 1) := by decide +kernel
theorem dX3_carryIn_104 : decode cX3_carryIn 104 = .ok (.iload 8, 2) := by decide +kernel
theorem dX3_carryIn_106 : decode cX3_carryIn 106 = .ok (.iload 4, 2) := by decide +kernel
theorem dX3_carryIn_108 : decode cX3_carryIn 108 = .ok (.iload 5, 2) := by decide +kernel
theorem dX3_carryIn_110 : decode cX3_carryIn 110 = .ok (.iload 6, 2) := by decide +kernel
theorem dX3_carryIn_112 : decode cX3_carryIn 112 = .ok (.invokevirtual 62, 3) := by decide +kernel
theorem dX3_carryIn_115 : decode cX3_carryIn 115 = .ok (.iload 11, 2) := by decide +kernel
theorem dX3_carryIn_117 : decode cX3_carryIn 117 = .ok (.istore 4, 2) := by decide +kernel
theorem dX3_carryIn_119 : decode cX3_carryIn 119 = .ok (.iload 12, 2) := by decide +kernel
theorem dX3_carryIn_121 : decode cX3_carryIn 121 = .ok (.istore 5, 2) := by decide +kernel
theorem dX3_carryIn_123 : decode cX3_carryIn 123 = .ok (.iload 13, 2) := by decide +kernel
theorem dX3_carryIn_125 : decode cX3_carryIn 125 = .ok (.istore 6, 2) := by decide +kernel
theorem dX3_carryIn_127 : decode cX3_carryIn 127 = .ok (.iload 10, 2) := by decide +kernel
theorem dX3_carryIn_129 : decode cX3_carryIn 129 = .ok (.istore 7, 2) := by decide +kernel
theorem dX3_carryIn_131 : decode cX3_carryIn 131 = .ok (.aload_n 0, 1) := by decide +kernel
theorem dX3_carryIn_132 : decode cX3_carryIn 132 = .ok (.iload 8, 2) := by decide +kernel
theorem dX3_carryIn_134 : decode cX3_carryIn 134 = .ok (.iconst 1, 1) := by decide +kernel
theorem dX3_carryIn_135 : decode cX3_carryIn 135 = .ok (.iadd, 1) := by decide +kernel
theorem dX3_carryIn_136 : decode cX3_carryIn 136 = .ok (.invokevirtual 46, 3) := by decide +kernel
theorem dX3_carryIn_139 : decode cX3_carryIn 139 = .ok (.istore 8, 2) := by decide +kernel
theorem dX3_carryIn_141 : decode cX3_carryIn 141 = .ok (.iinc 7 1, 3) := by decide +kernel
theorem dX3_carryIn_144 : decode cX3_carryIn 144 = .ok (.iinc 9 1, 3) := by decide +kernel
theorem dX3_carryIn_147 : decode cX3_carryIn 147 = .ok (.goto (-124), 3) := by decide +kernel
theorem dX3_carryIn_150 : decode cX3_carryIn 150 = .ok (.return_, 1) := by decide +kernel
set_option maxRecDepth 20000 in
theorem ggX3_takeOut_X3_around : GoodIn wsX3_takeOut wsX3_around := goodIn_r _ [11, 1, 24, 25, 26, 27, 28, 29] (by decide +kernel) (by decide +kernel)
set_option maxRecDepth 20000 in
theorem gX3_takeOut_X3_around : GoodIn wsX3_takeOut (wsV RX3 46 RX3 yX3_around wsX3_around) := goodIn_app (goodIn_of _ (by decide +kernel)) ggX3_takeOut_X3_around
set_option maxRecDepth 20000 in
theorem ggX3_takeOut_X3_distanceIn : GoodIn wsX3_takeOut wsX3_distanceIn := goodIn_r _ [15, 4, 16, 17, 18, 10, 19, 5, 7, 8, 9, 11, 1, 24, 25, 26, 27, 28, 29] (by decide +kernel) (by decide +kernel)
set_option maxRecDepth 20000 in
theorem gX3_takeOut_X3_distanceIn : GoodIn wsX3_takeOut (wsV RX3 59 RX3 yX3_distanceIn wsX3_distanceIn) := goodIn_app (goodIn_of _ (by decide +kernel)) ggX3_takeOut_X3_distanceIn
set_option maxRecDepth 20000 in
theorem ggX3_takeOut_X3_fill : GoodIn wsX3_takeOut wsX3_fill := goodIn_r _ [23, 5, 4, 2, 3, 24, 25, 26, 27, 28, 29] (by decide +kernel) (by decide +kernel)
set_option maxRecDepth 20000 in
theorem gX3_takeOut_X3_fill : GoodIn wsX3_takeOut (wsV RX3 62 RX3 yX3_fill wsX3_fill) := goodIn_app (goodIn_of _ (by decide +kernel)) ggX3_takeOut_X3_fill
theorem dX3_takeOut_0 : decode cX3_takeOut 0 = .ok (.iload_n 1, 1) := by decide +kernel
theorem dX3_takeOut_1 : decode cX3_takeOut 1 = .ok (.istore_n 2, 1) := by decide +kernel
theorem dX3_takeOut_2 : decode cX3_takeOut 2 = .ok (.aload_n 0, 1) := by decide +kernel
theorem dX3_takeOut_3 : decode cX3_takeOut 3 = .ok (.iload_n 2, 1) := by decide +kernel
theorem dX3_takeOut_4 : decode cX3_takeOut 4 = .ok (.iconst 1, 1) := by decide +kernel
theorem dX3_takeOut_5 : decode cX3_takeOut 5 = .ok (.iadd, 1) := by decide +kernel
theorem dX3_takeOut_6 : decode cX3_takeOut 6 = .ok (.invokevirtual 46, 3) := by decide +kernel
theorem dX3_takeOut_9 : decode cX3_takeOut 9 = .ok (.istore_n 3, 1) := by decide +kernel
theorem dX3_takeOut_10 : decode cX3_takeOut 10 = .ok (.iconst 1, 1) := by decide +kernel
theorem dX3_takeOut_11 : decode cX3_takeOut 11 = .ok (.istore 4, 2) := by decide +kernel
theorem dX3_takeOut_13 : decode cX3_takeOut 13 = .ok (.iload 4, 2) := by decide +kernel
theorem dX3_takeOut_15 : decode cX3_takeOut 15 = .ok (.aload_n 0, 1) := by decide +kernel
theorem dX3_takeOut_16 : decode cX3_takeOut 16 = .ok (.getfield 35, 3) := by decide +kernel
theorem dX3_takeOut_19 : decode cX3_takeOut 19 = .ok (.if_icmp .ge 50, 3) := by decide +kernel
theorem dX3_takeOut_22 : decode cX3_takeOut 22 = .ok (.aload_n 0, 1) := by decide +kernel
theorem dX3_takeOut_23 : decode cX3_takeOut 23 = .ok (.iload_n 3, 1) := by decide +kernel
theorem dX3_takeOut_24 : decode cX3_takeOut 24 = .ok (.invokevirtual 59, 3) := by decide +kernel
theorem dX3_takeOut_27 : decode cX3_takeOut 27 = .ok (.ifCond .le 42, 3) := by decide +kernel
theorem dX3_takeOut_30 : decode cX3_takeOut 30 = .ok (.aload_n 0, 1) := by decide +kernel
theorem dX3_takeOut_31 : decode cX3_takeOut 31 = .ok (.iload_n 2, 1) := by decide +kernel
theorem dX3_takeOut_32 : decode cX3_takeOut 32 = .ok (.aload_n 0, 1) := by decide +kernel
theorem dX3_takeOut_33 : decode cX3_takeOut 33 = .ok (.getfield 19, 3) := by decide +kernel
theorem dX3_takeOut_36 : decode cX3_takeOut 36 = .ok (.iload_n 3, 1) := by decide +kernel
theorem dX3_takeOut_37 : decode cX3_takeOut 37 = .ok (.iaload, 1) := by decide +kernel
theorem dX3_takeOut_38 : decode cX3_takeOut 38 = .ok (.aload_n 0, 1) := by decide +kernel
theorem dX3_takeOut_39 : decode cX3_takeOut 39 = .ok (.getfield 22, 3) := by decide +kernel
theorem dX3_takeOut_42 : decode cX3_takeOut 42 = .ok (.iload_n 3, 1) := by decide +kernel
theorem dX3_takeOut_43 : decode cX3_takeOut 43 = .ok (.iaload, 1) := by decide +kernel
theorem dX3_takeOut_44 : decode cX3_takeOut 44 = .ok (.aload_n 0, 1) := by decide +kernel
theorem dX3_takeOut_45 : decode cX3_takeOut 45 = .ok (.getfield 15, 3) := by decide +kernel
theorem dX3_takeOut_48 : decode cX3_takeOut 48 = .ok (.iload_n 3, 1) := by decide +kernel
theorem dX3_takeOut_49 : decode cX3_takeOut 49 = .ok (.iaload, 1) := by decide +kernel
theorem dX3_takeOut_50 : decode cX3_takeOut 50 = .ok (.invokevirtual 62, 3) := by decide +kernel
theorem dX3_takeOut_53 : decode cX3_takeOut 53 = .ok (.iload_n 3, 1) := by decide +kernel
theorem dX3_takeOut_54 : decode cX3_takeOut 54 = .ok (.istore_n 2, 1) := by decide +kernel
theorem dX3_takeOut_55 : decode cX3_takeOut 55 = .ok (.aload_n 0, 1) := by decide +kernel
theorem dX3_takeOut_56 : decode cX3_takeOut 56 = .ok (.iload_n 2, 1) := by decide +kernel
theorem dX3_takeOut_57 : decode cX3_takeOut 57 = .ok (.iconst 1, 1) := by decide +kernel
theorem dX3_takeOut_58 : decode cX3_takeOut 58 = .ok (.iadd, 1) := by decide +kernel
theorem dX3_takeOut_59 : decode cX3_takeOut 59 = .ok (.invokevirtual 46, 3) := by decide +kernel
theorem dX3_takeOut_62 : decode cX3_takeOut 62 = .ok (.istore_n 3, 1) := by decide +kernel
theorem dX3_takeOut_63 : decode cX3_takeOut 63 = .ok (.iinc 4 1, 3) := by decide +kernel
theorem dX3_takeOut_66 : decode cX3_takeOut 66 = .ok (.goto (-53), 3) := by decide +kernel
theorem dX3_takeOut_69 : decode cX3_takeOut 69 = .ok (.aload_n 0, 1) := by decide +kernel
theorem dX3_takeOut_70 : decode cX3_takeOut 70 = .ok (.getfield 9, 3) := by decide +kernel
theorem dX3_takeOut_73 : decode cX3_takeOut 73 = .ok (.iload_n 2, 1) := by decide +kernel
theorem dX3_takeOut_74 : decode cX3_takeOut 74 = .ok (.bipush (-128), 2) := by decide +kernel
theorem dX3_takeOut_76 : decode cX3_takeOut 76 = .ok (.bastore, 1) := by decide +kernel
theorem dX3_takeOut_77 : decode cX3_takeOut 77 = .ok (.aload_n 0, 1) := by decide +kernel
theorem dX3_takeOut_78 : decode cX3_takeOut 78 = .ok (.dup, 1) := by decide +kernel
theorem dX3_takeOut_79 : decode cX3_takeOut 79 = .ok (.getfield 39, 3) := by decide +kernel
theorem dX3_takeOut_82 : decode cX3_takeOut 82 = .ok (.iconst 1, 1) := by decide +kernel
theorem dX3_takeOut_83 : decode cX3_takeOut 83 = .ok (.isub, 1) := by decide +kernel
theorem dX3_takeOut_84 : decode cX3_takeOut 84 = .ok (.putfield 39, 3) := by decide +kernel
theorem dX3_takeOut_87 : decode cX3_takeOut 87 = .ok (.return_, 1) := by decide +kernel
theorem dX3_fill_0 : decode cX3_fill 0 = .ok (.aload_n 0, 1) := by decide +kernel
theorem dX3_fill_1 : decode cX3_fill 1 = .ok (.getfield 9, 3) := by decide +kernel
theorem dX3_fill_4 : decode cX3_fill 4 = .ok (.iload_n 1, 1) := by decide +kernel
theorem dX3_fill_5 : decode cX3_fill 5 = .ok (.iload 4, 2) := by decide +kernel
theorem dX3_fill_7 : decode cX3_fill 7 = .ok (.bipush 25, 2) := by decide +kernel
theorem dX3_fill_9 : decode cX3_fill 9 = .ok (.iushr, 1) := by decide +kernel
theorem dX3_fill_10 : decode cX3_fill 10 = .ok (.i2b, 1) := by decide +kernel
theorem dX3_fill_11 : decode cX3_fill 11 = .ok (.bastore, 1) := by decide +kernel
theorem dX3_fill_12 : decode cX3_fill 12 = .ok (.aload_n 0, 1) := by decide +kernel
theorem dX3_fill_13 : decode cX3_fill 13 = .ok (.getfield 15, 3) := by decide +kernel
theorem dX3_fill_16 : decode cX3_fill 16 = .ok (.iload_n 1, 1) := by decide +kernel
theorem dX3_fill_17 : decode cX3_fill 17 = .ok (.iload 4, 2) := by decide +kernel
theorem dX3_fill_19 : decode cX3_fill 19 = .ok (.iastore, 1) := by decide +kernel
theorem dX3_fill_20 : decode cX3_fill 20 = .ok (.aload_n 0, 1) := by decide +kernel
theorem dX3_fill_21 : decode cX3_fill 21 = .ok (.getfield 19, 3) := by decide +kernel
theorem dX3_fill_24 : decode cX3_fill 24 = .ok (.iload_n 1, 1) := by decide +kernel
theorem dX3_fill_25 : decode cX3_fill 25 = .ok (.iload_n 2, 1) := by decide +kernel
theorem dX3_fill_26 : decode cX3_fill 26 = .ok (.iastore, 1) := by decide +kernel
theorem dX3_fill_27 : decode cX3_fill 27 = .ok (.aload_n 0, 1) := by decide +kernel
theorem dX3_fill_28 : decode cX3_fill 28 = .ok (.getfield 22, 3) := by decide +kernel
theorem dX3_fill_31 : decode cX3_fill 31 = .ok (.iload_n 1, 1) := by decide +kernel
theorem dX3_fill_32 : decode cX3_fill 32 = .ok (.iload_n 3, 1) := by decide +kernel
theorem dX3_fill_33 : decode cX3_fill 33 = .ok (.iastore, 1) := by decide +kernel
theorem dX3_fill_34 : decode cX3_fill 34 = .ok (.return_, 1) := by decide +kernel
set_option maxRecDepth 20000 in
theorem ggX4_init_X1_init : GoodIn wsX4_init wsX1_init := goodIn_r _ [23, 24, 2, 3] (by decide +kernel) (by decide +kernel)
set_option maxRecDepth 20000 in
theorem gX4_init_X1_init_n17 : GoodIn wsX4_init (wsX1_init) := ggX4_init_X1_init
set_option maxRecDepth 20000 in
theorem ggX4_init_X0_init : GoodIn wsX4_init wsX0_init := goodIn_r _ [26, 27, 2, 3, 28, 29, 30, 31, 65, 66, 67, 68] (by decide +kernel) (by decide +kernel)
set_option maxRecDepth 20000 in
theorem gX4_init_X0_init_n24 : GoodIn wsX4_init (wsX0_init) := ggX4_init_X0_init
set_option maxRecDepth 20000 in
theorem ggX4_init_X3_init : GoodIn wsX4_init wsX3_init := goodIn_r _ [34, 35, 2, 3, 36, 37, 28, 38, 39, 40, 41, 42, 43, 16, 44, 45, 46, 47, 48, 49, 50, 69, 70, 71, 72, 73, 74] (by decide +kernel) (by decide +kernel)
set_option maxRecDepth 20000 in
theorem gX4_init_X3_init : GoodIn wsX4_init (wsX3_init) := ggX4_init_X3_init
set_option maxRecDepth 20000 in
theorem ggX4_init_X2_init : GoodIn wsX4_init wsX2_init := goodIn_r _ [52, 53, 2, 3] (by decide +kernel) (by decide +kernel)
set_option maxRecDepth 20000 in
theorem gX4_init_X2_init_n41 : GoodIn wsX4_init (wsX2_init) := ggX4_init_X2_init
theorem dX4_init_0 : decode cX4_init 0 = .ok (.aload_n 0, 1) := by decide +kernel
theorem dX4_init_1 : decode cX4_init 1 = .ok (.invokespecial 1, 3) := by decide +kernel
theorem dX4_init_4 : decode cX4_init 4 = .ok (.aload_n 0, 1) := by decide +kernel
theorem dX4_init_5 : decode cX4_init 5 = .ok (.iconst 4, 1) := by decide +kernel
theorem dX4_init_6 : decode cX4_init 6 = .ok (.anewarray 9, 3) := by decide +kernel
theorem dX4_init_9 : decode cX4_init 9 = .ok (.putfield 11, 3) := by decide +kernel
theorem dX4_init_12 : decode cX4_init 12 = .ok (.aload_n 0, 1) := by decide +kernel
theorem dX4_init_13 : decode cX4_init 13 = .ok (.new 15, 3) := by decide +kernel
theorem dX4_init_16 : decode cX4_init 16 = .ok (.dup, 1) := by decide +kernel
theorem dX4_init_17 : decode cX4_init 17 = .ok (.invokespecial 17, 3) := by decide +kernel
theorem dX4_init_20 : decode cX4_init 20 = .ok (.putfield 18, 3) := by decide +kernel
theorem dX4_init_23 : decode cX4_init 23 = .ok (.aload_n 0, 1) := by decide +kernel
theorem dX4_init_24 : decode cX4_init 24 = .ok (.new 22, 3) := by decide +kernel
theorem dX4_init_27 : decode cX4_init 27 = .ok (.dup, 1) := by decide +kernel
end
section
theorem dX4_init_28 : decode cX4_init 28 = .ok (.invokespecial 24, 3) := by decide +kernel
theorem dX4_init_31 : decode cX4_init 31 = .ok (.putfield 25, 3) := by decide +kernel
theorem dX4_init_34 : decode cX4_init 34 = .ok (.aload_n 0, 1) := by decide +kernel
theorem dX4_init_35 : decode cX4_init 35 = .ok (.new 29, 3) := by decide +kernel
theorem dX4_init_38 : decode cX4_init 38 = .ok (.dup, 1) := by decide +kernel
theorem dX4_init_39 : decode cX4_init 39 = .ok (.bipush 8, 2) := by decide +kernel
theorem dX4_init_41 : decode cX4_init 41 = .ok (.invokespecial 31, 3) := by decide +kernel
theorem dX4_init_44 : decode cX4_init 44 = .ok (.putfield 34, 3) := by decide +kernel
theorem dX4_init_47 : decode cX4_init 47 = .ok (.aload_n 0, 1) := by decide +kernel
theorem dX4_init_48 : decode cX4_init 48 = .ok (.new 29, 3) := by decide +kernel
theorem dX4_init_51 : decode cX4_init 51 = .ok (.dup, 1) := by decide +kernel
theorem dX4_init_52 : decode cX4_init 52 = .ok (.iconst 0, 1) := by decide +kernel
theorem dX4_init_53 : decode cX4_init 53 = .ok (.invokespecial 31, 3) := by decide +kernel
theorem dX4_init_56 : decode cX4_init 56 = .ok (.putfield 38, 3) := by decide +kernel
theorem dX4_init_59 : decode cX4_init 59 = .ok (.iconst 0, 1) := by decide +kernel
theorem dX4_init_60 : decode cX4_init 60 = .ok (.istore_n 1, 1) := by decide +kernel
theorem dX4_init_61 : decode cX4_init 61 = .ok (.iload_n 1, 1) := by decide +kernel
theorem dX4_init_62 : decode cX4_init 62 = .ok (.iconst 4, 1) := by decide +kernel
theorem dX4_init_63 : decode cX4_init 63 = .ok (.if_icmp .ge 22, 3) := by decide +kernel
theorem dX4_init_66 : decode cX4_init 66 = .ok (.aload_n 0, 1) := by decide +kernel
theorem dX4_init_67 : decode cX4_init 67 = .ok (.getfield 11, 3) := by decide +kernel
theorem dX4_init_70 : decode cX4_init 70 = .ok (.iload_n 1, 1) := by decide +kernel
theorem dX4_init_71 : decode cX4_init 71 = .ok (.new 9, 3) := by decide +kernel
theorem dX4_init_74 : decode cX4_init 74 = .ok (.dup, 1) := by decide +kernel
theorem dX4_init_75 : decode cX4_init 75 = .ok (.invokespecial 41, 3) := by decide +kernel
theorem dX4_init_78 : decode cX4_init 78 = .ok (.aastore, 1) := by decide +kernel
theorem dX4_init_79 : decode cX4_init 79 = .ok (.iinc 1 1, 3) := by decide +kernel
theorem dX4_init_82 : decode cX4_init 82 = .ok (.goto (-21), 3) := by decide +kernel
theorem dX4_init_85 : decode cX4_init 85 = .ok (.aload_n 0, 1) := by decide +kernel
theorem dX4_init_86 : decode cX4_init 86 = .ok (.iconst 1, 1) := by decide +kernel
theorem dX4_init_87 : decode cX4_init 87 = .ok (.putfield 42, 3) := by decide +kernel
theorem dX4_init_90 : decode cX4_init 90 = .ok (.return_, 1) := by decide +kernel
set_option maxRecDepth 20000 in
theorem ggX4_clear_X3_emptyWith : GoodIn wsX4_clear wsX3_emptyWith := goodIn_r _ [12, 13, 14, 15, 16, 17, 18, 19, 33, 34, 35, 36, 37, 38] (by decide +kernel) (by decide +kernel)
set_option maxRecDepth 20000 in
theorem gX4_clear_X3_emptyWith : GoodIn wsX4_clear (wsV RX4 53 RX3 yX3_emptyWith wsX3_emptyWith) := goodIn_app (goodIn_of _ (by decide +kernel)) ggX4_clear_X3_emptyWith
set_option maxRecDepth 20000 in
theorem ggX4_clear_X2_end : GoodIn wsX4_clear wsX2_end := goodIn_r _ [24, 25, 39, 40, 41, 42, 43] (by decide +kernel) (by decide +kernel)
set_option maxRecDepth 20000 in
theorem gX4_clear_X2_end : GoodIn wsX4_clear (wsV RX4 59 RX2 yX2_end wsX2_end) := goodIn_app (goodIn_of _ (by decide +kernel)) ggX4_clear_X2_end
theorem dX4_clear_0 : decode cX4_clear 0 = .ok (.iload_n 1, 1) := by decide +kernel
theorem dX4_clear_1 : decode cX4_clear 1 = .ok (.ifCond .eq 18, 3) := by decide +kernel
theorem dX4_clear_4 : decode cX4_clear 4 = .ok (.iload_n 1, 1) := by decide +kernel
theorem dX4_clear_5 : decode cX4_clear 5 = .ok (.iconst 1, 1) := by decide +kernel
theorem dX4_clear_6 : decode cX4_clear 6 = .ok (.if_icmp .eq 13, 3) := by decide +kernel
theorem dX4_clear_9 : decode cX4_clear 9 = .ok (.new 46, 3) := by decide +kernel
theorem dX4_clear_12 : decode cX4_clear 12 = .ok (.dup, 1) := by decide +kernel
theorem dX4_clear_13 : decode cX4_clear 13 = .ok (.ldc 48, 2) := by decide +kernel
theorem dX4_clear_15 : decode cX4_clear 15 = .ok (.invokespecial 50, 3) := by decide +kernel
theorem dX4_clear_18 : decode cX4_clear 18 = .ok (.athrow, 1) := by decide +kernel
theorem dX4_clear_19 : decode cX4_clear 19 = .ok (.aload_n 0, 1) := by decide +kernel
theorem dX4_clear_20 : decode cX4_clear 20 = .ok (.iload_n 1, 1) := by decide +kernel
theorem dX4_clear_21 : decode cX4_clear 21 = .ok (.putfield 42, 3) := by decide +kernel
theorem dX4_clear_24 : decode cX4_clear 24 = .ok (.aload_n 0, 1) := by decide +kernel
theorem dX4_clear_25 : decode cX4_clear 25 = .ok (.getfield 34, 3) := by decide +kernel
theorem dX4_clear_28 : decode cX4_clear 28 = .ok (.bipush 8, 2) := by decide +kernel
theorem dX4_clear_30 : decode cX4_clear 30 = .ok (.invokevirtual 53, 3) := by decide +kernel
theorem dX4_clear_33 : decode cX4_clear 33 = .ok (.aload_n 0, 1) := by decide +kernel
theorem dX4_clear_34 : decode cX4_clear 34 = .ok (.getfield 38, 3) := by decide +kernel
theorem dX4_clear_37 : decode cX4_clear 37 = .ok (.iconst 0, 1) := by decide +kernel
theorem dX4_clear_38 : decode cX4_clear 38 = .ok (.invokevirtual 53, 3) := by decide +kernel
theorem dX4_clear_41 : decode cX4_clear 41 = .ok (.aload_n 0, 1) := by decide +kernel
theorem dX4_clear_42 : decode cX4_clear 42 = .ok (.iconst 0, 1) := by decide +kernel
theorem dX4_clear_43 : decode cX4_clear 43 = .ok (.putfield 56, 3) := by decide +kernel
theorem dX4_clear_46 : decode cX4_clear 46 = .ok (.iconst 0, 1) := by decide +kernel
theorem dX4_clear_47 : decode cX4_clear 47 = .ok (.istore_n 2, 1) := by decide +kernel
theorem dX4_clear_48 : decode cX4_clear 48 = .ok (.iload_n 2, 1) := by decide +kernel
theorem dX4_clear_49 : decode cX4_clear 49 = .ok (.iconst 4, 1) := by decide +kernel
theorem dX4_clear_50 : decode cX4_clear 50 = .ok (.if_icmp .ge 18, 3) := by decide +kernel
theorem dX4_clear_53 : decode cX4_clear 53 = .ok (.aload_n 0, 1) := by decide +kernel
theorem dX4_clear_54 : decode cX4_clear 54 = .ok (.getfield 11, 3) := by decide +kernel
theorem dX4_clear_57 : decode cX4_clear 57 = .ok (.iload_n 2, 1) := by decide +kernel
theorem dX4_clear_58 : decode cX4_clear 58 = .ok (.aaload, 1) := by decide +kernel
theorem dX4_clear_59 : decode cX4_clear 59 = .ok (.invokevirtual 59, 3) := by decide +kernel
theorem dX4_clear_62 : decode cX4_clear 62 = .ok (.iinc 2 1, 3) := by decide +kernel
theorem dX4_clear_65 : decode cX4_clear 65 = .ok (.goto (-17), 3) := by decide +kernel
theorem dX4_clear_68 : decode cX4_clear 68 = .ok (.return_, 1) := by decide +kernel
set_option maxRecDepth 20000 in
theorem ggX4_put_X4_size : GoodIn wsX4_put wsX4_size := goodIn_r _ [10, 11, 12, 132, 133, 134, 135, 136, 137, 138, 143, 144, 145, 146, 147, 148] (by decide +kernel) (by decide +kernel)
set_option maxRecDepth 20000 in
theorem gX4_put_X4_size : GoodIn wsX4_put (wsV RX4 64 RX4 yX4_size wsX4_size) := goodIn_app (goodIn_of _ (by decide +kernel)) ggX4_put_X4_size
set_option maxRecDepth 20000 in
theorem ggX4_put_X4_get : GoodIn wsX4_put wsX4_get := goodIn_r _ [16, 5, 17, 18, 19, 9, 20, 11, 12, 21, 22, 23, 24, 25, 26, 27, 28, 29, 30, 31, 32, 33, 34, 35, 36, 37, 38, 39, 40, 41, 42, 43, 44, 45, 46, 47, 48, 49, 50, 51, 52, 53, 54, 55, 56, 57, 58, 59, 60, 61, 62, 63, 64, 65, 66, 67, 68, 69, 70, 71, 72, 73, 132, 133, 134, 135, 136, 137, 138, 139, 140, 141, 142, 143, 144, 145, 146, 147, 148] (by decide +kernel) (by decide +kernel)
set_option maxRecDepth 20000 in
theorem gX4_put_X4_get : GoodIn wsX4_put (wsV RX4 68 RX4 yX4_get wsX4_get) := goodIn_app (goodIn_of _ (by decide +kernel)) ggX4_put_X4_get
set_option maxRecDepth 20000 in
theorem ggX4_put_X4_moveSlice : GoodIn wsX4_put wsX4_moveSlice := goodIn_r _ [77, 12, 11, 78, 79, 80, 51, 81, 53, 82, 55, 56, 57, 58, 83, 64, 65, 66, 67, 69, 70, 71, 72, 73, 84, 85, 86, 87, 88, 89, 90, 91, 92, 93, 94, 49, 50, 52, 95, 96, 97, 98, 99, 100, 101, 102, 103, 104, 105, 106, 107, 108, 109, 9, 110, 111, 112, 113, 114, 115, 116, 117, 118, 132, 133, 134, 135, 136, 137, 138, 143, 144, 145, 146, 147, 148] (by decide +kernel) (by decide +kernel)
set_option maxRecDepth 20000 in
theorem gX4_put_X4_moveSlice : GoodIn wsX4_put (wsV RX4 77 RX4 yX4_moveSlice wsX4_moveSlice) := goodIn_app (goodIn_of _ (by decide +kernel)) ggX4_put_X4_moveSlice
set_option maxRecDepth 20000 in
theorem ggX4_put_X4_lookUp : GoodIn wsX4_put wsX4_lookUp := goodIn_r _ [20, 5, 11, 12, 21, 22, 23, 9, 24, 25, 26, 27, 28, 29, 30, 31, 32, 33, 34, 35, 36, 37, 38, 39, 40, 41, 42, 43, 44, 45, 46, 47, 48, 49, 50, 51, 52, 53, 54, 55, 56, 57, 58, 59, 60, 61, 62, 63, 64, 65, 66, 67, 68, 132, 133, 134, 135, 136, 137, 138, 139, 140, 141, 142, 143, 144, 145, 146, 147, 148] (by decide +kernel) (by decide +kernel)
set_option maxRecDepth 20000 in
theorem gX4_put_X4_lookUp : GoodIn wsX4_put (wsV RX4 80 RX4 yX4_lookUp wsX4_lookUp) := goodIn_app (goodIn_of _ (by decide +kernel)) ggX4_put_X4_lookUp
set_option maxRecDepth 20000 in
theorem ggX4_put_X1_hasFound : GoodIn wsX4_put wsX1_hasFound := goodIn_r _ [47, 32, 139, 140, 141, 142] (by decide +kernel) (by decide +kernel)
set_option maxRecDepth 20000 in
theorem gX4_put_X1_hasFound : GoodIn wsX4_put (wsV RX4 83 RX1 yX1_hasFound wsX1_hasFound) := goodIn_app (goodIn_of _ (by decide +kernel)) ggX4_put_X1_hasFound
set_option maxRecDepth 20000 in
theorem ggX4_put_X3_exchangeValue : GoodIn wsX4_put wsX3_exchangeValue := goodIn_r _ [122, 73, 143, 144, 145, 146, 147, 148] (by decide +kernel) (by decide +kernel)
set_option maxRecDepth 20000 in
theorem gX4_put_X3_exchangeValue : GoodIn wsX4_put (wsV RX4 93 RX3 yX3_exchangeValue wsX3_exchangeValue) := goodIn_app (goodIn_of _ (by decide +kernel)) ggX4_put_X3_exchangeValue
set_option maxRecDepth 20000 in
theorem ggX4_put_X4_putNew : GoodIn wsX4_put wsX4_putNew := goodIn_r _ [126, 11, 6, 7, 8, 9, 10, 12, 127, 128, 129, 130, 131, 111, 112, 113, 51, 114, 115, 116, 117, 118, 53, 93, 58, 21, 22, 23, 24, 25, 26, 89, 90, 91, 92, 67, 73, 88, 94, 49, 50, 52, 95, 96, 97, 98, 82, 55, 56, 57, 99, 100, 101, 102, 132, 133, 134, 135, 136, 137, 138, 143, 144, 145, 146, 147, 148] (by decide +kernel) (by decide +kernel)
set_option maxRecDepth 20000 in
theorem gX4_put_X4_putNew : GoodIn wsX4_put (wsV RX4 97 RX4 yX4_putNew wsX4_putNew) := goodIn_app (goodIn_of _ (by decide +kernel)) ggX4_put_X4_putNew
theorem dX4_put_0 : decode cX4_put 0 = .ok (.iload_n 2, 1) := by decide +kernel
theorem dX4_put_1 : decode cX4_put 1 = .ok (.ifCond .ge 13, 3) := by decide +kernel
theorem dX4_put_4 : decode cX4_put 4 = .ok (.new 46, 3) := by decide +kernel
theorem dX4_put_7 : decode cX4_put 7 = .ok (.dup, 1) := by decide +kernel
theorem dX4_put_8 : decode cX4_put 8 = .ok (.ldc 62, 2) := by decide +kernel
theorem dX4_put_10 : decode cX4_put 10 = .ok (.invokespecial 50, 3) := by decide +kernel
theorem dX4_put_13 : decode cX4_put 13 = .ok (.athrow, 1) := by decide +kernel
theorem dX4_put_14 : decode cX4_put 14 = .ok (.aload_n 0, 1) := by decide +kernel
theorem dX4_put_15 : decode cX4_put 15 = .ok (.invokevirtual 64, 3) := by decide +kernel
theorem dX4_put_18 : decode cX4_put 18 = .ok (.sipush 200, 3) := by decide +kernel
theorem dX4_put_21 : decode cX4_put 21 = .ok (.if_icmp .lt 22, 3) := by decide +kernel
theorem dX4_put_24 : decode cX4_put 24 = .ok (.aload_n 0, 1) := by decide +kernel
theorem dX4_put_25 : decode cX4_put 25 = .ok (.iload_n 1, 1) := by decide +kernel
theorem dX4_put_26 : decode cX4_put 26 = .ok (.invokevirtual 68, 3) := by decide +kernel
theorem dX4_put_29 : decode cX4_put 29 = .ok (.iconst (-1), 1) := by decide +kernel
theorem dX4_put_30 : decode cX4_put 30 = .ok (.if_icmp .ne 13, 3) := by decide +kernel
theorem dX4_put_33 : decode cX4_put 33 = .ok (.new 72, 3) := by decide +kernel
theorem dX4_put_36 : decode cX4_put 36 = .ok (.dup, 1) := by decide +kernel
theorem dX4_put_37 : decode cX4_put 37 = .ok (.ldc 74, 2) := by decide +kernel
theorem dX4_put_39 : decode cX4_put 39 = .ok (.invokespecial 76, 3) := by decide +kernel
theorem dX4_put_42 : decode cX4_put 42 = .ok (.athrow, 1) := by decide +kernel
theorem dX4_put_43 : decode cX4_put 43 = .ok (.aload_n 0, 1) := by decide +kernel
theorem dX4_put_44 : decode cX4_put 44 = .ok (.invokevirtual 77, 3) := by decide +kernel
theorem dX4_put_47 : decode cX4_put 47 = .ok (.pop, 1) := by decide +kernel
theorem dX4_put_48 : decode cX4_put 48 = .ok (.aload_n 0, 1) := by decide +kernel
theorem dX4_put_49 : decode cX4_put 49 = .ok (.iload_n 1, 1) := by decide +kernel
theorem dX4_put_50 : decode cX4_put 50 = .ok (.invokevirtual 80, 3) := by decide +kernel
theorem dX4_put_53 : decode cX4_put 53 = .ok (.aload_n 0, 1) := by decide +kernel
theorem dX4_put_54 : decode cX4_put 54 = .ok (.getfield 18, 3) := by decide +kernel
theorem dX4_put_57 : decode cX4_put 57 = .ok (.invokevirtual 83, 3) := by decide +kernel
theorem dX4_put_60 : decode cX4_put 60 = .ok (.ifCond .eq 22, 3) := by decide +kernel
theorem dX4_put_63 : decode cX4_put 63 = .ok (.aload_n 0, 1) := by decide +kernel
theorem dX4_put_64 : decode cX4_put 64 = .ok (.getfield 18, 3) := by decide +kernel
theorem dX4_put_67 : decode cX4_put 67 = .ok (.getfield 87, 3) := by decide +kernel
theorem dX4_put_70 : decode cX4_put 70 = .ok (.aload_n 0, 1) := by decide +kernel
theorem dX4_put_71 : decode cX4_put 71 = .ok (.getfield 18, 3) := by decide +kernel
theorem dX4_put_74 : decode cX4_put 74 = .ok (.getfield 90, 3) := by decide +kernel
theorem dX4_put_77 : decode cX4_put 77 = .ok (.iload_n 2, 1) := by decide +kernel
theorem dX4_put_78 : decode cX4_put 78 = .ok (.invokevirtual 93, 3) := by decide +kernel
theorem dX4_put_81 : decode cX4_put 81 = .ok (.ireturn, 1) := by decide +kernel
theorem dX4_put_82 : decode cX4_put 82 = .ok (.aload_n 0, 1) := by decide +kernel
theorem dX4_put_83 : decode cX4_put 83 = .ok (.iload_n 1, 1) := by decide +kernel
theorem dX4_put_84 : decode cX4_put 84 = .ok (.iload_n 2, 1) := by decide +kernel
theorem dX4_put_85 : decode cX4_put 85 = .ok (.invokevirtual 97, 3) := by decide +kernel
theorem dX4_put_88 : decode cX4_put 88 = .ok (.iconst (-1), 1) := by decide +kernel
theorem dX4_put_89 : decode cX4_put 89 = .ok (.ireturn, 1) := by decide +kernel
set_option maxRecDepth 20000 in
theorem ggX4_get_X4_lookUp : GoodIn wsX4_get wsX4_lookUp := goodIn_r _ [6, 1, 7, 8, 9, 10, 11, 5, 12, 13, 14, 15, 16, 17, 18, 19, 20, 21, 22, 23, 24, 25, 26, 27, 28, 29, 30, 31, 32, 33, 34, 35, 36, 37, 38, 39, 40, 41, 42, 43, 44, 45, 46, 47, 48, 49, 50, 51, 52, 53, 54, 55, 56, 62, 63, 64, 65, 66, 67, 68, 69, 70, 71, 72, 73, 74, 75, 76, 77, 78] (by decide +kernel) (by decide +kernel)
set_option maxRecDepth 20000 in
theorem gX4_get_X4_lookUp : GoodIn wsX4_get (wsV RX4 80 RX4 yX4_lookUp wsX4_lookUp) := goodIn_app (goodIn_of _ (by decide +kernel)) ggX4_get_X4_lookUp
set_option maxRecDepth 20000 in
theorem ggX4_get_X1_hasFound : GoodIn wsX4_get wsX1_hasFound := goodIn_r _ [35, 20, 69, 70, 71, 72] (by decide +kernel) (by decide +kernel)
set_option maxRecDepth 20000 in
theorem gX4_get_X1_hasFound : GoodIn wsX4_get (wsV RX4 83 RX1 yX1_hasFound wsX1_hasFound) := goodIn_app (goodIn_of _ (by decide +kernel)) ggX4_get_X1_hasFound
set_option maxRecDepth 20000 in
theorem ggX4_get_X3_valueIn : GoodIn wsX4_get wsX3_valueIn := goodIn_r _ [60, 61, 73, 74, 75, 76, 77, 78] (by decide +kernel) (by decide +kernel)
set_option maxRecDepth 20000 in
theorem gX4_get_X3_valueIn : GoodIn wsX4_get (wsV RX4 101 RX3 yX3_valueIn wsX3_valueIn) := goodIn_app (goodIn_of _ (by decide +kernel)) ggX4_get_X3_valueIn
theorem dX4_get_0 : decode cX4_get 0 = .ok (.aload_n 0, 1) := by decide +kernel
theorem dX4_get_1 : decode cX4_get 1 = .ok (.iload_n 1, 1) := by decide +kernel
theorem dX4_get_2 : decode cX4_get 2 = .ok (.invokevirtual 80, 3) := by decide +kernel
theorem dX4_get_5 : decode cX4_get 5 = .ok (.aload_n 0, 1) := by decide +kernel
theorem dX4_get_6 : decode cX4_get 6 = .ok (.getfield 18, 3) := by decide +kernel
theorem dX4_get_9 : decode cX4_get 9 = .ok (.invokevirtual 83, 3) := by decide +kernel
theorem dX4_get_12 : decode cX4_get 12 = .ok (.ifCond .eq 23, 3) := by decide +kernel
theorem dX4_get_15 : decode cX4_get 15 = .ok (.aload_n 0, 1) := by decide +kernel
theorem dX4_get_16 : decode cX4_get 16 = .ok (.getfield 18, 3) := by decide +kernel
theorem dX4_get_19 : decode cX4_get 19 = .ok (.getfield 87, 3) := by decide +kernel
theorem dX4_get_22 : decode cX4_get 22 = .ok (.aload_n 0, 1) := by decide +kernel
theorem dX4_get_23 : decode cX4_get 23 = .ok (.getfield 18, 3) := by decide +kernel
theorem dX4_get_26 : decode cX4_get 26 = .ok (.getfield 90, 3) := by decide +kernel
theorem dX4_get_29 : decode cX4_get 29 = .ok (.invokevirtual 101, 3) := by decide +kernel
theorem dX4_get_32 : decode cX4_get 32 = .ok (.goto 4, 3) := by decide +kernel
theorem dX4_get_35 : decode cX4_get 35 = .ok (.iconst (-1), 1) := by decide +kernel
theorem dX4_get_36 : decode cX4_get 36 = .ok (.ireturn, 1) := by decide +kernel
set_option maxRecDepth 20000 in
theorem ggX4_remove_X4_moveSlice : GoodIn wsX4_remove wsX4_moveSlice := goodIn_r _ [6, 7, 8, 9, 10, 11, 12, 13, 14, 15, 16, 17, 18, 19, 20, 21, 22, 23, 24, 25, 26, 27, 28, 29, 30, 31, 32, 33, 34, 35, 36, 37, 38, 39, 40, 41, 42, 43, 44, 45, 46, 47, 48, 49, 50, 51, 52, 53, 54, 55, 56, 57, 58, 5, 59, 60, 61, 62, 63, 64, 65, 66, 67, 107, 108, 109, 110, 111, 112, 113, 118, 119, 120, 121, 122, 123] (by decide +kernel) (by decide +kernel)
set_option maxRecDepth 20000 in
theorem gX4_remove_X4_moveSlice : GoodIn wsX4_remove (wsV RX4 77 RX4 yX4_moveSlice wsX4_moveSlice) := goodIn_app (goodIn_of _ (by decide +kernel)) ggX4_remove_X4_moveSlice
set_option maxRecDepth 20000 in
theorem ggX4_remove_X4_lookUp : GoodIn wsX4_remove wsX4_lookUp := goodIn_r _ [71, 1, 8, 7, 72, 73, 74, 5, 75, 76, 77, 78, 79, 80, 81, 82, 83, 84, 85, 86, 87, 88, 89, 90, 91, 92, 93, 94, 95, 96, 97, 98, 99, 41, 42, 12, 43, 14, 100, 16, 17, 18, 19, 101, 102, 103, 104, 105, 21, 22, 23, 24, 106, 107, 108, 109, 110, 111, 112, 113, 114, 115, 116, 117, 118, 119, 120, 121, 122, 123] (by decide +kernel) (by decide +kernel)
set_option maxRecDepth 20000 in
theorem gX4_remove_X4_lookUp : GoodIn wsX4_remove (wsV RX4 80 RX4 yX4_lookUp wsX4_lookUp) := goodIn_app (goodIn_of _ (by decide +kernel)) ggX4_remove_X4_lookUp
set_option maxRecDepth 20000 in
theorem ggX4_remove_X1_hasFound : GoodIn wsX4_remove wsX1_hasFound := goodIn_r _ [98, 83, 114, 115, 116, 117] (by decide +kernel) (by decide +kernel)
set_option maxRecDepth 20000 in
theorem gX4_remove_X1_hasFound : GoodIn wsX4_remove (wsV RX4 83 RX1 yX1_hasFound wsX1_hasFound) := goodIn_app (goodIn_of _ (by decide +kernel)) ggX4_remove_X1_hasFound
set_option maxRecDepth 20000 in
theorem ggX4_remove_X3_valueIn : GoodIn wsX4_remove wsX3_valueIn := goodIn_r _ [28, 29, 118, 119, 120, 121, 122, 123] (by decide +kernel) (by decide +kernel)
set_option maxRecDepth 20000 in
theorem gX4_remove_X3_valueIn : GoodIn wsX4_remove (wsV RX4 101 RX3 yX3_valueIn wsX3_valueIn) := goodIn_app (goodIn_of _ (by decide +kernel)) ggX4_remove_X3_valueIn
set_option maxRecDepth 20000 in
theorem ggX4_remove_X3_takeOut : GoodIn wsX4_remove wsX3_takeOut := goodIn_r _ [55, 14, 24, 29, 34, 19, 39, 40, 41, 42, 12, 43, 44, 45, 46, 47, 15, 16, 17, 18, 48, 49, 50, 51, 118, 119, 120, 121, 122, 123] (by decide +kernel) (by decide +kernel)
set_option maxRecDepth 20000 in
theorem gX4_remove_X3_takeOut : GoodIn wsX4_remove (wsV RX4 104 RX3 yX3_takeOut wsX3_takeOut) := goodIn_app (goodIn_of _ (by decide +kernel)) ggX4_remove_X3_takeOut
set_option maxRecDepth 20000 in
theorem ggX4_remove_X4_endMoveIfOldIsEmpty : GoodIn wsX4_remove wsX4_endMoveIfOldIsEmpty := goodIn_r _ [59, 7, 60, 61, 62, 12, 63, 64, 65, 66, 67, 14, 39, 19, 107, 108, 109, 110, 111, 112, 113, 118, 119, 120, 121, 122, 123] (by decide +kernel) (by decide +kernel)
set_option maxRecDepth 20000 in
theorem gX4_remove_X4_endMoveIfOldIsEmpty : GoodIn wsX4_remove (wsV RX4 107 RX4 yX4_endMoveIfOldIsEmpty wsX4_endMoveIfOldIsEmpty) := goodIn_app (goodIn_of _ (by decide +kernel)) ggX4_remove_X4_endMoveIfOldIsEmpty
theorem dX4_remove_0 : decode cX4_remove 0 = .ok (.aload_n 0, 1) := by decide +kernel
theorem dX4_remove_1 : decode cX4_remove 1 = .ok (.invokevirtual 77, 3) := by decide +kernel
theorem dX4_remove_4 : decode cX4_remove 4 = .ok (.pop, 1) := by decide +kernel
theorem dX4_remove_5 : decode cX4_remove 5 = .ok (.aload_n 0, 1) := by decide +kernel
theorem dX4_remove_6 : decode cX4_remove 6 = .ok (.iload_n 1, 1) := by decide +kernel
theorem dX4_remove_7 : decode cX4_remove 7 = .ok (.invokevirtual 80, 3) := by decide +kernel
theorem dX4_remove_10 : decode cX4_remove 10 = .ok (.aload_n 0, 1) := by decide +kernel
theorem dX4_remove_11 : decode cX4_remove 11 = .ok (.getfield 18, 3) := by decide +kernel
theorem dX4_remove_14 : decode cX4_remove 14 = .ok (.invokevirtual 83, 3) := by decide +kernel
theorem dX4_remove_17 : decode cX4_remove 17 = .ok (.ifCond .ne 5, 3) := by decide +kernel
theorem dX4_remove_20 : decode cX4_remove 20 = .ok (.iconst (-1), 1) := by decide +kernel
theorem dX4_remove_21 : decode cX4_remove 21 = .ok (.ireturn, 1) := by decide +kernel
theorem dX4_remove_22 : decode cX4_remove 22 = .ok (.aload_n 0, 1) := by decide +kernel
theorem dX4_remove_23 : decode cX4_remove 23 = .ok (.getfield 18, 3) := by decide +kernel
theorem dX4_remove_26 : decode cX4_remove 26 = .ok (.getfield 87, 3) := by decide +kernel
theorem dX4_remove_29 : decode cX4_remove 29 = .ok (.aload_n 0, 1) := by decide +kernel
theorem dX4_remove_30 : decode cX4_remove 30 = .ok (.getfield 18, 3) := by decide +kernel
theorem dX4_remove_33 : decode cX4_remove 33 = .ok (.getfield 90, 3) := by decide +kernel
theorem dX4_remove_36 : decode cX4_remove 36 = .ok (.invokevirtual 101, 3) := by decide +kernel
theorem dX4_remove_39 : decode cX4_remove 39 = .ok (.istore_n 2, 1) := by decide +kernel
theorem dX4_remove_40 : decode cX4_remove 40 = .ok (.aload_n 0, 1) := by decide +kernel
theorem dX4_remove_41 : decode cX4_remove 41 = .ok (.getfield 18, 3) := by decide +kernel
theorem dX4_remove_44 : decode cX4_remove 44 = .ok (.getfield 87, 3) := by decide +kernel
theorem dX4_remove_47 : decode cX4_remove 47 = .ok (.aload_n 0, 1) := by decide +kernel
theorem dX4_remove_48 : decode cX4_remove 48 = .ok (.getfield 18, 3) := by decide +kernel
theorem dX4_remove_51 : decode cX4_remove 51 = .ok (.getfield 90, 3) := by decide +kernel
theorem dX4_remove_54 : decode cX4_remove 54 = .ok (.invokevirtual 104, 3) := by decide +kernel
theorem dX4_remove_57 : decode cX4_remove 57 = .ok (.aload_n 0, 1) := by decide +kernel
theorem dX4_remove_58 : decode cX4_remove 58 = .ok (.invokevirtual 107, 3) := by decide +kernel
theorem dX4_remove_61 : decode cX4_remove 61 = .ok (.iload_n 2, 1) := by decide +kernel
theorem dX4_remove_62 : decode cX4_remove 62 = .ok (.ireturn, 1) := by decide +kernel
set_option maxRecDepth 20000 in
theorem ggX4_move_X4_moveSlice : GoodIn wsX4_move wsX4_moveSlice := goodIn_r _ [5, 6, 7, 8, 9, 10, 11, 12, 13, 14, 15, 16, 17, 18, 19, 20, 21, 22, 23, 24, 25, 26, 27, 28, 29, 30, 31, 32, 33, 34, 35, 36, 37, 38, 39, 40, 41, 42, 43, 44, 45, 46, 47, 48, 49, 50, 51, 52, 53, 54, 55, 56, 57, 4, 58, 59, 60, 61, 62, 63, 64, 65, 66, 67, 68, 69, 70, 71, 72, 73, 74, 75, 76, 77, 78, 79] (by decide +kernel) (by decide +kernel)
set_option maxRecDepth 20000 in
theorem gX4_move_X4_moveSlice : GoodIn wsX4_move (wsV RX4 77 RX4 yX4_moveSlice wsX4_moveSlice) := goodIn_app (goodIn_of _ (by decide +kernel)) ggX4_move_X4_moveSlice
theorem dX4_move_0 : decode cX4_move 0 = .ok (.aload_n 0, 1) := by decide +kernel
theorem dX4_move_1 : decode cX4_move 1 = .ok (.invokevirtual 77, 3) := by decide +kernel
theorem dX4_move_4 : decode cX4_move 4 = .ok (.ireturn, 1) := by decide +kernel
theorem dX4_size_0 : decode cX4_size 0 = .ok (.aload_n 0, 1) := by decide +kernel
theorem dX4_size_1 : decode cX4_size 1 = .ok (.getfield 34, 3) := by decide +kernel
theorem dX4_size_4 : decode cX4_size 4 = .ok (.getfield 110, 3) := by decide +kernel
theorem dX4_size_7 : decode cX4_size 7 = .ok (.aload_n 0, 1) := by decide +kernel
theorem dX4_size_8 : decode cX4_size 8 = .ok (.getfield 38, 3) := by decide +kernel
theorem dX4_size_11 : decode cX4_size 11 = .ok (.getfield 110, 3) := by decide +kernel
theorem dX4_size_14 : decode cX4_size 14 = .ok (.iadd, 1) := by decide +kernel
theorem dX4_size_15 : decode cX4_size 15 = .ok (.ireturn, 1) := by decide +kernel
theorem dX4_hash_0 : decode cX4_hash 0 = .ok (.aload_n 0, 1) := by decide +kernel
theorem dX4_hash_1 : decode cX4_hash 1 = .ok (.getfield 42, 3) := by decide +kernel
theorem dX4_hash_4 : decode cX4_hash 4 = .ok (.ifCond .ne 5, 3) := by decide +kernel
theorem dX4_hash_7 : decode cX4_hash 7 = .ok (.iload_n 1, 1) := by decide +kernel
theorem dX4_hash_8 : decode cX4_hash 8 = .ok (.ireturn, 1) := by decide +kernel
theorem dX4_hash_9 : decode cX4_hash 9 = .ok (.iload_n 1, 1) := by decide +kernel
theorem dX4_hash_10 : decode cX4_hash 10 = .ok (.ldc 163, 2) := by decide +kernel
theorem dX4_hash_12 : decode cX4_hash 12 = .ok (.imul, 1) := by decide +kernel
theorem dX4_hash_13 : decode cX4_hash 13 = .ok (.istore_n 2, 1) := by decide +kernel
theorem dX4_hash_14 : decode cX4_hash 14 = .ok (.iload_n 2, 1) := by decide +kernel
theorem dX4_hash_15 : decode cX4_hash 15 = .ok (.iload_n 2, 1) := by decide +kernel
theorem dX4_hash_16 : decode cX4_hash 16 = .ok (.bipush 15, 2) := by decide +kernel
theorem dX4_hash_18 : decode cX4_hash 18 = .ok (.iushr, 1) := by decide +kernel
theorem dX4_hash_19 : decode cX4_hash 19 = .ok (.ixor, 1) := by decide +kernel
theorem dX4_hash_20 : decode cX4_hash 20 = .ok (.ireturn, 1) := by decide +kernel
set_option maxRecDepth 20000 in
theorem ggX4_slots_X4_tableOf : GoodIn wsX4_slots wsX4_tableOf := goodIn_ca (goodIn_r _ [5, 6, 7, 8, 9, 16, 17, 18, 19, 20, 21, 22] (by decide +kernel) (by decide +kernel)) (goodIn_sub (fun _ h => List.mem_cons_of_mem _ (List.mem_append_right _ h)) (by decide +kernel))
set_option maxRecDepth 20000 in
theorem gX4_slots_X4_tableOf : GoodIn wsX4_slots (wsV RX4 164 RX4 yX4_tableOf wsX4_tableOf) := goodIn_app (goodIn_of _ (by decide +kernel)) ggX4_slots_X4_tableOf
theorem dX4_slots_0 : decode cX4_slots 0 = .ok (.aload_n 0, 1) := by decide +kernel
theorem dX4_slots_1 : decode cX4_slots 1 = .ok (.iload_n 1, 1) := by decide +kernel
theorem dX4_slots_2 : decode cX4_slots 2 = .ok (.invokevirtual 164, 3) := by decide +kernel
theorem dX4_slots_5 : decode cX4_slots 5 = .ok (.getfield 168, 3) := by decide +kernel
theorem dX4_slots_8 : decode cX4_slots 8 = .ok (.ireturn, 1) := by decide +kernel
set_option maxRecDepth 20000 in
theorem ggX4_keysIn_X4_tableOf : GoodIn wsX4_keysIn wsX4_tableOf := goodIn_ca (goodIn_r _ [5, 6, 7, 8, 9, 16, 17, 18, 19, 20, 21, 22] (by decide +kernel) (by decide +kernel)) (goodIn_sub (fun _ h => List.mem_cons_of_mem _ (List.mem_append_right _ h)) (by decide +kernel))
set_option maxRecDepth 20000 in
theorem gX4_keysIn_X4_tableOf : GoodIn wsX4_keysIn (wsV RX4 164 RX4 yX4_tableOf wsX4_tableOf) := goodIn_app (goodIn_of _ (by decide +kernel)) ggX4_keysIn_X4_tableOf
theorem dX4_keysIn_0 : decode cX4_keysIn 0 = .ok (.aload_n 0, 1) := by decide +kernel
theorem dX4_keysIn_1 : decode cX4_keysIn 1 = .ok (.iload_n 1, 1) := by decide +kernel
theorem dX4_keysIn_2 : decode cX4_keysIn 2 = .ok (.invokevirtual 164, 3) := by decide +kernel
theorem dX4_keysIn_5 : decode cX4_keysIn 5 = .ok (.getfield 110, 3) := by decide +kernel
theorem dX4_keysIn_8 : decode cX4_keysIn 8 = .ok (.ireturn, 1) := by decide +kernel
set_option maxRecDepth 20000 in
theorem ggX4_control_X4_tableWithSlot : GoodIn wsX4_control wsX4_tableWithSlot := goodIn_ca (goodIn_r _ [5, 6, 7, 8, 9, 10, 4, 11, 12, 13, 20, 21, 22, 23, 24, 25, 26, 27, 28, 29, 30, 31, 32] (by decide +kernel) (by decide +kernel)) (goodIn_sub (fun _ h => List.mem_cons_of_mem _ (List.mem_append_right _ h)) (by decide +kernel))
set_option maxRecDepth 20000 in
theorem gX4_control_X4_tableWithSlot : GoodIn wsX4_control (wsV RX4 171 RX4 yX4_tableWithSlot wsX4_tableWithSlot) := goodIn_app (goodIn_of _ (by decide +kernel)) ggX4_control_X4_tableWithSlot
set_option maxRecDepth 20000 in
theorem ggX4_control_X3_controlIn : GoodIn wsX4_control wsX3_controlIn := goodIn_r _ [18, 19, 20, 21, 22, 23, 24, 25] (by decide +kernel) (by decide +kernel)
set_option maxRecDepth 20000 in
theorem gX4_control_X3_controlIn : GoodIn wsX4_control (wsV RX4 175 RX3 yX3_controlIn wsX3_controlIn) := goodIn_app (goodIn_of _ (by decide +kernel)) ggX4_control_X3_controlIn
theorem dX4_control_0 : decode cX4_control 0 = .ok (.aload_n 0, 1) := by decide +kernel
theorem dX4_control_1 : decode cX4_control 1 = .ok (.iload_n 1, 1) := by decide +kernel
theorem dX4_control_2 : decode cX4_control 2 = .ok (.iload_n 2, 1) := by decide +kernel
theorem dX4_control_3 : decode cX4_control 3 = .ok (.invokevirtual 171, 3) := by decide +kernel
theorem dX4_control_6 : decode cX4_control 6 = .ok (.iload_n 2, 1) := by decide +kernel
theorem dX4_control_7 : decode cX4_control 7 = .ok (.invokevirtual 175, 3) := by decide +kernel
theorem dX4_control_10 : decode cX4_control 10 = .ok (.ireturn, 1) := by decide +kernel
set_option maxRecDepth 20000 in
theorem ggX4_keyAt_X4_tableWithSlot : GoodIn wsX4_keyAt wsX4_tableWithSlot := goodIn_ca (goodIn_r _ [7, 8, 9, 10, 11, 12, 6, 13, 14, 15, 27, 28, 29, 30, 31, 32, 33, 34, 35, 36, 37, 38, 39] (by decide +kernel) (by decide +kernel)) (goodIn_sub (fun _ h => List.mem_cons_of_mem _ (List.mem_append_right _ h)) (by decide +kernel))
set_option maxRecDepth 20000 in
theorem gX4_keyAt_X4_tableWithSlot : GoodIn wsX4_keyAt (wsV RX4 171 RX4 yX4_tableWithSlot wsX4_tableWithSlot) := goodIn_app (goodIn_of _ (by decide +kernel)) ggX4_keyAt_X4_tableWithSlot
set_option maxRecDepth 20000 in
theorem ggX4_keyAt_X3_isEmptyIn : GoodIn wsX4_keyAt wsX3_isEmptyIn := goodIn_r _ [20, 21, 27, 28, 29, 30, 31, 32] (by decide +kernel) (by decide +kernel)
set_option maxRecDepth 20000 in
theorem gX4_keyAt_X3_isEmptyIn : GoodIn wsX4_keyAt (wsV RX4 179 RX3 yX3_isEmptyIn wsX3_isEmptyIn) := goodIn_app (goodIn_of _ (by decide +kernel)) ggX4_keyAt_X3_isEmptyIn
set_option maxRecDepth 20000 in
theorem ggX4_keyAt_X3_keyIn : GoodIn wsX4_keyAt wsX3_keyIn := goodIn_r _ [25, 26, 27, 28, 29, 30, 31, 32] (by decide +kernel) (by decide +kernel)
set_option maxRecDepth 20000 in
theorem gX4_keyAt_X3_keyIn : GoodIn wsX4_keyAt (wsV RX4 136 RX3 yX3_keyIn wsX3_keyIn) := goodIn_app (goodIn_of _ (by decide +kernel)) ggX4_keyAt_X3_keyIn
theorem dX4_keyAt_0 : decode cX4_keyAt 0 = .ok (.aload_n 0, 1) := by decide +kernel
theorem dX4_keyAt_1 : decode cX4_keyAt 1 = .ok (.iload_n 1, 1) := by decide +kernel
theorem dX4_keyAt_2 : decode cX4_keyAt 2 = .ok (.iload_n 2, 1) := by decide +kernel
theorem dX4_keyAt_3 : decode cX4_keyAt 3 = .ok (.invokevirtual 171, 3) := by decide +kernel
theorem dX4_keyAt_6 : decode cX4_keyAt 6 = .ok (.astore_n 3, 1) := by decide +kernel
theorem dX4_keyAt_7 : decode cX4_keyAt 7 = .ok (.aload_n 3, 1) := by decide +kernel
theorem dX4_keyAt_8 : decode cX4_keyAt 8 = .ok (.iload_n 2, 1) := by decide +kernel
theorem dX4_keyAt_9 : decode cX4_keyAt 9 = .ok (.invokevirtual 179, 3) := by decide +kernel
theorem dX4_keyAt_12 : decode cX4_keyAt 12 = .ok (.ifCond .eq 13, 3) := by decide +kernel
theorem dX4_keyAt_15 : decode cX4_keyAt 15 = .ok (.new 72, 3) := by decide +kernel
theorem dX4_keyAt_18 : decode cX4_keyAt 18 = .ok (.dup, 1) := by decide +kernel
theorem dX4_keyAt_19 : decode cX4_keyAt 19 = .ok (.ldc 183, 2) := by decide +kernel
theorem dX4_keyAt_21 : decode cX4_keyAt 21 = .ok (.invokespecial 76, 3) := by decide +kernel
theorem dX4_keyAt_24 : decode cX4_keyAt 24 = .ok (.athrow, 1) := by decide +kernel
theorem dX4_keyAt_25 : decode cX4_keyAt 25 = .ok (.aload_n 3, 1) := by decide +kernel
theorem dX4_keyAt_26 : decode cX4_keyAt 26 = .ok (.iload_n 2, 1) := by decide +kernel
theorem dX4_keyAt_27 : decode cX4_keyAt 27 = .ok (.invokevirtual 136, 3) := by decide +kernel
theorem dX4_keyAt_30 : decode cX4_keyAt 30 = .ok (.ireturn, 1) := by decide +kernel
set_option maxRecDepth 20000 in
theorem ggX4_distanceAt_X4_tableWithSlot : GoodIn wsX4_distanceAt wsX4_tableWithSlot := goodIn_ca (goodIn_r _ [5, 6, 7, 8, 9, 10, 4, 11, 12, 13, 30, 31, 32, 33, 34, 35, 36, 37, 38, 39, 40, 41, 42] (by decide +kernel) (by decide +kernel)) (goodIn_sub (fun _ h => List.mem_cons_of_mem _ (List.mem_append_right _ h)) (by decide +kernel))
set_option maxRecDepth 20000 in
theorem gX4_distanceAt_X4_tableWithSlot : GoodIn wsX4_distanceAt (wsV RX4 171 RX4 yX4_tableWithSlot wsX4_tableWithSlot) := goodIn_app (goodIn_of _ (by decide +kernel)) ggX4_distanceAt_X4_tableWithSlot
set_option maxRecDepth 20000 in
theorem ggX4_distanceAt_X3_distanceIn : GoodIn wsX4_distanceAt wsX3_distanceIn := goodIn_r _ [18, 19, 20, 21, 22, 17, 23, 24, 25, 26, 27, 28, 29, 30, 31, 32, 33, 34, 35] (by decide +kernel) (by decide +kernel)
set_option maxRecDepth 20000 in
theorem gX4_distanceAt_X3_distanceIn : GoodIn wsX4_distanceAt (wsV RX4 185 RX3 yX3_distanceIn wsX3_distanceIn) := goodIn_app (goodIn_of _ (by decide +kernel)) ggX4_distanceAt_X3_distanceIn
theorem dX4_distanceAt_0 : decode cX4_distanceAt 0 = .ok (.aload_n 0, 1) := by decide +kernel
theorem dX4_distanceAt_1 : decode cX4_distanceAt 1 = .ok (.iload_n 1, 1) := by decide +kernel
theorem dX4_distanceAt_2 : decode cX4_distanceAt 2 = .ok (.iload_n 2, 1) := by decide +kernel
theorem dX4_distanceAt_3 : decode cX4_distanceAt 3 = .ok (.invokevirtual 171, 3) := by decide +kernel
theorem dX4_distanceAt_6 : decode cX4_distanceAt 6 = .ok (.iload_n 2, 1) := by decide +kernel
theorem dX4_distanceAt_7 : decode cX4_distanceAt 7 = .ok (.invokevirtual 185, 3) := by decide +kernel
theorem dX4_distanceAt_10 : decode cX4_distanceAt 10 = .ok (.ireturn, 1) := by decide +kernel
set_option maxRecDepth 20000 in
theorem ggX4_longest_X3_distanceIn : GoodIn wsX4_longest wsX3_distanceIn := goodIn_r _ [10, 11, 12, 13, 14, 9, 15, 16, 17, 18, 19, 20, 21, 29, 30, 31, 32, 33, 34] (by decide +kernel) (by decide +kernel)
set_option maxRecDepth 20000 in
theorem gX4_longest_X3_distanceIn : GoodIn wsX4_longest (wsV RX4 185 RX3 yX3_distanceIn wsX3_distanceIn) := goodIn_app (goodIn_of _ (by decide +kernel)) ggX4_longest_X3_distanceIn
theorem dX4_longest_0 : decode cX4_longest 0 = .ok (.iconst (-1), 1) := by decide +kernel
theorem dX4_longest_1 : decode cX4_longest 1 = .ok (.istore_n 1, 1) := by decide +kernel
theorem dX4_longest_2 : decode cX4_longest 2 = .ok (.iconst 0, 1) := by decide +kernel
theorem dX4_longest_3 : decode cX4_longest 3 = .ok (.istore_n 2, 1) := by decide +kernel
theorem dX4_longest_4 : decode cX4_longest 4 = .ok (.iload_n 2, 1) := by decide +kernel
theorem dX4_longest_5 : decode cX4_longest 5 = .ok (.aload_n 0, 1) := by decide +kernel
theorem dX4_longest_6 : decode cX4_longest 6 = .ok (.getfield 34, 3) := by decide +kernel
theorem dX4_longest_9 : decode cX4_longest 9 = .ok (.getfield 168, 3) := by decide +kernel
theorem dX4_longest_12 : decode cX4_longest 12 = .ok (.if_icmp .ge 22, 3) := by decide +kernel
theorem dX4_longest_15 : decode cX4_longest 15 = .ok (.iload_n 1, 1) := by decide +kernel
theorem dX4_longest_16 : decode cX4_longest 16 = .ok (.aload_n 0, 1) := by decide +kernel
theorem dX4_longest_17 : decode cX4_longest 17 = .ok (.getfield 34, 3) := by decide +kernel
theorem dX4_longest_20 : decode cX4_longest 20 = .ok (.iload_n 2, 1) := by decide +kernel
theorem dX4_longest_21 : decode cX4_longest 21 = .ok (.invokevirtual 185, 3) := by decide +kernel
theorem dX4_longest_24 : decode cX4_longest 24 = .ok (.invokestatic 188, 3) := by decide +kernel
theorem dX4_longest_27 : decode cX4_longest 27 = .ok (.istore_n 1, 1) := by decide +kernel
theorem dX4_longest_28 : decode cX4_longest 28 = .ok (.iinc 2 1, 3) := by decide +kernel
theorem dX4_longest_31 : decode cX4_longest 31 = .ok (.goto (-27), 3) := by decide +kernel
theorem dX4_longest_34 : decode cX4_longest 34 = .ok (.iload_n 1, 1) := by decide +kernel
theorem dX4_longest_35 : decode cX4_longest 35 = .ok (.ireturn, 1) := by decide +kernel
set_option maxRecDepth 20000 in
theorem ggX4_total_X3_distanceIn : GoodIn wsX4_total wsX3_distanceIn := goodIn_r _ [10, 11, 12, 13, 14, 9, 15, 16, 17, 18, 19, 20, 21, 29, 30, 31, 32, 33, 34] (by decide +kernel) (by decide +kernel)
set_option maxRecDepth 20000 in
theorem gX4_total_X3_distanceIn : GoodIn wsX4_total (wsV RX4 185 RX3 yX3_distanceIn wsX3_distanceIn) := goodIn_app (goodIn_of _ (by decide +kernel)) ggX4_total_X3_distanceIn
theorem dX4_total_0 : decode cX4_total 0 = .ok (.iconst 0, 1) := by decide +kernel
theorem dX4_total_1 : decode cX4_total 1 = .ok (.istore_n 1, 1) := by decide +kernel
theorem dX4_total_2 : decode cX4_total 2 = .ok (.iconst 0, 1) := by decide +kernel
theorem dX4_total_3 : decode cX4_total 3 = .ok (.istore_n 2, 1) := by decide +kernel
theorem dX4_total_4 : decode cX4_total 4 = .ok (.iload_n 2, 1) := by decide +kernel
theorem dX4_total_5 : decode cX4_total 5 = .ok (.aload_n 0, 1) := by decide +kernel
theorem dX4_total_6 : decode cX4_total 6 = .ok (.getfield 34, 3) := by decide +kernel
theorem dX4_total_9 : decode cX4_total 9 = .ok (.getfield 168, 3) := by decide +kernel
theorem dX4_total_12 : decode cX4_total 12 = .ok (.if_icmp .ge 24, 3) := by decide +kernel
theorem dX4_total_15 : decode cX4_total 15 = .ok (.iload_n 1, 1) := by decide +kernel
theorem dX4_total_16 : decode cX4_total 16 = .ok (.iconst 0, 1) := by decide +kernel
theorem dX4_total_17 : decode cX4_total 17 = .ok (.aload_n 0, 1) := by decide +kernel
theorem dX4_total_18 : decode cX4_total 18 = .ok (.getfield 34, 3) := by decide +kernel
theorem dX4_total_21 : decode cX4_total 21 = .ok (.iload_n 2, 1) := by decide +kernel
theorem dX4_total_22 : decode cX4_total 22 = .ok (.invokevirtual 185, 3) := by decide +kernel
theorem dX4_total_25 : decode cX4_total 25 = .ok (.invokestatic 188, 3) := by decide +kernel
theorem dX4_total_28 : decode cX4_total 28 = .ok (.iadd, 1) := by decide +kernel
theorem dX4_total_29 : decode cX4_total 29 = .ok (.istore_n 1, 1) := by decide +kernel
theorem dX4_total_30 : decode cX4_total 30 = .ok (.iinc 2 1, 3) := by decide +kernel
theorem dX4_total_33 : decode cX4_total 33 = .ok (.goto (-29), 3) := by decide +kernel
theorem dX4_total_36 : decode cX4_total 36 = .ok (.iload_n 1, 1) := by decide +kernel
theorem dX4_total_37 : decode cX4_total 37 = .ok (.ireturn, 1) := by decide +kernel
set_option maxRecDepth 20000 in
theorem ggX4_groups_X4_lookUp : GoodIn wsX4_groups wsX4_lookUp := goodIn_r _ [6, 1, 7, 8, 9, 10, 11, 5, 12, 13, 14, 15, 16, 17, 18, 19, 20, 21, 22, 23, 24, 25, 26, 27, 28, 29, 30, 31, 32, 33, 34, 35, 36, 37, 38, 39, 40, 41, 42, 43, 44, 45, 46, 47, 48, 49, 50, 51, 52, 53, 54, 55, 56, 57, 58, 59, 60, 61, 62, 63, 64, 65, 66, 67, 68, 69, 70, 71, 72, 73] (by decide +kernel) (by decide +kernel)
set_option maxRecDepth 20000 in
theorem gX4_groups_X4_lookUp : GoodIn wsX4_groups (wsV RX4 80 RX4 yX4_lookUp wsX4_lookUp) := goodIn_app (goodIn_of _ (by decide +kernel)) ggX4_groups_X4_lookUp
theorem dX4_groups_0 : decode cX4_groups 0 = .ok (.aload_n 0, 1) := by decide +kernel
theorem dX4_groups_1 : decode cX4_groups 1 = .ok (.iload_n 1, 1) := by decide +kernel
theorem dX4_groups_2 : decode cX4_groups 2 = .ok (.invokevirtual 80, 3) := by decide +kernel
theorem dX4_groups_5 : decode cX4_groups 5 = .ok (.aload_n 0, 1) := by decide +kernel
theorem dX4_groups_6 : decode cX4_groups 6 = .ok (.getfield 18, 3) := by decide +kernel
theorem dX4_groups_9 : decode cX4_groups 9 = .ok (.getfield 193, 3) := by decide +kernel
theorem dX4_groups_12 : decode cX4_groups 12 = .ok (.ireturn, 1) := by decide +kernel
set_option maxRecDepth 20000 in
theorem ggX4_comparisons_X4_lookUp : GoodIn wsX4_comparisons wsX4_lookUp := goodIn_r _ [6, 1, 7, 8, 9, 10, 11, 5, 12, 13, 14, 15, 16, 17, 18, 19, 20, 21, 22, 23, 24, 25, 26, 27, 28, 29, 30, 31, 32, 33, 34, 35, 36, 37, 38, 39, 40, 41, 42, 43, 44, 45, 46, 47, 48, 49, 50, 51, 52, 53, 54, 55, 56, 57, 58, 59, 60, 61, 62, 63, 64, 65, 66, 67, 68, 69, 70, 71, 72, 73] (by decide +kernel) (by decide +kernel)
set_option maxRecDepth 20000 in
theorem gX4_comparisons_X4_lookUp : GoodIn wsX4_comparisons (wsV RX4 80 RX4 yX4_lookUp wsX4_lookUp) := goodIn_app (goodIn_of _ (by decide +kernel)) ggX4_comparisons_X4_lookUp
theorem dX4_comparisons_0 : decode cX4_comparisons 0 = .ok (.aload_n 0, 1) := by decide +kernel
theorem dX4_comparisons_1 : decode cX4_comparisons 1 = .ok (.iload_n 1, 1) := by decide +kernel
theorem dX4_comparisons_2 : decode cX4_comparisons 2 = .ok (.invokevirtual 80, 3) := by decide +kernel
theorem dX4_comparisons_5 : decode cX4_comparisons 5 = .ok (.aload_n 0, 1) := by decide +kernel
theorem dX4_comparisons_6 : decode cX4_comparisons 6 = .ok (.getfield 18, 3) := by decide +kernel
theorem dX4_comparisons_9 : decode cX4_comparisons 9 = .ok (.getfield 196, 3) := by decide +kernel
theorem dX4_comparisons_12 : decode cX4_comparisons 12 = .ok (.ireturn, 1) := by decide +kernel
set_option maxRecDepth 20000 in
theorem ggX4_plainTotal_X0_fillFrom : GoodIn wsX4_plainTotal wsX0_fillFrom := goodIn_r _ [7, 8, 9, 10, 11, 12, 13, 14, 15, 16, 17, 18, 6, 19, 20, 21, 22, 23, 24, 25, 26, 27, 28, 29, 30, 31, 32, 33, 34, 35, 36, 37, 38, 39, 40, 41, 42, 43, 44, 52, 53, 54, 55, 56, 57, 58, 59, 60, 61] (by decide +kernel) (by decide +kernel)
set_option maxRecDepth 20000 in
theorem gX4_plainTotal_X0_fillFrom : GoodIn wsX4_plainTotal (wsV RX4 212 RX0 yX0_fillFrom wsX0_fillFrom) := goodIn_app (goodIn_of _ (by decide +kernel)) ggX4_plainTotal_X0_fillFrom
theorem dX4_plainTotal_0 : decode cX4_plainTotal 0 = .ok (.aload_n 0, 1) := by decide +kernel
theorem dX4_plainTotal_1 : decode cX4_plainTotal 1 = .ok (.getfield 25, 3) := by decide +kernel
theorem dX4_plainTotal_4 : decode cX4_plainTotal 4 = .ok (.aload_n 0, 1) := by decide +kernel
theorem dX4_plainTotal_5 : decode cX4_plainTotal 5 = .ok (.getfield 34, 3) := by decide +kernel
theorem dX4_plainTotal_8 : decode cX4_plainTotal 8 = .ok (.invokevirtual 212, 3) := by decide +kernel
theorem dX4_plainTotal_11 : decode cX4_plainTotal 11 = .ok (.aload_n 0, 1) := by decide +kernel
theorem dX4_plainTotal_12 : decode cX4_plainTotal 12 = .ok (.getfield 25, 3) := by decide +kernel
theorem dX4_plainTotal_15 : decode cX4_plainTotal 15 = .ok (.getfield 216, 3) := by decide +kernel
theorem dX4_plainTotal_18 : decode cX4_plainTotal 18 = .ok (.ireturn, 1) := by decide +kernel
set_option maxRecDepth 20000 in
theorem ggX4_plainLongest_X0_fillFrom : GoodIn wsX4_plainLongest wsX0_fillFrom := goodIn_r _ [7, 8, 9, 10, 11, 12, 13, 14, 15, 16, 17, 18, 6, 19, 20, 21, 22, 23, 24, 25, 26, 27, 28, 29, 30, 31, 32, 33, 34, 35, 36, 37, 38, 39, 40, 41, 42, 43, 44, 52, 53, 54, 55, 56, 57, 58, 59, 60, 61] (by decide +kernel) (by decide +kernel)
set_option maxRecDepth 20000 in
theorem gX4_plainLongest_X0_fillFrom : GoodIn wsX4_plainLongest (wsV RX4 212 RX0 yX0_fillFrom wsX0_fillFrom) := goodIn_app (goodIn_of _ (by decide +kernel)) ggX4_plainLongest_X0_fillFrom
theorem dX4_plainLongest_0 : decode cX4_plainLongest 0 = .ok (.aload_n 0, 1) := by decide +kernel
theorem dX4_plainLongest_1 : decode cX4_plainLongest 1 = .ok (.getfield 25, 3) := by decide +kernel
theorem dX4_plainLongest_4 : decode cX4_plainLongest 4 = .ok (.aload_n 0, 1) := by decide +kernel
theorem dX4_plainLongest_5 : decode cX4_plainLongest 5 = .ok (.getfield 34, 3) := by decide +kernel
theorem dX4_plainLongest_8 : decode cX4_plainLongest 8 = .ok (.invokevirtual 212, 3) := by decide +kernel
theorem dX4_plainLongest_11 : decode cX4_plainLongest 11 = .ok (.aload_n 0, 1) := by decide +kernel
theorem dX4_plainLongest_12 : decode cX4_plainLongest 12 = .ok (.getfield 25, 3) := by decide +kernel
theorem dX4_plainLongest_15 : decode cX4_plainLongest 15 = .ok (.getfield 219, 3) := by decide +kernel
theorem dX4_plainLongest_18 : decode cX4_plainLongest 18 = .ok (.ireturn, 1) := by decide +kernel
theorem dX4_tableOf_0 : decode cX4_tableOf 0 = .ok (.iload_n 1, 1) := by decide +kernel
theorem dX4_tableOf_1 : decode cX4_tableOf 1 = .ok (.ifCond .eq 18, 3) := by decide +kernel
theorem dX4_tableOf_4 : decode cX4_tableOf 4 = .ok (.iload_n 1, 1) := by decide +kernel
theorem dX4_tableOf_5 : decode cX4_tableOf 5 = .ok (.iconst 1, 1) := by decide +kernel
theorem dX4_tableOf_6 : decode cX4_tableOf 6 = .ok (.if_icmp .eq 13, 3) := by decide +kernel
theorem dX4_tableOf_9 : decode cX4_tableOf 9 = .ok (.new 222, 3) := by decide +kernel
theorem dX4_tableOf_12 : decode cX4_tableOf 12 = .ok (.dup, 1) := by decide +kernel
theorem dX4_tableOf_13 : decode cX4_tableOf 13 = .ok (.ldc 224, 2) := by decide +kernel
theorem dX4_tableOf_15 : decode cX4_tableOf 15 = .ok (.invokespecial 226, 3) := by decide +kernel
theorem dX4_tableOf_18 : decode cX4_tableOf 18 = .ok (.athrow, 1) := by decide +kernel
theorem dX4_tableOf_19 : decode cX4_tableOf 19 = .ok (.iload_n 1, 1) := by decide +kernel
theorem dX4_tableOf_20 : decode cX4_tableOf 20 = .ok (.ifCond .ne 10, 3) := by decide +kernel
theorem dX4_tableOf_23 : decode cX4_tableOf 23 = .ok (.aload_n 0, 1) := by decide +kernel
theorem dX4_tableOf_24 : decode cX4_tableOf 24 = .ok (.getfield 34, 3) := by decide +kernel
theorem dX4_tableOf_27 : decode cX4_tableOf 27 = .ok (.goto 7, 3) := by decide +kernel
theorem dX4_tableOf_30 : decode cX4_tableOf 30 = .ok (.aload_n 0, 1) := by decide +kernel
theorem dX4_tableOf_31 : decode cX4_tableOf 31 = .ok (.getfield 38, 3) := by decide +kernel
theorem dX4_tableOf_34 : decode cX4_tableOf 34 = .ok (.areturn, 1) := by decide +kernel
set_option maxRecDepth 20000 in
theorem ggX4_tableWithSlot_X4_tableOf : GoodIn wsX4_tableWithSlot wsX4_tableOf := goodIn_ca (goodIn_r _ [7, 1, 2, 8, 9, 16, 17, 18, 19, 20, 21, 22] (by decide +kernel) (by decide +kernel)) (goodIn_sub (fun _ h => List.mem_cons_of_mem _ (List.mem_append_right _ h)) (by decide +kernel))
set_option maxRecDepth 20000 in
theorem gX4_tableWithSlot_X4_tableOf : GoodIn wsX4_tableWithSlot (wsV RX4 164 RX4 yX4_tableOf wsX4_tableOf) := goodIn_app (goodIn_of _ (by decide +kernel)) ggX4_tableWithSlot_X4_tableOf
theorem dX4_tableWithSlot_0 : decode cX4_tableWithSlot 0 = .ok (.aload_n 0, 1) := by decide +kernel
theorem dX4_tableWithSlot_1 : decode cX4_tableWithSlot 1 = .ok (.iload_n 1, 1) := by decide +kernel
theorem dX4_tableWithSlot_2 : decode cX4_tableWithSlot 2 = .ok (.invokevirtual 164, 3) := by decide +kernel
theorem dX4_tableWithSlot_5 : decode cX4_tableWithSlot 5 = .ok (.astore_n 3, 1) := by decide +kernel
theorem dX4_tableWithSlot_6 : decode cX4_tableWithSlot 6 = .ok (.iload_n 2, 1) := by decide +kernel
theorem dX4_tableWithSlot_7 : decode cX4_tableWithSlot 7 = .ok (.ifCond .lt 11, 3) := by decide +kernel
theorem dX4_tableWithSlot_10 : decode cX4_tableWithSlot 10 = .ok (.iload_n 2, 1) := by decide +kernel
theorem dX4_tableWithSlot_11 : decode cX4_tableWithSlot 11 = .ok (.aload_n 3, 1) := by decide +kernel
theorem dX4_tableWithSlot_12 : decode cX4_tableWithSlot 12 = .ok (.getfield 168, 3) := by decide +kernel
theorem dX4_tableWithSlot_15 : decode cX4_tableWithSlot 15 = .ok (.if_icmp .lt 13, 3) := by decide +kernel
theorem dX4_tableWithSlot_18 : decode cX4_tableWithSlot 18 = .ok (.new 222, 3) := by decide +kernel
theorem dX4_tableWithSlot_21 : decode cX4_tableWithSlot 21 = .ok (.dup, 1) := by decide +kernel
theorem dX4_tableWithSlot_22 : decode cX4_tableWithSlot 22 = .ok (.ldc 227, 2) := by decide +kernel
theorem dX4_tableWithSlot_24 : decode cX4_tableWithSlot 24 = .ok (.invokespecial 226, 3) := by decide +kernel
theorem dX4_tableWithSlot_27 : decode cX4_tableWithSlot 27 = .ok (.athrow, 1) := by decide +kernel
theorem dX4_tableWithSlot_28 : decode cX4_tableWithSlot 28 = .ok (.aload_n 3, 1) := by decide +kernel
theorem dX4_tableWithSlot_29 : decode cX4_tableWithSlot 29 = .ok (.areturn, 1) := by decide +kernel
set_option maxRecDepth 20000 in
theorem ggX4_lookUp_X4_hash : GoodIn wsX4_lookUp wsX4_hash := goodIn_r _ [8, 9, 10, 53, 54, 55, 56, 57, 58, 59] (by decide +kernel) (by decide +kernel)
set_option maxRecDepth 20000 in
theorem gX4_lookUp_X4_hash : GoodIn wsX4_lookUp (wsV RX4 199 RX4 yX4_hash wsX4_hash) := goodIn_app (goodIn_of _ (by decide +kernel)) ggX4_lookUp_X4_hash
set_option maxRecDepth 20000 in
theorem ggX4_lookUp_X1_begin : GoodIn wsX4_lookUp wsX1_begin := goodIn_r _ [15, 16, 17, 18, 60, 61, 62, 63] (by decide +kernel) (by decide +kernel)
set_option maxRecDepth 20000 in
theorem gX4_lookUp_X1_begin : GoodIn wsX4_lookUp (wsV RX4 202 RX1 yX1_begin wsX1_begin) := goodIn_app (goodIn_of _ (by decide +kernel)) ggX4_lookUp_X1_begin
set_option maxRecDepth 20000 in
theorem ggX4_lookUp_X1_lookIn : GoodIn wsX4_lookUp wsX1_lookIn := goodIn_r _ [22, 17, 23, 24, 25, 14, 26, 18, 16, 27, 28, 29, 30, 31, 32, 33, 34, 35, 36, 37, 38, 39, 40, 41, 42, 43, 44, 45, 46, 47, 48, 49, 50, 51, 64, 65, 66, 67, 68, 69, 60, 61, 62, 63] (by decide +kernel) (by decide +kernel)
set_option maxRecDepth 20000 in
theorem gX4_lookUp_X1_lookIn : GoodIn wsX4_lookUp (wsV RX4 203 RX1 yX1_lookIn wsX1_lookIn) := goodIn_app (goodIn_of _ (by decide +kernel)) ggX4_lookUp_X1_lookIn
set_option maxRecDepth 20000 in
theorem ggX4_lookUp_X1_hasFound : GoodIn wsX4_lookUp wsX1_hasFound := goodIn_r _ [31, 16, 60, 61, 62, 63] (by decide +kernel) (by decide +kernel)
set_option maxRecDepth 20000 in
theorem gX4_lookUp_X1_hasFound : GoodIn wsX4_lookUp (wsV RX4 83 RX1 yX1_hasFound wsX1_hasFound) := goodIn_app (goodIn_of _ (by decide +kernel)) ggX4_lookUp_X1_hasFound
theorem dX4_lookUp_0 : decode cX4_lookUp 0 = .ok (.aload_n 0, 1) := by decide +kernel
theorem dX4_lookUp_1 : decode cX4_lookUp 1 = .ok (.iload_n 1, 1) := by decide +kernel
theorem dX4_lookUp_2 : decode cX4_lookUp 2 = .ok (.invokevirtual 199, 3) := by decide +kernel
theorem dX4_lookUp_5 : decode cX4_lookUp 5 = .ok (.istore_n 2, 1) := by decide +kernel
theorem dX4_lookUp_6 : decode cX4_lookUp 6 = .ok (.aload_n 0, 1) := by decide +kernel
theorem dX4_lookUp_7 : decode cX4_lookUp 7 = .ok (.getfield 18, 3) := by decide +kernel
theorem dX4_lookUp_10 : decode cX4_lookUp 10 = .ok (.invokevirtual 202, 3) := by decide +kernel
theorem dX4_lookUp_13 : decode cX4_lookUp 13 = .ok (.aload_n 0, 1) := by decide +kernel
theorem dX4_lookUp_14 : decode cX4_lookUp 14 = .ok (.getfield 18, 3) := by decide +kernel
theorem dX4_lookUp_17 : decode cX4_lookUp 17 = .ok (.aload_n 0, 1) := by decide +kernel
theorem dX4_lookUp_18 : decode cX4_lookUp 18 = .ok (.getfield 34, 3) := by decide +kernel
theorem dX4_lookUp_21 : decode cX4_lookUp 21 = .ok (.iload_n 1, 1) := by decide +kernel
theorem dX4_lookUp_22 : decode cX4_lookUp 22 = .ok (.iload_n 2, 1) := by decide +kernel
theorem dX4_lookUp_23 : decode cX4_lookUp 23 = .ok (.invokevirtual 203, 3) := by decide +kernel
theorem dX4_lookUp_26 : decode cX4_lookUp 26 = .ok (.aload_n 0, 1) := by decide +kernel
theorem dX4_lookUp_27 : decode cX4_lookUp 27 = .ok (.getfield 18, 3) := by decide +kernel
theorem dX4_lookUp_30 : decode cX4_lookUp 30 = .ok (.invokevirtual 83, 3) := by decide +kernel
theorem dX4_lookUp_33 : decode cX4_lookUp 33 = .ok (.ifCond .ne 16, 3) := by decide +kernel
theorem dX4_lookUp_36 : decode cX4_lookUp 36 = .ok (.aload_n 0, 1) := by decide +kernel
theorem dX4_lookUp_37 : decode cX4_lookUp 37 = .ok (.getfield 18, 3) := by decide +kernel
theorem dX4_lookUp_40 : decode cX4_lookUp 40 = .ok (.aload_n 0, 1) := by decide +kernel
theorem dX4_lookUp_41 : decode cX4_lookUp 41 = .ok (.getfield 38, 3) := by decide +kernel
theorem dX4_lookUp_44 : decode cX4_lookUp 44 = .ok (.iload_n 1, 1) := by decide +kernel
theorem dX4_lookUp_45 : decode cX4_lookUp 45 = .ok (.iload_n 2, 1) := by decide +kernel
theorem dX4_lookUp_46 : decode cX4_lookUp 46 = .ok (.invokevirtual 203, 3) := by decide +kernel
theorem dX4_lookUp_49 : decode cX4_lookUp 49 = .ok (.return_, 1) := by decide +kernel
set_option maxRecDepth 20000 in
theorem ggX4_putNew_X4_size : GoodIn wsX4_putNew wsX4_size := goodIn_r _ [6, 1, 7, 54, 55, 56, 57, 58, 59, 60, 61, 62, 63, 64, 65, 66] (by decide +kernel) (by decide +kernel)
set_option maxRecDepth 20000 in
theorem gX4_putNew_X4_size : GoodIn wsX4_putNew (wsV RX4 64 RX4 yX4_size wsX4_size) := goodIn_app (goodIn_of _ (by decide +kernel)) ggX4_putNew_X4_size
set_option maxRecDepth 20000 in
theorem ggX4_putNew_X4_beginMove : GoodIn wsX4_putNew wsX4_beginMove := goodIn_r _ [11, 7, 1, 12, 13, 14, 15, 16, 17, 18, 19, 20, 21, 22, 23, 24, 54, 55, 56, 57, 58, 59, 60, 61, 62, 63, 64, 65, 66] (by decide +kernel) (by decide +kernel)
set_option maxRecDepth 20000 in
theorem gX4_putNew_X4_beginMove : GoodIn wsX4_putNew (wsV RX4 235 RX4 yX4_beginMove wsX4_beginMove) := goodIn_app (goodIn_of _ (by decide +kernel)) ggX4_putNew_X4_beginMove
set_option maxRecDepth 20000 in
theorem ggX4_putNew_X4_hash : GoodIn wsX4_putNew wsX4_hash := goodIn_r _ [28, 29, 30, 54, 55, 56, 57, 58, 59, 60] (by decide +kernel) (by decide +kernel)
set_option maxRecDepth 20000 in
theorem gX4_putNew_X4_hash : GoodIn wsX4_putNew (wsV RX4 199 RX4 yX4_hash wsX4_hash) := goodIn_app (goodIn_of _ (by decide +kernel)) ggX4_putNew_X4_hash
set_option maxRecDepth 20000 in
theorem ggX4_putNew_X3_carryIn : GoodIn wsX4_putNew wsX3_carryIn := goodIn_r _ [34, 22, 23, 35, 36, 37, 38, 39, 40, 16, 41, 42, 43, 44, 45, 46, 47, 48, 49, 24, 50, 51, 52, 53, 61, 62, 63, 64, 65, 66] (by decide +kernel) (by decide +kernel)
set_option maxRecDepth 20000 in
theorem gX4_putNew_X3_carryIn : GoodIn wsX4_putNew (wsV RX4 238 RX3 yX3_carryIn wsX3_carryIn) := goodIn_app (goodIn_of _ (by decide +kernel)) ggX4_putNew_X3_carryIn
theorem dX4_putNew_0 : decode cX4_putNew 0 = .ok (.bipush 8, 2) := by decide +kernel
theorem dX4_putNew_2 : decode cX4_putNew 2 = .ok (.aload_n 0, 1) := by decide +kernel
theorem dX4_putNew_3 : decode cX4_putNew 3 = .ok (.invokevirtual 64, 3) := by decide +kernel
theorem dX4_putNew_6 : decode cX4_putNew 6 = .ok (.iconst 1, 1) := by decide +kernel
theorem dX4_putNew_7 : decode cX4_putNew 7 = .ok (.iadd, 1) := by decide +kernel
theorem dX4_putNew_8 : decode cX4_putNew 8 = .ok (.imul, 1) := by decide +kernel
theorem dX4_putNew_9 : decode cX4_putNew 9 = .ok (.bipush 7, 2) := by decide +kernel
theorem dX4_putNew_11 : decode cX4_putNew 11 = .ok (.aload_n 0, 1) := by decide +kernel
theorem dX4_putNew_12 : decode cX4_putNew 12 = .ok (.getfield 34, 3) := by decide +kernel
theorem dX4_putNew_15 : decode cX4_putNew 15 = .ok (.getfield 168, 3) := by decide +kernel
theorem dX4_putNew_18 : decode cX4_putNew 18 = .ok (.imul, 1) := by decide +kernel
theorem dX4_putNew_19 : decode cX4_putNew 19 = .ok (.if_icmp .le 7, 3) := by decide +kernel
theorem dX4_putNew_22 : decode cX4_putNew 22 = .ok (.aload_n 0, 1) := by decide +kernel
theorem dX4_putNew_23 : decode cX4_putNew 23 = .ok (.invokevirtual 235, 3) := by decide +kernel
theorem dX4_putNew_26 : decode cX4_putNew 26 = .ok (.aload_n 0, 1) := by decide +kernel
theorem dX4_putNew_27 : decode cX4_putNew 27 = .ok (.getfield 34, 3) := by decide +kernel
theorem dX4_putNew_30 : decode cX4_putNew 30 = .ok (.iload_n 1, 1) := by decide +kernel
theorem dX4_putNew_31 : decode cX4_putNew 31 = .ok (.iload_n 2, 1) := by decide +kernel
theorem dX4_putNew_32 : decode cX4_putNew 32 = .ok (.aload_n 0, 1) := by decide +kernel
theorem dX4_putNew_33 : decode cX4_putNew 33 = .ok (.iload_n 1, 1) := by decide +kernel
theorem dX4_putNew_34 : decode cX4_putNew 34 = .ok (.invokevirtual 199, 3) := by decide +kernel
theorem dX4_putNew_37 : decode cX4_putNew 37 = .ok (.invokevirtual 238, 3) := by decide +kernel
theorem dX4_putNew_40 : decode cX4_putNew 40 = .ok (.return_, 1) := by decide +kernel
set_option maxRecDepth 20000 in
theorem ggX4_beginMove_X3_emptyWith : GoodIn wsX4_beginMove wsX3_emptyWith := goodIn_r _ [8, 9, 10, 11, 12, 13, 14, 15, 23, 24, 25, 26, 27, 28] (by decide +kernel) (by decide +kernel)
set_option maxRecDepth 20000 in
theorem gX4_beginMove_X3_emptyWith : GoodIn wsX4_beginMove (wsV RX4 53 RX3 yX3_emptyWith wsX3_emptyWith) := goodIn_app (goodIn_of _ (by decide +kernel)) ggX4_beginMove_X3_emptyWith
theorem dX4_beginMove_0 : decode cX4_beginMove 0 = .ok (.aload_n 0, 1) := by decide +kernel
theorem dX4_beginMove_1 : decode cX4_beginMove 1 = .ok (.getfield 38, 3) := by decide +kernel
theorem dX4_beginMove_4 : decode cX4_beginMove 4 = .ok (.astore_n 1, 1) := by decide +kernel
theorem dX4_beginMove_5 : decode cX4_beginMove 5 = .ok (.aload_n 0, 1) := by decide +kernel
theorem dX4_beginMove_6 : decode cX4_beginMove 6 = .ok (.aload_n 0, 1) := by decide +kernel
theorem dX4_beginMove_7 : decode cX4_beginMove 7 = .ok (.getfield 34, 3) := by decide +kernel
theorem dX4_beginMove_10 : decode cX4_beginMove 10 = .ok (.putfield 38, 3) := by decide +kernel
theorem dX4_beginMove_13 : decode cX4_beginMove 13 = .ok (.aload_n 0, 1) := by decide +kernel
theorem dX4_beginMove_14 : decode cX4_beginMove 14 = .ok (.aload_n 1, 1) := by decide +kernel
theorem dX4_beginMove_15 : decode cX4_beginMove 15 = .ok (.putfield 34, 3) := by decide +kernel
theorem dX4_beginMove_18 : decode cX4_beginMove 18 = .ok (.aload_n 0, 1) := by decide +kernel
theorem dX4_beginMove_19 : decode cX4_beginMove 19 = .ok (.getfield 34, 3) := by decide +kernel
theorem dX4_beginMove_22 : decode cX4_beginMove 22 = .ok (.iconst 2, 1) := by decide +kernel
theorem dX4_beginMove_23 : decode cX4_beginMove 23 = .ok (.aload_n 0, 1) := by decide +kernel
theorem dX4_beginMove_24 : decode cX4_beginMove 24 = .ok (.getfield 38, 3) := by decide +kernel
theorem dX4_beginMove_27 : decode cX4_beginMove 27 = .ok (.getfield 168, 3) := by decide +kernel
theorem dX4_beginMove_30 : decode cX4_beginMove 30 = .ok (.imul, 1) := by decide +kernel
theorem dX4_beginMove_31 : decode cX4_beginMove 31 = .ok (.invokevirtual 53, 3) := by decide +kernel
theorem dX4_beginMove_34 : decode cX4_beginMove 34 = .ok (.aload_n 0, 1) := by decide +kernel
theorem dX4_beginMove_35 : decode cX4_beginMove 35 = .ok (.dup, 1) := by decide +kernel
theorem dX4_beginMove_36 : decode cX4_beginMove 36 = .ok (.getfield 56, 3) := by decide +kernel
theorem dX4_beginMove_39 : decode cX4_beginMove 39 = .ok (.iconst 1, 1) := by decide +kernel
theorem dX4_beginMove_40 : decode cX4_beginMove 40 = .ok (.iadd, 1) := by decide +kernel
theorem dX4_beginMove_41 : decode cX4_beginMove 41 = .ok (.putfield 56, 3) := by decide +kernel
theorem dX4_beginMove_44 : decode cX4_beginMove 44 = .ok (.return_, 1) := by decide +kernel
set_option maxRecDepth 20000 in
theorem ggX4_moveSlice_X3_lowestSlotWithKey : GoodIn wsX4_moveSlice wsX3_lowestSlotWithKey := goodIn_r _ [7, 8, 9, 10, 11, 6, 12, 13, 70, 71, 72, 73, 74, 75] (by decide +kernel) (by decide +kernel)
set_option maxRecDepth 20000 in
theorem gX4_moveSlice_X3_lowestSlotWithKey : GoodIn wsX4_moveSlice (wsV RX4 242 RX3 yX3_lowestSlotWithKey wsX3_lowestSlotWithKey) := goodIn_app (goodIn_of _ (by decide +kernel)) ggX4_moveSlice_X3_lowestSlotWithKey
set_option maxRecDepth 20000 in
theorem ggX4_moveSlice_X3_keyIn : GoodIn wsX4_moveSlice wsX3_keyIn := goodIn_r _ [17, 18, 70, 71, 72, 73, 74, 75] (by decide +kernel) (by decide +kernel)
set_option maxRecDepth 20000 in
theorem gX4_moveSlice_X3_keyIn : GoodIn wsX4_moveSlice (wsV RX4 136 RX3 yX3_keyIn wsX3_keyIn) := goodIn_app (goodIn_of _ (by decide +kernel)) ggX4_moveSlice_X3_keyIn
set_option maxRecDepth 20000 in
theorem ggX4_moveSlice_X3_valueIn : GoodIn wsX4_moveSlice wsX3_valueIn := goodIn_r _ [22, 23, 70, 71, 72, 73, 74, 75] (by decide +kernel) (by decide +kernel)
set_option maxRecDepth 20000 in
theorem gX4_moveSlice_X3_valueIn : GoodIn wsX4_moveSlice (wsV RX4 101 RX3 yX3_valueIn wsX3_valueIn) := goodIn_app (goodIn_of _ (by decide +kernel)) ggX4_moveSlice_X3_valueIn
set_option maxRecDepth 20000 in
theorem ggX4_moveSlice_X3_hashIn : GoodIn wsX4_moveSlice wsX3_hashIn := goodIn_r _ [27, 28, 70, 71, 72, 73, 74, 75] (by decide +kernel) (by decide +kernel)
set_option maxRecDepth 20000 in
theorem gX4_moveSlice_X3_hashIn : GoodIn wsX4_moveSlice (wsV RX4 245 RX3 yX3_hashIn wsX3_hashIn) := goodIn_app (goodIn_of _ (by decide +kernel)) ggX4_moveSlice_X3_hashIn
set_option maxRecDepth 20000 in
theorem ggX4_moveSlice_X3_carryIn : GoodIn wsX4_moveSlice wsX3_carryIn := goodIn_r _ [32, 8, 33, 18, 23, 28, 34, 35, 36, 6, 37, 38, 39, 40, 41, 9, 10, 11, 12, 13, 42, 43, 44, 45, 70, 71, 72, 73, 74, 75] (by decide +kernel) (by decide +kernel)
set_option maxRecDepth 20000 in
theorem gX4_moveSlice_X3_carryIn : GoodIn wsX4_moveSlice (wsV RX4 238 RX3 yX3_carryIn wsX3_carryIn) := goodIn_app (goodIn_of _ (by decide +kernel)) ggX4_moveSlice_X3_carryIn
set_option maxRecDepth 20000 in
theorem ggX4_moveSlice_X3_takeOut : GoodIn wsX4_moveSlice wsX3_takeOut := goodIn_r _ [49, 8, 18, 23, 28, 13, 33, 34, 35, 36, 6, 37, 38, 39, 40, 41, 9, 10, 11, 12, 42, 43, 44, 45, 70, 71, 72, 73, 74, 75] (by decide +kernel) (by decide +kernel)
set_option maxRecDepth 20000 in
theorem gX4_moveSlice_X3_takeOut : GoodIn wsX4_moveSlice (wsV RX4 104 RX3 yX3_takeOut wsX3_takeOut) := goodIn_app (goodIn_of _ (by decide +kernel)) ggX4_moveSlice_X3_takeOut
set_option maxRecDepth 20000 in
theorem ggX4_moveSlice_X4_endMoveIfOldIsEmpty : GoodIn wsX4_moveSlice wsX4_endMoveIfOldIsEmpty := goodIn_r _ [54, 1, 55, 56, 57, 6, 58, 59, 60, 61, 62, 8, 33, 13, 63, 64, 65, 66, 67, 68, 69, 70, 71, 72, 73, 74, 75] (by decide +kernel) (by decide +kernel)
set_option maxRecDepth 20000 in
theorem gX4_moveSlice_X4_endMoveIfOldIsEmpty : GoodIn wsX4_moveSlice (wsV RX4 107 RX4 yX4_endMoveIfOldIsEmpty wsX4_endMoveIfOldIsEmpty) := goodIn_app (goodIn_of _ (by decide +kernel)) ggX4_moveSlice_X4_endMoveIfOldIsEmpty
theorem dX4_moveSlice_0 : decode cX4_moveSlice 0 = .ok (.iconst 0, 1) := by decide +kernel
theorem dX4_moveSlice_1 : decode cX4_moveSlice 1 = .ok (.istore_n 1, 1) := by decide +kernel
theorem dX4_moveSlice_2 : decode cX4_moveSlice 2 = .ok (.iload_n 1, 1) := by decide +kernel
theorem dX4_moveSlice_3 : decode cX4_moveSlice 3 = .ok (.iconst 4, 1) := by decide +kernel
theorem dX4_moveSlice_4 : decode cX4_moveSlice 4 = .ok (.if_icmp .ge 66, 3) := by decide +kernel
theorem dX4_moveSlice_7 : decode cX4_moveSlice 7 = .ok (.aload_n 0, 1) := by decide +kernel
theorem dX4_moveSlice_8 : decode cX4_moveSlice 8 = .ok (.getfield 38, 3) := by decide +kernel
theorem dX4_moveSlice_11 : decode cX4_moveSlice 11 = .ok (.getfield 110, 3) := by decide +kernel
theorem dX4_moveSlice_14 : decode cX4_moveSlice 14 = .ok (.ifCond .le 56, 3) := by decide +kernel
theorem dX4_moveSlice_17 : decode cX4_moveSlice 17 = .ok (.aload_n 0, 1) := by decide +kernel
theorem dX4_moveSlice_18 : decode cX4_moveSlice 18 = .ok (.getfield 38, 3) := by decide +kernel
theorem dX4_moveSlice_21 : decode cX4_moveSlice 21 = .ok (.invokevirtual 242, 3) := by decide +kernel
theorem dX4_moveSlice_24 : decode cX4_moveSlice 24 = .ok (.istore_n 2, 1) := by decide +kernel
theorem dX4_moveSlice_25 : decode cX4_moveSlice 25 = .ok (.aload_n 0, 1) := by decide +kernel
theorem dX4_moveSlice_26 : decode cX4_moveSlice 26 = .ok (.getfield 34, 3) := by decide +kernel
theorem dX4_moveSlice_29 : decode cX4_moveSlice 29 = .ok (.aload_n 0, 1) := by decide +kernel
theorem dX4_moveSlice_30 : decode cX4_moveSlice 30 = .ok (.getfield 38, 3) := by decide +kernel
theorem dX4_moveSlice_33 : decode cX4_moveSlice 33 = .ok (.iload_n 2, 1) := by decide +kernel
theorem dX4_moveSlice_34 : decode cX4_moveSlice 34 = .ok (.invokevirtual 136, 3) := by decide +kernel
theorem dX4_moveSlice_37 : decode cX4_moveSlice 37 = .ok (.aload_n 0, 1) := by decide +kernel
theorem dX4_moveSlice_38 : decode cX4_moveSlice 38 = .ok (.getfield 38, 3) := by decide +kernel
theorem dX4_moveSlice_41 : decode cX4_moveSlice 41 = .ok (.iload_n 2, 1) := by decide +kernel
theorem dX4_moveSlice_42 : decode cX4_moveSlice 42 = .ok (.invokevirtual 101, 3) := by decide +kernel
theorem dX4_moveSlice_45 : decode cX4_moveSlice 45 = .ok (.aload_n 0, 1) := by decide +kernel
theorem dX4_moveSlice_46 : decode cX4_moveSlice 46 = .ok (.getfield 38, 3) := by decide +kernel
theorem dX4_moveSlice_49 : decode cX4_moveSlice 49 = .ok (.iload_n 2, 1) := by decide +kernel
theorem dX4_moveSlice_50 : decode cX4_moveSlice 50 = .ok (.invokevirtual 245, 3) := by decide +kernel
theorem dX4_moveSlice_53 : decode cX4_moveSlice 53 = .ok (.invokevirtual 238, 3) := by decide +kernel
theorem dX4_moveSlice_56 : decode cX4_moveSlice 56 = .ok (.aload_n 0, 1) := by decide +kernel
theorem dX4_moveSlice_57 : decode cX4_moveSlice 57 = .ok (.getfield 38, 3) := by decide +kernel
theorem dX4_moveSlice_60 : decode cX4_moveSlice 60 = .ok (.iload_n 2, 1) := by decide +kernel
theorem dX4_moveSlice_61 : decode cX4_moveSlice 61 = .ok (.invokevirtual 104, 3) := by decide +kernel
theorem dX4_moveSlice_64 : decode cX4_moveSlice 64 = .ok (.iinc 1 1, 3) := by decide +kernel
theorem dX4_moveSlice_67 : decode cX4_moveSlice 67 = .ok (.goto (-65), 3) := by decide +kernel
theorem dX4_moveSlice_70 : decode cX4_moveSlice 70 = .ok (.aload_n 0, 1) := by decide +kernel
theorem dX4_moveSlice_71 : decode cX4_moveSlice 71 = .ok (.invokevirtual 107, 3) := by decide +kernel
theorem dX4_moveSlice_74 : decode cX4_moveSlice 74 = .ok (.iload_n 1, 1) := by decide +kernel
theorem dX4_moveSlice_75 : decode cX4_moveSlice 75 = .ok (.ireturn, 1) := by decide +kernel
set_option maxRecDepth 20000 in
theorem ggX4_endMoveIfOldIsEmpty_X3_emptyWith : GoodIn wsX4_endMoveIfOldIsEmpty wsX3_emptyWith := goodIn_r _ [6, 7, 8, 9, 10, 11, 12, 13, 21, 22, 23, 24, 25, 26] (by decide +kernel) (by decide +kernel)
set_option maxRecDepth 20000 in
theorem gX4_endMoveIfOldIsEmpty_X3_emptyWith : GoodIn wsX4_endMoveIfOldIsEmpty (wsV RX4 53 RX3 yX3_emptyWith wsX3_emptyWith) := goodIn_app (goodIn_of _ (by decide +kernel)) ggX4_endMoveIfOldIsEmpty_X3_emptyWith
theorem dX4_endMoveIfOldIsEmpty_0 : decode cX4_endMoveIfOldIsEmpty 0 = .ok (.aload_n 0, 1) := by decide +kernel
theorem dX4_endMoveIfOldIsEmpty_1 : decode cX4_endMoveIfOldIsEmpty 1 = .ok (.getfield 38, 3) := by decide +kernel
theorem dX4_endMoveIfOldIsEmpty_4 : decode cX4_endMoveIfOldIsEmpty 4 = .ok (.getfield 110, 3) := by decide +kernel
theorem dX4_endMoveIfOldIsEmpty_7 : decode cX4_endMoveIfOldIsEmpty 7 = .ok (.ifCond .ne 11, 3) := by decide +kernel
theorem dX4_endMoveIfOldIsEmpty_10 : decode cX4_endMoveIfOldIsEmpty 10 = .ok (.aload_n 0, 1) := by decide +kernel
theorem dX4_endMoveIfOldIsEmpty_11 : decode cX4_endMoveIfOldIsEmpty 11 = .ok (.getfield 38, 3) := by decide +kernel
theorem dX4_endMoveIfOldIsEmpty_14 : decode cX4_endMoveIfOldIsEmpty 14 = .ok (.iconst 0, 1) := by decide +kernel
theorem dX4_endMoveIfOldIsEmpty_15 : decode cX4_endMoveIfOldIsEmpty 15 = .ok (.invokevirtual 53, 3) := by decide +kernel
theorem dX4_endMoveIfOldIsEmpty_18 : decode cX4_endMoveIfOldIsEmpty 18 = .ok (.return_, 1) := by decide +kernel
end
section
theorem dJ9_max_7cf53_0 : decode cJ9_max_7cf53 0 = .ok (.iload_n 0, 1) := by decide +kernel
theorem dJ9_max_7cf53_1 : decode cJ9_max_7cf53 1 = .ok (.iload_n 1, 1) := by decide +kernel
theorem dJ9_max_7cf53_2 : decode cJ9_max_7cf53 2 = .ok (.if_icmp .lt 7, 3) := by decide +kernel
theorem dJ9_max_7cf53_5 : decode cJ9_max_7cf53 5 = .ok (.iload_n 0, 1) := by decide +kernel
theorem dJ9_max_7cf53_6 : decode cJ9_max_7cf53 6 = .ok (.goto 4, 3) := by decide +kernel
theorem dJ9_max_7cf53_9 : decode cJ9_max_7cf53 9 = .ok (.iload_n 1, 1) := by decide +kernel
theorem dJ9_max_7cf53_10 : decode cJ9_max_7cf53 10 = .ok (.ireturn, 1) := by decide +kernel
theorem dJ9_min_7cf53_0 : decode cJ9_min_7cf53 0 = .ok (.iload_n 0, 1) := by decide +kernel
theorem dJ9_min_7cf53_1 : decode cJ9_min_7cf53 1 = .ok (.iload_n 1, 1) := by decide +kernel
theorem dJ9_min_7cf53_2 : decode cJ9_min_7cf53 2 = .ok (.if_icmp .gt 7, 3) := by decide +kernel
theorem dJ9_min_7cf53_5 : decode cJ9_min_7cf53 5 = .ok (.iload_n 0, 1) := by decide +kernel
theorem dJ9_min_7cf53_6 : decode cJ9_min_7cf53 6 = .ok (.goto 4, 3) := by decide +kernel
theorem dJ9_min_7cf53_9 : decode cJ9_min_7cf53 9 = .ok (.iload_n 1, 1) := by decide +kernel
theorem dJ9_min_7cf53_10 : decode cJ9_min_7cf53 10 = .ok (.ireturn, 1) := by decide +kernel
theorem dL_drawn_0 : decode cL_drawn 0 = .ok (.iload_n 1, 1) := by decide +kernel
theorem dL_drawn_1 : decode cL_drawn 1 = .ok (.aload_n 0, 1) := by decide +kernel
theorem dL_drawn_2 : decode cL_drawn 2 = .ok (.arraylength, 1) := by decide +kernel
theorem dL_drawn_3 : decode cL_drawn 3 = .ok (.if_icmp .ge 9, 3) := by decide +kernel
theorem dL_drawn_6 : decode cL_drawn 6 = .ok (.aload_n 0, 1) := by decide +kernel
theorem dL_drawn_7 : decode cL_drawn 7 = .ok (.iload_n 1, 1) := by decide +kernel
theorem dL_drawn_8 : decode cL_drawn 8 = .ok (.iaload, 1) := by decide +kernel
theorem dL_drawn_9 : decode cL_drawn 9 = .ok (.goto 15, 3) := by decide +kernel
theorem dL_drawn_12 : decode cL_drawn 12 = .ok (.sipush 29989, 3) := by decide +kernel
theorem dL_drawn_15 : decode cL_drawn 15 = .ok (.iload_n 1, 1) := by decide +kernel
theorem dL_drawn_16 : decode cL_drawn 16 = .ok (.iconst 3, 1) := by decide +kernel
theorem dL_drawn_17 : decode cL_drawn 17 = .ok (.iadd, 1) := by decide +kernel
theorem dL_drawn_18 : decode cL_drawn 18 = .ok (.imul, 1) := by decide +kernel
theorem dL_drawn_19 : decode cL_drawn 19 = .ok (.iload_n 1, 1) := by decide +kernel
theorem dL_drawn_20 : decode cL_drawn 20 = .ok (.bipush 17, 2) := by decide +kernel
theorem dL_drawn_22 : decode cL_drawn 22 = .ok (.iadd, 1) := by decide +kernel
theorem dL_drawn_23 : decode cL_drawn 23 = .ok (.imul, 1) := by decide +kernel
theorem dL_drawn_24 : decode cL_drawn 24 = .ok (.ireturn, 1) := by decide +kernel
theorem dL_low_0 : decode cL_low 0 = .ok (.iload_n 0, 1) := by decide +kernel
theorem dL_low_1 : decode cL_low 1 = .ok (.ldc 7, 2) := by decide +kernel
theorem dL_low_3 : decode cL_low 3 = .ok (.iand, 1) := by decide +kernel
theorem dL_low_4 : decode cL_low 4 = .ok (.iload_n 1, 1) := by decide +kernel
theorem dL_low_5 : decode cL_low 5 = .ok (.irem, 1) := by decide +kernel
theorem dL_low_6 : decode cL_low 6 = .ok (.ireturn, 1) := by decide +kernel
theorem dL_placeOf_0 : decode cL_placeOf 0 = .ok (.iconst (-1), 1) := by decide +kernel
theorem dL_placeOf_1 : decode cL_placeOf 1 = .ok (.istore_n 3, 1) := by decide +kernel
theorem dL_placeOf_2 : decode cL_placeOf 2 = .ok (.iconst 0, 1) := by decide +kernel
theorem dL_placeOf_3 : decode cL_placeOf 3 = .ok (.istore 4, 2) := by decide +kernel
theorem dL_placeOf_5 : decode cL_placeOf 5 = .ok (.iload 4, 2) := by decide +kernel
theorem dL_placeOf_7 : decode cL_placeOf 7 = .ok (.iload_n 1, 1) := by decide +kernel
theorem dL_placeOf_8 : decode cL_placeOf 8 = .ok (.if_icmp .ge 24, 3) := by decide +kernel
theorem dL_placeOf_11 : decode cL_placeOf 11 = .ok (.aload_n 0, 1) := by decide +kernel
theorem dL_placeOf_12 : decode cL_placeOf 12 = .ok (.iload 4, 2) := by decide +kernel
theorem dL_placeOf_14 : decode cL_placeOf 14 = .ok (.iaload, 1) := by decide +kernel
theorem dL_placeOf_15 : decode cL_placeOf 15 = .ok (.iload_n 2, 1) := by decide +kernel
theorem dL_placeOf_16 : decode cL_placeOf 16 = .ok (.if_icmp .ne 8, 3) := by decide +kernel
theorem dL_placeOf_19 : decode cL_placeOf 19 = .ok (.iload 4, 2) := by decide +kernel
theorem dL_placeOf_21 : decode cL_placeOf 21 = .ok (.goto 4, 3) := by decide +kernel
theorem dL_placeOf_24 : decode cL_placeOf 24 = .ok (.iload_n 3, 1) := by decide +kernel
theorem dL_placeOf_25 : decode cL_placeOf 25 = .ok (.istore_n 3, 1) := by decide +kernel
theorem dL_placeOf_26 : decode cL_placeOf 26 = .ok (.iinc 4 1, 3) := by decide +kernel
theorem dL_placeOf_29 : decode cL_placeOf 29 = .ok (.goto (-24), 3) := by decide +kernel
theorem dL_placeOf_32 : decode cL_placeOf 32 = .ok (.iload_n 3, 1) := by decide +kernel
theorem dL_placeOf_33 : decode cL_placeOf 33 = .ok (.ireturn, 1) := by decide +kernel
theorem dL_size_0 : decode cL_size 0 = .ok (.iconst 0, 1) := by decide +kernel
theorem dL_size_1 : decode cL_size 1 = .ok (.istore_n 2, 1) := by decide +kernel
theorem dL_size_2 : decode cL_size 2 = .ok (.iconst 0, 1) := by decide +kernel
theorem dL_size_3 : decode cL_size 3 = .ok (.istore_n 3, 1) := by decide +kernel
theorem dL_size_4 : decode cL_size 4 = .ok (.iload_n 3, 1) := by decide +kernel
theorem dL_size_5 : decode cL_size 5 = .ok (.iload_n 1, 1) := by decide +kernel
theorem dL_size_6 : decode cL_size 6 = .ok (.if_icmp .ge 23, 3) := by decide +kernel
theorem dL_size_9 : decode cL_size 9 = .ok (.iload_n 2, 1) := by decide +kernel
theorem dL_size_10 : decode cL_size 10 = .ok (.aload_n 0, 1) := by decide +kernel
theorem dL_size_11 : decode cL_size 11 = .ok (.iload_n 3, 1) := by decide +kernel
theorem dL_size_12 : decode cL_size 12 = .ok (.iaload, 1) := by decide +kernel
theorem dL_size_13 : decode cL_size 13 = .ok (.ifCond .lt 7, 3) := by decide +kernel
theorem dL_size_16 : decode cL_size 16 = .ok (.iconst 1, 1) := by decide +kernel
theorem dL_size_17 : decode cL_size 17 = .ok (.goto 4, 3) := by decide +kernel
theorem dL_size_20 : decode cL_size 20 = .ok (.iconst 0, 1) := by decide +kernel
theorem dL_size_21 : decode cL_size 21 = .ok (.iadd, 1) := by decide +kernel
theorem dL_size_22 : decode cL_size 22 = .ok (.istore_n 2, 1) := by decide +kernel
theorem dL_size_23 : decode cL_size 23 = .ok (.iinc 3 1, 3) := by decide +kernel
theorem dL_size_26 : decode cL_size 26 = .ok (.goto (-22), 3) := by decide +kernel
theorem dL_size_29 : decode cL_size 29 = .ok (.iload_n 2, 1) := by decide +kernel
theorem dL_size_30 : decode cL_size 30 = .ok (.ireturn, 1) := by decide +kernel
set_option maxRecDepth 20000 in
theorem ggL_isPut_L_placeOf : GoodIn wsL_isPut wsL_placeOf := goodIn_r _ [4] (by decide +kernel) (by decide +kernel)
set_option maxRecDepth 20000 in
theorem gL_isPut_L_placeOf : GoodIn wsL_isPut (va_wsS RL 8 yL_placeOf wsL_placeOf) := goodIn_app (goodIn_of _ (by decide +kernel)) ggL_isPut_L_placeOf
set_option maxRecDepth 20000 in
theorem ggL_isPut_X4_put : GoodIn wsL_isPut wsX4_put := goodIn_ca (goodIn_ca (goodIn_r _ [9, 10, 11, 12, 13, 14, 15, 16, 17, 8, 18, 19, 20, 21, 22, 23, 24, 25, 26, 27, 28, 29, 30, 31, 32, 33, 34, 35, 36, 37, 38, 39, 40, 41, 42, 43, 44, 45, 46, 47, 48, 49, 50, 51, 52, 53, 54, 55, 56, 57, 58, 59, 60, 61, 62, 63, 64, 65, 66, 67, 68, 69, 70, 71, 72, 73, 74, 75, 76, 77, 78, 79, 80, 81, 82, 83, 84, 85, 86, 87, 88, 89, 90, 91, 92, 93, 94, 95, 96, 97, 98, 99, 100, 101, 102, 103, 104, 105, 106, 107, 108, 109, 110, 111, 112, 113, 114, 115, 116, 117, 118, 119, 120, 121, 122, 123, 124, 125, 126, 127, 128, 129, 130, 131, 132, 133, 134, 135, 136, 137, 138, 139, 141, 142, 143, 144, 145, 146, 147, 148, 149, 150, 151, 152, 153, 154, 155, 156, 157] (by decide +kernel) (by decide +kernel)) (goodIn_sub (fun _ h => List.mem_cons_of_mem _ (List.mem_append_left _ (List.mem_append_right _ h))) (by decide +kernel))) (goodIn_sub (fun _ h => List.mem_cons_of_mem _ (List.mem_append_right _ h)) (by decide +kernel))
set_option maxRecDepth 20000 in
theorem gL_isPut_X4_put : GoodIn wsL_isPut (wsV RL 14 RX4 yX4_put wsX4_put) := goodIn_app (goodIn_of _ (by decide +kernel)) ggL_isPut_X4_put
set_option maxRecDepth 20000 in
theorem ggL_isPut_X4_get : GoodIn wsL_isPut wsX4_get := goodIn_r _ [24, 14, 25, 26, 27, 8, 28, 19, 20, 29, 30, 31, 32, 33, 34, 35, 36, 37, 38, 39, 40, 41, 42, 43, 44, 45, 46, 47, 48, 49, 50, 51, 52, 53, 54, 55, 56, 57, 58, 59, 60, 61, 62, 63, 64, 65, 66, 67, 68, 69, 70, 71, 72, 73, 74, 75, 76, 77, 78, 79, 80, 81, 141, 142, 143, 144, 145, 146, 147, 148, 149, 150, 151, 152, 153, 154, 155, 156, 157] (by decide +kernel) (by decide +kernel)
set_option maxRecDepth 20000 in
theorem gL_isPut_X4_get : GoodIn wsL_isPut (wsV RL 20 RX4 yX4_get wsX4_get) := goodIn_app (goodIn_of _ (by decide +kernel)) ggL_isPut_X4_get
theorem dL_isPut_0 : decode cL_isPut 0 = .ok (.aload_n 1, 1) := by decide +kernel
theorem dL_isPut_1 : decode cL_isPut 1 = .ok (.aload_n 3, 1) := by decide +kernel
theorem dL_isPut_2 : decode cL_isPut 2 = .ok (.iconst 0, 1) := by decide +kernel
theorem dL_isPut_3 : decode cL_isPut 3 = .ok (.iaload, 1) := by decide +kernel
theorem dL_isPut_4 : decode cL_isPut 4 = .ok (.iload 4, 2) := by decide +kernel
theorem dL_isPut_6 : decode cL_isPut 6 = .ok (.invokestatic 8, 3) := by decide +kernel
theorem dL_isPut_9 : decode cL_isPut 9 = .ok (.istore 6, 2) := by decide +kernel
theorem dL_isPut_11 : decode cL_isPut 11 = .ok (.iload 6, 2) := by decide +kernel
theorem dL_isPut_13 : decode cL_isPut 13 = .ok (.ifCond .ge 26, 3) := by decide +kernel
theorem dL_isPut_16 : decode cL_isPut 16 = .ok (.aload_n 3, 1) := by decide +kernel
theorem dL_isPut_17 : decode cL_isPut 17 = .ok (.iconst 0, 1) := by decide +kernel
theorem dL_isPut_18 : decode cL_isPut 18 = .ok (.iaload, 1) := by decide +kernel
theorem dL_isPut_19 : decode cL_isPut 19 = .ok (.istore 6, 2) := by decide +kernel
theorem dL_isPut_21 : decode cL_isPut 21 = .ok (.aload_n 1, 1) := by decide +kernel
theorem dL_isPut_22 : decode cL_isPut 22 = .ok (.iload 6, 2) := by decide +kernel
theorem dL_isPut_24 : decode cL_isPut 24 = .ok (.iload 4, 2) := by decide +kernel
theorem dL_isPut_26 : decode cL_isPut 26 = .ok (.iastore, 1) := by decide +kernel
theorem dL_isPut_27 : decode cL_isPut 27 = .ok (.aload_n 2, 1) := by decide +kernel
theorem dL_isPut_28 : decode cL_isPut 28 = .ok (.iload 6, 2) := by decide +kernel
theorem dL_isPut_30 : decode cL_isPut 30 = .ok (.iconst (-1), 1) := by decide +kernel
theorem dL_isPut_31 : decode cL_isPut 31 = .ok (.iastore, 1) := by decide +kernel
theorem dL_isPut_32 : decode cL_isPut 32 = .ok (.aload_n 3, 1) := by decide +kernel
theorem dL_isPut_33 : decode cL_isPut 33 = .ok (.iconst 0, 1) := by decide +kernel
theorem dL_isPut_34 : decode cL_isPut 34 = .ok (.dup2, 1) := by decide +kernel
theorem dL_isPut_35 : decode cL_isPut 35 = .ok (.iaload, 1) := by decide +kernel
theorem dL_isPut_36 : decode cL_isPut 36 = .ok (.iconst 1, 1) := by decide +kernel
theorem dL_isPut_37 : decode cL_isPut 37 = .ok (.iadd, 1) := by decide +kernel
theorem dL_isPut_38 : decode cL_isPut 38 = .ok (.iastore, 1) := by decide +kernel
theorem dL_isPut_39 : decode cL_isPut 39 = .ok (.aload_n 0, 1) := by decide +kernel
theorem dL_isPut_40 : decode cL_isPut 40 = .ok (.iload 4, 2) := by decide +kernel
theorem dL_isPut_42 : decode cL_isPut 42 = .ok (.iload 5, 2) := by decide +kernel
theorem dL_isPut_44 : decode cL_isPut 44 = .ok (.invokevirtual 14, 3) := by decide +kernel
theorem dL_isPut_47 : decode cL_isPut 47 = .ok (.aload_n 2, 1) := by decide +kernel
theorem dL_isPut_48 : decode cL_isPut 48 = .ok (.iload 6, 2) := by decide +kernel
theorem dL_isPut_50 : decode cL_isPut 50 = .ok (.iaload, 1) := by decide +kernel
theorem dL_isPut_51 : decode cL_isPut 51 = .ok (.if_icmp .ne 7, 3) := by decide +kernel
theorem dL_isPut_54 : decode cL_isPut 54 = .ok (.iconst 1, 1) := by decide +kernel
theorem dL_isPut_55 : decode cL_isPut 55 = .ok (.goto 4, 3) := by decide +kernel
theorem dL_isPut_58 : decode cL_isPut 58 = .ok (.iconst 0, 1) := by decide +kernel
theorem dL_isPut_59 : decode cL_isPut 59 = .ok (.istore 7, 2) := by decide +kernel
theorem dL_isPut_61 : decode cL_isPut 61 = .ok (.aload_n 2, 1) := by decide +kernel
theorem dL_isPut_62 : decode cL_isPut 62 = .ok (.iload 6, 2) := by decide +kernel
theorem dL_isPut_64 : decode cL_isPut 64 = .ok (.iload 5, 2) := by decide +kernel
theorem dL_isPut_66 : decode cL_isPut 66 = .ok (.iastore, 1) := by decide +kernel
theorem dL_isPut_67 : decode cL_isPut 67 = .ok (.iload 7, 2) := by decide +kernel
theorem dL_isPut_69 : decode cL_isPut 69 = .ok (.ifCond .eq 18, 3) := by decide +kernel
theorem dL_isPut_72 : decode cL_isPut 72 = .ok (.aload_n 0, 1) := by decide +kernel
theorem dL_isPut_73 : decode cL_isPut 73 = .ok (.iload 4, 2) := by decide +kernel
theorem dL_isPut_75 : decode cL_isPut 75 = .ok (.invokevirtual 20, 3) := by decide +kernel
theorem dL_isPut_78 : decode cL_isPut 78 = .ok (.iload 5, 2) := by decide +kernel
theorem dL_isPut_80 : decode cL_isPut 80 = .ok (.if_icmp .ne 7, 3) := by decide +kernel
theorem dL_isPut_83 : decode cL_isPut 83 = .ok (.iconst 1, 1) := by decide +kernel
theorem dL_isPut_84 : decode cL_isPut 84 = .ok (.goto 4, 3) := by decide +kernel
theorem dL_isPut_87 : decode cL_isPut 87 = .ok (.iconst 0, 1) := by decide +kernel
theorem dL_isPut_88 : decode cL_isPut 88 = .ok (.ireturn, 1) := by decide +kernel
set_option maxRecDepth 20000 in
theorem ggL_isRemoved_L_placeOf : GoodIn wsL_isRemoved wsL_placeOf := goodIn_r _ [4] (by decide +kernel) (by decide +kernel)
set_option maxRecDepth 20000 in
theorem gL_isRemoved_L_placeOf : GoodIn wsL_isRemoved (va_wsS RL 8 yL_placeOf wsL_placeOf) := goodIn_app (goodIn_of _ (by decide +kernel)) ggL_isRemoved_L_placeOf
set_option maxRecDepth 20000 in
theorem ggL_isRemoved_X4_remove : GoodIn wsL_isRemoved wsX4_remove := goodIn_r _ [9, 10, 11, 12, 13, 8, 14, 15, 16, 17, 18, 19, 20, 21, 22, 23, 24, 25, 26, 27, 28, 29, 30, 31, 32, 33, 34, 35, 36, 37, 38, 39, 40, 41, 42, 43, 44, 45, 46, 47, 48, 49, 50, 51, 52, 53, 54, 55, 56, 57, 58, 59, 60, 61, 62, 63, 64, 65, 66, 67, 68, 69, 70, 71, 72, 73, 74, 75, 76, 77, 78, 79, 80, 81, 82, 83, 84, 85, 86, 87, 88, 89, 90, 91, 92, 93, 94, 95, 96, 97, 98, 99, 100, 101, 102, 103, 104, 105, 106, 107, 108, 109, 110, 111, 112, 113, 114, 119, 120, 121, 122, 123, 124, 125, 126, 127, 128, 129, 130, 131, 132, 133, 134, 135] (by decide +kernel) (by decide +kernel)
set_option maxRecDepth 20000 in
theorem gL_isRemoved_X4_remove : GoodIn wsL_isRemoved (wsV RL 24 RX4 yX4_remove wsX4_remove) := goodIn_app (goodIn_of _ (by decide +kernel)) ggL_isRemoved_X4_remove
set_option maxRecDepth 20000 in
theorem ggL_isRemoved_X4_get : GoodIn wsL_isRemoved wsX4_get := goodIn_r _ [118, 10, 76, 77, 78, 8, 79, 16, 15, 80, 81, 82, 83, 84, 85, 86, 87, 88, 89, 90, 91, 92, 93, 94, 95, 96, 97, 98, 99, 100, 101, 102, 103, 104, 105, 106, 107, 49, 50, 20, 51, 22, 108, 24, 25, 26, 27, 109, 110, 111, 112, 113, 29, 30, 31, 32, 114, 33, 34, 35, 36, 37, 119, 120, 121, 122, 123, 124, 125, 126, 127, 128, 129, 130, 131, 132, 133, 134, 135] (by decide +kernel) (by decide +kernel)
set_option maxRecDepth 20000 in
theorem gL_isRemoved_X4_get : GoodIn wsL_isRemoved (wsV RL 20 RX4 yX4_get wsX4_get) := goodIn_app (goodIn_of _ (by decide +kernel)) ggL_isRemoved_X4_get
theorem dL_isRemoved_0 : decode cL_isRemoved 0 = .ok (.aload_n 1, 1) := by decide +kernel
theorem dL_isRemoved_1 : decode cL_isRemoved 1 = .ok (.iload_n 3, 1) := by decide +kernel
theorem dL_isRemoved_2 : decode cL_isRemoved 2 = .ok (.iload 4, 2) := by decide +kernel
theorem dL_isRemoved_4 : decode cL_isRemoved 4 = .ok (.invokestatic 8, 3) := by decide +kernel
theorem dL_isRemoved_7 : decode cL_isRemoved 7 = .ok (.istore 5, 2) := by decide +kernel
theorem dL_isRemoved_9 : decode cL_isRemoved 9 = .ok (.aload_n 0, 1) := by decide +kernel
theorem dL_isRemoved_10 : decode cL_isRemoved 10 = .ok (.iload 4, 2) := by decide +kernel
theorem dL_isRemoved_12 : decode cL_isRemoved 12 = .ok (.invokevirtual 24, 3) := by decide +kernel
theorem dL_isRemoved_15 : decode cL_isRemoved 15 = .ok (.iload 5, 2) := by decide +kernel
theorem dL_isRemoved_17 : decode cL_isRemoved 17 = .ok (.ifCond .ge 7, 3) := by decide +kernel
theorem dL_isRemoved_20 : decode cL_isRemoved 20 = .ok (.iconst (-1), 1) := by decide +kernel
theorem dL_isRemoved_21 : decode cL_isRemoved 21 = .ok (.goto 7, 3) := by decide +kernel
theorem dL_isRemoved_24 : decode cL_isRemoved 24 = .ok (.aload_n 2, 1) := by decide +kernel
theorem dL_isRemoved_25 : decode cL_isRemoved 25 = .ok (.iload 5, 2) := by decide +kernel
theorem dL_isRemoved_27 : decode cL_isRemoved 27 = .ok (.iaload, 1) := by decide +kernel
theorem dL_isRemoved_28 : decode cL_isRemoved 28 = .ok (.if_icmp .ne 17, 3) := by decide +kernel
theorem dL_isRemoved_31 : decode cL_isRemoved 31 = .ok (.aload_n 0, 1) := by decide +kernel
theorem dL_isRemoved_32 : decode cL_isRemoved 32 = .ok (.iload 4, 2) := by decide +kernel
theorem dL_isRemoved_34 : decode cL_isRemoved 34 = .ok (.invokevirtual 20, 3) := by decide +kernel
theorem dL_isRemoved_37 : decode cL_isRemoved 37 = .ok (.iconst (-1), 1) := by decide +kernel
theorem dL_isRemoved_38 : decode cL_isRemoved 38 = .ok (.if_icmp .ne 7, 3) := by decide +kernel
theorem dL_isRemoved_41 : decode cL_isRemoved 41 = .ok (.iconst 1, 1) := by decide +kernel
theorem dL_isRemoved_42 : decode cL_isRemoved 42 = .ok (.goto 4, 3) := by decide +kernel
theorem dL_isRemoved_45 : decode cL_isRemoved 45 = .ok (.iconst 0, 1) := by decide +kernel
theorem dL_isRemoved_46 : decode cL_isRemoved 46 = .ok (.istore 6, 2) := by decide +kernel
theorem dL_isRemoved_48 : decode cL_isRemoved 48 = .ok (.iload 5, 2) := by decide +kernel
theorem dL_isRemoved_50 : decode cL_isRemoved 50 = .ok (.ifCond .lt 8, 3) := by decide +kernel
theorem dL_isRemoved_53 : decode cL_isRemoved 53 = .ok (.aload_n 2, 1) := by decide +kernel
theorem dL_isRemoved_54 : decode cL_isRemoved 54 = .ok (.iload 5, 2) := by decide +kernel
theorem dL_isRemoved_56 : decode cL_isRemoved 56 = .ok (.iconst (-1), 1) := by decide +kernel
theorem dL_isRemoved_57 : decode cL_isRemoved 57 = .ok (.iastore, 1) := by decide +kernel
theorem dL_isRemoved_58 : decode cL_isRemoved 58 = .ok (.iload 6, 2) := by decide +kernel
theorem dL_isRemoved_60 : decode cL_isRemoved 60 = .ok (.ireturn, 1) := by decide +kernel
set_option maxRecDepth 20000 in
theorem ggL_keysOf_X4_slots : GoodIn wsL_keysOf wsX4_slots := goodIn_ca (goodIn_r _ [5, 6, 7, 8, 4, 9, 10, 11, 12, 13, 68, 69, 70, 71, 72, 73, 74, 75, 76, 77, 78, 79, 80] (by decide +kernel) (by decide +kernel)) (goodIn_sub (fun _ h => List.mem_cons_of_mem _ (List.mem_append_left _ (List.mem_append_right _ h))) (by decide +kernel))
set_option maxRecDepth 20000 in
theorem gL_keysOf_X4_slots : GoodIn wsL_keysOf (wsV RL 27 RX4 yX4_slots wsX4_slots) := goodIn_app (goodIn_of _ (by decide +kernel)) ggL_keysOf_X4_slots
set_option maxRecDepth 20000 in
theorem ggL_keysOf_X4_distanceAt : GoodIn wsL_keysOf wsX4_distanceAt := goodIn_ca (goodIn_r _ [17, 18, 19, 20, 4, 21, 10, 11, 6, 7, 8, 9, 12, 13, 22, 23, 24, 25, 26, 27, 28, 29, 30, 31, 32, 33, 34, 35, 36, 37, 68, 69, 70, 71, 72, 73, 74, 75, 76, 77, 78, 79, 80] (by decide +kernel) (by decide +kernel)) (goodIn_sub (fun _ h => List.mem_cons_of_mem _ (List.mem_append_left _ (List.mem_append_right _ h))) (by decide +kernel))
set_option maxRecDepth 20000 in
theorem gL_keysOf_X4_distanceAt : GoodIn wsL_keysOf (wsV RL 30 RX4 yX4_distanceAt wsX4_distanceAt) := goodIn_app (goodIn_of _ (by decide +kernel)) ggL_keysOf_X4_distanceAt
set_option maxRecDepth 20000 in
theorem ggL_keysOf_X4_control : GoodIn wsL_keysOf wsX4_control := goodIn_ca (goodIn_r _ [41, 18, 19, 20, 4, 21, 10, 11, 6, 7, 8, 9, 12, 13, 42, 43, 44, 25, 45, 32, 68, 69, 70, 71, 72, 73, 74, 75, 76, 77, 78, 79, 80] (by decide +kernel) (by decide +kernel)) (goodIn_sub (fun _ h => List.mem_cons_of_mem _ (List.mem_append_left _ (List.mem_append_right _ h))) (by decide +kernel))
set_option maxRecDepth 20000 in
theorem gL_keysOf_X4_control : GoodIn wsL_keysOf (wsV RL 33 RX4 yX4_control wsX4_control) := goodIn_app (goodIn_of _ (by decide +kernel)) ggL_keysOf_X4_control
set_option maxRecDepth 20000 in
theorem ggL_keysOf_X4_keyAt : GoodIn wsL_keysOf wsX4_keyAt := goodIn_ca (goodIn_ca (goodIn_r _ [49, 50, 51, 18, 19, 20, 4, 21, 10, 11, 6, 7, 8, 9, 12, 13, 52, 29, 30, 25, 31, 32, 53, 54, 55, 56, 57, 68, 69, 70, 71, 72, 73, 74, 75, 76, 77, 78, 79, 80] (by decide +kernel) (by decide +kernel)) (goodIn_sub (fun _ h => List.mem_cons_of_mem _ (List.mem_append_right _ h)) (by decide +kernel))) (goodIn_sub (fun _ h => List.mem_cons_of_mem _ (List.mem_append_left _ (List.mem_append_right _ h))) (by decide +kernel))
set_option maxRecDepth 20000 in
theorem gL_keysOf_X4_keyAt : GoodIn wsL_keysOf (wsV RL 37 RX4 yX4_keyAt wsX4_keyAt) := goodIn_app (goodIn_of _ (by decide +kernel)) ggL_keysOf_X4_keyAt
set_option maxRecDepth 20000 in
theorem ggL_keysOf_X4_hash : GoodIn wsL_keysOf wsX4_hash := goodIn_r _ [61, 62, 63, 74, 75, 76, 77, 78, 79, 80] (by decide +kernel) (by decide +kernel)
set_option maxRecDepth 20000 in
theorem gL_keysOf_X4_hash : GoodIn wsL_keysOf (wsV RL 40 RX4 yX4_hash wsX4_hash) := goodIn_app (goodIn_of _ (by decide +kernel)) ggL_keysOf_X4_hash
set_option maxRecDepth 20000 in
theorem ggL_keysOf_X4_keysIn : GoodIn wsL_keysOf wsX4_keysIn := goodIn_ca (goodIn_r _ [67, 6, 7, 8, 4, 9, 10, 11, 12, 13, 68, 69, 70, 71, 72, 73, 74, 75, 76, 77, 78, 79, 80] (by decide +kernel) (by decide +kernel)) (goodIn_sub (fun _ h => List.mem_cons_of_mem _ (List.mem_append_left _ (List.mem_append_right _ h))) (by decide +kernel))
set_option maxRecDepth 20000 in
theorem gL_keysOf_X4_keysIn : GoodIn wsL_keysOf (wsV RL 43 RX4 yX4_keysIn wsX4_keysIn) := goodIn_app (goodIn_of _ (by decide +kernel)) ggL_keysOf_X4_keysIn
theorem dL_keysOf_0 : decode cL_keysOf 0 = .ok (.aload_n 0, 1) := by decide +kernel
theorem dL_keysOf_1 : decode cL_keysOf 1 = .ok (.iload_n 1, 1) := by decide +kernel
theorem dL_keysOf_2 : decode cL_keysOf 2 = .ok (.invokevirtual 27, 3) := by decide +kernel
theorem dL_keysOf_5 : decode cL_keysOf 5 = .ok (.istore_n 2, 1) := by decide +kernel
theorem dL_keysOf_6 : decode cL_keysOf 6 = .ok (.iconst 0, 1) := by decide +kernel
theorem dL_keysOf_7 : decode cL_keysOf 7 = .ok (.istore_n 3, 1) := by decide +kernel
theorem dL_keysOf_8 : decode cL_keysOf 8 = .ok (.aload_n 0, 1) := by decide +kernel
theorem dL_keysOf_9 : decode cL_keysOf 9 = .ok (.iload_n 1, 1) := by decide +kernel
theorem dL_keysOf_10 : decode cL_keysOf 10 = .ok (.invokevirtual 27, 3) := by decide +kernel
theorem dL_keysOf_13 : decode cL_keysOf 13 = .ok (.ifCond .ne 7, 3) := by decide +kernel
theorem dL_keysOf_16 : decode cL_keysOf 16 = .ok (.iconst 0, 1) := by decide +kernel
theorem dL_keysOf_17 : decode cL_keysOf 17 = .ok (.goto 11, 3) := by decide +kernel
theorem dL_keysOf_20 : decode cL_keysOf 20 = .ok (.aload_n 0, 1) := by decide +kernel
theorem dL_keysOf_21 : decode cL_keysOf 21 = .ok (.iload_n 1, 1) := by decide +kernel
theorem dL_keysOf_22 : decode cL_keysOf 22 = .ok (.iload_n 2, 1) := by decide +kernel
theorem dL_keysOf_23 : decode cL_keysOf 23 = .ok (.iconst 1, 1) := by decide +kernel
theorem dL_keysOf_24 : decode cL_keysOf 24 = .ok (.isub, 1) := by decide +kernel
theorem dL_keysOf_25 : decode cL_keysOf 25 = .ok (.invokevirtual 30, 3) := by decide +kernel
theorem dL_keysOf_28 : decode cL_keysOf 28 = .ok (.istore 4, 2) := by decide +kernel
theorem dL_keysOf_30 : decode cL_keysOf 30 = .ok (.iconst 1, 1) := by decide +kernel
theorem dL_keysOf_31 : decode cL_keysOf 31 = .ok (.istore 5, 2) := by decide +kernel
theorem dL_keysOf_33 : decode cL_keysOf 33 = .ok (.iconst 0, 1) := by decide +kernel
theorem dL_keysOf_34 : decode cL_keysOf 34 = .ok (.istore 6, 2) := by decide +kernel
theorem dL_keysOf_36 : decode cL_keysOf 36 = .ok (.iload 6, 2) := by decide +kernel
theorem dL_keysOf_38 : decode cL_keysOf 38 = .ok (.iload_n 2, 1) := by decide +kernel
theorem dL_keysOf_39 : decode cL_keysOf 39 = .ok (.if_icmp .ge 120, 3) := by decide +kernel
theorem dL_keysOf_42 : decode cL_keysOf 42 = .ok (.aload_n 0, 1) := by decide +kernel
theorem dL_keysOf_43 : decode cL_keysOf 43 = .ok (.iload_n 1, 1) := by decide +kernel
theorem dL_keysOf_44 : decode cL_keysOf 44 = .ok (.iload 6, 2) := by decide +kernel
theorem dL_keysOf_46 : decode cL_keysOf 46 = .ok (.invokevirtual 30, 3) := by decide +kernel
theorem dL_keysOf_49 : decode cL_keysOf 49 = .ok (.istore 7, 2) := by decide +kernel
theorem dL_keysOf_51 : decode cL_keysOf 51 = .ok (.iload 7, 2) := by decide +kernel
theorem dL_keysOf_53 : decode cL_keysOf 53 = .ok (.ifCond .ge 30, 3) := by decide +kernel
theorem dL_keysOf_56 : decode cL_keysOf 56 = .ok (.iload 5, 2) := by decide +kernel
theorem dL_keysOf_58 : decode cL_keysOf 58 = .ok (.ifCond .eq 19, 3) := by decide +kernel
theorem dL_keysOf_61 : decode cL_keysOf 61 = .ok (.aload_n 0, 1) := by decide +kernel
theorem dL_keysOf_62 : decode cL_keysOf 62 = .ok (.iload_n 1, 1) := by decide +kernel
theorem dL_keysOf_63 : decode cL_keysOf 63 = .ok (.iload 6, 2) := by decide +kernel
theorem dL_keysOf_65 : decode cL_keysOf 65 = .ok (.invokevirtual 33, 3) := by decide +kernel
theorem dL_keysOf_68 : decode cL_keysOf 68 = .ok (.bipush (-128), 2) := by decide +kernel
theorem dL_keysOf_70 : decode cL_keysOf 70 = .ok (.if_icmp .ne 7, 3) := by decide +kernel
theorem dL_keysOf_73 : decode cL_keysOf 73 = .ok (.iconst 1, 1) := by decide +kernel
theorem dL_keysOf_74 : decode cL_keysOf 74 = .ok (.goto 4, 3) := by decide +kernel
theorem dL_keysOf_77 : decode cL_keysOf 77 = .ok (.iconst 0, 1) := by decide +kernel
theorem dL_keysOf_78 : decode cL_keysOf 78 = .ok (.istore 5, 2) := by decide +kernel
theorem dL_keysOf_80 : decode cL_keysOf 80 = .ok (.goto 69, 3) := by decide +kernel
theorem dL_keysOf_83 : decode cL_keysOf 83 = .ok (.aload_n 0, 1) := by decide +kernel
theorem dL_keysOf_84 : decode cL_keysOf 84 = .ok (.aload_n 0, 1) := by decide +kernel
theorem dL_keysOf_85 : decode cL_keysOf 85 = .ok (.iload_n 1, 1) := by decide +kernel
theorem dL_keysOf_86 : decode cL_keysOf 86 = .ok (.iload 6, 2) := by decide +kernel
theorem dL_keysOf_88 : decode cL_keysOf 88 = .ok (.invokevirtual 37, 3) := by decide +kernel
theorem dL_keysOf_91 : decode cL_keysOf 91 = .ok (.invokevirtual 40, 3) := by decide +kernel
theorem dL_keysOf_94 : decode cL_keysOf 94 = .ok (.istore 8, 2) := by decide +kernel
theorem dL_keysOf_96 : decode cL_keysOf 96 = .ok (.iload 5, 2) := by decide +kernel
theorem dL_keysOf_98 : decode cL_keysOf 98 = .ok (.ifCond .eq 45, 3) := by decide +kernel
theorem dL_keysOf_101 : decode cL_keysOf 101 = .ok (.iload 7, 2) := by decide +kernel
theorem dL_keysOf_103 : decode cL_keysOf 103 = .ok (.iload 6, 2) := by decide +kernel
theorem dL_keysOf_105 : decode cL_keysOf 105 = .ok (.iload 8, 2) := by decide +kernel
theorem dL_keysOf_107 : decode cL_keysOf 107 = .ok (.isub, 1) := by decide +kernel
theorem dL_keysOf_108 : decode cL_keysOf 108 = .ok (.iload_n 2, 1) := by decide +kernel
theorem dL_keysOf_109 : decode cL_keysOf 109 = .ok (.iconst 1, 1) := by decide +kernel
theorem dL_keysOf_110 : decode cL_keysOf 110 = .ok (.isub, 1) := by decide +kernel
theorem dL_keysOf_111 : decode cL_keysOf 111 = .ok (.iand, 1) := by decide +kernel
theorem dL_keysOf_112 : decode cL_keysOf 112 = .ok (.if_icmp .ne 31, 3) := by decide +kernel
theorem dL_keysOf_115 : decode cL_keysOf 115 = .ok (.aload_n 0, 1) := by decide +kernel
theorem dL_keysOf_116 : decode cL_keysOf 116 = .ok (.iload_n 1, 1) := by decide +kernel
theorem dL_keysOf_117 : decode cL_keysOf 117 = .ok (.iload 6, 2) := by decide +kernel
theorem dL_keysOf_119 : decode cL_keysOf 119 = .ok (.invokevirtual 33, 3) := by decide +kernel
theorem dL_keysOf_122 : decode cL_keysOf 122 = .ok (.iload 8, 2) := by decide +kernel
theorem dL_keysOf_124 : decode cL_keysOf 124 = .ok (.bipush 25, 2) := by decide +kernel
theorem dL_keysOf_126 : decode cL_keysOf 126 = .ok (.iushr, 1) := by decide +kernel
theorem dL_keysOf_127 : decode cL_keysOf 127 = .ok (.if_icmp .ne 16, 3) := by decide +kernel
theorem dL_keysOf_130 : decode cL_keysOf 130 = .ok (.iload 7, 2) := by decide +kernel
theorem dL_keysOf_132 : decode cL_keysOf 132 = .ok (.iload 4, 2) := by decide +kernel
theorem dL_keysOf_134 : decode cL_keysOf 134 = .ok (.iconst 1, 1) := by decide +kernel
theorem dL_keysOf_135 : decode cL_keysOf 135 = .ok (.iadd, 1) := by decide +kernel
theorem dL_keysOf_136 : decode cL_keysOf 136 = .ok (.if_icmp .gt 7, 3) := by decide +kernel
theorem dL_keysOf_139 : decode cL_keysOf 139 = .ok (.iconst 1, 1) := by decide +kernel
theorem dL_keysOf_140 : decode cL_keysOf 140 = .ok (.goto 4, 3) := by decide +kernel
theorem dL_keysOf_143 : decode cL_keysOf 143 = .ok (.iconst 0, 1) := by decide +kernel
theorem dL_keysOf_144 : decode cL_keysOf 144 = .ok (.istore 5, 2) := by decide +kernel
theorem dL_keysOf_146 : decode cL_keysOf 146 = .ok (.iinc 3 1, 3) := by decide +kernel
theorem dL_keysOf_149 : decode cL_keysOf 149 = .ok (.iload 7, 2) := by decide +kernel
theorem dL_keysOf_151 : decode cL_keysOf 151 = .ok (.istore 4, 2) := by decide +kernel
theorem dL_keysOf_153 : decode cL_keysOf 153 = .ok (.iinc 6 1, 3) := by decide +kernel
theorem dL_keysOf_156 : decode cL_keysOf 156 = .ok (.goto (-120), 3) := by decide +kernel
theorem dL_keysOf_159 : decode cL_keysOf 159 = .ok (.iload 5, 2) := by decide +kernel
theorem dL_keysOf_161 : decode cL_keysOf 161 = .ok (.ifCond .eq 16, 3) := by decide +kernel
theorem dL_keysOf_164 : decode cL_keysOf 164 = .ok (.iload_n 3, 1) := by decide +kernel
theorem dL_keysOf_165 : decode cL_keysOf 165 = .ok (.aload_n 0, 1) := by decide +kernel
theorem dL_keysOf_166 : decode cL_keysOf 166 = .ok (.iload_n 1, 1) := by decide +kernel
theorem dL_keysOf_167 : decode cL_keysOf 167 = .ok (.invokevirtual 43, 3) := by decide +kernel
theorem dL_keysOf_170 : decode cL_keysOf 170 = .ok (.if_icmp .ne 7, 3) := by decide +kernel
theorem dL_keysOf_173 : decode cL_keysOf 173 = .ok (.iload_n 3, 1) := by decide +kernel
theorem dL_keysOf_174 : decode cL_keysOf 174 = .ok (.goto 6, 3) := by decide +kernel
theorem dL_keysOf_177 : decode cL_keysOf 177 = .ok (.sipush (-1000), 3) := by decide +kernel
theorem dL_keysOf_180 : decode cL_keysOf 180 = .ok (.ireturn, 1) := by decide +kernel
set_option maxRecDepth 20000 in
theorem ggL_isSo_L_size : GoodIn wsL_isSo wsL_size := goodIn_r _ [4] (by decide +kernel) (by decide +kernel)
set_option maxRecDepth 20000 in
theorem gL_isSo_L_size : GoodIn wsL_isSo (va_wsS RL 46 yL_size wsL_size) := goodIn_app (goodIn_of _ (by decide +kernel)) ggL_isSo_L_size
set_option maxRecDepth 20000 in
theorem ggL_isSo_L_keysOf : GoodIn wsL_isSo wsL_keysOf := goodIn_ca (goodIn_ca (goodIn_r _ [7, 8, 9, 10, 11, 12, 13, 14, 15, 16, 17, 18, 19, 20, 21, 22, 23, 24, 25, 26, 27, 28, 29, 30, 31, 32, 33, 34, 35, 36, 37, 38, 39, 40, 41, 42, 43, 44, 45, 46, 47, 48, 49, 50, 51, 52, 53, 54, 55, 56, 57, 58, 59, 60, 61, 62, 63, 64, 65, 66, 67, 68, 69, 70, 71, 72, 73, 74, 177, 178, 179, 180, 181, 182, 183, 184, 185, 186, 187, 188, 189] (by decide +kernel) (by decide +kernel)) (goodIn_sub (fun _ h => List.mem_cons_of_mem _ (List.mem_append_left _ (List.mem_append_right _ h))) (by decide +kernel))) (goodIn_sub (fun _ h => List.mem_cons_of_mem _ (List.mem_append_right _ h)) (by decide +kernel))
set_option maxRecDepth 20000 in
theorem gL_isSo_L_keysOf : GoodIn wsL_isSo (va_wsS RL 50 yL_keysOf wsL_keysOf) := goodIn_app (goodIn_of _ (by decide +kernel)) ggL_isSo_L_keysOf
set_option maxRecDepth 20000 in
theorem ggL_isSo_X4_size : GoodIn wsL_isSo wsX4_size := goodIn_r _ [78, 19, 20, 183, 184, 185, 186, 187, 188, 189, 177, 178, 179, 180, 181, 182] (by decide +kernel) (by decide +kernel)
set_option maxRecDepth 20000 in
theorem gL_isSo_X4_size : GoodIn wsL_isSo (wsV RL 54 RX4 yX4_size wsX4_size) := goodIn_app (goodIn_of _ (by decide +kernel)) ggL_isSo_X4_size
set_option maxRecDepth 20000 in
theorem ggL_isSo_X4_slots : GoodIn wsL_isSo wsX4_slots := goodIn_ca (goodIn_r _ [12, 13, 14, 15, 11, 16, 17, 18, 19, 20, 177, 178, 179, 180, 181, 182, 183, 184, 185, 186, 187, 188, 189] (by decide +kernel) (by decide +kernel)) (goodIn_sub (fun _ h => List.mem_cons_of_mem _ (List.mem_append_left _ (List.mem_append_right _ h))) (by decide +kernel))
set_option maxRecDepth 20000 in
theorem gL_isSo_X4_slots : GoodIn wsL_isSo (wsV RL 27 RX4 yX4_slots wsX4_slots) := goodIn_app (goodIn_of _ (by decide +kernel)) ggL_isSo_X4_slots
set_option maxRecDepth 20000 in
theorem ggL_isSo_X4_longest : GoodIn wsL_isSo wsX4_longest := goodIn_r _ [82, 19, 83, 84, 85, 86, 29, 30, 31, 32, 33, 34, 35, 36, 37, 38, 39, 40, 41, 42, 43, 44, 183, 184, 185, 186, 187, 188, 189, 177, 178, 179, 180, 181, 182] (by decide +kernel) (by decide +kernel)
set_option maxRecDepth 20000 in
theorem gL_isSo_X4_longest : GoodIn wsL_isSo (wsV RL 57 RX4 yX4_longest wsX4_longest) := goodIn_app (goodIn_of _ (by decide +kernel)) ggL_isSo_X4_longest
set_option maxRecDepth 20000 in
theorem ggL_isSo_X4_plainLongest : GoodIn wsL_isSo wsX4_plainLongest := goodIn_r _ [90, 91, 19, 92, 93, 94, 95, 96, 97, 98, 99, 100, 101, 84, 85, 86, 102, 103, 104, 105, 106, 36, 37, 32, 38, 39, 107, 61, 62, 63, 64, 108, 109, 110, 111, 34, 112, 113, 114, 115, 116, 41, 42, 43, 44, 183, 184, 185, 186, 187, 188, 189, 190, 191, 192, 193, 177, 178, 179, 180, 181, 182] (by decide +kernel) (by decide +kernel)
set_option maxRecDepth 20000 in
theorem gL_isSo_X4_plainLongest : GoodIn wsL_isSo (wsV RL 60 RX4 yX4_plainLongest wsX4_plainLongest) := goodIn_app (goodIn_of _ (by decide +kernel)) ggL_isSo_X4_plainLongest
set_option maxRecDepth 20000 in
theorem ggL_isSo_X4_plainTotal : GoodIn wsL_isSo wsX4_plainTotal := goodIn_r _ [120, 91, 19, 92, 93, 94, 95, 96, 97, 98, 99, 100, 101, 84, 85, 86, 102, 103, 104, 105, 106, 36, 37, 32, 38, 39, 107, 61, 62, 63, 64, 108, 109, 110, 111, 34, 112, 113, 114, 115, 116, 41, 42, 43, 44, 183, 184, 185, 186, 187, 188, 189, 190, 191, 192, 193, 177, 178, 179, 180, 181, 182] (by decide +kernel) (by decide +kernel)
set_option maxRecDepth 20000 in
theorem gL_isSo_X4_plainTotal : GoodIn wsL_isSo (wsV RL 63 RX4 yX4_plainTotal wsX4_plainTotal) := goodIn_app (goodIn_of _ (by decide +kernel)) ggL_isSo_X4_plainTotal
set_option maxRecDepth 20000 in
theorem ggL_isSo_X4_total : GoodIn wsL_isSo wsX4_total := goodIn_r _ [124, 19, 83, 84, 85, 86, 29, 30, 31, 32, 33, 34, 35, 36, 37, 38, 39, 40, 41, 42, 43, 44, 183, 184, 185, 186, 187, 188, 189, 177, 178, 179, 180, 181, 182] (by decide +kernel) (by decide +kernel)
set_option maxRecDepth 20000 in
theorem gL_isSo_X4_total : GoodIn wsL_isSo (wsV RL 66 RX4 yX4_total wsX4_total) := goodIn_app (goodIn_of _ (by decide +kernel)) ggL_isSo_X4_total
set_option maxRecDepth 20000 in
theorem ggL_isSo_L_placeOf : GoodIn wsL_isSo wsL_placeOf := goodIn_r _ [127] (by decide +kernel) (by decide +kernel)
set_option maxRecDepth 20000 in
theorem gL_isSo_L_placeOf : GoodIn wsL_isSo (va_wsS RL 8 yL_placeOf wsL_placeOf) := goodIn_app (goodIn_of _ (by decide +kernel)) ggL_isSo_L_placeOf
set_option maxRecDepth 20000 in
theorem ggL_isSo_X4_get : GoodIn wsL_isSo wsX4_get := goodIn_r _ [131, 132, 133, 134, 135, 11, 136, 19, 20, 137, 66, 67, 68, 69, 70, 138, 139, 140, 141, 142, 143, 144, 145, 146, 147, 148, 149, 150, 151, 152, 153, 154, 155, 156, 157, 158, 159, 41, 42, 32, 43, 44, 160, 36, 37, 38, 39, 161, 50, 51, 52, 162, 61, 62, 63, 64, 163, 164, 165, 166, 167, 168, 183, 184, 185, 186, 187, 188, 189, 194, 195, 196, 197, 177, 178, 179, 180, 181, 182] (by decide +kernel) (by decide +kernel)
set_option maxRecDepth 20000 in
theorem gL_isSo_X4_get : GoodIn wsL_isSo (wsV RL 20 RX4 yX4_get wsX4_get) := goodIn_app (goodIn_of _ (by decide +kernel)) ggL_isSo_X4_get
set_option maxRecDepth 20000 in
theorem ggL_isSo_X4_groups : GoodIn wsL_isSo wsX4_groups := goodIn_r _ [172, 132, 133, 134, 135, 11, 136, 19, 20, 137, 66, 67, 68, 69, 70, 138, 139, 140, 141, 142, 143, 144, 145, 146, 147, 148, 149, 150, 151, 152, 153, 154, 155, 156, 157, 158, 159, 41, 42, 32, 43, 44, 160, 36, 37, 38, 39, 161, 50, 51, 52, 162, 61, 62, 63, 64, 163, 183, 184, 185, 186, 187, 188, 189, 194, 195, 196, 197, 177, 178, 179, 180, 181, 182] (by decide +kernel) (by decide +kernel)
set_option maxRecDepth 20000 in
theorem gL_isSo_X4_groups : GoodIn wsL_isSo (wsV RL 69 RX4 yX4_groups wsX4_groups) := goodIn_app (goodIn_of _ (by decide +kernel)) ggL_isSo_X4_groups
set_option maxRecDepth 20000 in
theorem ggL_isSo_X4_comparisons : GoodIn wsL_isSo wsX4_comparisons := goodIn_r _ [176, 132, 133, 134, 135, 11, 136, 19, 20, 137, 66, 67, 68, 69, 70, 138, 139, 140, 141, 142, 143, 144, 145, 146, 147, 148, 149, 150, 151, 152, 153, 154, 155, 156, 157, 158, 159, 41, 42, 32, 43, 44, 160, 36, 37, 38, 39, 161, 50, 51, 52, 162, 61, 62, 63, 64, 163, 183, 184, 185, 186, 187, 188, 189, 194, 195, 196, 197, 177, 178, 179, 180, 181, 182] (by decide +kernel) (by decide +kernel)
set_option maxRecDepth 20000 in
theorem gL_isSo_X4_comparisons : GoodIn wsL_isSo (wsV RL 72 RX4 yX4_comparisons wsX4_comparisons) := goodIn_app (goodIn_of _ (by decide +kernel)) ggL_isSo_X4_comparisons
theorem dL_isSo_0 : decode cL_isSo 0 = .ok (.aload_n 2, 1) := by decide +kernel
theorem dL_isSo_1 : decode cL_isSo 1 = .ok (.iload_n 3, 1) := by decide +kernel
theorem dL_isSo_2 : decode cL_isSo 2 = .ok (.invokestatic 46, 3) := by decide +kernel
theorem dL_isSo_5 : decode cL_isSo 5 = .ok (.istore 5, 2) := by decide +kernel
theorem dL_isSo_7 : decode cL_isSo 7 = .ok (.aload_n 0, 1) := by decide +kernel
theorem dL_isSo_8 : decode cL_isSo 8 = .ok (.iconst 0, 1) := by decide +kernel
theorem dL_isSo_9 : decode cL_isSo 9 = .ok (.invokestatic 50, 3) := by decide +kernel
theorem dL_isSo_12 : decode cL_isSo 12 = .ok (.istore 6, 2) := by decide +kernel
theorem dL_isSo_14 : decode cL_isSo 14 = .ok (.aload_n 0, 1) := by decide +kernel
theorem dL_isSo_15 : decode cL_isSo 15 = .ok (.invokevirtual 54, 3) := by decide +kernel
theorem dL_isSo_18 : decode cL_isSo 18 = .ok (.iload 5, 2) := by decide +kernel
theorem dL_isSo_20 : decode cL_isSo 20 = .ok (.if_icmp .ne 36, 3) := by decide +kernel
theorem dL_isSo_23 : decode cL_isSo 23 = .ok (.iload 6, 2) := by decide +kernel
theorem dL_isSo_25 : decode cL_isSo 25 = .ok (.aload_n 0, 1) := by decide +kernel
theorem dL_isSo_26 : decode cL_isSo 26 = .ok (.iconst 1, 1) := by decide +kernel
theorem dL_isSo_27 : decode cL_isSo 27 = .ok (.invokestatic 50, 3) := by decide +kernel
theorem dL_isSo_30 : decode cL_isSo 30 = .ok (.iadd, 1) := by decide +kernel
theorem dL_isSo_31 : decode cL_isSo 31 = .ok (.iload 5, 2) := by decide +kernel
theorem dL_isSo_33 : decode cL_isSo 33 = .ok (.if_icmp .ne 23, 3) := by decide +kernel
theorem dL_isSo_36 : decode cL_isSo 36 = .ok (.bipush 8, 2) := by decide +kernel
theorem dL_isSo_38 : decode cL_isSo 38 = .ok (.iload 5, 2) := by decide +kernel
theorem dL_isSo_40 : decode cL_isSo 40 = .ok (.imul, 1) := by decide +kernel
theorem dL_isSo_41 : decode cL_isSo 41 = .ok (.bipush 7, 2) := by decide +kernel
theorem dL_isSo_43 : decode cL_isSo 43 = .ok (.aload_n 0, 1) := by decide +kernel
theorem dL_isSo_44 : decode cL_isSo 44 = .ok (.iconst 0, 1) := by decide +kernel
theorem dL_isSo_45 : decode cL_isSo 45 = .ok (.invokevirtual 27, 3) := by decide +kernel
theorem dL_isSo_48 : decode cL_isSo 48 = .ok (.imul, 1) := by decide +kernel
theorem dL_isSo_49 : decode cL_isSo 49 = .ok (.if_icmp .gt 7, 3) := by decide +kernel
theorem dL_isSo_52 : decode cL_isSo 52 = .ok (.iconst 1, 1) := by decide +kernel
theorem dL_isSo_53 : decode cL_isSo 53 = .ok (.goto 4, 3) := by decide +kernel
theorem dL_isSo_56 : decode cL_isSo 56 = .ok (.iconst 0, 1) := by decide +kernel
theorem dL_isSo_57 : decode cL_isSo 57 = .ok (.istore 7, 2) := by decide +kernel
theorem dL_isSo_59 : decode cL_isSo 59 = .ok (.iload 7, 2) := by decide +kernel
theorem dL_isSo_61 : decode cL_isSo 61 = .ok (.ifCond .eq 61, 3) := by decide +kernel
theorem dL_isSo_64 : decode cL_isSo 64 = .ok (.aload_n 0, 1) := by decide +kernel
theorem dL_isSo_65 : decode cL_isSo 65 = .ok (.invokevirtual 57, 3) := by decide +kernel
theorem dL_isSo_68 : decode cL_isSo 68 = .ok (.aload_n 0, 1) := by decide +kernel
theorem dL_isSo_69 : decode cL_isSo 69 = .ok (.iconst 0, 1) := by decide +kernel
theorem dL_isSo_70 : decode cL_isSo 70 = .ok (.invokevirtual 27, 3) := by decide +kernel
theorem dL_isSo_73 : decode cL_isSo 73 = .ok (.if_icmp .ge 49, 3) := by decide +kernel
theorem dL_isSo_76 : decode cL_isSo 76 = .ok (.iload 6, 2) := by decide +kernel
theorem dL_isSo_78 : decode cL_isSo 78 = .ok (.ifCond .ne 22, 3) := by decide +kernel
theorem dL_isSo_81 : decode cL_isSo 81 = .ok (.aload_n 0, 1) := by decide +kernel
theorem dL_isSo_82 : decode cL_isSo 82 = .ok (.invokevirtual 57, 3) := by decide +kernel
theorem dL_isSo_85 : decode cL_isSo 85 = .ok (.iconst (-1), 1) := by decide +kernel
theorem dL_isSo_86 : decode cL_isSo 86 = .ok (.if_icmp .ne 36, 3) := by decide +kernel
theorem dL_isSo_89 : decode cL_isSo 89 = .ok (.aload_n 0, 1) := by decide +kernel
theorem dL_isSo_90 : decode cL_isSo 90 = .ok (.invokevirtual 60, 3) := by decide +kernel
theorem dL_isSo_93 : decode cL_isSo 93 = .ok (.iconst (-1), 1) := by decide +kernel
theorem dL_isSo_94 : decode cL_isSo 94 = .ok (.if_icmp .ne 28, 3) := by decide +kernel
theorem dL_isSo_97 : decode cL_isSo 97 = .ok (.goto 21, 3) := by decide +kernel
theorem dL_isSo_100 : decode cL_isSo 100 = .ok (.aload_n 0, 1) := by decide +kernel
theorem dL_isSo_101 : decode cL_isSo 101 = .ok (.invokevirtual 63, 3) := by decide +kernel
theorem dL_isSo_104 : decode cL_isSo 104 = .ok (.ifCond .lt 18, 3) := by decide +kernel
theorem dL_isSo_107 : decode cL_isSo 107 = .ok (.aload_n 0, 1) := by decide +kernel
theorem dL_isSo_108 : decode cL_isSo 108 = .ok (.invokevirtual 66, 3) := by decide +kernel
theorem dL_isSo_111 : decode cL_isSo 111 = .ok (.aload_n 0, 1) := by decide +kernel
theorem dL_isSo_112 : decode cL_isSo 112 = .ok (.invokevirtual 63, 3) := by decide +kernel
theorem dL_isSo_115 : decode cL_isSo 115 = .ok (.if_icmp .ne 7, 3) := by decide +kernel
theorem dL_isSo_118 : decode cL_isSo 118 = .ok (.iconst 1, 1) := by decide +kernel
theorem dL_isSo_119 : decode cL_isSo 119 = .ok (.goto 4, 3) := by decide +kernel
theorem dL_isSo_122 : decode cL_isSo 122 = .ok (.iconst 0, 1) := by decide +kernel
theorem dL_isSo_123 : decode cL_isSo 123 = .ok (.istore 7, 2) := by decide +kernel
theorem dL_isSo_125 : decode cL_isSo 125 = .ok (.aload_n 1, 1) := by decide +kernel
theorem dL_isSo_126 : decode cL_isSo 126 = .ok (.iload_n 3, 1) := by decide +kernel
theorem dL_isSo_127 : decode cL_isSo 127 = .ok (.iload 4, 2) := by decide +kernel
theorem dL_isSo_129 : decode cL_isSo 129 = .ok (.invokestatic 8, 3) := by decide +kernel
theorem dL_isSo_132 : decode cL_isSo 132 = .ok (.istore 8, 2) := by decide +kernel
theorem dL_isSo_134 : decode cL_isSo 134 = .ok (.iload 8, 2) := by decide +kernel
theorem dL_isSo_136 : decode cL_isSo 136 = .ok (.ifCond .ge 7, 3) := by decide +kernel
theorem dL_isSo_139 : decode cL_isSo 139 = .ok (.iconst (-1), 1) := by decide +kernel
theorem dL_isSo_140 : decode cL_isSo 140 = .ok (.goto 7, 3) := by decide +kernel
theorem dL_isSo_143 : decode cL_isSo 143 = .ok (.aload_n 2, 1) := by decide +kernel
theorem dL_isSo_144 : decode cL_isSo 144 = .ok (.iload 8, 2) := by decide +kernel
theorem dL_isSo_146 : decode cL_isSo 146 = .ok (.iaload, 1) := by decide +kernel
theorem dL_isSo_147 : decode cL_isSo 147 = .ok (.istore 9, 2) := by decide +kernel
theorem dL_isSo_149 : decode cL_isSo 149 = .ok (.iload 7, 2) := by decide +kernel
theorem dL_isSo_151 : decode cL_isSo 151 = .ok (.ifCond .eq 43, 3) := by decide +kernel
theorem dL_isSo_154 : decode cL_isSo 154 = .ok (.aload_n 0, 1) := by decide +kernel
theorem dL_isSo_155 : decode cL_isSo 155 = .ok (.iload 4, 2) := by decide +kernel
theorem dL_isSo_157 : decode cL_isSo 157 = .ok (.invokevirtual 20, 3) := by decide +kernel
theorem dL_isSo_160 : decode cL_isSo 160 = .ok (.iload 9, 2) := by decide +kernel
theorem dL_isSo_162 : decode cL_isSo 162 = .ok (.if_icmp .ne 32, 3) := by decide +kernel
theorem dL_isSo_165 : decode cL_isSo 165 = .ok (.aload_n 0, 1) := by decide +kernel
theorem dL_isSo_166 : decode cL_isSo 166 = .ok (.iload 4, 2) := by decide +kernel
theorem dL_isSo_168 : decode cL_isSo 168 = .ok (.invokevirtual 69, 3) := by decide +kernel
theorem dL_isSo_171 : decode cL_isSo 171 = .ok (.iconst 1, 1) := by decide +kernel
theorem dL_isSo_172 : decode cL_isSo 172 = .ok (.if_icmp .lt 22, 3) := by decide +kernel
theorem dL_isSo_175 : decode cL_isSo 175 = .ok (.iload 9, 2) := by decide +kernel
theorem dL_isSo_177 : decode cL_isSo 177 = .ok (.ifCond .lt 13, 3) := by decide +kernel
theorem dL_isSo_180 : decode cL_isSo 180 = .ok (.aload_n 0, 1) := by decide +kernel
theorem dL_isSo_181 : decode cL_isSo 181 = .ok (.iload 4, 2) := by decide +kernel
theorem dL_isSo_183 : decode cL_isSo 183 = .ok (.invokevirtual 72, 3) := by decide +kernel
theorem dL_isSo_186 : decode cL_isSo 186 = .ok (.iconst 1, 1) := by decide +kernel
theorem dL_isSo_187 : decode cL_isSo 187 = .ok (.if_icmp .lt 7, 3) := by decide +kernel
theorem dL_isSo_190 : decode cL_isSo 190 = .ok (.iconst 1, 1) := by decide +kernel
theorem dL_isSo_191 : decode cL_isSo 191 = .ok (.goto 4, 3) := by decide +kernel
theorem dL_isSo_194 : decode cL_isSo 194 = .ok (.iconst 0, 1) := by decide +kernel
theorem dL_isSo_195 : decode cL_isSo 195 = .ok (.ireturn, 1) := by decide +kernel
set_option maxRecDepth 20000 in
theorem ggL_law_X4_init : GoodIn wsL_law wsX4_init := goodIn_r _ [7, 8, 9, 10, 11, 12, 13, 14, 15, 16, 17, 18, 19, 20, 21, 22, 23, 24, 25, 26, 27, 28, 29, 30, 31, 32, 33, 34, 3, 35, 36, 37, 38, 39, 40, 41, 42, 43, 44, 45, 46, 47, 48, 49, 50, 51, 52, 53, 54, 55, 56, 57, 58, 59, 300, 301, 302, 303, 304, 305, 306, 307, 308, 309, 310, 311, 312, 313, 314, 315, 316, 317, 318, 319, 320, 321, 322, 323, 324, 325] (by decide +kernel) (by decide +kernel)
set_option maxRecDepth 20000 in
theorem gL_law_X4_init : GoodIn wsL_law (wsX4_init) := ggL_law_X4_init
set_option maxRecDepth 20000 in
theorem ggL_law_L_drawn : GoodIn wsL_law wsL_drawn := goodIn_r _ [63] (by decide +kernel) (by decide +kernel)
set_option maxRecDepth 20000 in
theorem gL_law_L_drawn : GoodIn wsL_law (va_wsS RL 76 yL_drawn wsL_drawn) := goodIn_app (goodIn_of _ (by decide +kernel)) ggL_law_L_drawn
set_option maxRecDepth 20000 in
theorem ggL_law_L_low : GoodIn wsL_law wsL_low := goodIn_r _ [66, 67] (by decide +kernel) (by decide +kernel)
set_option maxRecDepth 20000 in
theorem gL_law_L_low : GoodIn wsL_law (va_wsS RL 79 yL_low wsL_low) := goodIn_app (goodIn_of _ (by decide +kernel)) ggL_law_L_low
set_option maxRecDepth 20000 in
theorem ggL_law_X4_clear : GoodIn wsL_law wsX4_clear := goodIn_ca (goodIn_r _ [71, 72, 73, 28, 24, 25, 74, 12, 75, 48, 49, 23, 50, 51, 52, 53, 54, 55, 56, 43, 76, 77, 78, 27, 79, 80, 300, 301, 302, 303, 304, 305, 306, 315, 316, 317, 318, 319, 320, 321, 322, 323, 324, 325] (by decide +kernel) (by decide +kernel)) (goodIn_sub (fun _ h => List.mem_append_left _ (List.mem_append_left _ (List.mem_append_right _ h))) (by decide +kernel))
set_option maxRecDepth 20000 in
theorem gL_law_X4_clear : GoodIn wsL_law (wsV RL 82 RX4 yX4_clear wsX4_clear) := goodIn_app (goodIn_of _ (by decide +kernel)) ggL_law_X4_clear
set_option maxRecDepth 20000 in
theorem ggL_law_L_isPut : GoodIn wsL_law wsL_isPut := goodIn_ca (goodIn_ca (goodIn_r _ [83, 84, 85, 62, 86, 87, 88, 89, 2, 90, 72, 73, 91, 92, 16, 93, 94, 95, 96, 24, 25, 97, 98, 99, 100, 101, 102, 103, 104, 105, 106, 107, 108, 28, 109, 110, 111, 112, 15, 113, 114, 115, 116, 117, 118, 119, 120, 121, 122, 123, 124, 125, 126, 127, 128, 129, 130, 131, 132, 23, 133, 55, 134, 135, 136, 137, 43, 138, 139, 140, 141, 142, 143, 144, 145, 45, 146, 147, 148, 149, 150, 46, 151, 152, 153, 154, 155, 156, 157, 158, 159, 160, 161, 162, 163, 164, 44, 165, 166, 167, 168, 56, 169, 170, 171, 172, 173, 174, 175, 176, 177, 178, 179, 180, 181, 182, 183, 184, 185, 75, 48, 49, 50, 51, 52, 53, 54, 186, 187, 188, 189, 190, 191, 192, 193, 194, 195, 196, 197, 74, 198, 300, 301, 302, 303, 304, 305, 306, 307, 308, 309, 310, 315, 316, 317, 318, 319, 320] (by decide +kernel) (by decide +kernel)) (goodIn_sub (fun _ h => List.mem_append_left _ (List.mem_append_left _ (List.mem_append_right _ h))) (by decide +kernel))) (goodIn_sub (fun _ h => List.mem_append_left _ (List.mem_append_right _ h)) (by decide +kernel))
set_option maxRecDepth 20000 in
theorem gL_law_L_isPut : GoodIn wsL_law (va_wsS RL 87 yL_isPut wsL_isPut) := goodIn_app (goodIn_of _ (by decide +kernel)) ggL_law_L_isPut
set_option maxRecDepth 20000 in
theorem ggL_law_L_isRemoved : GoodIn wsL_law wsL_isRemoved := goodIn_r _ [201, 84, 85, 62, 86, 202, 203, 204, 2, 205, 16, 151, 152, 153, 154, 25, 24, 155, 156, 157, 23, 158, 55, 159, 135, 136, 137, 43, 160, 143, 144, 145, 45, 147, 148, 149, 150, 46, 161, 162, 163, 164, 44, 165, 166, 167, 168, 56, 169, 131, 132, 133, 170, 171, 172, 173, 174, 175, 176, 177, 178, 179, 180, 181, 182, 183, 184, 185, 75, 48, 49, 50, 51, 52, 53, 54, 101, 102, 103, 104, 105, 106, 107, 108, 28, 109, 110, 111, 112, 15, 113, 114, 115, 116, 117, 118, 119, 120, 121, 122, 123, 124, 125, 126, 127, 128, 129, 130, 134, 138, 139, 140, 141, 142, 146, 198, 98, 99, 100, 300, 301, 302, 303, 304, 305, 306, 307, 308, 309, 310, 315, 316, 317, 318, 319, 320] (by decide +kernel) (by decide +kernel)
set_option maxRecDepth 20000 in
theorem gL_law_L_isRemoved : GoodIn wsL_law (va_wsS RL 91 yL_isRemoved wsL_isRemoved) := goodIn_app (goodIn_of _ (by decide +kernel)) ggL_law_L_isRemoved
set_option maxRecDepth 20000 in
theorem ggL_law_X4_keysIn : GoodIn wsL_law wsX4_keysIn := goodIn_ca (goodIn_r _ [209, 210, 211, 212, 2, 213, 214, 215, 24, 25, 315, 316, 317, 318, 319, 320, 300, 301, 302, 303, 304, 305, 306] (by decide +kernel) (by decide +kernel)) (goodIn_sub (fun _ h => List.mem_append_right _ h) (by decide +kernel))
set_option maxRecDepth 20000 in
theorem gL_law_X4_keysIn : GoodIn wsL_law (wsV RL 43 RX4 yX4_keysIn wsX4_keysIn) := goodIn_app (goodIn_of _ (by decide +kernel)) ggL_law_X4_keysIn
set_option maxRecDepth 20000 in
theorem ggL_law_X4_move : GoodIn wsL_law wsX4_move := goodIn_r _ [219, 151, 152, 153, 2, 154, 25, 24, 155, 156, 157, 23, 158, 55, 159, 135, 136, 137, 43, 160, 143, 144, 145, 45, 147, 148, 149, 150, 46, 161, 162, 163, 164, 44, 165, 166, 167, 168, 56, 169, 131, 132, 133, 170, 171, 172, 173, 174, 175, 176, 177, 178, 179, 180, 181, 182, 183, 184, 185, 75, 48, 49, 50, 51, 52, 53, 54, 300, 301, 302, 303, 304, 305, 306, 315, 316, 317, 318, 319, 320] (by decide +kernel) (by decide +kernel)
set_option maxRecDepth 20000 in
theorem gL_law_X4_move : GoodIn wsL_law (wsV RL 95 RX4 yX4_move wsX4_move) := goodIn_app (goodIn_of _ (by decide +kernel)) ggL_law_X4_move
set_option maxRecDepth 20000 in
theorem ggL_law_X4_slots : GoodIn wsL_law wsX4_slots := goodIn_ca (goodIn_r _ [223, 210, 211, 212, 2, 213, 214, 215, 24, 25, 315, 316, 317, 318, 319, 320, 300, 301, 302, 303, 304, 305, 306] (by decide +kernel) (by decide +kernel)) (goodIn_sub (fun _ h => List.mem_append_right _ h) (by decide +kernel))
set_option maxRecDepth 20000 in
theorem gL_law_X4_slots : GoodIn wsL_law (wsV RL 27 RX4 yX4_slots wsX4_slots) := goodIn_app (goodIn_of _ (by decide +kernel)) ggL_law_X4_slots
set_option maxRecDepth 20000 in
theorem ggL_law_L_isSo : GoodIn wsL_law wsL_isSo := goodIn_ca (goodIn_ca (goodIn_r _ [226, 227, 228, 62, 229, 230, 231, 232, 220, 221, 222, 2, 223, 210, 211, 212, 213, 214, 215, 24, 25, 233, 234, 235, 236, 237, 238, 239, 240, 241, 171, 172, 23, 173, 44, 159, 135, 136, 137, 43, 169, 131, 132, 133, 55, 242, 243, 244, 245, 246, 139, 140, 141, 247, 248, 249, 250, 91, 92, 251, 160, 143, 144, 145, 45, 252, 106, 107, 108, 28, 109, 206, 207, 208, 209, 253, 94, 95, 96, 254, 255, 256, 257, 258, 259, 53, 260, 261, 262, 263, 264, 20, 265, 266, 267, 19, 268, 269, 270, 37, 35, 271, 272, 273, 274, 275, 276, 277, 278, 162, 163, 164, 279, 280, 281, 282, 283, 284, 285, 286, 287, 288, 289, 290, 291, 84, 85, 86, 198, 98, 99, 100, 16, 101, 102, 103, 104, 105, 110, 111, 112, 15, 113, 114, 115, 116, 117, 118, 119, 120, 121, 122, 123, 124, 125, 126, 127, 128, 129, 130, 134, 138, 142, 146, 147, 148, 149, 150, 46, 292, 293, 294, 295, 296, 297, 298, 299, 315, 316, 317, 318, 319, 320, 300, 301, 302, 303, 304, 305, 306, 311, 312, 313, 314, 307, 308, 309, 310] (by decide +kernel) (by decide +kernel)) (goodIn_sub (fun _ h => List.mem_append_right _ h) (by decide +kernel))) (goodIn_sub (fun _ h => List.mem_append_left _ (List.mem_append_right _ h)) (by decide +kernel))
set_option maxRecDepth 20000 in
theorem gL_law_L_isSo : GoodIn wsL_law (va_wsS RL 98 yL_isSo wsL_isSo) := goodIn_app (goodIn_of _ (by decide +kernel)) ggL_law_L_isSo
theorem dL_law_0 : decode cL_law 0 = .ok (.new 15, 3) := by decide +kernel
theorem dL_law_3 : decode cL_law 3 = .ok (.dup, 1) := by decide +kernel
theorem dL_law_4 : decode cL_law 4 = .ok (.invokespecial 75, 3) := by decide +kernel
theorem dL_law_7 : decode cL_law 7 = .ok (.astore_n 1, 1) := by decide +kernel
theorem dL_law_8 : decode cL_law 8 = .ok (.bipush 64, 2) := by decide +kernel
theorem dL_law_10 : decode cL_law 10 = .ok (.newarray .int, 2) := by decide +kernel
theorem dL_law_12 : decode cL_law 12 = .ok (.astore_n 2, 1) := by decide +kernel
theorem dL_law_13 : decode cL_law 13 = .ok (.bipush 64, 2) := by decide +kernel
theorem dL_law_15 : decode cL_law 15 = .ok (.newarray .int, 2) := by decide +kernel
theorem dL_law_17 : decode cL_law 17 = .ok (.astore_n 3, 1) := by decide +kernel
theorem dL_law_18 : decode cL_law 18 = .ok (.iconst 1, 1) := by decide +kernel
theorem dL_law_19 : decode cL_law 19 = .ok (.newarray .int, 2) := by decide +kernel
theorem dL_law_21 : decode cL_law 21 = .ok (.astore 4, 2) := by decide +kernel
theorem dL_law_23 : decode cL_law 23 = .ok (.aload_n 0, 1) := by decide +kernel
theorem dL_law_24 : decode cL_law 24 = .ok (.iconst 0, 1) := by decide +kernel
theorem dL_law_25 : decode cL_law 25 = .ok (.invokestatic 76, 3) := by decide +kernel
theorem dL_law_28 : decode cL_law 28 = .ok (.iconst 3, 1) := by decide +kernel
theorem dL_law_29 : decode cL_law 29 = .ok (.invokestatic 79, 3) := by decide +kernel
theorem dL_law_32 : decode cL_law 32 = .ok (.ifCond .ne 8, 3) := by decide +kernel
theorem dL_law_35 : decode cL_law 35 = .ok (.aload_n 1, 1) := by decide +kernel
theorem dL_law_36 : decode cL_law 36 = .ok (.iconst 0, 1) := by decide +kernel
theorem dL_law_37 : decode cL_law 37 = .ok (.invokevirtual 82, 3) := by decide +kernel
theorem dL_law_40 : decode cL_law 40 = .ok (.iconst 1, 1) := by decide +kernel
theorem dL_law_41 : decode cL_law 41 = .ok (.istore 5, 2) := by decide +kernel
theorem dL_law_43 : decode cL_law 43 = .ok (.iload 5, 2) := by decide +kernel
theorem dL_law_45 : decode cL_law 45 = .ok (.bipush 60, 2) := by decide +kernel
theorem dL_law_47 : decode cL_law 47 = .ok (.if_icmp .ge 259, 3) := by decide +kernel
theorem dL_law_50 : decode cL_law 50 = .ok (.aload_n 0, 1) := by decide +kernel
theorem dL_law_51 : decode cL_law 51 = .ok (.iload 5, 2) := by decide +kernel
theorem dL_law_53 : decode cL_law 53 = .ok (.invokestatic 76, 3) := by decide +kernel
theorem dL_law_56 : decode cL_law 56 = .ok (.istore 6, 2) := by decide +kernel
theorem dL_law_58 : decode cL_law 58 = .ok (.iload 6, 2) := by decide +kernel
theorem dL_law_60 : decode cL_law 60 = .ok (.iconst 1, 1) := by decide +kernel
theorem dL_law_61 : decode cL_law 61 = .ok (.iand, 1) := by decide +kernel
theorem dL_law_62 : decode cL_law 62 = .ok (.ifCond .ne 18, 3) := by decide +kernel
theorem dL_law_65 : decode cL_law 65 = .ok (.iload 6, 2) := by decide +kernel
theorem dL_law_67 : decode cL_law 67 = .ok (.iconst 1, 1) := by decide +kernel
theorem dL_law_68 : decode cL_law 68 = .ok (.ishr, 1) := by decide +kernel
theorem dL_law_69 : decode cL_law 69 = .ok (.bipush 40, 2) := by decide +kernel
theorem dL_law_71 : decode cL_law 71 = .ok (.invokestatic 79, 3) := by decide +kernel
theorem dL_law_74 : decode cL_law 74 = .ok (.bipush 8, 2) := by decide +kernel
theorem dL_law_76 : decode cL_law 76 = .ok (.isub, 1) := by decide +kernel
theorem dL_law_77 : decode cL_law 77 = .ok (.goto 11, 3) := by decide +kernel
theorem dL_law_80 : decode cL_law 80 = .ok (.aload_n 0, 1) := by decide +kernel
theorem dL_law_81 : decode cL_law 81 = .ok (.iload 5, 2) := by decide +kernel
theorem dL_law_83 : decode cL_law 83 = .ok (.iconst 5, 1) := by decide +kernel
theorem dL_law_84 : decode cL_law 84 = .ok (.iadd, 1) := by decide +kernel
theorem dL_law_85 : decode cL_law 85 = .ok (.invokestatic 76, 3) := by decide +kernel
theorem dL_law_88 : decode cL_law 88 = .ok (.istore 7, 2) := by decide +kernel
theorem dL_law_90 : decode cL_law 90 = .ok (.iconst 1, 1) := by decide +kernel
theorem dL_law_91 : decode cL_law 91 = .ok (.istore 8, 2) := by decide +kernel
theorem dL_law_93 : decode cL_law 93 = .ok (.iload 6, 2) := by decide +kernel
theorem dL_law_95 : decode cL_law 95 = .ok (.bipush 14, 2) := by decide +kernel
theorem dL_law_97 : decode cL_law 97 = .ok (.iand, 1) := by decide +kernel
theorem dL_law_98 : decode cL_law 98 = .ok (.bipush 10, 2) := by decide +kernel
theorem dL_law_100 : decode cL_law 100 = .ok (.if_icmp .ge 27, 3) := by decide +kernel
theorem dL_law_103 : decode cL_law 103 = .ok (.aload_n 1, 1) := by decide +kernel
theorem dL_law_104 : decode cL_law 104 = .ok (.aload_n 2, 1) := by decide +kernel
theorem dL_law_105 : decode cL_law 105 = .ok (.aload_n 3, 1) := by decide +kernel
theorem dL_law_106 : decode cL_law 106 = .ok (.aload 4, 2) := by decide +kernel
theorem dL_law_108 : decode cL_law 108 = .ok (.iload 7, 2) := by decide +kernel
theorem dL_law_110 : decode cL_law 110 = .ok (.iload 6, 2) := by decide +kernel
theorem dL_law_112 : decode cL_law 112 = .ok (.iconst 4, 1) := by decide +kernel
theorem dL_law_113 : decode cL_law 113 = .ok (.ishr, 1) := by decide +kernel
theorem dL_law_114 : decode cL_law 114 = .ok (.ldc 86, 2) := by decide +kernel
theorem dL_law_116 : decode cL_law 116 = .ok (.invokestatic 79, 3) := by decide +kernel
theorem dL_law_119 : decode cL_law 119 = .ok (.invokestatic 87, 3) := by decide +kernel
theorem dL_law_122 : decode cL_law 122 = .ok (.istore 8, 2) := by decide +kernel
theorem dL_law_124 : decode cL_law 124 = .ok (.goto 154, 3) := by decide +kernel
theorem dL_law_127 : decode cL_law 127 = .ok (.iload 6, 2) := by decide +kernel
theorem dL_law_129 : decode cL_law 129 = .ok (.bipush 14, 2) := by decide +kernel
theorem dL_law_131 : decode cL_law 131 = .ok (.iand, 1) := by decide +kernel
theorem dL_law_132 : decode cL_law 132 = .ok (.bipush 10, 2) := by decide +kernel
theorem dL_law_134 : decode cL_law 134 = .ok (.if_icmp .ne 38, 3) := by decide +kernel
theorem dL_law_137 : decode cL_law 137 = .ok (.aload 4, 2) := by decide +kernel
theorem dL_law_139 : decode cL_law 139 = .ok (.iconst 0, 1) := by decide +kernel
theorem dL_law_140 : decode cL_law 140 = .ok (.iaload, 1) := by decide +kernel
theorem dL_law_141 : decode cL_law 141 = .ok (.ifCond .le 31, 3) := by decide +kernel
theorem dL_law_144 : decode cL_law 144 = .ok (.aload_n 1, 1) := by decide +kernel
theorem dL_law_145 : decode cL_law 145 = .ok (.aload_n 2, 1) := by decide +kernel
theorem dL_law_146 : decode cL_law 146 = .ok (.aload_n 3, 1) := by decide +kernel
theorem dL_law_147 : decode cL_law 147 = .ok (.aload 4, 2) := by decide +kernel
theorem dL_law_149 : decode cL_law 149 = .ok (.iconst 0, 1) := by decide +kernel
theorem dL_law_150 : decode cL_law 150 = .ok (.iaload, 1) := by decide +kernel
theorem dL_law_151 : decode cL_law 151 = .ok (.aload_n 2, 1) := by decide +kernel
theorem dL_law_152 : decode cL_law 152 = .ok (.iload 6, 2) := by decide +kernel
theorem dL_law_154 : decode cL_law 154 = .ok (.iconst 4, 1) := by decide +kernel
theorem dL_law_155 : decode cL_law 155 = .ok (.ishr, 1) := by decide +kernel
theorem dL_law_156 : decode cL_law 156 = .ok (.aload 4, 2) := by decide +kernel
theorem dL_law_158 : decode cL_law 158 = .ok (.iconst 0, 1) := by decide +kernel
theorem dL_law_159 : decode cL_law 159 = .ok (.iaload, 1) := by decide +kernel
theorem dL_law_160 : decode cL_law 160 = .ok (.invokestatic 79, 3) := by decide +kernel
theorem dL_law_163 : decode cL_law 163 = .ok (.iaload, 1) := by decide +kernel
theorem dL_law_164 : decode cL_law 164 = .ok (.invokestatic 91, 3) := by decide +kernel
theorem dL_law_167 : decode cL_law 167 = .ok (.istore 8, 2) := by decide +kernel
theorem dL_law_169 : decode cL_law 169 = .ok (.goto 109, 3) := by decide +kernel
theorem dL_law_172 : decode cL_law 172 = .ok (.iload 6, 2) := by decide +kernel
theorem dL_law_174 : decode cL_law 174 = .ok (.bipush 14, 2) := by decide +kernel
theorem dL_law_176 : decode cL_law 176 = .ok (.iand, 1) := by decide +kernel
theorem dL_law_177 : decode cL_law 177 = .ok (.bipush 12, 2) := by decide +kernel
theorem dL_law_179 : decode cL_law 179 = .ok (.if_icmp .ne 20, 3) := by decide +kernel
theorem dL_law_182 : decode cL_law 182 = .ok (.aload_n 1, 1) := by decide +kernel
theorem dL_law_183 : decode cL_law 183 = .ok (.aload_n 2, 1) := by decide +kernel
theorem dL_law_184 : decode cL_law 184 = .ok (.aload_n 3, 1) := by decide +kernel
theorem dL_law_185 : decode cL_law 185 = .ok (.aload 4, 2) := by decide +kernel
theorem dL_law_187 : decode cL_law 187 = .ok (.iconst 0, 1) := by decide +kernel
theorem dL_law_188 : decode cL_law 188 = .ok (.iaload, 1) := by decide +kernel
theorem dL_law_189 : decode cL_law 189 = .ok (.iload 7, 2) := by decide +kernel
theorem dL_law_191 : decode cL_law 191 = .ok (.invokestatic 91, 3) := by decide +kernel
theorem dL_law_194 : decode cL_law 194 = .ok (.istore 8, 2) := by decide +kernel
theorem dL_law_196 : decode cL_law 196 = .ok (.goto 82, 3) := by decide +kernel
theorem dL_law_199 : decode cL_law 199 = .ok (.aload_n 1, 1) := by decide +kernel
theorem dL_law_200 : decode cL_law 200 = .ok (.iconst 1, 1) := by decide +kernel
theorem dL_law_201 : decode cL_law 201 = .ok (.invokevirtual 43, 3) := by decide +kernel
theorem dL_law_204 : decode cL_law 204 = .ok (.istore 9, 2) := by decide +kernel
theorem dL_law_206 : decode cL_law 206 = .ok (.aload_n 1, 1) := by decide +kernel
theorem dL_law_207 : decode cL_law 207 = .ok (.invokevirtual 95, 3) := by decide +kernel
theorem dL_law_210 : decode cL_law 210 = .ok (.istore 10, 2) := by decide +kernel
theorem dL_law_212 : decode cL_law 212 = .ok (.iload 10, 2) := by decide +kernel
theorem dL_law_214 : decode cL_law 214 = .ok (.iload 9, 2) := by decide +kernel
theorem dL_law_216 : decode cL_law 216 = .ok (.iconst 4, 1) := by decide +kernel
theorem dL_law_217 : decode cL_law 217 = .ok (.if_icmp .ge 8, 3) := by decide +kernel
theorem dL_law_220 : decode cL_law 220 = .ok (.iload 9, 2) := by decide +kernel
theorem dL_law_222 : decode cL_law 222 = .ok (.goto 4, 3) := by decide +kernel
theorem dL_law_225 : decode cL_law 225 = .ok (.iconst 4, 1) := by decide +kernel
theorem dL_law_226 : decode cL_law 226 = .ok (.if_icmp .ne 49, 3) := by decide +kernel
theorem dL_law_229 : decode cL_law 229 = .ok (.aload_n 1, 1) := by decide +kernel
theorem dL_law_230 : decode cL_law 230 = .ok (.iconst 1, 1) := by decide +kernel
theorem dL_law_231 : decode cL_law 231 = .ok (.invokevirtual 43, 3) := by decide +kernel
theorem dL_law_234 : decode cL_law 234 = .ok (.iload 9, 2) := by decide +kernel
theorem dL_law_236 : decode cL_law 236 = .ok (.iload 10, 2) := by decide +kernel
theorem dL_law_238 : decode cL_law 238 = .ok (.isub, 1) := by decide +kernel
theorem dL_law_239 : decode cL_law 239 = .ok (.if_icmp .ne 36, 3) := by decide +kernel
theorem dL_law_242 : decode cL_law 242 = .ok (.aload_n 1, 1) := by decide +kernel
theorem dL_law_243 : decode cL_law 243 = .ok (.iconst 1, 1) := by decide +kernel
theorem dL_law_244 : decode cL_law 244 = .ok (.invokevirtual 27, 3) := by decide +kernel
theorem dL_law_247 : decode cL_law 247 = .ok (.ifCond .ne 7, 3) := by decide +kernel
theorem dL_law_250 : decode cL_law 250 = .ok (.iconst 1, 1) := by decide +kernel
theorem dL_law_251 : decode cL_law 251 = .ok (.goto 4, 3) := by decide +kernel
theorem dL_law_254 : decode cL_law 254 = .ok (.iconst 0, 1) := by decide +kernel
theorem dL_law_255 : decode cL_law 255 = .ok (.aload_n 1, 1) := by decide +kernel
theorem dL_law_256 : decode cL_law 256 = .ok (.iconst 1, 1) := by decide +kernel
theorem dL_law_257 : decode cL_law 257 = .ok (.invokevirtual 43, 3) := by decide +kernel
theorem dL_law_260 : decode cL_law 260 = .ok (.ifCond .ne 7, 3) := by decide +kernel
theorem dL_law_263 : decode cL_law 263 = .ok (.iconst 1, 1) := by decide +kernel
theorem dL_law_264 : decode cL_law 264 = .ok (.goto 4, 3) := by decide +kernel
theorem dL_law_267 : decode cL_law 267 = .ok (.iconst 0, 1) := by decide +kernel
theorem dL_law_268 : decode cL_law 268 = .ok (.if_icmp .ne 7, 3) := by decide +kernel
theorem dL_law_271 : decode cL_law 271 = .ok (.iconst 1, 1) := by decide +kernel
theorem dL_law_272 : decode cL_law 272 = .ok (.goto 4, 3) := by decide +kernel
theorem dL_law_275 : decode cL_law 275 = .ok (.iconst 0, 1) := by decide +kernel
theorem dL_law_276 : decode cL_law 276 = .ok (.istore 8, 2) := by decide +kernel
theorem dL_law_278 : decode cL_law 278 = .ok (.iload 8, 2) := by decide +kernel
theorem dL_law_280 : decode cL_law 280 = .ok (.ifCond .eq 18, 3) := by decide +kernel
theorem dL_law_283 : decode cL_law 283 = .ok (.aload_n 1, 1) := by decide +kernel
theorem dL_law_284 : decode cL_law 284 = .ok (.aload_n 2, 1) := by decide +kernel
theorem dL_law_285 : decode cL_law 285 = .ok (.aload_n 3, 1) := by decide +kernel
theorem dL_law_286 : decode cL_law 286 = .ok (.aload 4, 2) := by decide +kernel
theorem dL_law_288 : decode cL_law 288 = .ok (.iconst 0, 1) := by decide +kernel
theorem dL_law_289 : decode cL_law 289 = .ok (.iaload, 1) := by decide +kernel
theorem dL_law_290 : decode cL_law 290 = .ok (.iload 7, 2) := by decide +kernel
theorem dL_law_292 : decode cL_law 292 = .ok (.invokestatic 98, 3) := by decide +kernel
theorem dL_law_295 : decode cL_law 295 = .ok (.ifCond .ne 5, 3) := by decide +kernel
theorem dL_law_298 : decode cL_law 298 = .ok (.iconst 0, 1) := by decide +kernel
theorem dL_law_299 : decode cL_law 299 = .ok (.ireturn, 1) := by decide +kernel
theorem dL_law_300 : decode cL_law 300 = .ok (.iinc 5 1, 3) := by decide +kernel
theorem dL_law_303 : decode cL_law 303 = .ok (.goto (-260), 3) := by decide +kernel
theorem dL_law_306 : decode cL_law 306 = .ok (.iconst 1, 1) := by decide +kernel
theorem dL_law_307 : decode cL_law 307 = .ok (.ireturn, 1) := by decide +kernel
abbrev vwCl : List vw_C := [(RX0, TX0, 4), (RX1, TX1, 4), (RX2, TX2, 5), (RX3, TX3, 6), (RX4, TX4, 7)]
end
section
/-! my own base: contracts with one world before and one behind, calls by a frame that a list of places gives, steps of the functions that the methods compute -/
theorem ob {α β : Type} {o : Option α} {f : α → Option β} {r : β} (h : o.bind f = some r) : ∃ a, o = some a ∧ f a = some r := by
  cases o with
  | none => cases h
  | some a => exact ⟨a, rfl, h⟩
def nm {α β : Type} (x : α) (f : α → Option β) : Option β := f x
theorem nm_ob {α β : Type} {x : α} {f : α → Option β} {r : β} (h : nm x f = some r) : ∃ a, x = a ∧ f a = some r := ⟨x, rfl, h⟩
def bd {α β : Type} (o : Option α) (f : α → Option β) : Option β := o.bind f
theorem bd_ob {α β : Type} {o : Option α} {f : α → Option β} {r : β} (h : bd o f = some r) : ∃ a, o = some a ∧ f a = some r := ob h
def bd2 {α β γ : Type} (o : Option (α × β)) (f : α → β → Option γ) : Option γ := o.bind fun z => f z.1 z.2
theorem bd2_ob {α β γ : Type} {o : Option (α × β)} {f : α → β → Option γ} {r : γ} (h : bd2 o f = some r) : ∃ a b, o = some (a, b) ∧ f a b = some r := by
  obtain ⟨⟨a, b⟩, h1, h2⟩ := ob h
  exact ⟨a, b, h1, h2⟩
/-- a place of a row of n is looked at -/
def gd {α : Type} (i : Int32) (n : Nat) (x : Option α) : Option α := if ¬ (i < 0 ∨ n ≤ i.toNatClampNeg) then x else none
theorem gd_ob {α : Type} {i : Int32} {n : Nat} {x : Option α} {r : α} (h : gd i n x = some r) : vp_in i n ∧ x = some r := by
  unfold gd at h
  by_cases q : ¬ (i < 0 ∨ n ≤ i.toNatClampNeg)
  · rw [if_pos q] at h
    exact ⟨q, h⟩
  · rw [if_neg q] at h
    cases h
theorem gd_of {α : Type} {i : Int32} {n : Nat} {x : Option α} (h : vp_in i n) : gd i n x = x := by
  unfold gd
  exact if_pos h
/-- a number that must fit a narrow type -/
def gn {α : Type} (ty : FieldType) (v : Int32) (x : Option α) : Option α := if vp_nar ty v = v then x else none
theorem gn_ob {α : Type} {ty : FieldType} {v : Int32} {x : Option α} {r : α} (h : gn ty v x = some r) : vp_nar ty v = v ∧ x = some r := by
  unfold gn at h
  by_cases q : vp_nar ty v = v
  · rw [if_pos q] at h
    exact ⟨q, h⟩
  · rw [if_neg q] at h
    cases h
theorem gn_of {α : Type} {ty : FieldType} {v : Int32} {x : Option α} (h : vp_nar ty v = v) : gn ty v x = x := by
  unfold gn
  exact if_pos h
theorem it_p {α : Type} {c : Prop} {_ : Decidable c} {a b : α} {r : α} (h : c) (hf : (if c then a else b) = r) : a = r := by
  rw [if_pos h] at hf
  exact hf
theorem it_n {α : Type} {c : Prop} {_ : Decidable c} {a b : α} {r : α} (h : ¬ c) (hf : (if c then a else b) = r) : b = r := by
  rw [if_neg h] at hf
  exact hf
theorem so1 {α : Type} {a b : α} (h : some a = some b) : a = b := Option.some.inj h
theorem so2 {α β : Type} {a c : α} {b d : β} (h : some (a, b) = some (c, d)) : a = c ∧ b = d := by
  cases h
  exact ⟨rfl, rfl⟩
/-- how many rounds any loop gets -/
def FU : Nat := 1024
/-- the array classes, in one order -/
def vt (ca : Nat → ClassId) : List (ClassId × FieldType) := [(ca 0, .int), (ca 1, .byte), (ca 2, .boolean), (ca 3, .int), (ca 4, .object RX2)]
/-- links between nest mates, which no list of words has -/
def nxf : List (String × Nat × String × String × String) := [(RX1, 22, "RobinRow$Table", "slots", "I"), (RX0, 46, "RobinRow$Table", "slots", "I"), (RX4, 110, "RobinRow$Table", "count", "I"), (RX4, 168, "RobinRow$Table", "slots", "I"), (RX4, 193, "RobinRow$Search", "groups", "I"), (RX4, 196, "RobinRow$Search", "comparisons", "I"), (RX4, 216, "RobinRow$PlainRow", "total", "I"), (RX4, 219, "RobinRow$PlainRow", "longest", "I"), (RX4, 87, "RobinRow$Search", "table", "LRobinRow$Table;"), (RX4, 90, "RobinRow$Search", "slot", "I")]
def nxm : List (Nat × MethodName) := [(17, yX1_init), (24, yX0_init), (41, yX2_init)]
def nxc : List String := []
def nxs : List (Nat × String) := []
def nxd : List MethodName := []
def NX (U : State) : Prop := (∀ q ∈ nxf, va_Nw (.fieldLinkNest q.1 q.2.1 q.2.2.1 q.2.2.2.1 q.2.2.2.2 RX4) U) ∧ (∀ q ∈ nxm, va_Nw (.methodLinkNest RX4 q.1 q.2 RX4) U) ∧ (∀ q ∈ nxc, va_Nw (.castable q q) U) ∧ (∀ q ∈ nxs, ∃ a : Nat, vk_R RX4 q.1 q.2 a U) ∧ (∀ q ∈ nxd, va_Nw (.declares q) U) ∧ va_AO RX2 U
theorem NX.warm {s U : State} (hW : s.WarmedH U.vm) (h : NX s) : NX U := ⟨fun q hq => va_Nw.warmF hW (h.1 q hq), fun q hq => va_Nw.warmM hW (h.2.1 q hq), fun q hq => va_Nw.warmC hW (h.2.2.1 q hq), fun q hq => (h.2.2.2.1 q hq).elim fun a ha => ⟨a, vk_R.warm hW ha⟩, fun q hq => va_Nw.warmD hW (h.2.2.2.2.1 q hq), va_AO.moved hW.alike h.2.2.2.2.2⟩
theorem NX.same {s U : State} (hv : s.vm = U.vm) (h : NX s) : NX U := ⟨fun q hq => va_Nw.same rfl hv (h.1 q hq), fun q hq => va_Nw.same rfl hv (h.2.1 q hq), fun q hq => va_Nw.same rfl hv (h.2.2.1 q hq), fun q hq => (h.2.2.2.1 q hq).elim fun a ha => ⟨a, vk_R.same hv.symm ha⟩, fun q hq => va_Nw.same rfl hv (h.2.2.2.2.1 q hq), va_AO.moved (by rw [hv]; exact Vm.Alike.refl _) h.2.2.2.2.2⟩
def Pw (D : va_G) (ca : Nat → ClassId) (ws : va_W) (sz : Nat) (U : State) : Prop := U.heap.size = sz ∧ va_P D vwCl ws U.heap ∧ va_K D vwCl (vt ca) U ∧ va_D (fun _ => True) ws ∧ NX U
def Aw (D : va_G) (ca : Nat → ClassId) (A : Nat → Prop) (ws : va_W) (t : State) : Prop := va_P D vwCl ws t.heap ∧ va_K D vwCl (vt ca) t ∧ va_D A ws
theorem Pw_blind {D : va_G} {ca : Nat → ClassId} {ws : va_W} {sz : Nat} {av : List Value} : FrameBlind (va_Pc av (Pw D ca ws sz)) := by
  intro a U g mk q
  obtain ⟨q0, q1, qP, qK, qD, qN⟩ := q
  exact ⟨q0, q1, qP, va_K.moved (u := U) (U := U.calling g mk a) (Vm.Alike.refl U.vm) qK, qD, NX.same (s := U) (U := U.calling g mk a) rfl qN⟩
def Qi (D : va_G) (ca : Nat → ClassId) (r : Int32) (ws' : va_W) (A : Nat → Prop) : Array Value → State → Outcome → State → Prop := va_Qi (fun (r' : Int32) (_ : Unit) => r' = r) (fun _ t => Aw D ca A ws' t) A
def Ql (D : va_G) (ca : Nat → ClassId) (r : Int64) (ws' : va_W) (A : Nat → Prop) : Array Value → State → Outcome → State → Prop := va_Ql (fun (r' : Int64) (_ : Unit) => r' = r) (fun _ t => Aw D ca A ws' t) A
def Qv (D : va_G) (ca : Nat → ClassId) (ws' : va_W) (A : Nat → Prop) : Array Value → State → Outcome → State → Prop := va_Qv (fun (_ : Unit) => True) (fun _ t => Aw D ca A ws' t) A
/-- contracts: an int (a truth, a byte), a long, nothing -/
def Ci (l : Launch) (D : va_G) (ca : Nat → ClassId) (y : MethodName) (wy : List Cond) (rm : Room) (av : List Value) (ws : va_W) (sz : Nat) (r : Int32) (ws' : va_W) : Prop := Met l y wy rm (va_Pc av (Pw D ca ws sz)) (Qi D ca r ws' (va_A ws sz)) 0 0 (va_A ws sz)
def Cl (l : Launch) (D : va_G) (ca : Nat → ClassId) (y : MethodName) (wy : List Cond) (rm : Room) (av : List Value) (ws : va_W) (sz : Nat) (r : Int64) (ws' : va_W) : Prop := Met l y wy rm (va_Pc av (Pw D ca ws sz)) (Ql D ca r ws' (va_A ws sz)) 0 0 (va_A ws sz)
def Cv (l : Launch) (D : va_G) (ca : Nat → ClassId) (y : MethodName) (wy : List Cond) (rm : Room) (av : List Value) (ws : va_W) (sz : Nat) (ws' : va_W) : Prop := Met l y wy rm (va_Pc av (Pw D ca ws sz)) (Qv D ca ws' (va_A ws sz)) 0 0 (va_A ws sz)
def Qr (D : va_G) (ca : Nat → ClassId) (r : Nat) (ws' : va_W) (A : Nat → Prop) : Array Value → State → Outcome → State → Prop := va_Qr (fun (_ : Unit) => True) (fun _ a t => a = r ∧ Aw D ca A ws' t) A
def Cr (l : Launch) (D : va_G) (ca : Nat → ClassId) (y : MethodName) (wy : List Cond) (rm : Room) (av : List Value) (ws : va_W) (sz : Nat) (r : Nat) (ws' : va_W) : Prop := Met l y wy rm (va_Pc av (Pw D ca ws sz)) (Qr D ca r ws' (va_A ws sz)) 0 0 (va_A ws sz)
/-- a method's body, from its entry -/
theorem body_of {l : Launch} {D : va_G} {ca : Nat → ClassId} {y : MethodName} {wy wy' : List Cond} {rm : Room} {av : List Value} {ws : va_W} {sz : Nat} {cc : ByteArray} {maxL : Nat} {ret : Option FieldType} (Qc : (Nat → Prop) → Array Value → State → Outcome → State → Prop)
    (hy : plainName y.cls = true) (hw : wy = Cond.code y cc maxL ret :: wy') (hlen : (lg_sl av).length ≤ maxL)
    (body : ∀ (p : Program) (e : Env) (s : State) (m : MethodId) (below : List Frame) (meth : Method) (c : Code) (A : Nat → Prop) (ls : Array Slot), p.tables.exec = Jvm.exec → c.code = cc → meth.sig.returnType = ret → c.maxLocals = maxL → (∀ w ∈ wy, w.before av.toArray s = true) → s.vm.findClass y.cls = some m.cls → meth.locks = false → (∀ q : Nat, s.heap.size ≤ q → A q) → va_K D vwCl (vt ca) s → va_P D vwCl ws s.heap → va_D A ws → va_S A s.heap s.heap [] → lv_has ls maxL (lv_args 0 av) → NX s →
      W p l e rm s m av.toArray below meth c s.heap [] 0 0 (MQ below (Qc A) av.toArray s 0 0 A) (F0 m 0 ls [])) : Met l y wy rm (va_Pc av (Pw D ca ws sz)) (Qc (va_A ws sz)) 0 0 (va_A ws sz) := by
  refine Met.ofW (cc := cc) (maxL := maxL) (ret := ret) hy hw ?_
  intro p e s m args below meth c s₁ B hml hv
  obtain ⟨rfl, hsz, hP, hK, hD0, hN⟩ := hv
  subst hsz
  have hD := hD0.self (sz := s.heap.size)
  rw [lg_entry_eq]
  exact body p e s m below meth c (va_A ws s.heap.size) _ B.exec B.bytes B.returns hml (atoms_spec (ws := wy) B.pre) (findClass_of_methodNamed B.named) B.notSynchronized (fun q h => Or.inr h) hK hP hD va_S.rf (lv_entry av hlen) hN
section RT
variable {p : Program} {l : Launch} {e : Env} {R : Room} {s : State} {m : MethodId} {args : Array Value} {below : List Frame} {meth : Method} {c : Code} {H : Heap} {locs : List Loc} {cells slots : Nat} {D : va_G} {ca : Nat → ClassId} {A : Nat → Prop} {ws ws' : va_W} {cc : ByteArray} {pc : Nat} {ls : Array Slot}
theorem ret_i {r : Int32} (hx : p.tables.exec = Jvm.exec) (hb : c.code = cc) (hr : meth.sig.returnType = some .int) (hlocks : meth.locks = false) (hK : va_K D vwCl (vt ca) s) (hP : va_P D vwCl ws' H) (hD : va_D A ws') (hS : va_S A s.heap H locs) (hdg : decode cc pc = .ok (.ireturn, 1)) : W p l e R s m args below meth c H locs cells slots (MQ below (Qi D ca r ws' A) args s cells slots A) (F0 m pc ls [.int r]) :=
  W.iret hx hb hr (fun t ht hW => ⟨⟨r, (), rfl, rfl, by rw [ht]; exact hP, va_K.moved hW.alike hK, hD⟩, hS.F ht⟩) hS.2.2 hdg
theorem ret_z {r : Int32} {ty : FieldType} (hx : p.tables.exec = Jvm.exec) (hb : c.code = cc) (hr : meth.sig.returnType = some ty) (hn : narrow ty (.int r) = .int r) (hlocks : meth.locks = false) (hK : va_K D vwCl (vt ca) s) (hP : va_P D vwCl ws' H) (hD : va_D A ws') (hS : va_S A s.heap H locs) (hdg : decode cc pc = .ok (.ireturn, 1)) : W p l e R s m args below meth c H locs cells slots (MQ below (Qi D ca r ws' A) args s cells slots A) (F0 m pc ls [.int r]) :=
  W.zret hx hb hr hn (fun t ht hW => ⟨⟨r, (), rfl, rfl, by rw [ht]; exact hP, va_K.moved hW.alike hK, hD⟩, hS.F ht⟩) hS.2.2 hdg
theorem ret_l {r : Int64} (hx : p.tables.exec = Jvm.exec) (hb : c.code = cc) (hr : meth.sig.returnType = some .long) (hlocks : meth.locks = false) (hK : va_K D vwCl (vt ca) s) (hP : va_P D vwCl ws' H) (hD : va_D A ws') (hS : va_S A s.heap H locs) (hdg : decode cc pc = .ok (.lreturn, 1)) : W p l e R s m args below meth c H locs cells slots (MQ below (Ql D ca r ws' A) args s cells slots A) (F0 m pc ls [.long r]) :=
  W.lret hx hb hr (fun t ht hW => ⟨⟨r, (), rfl, rfl, by rw [ht]; exact hP, va_K.moved hW.alike hK, hD⟩, hS.F ht⟩) hS.2.2 hdg
theorem ret_v (hx : p.tables.exec = Jvm.exec) (hb : c.code = cc) (hr : meth.sig.returnType = none) (hlocks : meth.locks = false) (hK : va_K D vwCl (vt ca) s) (hP : va_P D vwCl ws' H) (hD : va_D A ws') (hS : va_S A s.heap H locs) (hdg : decode cc pc = .ok (.return_, 1)) : W p l e R s m args below meth c H locs cells slots (MQ below (Qv D ca ws' A) args s cells slots A) (F0 m pc ls []) :=
  W.vret hx hb hr (fun t ht hW => ⟨⟨(), rfl, trivial, by rw [ht]; exact hP, va_K.moved hW.alike hK, hD⟩, hS.F ht⟩) hS.2.2 hdg
theorem ret_r {r : Nat} {rt : FieldType} (hx : p.tables.exec = Jvm.exec) (hb : c.code = cc) (hr : meth.sig.returnType = some rt) (hrt : ∃ n, rt = .object n) (hlocks : meth.locks = false) (hK : va_K D vwCl (vt ca) s) (hP : va_P D vwCl ws' H) (hD : va_D A ws') (hS : va_S A s.heap H locs) (hdg : decode cc pc = .ok (.areturn, 1)) : W p l e R s m args below meth c H locs cells slots (MQ below (Qr D ca r ws' A) args s cells slots A) (F0 m pc ls [.ref r]) :=
  W.aret hx hb hr (Or.inl hrt) (Or.inr ⟨r, rfl⟩) (fun t ht hW => ⟨⟨(), r, rfl, trivial, rfl, by rw [ht]; exact hP, va_K.moved hW.alike hK, hD⟩, hS.F ht⟩) hS.2.2 hdg
theorem tp_i {x y : Int32} {rest : List Value} {Q : State → Prop} (h : x = y) (k : W p l e R s m args below meth c H locs cells slots Q (F0 m pc ls (.int y :: rest))) : W p l e R s m args below meth c H locs cells slots Q (F0 m pc ls (.int x :: rest)) := by
  rw [h]
  exact k
theorem tp_l {x y : Int64} {rest : List Value} {Q : State → Prop} (h : x = y) (k : W p l e R s m args below meth c H locs cells slots Q (F0 m pc ls (.long y :: rest))) : W p l e R s m args below meth c H locs cells slots Q (F0 m pc ls (.long x :: rest)) := by
  rw [h]
  exact k
end RT
/-! the frame: a callee's world out of the caller's, by places, and back -/
def Fr (ws wc w1 ws2 : va_W) : Prop := ∃ (isC isR perm : List Nat) (wr : va_W), isC.map (fun i => ws[i]?) = wc.map some ∧ va_nd isC = true ∧ isR.map (fun i => ws[i]?) = wr.map some ∧ va_nd isR = true ∧ (∀ i ∈ isR, i ∉ isC) ∧ perm.map (fun i => (wr ++ w1)[i]?) = ws2.map some ∧ va_nd perm = true
theorem fm_of_map {α β : Type} {f : α → Option β} : ∀ {l : List α} {w : List β}, l.map f = w.map some → l.filterMap f = w
  | [], [], _ => rfl
  | [], _ :: _, h => by simp at h
  | _ :: _, [], h => by simp at h
  | a :: l, b :: w, h => by
    simp only [List.map_cons, List.cons.injEq] at h
    rw [List.filterMap_cons, h.1]
    exact congrArg (b :: ·) (fm_of_map h.2)
theorem va_nd_of : ∀ {l : List Nat}, l.Nodup → va_nd l = true
  | [], _ => rfl
  | a :: l, h => by
    have h2 := List.nodup_cons.mp h
    simp only [va_nd, Bool.and_eq_true, decide_eq_true_eq]
    exact ⟨h2.1, va_nd_of h2.2⟩
theorem rg_map (ws : va_W) : (List.range ws.length).map (fun i => ws[i]?) = ws.map some := by
  apply List.ext_getElem?
  intro i
  rw [List.getElem?_map, List.getElem?_map]
  by_cases h : i < ws.length
  · rw [List.getElem?_range h, List.getElem?_eq_getElem h]
    simp [h]
  · rw [List.getElem?_eq_none (by simpa using h), List.getElem?_eq_none (by omega)]
    rfl
theorem fr_id (ws w1 : va_W) : Fr ws ws w1 w1 :=
  ⟨List.range ws.length, [], List.range w1.length, [], rg_map ws, va_nd_of List.nodup_range, rfl, rfl, (fun i h => absurd h List.not_mem_nil), rg_map w1, va_nd_of List.nodup_range⟩
/-- a callee without a world -/
theorem fr_no (ws : va_W) : Fr ws [] [] ws :=
  ⟨[], List.range ws.length, List.range ws.length, ws, rfl, rfl, rg_map ws, va_nd_of List.nodup_range, (fun i _ h => absurd h List.not_mem_nil), (by rw [List.append_nil]; exact rg_map ws), va_nd_of List.nodup_range⟩
theorem Fr.use {A0 : Nat → Prop} {D : va_G} {ws wc w1 ws2 : va_W} {H H0 : Heap} {locs : List Loc} (h : Fr ws wc w1 ws2) (hP : va_P D vwCl ws H) (hD : va_D A0 ws) (hS : va_S A0 H0 H locs) (hA : ∀ q : Nat, H0.size ≤ q → A0 q) :
    va_P D vwCl wc H ∧ va_D A0 wc ∧ (∀ q, va_A wc H.size q → A0 q) ∧ ∀ H1 : Heap, (∀ q : Nat, q < H.size → ¬ va_A wc H.size q → H1[q]? = H[q]?) → va_P D vwCl w1 H1 → va_D (va_A wc H.size) w1 → va_P D vwCl ws2 H1 ∧ va_D A0 ws2 := by
  obtain ⟨isC, isR, perm, wr, h1, h2, h3, h4, h5, h6, h7⟩ := h
  refine ⟨hP.sub isC (fm_of_map h1), hD.sub isC h2 h1, va_free hD hS hA isC h1, fun H1 hk hP1 hD1 => ?_⟩
  obtain ⟨a, b⟩ := va_join hP hD isC isR h1 h3 h4 h5 hk (va_free hD hS hA isC h1) hP1 hD1
  exact ⟨a.sub perm (fm_of_map h6), b.sub perm h7 h6⟩
section CALLS
variable {p : Program} {l : Launch} {e : Env} {R : Room} {s : State} {m : MethodId} {args : Array Value} {below : List Frame} {meth : Method} {c : Code} {H : Heap} {locs : List Loc} {cells slots : Nat} {Q : State → Prop} {D : va_G} {ca : Nat → ClassId} {A : Nat → Prop} {ws wc w1 ws2 : va_W} {cc bytes : ByteArray} {pc nL maxL index n : Nat} {ls : Array Slot} {st0 rest As : List Value} {Ts wy : List Cond} {own C : String} {y : MethodName} {ret : Option FieldType} {rm : Room} {b ci : Nat} {fs : List Value} {T3 : u_T} {N3 : Nat}
theorem pre_V (hN : NX s) (hK : va_K D vwCl (vt ca) s) (hPc : va_P D vwCl wc H) (hDc : va_D A wc) (hq : wc[0]? = some (b, .inr (ci, fs))) (hci : vwCl[ci]? = some (C, T3, N3)) : PreV s H C b (va_Pc (.ref b :: As) (Pw D ca wc H.size)) As :=
  ⟨Pw_blind, va_recv hK hPc hci hq, fun U hU hW => ⟨rfl, by rw [hU], by rw [hU]; exact hPc, va_K.moved hW.alike hK, hDc.weaken (fun _ _ _ _ => trivial), hN.warm hW⟩⟩
theorem pre_S (hN : NX s) (hK : va_K D vwCl (vt ca) s) (hPc : va_P D vwCl wc H) (hDc : va_D A wc) : PreS s H (va_Pc As (Pw D ca wc H.size)) As :=
  ⟨Pw_blind, fun U hU hW => ⟨rfl, by rw [hU], by rw [hU]; exact hPc, va_K.moved hW.alike hK, hDc.weaken (fun _ _ _ _ => trivial), hN.warm hW⟩⟩
theorem call_r {r : Nat} (S : CallFix p m c cc nL s args Ts own) (hM : Cr l D ca y wy rm (.ref b :: As) wc H.size r w1) (cw : CallW R s args own C index y bytes maxL ret wy rm 0 0 n) (hN : NX s) (hK : va_K D vwCl (vt ca) s) (hP : va_P D vwCl ws H) (hD : va_D A ws) (hA : ∀ q : Nat, s.heap.size ≤ q → A q) (hS : va_S A s.heap H locs) (hF : Fr ws wc w1 ws2) (hq : wc[0]? = some (b, .inr (ci, fs))) (hci : vwCl[ci]? = some (C, T3, N3)) (hn : As.length = n) (hsize : ls.size = nL) (hst : st0 = As.reverse ++ .ref b :: rest) (hW : 2 * (F0 m pc ls st0).monitorRoom + (rest.map fun v => v.category).sum ≤ 8) (hdg : decode cc pc = .ok (.invokevirtual index, 3)) (hf : cells + 0 ≤ R.cells ∧ slots + 0 ≤ R.slots)
    (kk : ∀ (H1 : Heap) (locs1 : List Loc), va_P D vwCl ws2 H1 → va_D A ws2 → va_S A s.heap H1 locs1 → W p l e R s m args below meth c H1 locs1 cells slots Q (F0 m (pc + 3) ls (.ref r :: rest))) : W p l e R s m args below meth c H locs cells slots Q (F0 m pc ls st0) := by
  obtain ⟨hPc, hDc, hFc, hback⟩ := hF.use hP hD hS hA
  refine va_callr (va_runV (As := As) (rest := rest) S hM cw (pre_V hN hK hPc hDc hq hci) rfl hn hsize hst hW hdg hf) hS (fun q _ h => hFc q h) hFc (fun u r1 t H1 locs1 ht hvm hw hB hz1 hk1 hS1 => ?_)
  obtain ⟨rfl, hP1, hK1, hD1⟩ := hB
  rw [ht] at hP1
  obtain ⟨a1, a2⟩ := hback H1 hk1 hP1 hD1
  exact kk H1 locs1 a1 a2 hS1
theorem call_i {r : Int32} (S : CallFix p m c cc nL s args Ts own) (hM : Ci l D ca y wy rm (.ref b :: As) wc H.size r w1) (cw : CallW R s args own C index y bytes maxL ret wy rm 0 0 n) (hN : NX s) (hK : va_K D vwCl (vt ca) s) (hP : va_P D vwCl ws H) (hD : va_D A ws) (hA : ∀ q : Nat, s.heap.size ≤ q → A q) (hS : va_S A s.heap H locs) (hF : Fr ws wc w1 ws2) (hq : wc[0]? = some (b, .inr (ci, fs))) (hci : vwCl[ci]? = some (C, T3, N3)) (hn : As.length = n) (hsize : ls.size = nL) (hst : st0 = As.reverse ++ .ref b :: rest) (hW : 2 * (F0 m pc ls st0).monitorRoom + (rest.map fun v => v.category).sum ≤ 8) (hdg : decode cc pc = .ok (.invokevirtual index, 3)) (hf : cells + 0 ≤ R.cells ∧ slots + 0 ≤ R.slots)
    (kk : ∀ (H1 : Heap) (locs1 : List Loc), va_P D vwCl ws2 H1 → va_D A ws2 → va_S A s.heap H1 locs1 → W p l e R s m args below meth c H1 locs1 cells slots Q (F0 m (pc + 3) ls (.int r :: rest))) : W p l e R s m args below meth c H locs cells slots Q (F0 m pc ls st0) := by
  obtain ⟨hPc, hDc, hFc, hback⟩ := hF.use hP hD hS hA
  refine va_calli (va_runV (As := As) (rest := rest) S hM cw (pre_V hN hK hPc hDc hq hci) rfl hn hsize hst hW hdg hf) hS (fun q _ h => hFc q h) hFc (fun r1 u t H1 locs1 ht hvm hw hB hz1 hk1 hS1 => ?_)
  obtain ⟨hP1, hK1, hD1⟩ := hB
  rw [ht] at hP1
  obtain ⟨a1, a2⟩ := hback H1 hk1 hP1 hD1
  obtain rfl : r1 = r := hw
  exact kk H1 locs1 a1 a2 hS1
theorem call_l {r : Int64} (S : CallFix p m c cc nL s args Ts own) (hM : Cl l D ca y wy rm (.ref b :: As) wc H.size r w1) (cw : CallW R s args own C index y bytes maxL ret wy rm 0 0 n) (hN : NX s) (hK : va_K D vwCl (vt ca) s) (hP : va_P D vwCl ws H) (hD : va_D A ws) (hA : ∀ q : Nat, s.heap.size ≤ q → A q) (hS : va_S A s.heap H locs) (hF : Fr ws wc w1 ws2) (hq : wc[0]? = some (b, .inr (ci, fs))) (hci : vwCl[ci]? = some (C, T3, N3)) (hn : As.length = n) (hsize : ls.size = nL) (hst : st0 = As.reverse ++ .ref b :: rest) (hW : 2 * (F0 m pc ls st0).monitorRoom + (rest.map fun v => v.category).sum ≤ 8) (hdg : decode cc pc = .ok (.invokevirtual index, 3)) (hf : cells + 0 ≤ R.cells ∧ slots + 0 ≤ R.slots)
    (kk : ∀ (H1 : Heap) (locs1 : List Loc), va_P D vwCl ws2 H1 → va_D A ws2 → va_S A s.heap H1 locs1 → W p l e R s m args below meth c H1 locs1 cells slots Q (F0 m (pc + 3) ls (.long r :: rest))) : W p l e R s m args below meth c H locs cells slots Q (F0 m pc ls st0) := by
  obtain ⟨hPc, hDc, hFc, hback⟩ := hF.use hP hD hS hA
  refine va_calll (va_runV (As := As) (rest := rest) S hM cw (pre_V hN hK hPc hDc hq hci) rfl hn hsize hst hW hdg hf) hS (fun q _ h => hFc q h) hFc (fun r1 u t H1 locs1 ht hvm hw hB hz1 hk1 hS1 => ?_)
  obtain ⟨hP1, hK1, hD1⟩ := hB
  rw [ht] at hP1
  obtain ⟨a1, a2⟩ := hback H1 hk1 hP1 hD1
  obtain rfl : r1 = r := hw
  exact kk H1 locs1 a1 a2 hS1
theorem call_v (S : CallFix p m c cc nL s args Ts own) (hM : Cv l D ca y wy rm (.ref b :: As) wc H.size w1) (cw : CallW R s args own C index y bytes maxL ret wy rm 0 0 n) (hN : NX s) (hK : va_K D vwCl (vt ca) s) (hP : va_P D vwCl ws H) (hD : va_D A ws) (hA : ∀ q : Nat, s.heap.size ≤ q → A q) (hS : va_S A s.heap H locs) (hF : Fr ws wc w1 ws2) (hq : wc[0]? = some (b, .inr (ci, fs))) (hci : vwCl[ci]? = some (C, T3, N3)) (hn : As.length = n) (hsize : ls.size = nL) (hst : st0 = As.reverse ++ .ref b :: rest) (hW : 2 * (F0 m pc ls st0).monitorRoom + (rest.map fun v => v.category).sum ≤ 8) (hdg : decode cc pc = .ok (.invokevirtual index, 3)) (hf : cells + 0 ≤ R.cells ∧ slots + 0 ≤ R.slots)
    (kk : ∀ (H1 : Heap) (locs1 : List Loc), va_P D vwCl ws2 H1 → va_D A ws2 → va_S A s.heap H1 locs1 → W p l e R s m args below meth c H1 locs1 cells slots Q (F0 m (pc + 3) ls rest)) : W p l e R s m args below meth c H locs cells slots Q (F0 m pc ls st0) := by
  obtain ⟨hPc, hDc, hFc, hback⟩ := hF.use hP hD hS hA
  refine va_callv (va_runV (As := As) (rest := rest) S hM cw (pre_V hN hK hPc hDc hq hci) rfl hn hsize hst hW hdg hf) hS (fun q _ h => hFc q h) hFc (fun u t H1 locs1 ht hvm hw hB hz1 hk1 hS1 => ?_)
  obtain ⟨hP1, hK1, hD1⟩ := hB
  rw [ht] at hP1
  obtain ⟨a1, a2⟩ := hback H1 hk1 hP1 hD1
  exact kk H1 locs1 a1 a2 hS1
theorem call_si {r : Int32} (S : CallFix p m c cc nL s args Ts own) (hM : Ci l D ca y wy rm As wc H.size r w1) (cw : CallB R s args own index y bytes maxL ret wy rm 0 0 n ∧ (Cond.static y).before args s = true) (hN : NX s) (hK : va_K D vwCl (vt ca) s) (hP : va_P D vwCl ws H) (hD : va_D A ws) (hA : ∀ q : Nat, s.heap.size ≤ q → A q) (hS : va_S A s.heap H locs) (hF : Fr ws wc w1 ws2) (hn : As.length = n) (hsize : ls.size = nL) (hst : st0 = As.reverse ++ rest) (hW : 2 * (F0 m pc ls st0).monitorRoom + (rest.map fun v => v.category).sum ≤ 8) (hdg : decode cc pc = .ok (.invokestatic index, 3)) (hf : cells + 0 ≤ R.cells ∧ slots + 0 ≤ R.slots)
    (kk : ∀ (H1 : Heap) (locs1 : List Loc), va_P D vwCl ws2 H1 → va_D A ws2 → va_S A s.heap H1 locs1 → W p l e R s m args below meth c H1 locs1 cells slots Q (F0 m (pc + 3) ls (.int r :: rest))) : W p l e R s m args below meth c H locs cells slots Q (F0 m pc ls st0) := by
  obtain ⟨hPc, hDc, hFc, hback⟩ := hF.use hP hD hS hA
  refine va_calli (va_runS (As := As) (rest := rest) S hM cw (pre_S hN hK hPc hDc) rfl hn hsize hst hW hdg hf) hS (fun q _ h => hFc q h) hFc (fun r1 u t H1 locs1 ht hvm hw hB hz1 hk1 hS1 => ?_)
  obtain ⟨hP1, hK1, hD1⟩ := hB
  rw [ht] at hP1
  obtain ⟨a1, a2⟩ := hback H1 hk1 hP1 hD1
  obtain rfl : r1 = r := hw
  exact kk H1 locs1 a1 a2 hS1
theorem call_sl {r : Int64} (S : CallFix p m c cc nL s args Ts own) (hM : Cl l D ca y wy rm As wc H.size r w1) (cw : CallB R s args own index y bytes maxL ret wy rm 0 0 n ∧ (Cond.static y).before args s = true) (hN : NX s) (hK : va_K D vwCl (vt ca) s) (hP : va_P D vwCl ws H) (hD : va_D A ws) (hA : ∀ q : Nat, s.heap.size ≤ q → A q) (hS : va_S A s.heap H locs) (hF : Fr ws wc w1 ws2) (hn : As.length = n) (hsize : ls.size = nL) (hst : st0 = As.reverse ++ rest) (hW : 2 * (F0 m pc ls st0).monitorRoom + (rest.map fun v => v.category).sum ≤ 8) (hdg : decode cc pc = .ok (.invokestatic index, 3)) (hf : cells + 0 ≤ R.cells ∧ slots + 0 ≤ R.slots)
    (kk : ∀ (H1 : Heap) (locs1 : List Loc), va_P D vwCl ws2 H1 → va_D A ws2 → va_S A s.heap H1 locs1 → W p l e R s m args below meth c H1 locs1 cells slots Q (F0 m (pc + 3) ls (.long r :: rest))) : W p l e R s m args below meth c H locs cells slots Q (F0 m pc ls st0) := by
  obtain ⟨hPc, hDc, hFc, hback⟩ := hF.use hP hD hS hA
  refine va_calll (va_runS (As := As) (rest := rest) S hM cw (pre_S hN hK hPc hDc) rfl hn hsize hst hW hdg hf) hS (fun q _ h => hFc q h) hFc (fun r1 u t H1 locs1 ht hvm hw hB hz1 hk1 hS1 => ?_)
  obtain ⟨hP1, hK1, hD1⟩ := hB
  rw [ht] at hP1
  obtain ⟨a1, a2⟩ := hback H1 hk1 hP1 hD1
  obtain rfl : r1 = r := hw
  exact kk H1 locs1 a1 a2 hS1
end CALLS
end
section
abbrev Tb : Type := (Nat → Int32) × (Nat → Int32) × (Nat → Int32) × (Nat → Int32) × Int32 × Int32
def tb_ctl (s : Tb) : (Nat → Int32) := s.1
def tb_ctl' (s : Tb) (v : (Nat → Int32)) : Tb := (v, s.2.1, s.2.2.1, s.2.2.2.1, s.2.2.2.2.1, s.2.2.2.2.2)
def tb_hs (s : Tb) : (Nat → Int32) := s.2.1
def tb_hs' (s : Tb) (v : (Nat → Int32)) : Tb := (s.1, v, s.2.2.1, s.2.2.2.1, s.2.2.2.2.1, s.2.2.2.2.2)
def tb_ks (s : Tb) : (Nat → Int32) := s.2.2.1
def tb_ks' (s : Tb) (v : (Nat → Int32)) : Tb := (s.1, s.2.1, v, s.2.2.2.1, s.2.2.2.2.1, s.2.2.2.2.2)
def tb_vs (s : Tb) : (Nat → Int32) := s.2.2.2.1
def tb_vs' (s : Tb) (v : (Nat → Int32)) : Tb := (s.1, s.2.1, s.2.2.1, v, s.2.2.2.2.1, s.2.2.2.2.2)
def tb_sl (s : Tb) : Int32 := s.2.2.2.2.1
def tb_sl' (s : Tb) (v : Int32) : Tb := (s.1, s.2.1, s.2.2.1, s.2.2.2.1, v, s.2.2.2.2.2)
def tb_ct (s : Tb) : Int32 := s.2.2.2.2.2
def tb_ct' (s : Tb) (v : Int32) : Tb := (s.1, s.2.1, s.2.2.1, s.2.2.2.1, s.2.2.2.2.1, v)
abbrev Sw : Type := Int32 × Int32 × Int32 × Int32 × Int64
def sw_open (s : Sw) : Int32 := s.1
def sw_open' (s : Sw) (v : Int32) : Sw := (v, s.2.1, s.2.2.1, s.2.2.2.1, s.2.2.2.2)
def sw_may (s : Sw) : Int32 := s.2.1
def sw_may' (s : Sw) (v : Int32) : Sw := (s.1, v, s.2.2.1, s.2.2.2.1, s.2.2.2.2)
def sw_met (s : Sw) : Int32 := s.2.2.1
def sw_met' (s : Sw) (v : Int32) : Sw := (s.1, s.2.1, v, s.2.2.2.1, s.2.2.2.2)
def sw_key (s : Sw) : Int32 := s.2.2.2.1
def sw_key' (s : Sw) (v : Int32) : Sw := (s.1, s.2.1, s.2.2.1, v, s.2.2.2.2)
def sw_rank (s : Sw) : Int64 := s.2.2.2.2
def sw_rank' (s : Sw) (v : Int64) : Sw := (s.1, s.2.1, s.2.2.1, s.2.2.2.1, v)
abbrev Se : Type := Option Nat × Int32 × Int32 × Int32
def se_tb (s : Se) : Option Nat := s.1
def se_tb' (s : Se) (v : Option Nat) : Se := (v, s.2.1, s.2.2.1, s.2.2.2)
def se_slot (s : Se) : Int32 := s.2.1
def se_slot' (s : Se) (v : Int32) : Se := (s.1, v, s.2.2.1, s.2.2.2)
def se_groups (s : Se) : Int32 := s.2.2.1
def se_groups' (s : Se) (v : Int32) : Se := (s.1, s.2.1, v, s.2.2.2)
def se_comps (s : Se) : Int32 := s.2.2.2
def se_comps' (s : Se) (v : Int32) : Se := (s.1, s.2.1, s.2.2.1, v)
abbrev Pl : Type := (Nat → Int32) × (Nat → Int32) × Int32 × Int32
def pl_rising (s : Pl) : (Nat → Int32) := s.1
def pl_rising' (s : Pl) (v : (Nat → Int32)) : Pl := (v, s.2.1, s.2.2.1, s.2.2.2)
def pl_taken (s : Pl) : (Nat → Int32) := s.2.1
def pl_taken' (s : Pl) (v : (Nat → Int32)) : Pl := (s.1, v, s.2.2.1, s.2.2.2)
def pl_total (s : Pl) : Int32 := s.2.2.1
def pl_total' (s : Pl) (v : Int32) : Pl := (s.1, s.2.1, v, s.2.2.2)
def pl_longest (s : Pl) : Int32 := s.2.2.2
def pl_longest' (s : Pl) (v : Int32) : Pl := (s.1, s.2.1, s.2.2.1, v)
abbrev RR : Type := Tb × Tb × Nat × Nat × (Nat → Sw) × Se × Pl × Int32 × Int32
def rr_P (s : RR) : Tb := s.1
def rr_P' (s : RR) (v : Tb) : RR := (v, s.2.1, s.2.2.1, s.2.2.2.1, s.2.2.2.2.1, s.2.2.2.2.2.1, s.2.2.2.2.2.2.1, s.2.2.2.2.2.2.2.1, s.2.2.2.2.2.2.2.2)
def rr_O (s : RR) : Tb := s.2.1
def rr_O' (s : RR) (v : Tb) : RR := (s.1, v, s.2.2.1, s.2.2.2.1, s.2.2.2.2.1, s.2.2.2.2.2.1, s.2.2.2.2.2.2.1, s.2.2.2.2.2.2.2.1, s.2.2.2.2.2.2.2.2)
def rr_ap (s : RR) : Nat := s.2.2.1
def rr_ap' (s : RR) (v : Nat) : RR := (s.1, s.2.1, v, s.2.2.2.1, s.2.2.2.2.1, s.2.2.2.2.2.1, s.2.2.2.2.2.2.1, s.2.2.2.2.2.2.2.1, s.2.2.2.2.2.2.2.2)
def rr_ao (s : RR) : Nat := s.2.2.2.1
def rr_ao' (s : RR) (v : Nat) : RR := (s.1, s.2.1, s.2.2.1, v, s.2.2.2.2.1, s.2.2.2.2.2.1, s.2.2.2.2.2.2.1, s.2.2.2.2.2.2.2.1, s.2.2.2.2.2.2.2.2)
def rr_sws (s : RR) : (Nat → Sw) := s.2.2.2.2.1
def rr_sws' (s : RR) (v : (Nat → Sw)) : RR := (s.1, s.2.1, s.2.2.1, s.2.2.2.1, v, s.2.2.2.2.2.1, s.2.2.2.2.2.2.1, s.2.2.2.2.2.2.2.1, s.2.2.2.2.2.2.2.2)
def rr_se (s : RR) : Se := s.2.2.2.2.2.1
def rr_se' (s : RR) (v : Se) : RR := (s.1, s.2.1, s.2.2.1, s.2.2.2.1, s.2.2.2.2.1, v, s.2.2.2.2.2.2.1, s.2.2.2.2.2.2.2.1, s.2.2.2.2.2.2.2.2)
def rr_pl (s : RR) : Pl := s.2.2.2.2.2.2.1
def rr_pl' (s : RR) (v : Pl) : RR := (s.1, s.2.1, s.2.2.1, s.2.2.2.1, s.2.2.2.2.1, s.2.2.2.2.2.1, v, s.2.2.2.2.2.2.2.1, s.2.2.2.2.2.2.2.2)
def rr_way (s : RR) : Int32 := s.2.2.2.2.2.2.2.1
def rr_way' (s : RR) (v : Int32) : RR := (s.1, s.2.1, s.2.2.1, s.2.2.2.1, s.2.2.2.2.1, s.2.2.2.2.2.1, s.2.2.2.2.2.2.1, v, s.2.2.2.2.2.2.2.2)
def rr_begun (s : RR) : Int32 := s.2.2.2.2.2.2.2.2
def rr_begun' (s : RR) (v : Int32) : RR := (s.1, s.2.1, s.2.2.1, s.2.2.2.1, s.2.2.2.2.1, s.2.2.2.2.2.1, s.2.2.2.2.2.2.1, s.2.2.2.2.2.2.2.1, v)
abbrev HS : Type := RR × (Nat → Int32) × (Nat → Int32) × (Nat → Int32)
def hs_x (s : HS) : RR := s.1
def hs_x' (s : HS) (v : RR) : HS := (v, s.2.1, s.2.2.1, s.2.2.2)
def hs_k (s : HS) : (Nat → Int32) := s.2.1
def hs_k' (s : HS) (v : (Nat → Int32)) : HS := (s.1, v, s.2.2.1, s.2.2.2)
def hs_v (s : HS) : (Nat → Int32) := s.2.2.1
def hs_v' (s : HS) (v : (Nat → Int32)) : HS := (s.1, s.2.1, v, s.2.2.2)
def hs_n (s : HS) : (Nat → Int32) := s.2.2.2
def hs_n' (s : HS) (v : (Nat → Int32)) : HS := (s.1, s.2.1, s.2.2.1, v)
def itF {T : Type} (z : T) (b : T → T) : Nat → T
  | 0 => z
  | n + 1 => b (itF z b n)
def ushr (x y : Int32) : Int32 := (x.toUInt32 >>> (y.toUInt32 &&& Int32.toUInt32 31)).toInt32
def i2b (x : Int32) : Int32 := x.toInt8.toInt32
def dsp {α : Type} (o : Option Nat) (a b : Nat) (x y : Option α) : Option α := if o = some a then x else if o = some b then y else none
theorem dsp_ob {α : Type} {o : Option Nat} {a b : Nat} {x y : Option α} {r : α} (h : dsp o a b x y = some r) : (o = some a ∧ x = some r) ∨ (o = some b ∧ y = some r) := by
  unfold dsp at h
  by_cases q : o = some a
  · rw [if_pos q] at h
    exact Or.inl ⟨q, h⟩
  · rw [if_neg q] at h
    by_cases q2 : o = some b
    · rw [if_pos q2] at h
      exact Or.inr ⟨q2, h⟩
    · rw [if_neg q2] at h
      cases h
theorem nr_z {v : Int32} (h : vp_nar .boolean v = v) : narrow .boolean (.int v) = .int v := congrArg Value.int h
theorem nr_b {v : Int32} (h : vp_nar .byte v = v) : narrow .byte (.int v) = .int v := congrArg Value.int h
def wTab (ca : Nat → ClassId) (h : Nat) (ar : Nat → Nat) (τ : Tb) : va_W := [(h, .inr (3, [.ref (ar 0), .ref (ar 1), .ref (ar 2), .ref (ar 3), .int (tb_sl τ), .int (tb_ct τ)])), (ar 0, .inl (ca 1, 256, .inl (tb_ctl τ))), (ar 1, .inl (ca 0, 256, .inl (tb_hs τ))), (ar 2, .inl (ca 0, 256, .inl (tb_ks τ))), (ar 3, .inl (ca 0, 256, .inl (tb_vs τ)))]
def wSw (h : Nat) (τ : Sw) : va_W := [(h, .inr (2, [.int (sw_open τ), .int (sw_may τ), .int (sw_met τ), .int (sw_key τ), .long (sw_rank τ)]))]
def wSe (h : Nat) (τ : Se) : va_W := [(h, .inr (1, [va_rf (se_tb τ), .int (se_slot τ), .int (se_groups τ), .int (se_comps τ)]))]
def wPl (ca : Nat → ClassId) (h : Nat) (pr : Nat → Nat) (τ : Pl) : va_W := [(h, .inr (0, [.ref (pr 0), .ref (pr 1), .int (pl_total τ), .int (pl_longest τ)])), (pr 0, .inl (ca 0, 256, .inl (pl_rising τ))), (pr 1, .inl (ca 2, 256, .inl (pl_taken τ)))]
def wLk (ca : Nat → ClassId) (h wh : Nat) (ar : Nat → Nat) (t : Tb) (τ : Se) : va_W := wSe h τ ++ wTab ca wh ar t
def wPk (ca : Nat → ClassId) (h : Nat) (pr : Nat → Nat) (wh : Nat) (ar : Nat → Nat) (t : Tb) (τ : Pl) : va_W := wPl ca h pr τ ++ wTab ca wh ar t
def wSk (ca : Nat → ClassId) (h wh : Nat) (ar : Nat → Nat) (t : Tb) (wo : Nat) (br : Nat → Nat) (u : Tb) (τ : Se) : va_W := wSe h τ ++ (wTab ca wh ar t ++ wTab ca wo br u)
def swf (B : Nat → Nat) : Nat → Option Nat := va_up (va_up (va_up (va_up (fun _ => none) 0 (some (B 2))) 1 (some (B 3))) 2 (some (B 4))) 3 (some (B 5))
def wRR (ca : Nat → ClassId) (B : Nat → Nat) (ar : Nat → Nat → Nat) (σ : RR) : va_W := (B 0, .inr (4, [.ref (B 1), .ref (B 6), .ref (B 7), .ref (rr_ap σ), .ref (rr_ao σ), .int (rr_way σ), .int (rr_begun σ)])) :: (B 1, .inl (ca 4, 4, .inr (.inr (.inr (.inr (swf B)))))) :: (wSw (B 2) (rr_sws σ 0) ++ (wSw (B 3) (rr_sws σ 1) ++ (wSw (B 4) (rr_sws σ 2) ++ (wSw (B 5) (rr_sws σ 3) ++ (wSe (B 6) (rr_se σ) ++ (wPl ca (B 7) (fun i => B (8 + i)) (rr_pl σ) ++ (wTab ca (rr_ap σ) (ar (rr_ap σ)) (rr_P σ) ++ wTab ca (rr_ao σ) (ar (rr_ao σ)) (rr_O σ))))))))
def rr_swap (σ : RR) : RR := (rr_O σ, rr_P σ, rr_ao σ, rr_ap σ, rr_sws σ, rr_se σ, rr_pl σ, rr_way σ, rr_begun σ)
def wA (ca : Nat → ClassId) (h : Nat) (τ : Nat → Int32) : va_W := [(h, .inl (ca 0, 64, .inl τ))]
def wH (ca : Nat → ClassId) (B : Nat → Nat) (ar : Nat → Nat → Nat) (E : Nat → Nat) (σ : HS) : va_W := wRR ca B ar (hs_x σ) ++ [(E 0, .inl (ca 0, 64, .inl (hs_k σ))), (E 1, .inl (ca 0, 64, .inl (hs_v σ))), (E 2, .inl (ca 0, 1, .inl (hs_n σ)))]
theorem fr_LT (ca : Nat → ClassId) (h wh : Nat) (ar : Nat → Nat) (t : Tb) (τ : Se) : Fr (wLk ca h wh ar t τ) (wTab ca wh ar t) (wTab ca wh ar t) (wLk ca h wh ar t τ) := ⟨[1, 2, 3, 4, 5], [0], [0, 1, 2, 3, 4, 5], wSe h τ, rfl, rfl, rfl, rfl, by decide, rfl, rfl⟩
theorem fr_LS (ca : Nat → ClassId) (h wh : Nat) (ar : Nat → Nat) (t : Tb) (τ τ' : Se) : Fr (wLk ca h wh ar t τ) (wSe h τ) (wSe h τ') (wLk ca h wh ar t τ') := ⟨[0], [1, 2, 3, 4, 5], [5, 0, 1, 2, 3, 4], wTab ca wh ar t, rfl, rfl, rfl, rfl, by decide, rfl, rfl⟩
theorem fr_PT (ca : Nat → ClassId) (h : Nat) (pr : Nat → Nat) (wh : Nat) (ar : Nat → Nat) (t : Tb) (τ : Pl) : Fr (wPk ca h pr wh ar t τ) (wTab ca wh ar t) (wTab ca wh ar t) (wPk ca h pr wh ar t τ) := ⟨[3, 4, 5, 6, 7], [0, 1, 2], [0, 1, 2, 3, 4, 5, 6, 7], wPl ca h pr τ, rfl, rfl, rfl, rfl, by decide, rfl, rfl⟩
theorem fr_KT (ca : Nat → ClassId) (h wh : Nat) (ar : Nat → Nat) (t : Tb) (wo : Nat) (br : Nat → Nat) (u : Tb) (τ : Se) : Fr (wSk ca h wh ar t wo br u τ) (wTab ca wh ar t) (wTab ca wh ar t) (wSk ca h wh ar t wo br u τ) := ⟨[1, 2, 3, 4, 5], [0, 6, 7, 8, 9, 10], [0, 6, 7, 8, 9, 10, 1, 2, 3, 4, 5], wSe h τ ++ wTab ca wo br u, rfl, rfl, rfl, rfl, by decide, rfl, rfl⟩
theorem fr_KU (ca : Nat → ClassId) (h wh : Nat) (ar : Nat → Nat) (t : Tb) (wo : Nat) (br : Nat → Nat) (u : Tb) (τ : Se) : Fr (wSk ca h wh ar t wo br u τ) (wTab ca wo br u) (wTab ca wo br u) (wSk ca h wh ar t wo br u τ) := ⟨[6, 7, 8, 9, 10], [0, 1, 2, 3, 4, 5], [0, 1, 2, 3, 4, 5, 6, 7, 8, 9, 10], wSe h τ ++ wTab ca wh ar t, rfl, rfl, rfl, rfl, by decide, rfl, rfl⟩
theorem fr_KS (ca : Nat → ClassId) (h wh : Nat) (ar : Nat → Nat) (t : Tb) (wo : Nat) (br : Nat → Nat) (u : Tb) (τ τ' : Se) : Fr (wSk ca h wh ar t wo br u τ) (wSe h τ) (wSe h τ') (wSk ca h wh ar t wo br u τ') := ⟨[0], [1, 2, 3, 4, 5, 6, 7, 8, 9, 10], [10, 0, 1, 2, 3, 4, 5, 6, 7, 8, 9], wTab ca wh ar t ++ wTab ca wo br u, rfl, rfl, rfl, rfl, by decide, rfl, rfl⟩
theorem fr_RP (ca : Nat → ClassId) (B : Nat → Nat) (ar : Nat → Nat → Nat) (σ : RR) (v : Tb) : Fr (wRR ca B ar σ) (wTab ca (rr_ap σ) (ar (rr_ap σ)) (rr_P σ)) (wTab ca (rr_ap σ) (ar (rr_ap σ)) v) (wRR ca B ar (rr_P' σ v)) := ⟨[10, 11, 12, 13, 14], [0, 1, 2, 3, 4, 5, 6, 7, 8, 9, 15, 16, 17, 18, 19], [0, 1, 2, 3, 4, 5, 6, 7, 8, 9, 15, 16, 17, 18, 19, 10, 11, 12, 13, 14], [0, 1, 2, 3, 4, 5, 6, 7, 8, 9, 15, 16, 17, 18, 19].filterMap (fun i => (wRR ca B ar σ)[i]?), rfl, rfl, rfl, rfl, by decide, rfl, rfl⟩
theorem fr_RPp (ca : Nat → ClassId) (B : Nat → Nat) (ar : Nat → Nat → Nat) (σ : RR) : Fr (wRR ca B ar σ) (wTab ca (rr_ap σ) (ar (rr_ap σ)) (rr_P σ)) (wTab ca (rr_ap σ) (ar (rr_ap σ)) (rr_P σ)) (wRR ca B ar σ) := ⟨[10, 11, 12, 13, 14], [0, 1, 2, 3, 4, 5, 6, 7, 8, 9, 15, 16, 17, 18, 19], [0, 1, 2, 3, 4, 5, 6, 7, 8, 9, 15, 16, 17, 18, 19, 10, 11, 12, 13, 14], [0, 1, 2, 3, 4, 5, 6, 7, 8, 9, 15, 16, 17, 18, 19].filterMap (fun i => (wRR ca B ar σ)[i]?), rfl, rfl, rfl, rfl, by decide, rfl, rfl⟩
theorem fr_RO (ca : Nat → ClassId) (B : Nat → Nat) (ar : Nat → Nat → Nat) (σ : RR) (v : Tb) : Fr (wRR ca B ar σ) (wTab ca (rr_ao σ) (ar (rr_ao σ)) (rr_O σ)) (wTab ca (rr_ao σ) (ar (rr_ao σ)) v) (wRR ca B ar (rr_O' σ v)) := ⟨[15, 16, 17, 18, 19], [0, 1, 2, 3, 4, 5, 6, 7, 8, 9, 10, 11, 12, 13, 14], [0, 1, 2, 3, 4, 5, 6, 7, 8, 9, 10, 11, 12, 13, 14, 15, 16, 17, 18, 19], [0, 1, 2, 3, 4, 5, 6, 7, 8, 9, 10, 11, 12, 13, 14].filterMap (fun i => (wRR ca B ar σ)[i]?), rfl, rfl, rfl, rfl, by decide, rfl, rfl⟩
theorem fr_ROp (ca : Nat → ClassId) (B : Nat → Nat) (ar : Nat → Nat → Nat) (σ : RR) : Fr (wRR ca B ar σ) (wTab ca (rr_ao σ) (ar (rr_ao σ)) (rr_O σ)) (wTab ca (rr_ao σ) (ar (rr_ao σ)) (rr_O σ)) (wRR ca B ar σ) := ⟨[15, 16, 17, 18, 19], [0, 1, 2, 3, 4, 5, 6, 7, 8, 9, 10, 11, 12, 13, 14], [0, 1, 2, 3, 4, 5, 6, 7, 8, 9, 10, 11, 12, 13, 14, 15, 16, 17, 18, 19], [0, 1, 2, 3, 4, 5, 6, 7, 8, 9, 10, 11, 12, 13, 14].filterMap (fun i => (wRR ca B ar σ)[i]?), rfl, rfl, rfl, rfl, by decide, rfl, rfl⟩
theorem fr_RS (ca : Nat → ClassId) (B : Nat → Nat) (ar : Nat → Nat → Nat) (σ : RR) (v : Se) : Fr (wRR ca B ar σ) (wSe (B 6) (rr_se σ)) (wSe (B 6) v) (wRR ca B ar (rr_se' σ v)) := ⟨[6], [0, 1, 2, 3, 4, 5, 7, 8, 9, 10, 11, 12, 13, 14, 15, 16, 17, 18, 19], [0, 1, 2, 3, 4, 5, 19, 6, 7, 8, 9, 10, 11, 12, 13, 14, 15, 16, 17, 18], [0, 1, 2, 3, 4, 5, 7, 8, 9, 10, 11, 12, 13, 14, 15, 16, 17, 18, 19].filterMap (fun i => (wRR ca B ar σ)[i]?), rfl, rfl, rfl, rfl, by decide, rfl, rfl⟩
theorem fr_RSp (ca : Nat → ClassId) (B : Nat → Nat) (ar : Nat → Nat → Nat) (σ : RR) : Fr (wRR ca B ar σ) (wSe (B 6) (rr_se σ)) (wSe (B 6) (rr_se σ)) (wRR ca B ar σ) := ⟨[6], [0, 1, 2, 3, 4, 5, 7, 8, 9, 10, 11, 12, 13, 14, 15, 16, 17, 18, 19], [0, 1, 2, 3, 4, 5, 19, 6, 7, 8, 9, 10, 11, 12, 13, 14, 15, 16, 17, 18], [0, 1, 2, 3, 4, 5, 7, 8, 9, 10, 11, 12, 13, 14, 15, 16, 17, 18, 19].filterMap (fun i => (wRR ca B ar σ)[i]?), rfl, rfl, rfl, rfl, by decide, rfl, rfl⟩
theorem fr_RLP (ca : Nat → ClassId) (B : Nat → Nat) (ar : Nat → Nat → Nat) (σ : RR) (v : Se) : Fr (wRR ca B ar σ) (wLk ca (B 6) (rr_ap σ) (ar (rr_ap σ)) (rr_P σ) (rr_se σ)) (wLk ca (B 6) (rr_ap σ) (ar (rr_ap σ)) (rr_P σ) v) (wRR ca B ar (rr_se' σ v)) := ⟨[6, 10, 11, 12, 13, 14], [0, 1, 2, 3, 4, 5, 7, 8, 9, 15, 16, 17, 18, 19], [0, 1, 2, 3, 4, 5, 14, 6, 7, 8, 15, 16, 17, 18, 19, 9, 10, 11, 12, 13], [0, 1, 2, 3, 4, 5, 7, 8, 9, 15, 16, 17, 18, 19].filterMap (fun i => (wRR ca B ar σ)[i]?), rfl, rfl, rfl, rfl, by decide, rfl, rfl⟩
theorem fr_RLPp (ca : Nat → ClassId) (B : Nat → Nat) (ar : Nat → Nat → Nat) (σ : RR) : Fr (wRR ca B ar σ) (wLk ca (B 6) (rr_ap σ) (ar (rr_ap σ)) (rr_P σ) (rr_se σ)) (wLk ca (B 6) (rr_ap σ) (ar (rr_ap σ)) (rr_P σ) (rr_se σ)) (wRR ca B ar σ) := ⟨[6, 10, 11, 12, 13, 14], [0, 1, 2, 3, 4, 5, 7, 8, 9, 15, 16, 17, 18, 19], [0, 1, 2, 3, 4, 5, 14, 6, 7, 8, 15, 16, 17, 18, 19, 9, 10, 11, 12, 13], [0, 1, 2, 3, 4, 5, 7, 8, 9, 15, 16, 17, 18, 19].filterMap (fun i => (wRR ca B ar σ)[i]?), rfl, rfl, rfl, rfl, by decide, rfl, rfl⟩
theorem fr_RLO (ca : Nat → ClassId) (B : Nat → Nat) (ar : Nat → Nat → Nat) (σ : RR) (v : Se) : Fr (wRR ca B ar σ) (wLk ca (B 6) (rr_ao σ) (ar (rr_ao σ)) (rr_O σ) (rr_se σ)) (wLk ca (B 6) (rr_ao σ) (ar (rr_ao σ)) (rr_O σ) v) (wRR ca B ar (rr_se' σ v)) := ⟨[6, 15, 16, 17, 18, 19], [0, 1, 2, 3, 4, 5, 7, 8, 9, 10, 11, 12, 13, 14], [0, 1, 2, 3, 4, 5, 14, 6, 7, 8, 9, 10, 11, 12, 13, 15, 16, 17, 18, 19], [0, 1, 2, 3, 4, 5, 7, 8, 9, 10, 11, 12, 13, 14].filterMap (fun i => (wRR ca B ar σ)[i]?), rfl, rfl, rfl, rfl, by decide, rfl, rfl⟩
theorem fr_RLOp (ca : Nat → ClassId) (B : Nat → Nat) (ar : Nat → Nat → Nat) (σ : RR) : Fr (wRR ca B ar σ) (wLk ca (B 6) (rr_ao σ) (ar (rr_ao σ)) (rr_O σ) (rr_se σ)) (wLk ca (B 6) (rr_ao σ) (ar (rr_ao σ)) (rr_O σ) (rr_se σ)) (wRR ca B ar σ) := ⟨[6, 15, 16, 17, 18, 19], [0, 1, 2, 3, 4, 5, 7, 8, 9, 10, 11, 12, 13, 14], [0, 1, 2, 3, 4, 5, 14, 6, 7, 8, 9, 10, 11, 12, 13, 15, 16, 17, 18, 19], [0, 1, 2, 3, 4, 5, 7, 8, 9, 10, 11, 12, 13, 14].filterMap (fun i => (wRR ca B ar σ)[i]?), rfl, rfl, rfl, rfl, by decide, rfl, rfl⟩
theorem fr_RKP (ca : Nat → ClassId) (B : Nat → Nat) (ar : Nat → Nat → Nat) (σ : RR) (v : Se) : Fr (wRR ca B ar σ) (wSk ca (B 6) (rr_ap σ) (ar (rr_ap σ)) (rr_P σ) (rr_ao σ) (ar (rr_ao σ)) (rr_O σ) (rr_se σ)) (wSk ca (B 6) (rr_ap σ) (ar (rr_ap σ)) (rr_P σ) (rr_ao σ) (ar (rr_ao σ)) (rr_O σ) v) (wRR ca B ar (rr_se' σ v)) := ⟨[6, 10, 11, 12, 13, 14, 15, 16, 17, 18, 19], [0, 1, 2, 3, 4, 5, 7, 8, 9], [0, 1, 2, 3, 4, 5, 9, 6, 7, 8, 10, 11, 12, 13, 14, 15, 16, 17, 18, 19], [0, 1, 2, 3, 4, 5, 7, 8, 9].filterMap (fun i => (wRR ca B ar σ)[i]?), rfl, rfl, rfl, rfl, by decide, rfl, rfl⟩
theorem fr_RKPp (ca : Nat → ClassId) (B : Nat → Nat) (ar : Nat → Nat → Nat) (σ : RR) : Fr (wRR ca B ar σ) (wSk ca (B 6) (rr_ap σ) (ar (rr_ap σ)) (rr_P σ) (rr_ao σ) (ar (rr_ao σ)) (rr_O σ) (rr_se σ)) (wSk ca (B 6) (rr_ap σ) (ar (rr_ap σ)) (rr_P σ) (rr_ao σ) (ar (rr_ao σ)) (rr_O σ) (rr_se σ)) (wRR ca B ar σ) := ⟨[6, 10, 11, 12, 13, 14, 15, 16, 17, 18, 19], [0, 1, 2, 3, 4, 5, 7, 8, 9], [0, 1, 2, 3, 4, 5, 9, 6, 7, 8, 10, 11, 12, 13, 14, 15, 16, 17, 18, 19], [0, 1, 2, 3, 4, 5, 7, 8, 9].filterMap (fun i => (wRR ca B ar σ)[i]?), rfl, rfl, rfl, rfl, by decide, rfl, rfl⟩
theorem fr_RKO (ca : Nat → ClassId) (B : Nat → Nat) (ar : Nat → Nat → Nat) (σ : RR) (v : Se) : Fr (wRR ca B ar σ) (wSk ca (B 6) (rr_ao σ) (ar (rr_ao σ)) (rr_O σ) (rr_ap σ) (ar (rr_ap σ)) (rr_P σ) (rr_se σ)) (wSk ca (B 6) (rr_ao σ) (ar (rr_ao σ)) (rr_O σ) (rr_ap σ) (ar (rr_ap σ)) (rr_P σ) v) (wRR ca B ar (rr_se' σ v)) := ⟨[6, 15, 16, 17, 18, 19, 10, 11, 12, 13, 14], [0, 1, 2, 3, 4, 5, 7, 8, 9], [0, 1, 2, 3, 4, 5, 9, 6, 7, 8, 15, 16, 17, 18, 19, 10, 11, 12, 13, 14], [0, 1, 2, 3, 4, 5, 7, 8, 9].filterMap (fun i => (wRR ca B ar σ)[i]?), rfl, rfl, rfl, rfl, by decide, rfl, rfl⟩
theorem fr_RKOp (ca : Nat → ClassId) (B : Nat → Nat) (ar : Nat → Nat → Nat) (σ : RR) : Fr (wRR ca B ar σ) (wSk ca (B 6) (rr_ao σ) (ar (rr_ao σ)) (rr_O σ) (rr_ap σ) (ar (rr_ap σ)) (rr_P σ) (rr_se σ)) (wSk ca (B 6) (rr_ao σ) (ar (rr_ao σ)) (rr_O σ) (rr_ap σ) (ar (rr_ap σ)) (rr_P σ) (rr_se σ)) (wRR ca B ar σ) := ⟨[6, 15, 16, 17, 18, 19, 10, 11, 12, 13, 14], [0, 1, 2, 3, 4, 5, 7, 8, 9], [0, 1, 2, 3, 4, 5, 9, 6, 7, 8, 15, 16, 17, 18, 19, 10, 11, 12, 13, 14], [0, 1, 2, 3, 4, 5, 7, 8, 9].filterMap (fun i => (wRR ca B ar σ)[i]?), rfl, rfl, rfl, rfl, by decide, rfl, rfl⟩
theorem fr_RPP (ca : Nat → ClassId) (B : Nat → Nat) (ar : Nat → Nat → Nat) (σ : RR) (v : Pl) : Fr (wRR ca B ar σ) (wPk ca (B 7) (fun i => B (8 + i)) (rr_ap σ) (ar (rr_ap σ)) (rr_P σ) (rr_pl σ)) (wPk ca (B 7) (fun i => B (8 + i)) (rr_ap σ) (ar (rr_ap σ)) (rr_P σ) v) (wRR ca B ar (rr_pl' σ v)) := ⟨[7, 8, 9, 10, 11, 12, 13, 14], [0, 1, 2, 3, 4, 5, 6, 15, 16, 17, 18, 19], [0, 1, 2, 3, 4, 5, 6, 12, 13, 14, 15, 16, 17, 18, 19, 7, 8, 9, 10, 11], [0, 1, 2, 3, 4, 5, 6, 15, 16, 17, 18, 19].filterMap (fun i => (wRR ca B ar σ)[i]?), rfl, rfl, rfl, rfl, by decide, rfl, rfl⟩
theorem fr_RPPp (ca : Nat → ClassId) (B : Nat → Nat) (ar : Nat → Nat → Nat) (σ : RR) : Fr (wRR ca B ar σ) (wPk ca (B 7) (fun i => B (8 + i)) (rr_ap σ) (ar (rr_ap σ)) (rr_P σ) (rr_pl σ)) (wPk ca (B 7) (fun i => B (8 + i)) (rr_ap σ) (ar (rr_ap σ)) (rr_P σ) (rr_pl σ)) (wRR ca B ar σ) := ⟨[7, 8, 9, 10, 11, 12, 13, 14], [0, 1, 2, 3, 4, 5, 6, 15, 16, 17, 18, 19], [0, 1, 2, 3, 4, 5, 6, 12, 13, 14, 15, 16, 17, 18, 19, 7, 8, 9, 10, 11], [0, 1, 2, 3, 4, 5, 6, 15, 16, 17, 18, 19].filterMap (fun i => (wRR ca B ar σ)[i]?), rfl, rfl, rfl, rfl, by decide, rfl, rfl⟩
theorem fr_HR (ca : Nat → ClassId) (B : Nat → Nat) (ar : Nat → Nat → Nat) (E : Nat → Nat) (σ : HS) (v : RR) : Fr (wH ca B ar E σ) (wRR ca B ar (hs_x σ)) (wRR ca B ar v) (wH ca B ar E (hs_x' σ v)) := ⟨[0, 1, 2, 3, 4, 5, 6, 7, 8, 9, 10, 11, 12, 13, 14, 15, 16, 17, 18, 19], [20, 21, 22], [3, 4, 5, 6, 7, 8, 9, 10, 11, 12, 13, 14, 15, 16, 17, 18, 19, 20, 21, 22, 0, 1, 2], [20, 21, 22].filterMap (fun i => (wH ca B ar E σ)[i]?), rfl, rfl, rfl, rfl, by decide, rfl, rfl⟩
theorem fr_HRp (ca : Nat → ClassId) (B : Nat → Nat) (ar : Nat → Nat → Nat) (E : Nat → Nat) (σ : HS) : Fr (wH ca B ar E σ) (wRR ca B ar (hs_x σ)) (wRR ca B ar (hs_x σ)) (wH ca B ar E σ) := ⟨[0, 1, 2, 3, 4, 5, 6, 7, 8, 9, 10, 11, 12, 13, 14, 15, 16, 17, 18, 19], [20, 21, 22], [3, 4, 5, 6, 7, 8, 9, 10, 11, 12, 13, 14, 15, 16, 17, 18, 19, 20, 21, 22, 0, 1, 2], [20, 21, 22].filterMap (fun i => (wH ca B ar E σ)[i]?), rfl, rfl, rfl, rfl, by decide, rfl, rfl⟩
theorem fr_Hk (ca : Nat → ClassId) (B : Nat → Nat) (ar : Nat → Nat → Nat) (E : Nat → Nat) (σ : HS) : Fr (wH ca B ar E σ) (wA ca (E 0) (hs_k σ)) (wA ca (E 0) (hs_k σ)) (wH ca B ar E σ) := ⟨[20], [0, 1, 2, 3, 4, 5, 6, 7, 8, 9, 10, 11, 12, 13, 14, 15, 16, 17, 18, 19, 21, 22], [0, 1, 2, 3, 4, 5, 6, 7, 8, 9, 10, 11, 12, 13, 14, 15, 16, 17, 18, 19, 22, 20, 21], [0, 1, 2, 3, 4, 5, 6, 7, 8, 9, 10, 11, 12, 13, 14, 15, 16, 17, 18, 19, 21, 22].filterMap (fun i => (wH ca B ar E σ)[i]?), rfl, rfl, rfl, rfl, by decide, rfl, rfl⟩
theorem fr_Hv (ca : Nat → ClassId) (B : Nat → Nat) (ar : Nat → Nat → Nat) (E : Nat → Nat) (σ : HS) : Fr (wH ca B ar E σ) (wA ca (E 1) (hs_v σ)) (wA ca (E 1) (hs_v σ)) (wH ca B ar E σ) := ⟨[21], [0, 1, 2, 3, 4, 5, 6, 7, 8, 9, 10, 11, 12, 13, 14, 15, 16, 17, 18, 19, 20, 22], [0, 1, 2, 3, 4, 5, 6, 7, 8, 9, 10, 11, 12, 13, 14, 15, 16, 17, 18, 19, 20, 22, 21], [0, 1, 2, 3, 4, 5, 6, 7, 8, 9, 10, 11, 12, 13, 14, 15, 16, 17, 18, 19, 20, 22].filterMap (fun i => (wH ca B ar E σ)[i]?), rfl, rfl, rfl, rfl, by decide, rfl, rfl⟩
/-- a divisor that must not be 0 -/
def g0 {α : Type} (y : Int32) (x : Option α) : Option α := if y = 0 then none else x
theorem g0_ob {α : Type} {y : Int32} {x : Option α} {r : α} (h : g0 y x = some r) : ¬ y = 0 ∧ x = some r := by
  unfold g0 at h
  by_cases q : y = 0
  · rw [if_pos q] at h
    cases h
  · rw [if_neg q] at h
    exact ⟨q, h⟩
/-! the sweeps' cells by their number -/
def adrT (σ : RR) (k : Nat) : Nat := if k = 0 then rr_ap σ else rr_ao σ
theorem swf_at {B : Nat → Nat} : ∀ {k : Nat}, k < 4 → swf B k = some (B (2 + k))
  | 0, _ => rfl
  | 1, _ => rfl
  | 2, _ => rfl
  | 3, _ => rfl
theorem sw_at {ca : Nat → ClassId} {B : Nat → Nat} {ar : Nat → Nat → Nat} {σ : RR} : ∀ {k : Nat}, k < 4 → (wRR ca B ar σ)[2 + k]? = some (B (2 + k), .inr (2, [.int (sw_open (rr_sws σ k)), .int (sw_may (rr_sws σ k)), .int (sw_met (rr_sws σ k)), .int (sw_key (rr_sws σ k)), .long (sw_rank (rr_sws σ k))]))
  | 0, _ => rfl
  | 1, _ => rfl
  | 2, _ => rfl
  | 3, _ => rfl
theorem sw_set {ca : Nat → ClassId} {B : Nat → Nat} {ar : Nat → Nat → Nat} {σ : RR} (v : Sw) : ∀ {k : Nat}, k < 4 → (wRR ca B ar σ).set (2 + k) (B (2 + k), .inr (2, [.int (sw_open v), .int (sw_may v), .int (sw_met v), .int (sw_key v), .long (sw_rank v)])) = wRR ca B ar (rr_sws' σ (va_up (rr_sws σ) k v))
  | 0, _ => rfl
  | 1, _ => rfl
  | 2, _ => rfl
  | 3, _ => rfl
theorem fr_RW (ca : Nat → ClassId) (B : Nat → Nat) (ar : Nat → Nat → Nat) (σ : RR) (v : Sw) : ∀ {k : Nat}, k < 4 → Fr (wRR ca B ar σ) (wSw (B (2 + k)) (rr_sws σ k)) (wSw (B (2 + k)) v) (wRR ca B ar (rr_sws' σ (va_up (rr_sws σ) k v)))
  | 0, _ => ⟨[2], [0, 1, 3, 4, 5, 6, 7, 8, 9, 10, 11, 12, 13, 14, 15, 16, 17, 18, 19], [0, 1, 19, 2, 3, 4, 5, 6, 7, 8, 9, 10, 11, 12, 13, 14, 15, 16, 17, 18], [0, 1, 3, 4, 5, 6, 7, 8, 9, 10, 11, 12, 13, 14, 15, 16, 17, 18, 19].filterMap (fun i => (wRR ca B ar σ)[i]?), rfl, rfl, rfl, rfl, by decide, rfl, rfl⟩
  | 1, _ => ⟨[3], [0, 1, 2, 4, 5, 6, 7, 8, 9, 10, 11, 12, 13, 14, 15, 16, 17, 18, 19], [0, 1, 2, 19, 3, 4, 5, 6, 7, 8, 9, 10, 11, 12, 13, 14, 15, 16, 17, 18], [0, 1, 2, 4, 5, 6, 7, 8, 9, 10, 11, 12, 13, 14, 15, 16, 17, 18, 19].filterMap (fun i => (wRR ca B ar σ)[i]?), rfl, rfl, rfl, rfl, by decide, rfl, rfl⟩
  | 2, _ => ⟨[4], [0, 1, 2, 3, 5, 6, 7, 8, 9, 10, 11, 12, 13, 14, 15, 16, 17, 18, 19], [0, 1, 2, 3, 19, 4, 5, 6, 7, 8, 9, 10, 11, 12, 13, 14, 15, 16, 17, 18], [0, 1, 2, 3, 5, 6, 7, 8, 9, 10, 11, 12, 13, 14, 15, 16, 17, 18, 19].filterMap (fun i => (wRR ca B ar σ)[i]?), rfl, rfl, rfl, rfl, by decide, rfl, rfl⟩
  | 3, _ => ⟨[5], [0, 1, 2, 3, 4, 6, 7, 8, 9, 10, 11, 12, 13, 14, 15, 16, 17, 18, 19], [0, 1, 2, 3, 4, 19, 5, 6, 7, 8, 9, 10, 11, 12, 13, 14, 15, 16, 17, 18], [0, 1, 2, 3, 4, 6, 7, 8, 9, 10, 11, 12, 13, 14, 15, 16, 17, 18, 19].filterMap (fun i => (wRR ca B ar σ)[i]?), rfl, rfl, rfl, rfl, by decide, rfl, rfl⟩
end
section
def tt_around  (τ : Tb) (a0 : Int32) : Option Int32 :=
  if (tb_sl τ) ≤ 0 then
    some 0
  else
    some (a0 &&& ((tb_sl τ) - 1))
set_option maxHeartbeats 4000000 in
set_option maxRecDepth 100000 in
theorem tX3_around (l : Launch) (D : va_G) (ca : Nat → ClassId) (h : Nat) (ar : Nat → Nat) (sz : Nat)  (τ : Tb) (a0 : Int32) (r : Int32) (hf : tt_around τ a0 = some r) : Ci l D ca yX3_around wsX3_around { frames := 0, cells := 0, slots := 0, locals := 0 } [.ref h, .int a0] (wTab ca h ar τ) sz r (wTab ca h ar τ) := by
  refine body_of (cc := cX3_around) (maxL := 2) (ret := (some .int)) (fun A => Qi D ca r (wTab ca h ar τ) A) (by decide) rfl (Nat.le_of_ble_eq_true rfl) ?_
  intro p e s m below meth c A ls hx hb hr hml hts hown hlocks hA hK hP hD hS hl hN
  have hl : lv_has ls 2 [(0, .ref h), (1, .int a0)] := hl
  have hret : ∀ (pc : Nat) (ls : Array Slot) (H : Heap) (locs : List Loc), decode cX3_around pc = .ok (.ireturn, 1) → va_P D vwCl (wTab ca h ar τ) H → va_D A (wTab ca h ar τ) → va_S A s.heap H locs → W p l e { frames := 0, cells := 0, slots := 0, locals := 0 } s m ([.ref h, .int a0] : List Value).toArray below meth c H locs 0 0 (MQ below (Qi D ca r (wTab ca h ar τ) A) ([.ref h, .int a0] : List Value).toArray s 0 0 A) (F0 m pc ls [.int r]) := fun pc ls H locs hd hP hD hS => ret_i hx hb hr hlocks hK hP hD hS hd
  generalize MQ below (Qi D ca r (wTab ca h ar τ) A) ([.ref h, .int a0] : List Value).toArray s 0 0 A = Q at hret ⊢
  generalize ([.ref h, .int a0] : List Value).toArray = args at hts hret ⊢
  have f35 := hts (.fieldLink RX3 35 "RobinRow$Table" "slots" "I") (by decide +kernel)
  have in3 : ∀ w ∈ u_ws RX3 TX3 6, w ∈ wsX3_around := by decide +kernel
  unfold tt_around at hf
  refine lv_aload_n hx hb dX3_around_0 rfl (lv_at hl 0 rfl) ?_
  refine va_get (D := D) (ci := 3) (v := .int (tb_sl τ)) (C := RX3) (T := TX3) (N := 6) hx hb hts in3 hown hK hP 0 rfl rfl 4 (by decide) f35 (fun _ h9 => h9) rfl dX3_around_1 ?_
  refine lv_if_le (tgt := 18) hx hb dX3_around_4 (by decide) (fun c1 => ?_) (fun c1 => ?_)
  · replace hf := it_p c1 hf
    refine lv_iconst (v := 0) hx hb dX3_around_18 (by decide) ?_
    obtain rfl := so1 hf
    exact hret _ _ _ _ dX3_around_19 hP hD hS
  · replace hf := it_n c1 hf
    refine lv_iload_n hx hb dX3_around_7 rfl (lv_at hl 1 rfl) ?_
    refine lv_aload_n hx hb dX3_around_8 rfl (lv_at hl 0 rfl) ?_
    refine va_get (D := D) (ci := 3) (v := .int (tb_sl τ)) (C := RX3) (T := TX3) (N := 6) hx hb hts in3 hown hK hP 0 rfl rfl 4 (by decide) f35 (fun _ h9 => h9) rfl dX3_around_9 ?_
    refine lv_iconst (v := 1) hx hb dX3_around_12 (by decide) ?_
    refine lv_isub hx hb dX3_around_13 ?_
    refine lv_iand hx hb dX3_around_14 ?_
    refine lv_goto (tgt := 19) hx hb dX3_around_15 (by decide) ?_
    obtain rfl := so1 hf
    exact hret _ _ _ _ dX3_around_19 hP hD hS

def tt_isEmptyIn  (τ : Tb) (a0 : Int32) : Option Int32 :=
  gd a0 256 <|
  if (tb_ctl τ a0.toNatClampNeg) = (-128) then
    some 1
  else
    some 0
set_option maxHeartbeats 4000000 in
set_option maxRecDepth 100000 in
theorem tX3_isEmptyIn (l : Launch) (D : va_G) (ca : Nat → ClassId) (h : Nat) (ar : Nat → Nat) (sz : Nat)  (τ : Tb) (a0 : Int32) (r : Int32) (hf : tt_isEmptyIn τ a0 = some r) : Ci l D ca yX3_isEmptyIn wsX3_isEmptyIn { frames := 0, cells := 0, slots := 0, locals := 0 } [.ref h, .int a0] (wTab ca h ar τ) sz r (wTab ca h ar τ) := by
  refine body_of (cc := cX3_isEmptyIn) (maxL := 2) (ret := (some .boolean)) (fun A => Qi D ca r (wTab ca h ar τ) A) (by decide) rfl (Nat.le_of_ble_eq_true rfl) ?_
  intro p e s m below meth c A ls hx hb hr hml hts hown hlocks hA hK hP hD hS hl hN
  have hl : lv_has ls 2 [(0, .ref h), (1, .int a0)] := hl
  have hret : ∀ (pc : Nat) (ls : Array Slot) (H : Heap) (locs : List Loc), decode cX3_isEmptyIn pc = .ok (.ireturn, 1) → narrow .boolean (.int r) = .int r → va_P D vwCl (wTab ca h ar τ) H → va_D A (wTab ca h ar τ) → va_S A s.heap H locs → W p l e { frames := 0, cells := 0, slots := 0, locals := 0 } s m ([.ref h, .int a0] : List Value).toArray below meth c H locs 0 0 (MQ below (Qi D ca r (wTab ca h ar τ) A) ([.ref h, .int a0] : List Value).toArray s 0 0 A) (F0 m pc ls [.int r]) := fun pc ls H locs hd hn hP hD hS => ret_z hx hb hr hn hlocks hK hP hD hS hd
  generalize MQ below (Qi D ca r (wTab ca h ar τ) A) ([.ref h, .int a0] : List Value).toArray s 0 0 A = Q at hret ⊢
  generalize ([.ref h, .int a0] : List Value).toArray = args at hts hret ⊢
  have f9 := hts (.fieldLink RX3 9 "RobinRow$Table" "controls" "[B") (by decide +kernel)
  have in3 : ∀ w ∈ u_ws RX3 TX3 6, w ∈ wsX3_isEmptyIn := by decide +kernel
  unfold tt_isEmptyIn at hf
  refine lv_aload_n hx hb dX3_isEmptyIn_0 rfl (lv_at hl 0 rfl) ?_
  refine va_get (D := D) (ci := 3) (v := .ref (ar 0)) (C := RX3) (T := TX3) (N := 6) hx hb hts in3 hown hK hP 0 rfl rfl 0 (by decide) f9 (fun _ h9 => h9) rfl dX3_isEmptyIn_1 ?_
  refine lv_iload_n hx hb dX3_isEmptyIn_4 rfl (lv_at hl 1 rfl) ?_
  obtain ⟨g1, hf⟩ := gd_ob hf
  refine va_bald hx hb hK hP 1 1 rfl rfl g1 dX3_isEmptyIn_5 ?_
  refine lv_bipush (v := (-128)) hx hb dX3_isEmptyIn_6 (by decide) ?_
  refine lv_icmp_ne (tgt := 15) hx hb dX3_isEmptyIn_8 (by decide) (fun c2 => ?_) (fun c2 => ?_)
  · replace hf := it_n c2 hf
    refine lv_iconst (v := 0) hx hb dX3_isEmptyIn_15 (by decide) ?_
    obtain rfl := so1 hf
    exact hret _ _ _ _ dX3_isEmptyIn_16 rfl hP hD hS
  · replace hf := it_p c2 hf
    refine lv_iconst (v := 1) hx hb dX3_isEmptyIn_11 (by decide) ?_
    refine lv_goto (tgt := 16) hx hb dX3_isEmptyIn_12 (by decide) ?_
    obtain rfl := so1 hf
    exact hret _ _ _ _ dX3_isEmptyIn_16 rfl hP hD hS

def tt_controlIn  (τ : Tb) (a0 : Int32) : Option Int32 :=
  gd a0 256 <|
  gn .byte (tb_ctl τ a0.toNatClampNeg) <|
  some (tb_ctl τ a0.toNatClampNeg)
set_option maxHeartbeats 4000000 in
set_option maxRecDepth 100000 in
theorem tX3_controlIn (l : Launch) (D : va_G) (ca : Nat → ClassId) (h : Nat) (ar : Nat → Nat) (sz : Nat)  (τ : Tb) (a0 : Int32) (r : Int32) (hf : tt_controlIn τ a0 = some r) : Ci l D ca yX3_controlIn wsX3_controlIn { frames := 0, cells := 0, slots := 0, locals := 0 } [.ref h, .int a0] (wTab ca h ar τ) sz r (wTab ca h ar τ) := by
  refine body_of (cc := cX3_controlIn) (maxL := 2) (ret := (some .byte)) (fun A => Qi D ca r (wTab ca h ar τ) A) (by decide) rfl (Nat.le_of_ble_eq_true rfl) ?_
  intro p e s m below meth c A ls hx hb hr hml hts hown hlocks hA hK hP hD hS hl hN
  have hl : lv_has ls 2 [(0, .ref h), (1, .int a0)] := hl
  have hret : ∀ (pc : Nat) (ls : Array Slot) (H : Heap) (locs : List Loc), decode cX3_controlIn pc = .ok (.ireturn, 1) → narrow .byte (.int r) = .int r → va_P D vwCl (wTab ca h ar τ) H → va_D A (wTab ca h ar τ) → va_S A s.heap H locs → W p l e { frames := 0, cells := 0, slots := 0, locals := 0 } s m ([.ref h, .int a0] : List Value).toArray below meth c H locs 0 0 (MQ below (Qi D ca r (wTab ca h ar τ) A) ([.ref h, .int a0] : List Value).toArray s 0 0 A) (F0 m pc ls [.int r]) := fun pc ls H locs hd hn hP hD hS => ret_z hx hb hr hn hlocks hK hP hD hS hd
  generalize MQ below (Qi D ca r (wTab ca h ar τ) A) ([.ref h, .int a0] : List Value).toArray s 0 0 A = Q at hret ⊢
  generalize ([.ref h, .int a0] : List Value).toArray = args at hts hret ⊢
  have f9 := hts (.fieldLink RX3 9 "RobinRow$Table" "controls" "[B") (by decide +kernel)
  have in3 : ∀ w ∈ u_ws RX3 TX3 6, w ∈ wsX3_controlIn := by decide +kernel
  unfold tt_controlIn at hf
  refine lv_aload_n hx hb dX3_controlIn_0 rfl (lv_at hl 0 rfl) ?_
  refine va_get (D := D) (ci := 3) (v := .ref (ar 0)) (C := RX3) (T := TX3) (N := 6) hx hb hts in3 hown hK hP 0 rfl rfl 0 (by decide) f9 (fun _ h9 => h9) rfl dX3_controlIn_1 ?_
  refine lv_iload_n hx hb dX3_controlIn_4 rfl (lv_at hl 1 rfl) ?_
  obtain ⟨g1, hf⟩ := gd_ob hf
  refine va_bald hx hb hK hP 1 1 rfl rfl g1 dX3_controlIn_5 ?_
  obtain ⟨g2, hf⟩ := gn_ob hf
  obtain rfl := so1 hf
  exact hret _ _ _ _ dX3_controlIn_6 (nr_b g2) hP hD hS

def tt_hashIn  (τ : Tb) (a0 : Int32) : Option Int32 :=
  gd a0 256 <|
  some (tb_hs τ a0.toNatClampNeg)
set_option maxHeartbeats 4000000 in
set_option maxRecDepth 100000 in
theorem tX3_hashIn (l : Launch) (D : va_G) (ca : Nat → ClassId) (h : Nat) (ar : Nat → Nat) (sz : Nat)  (τ : Tb) (a0 : Int32) (r : Int32) (hf : tt_hashIn τ a0 = some r) : Ci l D ca yX3_hashIn wsX3_hashIn { frames := 0, cells := 0, slots := 0, locals := 0 } [.ref h, .int a0] (wTab ca h ar τ) sz r (wTab ca h ar τ) := by
  refine body_of (cc := cX3_hashIn) (maxL := 2) (ret := (some .int)) (fun A => Qi D ca r (wTab ca h ar τ) A) (by decide) rfl (Nat.le_of_ble_eq_true rfl) ?_
  intro p e s m below meth c A ls hx hb hr hml hts hown hlocks hA hK hP hD hS hl hN
  have hl : lv_has ls 2 [(0, .ref h), (1, .int a0)] := hl
  have hret : ∀ (pc : Nat) (ls : Array Slot) (H : Heap) (locs : List Loc), decode cX3_hashIn pc = .ok (.ireturn, 1) → va_P D vwCl (wTab ca h ar τ) H → va_D A (wTab ca h ar τ) → va_S A s.heap H locs → W p l e { frames := 0, cells := 0, slots := 0, locals := 0 } s m ([.ref h, .int a0] : List Value).toArray below meth c H locs 0 0 (MQ below (Qi D ca r (wTab ca h ar τ) A) ([.ref h, .int a0] : List Value).toArray s 0 0 A) (F0 m pc ls [.int r]) := fun pc ls H locs hd hP hD hS => ret_i hx hb hr hlocks hK hP hD hS hd
  generalize MQ below (Qi D ca r (wTab ca h ar τ) A) ([.ref h, .int a0] : List Value).toArray s 0 0 A = Q at hret ⊢
  generalize ([.ref h, .int a0] : List Value).toArray = args at hts hret ⊢
  have f15 := hts (.fieldLink RX3 15 "RobinRow$Table" "hashes" "[I") (by decide +kernel)
  have in3 : ∀ w ∈ u_ws RX3 TX3 6, w ∈ wsX3_hashIn := by decide +kernel
  unfold tt_hashIn at hf
  refine lv_aload_n hx hb dX3_hashIn_0 rfl (lv_at hl 0 rfl) ?_
  refine va_get (D := D) (ci := 3) (v := .ref (ar 1)) (C := RX3) (T := TX3) (N := 6) hx hb hts in3 hown hK hP 0 rfl rfl 1 (by decide) f15 (fun _ h9 => h9) rfl dX3_hashIn_1 ?_
  refine lv_iload_n hx hb dX3_hashIn_4 rfl (lv_at hl 1 rfl) ?_
  obtain ⟨g1, hf⟩ := gd_ob hf
  refine va_iald hx hb hK hP 2 0 rfl rfl g1 dX3_hashIn_5 ?_
  obtain rfl := so1 hf
  exact hret _ _ _ _ dX3_hashIn_6 hP hD hS

def tt_keyIn  (τ : Tb) (a0 : Int32) : Option Int32 :=
  gd a0 256 <|
  some (tb_ks τ a0.toNatClampNeg)
set_option maxHeartbeats 4000000 in
set_option maxRecDepth 100000 in
theorem tX3_keyIn (l : Launch) (D : va_G) (ca : Nat → ClassId) (h : Nat) (ar : Nat → Nat) (sz : Nat)  (τ : Tb) (a0 : Int32) (r : Int32) (hf : tt_keyIn τ a0 = some r) : Ci l D ca yX3_keyIn wsX3_keyIn { frames := 0, cells := 0, slots := 0, locals := 0 } [.ref h, .int a0] (wTab ca h ar τ) sz r (wTab ca h ar τ) := by
  refine body_of (cc := cX3_keyIn) (maxL := 2) (ret := (some .int)) (fun A => Qi D ca r (wTab ca h ar τ) A) (by decide) rfl (Nat.le_of_ble_eq_true rfl) ?_
  intro p e s m below meth c A ls hx hb hr hml hts hown hlocks hA hK hP hD hS hl hN
  have hl : lv_has ls 2 [(0, .ref h), (1, .int a0)] := hl
  have hret : ∀ (pc : Nat) (ls : Array Slot) (H : Heap) (locs : List Loc), decode cX3_keyIn pc = .ok (.ireturn, 1) → va_P D vwCl (wTab ca h ar τ) H → va_D A (wTab ca h ar τ) → va_S A s.heap H locs → W p l e { frames := 0, cells := 0, slots := 0, locals := 0 } s m ([.ref h, .int a0] : List Value).toArray below meth c H locs 0 0 (MQ below (Qi D ca r (wTab ca h ar τ) A) ([.ref h, .int a0] : List Value).toArray s 0 0 A) (F0 m pc ls [.int r]) := fun pc ls H locs hd hP hD hS => ret_i hx hb hr hlocks hK hP hD hS hd
  generalize MQ below (Qi D ca r (wTab ca h ar τ) A) ([.ref h, .int a0] : List Value).toArray s 0 0 A = Q at hret ⊢
  generalize ([.ref h, .int a0] : List Value).toArray = args at hts hret ⊢
  have f19 := hts (.fieldLink RX3 19 "RobinRow$Table" "keys" "[I") (by decide +kernel)
  have in3 : ∀ w ∈ u_ws RX3 TX3 6, w ∈ wsX3_keyIn := by decide +kernel
  unfold tt_keyIn at hf
  refine lv_aload_n hx hb dX3_keyIn_0 rfl (lv_at hl 0 rfl) ?_
  refine va_get (D := D) (ci := 3) (v := .ref (ar 2)) (C := RX3) (T := TX3) (N := 6) hx hb hts in3 hown hK hP 0 rfl rfl 2 (by decide) f19 (fun _ h9 => h9) rfl dX3_keyIn_1 ?_
  refine lv_iload_n hx hb dX3_keyIn_4 rfl (lv_at hl 1 rfl) ?_
  obtain ⟨g1, hf⟩ := gd_ob hf
  refine va_iald hx hb hK hP 3 0 rfl rfl g1 dX3_keyIn_5 ?_
  obtain rfl := so1 hf
  exact hret _ _ _ _ dX3_keyIn_6 hP hD hS

def tt_valueIn  (τ : Tb) (a0 : Int32) : Option Int32 :=
  gd a0 256 <|
  some (tb_vs τ a0.toNatClampNeg)
set_option maxHeartbeats 4000000 in
set_option maxRecDepth 100000 in
theorem tX3_valueIn (l : Launch) (D : va_G) (ca : Nat → ClassId) (h : Nat) (ar : Nat → Nat) (sz : Nat)  (τ : Tb) (a0 : Int32) (r : Int32) (hf : tt_valueIn τ a0 = some r) : Ci l D ca yX3_valueIn wsX3_valueIn { frames := 0, cells := 0, slots := 0, locals := 0 } [.ref h, .int a0] (wTab ca h ar τ) sz r (wTab ca h ar τ) := by
  refine body_of (cc := cX3_valueIn) (maxL := 2) (ret := (some .int)) (fun A => Qi D ca r (wTab ca h ar τ) A) (by decide) rfl (Nat.le_of_ble_eq_true rfl) ?_
  intro p e s m below meth c A ls hx hb hr hml hts hown hlocks hA hK hP hD hS hl hN
  have hl : lv_has ls 2 [(0, .ref h), (1, .int a0)] := hl
  have hret : ∀ (pc : Nat) (ls : Array Slot) (H : Heap) (locs : List Loc), decode cX3_valueIn pc = .ok (.ireturn, 1) → va_P D vwCl (wTab ca h ar τ) H → va_D A (wTab ca h ar τ) → va_S A s.heap H locs → W p l e { frames := 0, cells := 0, slots := 0, locals := 0 } s m ([.ref h, .int a0] : List Value).toArray below meth c H locs 0 0 (MQ below (Qi D ca r (wTab ca h ar τ) A) ([.ref h, .int a0] : List Value).toArray s 0 0 A) (F0 m pc ls [.int r]) := fun pc ls H locs hd hP hD hS => ret_i hx hb hr hlocks hK hP hD hS hd
  generalize MQ below (Qi D ca r (wTab ca h ar τ) A) ([.ref h, .int a0] : List Value).toArray s 0 0 A = Q at hret ⊢
  generalize ([.ref h, .int a0] : List Value).toArray = args at hts hret ⊢
  have f22 := hts (.fieldLink RX3 22 "RobinRow$Table" "values" "[I") (by decide +kernel)
  have in3 : ∀ w ∈ u_ws RX3 TX3 6, w ∈ wsX3_valueIn := by decide +kernel
  unfold tt_valueIn at hf
  refine lv_aload_n hx hb dX3_valueIn_0 rfl (lv_at hl 0 rfl) ?_
  refine va_get (D := D) (ci := 3) (v := .ref (ar 3)) (C := RX3) (T := TX3) (N := 6) hx hb hts in3 hown hK hP 0 rfl rfl 3 (by decide) f22 (fun _ h9 => h9) rfl dX3_valueIn_1 ?_
  refine lv_iload_n hx hb dX3_valueIn_4 rfl (lv_at hl 1 rfl) ?_
  obtain ⟨g1, hf⟩ := gd_ob hf
  refine va_iald hx hb hK hP 4 0 rfl rfl g1 dX3_valueIn_5 ?_
  obtain rfl := so1 hf
  exact hret _ _ _ _ dX3_valueIn_6 hP hD hS

def tt_distanceIn  (τ : Tb) (a0 : Int32) : Option Int32 :=
  bd (tt_isEmptyIn τ a0) fun v1 =>
  if v1 = 0 then
    gd a0 256 <|
    bd (tt_around τ (a0 - (tb_hs τ a0.toNatClampNeg))) fun v4 =>
    some v4
  else
    some (-1)
set_option maxHeartbeats 4000000 in
set_option maxRecDepth 100000 in
theorem tX3_distanceIn (l : Launch) (D : va_G) (ca : Nat → ClassId) (h : Nat) (ar : Nat → Nat) (sz : Nat)  (τ : Tb) (a0 : Int32) (r : Int32) (hf : tt_distanceIn τ a0 = some r) : Ci l D ca yX3_distanceIn wsX3_distanceIn { frames := 1, cells := 0, slots := 0, locals := 21 } [.ref h, .int a0] (wTab ca h ar τ) sz r (wTab ca h ar τ) := by
  refine body_of (cc := cX3_distanceIn) (maxL := 2) (ret := (some .int)) (fun A => Qi D ca r (wTab ca h ar τ) A) (by decide) rfl (Nat.le_of_ble_eq_true rfl) ?_
  intro p e s m below meth c A ls hx hb hr hml hts hown hlocks hA hK hP hD hS hl hN
  have hl : lv_has ls 2 [(0, .ref h), (1, .int a0)] := hl
  have hret : ∀ (pc : Nat) (ls : Array Slot) (H : Heap) (locs : List Loc), decode cX3_distanceIn pc = .ok (.ireturn, 1) → va_P D vwCl (wTab ca h ar τ) H → va_D A (wTab ca h ar τ) → va_S A s.heap H locs → W p l e { frames := 1, cells := 0, slots := 0, locals := 21 } s m ([.ref h, .int a0] : List Value).toArray below meth c H locs 0 0 (MQ below (Qi D ca r (wTab ca h ar τ) A) ([.ref h, .int a0] : List Value).toArray s 0 0 A) (F0 m pc ls [.int r]) := fun pc ls H locs hd hP hD hS => ret_i hx hb hr hlocks hK hP hD hS hd
  generalize MQ below (Qi D ca r (wTab ca h ar τ) A) ([.ref h, .int a0] : List Value).toArray s 0 0 A = Q at hret ⊢
  generalize ([.ref h, .int a0] : List Value).toArray = args at hts hret ⊢
  have f15 := hts (.fieldLink RX3 15 "RobinRow$Table" "hashes" "[I") (by decide +kernel)
  have in3 : ∀ w ∈ u_ws RX3 TX3 6, w ∈ wsX3_distanceIn := by decide +kernel
  unfold tt_distanceIn at hf
  refine lv_aload_n hx hb dX3_distanceIn_0 rfl (lv_at hl 0 rfl) ?_
  refine lv_iload_n hx hb dX3_distanceIn_1 rfl (lv_at hl 1 rfl) ?_
  obtain ⟨v1, ev1, hf⟩ := bd_ob hf
  refine call_i (As := [.int a0]) (rest := []) ⟨hx, hb, hml, hown, hts⟩ (tX3_isEmptyIn l D ca h ar _ τ a0 v1 ev1) (cwV 1 hts gX3_distanceIn_X3_isEmptyIn rfl rfl rfl (by decide +kernel) ⟨Nat.le_of_ble_eq_true rfl, Nat.le_of_ble_eq_true rfl⟩) hN hK hP hD hA hS (fr_id _ _) rfl rfl rfl hl.1 rfl (lv_room (Nat.le_of_ble_eq_true rfl)) dX3_distanceIn_2 ⟨Nat.le_refl _, Nat.le_refl _⟩ (fun H locs hP hD hS => ?_)
  refine lv_if_eq (tgt := 12) hx hb dX3_distanceIn_5 (by decide) (fun c2 => ?_) (fun c2 => ?_)
  · replace hf := it_p c2 hf
    refine lv_aload_n hx hb dX3_distanceIn_12 rfl (lv_at hl 0 rfl) ?_
    refine lv_iload_n hx hb dX3_distanceIn_13 rfl (lv_at hl 1 rfl) ?_
    refine lv_aload_n hx hb dX3_distanceIn_14 rfl (lv_at hl 0 rfl) ?_
    refine va_get (D := D) (ci := 3) (v := .ref (ar 1)) (C := RX3) (T := TX3) (N := 6) hx hb hts in3 hown hK hP 0 rfl rfl 1 (by decide) f15 (fun _ h9 => h9) rfl dX3_distanceIn_15 ?_
    refine lv_iload_n hx hb dX3_distanceIn_18 rfl (lv_at hl 1 rfl) ?_
    obtain ⟨g3, hf⟩ := gd_ob hf
    refine va_iald hx hb hK hP 2 0 rfl rfl g3 dX3_distanceIn_19 ?_
    refine lv_isub hx hb dX3_distanceIn_20 ?_
    obtain ⟨v4, ev4, hf⟩ := bd_ob hf
    refine call_i (As := [.int (a0 - (tb_hs τ a0.toNatClampNeg))]) (rest := []) ⟨hx, hb, hml, hown, hts⟩ (tX3_around l D ca h ar _ τ (a0 - (tb_hs τ a0.toNatClampNeg)) v4 ev4) (cwV 1 hts gX3_distanceIn_X3_around rfl rfl rfl (by decide +kernel) ⟨Nat.le_of_ble_eq_true rfl, Nat.le_of_ble_eq_true rfl⟩) hN hK hP hD hA hS (fr_id _ _) rfl rfl rfl hl.1 rfl (lv_room (Nat.le_of_ble_eq_true rfl)) dX3_distanceIn_21 ⟨Nat.le_refl _, Nat.le_refl _⟩ (fun H locs hP hD hS => ?_)
    obtain rfl := so1 hf
    exact hret _ _ _ _ dX3_distanceIn_24 hP hD hS
  · replace hf := it_n c2 hf
    refine lv_iconst (v := (-1)) hx hb dX3_distanceIn_8 (by decide) ?_
    refine lv_goto (tgt := 24) hx hb dX3_distanceIn_9 (by decide) ?_
    obtain rfl := so1 hf
    exact hret _ _ _ _ dX3_distanceIn_24 hP hD hS

def tt_exchangeValue  (τ : Tb) (a0 : Int32) (a1 : Int32) : Option (Int32 × Tb) :=
  gd a0 256 <|
  nm (tb_vs τ a0.toNatClampNeg) fun v2 =>
  gd a0 256 <|
  nm (tb_vs' τ (upd (tb_vs τ) a0.toNatClampNeg a1)) fun s4 =>
  some (v2, s4)
set_option maxHeartbeats 4000000 in
set_option maxRecDepth 100000 in
theorem tX3_exchangeValue (l : Launch) (D : va_G) (ca : Nat → ClassId) (h : Nat) (ar : Nat → Nat) (sz : Nat)  (τ : Tb) (a0 : Int32) (a1 : Int32) (r : Int32) (τ9 : Tb) (hf : tt_exchangeValue τ a0 a1 = some (r, τ9)) : Ci l D ca yX3_exchangeValue wsX3_exchangeValue { frames := 0, cells := 0, slots := 0, locals := 0 } [.ref h, .int a0, .int a1] (wTab ca h ar τ) sz r (wTab ca h ar τ9) := by
  refine body_of (cc := cX3_exchangeValue) (maxL := 4) (ret := (some .int)) (fun A => Qi D ca r (wTab ca h ar τ9) A) (by decide) rfl (Nat.le_of_ble_eq_true rfl) ?_
  intro p e s m below meth c A ls hx hb hr hml hts hown hlocks hA hK hP hD hS hl hN
  have hl : lv_has ls 4 [(0, .ref h), (1, .int a0), (2, .int a1)] := hl
  have hret : ∀ (pc : Nat) (ls : Array Slot) (H : Heap) (locs : List Loc), decode cX3_exchangeValue pc = .ok (.ireturn, 1) → va_P D vwCl (wTab ca h ar τ9) H → va_D A (wTab ca h ar τ9) → va_S A s.heap H locs → W p l e { frames := 0, cells := 0, slots := 0, locals := 0 } s m ([.ref h, .int a0, .int a1] : List Value).toArray below meth c H locs 0 0 (MQ below (Qi D ca r (wTab ca h ar τ9) A) ([.ref h, .int a0, .int a1] : List Value).toArray s 0 0 A) (F0 m pc ls [.int r]) := fun pc ls H locs hd hP hD hS => ret_i hx hb hr hlocks hK hP hD hS hd
  generalize MQ below (Qi D ca r (wTab ca h ar τ9) A) ([.ref h, .int a0, .int a1] : List Value).toArray s 0 0 A = Q at hret ⊢
  generalize ([.ref h, .int a0, .int a1] : List Value).toArray = args at hts hret ⊢
  have f22 := hts (.fieldLink RX3 22 "RobinRow$Table" "values" "[I") (by decide +kernel)
  have in3 : ∀ w ∈ u_ws RX3 TX3 6, w ∈ wsX3_exchangeValue := by decide +kernel
  unfold tt_exchangeValue at hf
  refine lv_aload_n hx hb dX3_exchangeValue_0 rfl (lv_at hl 0 rfl) ?_
  refine va_get (D := D) (ci := 3) (v := .ref (ar 3)) (C := RX3) (T := TX3) (N := 6) hx hb hts in3 hown hK hP 0 rfl rfl 3 (by decide) f22 (fun _ h9 => h9) rfl dX3_exchangeValue_1 ?_
  refine lv_iload_n hx hb dX3_exchangeValue_4 rfl (lv_at hl 1 rfl) ?_
  obtain ⟨g1, hf⟩ := gd_ob hf
  refine va_iald hx hb hK hP 4 0 rfl rfl g1 dX3_exchangeValue_5 ?_
  obtain ⟨v2, ev2, hf⟩ := nm_ob hf
  refine tp_i ev2 ?_
  refine lv_istore_n (lv' := [(3, .int v2), (0, .ref h), (1, .int a0), (2, .int a1)]) hx hb dX3_exchangeValue_6 rfl hl (by decide) rfl (fun ls hl => ?_)
  refine lv_aload_n hx hb dX3_exchangeValue_7 rfl (lv_at hl 1 rfl) ?_
  refine va_get (D := D) (ci := 3) (v := .ref (ar 3)) (C := RX3) (T := TX3) (N := 6) hx hb hts in3 hown hK hP 0 rfl rfl 3 (by decide) f22 (fun _ h9 => h9) rfl dX3_exchangeValue_8 ?_
  refine lv_iload_n hx hb dX3_exchangeValue_11 rfl (lv_at hl 2 rfl) ?_
  refine lv_iload_n hx hb dX3_exchangeValue_12 rfl (lv_at hl 3 rfl) ?_
  obtain ⟨g3, hf⟩ := gd_ob hf
  obtain ⟨s4, es4, hf⟩ := nm_ob hf
  refine va_iast hx hb hK hP hD hS 4 0 rfl rfl g3 dX3_exchangeValue_13 (fun H locs hP hD hS => ?_)
  have hP : va_P D vwCl (wTab ca h ar s4) H := by rw [← es4]; exact hP
  have hD : va_D A (wTab ca h ar s4) := by rw [← es4]; exact hD
  refine lv_iload_n hx hb dX3_exchangeValue_14 rfl (lv_at hl 0 rfl) ?_
  obtain ⟨rfl, rfl⟩ := so2 hf
  exact hret _ _ _ _ dX3_exchangeValue_15 hP hD hS

def tt_lowestSlotWithKey_2  (τ : Tb) (k2 : Int32 → Option Int32)  (l1 : Int32) : Option Int32 :=
  if (tb_sl τ) ≤ l1 then
    some 0
  else
    bd (tt_isEmptyIn τ l1) fun v2 =>
    if v2 = 0 then
      some l1
    else
      nm (l1 + 1) fun v4 =>
      k2 v4
def tt_lowestSlotWithKey_lp2  (τ : Tb)  : Nat → Int32 → Option Int32 := itF (fun _ => none) (fun k => tt_lowestSlotWithKey_2 τ  k)
def tt_lowestSlotWithKey  (τ : Tb)  : Option Int32 :=
  tt_lowestSlotWithKey_lp2 τ FU 0
set_option maxHeartbeats 4000000 in
set_option maxRecDepth 100000 in
theorem tX3_lowestSlotWithKey (l : Launch) (D : va_G) (ca : Nat → ClassId) (h : Nat) (ar : Nat → Nat) (sz : Nat)  (τ : Tb)  (r : Int32) (hf : tt_lowestSlotWithKey τ = some r) : Ci l D ca yX3_lowestSlotWithKey wsX3_lowestSlotWithKey { frames := 1, cells := 0, slots := 0, locals := 21 } [.ref h] (wTab ca h ar τ) sz r (wTab ca h ar τ) := by
  refine body_of (cc := cX3_lowestSlotWithKey) (maxL := 2) (ret := (some .int)) (fun A => Qi D ca r (wTab ca h ar τ) A) (by decide) rfl (Nat.le_of_ble_eq_true rfl) ?_
  intro p e s m below meth c A ls hx hb hr hml hts hown hlocks hA hK hP hD hS hl hN
  have hl : lv_has ls 2 [(0, .ref h)] := hl
  have hret : ∀ (pc : Nat) (ls : Array Slot) (H : Heap) (locs : List Loc), decode cX3_lowestSlotWithKey pc = .ok (.ireturn, 1) → va_P D vwCl (wTab ca h ar τ) H → va_D A (wTab ca h ar τ) → va_S A s.heap H locs → W p l e { frames := 1, cells := 0, slots := 0, locals := 21 } s m ([.ref h] : List Value).toArray below meth c H locs 0 0 (MQ below (Qi D ca r (wTab ca h ar τ) A) ([.ref h] : List Value).toArray s 0 0 A) (F0 m pc ls [.int r]) := fun pc ls H locs hd hP hD hS => ret_i hx hb hr hlocks hK hP hD hS hd
  generalize MQ below (Qi D ca r (wTab ca h ar τ) A) ([.ref h] : List Value).toArray s 0 0 A = Q at hret ⊢
  generalize ([.ref h] : List Value).toArray = args at hts hret ⊢
  have f35 := hts (.fieldLink RX3 35 "RobinRow$Table" "slots" "I") (by decide +kernel)
  have in3 : ∀ w ∈ u_ws RX3 TX3 6, w ∈ wsX3_lowestSlotWithKey := by decide +kernel
  have J2 : ∀ (n2 : Nat) (H : Heap) (locs : List Loc) (ls : Array Slot)  (l1 : Int32), tt_lowestSlotWithKey_lp2 τ  n2 l1 = some r → va_P D vwCl (wTab ca h ar τ) H → va_D A (wTab ca h ar τ) → va_S A s.heap H locs → lv_has ls 2 [(0, .ref h), (1, .int l1)] → W p l e { frames := 1, cells := 0, slots := 0, locals := 21 } s m args below meth c H locs 0 0 Q (F0 m 2 ls []) := by
    intro n2
    induction n2 with
    | zero =>
      intro H locs ls l1 hf hP hD hS hl
      exact absurd hf (fun h => by cases h)
    | succ n2 ih2 =>
      intro H locs ls l1 hf hP hD hS hl
      replace hf : tt_lowestSlotWithKey_2 τ  (tt_lowestSlotWithKey_lp2 τ  n2) l1 = some r := hf
      unfold tt_lowestSlotWithKey_2 at hf
      refine lv_iload_n hx hb dX3_lowestSlotWithKey_2 rfl (lv_at hl 1 rfl) ?_
      refine lv_aload_n hx hb dX3_lowestSlotWithKey_3 rfl (lv_at hl 0 rfl) ?_
      refine va_get (D := D) (ci := 3) (v := .int (tb_sl τ)) (C := RX3) (T := TX3) (N := 6) hx hb hts in3 hown hK hP 0 rfl rfl 4 (by decide) f35 (fun _ h9 => h9) rfl dX3_lowestSlotWithKey_4 ?_
      refine lv_icmp_ge (tgt := 26) hx hb dX3_lowestSlotWithKey_7 (by decide) (fun c1 => ?_) (fun c1 => ?_)
      · replace hf := it_p c1 hf
        refine lv_iconst (v := 0) hx hb dX3_lowestSlotWithKey_26 (by decide) ?_
        obtain rfl := so1 hf
        exact hret _ _ _ _ dX3_lowestSlotWithKey_27 hP hD hS
      · replace hf := it_n c1 hf
        refine lv_aload_n hx hb dX3_lowestSlotWithKey_10 rfl (lv_at hl 0 rfl) ?_
        refine lv_iload_n hx hb dX3_lowestSlotWithKey_11 rfl (lv_at hl 1 rfl) ?_
        obtain ⟨v2, ev2, hf⟩ := bd_ob hf
        refine call_i (As := [.int l1]) (rest := []) ⟨hx, hb, hml, hown, hts⟩ (tX3_isEmptyIn l D ca h ar _ τ l1 v2 ev2) (cwV 1 hts gX3_lowestSlotWithKey_X3_isEmptyIn rfl rfl rfl (by decide +kernel) ⟨Nat.le_of_ble_eq_true rfl, Nat.le_of_ble_eq_true rfl⟩) hN hK hP hD hA hS (fr_id _ _) rfl rfl rfl hl.1 rfl (lv_room (Nat.le_of_ble_eq_true rfl)) dX3_lowestSlotWithKey_12 ⟨Nat.le_refl _, Nat.le_refl _⟩ (fun H locs hP hD hS => ?_)
        refine lv_if_ne (tgt := 20) hx hb dX3_lowestSlotWithKey_15 (by decide) (fun c3 => ?_) (fun c3 => ?_)
        · replace hf := it_n c3 hf
          obtain ⟨v4, ev4, hf⟩ := nm_ob hf
          refine lv_iinc (v := v4) (lv' := [(1, .int v4), (0, .ref h)]) hx hb dX3_lowestSlotWithKey_20 hl (k := 1) rfl (by rw [← ev4]; rfl) (by decide) rfl (fun ls hl => ?_)
          refine lv_goto (tgt := 2) hx hb dX3_lowestSlotWithKey_23 (by decide) ?_
          exact ih2 _ _ _ _ hf hP hD hS (lv_sub hl [1, 0] rfl)
        · replace hf := it_p c3 hf
          refine lv_iload_n hx hb dX3_lowestSlotWithKey_18 rfl (lv_at hl 1 rfl) ?_
          obtain rfl := so1 hf
          exact hret _ _ _ _ dX3_lowestSlotWithKey_19 hP hD hS
  unfold tt_lowestSlotWithKey at hf
  refine lv_iconst (v := 0) hx hb dX3_lowestSlotWithKey_0 (by decide) ?_
  refine lv_istore_n (lv' := [(1, .int 0), (0, .ref h)]) hx hb dX3_lowestSlotWithKey_1 rfl hl (by decide) rfl (fun ls hl => ?_)
  exact J2 FU _ _ _ _ hf hP hD hS (lv_sub hl [1, 0] rfl)

def tt_emptyWith_18  (k18 : Tb → Int32 → Option Tb) (τ : Tb) (l2 : Int32) : Option Tb :=
  if (tb_sl τ) ≤ l2 then
    some τ
  else
    gd l2 256 <|
    nm (tb_ctl' τ (upd (tb_ctl τ) l2.toNatClampNeg (-128))) fun s5 =>
    nm (l2 + 1) fun v6 =>
    k18 s5 v6
def tt_emptyWith_lp18   : Nat → Tb → Int32 → Option Tb := itF (fun _ _ => none) (fun k => tt_emptyWith_18   k)
def tt_emptyWith  (τ : Tb) (a0 : Int32) : Option Tb :=
  nm (tb_sl' τ (if 256 < a0 then 256 else a0)) fun s1 =>
  nm (tb_ct' s1 0) fun s2 =>
  tt_emptyWith_lp18 FU s2 0
set_option maxHeartbeats 4000000 in
set_option maxRecDepth 100000 in
theorem tX3_emptyWith (l : Launch) (D : va_G) (ca : Nat → ClassId) (h : Nat) (ar : Nat → Nat) (sz : Nat)  (τ : Tb) (a0 : Int32) (τ9 : Tb) (hf : tt_emptyWith τ a0 = some τ9) : Cv l D ca yX3_emptyWith wsX3_emptyWith { frames := 1, cells := 0, slots := 0, locals := 21 } [.ref h, .int a0] (wTab ca h ar τ) sz (wTab ca h ar τ9) := by
  refine body_of (cc := cX3_emptyWith) (maxL := 3) (ret := none) (fun A => Qv D ca (wTab ca h ar τ9) A) (by decide) rfl (Nat.le_of_ble_eq_true rfl) ?_
  intro p e s m below meth c A ls hx hb hr hml hts hown hlocks hA hK hP hD hS hl hN
  have hl : lv_has ls 3 [(0, .ref h), (1, .int a0)] := hl
  have hret : ∀ (pc : Nat) (ls : Array Slot) (H : Heap) (locs : List Loc), decode cX3_emptyWith pc = .ok (.return_, 1) → va_P D vwCl (wTab ca h ar τ9) H → va_D A (wTab ca h ar τ9) → va_S A s.heap H locs → W p l e { frames := 1, cells := 0, slots := 0, locals := 21 } s m ([.ref h, .int a0] : List Value).toArray below meth c H locs 0 0 (MQ below (Qv D ca (wTab ca h ar τ9) A) ([.ref h, .int a0] : List Value).toArray s 0 0 A) (F0 m pc ls []) := fun pc ls H locs hd hP hD hS => ret_v hx hb hr hlocks hK hP hD hS hd
  generalize MQ below (Qv D ca (wTab ca h ar τ9) A) ([.ref h, .int a0] : List Value).toArray s 0 0 A = Q at hret ⊢
  generalize ([.ref h, .int a0] : List Value).toArray = args at hts hret ⊢
  have f35 := hts (.fieldLink RX3 35 "RobinRow$Table" "slots" "I") (by decide +kernel)
  have f39 := hts (.fieldLink RX3 39 "RobinRow$Table" "count" "I") (by decide +kernel)
  have f9 := hts (.fieldLink RX3 9 "RobinRow$Table" "controls" "[B") (by decide +kernel)
  have in3 : ∀ w ∈ u_ws RX3 TX3 6, w ∈ wsX3_emptyWith := by decide +kernel
  have J18 : ∀ (n18 : Nat) (H : Heap) (locs : List Loc) (ls : Array Slot) (τ : Tb) (l2 : Int32), tt_emptyWith_lp18  n18 τ l2 = some τ9 → va_P D vwCl (wTab ca h ar τ) H → va_D A (wTab ca h ar τ) → va_S A s.heap H locs → lv_has ls 3 [(0, .ref h), (2, .int l2)] → W p l e { frames := 1, cells := 0, slots := 0, locals := 21 } s m args below meth c H locs 0 0 Q (F0 m 18 ls []) := by
    intro n18
    induction n18 with
    | zero =>
      intro H locs ls τ l2 hf hP hD hS hl
      exact absurd hf (fun h => by cases h)
    | succ n18 ih18 =>
      intro H locs ls τ l2 hf hP hD hS hl
      replace hf : tt_emptyWith_18  (tt_emptyWith_lp18  n18) τ l2 = some τ9 := hf
      unfold tt_emptyWith_18 at hf
      refine lv_iload_n hx hb dX3_emptyWith_18 rfl (lv_at hl 1 rfl) ?_
      refine lv_aload_n hx hb dX3_emptyWith_19 rfl (lv_at hl 0 rfl) ?_
      refine va_get (D := D) (ci := 3) (v := .int (tb_sl τ)) (C := RX3) (T := TX3) (N := 6) hx hb hts in3 hown hK hP 0 rfl rfl 4 (by decide) f35 (fun _ h9 => h9) rfl dX3_emptyWith_20 ?_
      refine lv_icmp_ge (tgt := 40) hx hb dX3_emptyWith_23 (by decide) (fun c3 => ?_) (fun c3 => ?_)
      · replace hf := it_p c3 hf
        obtain rfl := so1 hf
        exact hret _ _ _ _ dX3_emptyWith_40 hP hD hS
      · replace hf := it_n c3 hf
        refine lv_aload_n hx hb dX3_emptyWith_26 rfl (lv_at hl 0 rfl) ?_
        refine va_get (D := D) (ci := 3) (v := .ref (ar 0)) (C := RX3) (T := TX3) (N := 6) hx hb hts in3 hown hK hP 0 rfl rfl 0 (by decide) f9 (fun _ h9 => h9) rfl dX3_emptyWith_27 ?_
        refine lv_iload_n hx hb dX3_emptyWith_30 rfl (lv_at hl 1 rfl) ?_
        refine lv_bipush (v := (-128)) hx hb dX3_emptyWith_31 (by decide) ?_
        obtain ⟨g4, hf⟩ := gd_ob hf
        obtain ⟨s5, es5, hf⟩ := nm_ob hf
        refine va_bast hx hb hK hP hD hS 1 1 rfl rfl g4 dX3_emptyWith_33 (fun H locs hP hD hS => ?_)
        have hP : va_P D vwCl (wTab ca h ar s5) H := by rw [← es5]; exact hP
        have hD : va_D A (wTab ca h ar s5) := by rw [← es5]; exact hD
        obtain ⟨v6, ev6, hf⟩ := nm_ob hf
        refine lv_iinc (v := v6) (lv' := [(2, .int v6), (0, .ref h)]) hx hb dX3_emptyWith_34 hl (k := 1) rfl (by rw [← ev6]; rfl) (by decide) rfl (fun ls hl => ?_)
        refine lv_goto (tgt := 18) hx hb dX3_emptyWith_37 (by decide) ?_
        exact ih18 _ _ _ _ _ hf hP hD hS (lv_sub hl [1, 0] rfl)
  unfold tt_emptyWith at hf
  refine lv_aload_n hx hb dX3_emptyWith_0 rfl (lv_at hl 0 rfl) ?_
  refine lv_iload_n hx hb dX3_emptyWith_1 rfl (lv_at hl 1 rfl) ?_
  refine lv_sipush (v := 256) hx hb dX3_emptyWith_2 (by decide) ?_
  refine va_mmin hx hb (hml.trans hl.1.symm) hown (hts (.methodLink RX3 29 Lib.Math.min.name) (by decide +kernel)) (hts (.static Lib.Math.min.name) (by decide +kernel)) (hts (.initialized "java/lang/Math") (by decide +kernel)) (hts (.code Lib.Math.min.name Lib.Math.min.code 2 (some .int)) (by decide +kernel)) (Nat.le_of_ble_eq_true rfl) (Nat.le_of_ble_eq_true rfl) (Nat.zero_le _) (Nat.zero_le _) dX3_emptyWith_5 ?_
  obtain ⟨s1, es1, hf⟩ := nm_ob hf
  refine va_put (D := D) (ci := 3) (v := .int (if 256 < a0 then 256 else a0)) (ty := .int) (C := RX3) (T := TX3) (N := 6) hx hb hts in3 tyX3 tyX3_ok nmX3 hown hK hP hD hS 0 rfl rfl 4 (by decide) f35 (fun _ h9 => h9) rfl (by decide +kernel) rfl rfl (Nat.le_of_ble_eq_true rfl) dX3_emptyWith_8 (fun H locs hP hD hS => ?_)
  have hP : va_P D vwCl (wTab ca h ar s1) H := by rw [← es1]; exact hP
  have hD : va_D A (wTab ca h ar s1) := by rw [← es1]; exact hD
  refine lv_aload_n hx hb dX3_emptyWith_11 rfl (lv_at hl 0 rfl) ?_
  refine lv_iconst (v := 0) hx hb dX3_emptyWith_12 (by decide) ?_
  obtain ⟨s2, es2, hf⟩ := nm_ob hf
  refine va_put (D := D) (ci := 3) (v := .int 0) (ty := .int) (C := RX3) (T := TX3) (N := 6) hx hb hts in3 tyX3 tyX3_ok nmX3 hown hK hP hD hS 0 rfl rfl 5 (by decide) f39 (fun _ h9 => h9) rfl (by decide +kernel) rfl rfl (Nat.le_of_ble_eq_true rfl) dX3_emptyWith_13 (fun H locs hP hD hS => ?_)
  have hP : va_P D vwCl (wTab ca h ar s2) H := by rw [← es2]; exact hP
  have hD : va_D A (wTab ca h ar s2) := by rw [← es2]; exact hD
  refine lv_iconst (v := 0) hx hb dX3_emptyWith_16 (by decide) ?_
  refine lv_istore_n (lv' := [(2, .int 0), (0, .ref h), (1, .int a0)]) hx hb dX3_emptyWith_17 rfl hl (by decide) rfl (fun ls hl => ?_)
  exact J18 FU _ _ _ _ _ hf hP hD hS (lv_sub hl [1, 0] rfl)

def tt_fill  (τ : Tb) (a0 : Int32) (a1 : Int32) (a2 : Int32) (a3 : Int32) : Option Tb :=
  gd a0 256 <|
  nm (tb_ctl' τ (upd (tb_ctl τ) a0.toNatClampNeg (vp_nar .byte (i2b (ushr a3 25))))) fun s2 =>
  gd a0 256 <|
  nm (tb_hs' s2 (upd (tb_hs s2) a0.toNatClampNeg a3)) fun s4 =>
  gd a0 256 <|
  nm (tb_ks' s4 (upd (tb_ks s4) a0.toNatClampNeg a1)) fun s6 =>
  gd a0 256 <|
  nm (tb_vs' s6 (upd (tb_vs s6) a0.toNatClampNeg a2)) fun s8 =>
  some s8
set_option maxHeartbeats 4000000 in
set_option maxRecDepth 100000 in
theorem tX3_fill (l : Launch) (D : va_G) (ca : Nat → ClassId) (h : Nat) (ar : Nat → Nat) (sz : Nat)  (τ : Tb) (a0 : Int32) (a1 : Int32) (a2 : Int32) (a3 : Int32) (τ9 : Tb) (hf : tt_fill τ a0 a1 a2 a3 = some τ9) : Cv l D ca yX3_fill wsX3_fill { frames := 0, cells := 0, slots := 0, locals := 0 } [.ref h, .int a0, .int a1, .int a2, .int a3] (wTab ca h ar τ) sz (wTab ca h ar τ9) := by
  refine body_of (cc := cX3_fill) (maxL := 5) (ret := none) (fun A => Qv D ca (wTab ca h ar τ9) A) (by decide) rfl (Nat.le_of_ble_eq_true rfl) ?_
  intro p e s m below meth c A ls hx hb hr hml hts hown hlocks hA hK hP hD hS hl hN
  have hl : lv_has ls 5 [(0, .ref h), (1, .int a0), (2, .int a1), (3, .int a2), (4, .int a3)] := hl
  have hret : ∀ (pc : Nat) (ls : Array Slot) (H : Heap) (locs : List Loc), decode cX3_fill pc = .ok (.return_, 1) → va_P D vwCl (wTab ca h ar τ9) H → va_D A (wTab ca h ar τ9) → va_S A s.heap H locs → W p l e { frames := 0, cells := 0, slots := 0, locals := 0 } s m ([.ref h, .int a0, .int a1, .int a2, .int a3] : List Value).toArray below meth c H locs 0 0 (MQ below (Qv D ca (wTab ca h ar τ9) A) ([.ref h, .int a0, .int a1, .int a2, .int a3] : List Value).toArray s 0 0 A) (F0 m pc ls []) := fun pc ls H locs hd hP hD hS => ret_v hx hb hr hlocks hK hP hD hS hd
  generalize MQ below (Qv D ca (wTab ca h ar τ9) A) ([.ref h, .int a0, .int a1, .int a2, .int a3] : List Value).toArray s 0 0 A = Q at hret ⊢
  generalize ([.ref h, .int a0, .int a1, .int a2, .int a3] : List Value).toArray = args at hts hret ⊢
  have f15 := hts (.fieldLink RX3 15 "RobinRow$Table" "hashes" "[I") (by decide +kernel)
  have f19 := hts (.fieldLink RX3 19 "RobinRow$Table" "keys" "[I") (by decide +kernel)
  have f22 := hts (.fieldLink RX3 22 "RobinRow$Table" "values" "[I") (by decide +kernel)
  have f9 := hts (.fieldLink RX3 9 "RobinRow$Table" "controls" "[B") (by decide +kernel)
  have in3 : ∀ w ∈ u_ws RX3 TX3 6, w ∈ wsX3_fill := by decide +kernel
  unfold tt_fill at hf
  refine lv_aload_n hx hb dX3_fill_0 rfl (lv_at hl 0 rfl) ?_
  refine va_get (D := D) (ci := 3) (v := .ref (ar 0)) (C := RX3) (T := TX3) (N := 6) hx hb hts in3 hown hK hP 0 rfl rfl 0 (by decide) f9 (fun _ h9 => h9) rfl dX3_fill_1 ?_
  refine lv_iload_n hx hb dX3_fill_4 rfl (lv_at hl 1 rfl) ?_
  refine lv_iload hx hb dX3_fill_5 (lv_at hl 4 rfl) ?_
  refine lv_bipush (v := 25) hx hb dX3_fill_7 (by decide) ?_
  refine lv_iushr (v := (ushr a3 25)) hx hb dX3_fill_9 rfl ?_
  refine lv_i2b (v := (i2b (ushr a3 25))) hx hb dX3_fill_10 rfl ?_
  obtain ⟨g1, hf⟩ := gd_ob hf
  obtain ⟨s2, es2, hf⟩ := nm_ob hf
  refine va_bast hx hb hK hP hD hS 1 1 rfl rfl g1 dX3_fill_11 (fun H locs hP hD hS => ?_)
  have hP : va_P D vwCl (wTab ca h ar s2) H := by rw [← es2]; exact hP
  have hD : va_D A (wTab ca h ar s2) := by rw [← es2]; exact hD
  refine lv_aload_n hx hb dX3_fill_12 rfl (lv_at hl 0 rfl) ?_
  refine va_get (D := D) (ci := 3) (v := .ref (ar 1)) (C := RX3) (T := TX3) (N := 6) hx hb hts in3 hown hK hP 0 rfl rfl 1 (by decide) f15 (fun _ h9 => h9) rfl dX3_fill_13 ?_
  refine lv_iload_n hx hb dX3_fill_16 rfl (lv_at hl 1 rfl) ?_
  refine lv_iload hx hb dX3_fill_17 (lv_at hl 4 rfl) ?_
  obtain ⟨g3, hf⟩ := gd_ob hf
  obtain ⟨s4, es4, hf⟩ := nm_ob hf
  refine va_iast hx hb hK hP hD hS 2 0 rfl rfl g3 dX3_fill_19 (fun H locs hP hD hS => ?_)
  have hP : va_P D vwCl (wTab ca h ar s4) H := by rw [← es4]; exact hP
  have hD : va_D A (wTab ca h ar s4) := by rw [← es4]; exact hD
  refine lv_aload_n hx hb dX3_fill_20 rfl (lv_at hl 0 rfl) ?_
  refine va_get (D := D) (ci := 3) (v := .ref (ar 2)) (C := RX3) (T := TX3) (N := 6) hx hb hts in3 hown hK hP 0 rfl rfl 2 (by decide) f19 (fun _ h9 => h9) rfl dX3_fill_21 ?_
  refine lv_iload_n hx hb dX3_fill_24 rfl (lv_at hl 1 rfl) ?_
  refine lv_iload_n hx hb dX3_fill_25 rfl (lv_at hl 2 rfl) ?_
  obtain ⟨g5, hf⟩ := gd_ob hf
  obtain ⟨s6, es6, hf⟩ := nm_ob hf
  refine va_iast hx hb hK hP hD hS 3 0 rfl rfl g5 dX3_fill_26 (fun H locs hP hD hS => ?_)
  have hP : va_P D vwCl (wTab ca h ar s6) H := by rw [← es6]; exact hP
  have hD : va_D A (wTab ca h ar s6) := by rw [← es6]; exact hD
  refine lv_aload_n hx hb dX3_fill_27 rfl (lv_at hl 0 rfl) ?_
  refine va_get (D := D) (ci := 3) (v := .ref (ar 3)) (C := RX3) (T := TX3) (N := 6) hx hb hts in3 hown hK hP 0 rfl rfl 3 (by decide) f22 (fun _ h9 => h9) rfl dX3_fill_28 ?_
  refine lv_iload_n hx hb dX3_fill_31 rfl (lv_at hl 1 rfl) ?_
  refine lv_iload_n hx hb dX3_fill_32 rfl (lv_at hl 3 rfl) ?_
  obtain ⟨g7, hf⟩ := gd_ob hf
  obtain ⟨s8, es8, hf⟩ := nm_ob hf
  refine va_iast hx hb hK hP hD hS 4 0 rfl rfl g7 dX3_fill_33 (fun H locs hP hD hS => ?_)
  have hP : va_P D vwCl (wTab ca h ar s8) H := by rw [← es8]; exact hP
  have hD : va_D A (wTab ca h ar s8) := by rw [← es8]; exact hD
  obtain rfl := so1 hf
  exact hret _ _ _ _ dX3_fill_34 hP hD hS

def tt_carryIn_131  (k23 : Tb → Int32 → Int32 → Int32 → Int32 → Int32 → Int32 → Option Tb) (τ : Tb) (l4 : Int32) (l5 : Int32) (l6 : Int32) (l7 : Int32) (l8 : Int32) (l9 : Int32) : Option Tb :=
  bd (tt_around τ (l8 + 1)) fun v17 =>
  nm (l7 + 1) fun v18 =>
  nm (l9 + 1) fun v19 =>
  k23 τ l4 l5 l6 v18 v17 v19
def tt_carryIn_23  (k23 : Tb → Int32 → Int32 → Int32 → Int32 → Int32 → Int32 → Option Tb) (τ : Tb) (l4 : Int32) (l5 : Int32) (l6 : Int32) (l7 : Int32) (l8 : Int32) (l9 : Int32) : Option Tb :=
  if (tb_sl τ) ≤ l9 then
    some τ
  else
    bd (tt_distanceIn τ l8) fun v3 =>
    if v3 = (-1) then
      bd (tt_fill τ l8 l4 l5 l6) fun s15 =>
      nm (tb_ct' s15 ((tb_ct s15) + 1)) fun s16 =>
      some s16
    else
      if l7 ≤ v3 then
        tt_carryIn_131 k23 τ l4 l5 l6 l7 l8 l9
      else
        gd l8 256 <|
        nm (tb_ks τ l8.toNatClampNeg) fun v7 =>
        gd l8 256 <|
        nm (tb_vs τ l8.toNatClampNeg) fun v9 =>
        gd l8 256 <|
        nm (tb_hs τ l8.toNatClampNeg) fun v11 =>
        bd (tt_fill τ l8 l4 l5 l6) fun s13 =>
        tt_carryIn_131 k23 s13 v7 v9 v11 v3 l8 l9
def tt_carryIn_lp23   : Nat → Tb → Int32 → Int32 → Int32 → Int32 → Int32 → Int32 → Option Tb := itF (fun _ _ _ _ _ _ _ => none) (fun k => tt_carryIn_23   k)
def tt_carryIn  (τ : Tb) (a0 : Int32) (a1 : Int32) (a2 : Int32) : Option Tb :=
  bd (tt_around τ a2) fun v1 =>
  tt_carryIn_lp23 FU τ a0 a1 a2 0 v1 0
set_option maxHeartbeats 4000000 in
set_option maxRecDepth 100000 in
theorem tX3_carryIn (l : Launch) (D : va_G) (ca : Nat → ClassId) (h : Nat) (ar : Nat → Nat) (sz : Nat)  (τ : Tb) (a0 : Int32) (a1 : Int32) (a2 : Int32) (τ9 : Tb) (hf : tt_carryIn τ a0 a1 a2 = some τ9) : Cv l D ca yX3_carryIn wsX3_carryIn { frames := 2, cells := 0, slots := 0, locals := 42 } [.ref h, .int a0, .int a1, .int a2] (wTab ca h ar τ) sz (wTab ca h ar τ9) := by
  refine body_of (cc := cX3_carryIn) (maxL := 14) (ret := none) (fun A => Qv D ca (wTab ca h ar τ9) A) (by decide) rfl (Nat.le_of_ble_eq_true rfl) ?_
  intro p e s m below meth c A ls hx hb hr hml hts hown hlocks hA hK hP hD hS hl hN
  have hl : lv_has ls 14 [(0, .ref h), (1, .int a0), (2, .int a1), (3, .int a2)] := hl
  have hret : ∀ (pc : Nat) (ls : Array Slot) (H : Heap) (locs : List Loc), decode cX3_carryIn pc = .ok (.return_, 1) → va_P D vwCl (wTab ca h ar τ9) H → va_D A (wTab ca h ar τ9) → va_S A s.heap H locs → W p l e { frames := 2, cells := 0, slots := 0, locals := 42 } s m ([.ref h, .int a0, .int a1, .int a2] : List Value).toArray below meth c H locs 0 0 (MQ below (Qv D ca (wTab ca h ar τ9) A) ([.ref h, .int a0, .int a1, .int a2] : List Value).toArray s 0 0 A) (F0 m pc ls []) := fun pc ls H locs hd hP hD hS => ret_v hx hb hr hlocks hK hP hD hS hd
  generalize MQ below (Qv D ca (wTab ca h ar τ9) A) ([.ref h, .int a0, .int a1, .int a2] : List Value).toArray s 0 0 A = Q at hret ⊢
  generalize ([.ref h, .int a0, .int a1, .int a2] : List Value).toArray = args at hts hret ⊢
  have f15 := hts (.fieldLink RX3 15 "RobinRow$Table" "hashes" "[I") (by decide +kernel)
  have f19 := hts (.fieldLink RX3 19 "RobinRow$Table" "keys" "[I") (by decide +kernel)
  have f22 := hts (.fieldLink RX3 22 "RobinRow$Table" "values" "[I") (by decide +kernel)
  have f35 := hts (.fieldLink RX3 35 "RobinRow$Table" "slots" "I") (by decide +kernel)
  have f39 := hts (.fieldLink RX3 39 "RobinRow$Table" "count" "I") (by decide +kernel)
  have in3 : ∀ w ∈ u_ws RX3 TX3 6, w ∈ wsX3_carryIn := by decide +kernel
  have J23 : ∀ (n23 : Nat) (H : Heap) (locs : List Loc) (ls : Array Slot) (τ : Tb) (l4 : Int32) (l5 : Int32) (l6 : Int32) (l7 : Int32) (l8 : Int32) (l9 : Int32), tt_carryIn_lp23  n23 τ l4 l5 l6 l7 l8 l9 = some τ9 → va_P D vwCl (wTab ca h ar τ) H → va_D A (wTab ca h ar τ) → va_S A s.heap H locs → lv_has ls 14 [(0, .ref h), (4, .int l4), (5, .int l5), (6, .int l6), (7, .int l7), (8, .int l8), (9, .int l9)] → W p l e { frames := 2, cells := 0, slots := 0, locals := 42 } s m args below meth c H locs 0 0 Q (F0 m 23 ls []) := by
    intro n23
    induction n23 with
    | zero =>
      intro H locs ls τ l4 l5 l6 l7 l8 l9 hf hP hD hS hl
      exact absurd hf (fun h => by cases h)
    | succ n23 ih23 =>
      have J131 : ∀ (H : Heap) (locs : List Loc) (ls : Array Slot) (τ : Tb) (l4 : Int32) (l5 : Int32) (l6 : Int32) (l7 : Int32) (l8 : Int32) (l9 : Int32), tt_carryIn_131 (tt_carryIn_lp23  n23) τ l4 l5 l6 l7 l8 l9 = some τ9 → va_P D vwCl (wTab ca h ar τ) H → va_D A (wTab ca h ar τ) → va_S A s.heap H locs → lv_has ls 14 [(0, .ref h), (4, .int l4), (5, .int l5), (6, .int l6), (7, .int l7), (8, .int l8), (9, .int l9)] → W p l e { frames := 2, cells := 0, slots := 0, locals := 42 } s m args below meth c H locs 0 0 Q (F0 m 131 ls []) := by
        intro H locs ls τ l4 l5 l6 l7 l8 l9 hf hP hD hS hl
        unfold tt_carryIn_131 at hf
        refine lv_aload_n hx hb dX3_carryIn_131 rfl (lv_at hl 0 rfl) ?_
        refine lv_iload hx hb dX3_carryIn_132 (lv_at hl 5 rfl) ?_
        refine lv_iconst (v := 1) hx hb dX3_carryIn_134 (by decide) ?_
        refine lv_iadd hx hb dX3_carryIn_135 ?_
        obtain ⟨v17, ev17, hf⟩ := bd_ob hf
        refine call_i (As := [.int (l8 + 1)]) (rest := []) ⟨hx, hb, hml, hown, hts⟩ (tX3_around l D ca h ar _ τ (l8 + 1) v17 ev17) (cwV 1 hts gX3_carryIn_X3_around rfl rfl rfl (by decide +kernel) ⟨Nat.le_of_ble_eq_true rfl, Nat.le_of_ble_eq_true rfl⟩) hN hK hP hD hA hS (fr_id _ _) rfl rfl rfl hl.1 rfl (lv_room (Nat.le_of_ble_eq_true rfl)) dX3_carryIn_136 ⟨Nat.le_refl _, Nat.le_refl _⟩ (fun H locs hP hD hS => ?_)
        refine lv_istore (lv' := [(8, .int v17), (0, .ref h), (4, .int l4), (5, .int l5), (6, .int l6), (7, .int l7), (9, .int l9)]) hx hb dX3_carryIn_139 hl (by decide) rfl (fun ls hl => ?_)
        obtain ⟨v18, ev18, hf⟩ := nm_ob hf
        refine lv_iinc (v := v18) (lv' := [(7, .int v18), (8, .int v17), (0, .ref h), (4, .int l4), (5, .int l5), (6, .int l6), (9, .int l9)]) hx hb dX3_carryIn_141 hl (k := 5) rfl (by rw [← ev18]; rfl) (by decide) rfl (fun ls hl => ?_)
        obtain ⟨v19, ev19, hf⟩ := nm_ob hf
        refine lv_iinc (v := v19) (lv' := [(9, .int v19), (7, .int v18), (8, .int v17), (0, .ref h), (4, .int l4), (5, .int l5), (6, .int l6)]) hx hb dX3_carryIn_144 hl (k := 6) rfl (by rw [← ev19]; rfl) (by decide) rfl (fun ls hl => ?_)
        refine lv_goto (tgt := 23) hx hb dX3_carryIn_147 (by decide) ?_
        exact ih23 _ _ _ _ _ _ _ _ _ _ hf hP hD hS (lv_sub hl [3, 4, 5, 6, 1, 2, 0] rfl)
      intro H locs ls τ l4 l5 l6 l7 l8 l9 hf hP hD hS hl
      replace hf : tt_carryIn_23  (tt_carryIn_lp23  n23) τ l4 l5 l6 l7 l8 l9 = some τ9 := hf
      unfold tt_carryIn_23 at hf
      refine lv_iload hx hb dX3_carryIn_23 (lv_at hl 6 rfl) ?_
      refine lv_aload_n hx hb dX3_carryIn_25 rfl (lv_at hl 0 rfl) ?_
      refine va_get (D := D) (ci := 3) (v := .int (tb_sl τ)) (C := RX3) (T := TX3) (N := 6) hx hb hts in3 hown hK hP 0 rfl rfl 4 (by decide) f35 (fun _ h9 => h9) rfl dX3_carryIn_26 ?_
      refine lv_icmp_ge (tgt := 150) hx hb dX3_carryIn_29 (by decide) (fun c2 => ?_) (fun c2 => ?_)
      · replace hf := it_p c2 hf
        obtain rfl := so1 hf
        exact hret _ _ _ _ dX3_carryIn_150 hP hD hS
      · replace hf := it_n c2 hf
        refine lv_aload_n hx hb dX3_carryIn_32 rfl (lv_at hl 0 rfl) ?_
        refine lv_iload hx hb dX3_carryIn_33 (lv_at hl 5 rfl) ?_
        obtain ⟨v3, ev3, hf⟩ := bd_ob hf
        refine call_i (As := [.int l8]) (rest := []) ⟨hx, hb, hml, hown, hts⟩ (tX3_distanceIn l D ca h ar _ τ l8 v3 ev3) (cwV 1 hts gX3_carryIn_X3_distanceIn rfl rfl rfl (by decide +kernel) ⟨Nat.le_of_ble_eq_true rfl, Nat.le_of_ble_eq_true rfl⟩) hN hK hP hD hA hS (fr_id _ _) rfl rfl rfl hl.1 rfl (lv_room (Nat.le_of_ble_eq_true rfl)) dX3_carryIn_35 ⟨Nat.le_refl _, Nat.le_refl _⟩ (fun H locs hP hD hS => ?_)
        refine lv_istore (lv' := [(10, .int v3), (0, .ref h), (4, .int l4), (5, .int l5), (6, .int l6), (7, .int l7), (8, .int l8), (9, .int l9)]) hx hb dX3_carryIn_38 hl (by decide) rfl (fun ls hl => ?_)
        refine lv_iload hx hb dX3_carryIn_40 (lv_at hl 0 rfl) ?_
        refine lv_iconst (v := (-1)) hx hb dX3_carryIn_42 (by decide) ?_
        refine lv_icmp_ne (tgt := 69) hx hb dX3_carryIn_43 (by decide) (fun c4 => ?_) (fun c4 => ?_)
        · replace hf := it_n c4 hf
          refine lv_iload hx hb dX3_carryIn_69 (lv_at hl 0 rfl) ?_
          refine lv_iload hx hb dX3_carryIn_71 (lv_at hl 5 rfl) ?_
          refine lv_icmp_ge (tgt := 131) hx hb dX3_carryIn_73 (by decide) (fun c5 => ?_) (fun c5 => ?_)
          · replace hf := it_p c5 hf
            exact J131 _ _ _ _ _ _ _ _ _ _ hf hP hD hS (lv_sub hl [1, 2, 3, 4, 5, 6, 7] rfl)
          · replace hf := it_n c5 hf
            refine lv_aload_n hx hb dX3_carryIn_76 rfl (lv_at hl 1 rfl) ?_
            refine va_get (D := D) (ci := 3) (v := .ref (ar 2)) (C := RX3) (T := TX3) (N := 6) hx hb hts in3 hown hK hP 0 rfl rfl 2 (by decide) f19 (fun _ h9 => h9) rfl dX3_carryIn_77 ?_
            refine lv_iload hx hb dX3_carryIn_80 (lv_at hl 6 rfl) ?_
            obtain ⟨g6, hf⟩ := gd_ob hf
            refine va_iald hx hb hK hP 3 0 rfl rfl g6 dX3_carryIn_82 ?_
            obtain ⟨v7, ev7, hf⟩ := nm_ob hf
            refine tp_i ev7 ?_
            refine lv_istore (lv' := [(11, .int v7), (10, .int v3), (0, .ref h), (4, .int l4), (5, .int l5), (6, .int l6), (7, .int l7), (8, .int l8), (9, .int l9)]) hx hb dX3_carryIn_83 hl (by decide) rfl (fun ls hl => ?_)
            refine lv_aload_n hx hb dX3_carryIn_85 rfl (lv_at hl 2 rfl) ?_
            refine va_get (D := D) (ci := 3) (v := .ref (ar 3)) (C := RX3) (T := TX3) (N := 6) hx hb hts in3 hown hK hP 0 rfl rfl 3 (by decide) f22 (fun _ h9 => h9) rfl dX3_carryIn_86 ?_
            refine lv_iload hx hb dX3_carryIn_89 (lv_at hl 7 rfl) ?_
            obtain ⟨g8, hf⟩ := gd_ob hf
            refine va_iald hx hb hK hP 4 0 rfl rfl g8 dX3_carryIn_91 ?_
            obtain ⟨v9, ev9, hf⟩ := nm_ob hf
            refine tp_i ev9 ?_
            refine lv_istore (lv' := [(12, .int v9), (11, .int v7), (10, .int v3), (0, .ref h), (4, .int l4), (5, .int l5), (6, .int l6), (7, .int l7), (8, .int l8), (9, .int l9)]) hx hb dX3_carryIn_92 hl (by decide) rfl (fun ls hl => ?_)
            refine lv_aload_n hx hb dX3_carryIn_94 rfl (lv_at hl 3 rfl) ?_
            refine va_get (D := D) (ci := 3) (v := .ref (ar 1)) (C := RX3) (T := TX3) (N := 6) hx hb hts in3 hown hK hP 0 rfl rfl 1 (by decide) f15 (fun _ h9 => h9) rfl dX3_carryIn_95 ?_
            refine lv_iload hx hb dX3_carryIn_98 (lv_at hl 8 rfl) ?_
            obtain ⟨g10, hf⟩ := gd_ob hf
            refine va_iald hx hb hK hP 2 0 rfl rfl g10 dX3_carryIn_100 ?_
            obtain ⟨v11, ev11, hf⟩ := nm_ob hf
            refine tp_i ev11 ?_
            refine lv_istore (lv' := [(13, .int v11), (12, .int v9), (11, .int v7), (10, .int v3), (0, .ref h), (4, .int l4), (5, .int l5), (6, .int l6), (7, .int l7), (8, .int l8), (9, .int l9)]) hx hb dX3_carryIn_101 hl (by decide) rfl (fun ls hl => ?_)
            refine lv_aload_n hx hb dX3_carryIn_103 rfl (lv_at hl 4 rfl) ?_
            refine lv_iload hx hb dX3_carryIn_104 (lv_at hl 9 rfl) ?_
            refine lv_iload hx hb dX3_carryIn_106 (lv_at hl 5 rfl) ?_
            refine lv_iload hx hb dX3_carryIn_108 (lv_at hl 6 rfl) ?_
            refine lv_iload hx hb dX3_carryIn_110 (lv_at hl 7 rfl) ?_
            obtain ⟨s13, es13, hf⟩ := bd_ob hf
            refine call_v (As := [.int l8, .int l4, .int l5, .int l6]) (rest := []) ⟨hx, hb, hml, hown, hts⟩ (tX3_fill l D ca h ar _ τ l8 l4 l5 l6 s13 es13) (cwV 4 hts gX3_carryIn_X3_fill rfl rfl rfl (by decide +kernel) ⟨Nat.le_of_ble_eq_true rfl, Nat.le_of_ble_eq_true rfl⟩) hN hK hP hD hA hS (fr_id _ _) rfl rfl rfl hl.1 rfl (lv_room (Nat.le_of_ble_eq_true rfl)) dX3_carryIn_112 ⟨Nat.le_refl _, Nat.le_refl _⟩ (fun H locs hP hD hS => ?_)
            refine lv_iload hx hb dX3_carryIn_115 (lv_at hl 2 rfl) ?_
            refine lv_istore (lv' := [(4, .int v7), (13, .int v11), (12, .int v9), (11, .int v7), (10, .int v3), (0, .ref h), (5, .int l5), (6, .int l6), (7, .int l7), (8, .int l8), (9, .int l9)]) hx hb dX3_carryIn_117 hl (by decide) rfl (fun ls hl => ?_)
            refine lv_iload hx hb dX3_carryIn_119 (lv_at hl 2 rfl) ?_
            refine lv_istore (lv' := [(5, .int v9), (4, .int v7), (13, .int v11), (12, .int v9), (11, .int v7), (10, .int v3), (0, .ref h), (6, .int l6), (7, .int l7), (8, .int l8), (9, .int l9)]) hx hb dX3_carryIn_121 hl (by decide) rfl (fun ls hl => ?_)
            refine lv_iload hx hb dX3_carryIn_123 (lv_at hl 2 rfl) ?_
            refine lv_istore (lv' := [(6, .int v11), (5, .int v9), (4, .int v7), (13, .int v11), (12, .int v9), (11, .int v7), (10, .int v3), (0, .ref h), (7, .int l7), (8, .int l8), (9, .int l9)]) hx hb dX3_carryIn_125 hl (by decide) rfl (fun ls hl => ?_)
            refine lv_iload hx hb dX3_carryIn_127 (lv_at hl 6 rfl) ?_
            refine lv_istore (lv' := [(7, .int v3), (6, .int v11), (5, .int v9), (4, .int v7), (13, .int v11), (12, .int v9), (11, .int v7), (10, .int v3), (0, .ref h), (8, .int l8), (9, .int l9)]) hx hb dX3_carryIn_129 hl (by decide) rfl (fun ls hl => ?_)
            exact J131 _ _ _ _ _ _ _ _ _ _ hf hP hD hS (lv_sub hl [8, 3, 2, 1, 0, 9, 10] rfl)
        · replace hf := it_p c4 hf
          refine lv_aload_n hx hb dX3_carryIn_46 rfl (lv_at hl 1 rfl) ?_
          refine lv_iload hx hb dX3_carryIn_47 (lv_at hl 6 rfl) ?_
          refine lv_iload hx hb dX3_carryIn_49 (lv_at hl 2 rfl) ?_
          refine lv_iload hx hb dX3_carryIn_51 (lv_at hl 3 rfl) ?_
          refine lv_iload hx hb dX3_carryIn_53 (lv_at hl 4 rfl) ?_
          obtain ⟨s15, es15, hf⟩ := bd_ob hf
          refine call_v (As := [.int l8, .int l4, .int l5, .int l6]) (rest := []) ⟨hx, hb, hml, hown, hts⟩ (tX3_fill l D ca h ar _ τ l8 l4 l5 l6 s15 es15) (cwV 4 hts gX3_carryIn_X3_fill rfl rfl rfl (by decide +kernel) ⟨Nat.le_of_ble_eq_true rfl, Nat.le_of_ble_eq_true rfl⟩) hN hK hP hD hA hS (fr_id _ _) rfl rfl rfl hl.1 rfl (lv_room (Nat.le_of_ble_eq_true rfl)) dX3_carryIn_55 ⟨Nat.le_refl _, Nat.le_refl _⟩ (fun H locs hP hD hS => ?_)
          refine lv_aload_n hx hb dX3_carryIn_58 rfl (lv_at hl 1 rfl) ?_
          refine lv_dup hx hb dX3_carryIn_59 rfl ?_
          refine va_get (D := D) (ci := 3) (v := .int (tb_ct s15)) (C := RX3) (T := TX3) (N := 6) hx hb hts in3 hown hK hP 0 rfl rfl 5 (by decide) f39 (fun _ h9 => h9) rfl dX3_carryIn_60 ?_
          refine lv_iconst (v := 1) hx hb dX3_carryIn_63 (by decide) ?_
          refine lv_iadd hx hb dX3_carryIn_64 ?_
          obtain ⟨s16, es16, hf⟩ := nm_ob hf
          refine va_put (D := D) (ci := 3) (v := .int ((tb_ct s15) + 1)) (ty := .int) (C := RX3) (T := TX3) (N := 6) hx hb hts in3 tyX3 tyX3_ok nmX3 hown hK hP hD hS 0 rfl rfl 5 (by decide) f39 (fun _ h9 => h9) rfl (by decide +kernel) rfl rfl (Nat.le_of_ble_eq_true rfl) dX3_carryIn_65 (fun H locs hP hD hS => ?_)
          have hP : va_P D vwCl (wTab ca h ar s16) H := by rw [← es16]; exact hP
          have hD : va_D A (wTab ca h ar s16) := by rw [← es16]; exact hD
          obtain rfl := so1 hf
          exact hret _ _ _ _ dX3_carryIn_68 hP hD hS
  unfold tt_carryIn at hf
  refine lv_iload_n hx hb dX3_carryIn_0 rfl (lv_at hl 1 rfl) ?_
  refine lv_istore (lv' := [(4, .int a0), (0, .ref h), (1, .int a0), (2, .int a1), (3, .int a2)]) hx hb dX3_carryIn_1 hl (by decide) rfl (fun ls hl => ?_)
  refine lv_iload_n hx hb dX3_carryIn_3 rfl (lv_at hl 3 rfl) ?_
  refine lv_istore (lv' := [(5, .int a1), (4, .int a0), (0, .ref h), (1, .int a0), (2, .int a1), (3, .int a2)]) hx hb dX3_carryIn_4 hl (by decide) rfl (fun ls hl => ?_)
  refine lv_iload_n hx hb dX3_carryIn_6 rfl (lv_at hl 5 rfl) ?_
  refine lv_istore (lv' := [(6, .int a2), (5, .int a1), (4, .int a0), (0, .ref h), (1, .int a0), (2, .int a1), (3, .int a2)]) hx hb dX3_carryIn_7 hl (by decide) rfl (fun ls hl => ?_)
  refine lv_iconst (v := 0) hx hb dX3_carryIn_9 (by decide) ?_
  refine lv_istore (lv' := [(7, .int 0), (6, .int a2), (5, .int a1), (4, .int a0), (0, .ref h), (1, .int a0), (2, .int a1), (3, .int a2)]) hx hb dX3_carryIn_10 hl (by decide) rfl (fun ls hl => ?_)
  refine lv_aload_n hx hb dX3_carryIn_12 rfl (lv_at hl 4 rfl) ?_
  refine lv_iload hx hb dX3_carryIn_13 (lv_at hl 1 rfl) ?_
  obtain ⟨v1, ev1, hf⟩ := bd_ob hf
  refine call_i (As := [.int a2]) (rest := []) ⟨hx, hb, hml, hown, hts⟩ (tX3_around l D ca h ar _ τ a2 v1 ev1) (cwV 1 hts gX3_carryIn_X3_around rfl rfl rfl (by decide +kernel) ⟨Nat.le_of_ble_eq_true rfl, Nat.le_of_ble_eq_true rfl⟩) hN hK hP hD hA hS (fr_id _ _) rfl rfl rfl hl.1 rfl (lv_room (Nat.le_of_ble_eq_true rfl)) dX3_carryIn_15 ⟨Nat.le_refl _, Nat.le_refl _⟩ (fun H locs hP hD hS => ?_)
  refine lv_istore (lv' := [(8, .int v1), (7, .int 0), (6, .int a2), (5, .int a1), (4, .int a0), (0, .ref h), (1, .int a0), (2, .int a1), (3, .int a2)]) hx hb dX3_carryIn_18 hl (by decide) rfl (fun ls hl => ?_)
  refine lv_iconst (v := 0) hx hb dX3_carryIn_20 (by decide) ?_
  refine lv_istore (lv' := [(9, .int 0), (8, .int v1), (7, .int 0), (6, .int a2), (5, .int a1), (4, .int a0), (0, .ref h), (1, .int a0), (2, .int a1), (3, .int a2)]) hx hb dX3_carryIn_21 hl (by decide) rfl (fun ls hl => ?_)
  exact J23 FU _ _ _ _ _ _ _ _ _ _ hf hP hD hS (lv_sub hl [6, 5, 4, 3, 2, 1, 0] rfl)

def tt_takeOut_69   (τ : Tb) (l2 : Int32) : Option Tb :=
  gd l2 256 <|
  nm (tb_ctl' τ (upd (tb_ctl τ) l2.toNatClampNeg (-128))) fun s13 =>
  nm (tb_ct' s13 ((tb_ct s13) - 1)) fun s14 =>
  some s14
def tt_takeOut_13  (k13 : Tb → Int32 → Int32 → Int32 → Option Tb) (τ : Tb) (l2 : Int32) (l3 : Int32) (l4 : Int32) : Option Tb :=
  if (tb_sl τ) ≤ l4 then
    tt_takeOut_69 τ l2
  else
    bd (tt_distanceIn τ l3) fun v3 =>
    if v3 ≤ 0 then
      tt_takeOut_69 τ l2
    else
      gd l3 256 <|
      gd l3 256 <|
      gd l3 256 <|
      bd (tt_fill τ l2 (tb_ks τ l3.toNatClampNeg) (tb_vs τ l3.toNatClampNeg) (tb_hs τ l3.toNatClampNeg)) fun s9 =>
      bd (tt_around s9 (l3 + 1)) fun v10 =>
      nm (l4 + 1) fun v11 =>
      k13 s9 l3 v10 v11
def tt_takeOut_lp13   : Nat → Tb → Int32 → Int32 → Int32 → Option Tb := itF (fun _ _ _ _ => none) (fun k => tt_takeOut_13   k)
def tt_takeOut  (τ : Tb) (a0 : Int32) : Option Tb :=
  bd (tt_around τ (a0 + 1)) fun v1 =>
  tt_takeOut_lp13 FU τ a0 v1 1
set_option maxHeartbeats 4000000 in
set_option maxRecDepth 100000 in
theorem tX3_takeOut (l : Launch) (D : va_G) (ca : Nat → ClassId) (h : Nat) (ar : Nat → Nat) (sz : Nat)  (τ : Tb) (a0 : Int32) (τ9 : Tb) (hf : tt_takeOut τ a0 = some τ9) : Cv l D ca yX3_takeOut wsX3_takeOut { frames := 2, cells := 0, slots := 0, locals := 42 } [.ref h, .int a0] (wTab ca h ar τ) sz (wTab ca h ar τ9) := by
  refine body_of (cc := cX3_takeOut) (maxL := 5) (ret := none) (fun A => Qv D ca (wTab ca h ar τ9) A) (by decide) rfl (Nat.le_of_ble_eq_true rfl) ?_
  intro p e s m below meth c A ls hx hb hr hml hts hown hlocks hA hK hP hD hS hl hN
  have hl : lv_has ls 5 [(0, .ref h), (1, .int a0)] := hl
  have hret : ∀ (pc : Nat) (ls : Array Slot) (H : Heap) (locs : List Loc), decode cX3_takeOut pc = .ok (.return_, 1) → va_P D vwCl (wTab ca h ar τ9) H → va_D A (wTab ca h ar τ9) → va_S A s.heap H locs → W p l e { frames := 2, cells := 0, slots := 0, locals := 42 } s m ([.ref h, .int a0] : List Value).toArray below meth c H locs 0 0 (MQ below (Qv D ca (wTab ca h ar τ9) A) ([.ref h, .int a0] : List Value).toArray s 0 0 A) (F0 m pc ls []) := fun pc ls H locs hd hP hD hS => ret_v hx hb hr hlocks hK hP hD hS hd
  generalize MQ below (Qv D ca (wTab ca h ar τ9) A) ([.ref h, .int a0] : List Value).toArray s 0 0 A = Q at hret ⊢
  generalize ([.ref h, .int a0] : List Value).toArray = args at hts hret ⊢
  have f15 := hts (.fieldLink RX3 15 "RobinRow$Table" "hashes" "[I") (by decide +kernel)
  have f19 := hts (.fieldLink RX3 19 "RobinRow$Table" "keys" "[I") (by decide +kernel)
  have f22 := hts (.fieldLink RX3 22 "RobinRow$Table" "values" "[I") (by decide +kernel)
  have f35 := hts (.fieldLink RX3 35 "RobinRow$Table" "slots" "I") (by decide +kernel)
  have f39 := hts (.fieldLink RX3 39 "RobinRow$Table" "count" "I") (by decide +kernel)
  have f9 := hts (.fieldLink RX3 9 "RobinRow$Table" "controls" "[B") (by decide +kernel)
  have in3 : ∀ w ∈ u_ws RX3 TX3 6, w ∈ wsX3_takeOut := by decide +kernel
  have J69 : ∀ (H : Heap) (locs : List Loc) (ls : Array Slot) (τ : Tb) (l2 : Int32), tt_takeOut_69  τ l2 = some τ9 → va_P D vwCl (wTab ca h ar τ) H → va_D A (wTab ca h ar τ) → va_S A s.heap H locs → lv_has ls 5 [(0, .ref h), (2, .int l2)] → W p l e { frames := 2, cells := 0, slots := 0, locals := 42 } s m args below meth c H locs 0 0 Q (F0 m 69 ls []) := by
    intro H locs ls τ l2 hf hP hD hS hl
    unfold tt_takeOut_69 at hf
    refine lv_aload_n hx hb dX3_takeOut_69 rfl (lv_at hl 0 rfl) ?_
    refine va_get (D := D) (ci := 3) (v := .ref (ar 0)) (C := RX3) (T := TX3) (N := 6) hx hb hts in3 hown hK hP 0 rfl rfl 0 (by decide) f9 (fun _ h9 => h9) rfl dX3_takeOut_70 ?_
    refine lv_iload_n hx hb dX3_takeOut_73 rfl (lv_at hl 1 rfl) ?_
    refine lv_bipush (v := (-128)) hx hb dX3_takeOut_74 (by decide) ?_
    obtain ⟨g12, hf⟩ := gd_ob hf
    obtain ⟨s13, es13, hf⟩ := nm_ob hf
    refine va_bast hx hb hK hP hD hS 1 1 rfl rfl g12 dX3_takeOut_76 (fun H locs hP hD hS => ?_)
    have hP : va_P D vwCl (wTab ca h ar s13) H := by rw [← es13]; exact hP
    have hD : va_D A (wTab ca h ar s13) := by rw [← es13]; exact hD
    refine lv_aload_n hx hb dX3_takeOut_77 rfl (lv_at hl 0 rfl) ?_
    refine lv_dup hx hb dX3_takeOut_78 rfl ?_
    refine va_get (D := D) (ci := 3) (v := .int (tb_ct s13)) (C := RX3) (T := TX3) (N := 6) hx hb hts in3 hown hK hP 0 rfl rfl 5 (by decide) f39 (fun _ h9 => h9) rfl dX3_takeOut_79 ?_
    refine lv_iconst (v := 1) hx hb dX3_takeOut_82 (by decide) ?_
    refine lv_isub hx hb dX3_takeOut_83 ?_
    obtain ⟨s14, es14, hf⟩ := nm_ob hf
    refine va_put (D := D) (ci := 3) (v := .int ((tb_ct s13) - 1)) (ty := .int) (C := RX3) (T := TX3) (N := 6) hx hb hts in3 tyX3 tyX3_ok nmX3 hown hK hP hD hS 0 rfl rfl 5 (by decide) f39 (fun _ h9 => h9) rfl (by decide +kernel) rfl rfl (Nat.le_of_ble_eq_true rfl) dX3_takeOut_84 (fun H locs hP hD hS => ?_)
    have hP : va_P D vwCl (wTab ca h ar s14) H := by rw [← es14]; exact hP
    have hD : va_D A (wTab ca h ar s14) := by rw [← es14]; exact hD
    obtain rfl := so1 hf
    exact hret _ _ _ _ dX3_takeOut_87 hP hD hS
  have J13 : ∀ (n13 : Nat) (H : Heap) (locs : List Loc) (ls : Array Slot) (τ : Tb) (l2 : Int32) (l3 : Int32) (l4 : Int32), tt_takeOut_lp13  n13 τ l2 l3 l4 = some τ9 → va_P D vwCl (wTab ca h ar τ) H → va_D A (wTab ca h ar τ) → va_S A s.heap H locs → lv_has ls 5 [(0, .ref h), (2, .int l2), (3, .int l3), (4, .int l4)] → W p l e { frames := 2, cells := 0, slots := 0, locals := 42 } s m args below meth c H locs 0 0 Q (F0 m 13 ls []) := by
    intro n13
    induction n13 with
    | zero =>
      intro H locs ls τ l2 l3 l4 hf hP hD hS hl
      exact absurd hf (fun h => by cases h)
    | succ n13 ih13 =>
      intro H locs ls τ l2 l3 l4 hf hP hD hS hl
      replace hf : tt_takeOut_13  (tt_takeOut_lp13  n13) τ l2 l3 l4 = some τ9 := hf
      unfold tt_takeOut_13 at hf
      refine lv_iload hx hb dX3_takeOut_13 (lv_at hl 3 rfl) ?_
      refine lv_aload_n hx hb dX3_takeOut_15 rfl (lv_at hl 0 rfl) ?_
      refine va_get (D := D) (ci := 3) (v := .int (tb_sl τ)) (C := RX3) (T := TX3) (N := 6) hx hb hts in3 hown hK hP 0 rfl rfl 4 (by decide) f35 (fun _ h9 => h9) rfl dX3_takeOut_16 ?_
      refine lv_icmp_ge (tgt := 69) hx hb dX3_takeOut_19 (by decide) (fun c2 => ?_) (fun c2 => ?_)
      · replace hf := it_p c2 hf
        exact J69 _ _ _ _ _ hf hP hD hS (lv_sub hl [0, 1] rfl)
      · replace hf := it_n c2 hf
        refine lv_aload_n hx hb dX3_takeOut_22 rfl (lv_at hl 0 rfl) ?_
        refine lv_iload_n hx hb dX3_takeOut_23 rfl (lv_at hl 2 rfl) ?_
        obtain ⟨v3, ev3, hf⟩ := bd_ob hf
        refine call_i (As := [.int l3]) (rest := []) ⟨hx, hb, hml, hown, hts⟩ (tX3_distanceIn l D ca h ar _ τ l3 v3 ev3) (cwV 1 hts gX3_takeOut_X3_distanceIn rfl rfl rfl (by decide +kernel) ⟨Nat.le_of_ble_eq_true rfl, Nat.le_of_ble_eq_true rfl⟩) hN hK hP hD hA hS (fr_id _ _) rfl rfl rfl hl.1 rfl (lv_room (Nat.le_of_ble_eq_true rfl)) dX3_takeOut_24 ⟨Nat.le_refl _, Nat.le_refl _⟩ (fun H locs hP hD hS => ?_)
        refine lv_if_le (tgt := 69) hx hb dX3_takeOut_27 (by decide) (fun c4 => ?_) (fun c4 => ?_)
        · replace hf := it_p c4 hf
          exact J69 _ _ _ _ _ hf hP hD hS (lv_sub hl [0, 1] rfl)
        · replace hf := it_n c4 hf
          refine lv_aload_n hx hb dX3_takeOut_30 rfl (lv_at hl 0 rfl) ?_
          refine lv_iload_n hx hb dX3_takeOut_31 rfl (lv_at hl 1 rfl) ?_
          refine lv_aload_n hx hb dX3_takeOut_32 rfl (lv_at hl 0 rfl) ?_
          refine va_get (D := D) (ci := 3) (v := .ref (ar 2)) (C := RX3) (T := TX3) (N := 6) hx hb hts in3 hown hK hP 0 rfl rfl 2 (by decide) f19 (fun _ h9 => h9) rfl dX3_takeOut_33 ?_
          refine lv_iload_n hx hb dX3_takeOut_36 rfl (lv_at hl 2 rfl) ?_
          obtain ⟨g5, hf⟩ := gd_ob hf
          refine va_iald hx hb hK hP 3 0 rfl rfl g5 dX3_takeOut_37 ?_
          refine lv_aload_n hx hb dX3_takeOut_38 rfl (lv_at hl 0 rfl) ?_
          refine va_get (D := D) (ci := 3) (v := .ref (ar 3)) (C := RX3) (T := TX3) (N := 6) hx hb hts in3 hown hK hP 0 rfl rfl 3 (by decide) f22 (fun _ h9 => h9) rfl dX3_takeOut_39 ?_
          refine lv_iload_n hx hb dX3_takeOut_42 rfl (lv_at hl 2 rfl) ?_
          obtain ⟨g6, hf⟩ := gd_ob hf
          refine va_iald hx hb hK hP 4 0 rfl rfl g6 dX3_takeOut_43 ?_
          refine lv_aload_n hx hb dX3_takeOut_44 rfl (lv_at hl 0 rfl) ?_
          refine va_get (D := D) (ci := 3) (v := .ref (ar 1)) (C := RX3) (T := TX3) (N := 6) hx hb hts in3 hown hK hP 0 rfl rfl 1 (by decide) f15 (fun _ h9 => h9) rfl dX3_takeOut_45 ?_
          refine lv_iload_n hx hb dX3_takeOut_48 rfl (lv_at hl 2 rfl) ?_
          obtain ⟨g7, hf⟩ := gd_ob hf
          refine va_iald hx hb hK hP 2 0 rfl rfl g7 dX3_takeOut_49 ?_
          obtain ⟨s9, es9, hf⟩ := bd_ob hf
          refine call_v (As := [.int l2, .int (tb_ks τ l3.toNatClampNeg), .int (tb_vs τ l3.toNatClampNeg), .int (tb_hs τ l3.toNatClampNeg)]) (rest := []) ⟨hx, hb, hml, hown, hts⟩ (tX3_fill l D ca h ar _ τ l2 (tb_ks τ l3.toNatClampNeg) (tb_vs τ l3.toNatClampNeg) (tb_hs τ l3.toNatClampNeg) s9 es9) (cwV 4 hts gX3_takeOut_X3_fill rfl rfl rfl (by decide +kernel) ⟨Nat.le_of_ble_eq_true rfl, Nat.le_of_ble_eq_true rfl⟩) hN hK hP hD hA hS (fr_id _ _) rfl rfl rfl hl.1 rfl (lv_room (Nat.le_of_ble_eq_true rfl)) dX3_takeOut_50 ⟨Nat.le_refl _, Nat.le_refl _⟩ (fun H locs hP hD hS => ?_)
          refine lv_iload_n hx hb dX3_takeOut_53 rfl (lv_at hl 2 rfl) ?_
          refine lv_istore_n (lv' := [(2, .int l3), (0, .ref h), (3, .int l3), (4, .int l4)]) hx hb dX3_takeOut_54 rfl hl (by decide) rfl (fun ls hl => ?_)
          refine lv_aload_n hx hb dX3_takeOut_55 rfl (lv_at hl 1 rfl) ?_
          refine lv_iload_n hx hb dX3_takeOut_56 rfl (lv_at hl 0 rfl) ?_
          refine lv_iconst (v := 1) hx hb dX3_takeOut_57 (by decide) ?_
          refine lv_iadd hx hb dX3_takeOut_58 ?_
          obtain ⟨v10, ev10, hf⟩ := bd_ob hf
          refine call_i (As := [.int (l3 + 1)]) (rest := []) ⟨hx, hb, hml, hown, hts⟩ (tX3_around l D ca h ar _ s9 (l3 + 1) v10 ev10) (cwV 1 hts gX3_takeOut_X3_around rfl rfl rfl (by decide +kernel) ⟨Nat.le_of_ble_eq_true rfl, Nat.le_of_ble_eq_true rfl⟩) hN hK hP hD hA hS (fr_id _ _) rfl rfl rfl hl.1 rfl (lv_room (Nat.le_of_ble_eq_true rfl)) dX3_takeOut_59 ⟨Nat.le_refl _, Nat.le_refl _⟩ (fun H locs hP hD hS => ?_)
          refine lv_istore_n (lv' := [(3, .int v10), (2, .int l3), (0, .ref h), (4, .int l4)]) hx hb dX3_takeOut_62 rfl hl (by decide) rfl (fun ls hl => ?_)
          obtain ⟨v11, ev11, hf⟩ := nm_ob hf
          refine lv_iinc (v := v11) (lv' := [(4, .int v11), (3, .int v10), (2, .int l3), (0, .ref h)]) hx hb dX3_takeOut_63 hl (k := 3) rfl (by rw [← ev11]; rfl) (by decide) rfl (fun ls hl => ?_)
          refine lv_goto (tgt := 13) hx hb dX3_takeOut_66 (by decide) ?_
          exact ih13 _ _ _ _ _ _ _ hf hP hD hS (lv_sub hl [3, 2, 1, 0] rfl)
  unfold tt_takeOut at hf
  refine lv_iload_n hx hb dX3_takeOut_0 rfl (lv_at hl 1 rfl) ?_
  refine lv_istore_n (lv' := [(2, .int a0), (0, .ref h), (1, .int a0)]) hx hb dX3_takeOut_1 rfl hl (by decide) rfl (fun ls hl => ?_)
  refine lv_aload_n hx hb dX3_takeOut_2 rfl (lv_at hl 1 rfl) ?_
  refine lv_iload_n hx hb dX3_takeOut_3 rfl (lv_at hl 0 rfl) ?_
  refine lv_iconst (v := 1) hx hb dX3_takeOut_4 (by decide) ?_
  refine lv_iadd hx hb dX3_takeOut_5 ?_
  obtain ⟨v1, ev1, hf⟩ := bd_ob hf
  refine call_i (As := [.int (a0 + 1)]) (rest := []) ⟨hx, hb, hml, hown, hts⟩ (tX3_around l D ca h ar _ τ (a0 + 1) v1 ev1) (cwV 1 hts gX3_takeOut_X3_around rfl rfl rfl (by decide +kernel) ⟨Nat.le_of_ble_eq_true rfl, Nat.le_of_ble_eq_true rfl⟩) hN hK hP hD hA hS (fr_id _ _) rfl rfl rfl hl.1 rfl (lv_room (Nat.le_of_ble_eq_true rfl)) dX3_takeOut_6 ⟨Nat.le_refl _, Nat.le_refl _⟩ (fun H locs hP hD hS => ?_)
  refine lv_istore_n (lv' := [(3, .int v1), (2, .int a0), (0, .ref h), (1, .int a0)]) hx hb dX3_takeOut_9 rfl hl (by decide) rfl (fun ls hl => ?_)
  refine lv_iconst (v := 1) hx hb dX3_takeOut_10 (by decide) ?_
  refine lv_istore (lv' := [(4, .int 1), (3, .int v1), (2, .int a0), (0, .ref h), (1, .int a0)]) hx hb dX3_takeOut_11 hl (by decide) rfl (fun ls hl => ?_)
  exact J13 FU _ _ _ _ _ _ _ hf hP hD hS (lv_sub hl [3, 2, 1, 0] rfl)

def ww_end  (τ : Sw)  : Option Sw :=
  nm (sw_open' τ 0) fun s1 =>
  some s1
set_option maxHeartbeats 4000000 in
set_option maxRecDepth 100000 in
theorem tX2_end (l : Launch) (D : va_G) (ca : Nat → ClassId) (h : Nat) (sz : Nat)  (τ : Sw)  (τ9 : Sw) (hf : ww_end τ = some τ9) : Cv l D ca yX2_end wsX2_end { frames := 0, cells := 0, slots := 0, locals := 0 } [.ref h] (wSw h τ) sz (wSw h τ9) := by
  refine body_of (cc := cX2_end) (maxL := 1) (ret := none) (fun A => Qv D ca (wSw h τ9) A) (by decide) rfl (Nat.le_of_ble_eq_true rfl) ?_
  intro p e s m below meth c A ls hx hb hr hml hts hown hlocks hA hK hP hD hS hl hN
  have hl : lv_has ls 1 [(0, .ref h)] := hl
  have hret : ∀ (pc : Nat) (ls : Array Slot) (H : Heap) (locs : List Loc), decode cX2_end pc = .ok (.return_, 1) → va_P D vwCl (wSw h τ9) H → va_D A (wSw h τ9) → va_S A s.heap H locs → W p l e { frames := 0, cells := 0, slots := 0, locals := 0 } s m ([.ref h] : List Value).toArray below meth c H locs 0 0 (MQ below (Qv D ca (wSw h τ9) A) ([.ref h] : List Value).toArray s 0 0 A) (F0 m pc ls []) := fun pc ls H locs hd hP hD hS => ret_v hx hb hr hlocks hK hP hD hS hd
  generalize MQ below (Qv D ca (wSw h τ9) A) ([.ref h] : List Value).toArray s 0 0 A = Q at hret ⊢
  generalize ([.ref h] : List Value).toArray = args at hts hret ⊢
  have f9 := hts (.fieldLink RX2 9 "RobinRow$Sweep" "isOpen" "Z") (by decide +kernel)
  have in2 : ∀ w ∈ u_ws RX2 TX2 5, w ∈ wsX2_end := by decide +kernel
  unfold ww_end at hf
  refine lv_aload_n hx hb dX2_end_0 rfl (lv_at hl 0 rfl) ?_
  refine lv_iconst (v := 0) hx hb dX2_end_1 (by decide) ?_
  obtain ⟨s1, es1, hf⟩ := nm_ob hf
  refine va_put (D := D) (ci := 2) (v := .int 0) (ty := .boolean) (C := RX2) (T := TX2) (N := 5) hx hb hts in2 tyX2 tyX2_ok nmX2 hown hK hP hD hS 0 rfl rfl 0 (by decide) f9 (fun _ h9 => h9) rfl (by decide +kernel) rfl rfl (Nat.le_of_ble_eq_true rfl) dX2_end_2 (fun H locs hP hD hS => ?_)
  have hP : va_P D vwCl (wSw h s1) H := by rw [← es1]; exact hP
  have hD : va_D A (wSw h s1) := by rw [← es1]; exact hD
  obtain rfl := so1 hf
  exact hret _ _ _ _ dX2_end_5 hP hD hS

def ss_begin  (τ : Se)  : Option Se :=
  nm (se_tb' τ none) fun s1 =>
  nm (se_groups' s1 0) fun s2 =>
  nm (se_comps' s2 0) fun s3 =>
  some s3
set_option maxHeartbeats 4000000 in
set_option maxRecDepth 100000 in
theorem tX1_begin (l : Launch) (D : va_G) (ca : Nat → ClassId) (h : Nat) (sz : Nat)  (τ : Se)  (τ9 : Se) (hf : ss_begin τ = some τ9) : Cv l D ca yX1_begin wsX1_begin { frames := 0, cells := 0, slots := 0, locals := 0 } [.ref h] (wSe h τ) sz (wSe h τ9) := by
  refine body_of (cc := cX1_begin) (maxL := 1) (ret := none) (fun A => Qv D ca (wSe h τ9) A) (by decide) rfl (Nat.le_of_ble_eq_true rfl) ?_
  intro p e s m below meth c A ls hx hb hr hml hts hown hlocks hA hK hP hD hS hl hN
  have hl : lv_has ls 1 [(0, .ref h)] := hl
  have hret : ∀ (pc : Nat) (ls : Array Slot) (H : Heap) (locs : List Loc), decode cX1_begin pc = .ok (.return_, 1) → va_P D vwCl (wSe h τ9) H → va_D A (wSe h τ9) → va_S A s.heap H locs → W p l e { frames := 0, cells := 0, slots := 0, locals := 0 } s m ([.ref h] : List Value).toArray below meth c H locs 0 0 (MQ below (Qv D ca (wSe h τ9) A) ([.ref h] : List Value).toArray s 0 0 A) (F0 m pc ls []) := fun pc ls H locs hd hP hD hS => ret_v hx hb hr hlocks hK hP hD hS hd
  generalize MQ below (Qv D ca (wSe h τ9) A) ([.ref h] : List Value).toArray s 0 0 A = Q at hret ⊢
  generalize ([.ref h] : List Value).toArray = args at hts hret ⊢
  have f15 := hts (.fieldLink RX1 15 "RobinRow$Search" "groups" "I") (by decide +kernel)
  have f19 := hts (.fieldLink RX1 19 "RobinRow$Search" "comparisons" "I") (by decide +kernel)
  have f9 := hts (.fieldLink RX1 9 "RobinRow$Search" "table" "LRobinRow$Table;") (by decide +kernel)
  have in1 : ∀ w ∈ u_ws RX1 TX1 4, w ∈ wsX1_begin := by decide +kernel
  unfold ss_begin at hf
  refine lv_aload_n hx hb dX1_begin_0 rfl (lv_at hl 0 rfl) ?_
  refine lv_null hx hb dX1_begin_1 ?_
  obtain ⟨s1, es1, hf⟩ := nm_ob hf
  refine va_put (D := D) (ci := 1) (v := .null) (ty := (.object "RobinRow$Table")) (C := RX1) (T := TX1) (N := 4) hx hb hts in1 tyX1 tyX1_ok nmX1 hown hK hP hD hS 0 rfl rfl 0 (by decide) f9 (fun _ h9 => h9) rfl (by decide +kernel) rfl rfl (Nat.le_of_ble_eq_true rfl) dX1_begin_2 (fun H locs hP hD hS => ?_)
  have hP : va_P D vwCl (wSe h s1) H := by rw [← es1]; exact hP
  have hD : va_D A (wSe h s1) := by rw [← es1]; exact hD
  refine lv_aload_n hx hb dX1_begin_5 rfl (lv_at hl 0 rfl) ?_
  refine lv_iconst (v := 0) hx hb dX1_begin_6 (by decide) ?_
  obtain ⟨s2, es2, hf⟩ := nm_ob hf
  refine va_put (D := D) (ci := 1) (v := .int 0) (ty := .int) (C := RX1) (T := TX1) (N := 4) hx hb hts in1 tyX1 tyX1_ok nmX1 hown hK hP hD hS 0 rfl rfl 2 (by decide) f15 (fun _ h9 => h9) rfl (by decide +kernel) rfl rfl (Nat.le_of_ble_eq_true rfl) dX1_begin_7 (fun H locs hP hD hS => ?_)
  have hP : va_P D vwCl (wSe h s2) H := by rw [← es2]; exact hP
  have hD : va_D A (wSe h s2) := by rw [← es2]; exact hD
  refine lv_aload_n hx hb dX1_begin_10 rfl (lv_at hl 0 rfl) ?_
  refine lv_iconst (v := 0) hx hb dX1_begin_11 (by decide) ?_
  obtain ⟨s3, es3, hf⟩ := nm_ob hf
  refine va_put (D := D) (ci := 1) (v := .int 0) (ty := .int) (C := RX1) (T := TX1) (N := 4) hx hb hts in1 tyX1 tyX1_ok nmX1 hown hK hP hD hS 0 rfl rfl 3 (by decide) f19 (fun _ h9 => h9) rfl (by decide +kernel) rfl rfl (Nat.le_of_ble_eq_true rfl) dX1_begin_12 (fun H locs hP hD hS => ?_)
  have hP : va_P D vwCl (wSe h s3) H := by rw [← es3]; exact hP
  have hD : va_D A (wSe h s3) := by rw [← es3]; exact hD
  obtain rfl := so1 hf
  exact hret _ _ _ _ dX1_begin_15 hP hD hS

def ss_hasFound  (τ : Se)  : Option Int32 :=
  if se_tb τ = none then
    some 0
  else
    some 1
set_option maxHeartbeats 4000000 in
set_option maxRecDepth 100000 in
theorem tX1_hasFound (l : Launch) (D : va_G) (ca : Nat → ClassId) (h : Nat) (sz : Nat)  (τ : Se)  (r : Int32) (hf : ss_hasFound τ = some r) : Ci l D ca yX1_hasFound wsX1_hasFound { frames := 0, cells := 0, slots := 0, locals := 0 } [.ref h] (wSe h τ) sz r (wSe h τ) := by
  refine body_of (cc := cX1_hasFound) (maxL := 1) (ret := (some .boolean)) (fun A => Qi D ca r (wSe h τ) A) (by decide) rfl (Nat.le_of_ble_eq_true rfl) ?_
  intro p e s m below meth c A ls hx hb hr hml hts hown hlocks hA hK hP hD hS hl hN
  have hl : lv_has ls 1 [(0, .ref h)] := hl
  have hret : ∀ (pc : Nat) (ls : Array Slot) (H : Heap) (locs : List Loc), decode cX1_hasFound pc = .ok (.ireturn, 1) → narrow .boolean (.int r) = .int r → va_P D vwCl (wSe h τ) H → va_D A (wSe h τ) → va_S A s.heap H locs → W p l e { frames := 0, cells := 0, slots := 0, locals := 0 } s m ([.ref h] : List Value).toArray below meth c H locs 0 0 (MQ below (Qi D ca r (wSe h τ) A) ([.ref h] : List Value).toArray s 0 0 A) (F0 m pc ls [.int r]) := fun pc ls H locs hd hn hP hD hS => ret_z hx hb hr hn hlocks hK hP hD hS hd
  generalize MQ below (Qi D ca r (wSe h τ) A) ([.ref h] : List Value).toArray s 0 0 A = Q at hret ⊢
  generalize ([.ref h] : List Value).toArray = args at hts hret ⊢
  have f9 := hts (.fieldLink RX1 9 "RobinRow$Search" "table" "LRobinRow$Table;") (by decide +kernel)
  have in1 : ∀ w ∈ u_ws RX1 TX1 4, w ∈ wsX1_hasFound := by decide +kernel
  unfold ss_hasFound at hf
  refine lv_aload_n hx hb dX1_hasFound_0 rfl (lv_at hl 0 rfl) ?_
  refine va_get (D := D) (ci := 1) (v := va_rf (se_tb τ)) (C := RX1) (T := TX1) (N := 4) hx hb hts in1 hown hK hP 0 rfl rfl 0 (by decide) f9 (fun _ h9 => h9) rfl dX1_hasFound_1 ?_
  rcases c1 : se_tb τ with _ | q2
  · replace hf := it_p c1 hf
    refine W.eq (g2 := F0 m 4 ls (.null :: [])) (by first | rfl | (rw [c1]; rfl)) ?_
    refine lv_ifnullN (tgt := 11) hx hb dX1_hasFound_4 (by decide) ?_
    refine lv_iconst (v := 0) hx hb dX1_hasFound_11 (by decide) ?_
    obtain rfl := so1 hf
    exact hret _ _ _ _ dX1_hasFound_12 rfl hP hD hS
  · replace hf := it_n (fun z => by first | cases z | (rw [c1] at z; cases z)) hf
    refine W.eq (g2 := F0 m 4 ls (.ref q2 :: [])) (by first | rfl | (rw [c1]; rfl)) ?_
    refine lv_ifnull hx hb dX1_hasFound_4 ?_
    refine lv_iconst (v := 1) hx hb dX1_hasFound_7 (by decide) ?_
    refine lv_goto (tgt := 12) hx hb dX1_hasFound_8 (by decide) ?_
    obtain rfl := so1 hf
    exact hret _ _ _ _ dX1_hasFound_12 rfl hP hD hS

def ss_lookAtGroup_93 (wh : Nat) (t : Tb) (k6 : Se → Int32 → Int32 → Int32 → Int32 → Int32 → Option (Int32 × Se)) (τ : Se) (l2 : Int32) (l3 : Int32) (l4 : Int32) (l5 : Int32) (l6 : Int32) : Option (Int32 × Se) :=
  nm (l6 + 1) fun v17 =>
  k6 τ l2 l3 l4 l5 v17
def ss_lookAtGroup_49 (wh : Nat) (t : Tb) (k6 : Se → Int32 → Int32 → Int32 → Int32 → Int32 → Option (Int32 × Se)) (τ : Se) (l2 : Int32) (l3 : Int32) (l4 : Int32) (l6 : Int32) (l7 : Int32) (t0 : Int32) : Option (Int32 × Se) :=
  bd (tt_controlIn t l7) fun v10 =>
  if v10 = l4 then
    nm (se_comps' τ ((se_comps τ) + 1)) fun s12 =>
    bd (tt_keyIn t l7) fun v13 =>
    if v13 = l3 then
      nm (se_tb' s12 (some wh)) fun s15 =>
      nm (se_slot' s15 l7) fun s16 =>
      ss_lookAtGroup_93 wh t k6 s16 l2 l3 l4 t0 l6
    else
      ss_lookAtGroup_93 wh t k6 s12 l2 l3 l4 t0 l6
  else
    ss_lookAtGroup_93 wh t k6 τ l2 l3 l4 t0 l6
def ss_lookAtGroup_6 (wh : Nat) (t : Tb) (k6 : Se → Int32 → Int32 → Int32 → Int32 → Int32 → Option (Int32 × Se)) (τ : Se) (l2 : Int32) (l3 : Int32) (l4 : Int32) (l5 : Int32) (l6 : Int32) : Option (Int32 × Se) :=
  if 8 ≤ l6 then
    gn .boolean l5 <|
    some (l5, τ)
  else
    bd (ss_hasFound τ) fun v3 =>
    if v3 = 0 then
      bd (tt_around t (l2 + l6)) fun v6 =>
      if l5 = 0 then
        bd (tt_isEmptyIn t v6) fun v8 =>
        if v8 = 0 then
          ss_lookAtGroup_49 wh t k6 τ l2 l3 l4 l6 v6 0
        else
          ss_lookAtGroup_49 wh t k6 τ l2 l3 l4 l6 v6 1
      else
        ss_lookAtGroup_49 wh t k6 τ l2 l3 l4 l6 v6 1
    else
      gn .boolean l5 <|
      some (l5, τ)
def ss_lookAtGroup_lp6 (wh : Nat) (t : Tb)  : Nat → Se → Int32 → Int32 → Int32 → Int32 → Int32 → Option (Int32 × Se) := itF (fun _ _ _ _ _ _ => none) (fun k => ss_lookAtGroup_6 wh t  k)
def ss_lookAtGroup (wh : Nat) (t : Tb) (τ : Se) (a1 : Int32) (a2 : Int32) (a3 : Int32) : Option (Int32 × Se) :=
  ss_lookAtGroup_lp6 wh t FU τ a1 a2 a3 0 0
set_option maxHeartbeats 4000000 in
set_option maxRecDepth 100000 in
theorem tX1_lookAtGroup (l : Launch) (D : va_G) (ca : Nat → ClassId) (h : Nat) (ar : Nat → Nat) (sz : Nat) (wh : Nat) (t : Tb) (τ : Se) (a1 : Int32) (a2 : Int32) (a3 : Int32) (r : Int32) (τ9 : Se) (hf : ss_lookAtGroup wh t τ a1 a2 a3 = some (r, τ9)) : Ci l D ca yX1_lookAtGroup wsX1_lookAtGroup { frames := 1, cells := 0, slots := 0, locals := 21 } [.ref h, .ref wh, .int a1, .int a2, .int a3] (wLk ca h wh ar t τ) sz r (wLk ca h wh ar t τ9) := by
  refine body_of (cc := cX1_lookAtGroup) (maxL := 8) (ret := (some .boolean)) (fun A => Qi D ca r (wLk ca h wh ar t τ9) A) (by decide) rfl (Nat.le_of_ble_eq_true rfl) ?_
  intro p e s m below meth c A ls hx hb hr hml hts hown hlocks hA hK hP hD hS hl hN
  have hl : lv_has ls 8 [(0, .ref h), (1, .ref wh), (2, .int a1), (3, .int a2), (4, .int a3)] := hl
  have hret : ∀ (pc : Nat) (ls : Array Slot) (H : Heap) (locs : List Loc), decode cX1_lookAtGroup pc = .ok (.ireturn, 1) → narrow .boolean (.int r) = .int r → va_P D vwCl (wLk ca h wh ar t τ9) H → va_D A (wLk ca h wh ar t τ9) → va_S A s.heap H locs → W p l e { frames := 1, cells := 0, slots := 0, locals := 21 } s m ([.ref h, .ref wh, .int a1, .int a2, .int a3] : List Value).toArray below meth c H locs 0 0 (MQ below (Qi D ca r (wLk ca h wh ar t τ9) A) ([.ref h, .ref wh, .int a1, .int a2, .int a3] : List Value).toArray s 0 0 A) (F0 m pc ls [.int r]) := fun pc ls H locs hd hn hP hD hS => ret_z hx hb hr hn hlocks hK hP hD hS hd
  generalize MQ below (Qi D ca r (wLk ca h wh ar t τ9) A) ([.ref h, .ref wh, .int a1, .int a2, .int a3] : List Value).toArray s 0 0 A = Q at hret ⊢
  generalize ([.ref h, .ref wh, .int a1, .int a2, .int a3] : List Value).toArray = args at hts hret ⊢
  have f19 := hts (.fieldLink RX1 19 "RobinRow$Search" "comparisons" "I") (by decide +kernel)
  have f50 := hts (.fieldLink RX1 50 "RobinRow$Search" "slot" "I") (by decide +kernel)
  have f9 := hts (.fieldLink RX1 9 "RobinRow$Search" "table" "LRobinRow$Table;") (by decide +kernel)
  have in1 : ∀ w ∈ u_ws RX1 TX1 4, w ∈ wsX1_lookAtGroup := by decide +kernel
  have J6 : ∀ (n6 : Nat) (H : Heap) (locs : List Loc) (ls : Array Slot) (τ : Se) (l2 : Int32) (l3 : Int32) (l4 : Int32) (l5 : Int32) (l6 : Int32), ss_lookAtGroup_lp6 wh t  n6 τ l2 l3 l4 l5 l6 = some (r, τ9) → va_P D vwCl (wLk ca h wh ar t τ) H → va_D A (wLk ca h wh ar t τ) → va_S A s.heap H locs → lv_has ls 8 [(0, .ref h), (1, .ref wh), (2, .int l2), (3, .int l3), (4, .int l4), (5, .int l5), (6, .int l6)] → W p l e { frames := 1, cells := 0, slots := 0, locals := 21 } s m args below meth c H locs 0 0 Q (F0 m 6 ls []) := by
    intro n6
    induction n6 with
    | zero =>
      intro H locs ls τ l2 l3 l4 l5 l6 hf hP hD hS hl
      exact absurd hf (fun h => by cases h)
    | succ n6 ih6 =>
      have J93 : ∀ (H : Heap) (locs : List Loc) (ls : Array Slot) (τ : Se) (l2 : Int32) (l3 : Int32) (l4 : Int32) (l5 : Int32) (l6 : Int32), ss_lookAtGroup_93 wh t (ss_lookAtGroup_lp6 wh t  n6) τ l2 l3 l4 l5 l6 = some (r, τ9) → va_P D vwCl (wLk ca h wh ar t τ) H → va_D A (wLk ca h wh ar t τ) → va_S A s.heap H locs → lv_has ls 8 [(0, .ref h), (1, .ref wh), (2, .int l2), (3, .int l3), (4, .int l4), (5, .int l5), (6, .int l6)] → W p l e { frames := 1, cells := 0, slots := 0, locals := 21 } s m args below meth c H locs 0 0 Q (F0 m 93 ls []) := by
        intro H locs ls τ l2 l3 l4 l5 l6 hf hP hD hS hl
        unfold ss_lookAtGroup_93 at hf
        obtain ⟨v17, ev17, hf⟩ := nm_ob hf
        refine lv_iinc (v := v17) (lv' := [(6, .int v17), (0, .ref h), (1, .ref wh), (2, .int l2), (3, .int l3), (4, .int l4), (5, .int l5)]) hx hb dX1_lookAtGroup_93 hl (k := 6) rfl (by rw [← ev17]; rfl) (by decide) rfl (fun ls hl => ?_)
        refine lv_goto (tgt := 6) hx hb dX1_lookAtGroup_96 (by decide) ?_
        exact ih6 _ _ _ _ _ _ _ _ _ hf hP hD hS (lv_sub hl [1, 2, 3, 4, 5, 6, 0] rfl)
      have J49 : ∀ (H : Heap) (locs : List Loc) (ls : Array Slot) (τ : Se) (l2 : Int32) (l3 : Int32) (l4 : Int32) (l6 : Int32) (l7 : Int32) (t0 : Int32), ss_lookAtGroup_49 wh t (ss_lookAtGroup_lp6 wh t  n6) τ l2 l3 l4 l6 l7 t0 = some (r, τ9) → va_P D vwCl (wLk ca h wh ar t τ) H → va_D A (wLk ca h wh ar t τ) → va_S A s.heap H locs → lv_has ls 8 [(0, .ref h), (1, .ref wh), (2, .int l2), (3, .int l3), (4, .int l4), (6, .int l6), (7, .int l7)] → W p l e { frames := 1, cells := 0, slots := 0, locals := 21 } s m args below meth c H locs 0 0 Q (F0 m 49 ls [.int t0]) := by
        intro H locs ls τ l2 l3 l4 l6 l7 t0 hf hP hD hS hl
        unfold ss_lookAtGroup_49 at hf
        refine lv_istore (lv' := [(5, .int t0), (0, .ref h), (1, .ref wh), (2, .int l2), (3, .int l3), (4, .int l4), (6, .int l6), (7, .int l7)]) hx hb dX1_lookAtGroup_49 hl (by decide) rfl (fun ls hl => ?_)
        refine lv_aload_n hx hb dX1_lookAtGroup_51 rfl (lv_at hl 2 rfl) ?_
        refine lv_iload hx hb dX1_lookAtGroup_52 (lv_at hl 7 rfl) ?_
        obtain ⟨v10, ev10, hf⟩ := bd_ob hf
        refine call_i (As := [.int l7]) (rest := []) ⟨hx, hb, hml, hown, hts⟩ (tX3_controlIn l D ca wh ar _ t l7 v10 ev10) (cwV 1 hts gX1_lookAtGroup_X3_controlIn rfl rfl rfl (by decide +kernel) ⟨Nat.le_of_ble_eq_true rfl, Nat.le_of_ble_eq_true rfl⟩) hN hK hP hD hA hS (fr_LT ca h wh ar t _) rfl rfl rfl hl.1 rfl (lv_room (Nat.le_of_ble_eq_true rfl)) dX1_lookAtGroup_54 ⟨Nat.le_refl _, Nat.le_refl _⟩ (fun H locs hP hD hS => ?_)
        refine lv_iload hx hb dX1_lookAtGroup_57 (lv_at hl 5 rfl) ?_
        refine lv_icmp_ne (tgt := 93) hx hb dX1_lookAtGroup_59 (by decide) (fun c11 => ?_) (fun c11 => ?_)
        · replace hf := it_n c11 hf
          exact J93 _ _ _ _ _ _ _ _ _ hf hP hD hS (lv_sub hl [1, 2, 3, 4, 5, 0, 6] rfl)
        · replace hf := it_p c11 hf
          refine lv_aload_n hx hb dX1_lookAtGroup_62 rfl (lv_at hl 1 rfl) ?_
          refine lv_dup hx hb dX1_lookAtGroup_63 rfl ?_
          refine va_get (D := D) (ci := 1) (v := .int (se_comps τ)) (C := RX1) (T := TX1) (N := 4) hx hb hts in1 hown hK hP 0 rfl rfl 3 (by decide) f19 (fun _ h9 => h9) rfl dX1_lookAtGroup_64 ?_
          refine lv_iconst (v := 1) hx hb dX1_lookAtGroup_67 (by decide) ?_
          refine lv_iadd hx hb dX1_lookAtGroup_68 ?_
          obtain ⟨s12, es12, hf⟩ := nm_ob hf
          refine va_put (D := D) (ci := 1) (v := .int ((se_comps τ) + 1)) (ty := .int) (C := RX1) (T := TX1) (N := 4) hx hb hts in1 tyX1 tyX1_ok nmX1 hown hK hP hD hS 0 rfl rfl 3 (by decide) f19 (fun _ h9 => h9) rfl (by decide +kernel) rfl rfl (Nat.le_of_ble_eq_true rfl) dX1_lookAtGroup_69 (fun H locs hP hD hS => ?_)
          have hP : va_P D vwCl (wLk ca h wh ar t s12) H := by rw [← es12]; exact hP
          have hD : va_D A (wLk ca h wh ar t s12) := by rw [← es12]; exact hD
          refine lv_aload_n hx hb dX1_lookAtGroup_72 rfl (lv_at hl 2 rfl) ?_
          refine lv_iload hx hb dX1_lookAtGroup_73 (lv_at hl 7 rfl) ?_
          obtain ⟨v13, ev13, hf⟩ := bd_ob hf
          refine call_i (As := [.int l7]) (rest := []) ⟨hx, hb, hml, hown, hts⟩ (tX3_keyIn l D ca wh ar _ t l7 v13 ev13) (cwV 1 hts gX1_lookAtGroup_X3_keyIn rfl rfl rfl (by decide +kernel) ⟨Nat.le_of_ble_eq_true rfl, Nat.le_of_ble_eq_true rfl⟩) hN hK hP hD hA hS (fr_LT ca h wh ar t _) rfl rfl rfl hl.1 rfl (lv_room (Nat.le_of_ble_eq_true rfl)) dX1_lookAtGroup_75 ⟨Nat.le_refl _, Nat.le_refl _⟩ (fun H locs hP hD hS => ?_)
          refine lv_iload_n hx hb dX1_lookAtGroup_78 rfl (lv_at hl 4 rfl) ?_
          refine lv_icmp_ne (tgt := 93) hx hb dX1_lookAtGroup_79 (by decide) (fun c14 => ?_) (fun c14 => ?_)
          · replace hf := it_n c14 hf
            exact J93 _ _ _ _ _ _ _ _ _ hf hP hD hS (lv_sub hl [1, 2, 3, 4, 5, 0, 6] rfl)
          · replace hf := it_p c14 hf
            refine lv_aload_n hx hb dX1_lookAtGroup_82 rfl (lv_at hl 1 rfl) ?_
            refine lv_aload_n hx hb dX1_lookAtGroup_83 rfl (lv_at hl 2 rfl) ?_
            obtain ⟨s15, es15, hf⟩ := nm_ob hf
            refine va_put (D := D) (ci := 1) (v := .ref wh) (ty := (.object "RobinRow$Table")) (C := RX1) (T := TX1) (N := 4) hx hb hts in1 tyX1 tyX1_ok nmX1 hown hK hP hD hS 0 rfl rfl 0 (by decide) f9 (fun _ h9 => h9) rfl (by decide +kernel) rfl rfl (Nat.le_of_ble_eq_true rfl) dX1_lookAtGroup_84 (fun H locs hP hD hS => ?_)
            have hP : va_P D vwCl (wLk ca h wh ar t s15) H := by rw [← es15]; exact hP
            have hD : va_D A (wLk ca h wh ar t s15) := by rw [← es15]; exact hD
            refine lv_aload_n hx hb dX1_lookAtGroup_87 rfl (lv_at hl 1 rfl) ?_
            refine lv_iload hx hb dX1_lookAtGroup_88 (lv_at hl 7 rfl) ?_
            obtain ⟨s16, es16, hf⟩ := nm_ob hf
            refine va_put (D := D) (ci := 1) (v := .int l7) (ty := .int) (C := RX1) (T := TX1) (N := 4) hx hb hts in1 tyX1 tyX1_ok nmX1 hown hK hP hD hS 0 rfl rfl 1 (by decide) f50 (fun _ h9 => h9) rfl (by decide +kernel) rfl rfl (Nat.le_of_ble_eq_true rfl) dX1_lookAtGroup_90 (fun H locs hP hD hS => ?_)
            have hP : va_P D vwCl (wLk ca h wh ar t s16) H := by rw [← es16]; exact hP
            have hD : va_D A (wLk ca h wh ar t s16) := by rw [← es16]; exact hD
            exact J93 _ _ _ _ _ _ _ _ _ hf hP hD hS (lv_sub hl [1, 2, 3, 4, 5, 0, 6] rfl)
      intro H locs ls τ l2 l3 l4 l5 l6 hf hP hD hS hl
      replace hf : ss_lookAtGroup_6 wh t  (ss_lookAtGroup_lp6 wh t  n6) τ l2 l3 l4 l5 l6 = some (r, τ9) := hf
      unfold ss_lookAtGroup_6 at hf
      refine lv_iload hx hb dX1_lookAtGroup_6 (lv_at hl 6 rfl) ?_
      refine lv_bipush (v := 8) hx hb dX1_lookAtGroup_8 (by decide) ?_
      refine lv_icmp_ge (tgt := 99) hx hb dX1_lookAtGroup_10 (by decide) (fun c1 => ?_) (fun c1 => ?_)
      · replace hf := it_p c1 hf
        refine lv_iload hx hb dX1_lookAtGroup_99 (lv_at hl 5 rfl) ?_
        obtain ⟨g2, hf⟩ := gn_ob hf
        obtain ⟨rfl, rfl⟩ := so2 hf
        exact hret _ _ _ _ dX1_lookAtGroup_101 (nr_z g2) hP hD hS
      · replace hf := it_n c1 hf
        refine lv_aload_n hx hb dX1_lookAtGroup_13 rfl (lv_at hl 0 rfl) ?_
        obtain ⟨v3, ev3, hf⟩ := bd_ob hf
        refine call_i (As := []) (rest := []) ⟨hx, hb, hml, hown, hts⟩ (tX1_hasFound l D ca h _ τ v3 ev3) (cwV 0 hts gX1_lookAtGroup_X1_hasFound rfl rfl rfl (by decide +kernel) ⟨Nat.le_of_ble_eq_true rfl, Nat.le_of_ble_eq_true rfl⟩) hN hK hP hD hA hS (fr_LS ca h wh ar t _ _) rfl rfl rfl hl.1 rfl (lv_room (Nat.le_of_ble_eq_true rfl)) dX1_lookAtGroup_14 ⟨Nat.le_refl _, Nat.le_refl _⟩ (fun H locs hP hD hS => ?_)
        refine lv_if_ne (tgt := 99) hx hb dX1_lookAtGroup_17 (by decide) (fun c4 => ?_) (fun c4 => ?_)
        · replace hf := it_n c4 hf
          refine lv_iload hx hb dX1_lookAtGroup_99 (lv_at hl 5 rfl) ?_
          obtain ⟨g5, hf⟩ := gn_ob hf
          obtain ⟨rfl, rfl⟩ := so2 hf
          exact hret _ _ _ _ dX1_lookAtGroup_101 (nr_z g5) hP hD hS
        · replace hf := it_p c4 hf
          refine lv_aload_n hx hb dX1_lookAtGroup_20 rfl (lv_at hl 1 rfl) ?_
          refine lv_iload_n hx hb dX1_lookAtGroup_21 rfl (lv_at hl 2 rfl) ?_
          refine lv_iload hx hb dX1_lookAtGroup_22 (lv_at hl 6 rfl) ?_
          refine lv_iadd hx hb dX1_lookAtGroup_24 ?_
          obtain ⟨v6, ev6, hf⟩ := bd_ob hf
          refine call_i (As := [.int (l2 + l6)]) (rest := []) ⟨hx, hb, hml, hown, hts⟩ (tX3_around l D ca wh ar _ t (l2 + l6) v6 ev6) (cwV 1 hts gX1_lookAtGroup_X3_around rfl rfl rfl (by decide +kernel) ⟨Nat.le_of_ble_eq_true rfl, Nat.le_of_ble_eq_true rfl⟩) hN hK hP hD hA hS (fr_LT ca h wh ar t _) rfl rfl rfl hl.1 rfl (lv_room (Nat.le_of_ble_eq_true rfl)) dX1_lookAtGroup_25 ⟨Nat.le_refl _, Nat.le_refl _⟩ (fun H locs hP hD hS => ?_)
          refine lv_istore (lv' := [(7, .int v6), (0, .ref h), (1, .ref wh), (2, .int l2), (3, .int l3), (4, .int l4), (5, .int l5), (6, .int l6)]) hx hb dX1_lookAtGroup_28 hl (by decide) rfl (fun ls hl => ?_)
          refine lv_iload hx hb dX1_lookAtGroup_30 (lv_at hl 6 rfl) ?_
          refine lv_if_ne (tgt := 44) hx hb dX1_lookAtGroup_32 (by decide) (fun c7 => ?_) (fun c7 => ?_)
          · replace hf := it_n c7 hf
            refine lv_iconst (v := 1) hx hb dX1_lookAtGroup_44 (by decide) ?_
            refine lv_goto (tgt := 49) hx hb dX1_lookAtGroup_45 (by decide) ?_
            exact J49 _ _ _ _ _ _ _ _ _ _ hf hP hD hS (lv_sub hl [1, 2, 3, 4, 5, 7, 0] rfl)
          · replace hf := it_p c7 hf
            refine lv_aload_n hx hb dX1_lookAtGroup_35 rfl (lv_at hl 2 rfl) ?_
            refine lv_iload hx hb dX1_lookAtGroup_36 (lv_at hl 0 rfl) ?_
            obtain ⟨v8, ev8, hf⟩ := bd_ob hf
            refine call_i (As := [.int v6]) (rest := []) ⟨hx, hb, hml, hown, hts⟩ (tX3_isEmptyIn l D ca wh ar _ t v6 v8 ev8) (cwV 1 hts gX1_lookAtGroup_X3_isEmptyIn rfl rfl rfl (by decide +kernel) ⟨Nat.le_of_ble_eq_true rfl, Nat.le_of_ble_eq_true rfl⟩) hN hK hP hD hA hS (fr_LT ca h wh ar t _) rfl rfl rfl hl.1 rfl (lv_room (Nat.le_of_ble_eq_true rfl)) dX1_lookAtGroup_38 ⟨Nat.le_refl _, Nat.le_refl _⟩ (fun H locs hP hD hS => ?_)
            refine lv_if_eq (tgt := 48) hx hb dX1_lookAtGroup_41 (by decide) (fun c9 => ?_) (fun c9 => ?_)
            · replace hf := it_p c9 hf
              refine lv_iconst (v := 0) hx hb dX1_lookAtGroup_48 (by decide) ?_
              exact J49 _ _ _ _ _ _ _ _ _ _ hf hP hD hS (lv_sub hl [1, 2, 3, 4, 5, 7, 0] rfl)
            · replace hf := it_n c9 hf
              refine lv_iconst (v := 1) hx hb dX1_lookAtGroup_44 (by decide) ?_
              refine lv_goto (tgt := 49) hx hb dX1_lookAtGroup_45 (by decide) ?_
              exact J49 _ _ _ _ _ _ _ _ _ _ hf hP hD hS (lv_sub hl [1, 2, 3, 4, 5, 7, 0] rfl)
  unfold ss_lookAtGroup at hf
  refine lv_iconst (v := 0) hx hb dX1_lookAtGroup_0 (by decide) ?_
  refine lv_istore (lv' := [(5, .int 0), (0, .ref h), (1, .ref wh), (2, .int a1), (3, .int a2), (4, .int a3)]) hx hb dX1_lookAtGroup_1 hl (by decide) rfl (fun ls hl => ?_)
  refine lv_iconst (v := 0) hx hb dX1_lookAtGroup_3 (by decide) ?_
  refine lv_istore (lv' := [(6, .int 0), (5, .int 0), (0, .ref h), (1, .ref wh), (2, .int a1), (3, .int a2), (4, .int a3)]) hx hb dX1_lookAtGroup_4 hl (by decide) rfl (fun ls hl => ?_)
  exact J6 FU _ _ _ _ _ _ _ _ _ hf hP hD hS (lv_sub hl [2, 3, 4, 5, 6, 1, 0] rfl)

def ss_lookIn_63 (wh : Nat) (t : Tb) (k6 : Se → Int32 → Int32 → Int32 → Int32 → Option Se) (τ : Se) (l2 : Int32) (l3 : Int32) (l5 : Int32) (t0 : Int32) : Option Se :=
  nm (l5 + 8) fun v9 =>
  k6 τ l2 l3 t0 v9
def ss_lookIn_6 (wh : Nat) (t : Tb) (k6 : Se → Int32 → Int32 → Int32 → Int32 → Option Se) (τ : Se) (l2 : Int32) (l3 : Int32) (l4 : Int32) (l5 : Int32) : Option Se :=
  if (tb_sl t) ≤ l5 then
    some τ
  else
    if l4 = 0 then
      nm (se_groups' τ ((se_groups τ) + 1)) fun s3 =>
      bd2 (ss_lookAtGroup wh t s3 (l3 + l5) l2 (ushr l3 25)) fun v4 s5 =>
      if v4 = 0 then
        bd (ss_hasFound s5) fun v7 =>
        if v7 = 0 then
          ss_lookIn_63 wh t k6 s5 l2 l3 l5 0
        else
          ss_lookIn_63 wh t k6 s5 l2 l3 l5 1
      else
        ss_lookIn_63 wh t k6 s5 l2 l3 l5 1
    else
      some τ
def ss_lookIn_lp6 (wh : Nat) (t : Tb)  : Nat → Se → Int32 → Int32 → Int32 → Int32 → Option Se := itF (fun _ _ _ _ _ => none) (fun k => ss_lookIn_6 wh t  k)
def ss_lookIn (wh : Nat) (t : Tb) (τ : Se) (a1 : Int32) (a2 : Int32) : Option Se :=
  ss_lookIn_lp6 wh t FU τ a1 a2 0 0
set_option maxHeartbeats 4000000 in
set_option maxRecDepth 100000 in
theorem tX1_lookIn (l : Launch) (D : va_G) (ca : Nat → ClassId) (h : Nat) (ar : Nat → Nat) (sz : Nat) (wh : Nat) (t : Tb) (τ : Se) (a1 : Int32) (a2 : Int32) (τ9 : Se) (hf : ss_lookIn wh t τ a1 a2 = some τ9) : Cv l D ca yX1_lookIn wsX1_lookIn { frames := 2, cells := 0, slots := 0, locals := 48 } [.ref h, .ref wh, .int a1, .int a2] (wLk ca h wh ar t τ) sz (wLk ca h wh ar t τ9) := by
  refine body_of (cc := cX1_lookIn) (maxL := 7) (ret := none) (fun A => Qv D ca (wLk ca h wh ar t τ9) A) (by decide) rfl (Nat.le_of_ble_eq_true rfl) ?_
  intro p e s m below meth c A ls hx hb hr hml hts hown hlocks hA hK hP hD hS hl hN
  have hl : lv_has ls 7 [(0, .ref h), (1, .ref wh), (2, .int a1), (3, .int a2)] := hl
  have hret : ∀ (pc : Nat) (ls : Array Slot) (H : Heap) (locs : List Loc), decode cX1_lookIn pc = .ok (.return_, 1) → va_P D vwCl (wLk ca h wh ar t τ9) H → va_D A (wLk ca h wh ar t τ9) → va_S A s.heap H locs → W p l e { frames := 2, cells := 0, slots := 0, locals := 48 } s m ([.ref h, .ref wh, .int a1, .int a2] : List Value).toArray below meth c H locs 0 0 (MQ below (Qv D ca (wLk ca h wh ar t τ9) A) ([.ref h, .ref wh, .int a1, .int a2] : List Value).toArray s 0 0 A) (F0 m pc ls []) := fun pc ls H locs hd hP hD hS => ret_v hx hb hr hlocks hK hP hD hS hd
  generalize MQ below (Qv D ca (wLk ca h wh ar t τ9) A) ([.ref h, .ref wh, .int a1, .int a2] : List Value).toArray s 0 0 A = Q at hret ⊢
  generalize ([.ref h, .ref wh, .int a1, .int a2] : List Value).toArray = args at hts hret ⊢
  have f15 := hts (.fieldLink RX1 15 "RobinRow$Search" "groups" "I") (by decide +kernel)
  have f22 : (Cond.fieldLinkNest RX1 22 "RobinRow$Table" "slots" "I" RX4).before args s = true := va_Nw.use rfl (hN.1 (RX1, 22, "RobinRow$Table", "slots", "I") (by decide +kernel))
  have in1 : ∀ w ∈ u_ws RX1 TX1 4, w ∈ wsX1_lookIn := by decide +kernel
  have in3 : ∀ w ∈ u_ws RX3 TX3 6, w ∈ wsX1_lookIn := by decide +kernel
  have J6 : ∀ (n6 : Nat) (H : Heap) (locs : List Loc) (ls : Array Slot) (τ : Se) (l2 : Int32) (l3 : Int32) (l4 : Int32) (l5 : Int32), ss_lookIn_lp6 wh t  n6 τ l2 l3 l4 l5 = some τ9 → va_P D vwCl (wLk ca h wh ar t τ) H → va_D A (wLk ca h wh ar t τ) → va_S A s.heap H locs → lv_has ls 7 [(0, .ref h), (1, .ref wh), (2, .int l2), (3, .int l3), (4, .int l4), (5, .int l5)] → W p l e { frames := 2, cells := 0, slots := 0, locals := 48 } s m args below meth c H locs 0 0 Q (F0 m 6 ls []) := by
    intro n6
    induction n6 with
    | zero =>
      intro H locs ls τ l2 l3 l4 l5 hf hP hD hS hl
      exact absurd hf (fun h => by cases h)
    | succ n6 ih6 =>
      have J63 : ∀ (H : Heap) (locs : List Loc) (ls : Array Slot) (τ : Se) (l2 : Int32) (l3 : Int32) (l5 : Int32) (t0 : Int32), ss_lookIn_63 wh t (ss_lookIn_lp6 wh t  n6) τ l2 l3 l5 t0 = some τ9 → va_P D vwCl (wLk ca h wh ar t τ) H → va_D A (wLk ca h wh ar t τ) → va_S A s.heap H locs → lv_has ls 7 [(0, .ref h), (1, .ref wh), (2, .int l2), (3, .int l3), (5, .int l5)] → W p l e { frames := 2, cells := 0, slots := 0, locals := 48 } s m args below meth c H locs 0 0 Q (F0 m 63 ls [.int t0]) := by
        intro H locs ls τ l2 l3 l5 t0 hf hP hD hS hl
        unfold ss_lookIn_63 at hf
        refine lv_istore (lv' := [(4, .int t0), (0, .ref h), (1, .ref wh), (2, .int l2), (3, .int l3), (5, .int l5)]) hx hb dX1_lookIn_63 hl (by decide) rfl (fun ls hl => ?_)
        obtain ⟨v9, ev9, hf⟩ := nm_ob hf
        refine lv_iinc (v := v9) (lv' := [(5, .int v9), (4, .int t0), (0, .ref h), (1, .ref wh), (2, .int l2), (3, .int l3)]) hx hb dX1_lookIn_65 hl (k := 5) rfl (by rw [← ev9]; rfl) (by decide) rfl (fun ls hl => ?_)
        refine lv_goto (tgt := 6) hx hb dX1_lookIn_68 (by decide) ?_
        exact ih6 _ _ _ _ _ _ _ _ hf hP hD hS (lv_sub hl [2, 3, 4, 5, 1, 0] rfl)
      intro H locs ls τ l2 l3 l4 l5 hf hP hD hS hl
      replace hf : ss_lookIn_6 wh t  (ss_lookIn_lp6 wh t  n6) τ l2 l3 l4 l5 = some τ9 := hf
      unfold ss_lookIn_6 at hf
      refine lv_iload hx hb dX1_lookIn_6 (lv_at hl 5 rfl) ?_
      refine lv_aload_n hx hb dX1_lookIn_8 rfl (lv_at hl 1 rfl) ?_
      refine va_getN (D := D) (ci := 3) (v := .int (tb_sl t)) (C := RX3) (T := TX3) (N := 6) hx hb hts in3 hown hK hP 1 rfl rfl 4 (by decide) f22 (fun _ h9 => h9) rfl dX1_lookIn_9 ?_
      refine lv_icmp_ge (tgt := 71) hx hb dX1_lookIn_12 (by decide) (fun c1 => ?_) (fun c1 => ?_)
      · replace hf := it_p c1 hf
        obtain rfl := so1 hf
        exact hret _ _ _ _ dX1_lookIn_71 hP hD hS
      · replace hf := it_n c1 hf
        refine lv_iload hx hb dX1_lookIn_15 (lv_at hl 4 rfl) ?_
        refine lv_if_ne (tgt := 71) hx hb dX1_lookIn_17 (by decide) (fun c2 => ?_) (fun c2 => ?_)
        · replace hf := it_n c2 hf
          obtain rfl := so1 hf
          exact hret _ _ _ _ dX1_lookIn_71 hP hD hS
        · replace hf := it_p c2 hf
          refine lv_aload_n hx hb dX1_lookIn_20 rfl (lv_at hl 0 rfl) ?_
          refine lv_dup hx hb dX1_lookIn_21 rfl ?_
          refine va_get (D := D) (ci := 1) (v := .int (se_groups τ)) (C := RX1) (T := TX1) (N := 4) hx hb hts in1 hown hK hP 0 rfl rfl 2 (by decide) f15 (fun _ h9 => h9) rfl dX1_lookIn_22 ?_
          refine lv_iconst (v := 1) hx hb dX1_lookIn_25 (by decide) ?_
          refine lv_iadd hx hb dX1_lookIn_26 ?_
          obtain ⟨s3, es3, hf⟩ := nm_ob hf
          refine va_put (D := D) (ci := 1) (v := .int ((se_groups τ) + 1)) (ty := .int) (C := RX1) (T := TX1) (N := 4) hx hb hts in1 tyX1 tyX1_ok nmX1 hown hK hP hD hS 0 rfl rfl 2 (by decide) f15 (fun _ h9 => h9) rfl (by decide +kernel) rfl rfl (Nat.le_of_ble_eq_true rfl) dX1_lookIn_27 (fun H locs hP hD hS => ?_)
          have hP : va_P D vwCl (wLk ca h wh ar t s3) H := by rw [← es3]; exact hP
          have hD : va_D A (wLk ca h wh ar t s3) := by rw [← es3]; exact hD
          refine lv_aload_n hx hb dX1_lookIn_30 rfl (lv_at hl 0 rfl) ?_
          refine lv_aload_n hx hb dX1_lookIn_31 rfl (lv_at hl 1 rfl) ?_
          refine lv_iload_n hx hb dX1_lookIn_32 rfl (lv_at hl 3 rfl) ?_
          refine lv_iload hx hb dX1_lookIn_33 (lv_at hl 5 rfl) ?_
          refine lv_iadd hx hb dX1_lookIn_35 ?_
          refine lv_iload_n hx hb dX1_lookIn_36 rfl (lv_at hl 2 rfl) ?_
          refine lv_iload_n hx hb dX1_lookIn_37 rfl (lv_at hl 3 rfl) ?_
          refine lv_bipush (v := 25) hx hb dX1_lookIn_38 (by decide) ?_
          refine lv_iushr (v := (ushr l3 25)) hx hb dX1_lookIn_40 rfl ?_
          obtain ⟨v4, s5, ev4, hf⟩ := bd2_ob hf
          refine call_i (As := [.ref wh, .int (l3 + l5), .int l2, .int (ushr l3 25)]) (rest := []) ⟨hx, hb, hml, hown, hts⟩ (tX1_lookAtGroup l D ca h ar _ wh t s3 (l3 + l5) l2 (ushr l3 25) v4 s5 ev4) (cwV 4 hts gX1_lookIn_X1_lookAtGroup rfl rfl rfl (by decide +kernel) ⟨Nat.le_of_ble_eq_true rfl, Nat.le_of_ble_eq_true rfl⟩) hN hK hP hD hA hS (fr_id _ _) rfl rfl rfl hl.1 rfl (lv_room (Nat.le_of_ble_eq_true rfl)) dX1_lookIn_41 ⟨Nat.le_refl _, Nat.le_refl _⟩ (fun H locs hP hD hS => ?_)
          refine lv_istore (lv' := [(6, .int v4), (0, .ref h), (1, .ref wh), (2, .int l2), (3, .int l3), (4, .int l4), (5, .int l5)]) hx hb dX1_lookIn_44 hl (by decide) rfl (fun ls hl => ?_)
          refine lv_iload hx hb dX1_lookIn_46 (lv_at hl 0 rfl) ?_
          refine lv_if_ne (tgt := 58) hx hb dX1_lookIn_48 (by decide) (fun c6 => ?_) (fun c6 => ?_)
          · replace hf := it_n c6 hf
            refine lv_iconst (v := 1) hx hb dX1_lookIn_58 (by decide) ?_
            refine lv_goto (tgt := 63) hx hb dX1_lookIn_59 (by decide) ?_
            exact J63 _ _ _ _ _ _ _ _ hf hP hD hS (lv_sub hl [1, 2, 3, 4, 6] rfl)
          · replace hf := it_p c6 hf
            refine lv_aload_n hx hb dX1_lookIn_51 rfl (lv_at hl 1 rfl) ?_
            obtain ⟨v7, ev7, hf⟩ := bd_ob hf
            refine call_i (As := []) (rest := []) ⟨hx, hb, hml, hown, hts⟩ (tX1_hasFound l D ca h _ s5 v7 ev7) (cwV 0 hts gX1_lookIn_X1_hasFound rfl rfl rfl (by decide +kernel) ⟨Nat.le_of_ble_eq_true rfl, Nat.le_of_ble_eq_true rfl⟩) hN hK hP hD hA hS (fr_LS ca h wh ar t _ _) rfl rfl rfl hl.1 rfl (lv_room (Nat.le_of_ble_eq_true rfl)) dX1_lookIn_52 ⟨Nat.le_refl _, Nat.le_refl _⟩ (fun H locs hP hD hS => ?_)
            refine lv_if_eq (tgt := 62) hx hb dX1_lookIn_55 (by decide) (fun c8 => ?_) (fun c8 => ?_)
            · replace hf := it_p c8 hf
              refine lv_iconst (v := 0) hx hb dX1_lookIn_62 (by decide) ?_
              exact J63 _ _ _ _ _ _ _ _ hf hP hD hS (lv_sub hl [1, 2, 3, 4, 6] rfl)
            · replace hf := it_n c8 hf
              refine lv_iconst (v := 1) hx hb dX1_lookIn_58 (by decide) ?_
              refine lv_goto (tgt := 63) hx hb dX1_lookIn_59 (by decide) ?_
              exact J63 _ _ _ _ _ _ _ _ hf hP hD hS (lv_sub hl [1, 2, 3, 4, 6] rfl)
  unfold ss_lookIn at hf
  refine lv_iconst (v := 0) hx hb dX1_lookIn_0 (by decide) ?_
  refine lv_istore (lv' := [(4, .int 0), (0, .ref h), (1, .ref wh), (2, .int a1), (3, .int a2)]) hx hb dX1_lookIn_1 hl (by decide) rfl (fun ls hl => ?_)
  refine lv_iconst (v := 0) hx hb dX1_lookIn_3 (by decide) ?_
  refine lv_istore (lv' := [(5, .int 0), (4, .int 0), (0, .ref h), (1, .ref wh), (2, .int a1), (3, .int a2)]) hx hb dX1_lookIn_4 hl (by decide) rfl (fun ls hl => ?_)
  exact J6 FU _ _ _ _ _ _ _ _ hf hP hD hS (lv_sub hl [2, 3, 4, 5, 1, 0] rfl)

def pp_sortByKeys_82 (t : Tb) (k4 : Pl → Int32 → Int32 → Option (Int32 × Pl)) (τ : Pl) (l2 : Int32) (l3 : Int32) : Option (Int32 × Pl) :=
  nm (l3 + 1) fun v4 =>
  k4 τ l2 v4
def pp_sortByKeys_71 (t : Tb) (k4 : Pl → Int32 → Int32 → Option (Int32 × Pl)) (τ : Pl) (l2 : Int32) (l3 : Int32) (l4 : Int32) : Option (Int32 × Pl) :=
  gd l4 256 <|
  nm (pl_rising' τ (upd (pl_rising τ) l4.toNatClampNeg l3)) fun s15 =>
  nm (l2 + 1) fun v16 =>
  pp_sortByKeys_82 t k4 s15 v16 l3
def pp_sortByKeys_23 (t : Tb) (k4 : Pl → Int32 → Int32 → Option (Int32 × Pl)) (k23 : Pl → Int32 → Int32 → Int32 → Option (Int32 × Pl)) (τ : Pl) (l2 : Int32) (l3 : Int32) (l4 : Int32) : Option (Int32 × Pl) :=
  if l4 ≤ 0 then
    pp_sortByKeys_71 t k4 τ l2 l3 l4
  else
    gd (l4 - 1) 256 <|
    bd (tt_keyIn t (pl_rising τ (l4 - 1).toNatClampNeg)) fun v7 =>
    bd (tt_keyIn t l3) fun v8 =>
    if v7 ≤ v8 then
      pp_sortByKeys_71 t k4 τ l2 l3 l4
    else
      gd (l4 - 1) 256 <|
      gd l4 256 <|
      nm (pl_rising' τ (upd (pl_rising τ) l4.toNatClampNeg (pl_rising τ (l4 - 1).toNatClampNeg))) fun s12 =>
      nm (l4 + (-1)) fun v13 =>
      k23 s12 l2 l3 v13
def pp_sortByKeys_lp23 (t : Tb) (k4 : Pl → Int32 → Int32 → Option (Int32 × Pl)) : Nat → Pl → Int32 → Int32 → Int32 → Option (Int32 × Pl) := itF (fun _ _ _ _ => none) (fun k => pp_sortByKeys_23 t k4 k)
def pp_sortByKeys_4 (t : Tb) (k4 : Pl → Int32 → Int32 → Option (Int32 × Pl)) (τ : Pl) (l2 : Int32) (l3 : Int32) : Option (Int32 × Pl) :=
  if (tb_sl t) ≤ l3 then
    some (l2, τ)
  else
    bd (tt_isEmptyIn t l3) fun v2 =>
    if v2 = 0 then
      pp_sortByKeys_lp23 t k4 FU τ l2 l3 l2
    else
      pp_sortByKeys_82 t k4 τ l2 l3
def pp_sortByKeys_lp4 (t : Tb)  : Nat → Pl → Int32 → Int32 → Option (Int32 × Pl) := itF (fun _ _ _ => none) (fun k => pp_sortByKeys_4 t  k)
def pp_sortByKeys (t : Tb) (τ : Pl)  : Option (Int32 × Pl) :=
  pp_sortByKeys_lp4 t FU τ 0 0
set_option maxHeartbeats 4000000 in
set_option maxRecDepth 100000 in
theorem tX0_sortByKeys (l : Launch) (D : va_G) (ca : Nat → ClassId) (h : Nat) (pr : Nat → Nat) (wh : Nat) (ar : Nat → Nat) (sz : Nat) (t : Tb) (τ : Pl)  (r : Int32) (τ9 : Pl) (hf : pp_sortByKeys t τ = some (r, τ9)) : Ci l D ca yX0_sortByKeys wsX0_sortByKeys { frames := 1, cells := 0, slots := 0, locals := 21 } [.ref h, .ref wh] (wPk ca h pr wh ar t τ) sz r (wPk ca h pr wh ar t τ9) := by
  refine body_of (cc := cX0_sortByKeys) (maxL := 5) (ret := (some .int)) (fun A => Qi D ca r (wPk ca h pr wh ar t τ9) A) (by decide) rfl (Nat.le_of_ble_eq_true rfl) ?_
  intro p e s m below meth c A ls hx hb hr hml hts hown hlocks hA hK hP hD hS hl hN
  have hl : lv_has ls 5 [(0, .ref h), (1, .ref wh)] := hl
  have hret : ∀ (pc : Nat) (ls : Array Slot) (H : Heap) (locs : List Loc), decode cX0_sortByKeys pc = .ok (.ireturn, 1) → va_P D vwCl (wPk ca h pr wh ar t τ9) H → va_D A (wPk ca h pr wh ar t τ9) → va_S A s.heap H locs → W p l e { frames := 1, cells := 0, slots := 0, locals := 21 } s m ([.ref h, .ref wh] : List Value).toArray below meth c H locs 0 0 (MQ below (Qi D ca r (wPk ca h pr wh ar t τ9) A) ([.ref h, .ref wh] : List Value).toArray s 0 0 A) (F0 m pc ls [.int r]) := fun pc ls H locs hd hP hD hS => ret_i hx hb hr hlocks hK hP hD hS hd
  generalize MQ below (Qi D ca r (wPk ca h pr wh ar t τ9) A) ([.ref h, .ref wh] : List Value).toArray s 0 0 A = Q at hret ⊢
  generalize ([.ref h, .ref wh] : List Value).toArray = args at hts hret ⊢
  have f46 : (Cond.fieldLinkNest RX0 46 "RobinRow$Table" "slots" "I" RX4).before args s = true := va_Nw.use rfl (hN.1 (RX0, 46, "RobinRow$Table", "slots", "I") (by decide +kernel))
  have f9 := hts (.fieldLink RX0 9 "RobinRow$PlainRow" "rising" "[I") (by decide +kernel)
  have in0 : ∀ w ∈ u_ws RX0 TX0 4, w ∈ wsX0_sortByKeys := by decide +kernel
  have in3 : ∀ w ∈ u_ws RX3 TX3 6, w ∈ wsX0_sortByKeys := by decide +kernel
  have J4 : ∀ (n4 : Nat) (H : Heap) (locs : List Loc) (ls : Array Slot) (τ : Pl) (l2 : Int32) (l3 : Int32), pp_sortByKeys_lp4 t  n4 τ l2 l3 = some (r, τ9) → va_P D vwCl (wPk ca h pr wh ar t τ) H → va_D A (wPk ca h pr wh ar t τ) → va_S A s.heap H locs → lv_has ls 5 [(0, .ref h), (1, .ref wh), (2, .int l2), (3, .int l3)] → W p l e { frames := 1, cells := 0, slots := 0, locals := 21 } s m args below meth c H locs 0 0 Q (F0 m 4 ls []) := by
    intro n4
    induction n4 with
    | zero =>
      intro H locs ls τ l2 l3 hf hP hD hS hl
      exact absurd hf (fun h => by cases h)
    | succ n4 ih4 =>
      have J82 : ∀ (H : Heap) (locs : List Loc) (ls : Array Slot) (τ : Pl) (l2 : Int32) (l3 : Int32), pp_sortByKeys_82 t (pp_sortByKeys_lp4 t  n4) τ l2 l3 = some (r, τ9) → va_P D vwCl (wPk ca h pr wh ar t τ) H → va_D A (wPk ca h pr wh ar t τ) → va_S A s.heap H locs → lv_has ls 5 [(0, .ref h), (1, .ref wh), (2, .int l2), (3, .int l3)] → W p l e { frames := 1, cells := 0, slots := 0, locals := 21 } s m args below meth c H locs 0 0 Q (F0 m 82 ls []) := by
        intro H locs ls τ l2 l3 hf hP hD hS hl
        unfold pp_sortByKeys_82 at hf
        obtain ⟨v4, ev4, hf⟩ := nm_ob hf
        refine lv_iinc (v := v4) (lv' := [(3, .int v4), (0, .ref h), (1, .ref wh), (2, .int l2)]) hx hb dX0_sortByKeys_82 hl (k := 3) rfl (by rw [← ev4]; rfl) (by decide) rfl (fun ls hl => ?_)
        refine lv_goto (tgt := 4) hx hb dX0_sortByKeys_85 (by decide) ?_
        exact ih4 _ _ _ _ _ _ hf hP hD hS (lv_sub hl [1, 2, 3, 0] rfl)
      have J71 : ∀ (H : Heap) (locs : List Loc) (ls : Array Slot) (τ : Pl) (l2 : Int32) (l3 : Int32) (l4 : Int32), pp_sortByKeys_71 t (pp_sortByKeys_lp4 t  n4) τ l2 l3 l4 = some (r, τ9) → va_P D vwCl (wPk ca h pr wh ar t τ) H → va_D A (wPk ca h pr wh ar t τ) → va_S A s.heap H locs → lv_has ls 5 [(0, .ref h), (1, .ref wh), (2, .int l2), (3, .int l3), (4, .int l4)] → W p l e { frames := 1, cells := 0, slots := 0, locals := 21 } s m args below meth c H locs 0 0 Q (F0 m 71 ls []) := by
        intro H locs ls τ l2 l3 l4 hf hP hD hS hl
        unfold pp_sortByKeys_71 at hf
        refine lv_aload_n hx hb dX0_sortByKeys_71 rfl (lv_at hl 0 rfl) ?_
        refine va_get (D := D) (ci := 0) (v := .ref (pr 0)) (C := RX0) (T := TX0) (N := 4) hx hb hts in0 hown hK hP 0 rfl rfl 0 (by decide) f9 (fun _ h9 => h9) rfl dX0_sortByKeys_72 ?_
        refine lv_iload hx hb dX0_sortByKeys_75 (lv_at hl 4 rfl) ?_
        refine lv_iload_n hx hb dX0_sortByKeys_77 rfl (lv_at hl 3 rfl) ?_
        obtain ⟨g14, hf⟩ := gd_ob hf
        obtain ⟨s15, es15, hf⟩ := nm_ob hf
        refine va_iast hx hb hK hP hD hS 1 0 rfl rfl g14 dX0_sortByKeys_78 (fun H locs hP hD hS => ?_)
        have hP : va_P D vwCl (wPk ca h pr wh ar t s15) H := by rw [← es15]; exact hP
        have hD : va_D A (wPk ca h pr wh ar t s15) := by rw [← es15]; exact hD
        obtain ⟨v16, ev16, hf⟩ := nm_ob hf
        refine lv_iinc (v := v16) (lv' := [(2, .int v16), (0, .ref h), (1, .ref wh), (3, .int l3), (4, .int l4)]) hx hb dX0_sortByKeys_79 hl (k := 2) rfl (by rw [← ev16]; rfl) (by decide) rfl (fun ls hl => ?_)
        exact J82 _ _ _ _ _ _ hf hP hD hS (lv_sub hl [1, 2, 0, 3] rfl)
      have J23 : ∀ (n23 : Nat) (H : Heap) (locs : List Loc) (ls : Array Slot) (τ : Pl) (l2 : Int32) (l3 : Int32) (l4 : Int32), pp_sortByKeys_lp23 t (pp_sortByKeys_lp4 t  n4) n23 τ l2 l3 l4 = some (r, τ9) → va_P D vwCl (wPk ca h pr wh ar t τ) H → va_D A (wPk ca h pr wh ar t τ) → va_S A s.heap H locs → lv_has ls 5 [(0, .ref h), (1, .ref wh), (2, .int l2), (3, .int l3), (4, .int l4)] → W p l e { frames := 1, cells := 0, slots := 0, locals := 21 } s m args below meth c H locs 0 0 Q (F0 m 23 ls []) := by
        intro n23
        induction n23 with
        | zero =>
          intro H locs ls τ l2 l3 l4 hf hP hD hS hl
          exact absurd hf (fun h => by cases h)
        | succ n23 ih23 =>
          intro H locs ls τ l2 l3 l4 hf hP hD hS hl
          replace hf : pp_sortByKeys_23 t (pp_sortByKeys_lp4 t  n4) (pp_sortByKeys_lp23 t (pp_sortByKeys_lp4 t  n4) n23) τ l2 l3 l4 = some (r, τ9) := hf
          unfold pp_sortByKeys_23 at hf
          refine lv_iload hx hb dX0_sortByKeys_23 (lv_at hl 4 rfl) ?_
          refine lv_if_le (tgt := 71) hx hb dX0_sortByKeys_25 (by decide) (fun c5 => ?_) (fun c5 => ?_)
          · replace hf := it_p c5 hf
            exact J71 _ _ _ _ _ _ _ hf hP hD hS (lv_sub hl [0, 1, 2, 3, 4] rfl)
          · replace hf := it_n c5 hf
            refine lv_aload_n hx hb dX0_sortByKeys_28 rfl (lv_at hl 1 rfl) ?_
            refine lv_aload_n hx hb dX0_sortByKeys_29 rfl (lv_at hl 0 rfl) ?_
            refine va_get (D := D) (ci := 0) (v := .ref (pr 0)) (C := RX0) (T := TX0) (N := 4) hx hb hts in0 hown hK hP 0 rfl rfl 0 (by decide) f9 (fun _ h9 => h9) rfl dX0_sortByKeys_30 ?_
            refine lv_iload hx hb dX0_sortByKeys_33 (lv_at hl 4 rfl) ?_
            refine lv_iconst (v := 1) hx hb dX0_sortByKeys_35 (by decide) ?_
            refine lv_isub hx hb dX0_sortByKeys_36 ?_
            obtain ⟨g6, hf⟩ := gd_ob hf
            refine va_iald hx hb hK hP 1 0 rfl rfl g6 dX0_sortByKeys_37 ?_
            obtain ⟨v7, ev7, hf⟩ := bd_ob hf
            refine call_i (As := [.int (pl_rising τ (l4 - 1).toNatClampNeg)]) (rest := []) ⟨hx, hb, hml, hown, hts⟩ (tX3_keyIn l D ca wh ar _ t (pl_rising τ (l4 - 1).toNatClampNeg) v7 ev7) (cwV 1 hts gX0_sortByKeys_X3_keyIn rfl rfl rfl (by decide +kernel) ⟨Nat.le_of_ble_eq_true rfl, Nat.le_of_ble_eq_true rfl⟩) hN hK hP hD hA hS (fr_PT ca h pr wh ar t _) rfl rfl rfl hl.1 rfl (lv_room (Nat.le_of_ble_eq_true rfl)) dX0_sortByKeys_38 ⟨Nat.le_refl _, Nat.le_refl _⟩ (fun H locs hP hD hS => ?_)
            refine lv_aload_n hx hb dX0_sortByKeys_41 rfl (lv_at hl 1 rfl) ?_
            refine lv_iload_n hx hb dX0_sortByKeys_42 rfl (lv_at hl 3 rfl) ?_
            obtain ⟨v8, ev8, hf⟩ := bd_ob hf
            refine call_i (As := [.int l3]) (rest := [.int v7]) ⟨hx, hb, hml, hown, hts⟩ (tX3_keyIn l D ca wh ar _ t l3 v8 ev8) (cwV 1 hts gX0_sortByKeys_X3_keyIn rfl rfl rfl (by decide +kernel) ⟨Nat.le_of_ble_eq_true rfl, Nat.le_of_ble_eq_true rfl⟩) hN hK hP hD hA hS (fr_PT ca h pr wh ar t _) rfl rfl rfl hl.1 rfl (lv_room (Nat.le_of_ble_eq_true rfl)) dX0_sortByKeys_43 ⟨Nat.le_refl _, Nat.le_refl _⟩ (fun H locs hP hD hS => ?_)
            refine lv_icmp_le (tgt := 71) hx hb dX0_sortByKeys_46 (by decide) (fun c9 => ?_) (fun c9 => ?_)
            · replace hf := it_p c9 hf
              exact J71 _ _ _ _ _ _ _ hf hP hD hS (lv_sub hl [0, 1, 2, 3, 4] rfl)
            · replace hf := it_n c9 hf
              refine lv_aload_n hx hb dX0_sortByKeys_49 rfl (lv_at hl 0 rfl) ?_
              refine va_get (D := D) (ci := 0) (v := .ref (pr 0)) (C := RX0) (T := TX0) (N := 4) hx hb hts in0 hown hK hP 0 rfl rfl 0 (by decide) f9 (fun _ h9 => h9) rfl dX0_sortByKeys_50 ?_
              refine lv_iload hx hb dX0_sortByKeys_53 (lv_at hl 4 rfl) ?_
              refine lv_aload_n hx hb dX0_sortByKeys_55 rfl (lv_at hl 0 rfl) ?_
              refine va_get (D := D) (ci := 0) (v := .ref (pr 0)) (C := RX0) (T := TX0) (N := 4) hx hb hts in0 hown hK hP 0 rfl rfl 0 (by decide) f9 (fun _ h9 => h9) rfl dX0_sortByKeys_56 ?_
              refine lv_iload hx hb dX0_sortByKeys_59 (lv_at hl 4 rfl) ?_
              refine lv_iconst (v := 1) hx hb dX0_sortByKeys_61 (by decide) ?_
              refine lv_isub hx hb dX0_sortByKeys_62 ?_
              obtain ⟨g10, hf⟩ := gd_ob hf
              refine va_iald hx hb hK hP 1 0 rfl rfl g10 dX0_sortByKeys_63 ?_
              obtain ⟨g11, hf⟩ := gd_ob hf
              obtain ⟨s12, es12, hf⟩ := nm_ob hf
              refine va_iast hx hb hK hP hD hS 1 0 rfl rfl g11 dX0_sortByKeys_64 (fun H locs hP hD hS => ?_)
              have hP : va_P D vwCl (wPk ca h pr wh ar t s12) H := by rw [← es12]; exact hP
              have hD : va_D A (wPk ca h pr wh ar t s12) := by rw [← es12]; exact hD
              obtain ⟨v13, ev13, hf⟩ := nm_ob hf
              refine lv_iinc (v := v13) (lv' := [(4, .int v13), (0, .ref h), (1, .ref wh), (2, .int l2), (3, .int l3)]) hx hb dX0_sortByKeys_65 hl (k := 4) rfl (by rw [← ev13]; rfl) (by decide) rfl (fun ls hl => ?_)
              refine lv_goto (tgt := 23) hx hb dX0_sortByKeys_68 (by decide) ?_
              exact ih23 _ _ _ _ _ _ _ hf hP hD hS (lv_sub hl [1, 2, 3, 4, 0] rfl)
      intro H locs ls τ l2 l3 hf hP hD hS hl
      replace hf : pp_sortByKeys_4 t  (pp_sortByKeys_lp4 t  n4) τ l2 l3 = some (r, τ9) := hf
      unfold pp_sortByKeys_4 at hf
      refine lv_iload_n hx hb dX0_sortByKeys_4 rfl (lv_at hl 3 rfl) ?_
      refine lv_aload_n hx hb dX0_sortByKeys_5 rfl (lv_at hl 1 rfl) ?_
      refine va_getN (D := D) (ci := 3) (v := .int (tb_sl t)) (C := RX3) (T := TX3) (N := 6) hx hb hts in3 hown hK hP 3 rfl rfl 4 (by decide) f46 (fun _ h9 => h9) rfl dX0_sortByKeys_6 ?_
      refine lv_icmp_ge (tgt := 88) hx hb dX0_sortByKeys_9 (by decide) (fun c1 => ?_) (fun c1 => ?_)
      · replace hf := it_p c1 hf
        refine lv_iload_n hx hb dX0_sortByKeys_88 rfl (lv_at hl 2 rfl) ?_
        obtain ⟨rfl, rfl⟩ := so2 hf
        exact hret _ _ _ _ dX0_sortByKeys_89 hP hD hS
      · replace hf := it_n c1 hf
        refine lv_aload_n hx hb dX0_sortByKeys_12 rfl (lv_at hl 1 rfl) ?_
        refine lv_iload_n hx hb dX0_sortByKeys_13 rfl (lv_at hl 3 rfl) ?_
        obtain ⟨v2, ev2, hf⟩ := bd_ob hf
        refine call_i (As := [.int l3]) (rest := []) ⟨hx, hb, hml, hown, hts⟩ (tX3_isEmptyIn l D ca wh ar _ t l3 v2 ev2) (cwV 1 hts gX0_sortByKeys_X3_isEmptyIn rfl rfl rfl (by decide +kernel) ⟨Nat.le_of_ble_eq_true rfl, Nat.le_of_ble_eq_true rfl⟩) hN hK hP hD hA hS (fr_PT ca h pr wh ar t _) rfl rfl rfl hl.1 rfl (lv_room (Nat.le_of_ble_eq_true rfl)) dX0_sortByKeys_14 ⟨Nat.le_refl _, Nat.le_refl _⟩ (fun H locs hP hD hS => ?_)
        refine lv_if_ne (tgt := 82) hx hb dX0_sortByKeys_17 (by decide) (fun c3 => ?_) (fun c3 => ?_)
        · replace hf := it_n c3 hf
          exact J82 _ _ _ _ _ _ hf hP hD hS (lv_sub hl [0, 1, 2, 3] rfl)
        · replace hf := it_p c3 hf
          refine lv_iload_n hx hb dX0_sortByKeys_20 rfl (lv_at hl 2 rfl) ?_
          refine lv_istore (lv' := [(4, .int l2), (0, .ref h), (1, .ref wh), (2, .int l2), (3, .int l3)]) hx hb dX0_sortByKeys_21 hl (by decide) rfl (fun ls hl => ?_)
          exact J23 FU _ _ _ _ _ _ _ hf hP hD hS (lv_sub hl [1, 2, 3, 4, 0] rfl)
  unfold pp_sortByKeys at hf
  refine lv_iconst (v := 0) hx hb dX0_sortByKeys_0 (by decide) ?_
  refine lv_istore_n (lv' := [(2, .int 0), (0, .ref h), (1, .ref wh)]) hx hb dX0_sortByKeys_1 rfl hl (by decide) rfl (fun ls hl => ?_)
  refine lv_iconst (v := 0) hx hb dX0_sortByKeys_2 (by decide) ?_
  refine lv_istore_n (lv' := [(3, .int 0), (2, .int 0), (0, .ref h), (1, .ref wh)]) hx hb dX0_sortByKeys_3 rfl hl (by decide) rfl (fun ls hl => ?_)
  exact J4 FU _ _ _ _ _ _ hf hP hD hS (lv_sub hl [2, 3, 1, 0] rfl)

def pp_takeFirstFree_31 (t : Tb)  (τ : Pl) (l2 : Int32) (l3 : Int32) : Option (Int32 × Pl) :=
  bd (tt_around t (l2 + l3)) fun v6 =>
  gd v6 256 <|
  nm (pl_taken' τ (upd (pl_taken τ) v6.toNatClampNeg 1)) fun s8 =>
  some (l3, s8)
def pp_takeFirstFree_2 (t : Tb) (k2 : Pl → Int32 → Int32 → Option (Int32 × Pl)) (τ : Pl) (l2 : Int32) (l3 : Int32) : Option (Int32 × Pl) :=
  if (tb_sl t) ≤ l3 then
    pp_takeFirstFree_31 t τ l2 l3
  else
    bd (tt_around t (l2 + l3)) fun v2 =>
    gd v2 256 <|
    if (pl_taken τ v2.toNatClampNeg) = 0 then
      pp_takeFirstFree_31 t τ l2 l3
    else
      nm (l3 + 1) fun v5 =>
      k2 τ l2 v5
def pp_takeFirstFree_lp2 (t : Tb)  : Nat → Pl → Int32 → Int32 → Option (Int32 × Pl) := itF (fun _ _ _ => none) (fun k => pp_takeFirstFree_2 t  k)
def pp_takeFirstFree (t : Tb) (τ : Pl) (a1 : Int32) : Option (Int32 × Pl) :=
  pp_takeFirstFree_lp2 t FU τ a1 0
set_option maxHeartbeats 4000000 in
set_option maxRecDepth 100000 in
theorem tX0_takeFirstFree (l : Launch) (D : va_G) (ca : Nat → ClassId) (h : Nat) (pr : Nat → Nat) (wh : Nat) (ar : Nat → Nat) (sz : Nat) (t : Tb) (τ : Pl) (a1 : Int32) (r : Int32) (τ9 : Pl) (hf : pp_takeFirstFree t τ a1 = some (r, τ9)) : Ci l D ca yX0_takeFirstFree wsX0_takeFirstFree { frames := 1, cells := 0, slots := 0, locals := 21 } [.ref h, .ref wh, .int a1] (wPk ca h pr wh ar t τ) sz r (wPk ca h pr wh ar t τ9) := by
  refine body_of (cc := cX0_takeFirstFree) (maxL := 4) (ret := (some .int)) (fun A => Qi D ca r (wPk ca h pr wh ar t τ9) A) (by decide) rfl (Nat.le_of_ble_eq_true rfl) ?_
  intro p e s m below meth c A ls hx hb hr hml hts hown hlocks hA hK hP hD hS hl hN
  have hl : lv_has ls 4 [(0, .ref h), (1, .ref wh), (2, .int a1)] := hl
  have hret : ∀ (pc : Nat) (ls : Array Slot) (H : Heap) (locs : List Loc), decode cX0_takeFirstFree pc = .ok (.ireturn, 1) → va_P D vwCl (wPk ca h pr wh ar t τ9) H → va_D A (wPk ca h pr wh ar t τ9) → va_S A s.heap H locs → W p l e { frames := 1, cells := 0, slots := 0, locals := 21 } s m ([.ref h, .ref wh, .int a1] : List Value).toArray below meth c H locs 0 0 (MQ below (Qi D ca r (wPk ca h pr wh ar t τ9) A) ([.ref h, .ref wh, .int a1] : List Value).toArray s 0 0 A) (F0 m pc ls [.int r]) := fun pc ls H locs hd hP hD hS => ret_i hx hb hr hlocks hK hP hD hS hd
  generalize MQ below (Qi D ca r (wPk ca h pr wh ar t τ9) A) ([.ref h, .ref wh, .int a1] : List Value).toArray s 0 0 A = Q at hret ⊢
  generalize ([.ref h, .ref wh, .int a1] : List Value).toArray = args at hts hret ⊢
  have f15 := hts (.fieldLink RX0 15 "RobinRow$PlainRow" "taken" "[Z") (by decide +kernel)
  have f46 : (Cond.fieldLinkNest RX0 46 "RobinRow$Table" "slots" "I" RX4).before args s = true := va_Nw.use rfl (hN.1 (RX0, 46, "RobinRow$Table", "slots", "I") (by decide +kernel))
  have in0 : ∀ w ∈ u_ws RX0 TX0 4, w ∈ wsX0_takeFirstFree := by decide +kernel
  have in3 : ∀ w ∈ u_ws RX3 TX3 6, w ∈ wsX0_takeFirstFree := by decide +kernel
  have J31 : ∀ (H : Heap) (locs : List Loc) (ls : Array Slot) (τ : Pl) (l2 : Int32) (l3 : Int32), pp_takeFirstFree_31 t  τ l2 l3 = some (r, τ9) → va_P D vwCl (wPk ca h pr wh ar t τ) H → va_D A (wPk ca h pr wh ar t τ) → va_S A s.heap H locs → lv_has ls 4 [(0, .ref h), (1, .ref wh), (2, .int l2), (3, .int l3)] → W p l e { frames := 1, cells := 0, slots := 0, locals := 21 } s m args below meth c H locs 0 0 Q (F0 m 31 ls []) := by
    intro H locs ls τ l2 l3 hf hP hD hS hl
    unfold pp_takeFirstFree_31 at hf
    refine lv_aload_n hx hb dX0_takeFirstFree_31 rfl (lv_at hl 0 rfl) ?_
    refine va_get (D := D) (ci := 0) (v := .ref (pr 1)) (C := RX0) (T := TX0) (N := 4) hx hb hts in0 hown hK hP 0 rfl rfl 1 (by decide) f15 (fun _ h9 => h9) rfl dX0_takeFirstFree_32 ?_
    refine lv_aload_n hx hb dX0_takeFirstFree_35 rfl (lv_at hl 1 rfl) ?_
    refine lv_iload_n hx hb dX0_takeFirstFree_36 rfl (lv_at hl 2 rfl) ?_
    refine lv_iload_n hx hb dX0_takeFirstFree_37 rfl (lv_at hl 3 rfl) ?_
    refine lv_iadd hx hb dX0_takeFirstFree_38 ?_
    obtain ⟨v6, ev6, hf⟩ := bd_ob hf
    refine call_i (As := [.int (l2 + l3)]) (rest := [.ref (pr 1)]) ⟨hx, hb, hml, hown, hts⟩ (tX3_around l D ca wh ar _ t (l2 + l3) v6 ev6) (cwV 1 hts gX0_takeFirstFree_X3_around rfl rfl rfl (by decide +kernel) ⟨Nat.le_of_ble_eq_true rfl, Nat.le_of_ble_eq_true rfl⟩) hN hK hP hD hA hS (fr_PT ca h pr wh ar t _) rfl rfl rfl hl.1 rfl (lv_room (Nat.le_of_ble_eq_true rfl)) dX0_takeFirstFree_39 ⟨Nat.le_refl _, Nat.le_refl _⟩ (fun H locs hP hD hS => ?_)
    refine lv_iconst (v := 1) hx hb dX0_takeFirstFree_42 (by decide) ?_
    obtain ⟨g7, hf⟩ := gd_ob hf
    obtain ⟨s8, es8, hf⟩ := nm_ob hf
    refine va_zast hx hb hK hP hD hS 2 2 rfl rfl g7 dX0_takeFirstFree_43 (fun H locs hP hD hS => ?_)
    have hP : va_P D vwCl (wPk ca h pr wh ar t s8) H := by rw [← es8]; exact hP
    have hD : va_D A (wPk ca h pr wh ar t s8) := by rw [← es8]; exact hD
    refine lv_iload_n hx hb dX0_takeFirstFree_44 rfl (lv_at hl 3 rfl) ?_
    obtain ⟨rfl, rfl⟩ := so2 hf
    exact hret _ _ _ _ dX0_takeFirstFree_45 hP hD hS
  have J2 : ∀ (n2 : Nat) (H : Heap) (locs : List Loc) (ls : Array Slot) (τ : Pl) (l2 : Int32) (l3 : Int32), pp_takeFirstFree_lp2 t  n2 τ l2 l3 = some (r, τ9) → va_P D vwCl (wPk ca h pr wh ar t τ) H → va_D A (wPk ca h pr wh ar t τ) → va_S A s.heap H locs → lv_has ls 4 [(0, .ref h), (1, .ref wh), (2, .int l2), (3, .int l3)] → W p l e { frames := 1, cells := 0, slots := 0, locals := 21 } s m args below meth c H locs 0 0 Q (F0 m 2 ls []) := by
    intro n2
    induction n2 with
    | zero =>
      intro H locs ls τ l2 l3 hf hP hD hS hl
      exact absurd hf (fun h => by cases h)
    | succ n2 ih2 =>
      intro H locs ls τ l2 l3 hf hP hD hS hl
      replace hf : pp_takeFirstFree_2 t  (pp_takeFirstFree_lp2 t  n2) τ l2 l3 = some (r, τ9) := hf
      unfold pp_takeFirstFree_2 at hf
      refine lv_iload_n hx hb dX0_takeFirstFree_2 rfl (lv_at hl 3 rfl) ?_
      refine lv_aload_n hx hb dX0_takeFirstFree_3 rfl (lv_at hl 1 rfl) ?_
      refine va_getN (D := D) (ci := 3) (v := .int (tb_sl t)) (C := RX3) (T := TX3) (N := 6) hx hb hts in3 hown hK hP 3 rfl rfl 4 (by decide) f46 (fun _ h9 => h9) rfl dX0_takeFirstFree_4 ?_
      refine lv_icmp_ge (tgt := 31) hx hb dX0_takeFirstFree_7 (by decide) (fun c1 => ?_) (fun c1 => ?_)
      · replace hf := it_p c1 hf
        exact J31 _ _ _ _ _ _ hf hP hD hS (lv_sub hl [0, 1, 2, 3] rfl)
      · replace hf := it_n c1 hf
        refine lv_aload_n hx hb dX0_takeFirstFree_10 rfl (lv_at hl 0 rfl) ?_
        refine va_get (D := D) (ci := 0) (v := .ref (pr 1)) (C := RX0) (T := TX0) (N := 4) hx hb hts in0 hown hK hP 0 rfl rfl 1 (by decide) f15 (fun _ h9 => h9) rfl dX0_takeFirstFree_11 ?_
        refine lv_aload_n hx hb dX0_takeFirstFree_14 rfl (lv_at hl 1 rfl) ?_
        refine lv_iload_n hx hb dX0_takeFirstFree_15 rfl (lv_at hl 2 rfl) ?_
        refine lv_iload_n hx hb dX0_takeFirstFree_16 rfl (lv_at hl 3 rfl) ?_
        refine lv_iadd hx hb dX0_takeFirstFree_17 ?_
        obtain ⟨v2, ev2, hf⟩ := bd_ob hf
        refine call_i (As := [.int (l2 + l3)]) (rest := [.ref (pr 1)]) ⟨hx, hb, hml, hown, hts⟩ (tX3_around l D ca wh ar _ t (l2 + l3) v2 ev2) (cwV 1 hts gX0_takeFirstFree_X3_around rfl rfl rfl (by decide +kernel) ⟨Nat.le_of_ble_eq_true rfl, Nat.le_of_ble_eq_true rfl⟩) hN hK hP hD hA hS (fr_PT ca h pr wh ar t _) rfl rfl rfl hl.1 rfl (lv_room (Nat.le_of_ble_eq_true rfl)) dX0_takeFirstFree_18 ⟨Nat.le_refl _, Nat.le_refl _⟩ (fun H locs hP hD hS => ?_)
        obtain ⟨g3, hf⟩ := gd_ob hf
        refine va_zald hx hb hK hP 2 2 rfl rfl g3 dX0_takeFirstFree_21 ?_
        refine lv_if_eq (tgt := 31) hx hb dX0_takeFirstFree_22 (by decide) (fun c4 => ?_) (fun c4 => ?_)
        · replace hf := it_p c4 hf
          exact J31 _ _ _ _ _ _ hf hP hD hS (lv_sub hl [0, 1, 2, 3] rfl)
        · replace hf := it_n c4 hf
          obtain ⟨v5, ev5, hf⟩ := nm_ob hf
          refine lv_iinc (v := v5) (lv' := [(3, .int v5), (0, .ref h), (1, .ref wh), (2, .int l2)]) hx hb dX0_takeFirstFree_25 hl (k := 3) rfl (by rw [← ev5]; rfl) (by decide) rfl (fun ls hl => ?_)
          refine lv_goto (tgt := 2) hx hb dX0_takeFirstFree_28 (by decide) ?_
          exact ih2 _ _ _ _ _ _ hf hP hD hS (lv_sub hl [1, 2, 3, 0] rfl)
  unfold pp_takeFirstFree at hf
  refine lv_iconst (v := 0) hx hb dX0_takeFirstFree_0 (by decide) ?_
  refine lv_istore_n (lv' := [(3, .int 0), (0, .ref h), (1, .ref wh), (2, .int a1)]) hx hb dX0_takeFirstFree_1 rfl hl (by decide) rfl (fun ls hl => ?_)
  exact J2 FU _ _ _ _ _ _ hf hP hD hS (lv_sub hl [1, 2, 3, 0] rfl)

def pp_fillFrom_40 (t : Tb) (k40 : Pl → Int32 → Int32 → Option Pl) (τ : Pl) (l2 : Int32) (l3 : Int32) : Option Pl :=
  if l2 ≤ l3 then
    some τ
  else
    gd l3 256 <|
    bd (tt_hashIn t (pl_rising τ l3.toNatClampNeg)) fun v11 =>
    bd2 (pp_takeFirstFree t τ v11) fun v12 s13 =>
    nm (pl_total' s13 ((pl_total s13) + v12)) fun s14 =>
    nm (pl_longest' s14 (if (pl_longest s14) < v12 then v12 else (pl_longest s14))) fun s15 =>
    nm (l3 + 1) fun v16 =>
    k40 s15 l2 v16
def pp_fillFrom_lp40 (t : Tb)  : Nat → Pl → Int32 → Int32 → Option Pl := itF (fun _ _ _ => none) (fun k => pp_fillFrom_40 t  k)
def pp_fillFrom_12 (t : Tb) (k12 : Pl → Int32 → Option Pl) (τ : Pl) (l2 : Int32) : Option Pl :=
  if 256 ≤ l2 then
    bd2 (pp_sortByKeys t τ) fun v4 s5 =>
    pp_fillFrom_lp40 t FU s5 v4 0
  else
    gd l2 256 <|
    nm (pl_taken' τ (upd (pl_taken τ) l2.toNatClampNeg 0)) fun s7 =>
    nm (l2 + 1) fun v8 =>
    k12 s7 v8
def pp_fillFrom_lp12 (t : Tb)  : Nat → Pl → Int32 → Option Pl := itF (fun _ _ => none) (fun k => pp_fillFrom_12 t  k)
def pp_fillFrom (t : Tb) (τ : Pl)  : Option Pl :=
  nm (pl_total' τ 0) fun s1 =>
  nm (pl_longest' s1 (-1)) fun s2 =>
  pp_fillFrom_lp12 t FU s2 0
set_option maxHeartbeats 4000000 in
set_option maxRecDepth 100000 in
theorem tX0_fillFrom (l : Launch) (D : va_G) (ca : Nat → ClassId) (h : Nat) (pr : Nat → Nat) (wh : Nat) (ar : Nat → Nat) (sz : Nat) (t : Tb) (τ : Pl)  (τ9 : Pl) (hf : pp_fillFrom t τ = some τ9) : Cv l D ca yX0_fillFrom wsX0_fillFrom { frames := 2, cells := 0, slots := 0, locals := 45 } [.ref h, .ref wh] (wPk ca h pr wh ar t τ) sz (wPk ca h pr wh ar t τ9) := by
  refine body_of (cc := cX0_fillFrom) (maxL := 5) (ret := none) (fun A => Qv D ca (wPk ca h pr wh ar t τ9) A) (by decide) rfl (Nat.le_of_ble_eq_true rfl) ?_
  intro p e s m below meth c A ls hx hb hr hml hts hown hlocks hA hK hP hD hS hl hN
  have hl : lv_has ls 5 [(0, .ref h), (1, .ref wh)] := hl
  have hret : ∀ (pc : Nat) (ls : Array Slot) (H : Heap) (locs : List Loc), decode cX0_fillFrom pc = .ok (.return_, 1) → va_P D vwCl (wPk ca h pr wh ar t τ9) H → va_D A (wPk ca h pr wh ar t τ9) → va_S A s.heap H locs → W p l e { frames := 2, cells := 0, slots := 0, locals := 45 } s m ([.ref h, .ref wh] : List Value).toArray below meth c H locs 0 0 (MQ below (Qv D ca (wPk ca h pr wh ar t τ9) A) ([.ref h, .ref wh] : List Value).toArray s 0 0 A) (F0 m pc ls []) := fun pc ls H locs hd hP hD hS => ret_v hx hb hr hlocks hK hP hD hS hd
  generalize MQ below (Qv D ca (wPk ca h pr wh ar t τ9) A) ([.ref h, .ref wh] : List Value).toArray s 0 0 A = Q at hret ⊢
  generalize ([.ref h, .ref wh] : List Value).toArray = args at hts hret ⊢
  have f15 := hts (.fieldLink RX0 15 "RobinRow$PlainRow" "taken" "[Z") (by decide +kernel)
  have f19 := hts (.fieldLink RX0 19 "RobinRow$PlainRow" "total" "I") (by decide +kernel)
  have f23 := hts (.fieldLink RX0 23 "RobinRow$PlainRow" "longest" "I") (by decide +kernel)
  have f9 := hts (.fieldLink RX0 9 "RobinRow$PlainRow" "rising" "[I") (by decide +kernel)
  have in0 : ∀ w ∈ u_ws RX0 TX0 4, w ∈ wsX0_fillFrom := by decide +kernel
  have J40 : ∀ (n40 : Nat) (H : Heap) (locs : List Loc) (ls : Array Slot) (τ : Pl) (l2 : Int32) (l3 : Int32), pp_fillFrom_lp40 t  n40 τ l2 l3 = some τ9 → va_P D vwCl (wPk ca h pr wh ar t τ) H → va_D A (wPk ca h pr wh ar t τ) → va_S A s.heap H locs → lv_has ls 5 [(0, .ref h), (1, .ref wh), (2, .int l2), (3, .int l3)] → W p l e { frames := 2, cells := 0, slots := 0, locals := 45 } s m args below meth c H locs 0 0 Q (F0 m 40 ls []) := by
    intro n40
    induction n40 with
    | zero =>
      intro H locs ls τ l2 l3 hf hP hD hS hl
      exact absurd hf (fun h => by cases h)
    | succ n40 ih40 =>
      intro H locs ls τ l2 l3 hf hP hD hS hl
      replace hf : pp_fillFrom_40 t  (pp_fillFrom_lp40 t  n40) τ l2 l3 = some τ9 := hf
      unfold pp_fillFrom_40 at hf
      refine lv_iload_n hx hb dX0_fillFrom_40 rfl (lv_at hl 3 rfl) ?_
      refine lv_iload_n hx hb dX0_fillFrom_41 rfl (lv_at hl 2 rfl) ?_
      refine lv_icmp_ge (tgt := 92) hx hb dX0_fillFrom_42 (by decide) (fun c9 => ?_) (fun c9 => ?_)
      · replace hf := it_p c9 hf
        obtain rfl := so1 hf
        exact hret _ _ _ _ dX0_fillFrom_92 hP hD hS
      · replace hf := it_n c9 hf
        refine lv_aload_n hx hb dX0_fillFrom_45 rfl (lv_at hl 0 rfl) ?_
        refine lv_aload_n hx hb dX0_fillFrom_46 rfl (lv_at hl 1 rfl) ?_
        refine lv_aload_n hx hb dX0_fillFrom_47 rfl (lv_at hl 1 rfl) ?_
        refine lv_aload_n hx hb dX0_fillFrom_48 rfl (lv_at hl 0 rfl) ?_
        refine va_get (D := D) (ci := 0) (v := .ref (pr 0)) (C := RX0) (T := TX0) (N := 4) hx hb hts in0 hown hK hP 0 rfl rfl 0 (by decide) f9 (fun _ h9 => h9) rfl dX0_fillFrom_49 ?_
        refine lv_iload_n hx hb dX0_fillFrom_52 rfl (lv_at hl 3 rfl) ?_
        obtain ⟨g10, hf⟩ := gd_ob hf
        refine va_iald hx hb hK hP 1 0 rfl rfl g10 dX0_fillFrom_53 ?_
        obtain ⟨v11, ev11, hf⟩ := bd_ob hf
        refine call_i (As := [.int (pl_rising τ l3.toNatClampNeg)]) (rest := [.ref wh, .ref h]) ⟨hx, hb, hml, hown, hts⟩ (tX3_hashIn l D ca wh ar _ t (pl_rising τ l3.toNatClampNeg) v11 ev11) (cwV 1 hts gX0_fillFrom_X3_hashIn rfl rfl rfl (by decide +kernel) ⟨Nat.le_of_ble_eq_true rfl, Nat.le_of_ble_eq_true rfl⟩) hN hK hP hD hA hS (fr_PT ca h pr wh ar t _) rfl rfl rfl hl.1 rfl (lv_room (Nat.le_of_ble_eq_true rfl)) dX0_fillFrom_54 ⟨Nat.le_refl _, Nat.le_refl _⟩ (fun H locs hP hD hS => ?_)
        obtain ⟨v12, s13, ev12, hf⟩ := bd2_ob hf
        refine call_i (As := [.ref wh, .int v11]) (rest := []) ⟨hx, hb, hml, hown, hts⟩ (tX0_takeFirstFree l D ca h pr wh ar _ t τ v11 v12 s13 ev12) (cwV 2 hts gX0_fillFrom_X0_takeFirstFree rfl rfl rfl (by decide +kernel) ⟨Nat.le_of_ble_eq_true rfl, Nat.le_of_ble_eq_true rfl⟩) hN hK hP hD hA hS (fr_id _ _) rfl rfl rfl hl.1 rfl (lv_room (Nat.le_of_ble_eq_true rfl)) dX0_fillFrom_57 ⟨Nat.le_refl _, Nat.le_refl _⟩ (fun H locs hP hD hS => ?_)
        refine lv_istore (lv' := [(4, .int v12), (0, .ref h), (1, .ref wh), (2, .int l2), (3, .int l3)]) hx hb dX0_fillFrom_60 hl (by decide) rfl (fun ls hl => ?_)
        refine lv_aload_n hx hb dX0_fillFrom_62 rfl (lv_at hl 1 rfl) ?_
        refine lv_dup hx hb dX0_fillFrom_63 rfl ?_
        refine va_get (D := D) (ci := 0) (v := .int (pl_total s13)) (C := RX0) (T := TX0) (N := 4) hx hb hts in0 hown hK hP 0 rfl rfl 2 (by decide) f19 (fun _ h9 => h9) rfl dX0_fillFrom_64 ?_
        refine lv_iload hx hb dX0_fillFrom_67 (lv_at hl 0 rfl) ?_
        refine lv_iadd hx hb dX0_fillFrom_69 ?_
        obtain ⟨s14, es14, hf⟩ := nm_ob hf
        refine va_put (D := D) (ci := 0) (v := .int ((pl_total s13) + v12)) (ty := .int) (C := RX0) (T := TX0) (N := 4) hx hb hts in0 tyX0 tyX0_ok nmX0 hown hK hP hD hS 0 rfl rfl 2 (by decide) f19 (fun _ h9 => h9) rfl (by decide +kernel) rfl rfl (Nat.le_of_ble_eq_true rfl) dX0_fillFrom_70 (fun H locs hP hD hS => ?_)
        have hP : va_P D vwCl (wPk ca h pr wh ar t s14) H := by rw [← es14]; exact hP
        have hD : va_D A (wPk ca h pr wh ar t s14) := by rw [← es14]; exact hD
        refine lv_aload_n hx hb dX0_fillFrom_73 rfl (lv_at hl 1 rfl) ?_
        refine lv_aload_n hx hb dX0_fillFrom_74 rfl (lv_at hl 1 rfl) ?_
        refine va_get (D := D) (ci := 0) (v := .int (pl_longest s14)) (C := RX0) (T := TX0) (N := 4) hx hb hts in0 hown hK hP 0 rfl rfl 3 (by decide) f23 (fun _ h9 => h9) rfl dX0_fillFrom_75 ?_
        refine lv_iload hx hb dX0_fillFrom_78 (lv_at hl 0 rfl) ?_
        refine va_mmax hx hb (hml.trans hl.1.symm) hown (hts (.methodLink RX0 40 Lib.Math.max.name) (by decide +kernel)) (hts (.static Lib.Math.max.name) (by decide +kernel)) (hts (.initialized "java/lang/Math") (by decide +kernel)) (hts (.code Lib.Math.max.name Lib.Math.max.code 2 (some .int)) (by decide +kernel)) (Nat.le_of_ble_eq_true rfl) (Nat.le_of_ble_eq_true rfl) (Nat.zero_le _) (Nat.zero_le _) dX0_fillFrom_80 ?_
        obtain ⟨s15, es15, hf⟩ := nm_ob hf
        refine va_put (D := D) (ci := 0) (v := .int (if (pl_longest s14) < v12 then v12 else (pl_longest s14))) (ty := .int) (C := RX0) (T := TX0) (N := 4) hx hb hts in0 tyX0 tyX0_ok nmX0 hown hK hP hD hS 0 rfl rfl 3 (by decide) f23 (fun _ h9 => h9) rfl (by decide +kernel) rfl rfl (Nat.le_of_ble_eq_true rfl) dX0_fillFrom_83 (fun H locs hP hD hS => ?_)
        have hP : va_P D vwCl (wPk ca h pr wh ar t s15) H := by rw [← es15]; exact hP
        have hD : va_D A (wPk ca h pr wh ar t s15) := by rw [← es15]; exact hD
        obtain ⟨v16, ev16, hf⟩ := nm_ob hf
        refine lv_iinc (v := v16) (lv' := [(3, .int v16), (4, .int v12), (0, .ref h), (1, .ref wh), (2, .int l2)]) hx hb dX0_fillFrom_86 hl (k := 4) rfl (by rw [← ev16]; rfl) (by decide) rfl (fun ls hl => ?_)
        refine lv_goto (tgt := 40) hx hb dX0_fillFrom_89 (by decide) ?_
        exact ih40 _ _ _ _ _ _ hf hP hD hS (lv_sub hl [2, 3, 4, 0] rfl)
  have J12 : ∀ (n12 : Nat) (H : Heap) (locs : List Loc) (ls : Array Slot) (τ : Pl) (l2 : Int32), pp_fillFrom_lp12 t  n12 τ l2 = some τ9 → va_P D vwCl (wPk ca h pr wh ar t τ) H → va_D A (wPk ca h pr wh ar t τ) → va_S A s.heap H locs → lv_has ls 5 [(0, .ref h), (1, .ref wh), (2, .int l2)] → W p l e { frames := 2, cells := 0, slots := 0, locals := 45 } s m args below meth c H locs 0 0 Q (F0 m 12 ls []) := by
    intro n12
    induction n12 with
    | zero =>
      intro H locs ls τ l2 hf hP hD hS hl
      exact absurd hf (fun h => by cases h)
    | succ n12 ih12 =>
      intro H locs ls τ l2 hf hP hD hS hl
      replace hf : pp_fillFrom_12 t  (pp_fillFrom_lp12 t  n12) τ l2 = some τ9 := hf
      unfold pp_fillFrom_12 at hf
      refine lv_iload_n hx hb dX0_fillFrom_12 rfl (lv_at hl 2 rfl) ?_
      refine lv_sipush (v := 256) hx hb dX0_fillFrom_13 (by decide) ?_
      refine lv_icmp_ge (tgt := 32) hx hb dX0_fillFrom_16 (by decide) (fun c3 => ?_) (fun c3 => ?_)
      · replace hf := it_p c3 hf
        refine lv_aload_n hx hb dX0_fillFrom_32 rfl (lv_at hl 0 rfl) ?_
        refine lv_aload_n hx hb dX0_fillFrom_33 rfl (lv_at hl 1 rfl) ?_
        obtain ⟨v4, s5, ev4, hf⟩ := bd2_ob hf
        refine call_i (As := [.ref wh]) (rest := []) ⟨hx, hb, hml, hown, hts⟩ (tX0_sortByKeys l D ca h pr wh ar _ t τ v4 s5 ev4) (cwV 1 hts gX0_fillFrom_X0_sortByKeys rfl rfl rfl (by decide +kernel) ⟨Nat.le_of_ble_eq_true rfl, Nat.le_of_ble_eq_true rfl⟩) hN hK hP hD hA hS (fr_id _ _) rfl rfl rfl hl.1 rfl (lv_room (Nat.le_of_ble_eq_true rfl)) dX0_fillFrom_34 ⟨Nat.le_refl _, Nat.le_refl _⟩ (fun H locs hP hD hS => ?_)
        refine lv_istore_n (lv' := [(2, .int v4), (0, .ref h), (1, .ref wh)]) hx hb dX0_fillFrom_37 rfl hl (by decide) rfl (fun ls hl => ?_)
        refine lv_iconst (v := 0) hx hb dX0_fillFrom_38 (by decide) ?_
        refine lv_istore_n (lv' := [(3, .int 0), (2, .int v4), (0, .ref h), (1, .ref wh)]) hx hb dX0_fillFrom_39 rfl hl (by decide) rfl (fun ls hl => ?_)
        exact J40 FU _ _ _ _ _ _ hf hP hD hS (lv_sub hl [2, 3, 1, 0] rfl)
      · replace hf := it_n c3 hf
        refine lv_aload_n hx hb dX0_fillFrom_19 rfl (lv_at hl 0 rfl) ?_
        refine va_get (D := D) (ci := 0) (v := .ref (pr 1)) (C := RX0) (T := TX0) (N := 4) hx hb hts in0 hown hK hP 0 rfl rfl 1 (by decide) f15 (fun _ h9 => h9) rfl dX0_fillFrom_20 ?_
        refine lv_iload_n hx hb dX0_fillFrom_23 rfl (lv_at hl 2 rfl) ?_
        refine lv_iconst (v := 0) hx hb dX0_fillFrom_24 (by decide) ?_
        obtain ⟨g6, hf⟩ := gd_ob hf
        obtain ⟨s7, es7, hf⟩ := nm_ob hf
        refine va_zast hx hb hK hP hD hS 2 2 rfl rfl g6 dX0_fillFrom_25 (fun H locs hP hD hS => ?_)
        have hP : va_P D vwCl (wPk ca h pr wh ar t s7) H := by rw [← es7]; exact hP
        have hD : va_D A (wPk ca h pr wh ar t s7) := by rw [← es7]; exact hD
        obtain ⟨v8, ev8, hf⟩ := nm_ob hf
        refine lv_iinc (v := v8) (lv' := [(2, .int v8), (0, .ref h), (1, .ref wh)]) hx hb dX0_fillFrom_26 hl (k := 2) rfl (by rw [← ev8]; rfl) (by decide) rfl (fun ls hl => ?_)
        refine lv_goto (tgt := 12) hx hb dX0_fillFrom_29 (by decide) ?_
        exact ih12 _ _ _ _ _ hf hP hD hS (lv_sub hl [1, 2, 0] rfl)
  unfold pp_fillFrom at hf
  refine lv_aload_n hx hb dX0_fillFrom_0 rfl (lv_at hl 0 rfl) ?_
  refine lv_iconst (v := 0) hx hb dX0_fillFrom_1 (by decide) ?_
  obtain ⟨s1, es1, hf⟩ := nm_ob hf
  refine va_put (D := D) (ci := 0) (v := .int 0) (ty := .int) (C := RX0) (T := TX0) (N := 4) hx hb hts in0 tyX0 tyX0_ok nmX0 hown hK hP hD hS 0 rfl rfl 2 (by decide) f19 (fun _ h9 => h9) rfl (by decide +kernel) rfl rfl (Nat.le_of_ble_eq_true rfl) dX0_fillFrom_2 (fun H locs hP hD hS => ?_)
  have hP : va_P D vwCl (wPk ca h pr wh ar t s1) H := by rw [← es1]; exact hP
  have hD : va_D A (wPk ca h pr wh ar t s1) := by rw [← es1]; exact hD
  refine lv_aload_n hx hb dX0_fillFrom_5 rfl (lv_at hl 0 rfl) ?_
  refine lv_iconst (v := (-1)) hx hb dX0_fillFrom_6 (by decide) ?_
  obtain ⟨s2, es2, hf⟩ := nm_ob hf
  refine va_put (D := D) (ci := 0) (v := .int (-1)) (ty := .int) (C := RX0) (T := TX0) (N := 4) hx hb hts in0 tyX0 tyX0_ok nmX0 hown hK hP hD hS 0 rfl rfl 3 (by decide) f23 (fun _ h9 => h9) rfl (by decide +kernel) rfl rfl (Nat.le_of_ble_eq_true rfl) dX0_fillFrom_7 (fun H locs hP hD hS => ?_)
  have hP : va_P D vwCl (wPk ca h pr wh ar t s2) H := by rw [← es2]; exact hP
  have hD : va_D A (wPk ca h pr wh ar t s2) := by rw [← es2]; exact hD
  refine lv_iconst (v := 0) hx hb dX0_fillFrom_10 (by decide) ?_
  refine lv_istore_n (lv' := [(2, .int 0), (0, .ref h), (1, .ref wh)]) hx hb dX0_fillFrom_11 rfl hl (by decide) rfl (fun ls hl => ?_)
  exact J12 FU _ _ _ _ _ hf hP hD hS (lv_sub hl [1, 2, 0] rfl)
end
section
def rr_size  (σ : RR)  : Option Int32 :=
  some ((tb_ct (rr_P σ)) + (tb_ct (rr_O σ)))
set_option maxHeartbeats 4000000 in
set_option maxRecDepth 100000 in
theorem tX4_size (l : Launch) (D : va_G) (ca : Nat → ClassId) (B : Nat → Nat) (ar : Nat → Nat → Nat) (sz : Nat)  (σ : RR)  (r : Int32) (hf : rr_size σ = some r) : Ci l D ca yX4_size wsX4_size { frames := 0, cells := 0, slots := 0, locals := 0 } [.ref (B 0)] (wRR ca B ar σ) sz r (wRR ca B ar σ) := by
  refine body_of (cc := cX4_size) (maxL := 1) (ret := (some .int)) (fun A => Qi D ca r (wRR ca B ar σ) A) (by decide) rfl (Nat.le_of_ble_eq_true rfl) ?_
  intro p e s m below meth c A ls hx hb hr hml hts hown hlocks hA hK hP hD hS hl hN
  have hl : lv_has ls 1 [(0, .ref (B 0))] := hl
  have hret : ∀ (pc : Nat) (ls : Array Slot) (H : Heap) (locs : List Loc), decode cX4_size pc = .ok (.ireturn, 1) → va_P D vwCl (wRR ca B ar σ) H → va_D A (wRR ca B ar σ) → va_S A s.heap H locs → W p l e { frames := 0, cells := 0, slots := 0, locals := 0 } s m ([.ref (B 0)] : List Value).toArray below meth c H locs 0 0 (MQ below (Qi D ca r (wRR ca B ar σ) A) ([.ref (B 0)] : List Value).toArray s 0 0 A) (F0 m pc ls [.int r]) := fun pc ls H locs hd hP hD hS => ret_i hx hb hr hlocks hK hP hD hS hd
  generalize MQ below (Qi D ca r (wRR ca B ar σ) A) ([.ref (B 0)] : List Value).toArray s 0 0 A = Q at hret ⊢
  generalize ([.ref (B 0)] : List Value).toArray = args at hts hret ⊢
  have f110 : (Cond.fieldLinkNest RX4 110 "RobinRow$Table" "count" "I" RX4).before args s = true := va_Nw.use rfl (hN.1 (RX4, 110, "RobinRow$Table", "count", "I") (by decide +kernel))
  have f34 := hts (.fieldLink RX4 34 "RobinRow" "present" "LRobinRow$Table;") (by decide +kernel)
  have f38 := hts (.fieldLink RX4 38 "RobinRow" "old" "LRobinRow$Table;") (by decide +kernel)
  have in3 : ∀ w ∈ u_ws RX3 TX3 6, w ∈ wsX4_size := by decide +kernel
  have in4 : ∀ w ∈ u_ws RX4 TX4 7, w ∈ wsX4_size := by decide +kernel
  unfold rr_size at hf
  refine lv_aload_n hx hb dX4_size_0 rfl (lv_at hl 0 rfl) ?_
  refine va_get (D := D) (ci := 4) (v := .ref (rr_ap σ)) (C := RX4) (T := TX4) (N := 7) hx hb hts in4 hown hK hP 0 rfl rfl 3 (by decide) f34 (fun _ h9 => h9) rfl dX4_size_1 ?_
  refine va_getN (D := D) (ci := 3) (v := .int (tb_ct (rr_P σ))) (C := RX3) (T := TX3) (N := 6) hx hb hts in3 hown hK hP 10 rfl rfl 5 (by decide) f110 (fun _ h9 => h9) rfl dX4_size_4 ?_
  refine lv_aload_n hx hb dX4_size_7 rfl (lv_at hl 0 rfl) ?_
  refine va_get (D := D) (ci := 4) (v := .ref (rr_ao σ)) (C := RX4) (T := TX4) (N := 7) hx hb hts in4 hown hK hP 0 rfl rfl 4 (by decide) f38 (fun _ h9 => h9) rfl dX4_size_8 ?_
  refine va_getN (D := D) (ci := 3) (v := .int (tb_ct (rr_O σ))) (C := RX3) (T := TX3) (N := 6) hx hb hts in3 hown hK hP 15 rfl rfl 5 (by decide) f110 (fun _ h9 => h9) rfl dX4_size_11 ?_
  refine lv_iadd hx hb dX4_size_14 ?_
  obtain rfl := so1 hf
  exact hret _ _ _ _ dX4_size_15 hP hD hS

def rr_hash  (σ : RR) (a0 : Int32) : Option Int32 :=
  if (rr_way σ) = 0 then
    some a0
  else
    nm (a0 * (-1640531535)) fun v2 =>
    some (v2 ^^^ (ushr v2 15))
set_option maxHeartbeats 4000000 in
set_option maxRecDepth 100000 in
theorem tX4_hash (l : Launch) (D : va_G) (ca : Nat → ClassId) (B : Nat → Nat) (ar : Nat → Nat → Nat) (sz : Nat)  (σ : RR) (a0 : Int32) (r : Int32) (hf : rr_hash σ a0 = some r) : Ci l D ca yX4_hash wsX4_hash { frames := 0, cells := 0, slots := 0, locals := 0 } [.ref (B 0), .int a0] (wRR ca B ar σ) sz r (wRR ca B ar σ) := by
  refine body_of (cc := cX4_hash) (maxL := 3) (ret := (some .int)) (fun A => Qi D ca r (wRR ca B ar σ) A) (by decide) rfl (Nat.le_of_ble_eq_true rfl) ?_
  intro p e s m below meth c A ls hx hb hr hml hts hown hlocks hA hK hP hD hS hl hN
  have hl : lv_has ls 3 [(0, .ref (B 0)), (1, .int a0)] := hl
  have hret : ∀ (pc : Nat) (ls : Array Slot) (H : Heap) (locs : List Loc), decode cX4_hash pc = .ok (.ireturn, 1) → va_P D vwCl (wRR ca B ar σ) H → va_D A (wRR ca B ar σ) → va_S A s.heap H locs → W p l e { frames := 0, cells := 0, slots := 0, locals := 0 } s m ([.ref (B 0), .int a0] : List Value).toArray below meth c H locs 0 0 (MQ below (Qi D ca r (wRR ca B ar σ) A) ([.ref (B 0), .int a0] : List Value).toArray s 0 0 A) (F0 m pc ls [.int r]) := fun pc ls H locs hd hP hD hS => ret_i hx hb hr hlocks hK hP hD hS hd
  generalize MQ below (Qi D ca r (wRR ca B ar σ) A) ([.ref (B 0), .int a0] : List Value).toArray s 0 0 A = Q at hret ⊢
  generalize ([.ref (B 0), .int a0] : List Value).toArray = args at hts hret ⊢
  have f42 := hts (.fieldLink RX4 42 "RobinRow" "way" "I") (by decide +kernel)
  have in4 : ∀ w ∈ u_ws RX4 TX4 7, w ∈ wsX4_hash := by decide +kernel
  unfold rr_hash at hf
  refine lv_aload_n hx hb dX4_hash_0 rfl (lv_at hl 0 rfl) ?_
  refine va_get (D := D) (ci := 4) (v := .int (rr_way σ)) (C := RX4) (T := TX4) (N := 7) hx hb hts in4 hown hK hP 0 rfl rfl 5 (by decide) f42 (fun _ h9 => h9) rfl dX4_hash_1 ?_
  refine lv_if_ne (tgt := 9) hx hb dX4_hash_4 (by decide) (fun c1 => ?_) (fun c1 => ?_)
  · replace hf := it_n c1 hf
    refine lv_iload_n hx hb dX4_hash_9 rfl (lv_at hl 1 rfl) ?_
    refine lv_ldc (v := (-1640531535)) hx hb hown (hts (.constant RX4 163 (-1640531535)) (by decide +kernel)) dX4_hash_10 ?_
    refine lv_imul hx hb dX4_hash_12 ?_
    obtain ⟨v2, ev2, hf⟩ := nm_ob hf
    refine tp_i ev2 ?_
    refine lv_istore_n (lv' := [(2, .int v2), (0, .ref (B 0)), (1, .int a0)]) hx hb dX4_hash_13 rfl hl (by decide) rfl (fun ls hl => ?_)
    refine lv_iload_n hx hb dX4_hash_14 rfl (lv_at hl 0 rfl) ?_
    refine lv_iload_n hx hb dX4_hash_15 rfl (lv_at hl 0 rfl) ?_
    refine lv_bipush (v := 15) hx hb dX4_hash_16 (by decide) ?_
    refine lv_iushr (v := (ushr v2 15)) hx hb dX4_hash_18 rfl ?_
    refine lv_ixor hx hb dX4_hash_19 ?_
    obtain rfl := so1 hf
    exact hret _ _ _ _ dX4_hash_20 hP hD hS
  · replace hf := it_p c1 hf
    refine lv_iload_n hx hb dX4_hash_7 rfl (lv_at hl 1 rfl) ?_
    obtain rfl := so1 hf
    exact hret _ _ _ _ dX4_hash_8 hP hD hS

def rr_lookUp  (σ : RR) (a0 : Int32) : Option RR :=
  bd (rr_hash σ a0) fun v1 =>
  bd (ss_begin (rr_se σ)) fun s3 =>
  nm (rr_se' σ s3) fun s4 =>
  bd (ss_lookIn (rr_ap s4) (rr_P s4) (rr_se s4) a0 v1) fun s6 =>
  nm (rr_se' s4 s6) fun s7 =>
  bd (ss_hasFound (rr_se s7)) fun v8 =>
  if v8 = 0 then
    bd (ss_lookIn (rr_ao s7) (rr_O s7) (rr_se s7) a0 v1) fun s11 =>
    nm (rr_se' s7 s11) fun s12 =>
    some s12
  else
    some s7
set_option maxHeartbeats 4000000 in
set_option maxRecDepth 100000 in
theorem tX4_lookUp (l : Launch) (D : va_G) (ca : Nat → ClassId) (B : Nat → Nat) (ar : Nat → Nat → Nat) (sz : Nat)  (σ : RR) (a0 : Int32) (σ9 : RR) (hf : rr_lookUp σ a0 = some σ9) : Cv l D ca yX4_lookUp wsX4_lookUp { frames := 3, cells := 0, slots := 0, locals := 74 } [.ref (B 0), .int a0] (wRR ca B ar σ) sz (wRR ca B ar σ9) := by
  refine body_of (cc := cX4_lookUp) (maxL := 3) (ret := none) (fun A => Qv D ca (wRR ca B ar σ9) A) (by decide) rfl (Nat.le_of_ble_eq_true rfl) ?_
  intro p e s m below meth c A ls hx hb hr hml hts hown hlocks hA hK hP hD hS hl hN
  have hl : lv_has ls 3 [(0, .ref (B 0)), (1, .int a0)] := hl
  have hret : ∀ (pc : Nat) (ls : Array Slot) (H : Heap) (locs : List Loc), decode cX4_lookUp pc = .ok (.return_, 1) → va_P D vwCl (wRR ca B ar σ9) H → va_D A (wRR ca B ar σ9) → va_S A s.heap H locs → W p l e { frames := 3, cells := 0, slots := 0, locals := 74 } s m ([.ref (B 0), .int a0] : List Value).toArray below meth c H locs 0 0 (MQ below (Qv D ca (wRR ca B ar σ9) A) ([.ref (B 0), .int a0] : List Value).toArray s 0 0 A) (F0 m pc ls []) := fun pc ls H locs hd hP hD hS => ret_v hx hb hr hlocks hK hP hD hS hd
  generalize MQ below (Qv D ca (wRR ca B ar σ9) A) ([.ref (B 0), .int a0] : List Value).toArray s 0 0 A = Q at hret ⊢
  generalize ([.ref (B 0), .int a0] : List Value).toArray = args at hts hret ⊢
  have f18 := hts (.fieldLink RX4 18 "RobinRow" "search" "LRobinRow$Search;") (by decide +kernel)
  have f34 := hts (.fieldLink RX4 34 "RobinRow" "present" "LRobinRow$Table;") (by decide +kernel)
  have f38 := hts (.fieldLink RX4 38 "RobinRow" "old" "LRobinRow$Table;") (by decide +kernel)
  have in4 : ∀ w ∈ u_ws RX4 TX4 7, w ∈ wsX4_lookUp := by decide +kernel
  unfold rr_lookUp at hf
  refine lv_aload_n hx hb dX4_lookUp_0 rfl (lv_at hl 0 rfl) ?_
  refine lv_iload_n hx hb dX4_lookUp_1 rfl (lv_at hl 1 rfl) ?_
  obtain ⟨v1, ev1, hf⟩ := bd_ob hf
  refine call_i (As := [.int a0]) (rest := []) ⟨hx, hb, hml, hown, hts⟩ (tX4_hash l D ca B ar _ σ a0 v1 ev1) (cwV 1 hts gX4_lookUp_X4_hash rfl rfl rfl (by decide +kernel) ⟨Nat.le_of_ble_eq_true rfl, Nat.le_of_ble_eq_true rfl⟩) hN hK hP hD hA hS (fr_id _ _) rfl rfl rfl hl.1 rfl (lv_room (Nat.le_of_ble_eq_true rfl)) dX4_lookUp_2 ⟨Nat.le_refl _, Nat.le_refl _⟩ (fun H locs hP hD hS => ?_)
  refine lv_istore_n (lv' := [(2, .int v1), (0, .ref (B 0)), (1, .int a0)]) hx hb dX4_lookUp_5 rfl hl (by decide) rfl (fun ls hl => ?_)
  refine lv_aload_n hx hb dX4_lookUp_6 rfl (lv_at hl 1 rfl) ?_
  refine va_get (D := D) (ci := 4) (v := .ref (B 6)) (C := RX4) (T := TX4) (N := 7) hx hb hts in4 hown hK hP 0 rfl rfl 1 (by decide) f18 (fun _ h9 => h9) rfl dX4_lookUp_7 ?_
  obtain ⟨s3, es3, hf⟩ := bd_ob hf
  refine call_v (As := []) (rest := []) ⟨hx, hb, hml, hown, hts⟩ (tX1_begin l D ca (B 6) _ (rr_se σ) s3 es3) (cwV 0 hts gX4_lookUp_X1_begin rfl rfl rfl (by decide +kernel) ⟨Nat.le_of_ble_eq_true rfl, Nat.le_of_ble_eq_true rfl⟩) hN hK hP hD hA hS (fr_RS ca B ar σ s3) rfl rfl rfl hl.1 rfl (lv_room (Nat.le_of_ble_eq_true rfl)) dX4_lookUp_10 ⟨Nat.le_refl _, Nat.le_refl _⟩ (fun H locs hP hD hS => ?_)
  obtain ⟨s4, es4, hf⟩ := nm_ob hf
  have hP : va_P D vwCl (wRR ca B ar s4) H := by rw [← es4]; exact hP
  have hD : va_D A (wRR ca B ar s4) := by rw [← es4]; exact hD
  refine lv_aload_n hx hb dX4_lookUp_13 rfl (lv_at hl 1 rfl) ?_
  refine va_get (D := D) (ci := 4) (v := .ref (B 6)) (C := RX4) (T := TX4) (N := 7) hx hb hts in4 hown hK hP 0 rfl rfl 1 (by decide) f18 (fun _ h9 => h9) rfl dX4_lookUp_14 ?_
  refine lv_aload_n hx hb dX4_lookUp_17 rfl (lv_at hl 1 rfl) ?_
  refine va_get (D := D) (ci := 4) (v := .ref (rr_ap s4)) (C := RX4) (T := TX4) (N := 7) hx hb hts in4 hown hK hP 0 rfl rfl 3 (by decide) f34 (fun _ h9 => h9) rfl dX4_lookUp_18 ?_
  refine lv_iload_n hx hb dX4_lookUp_21 rfl (lv_at hl 2 rfl) ?_
  refine lv_iload_n hx hb dX4_lookUp_22 rfl (lv_at hl 0 rfl) ?_
  obtain ⟨s6, es6, hf⟩ := bd_ob hf
  refine call_v (As := [.ref (rr_ap s4), .int a0, .int v1]) (rest := []) ⟨hx, hb, hml, hown, hts⟩ (tX1_lookIn l D ca (B 6) (ar (rr_ap s4)) _ (rr_ap s4) (rr_P s4) (rr_se s4) a0 v1 s6 es6) (cwV 3 hts gX4_lookUp_X1_lookIn rfl rfl rfl (by decide +kernel) ⟨Nat.le_of_ble_eq_true rfl, Nat.le_of_ble_eq_true rfl⟩) hN hK hP hD hA hS (fr_RLP ca B ar s4 s6) rfl rfl rfl hl.1 rfl (lv_room (Nat.le_of_ble_eq_true rfl)) dX4_lookUp_23 ⟨Nat.le_refl _, Nat.le_refl _⟩ (fun H locs hP hD hS => ?_)
  obtain ⟨s7, es7, hf⟩ := nm_ob hf
  have hP : va_P D vwCl (wRR ca B ar s7) H := by rw [← es7]; exact hP
  have hD : va_D A (wRR ca B ar s7) := by rw [← es7]; exact hD
  refine lv_aload_n hx hb dX4_lookUp_26 rfl (lv_at hl 1 rfl) ?_
  refine va_get (D := D) (ci := 4) (v := .ref (B 6)) (C := RX4) (T := TX4) (N := 7) hx hb hts in4 hown hK hP 0 rfl rfl 1 (by decide) f18 (fun _ h9 => h9) rfl dX4_lookUp_27 ?_
  obtain ⟨v8, ev8, hf⟩ := bd_ob hf
  refine call_i (As := []) (rest := []) ⟨hx, hb, hml, hown, hts⟩ (tX1_hasFound l D ca (B 6) _ (rr_se s7) v8 ev8) (cwV 0 hts gX4_lookUp_X1_hasFound rfl rfl rfl (by decide +kernel) ⟨Nat.le_of_ble_eq_true rfl, Nat.le_of_ble_eq_true rfl⟩) hN hK hP hD hA hS (fr_RSp ca B ar s7) rfl rfl rfl hl.1 rfl (lv_room (Nat.le_of_ble_eq_true rfl)) dX4_lookUp_30 ⟨Nat.le_refl _, Nat.le_refl _⟩ (fun H locs hP hD hS => ?_)
  refine lv_if_ne (tgt := 49) hx hb dX4_lookUp_33 (by decide) (fun c9 => ?_) (fun c9 => ?_)
  · replace hf := it_n c9 hf
    obtain rfl := so1 hf
    exact hret _ _ _ _ dX4_lookUp_49 hP hD hS
  · replace hf := it_p c9 hf
    refine lv_aload_n hx hb dX4_lookUp_36 rfl (lv_at hl 1 rfl) ?_
    refine va_get (D := D) (ci := 4) (v := .ref (B 6)) (C := RX4) (T := TX4) (N := 7) hx hb hts in4 hown hK hP 0 rfl rfl 1 (by decide) f18 (fun _ h9 => h9) rfl dX4_lookUp_37 ?_
    refine lv_aload_n hx hb dX4_lookUp_40 rfl (lv_at hl 1 rfl) ?_
    refine va_get (D := D) (ci := 4) (v := .ref (rr_ao s7)) (C := RX4) (T := TX4) (N := 7) hx hb hts in4 hown hK hP 0 rfl rfl 4 (by decide) f38 (fun _ h9 => h9) rfl dX4_lookUp_41 ?_
    refine lv_iload_n hx hb dX4_lookUp_44 rfl (lv_at hl 2 rfl) ?_
    refine lv_iload_n hx hb dX4_lookUp_45 rfl (lv_at hl 0 rfl) ?_
    obtain ⟨s11, es11, hf⟩ := bd_ob hf
    refine call_v (As := [.ref (rr_ao s7), .int a0, .int v1]) (rest := []) ⟨hx, hb, hml, hown, hts⟩ (tX1_lookIn l D ca (B 6) (ar (rr_ao s7)) _ (rr_ao s7) (rr_O s7) (rr_se s7) a0 v1 s11 es11) (cwV 3 hts gX4_lookUp_X1_lookIn rfl rfl rfl (by decide +kernel) ⟨Nat.le_of_ble_eq_true rfl, Nat.le_of_ble_eq_true rfl⟩) hN hK hP hD hA hS (fr_RLO ca B ar s7 s11) rfl rfl rfl hl.1 rfl (lv_room (Nat.le_of_ble_eq_true rfl)) dX4_lookUp_46 ⟨Nat.le_refl _, Nat.le_refl _⟩ (fun H locs hP hD hS => ?_)
    obtain ⟨s12, es12, hf⟩ := nm_ob hf
    have hP : va_P D vwCl (wRR ca B ar s12) H := by rw [← es12]; exact hP
    have hD : va_D A (wRR ca B ar s12) := by rw [← es12]; exact hD
    obtain rfl := so1 hf
    exact hret _ _ _ _ dX4_lookUp_49 hP hD hS

def rr_get  (σ : RR) (a0 : Int32) : Option (Int32 × RR) :=
  bd (rr_lookUp σ a0) fun s2 =>
  bd (ss_hasFound (rr_se s2)) fun v3 =>
  if v3 = 0 then
    some ((-1), s2)
  else
    dsp (se_tb (rr_se s2)) (rr_ap s2) (rr_ao s2) (
      bd (tt_valueIn (rr_P s2) (se_slot (rr_se s2))) fun v6 =>
      some (v6, s2)) (
      bd (tt_valueIn (rr_O s2) (se_slot (rr_se s2))) fun v7 =>
      some (v7, s2))
set_option maxHeartbeats 4000000 in
set_option maxRecDepth 100000 in
theorem tX4_get (l : Launch) (D : va_G) (ca : Nat → ClassId) (B : Nat → Nat) (ar : Nat → Nat → Nat) (sz : Nat)  (σ : RR) (a0 : Int32) (r : Int32) (σ9 : RR) (hf : rr_get σ a0 = some (r, σ9)) : Ci l D ca yX4_get wsX4_get { frames := 4, cells := 0, slots := 0, locals := 96 } [.ref (B 0), .int a0] (wRR ca B ar σ) sz r (wRR ca B ar σ9) := by
  refine body_of (cc := cX4_get) (maxL := 2) (ret := (some .int)) (fun A => Qi D ca r (wRR ca B ar σ9) A) (by decide) rfl (Nat.le_of_ble_eq_true rfl) ?_
  intro p e s m below meth c A ls hx hb hr hml hts hown hlocks hA hK hP hD hS hl hN
  have hl : lv_has ls 2 [(0, .ref (B 0)), (1, .int a0)] := hl
  have hret : ∀ (pc : Nat) (ls : Array Slot) (H : Heap) (locs : List Loc), decode cX4_get pc = .ok (.ireturn, 1) → va_P D vwCl (wRR ca B ar σ9) H → va_D A (wRR ca B ar σ9) → va_S A s.heap H locs → W p l e { frames := 4, cells := 0, slots := 0, locals := 96 } s m ([.ref (B 0), .int a0] : List Value).toArray below meth c H locs 0 0 (MQ below (Qi D ca r (wRR ca B ar σ9) A) ([.ref (B 0), .int a0] : List Value).toArray s 0 0 A) (F0 m pc ls [.int r]) := fun pc ls H locs hd hP hD hS => ret_i hx hb hr hlocks hK hP hD hS hd
  generalize MQ below (Qi D ca r (wRR ca B ar σ9) A) ([.ref (B 0), .int a0] : List Value).toArray s 0 0 A = Q at hret ⊢
  generalize ([.ref (B 0), .int a0] : List Value).toArray = args at hts hret ⊢
  have f18 := hts (.fieldLink RX4 18 "RobinRow" "search" "LRobinRow$Search;") (by decide +kernel)
  have f87 : (Cond.fieldLinkNest RX4 87 "RobinRow$Search" "table" "LRobinRow$Table;" RX4).before args s = true := va_Nw.use rfl (hN.1 (RX4, 87, "RobinRow$Search", "table", "LRobinRow$Table;") (by decide +kernel))
  have f90 : (Cond.fieldLinkNest RX4 90 "RobinRow$Search" "slot" "I" RX4).before args s = true := va_Nw.use rfl (hN.1 (RX4, 90, "RobinRow$Search", "slot", "I") (by decide +kernel))
  have in1 : ∀ w ∈ u_ws RX1 TX1 4, w ∈ wsX4_get := by decide +kernel
  have in4 : ∀ w ∈ u_ws RX4 TX4 7, w ∈ wsX4_get := by decide +kernel
  unfold rr_get at hf
  refine lv_aload_n hx hb dX4_get_0 rfl (lv_at hl 0 rfl) ?_
  refine lv_iload_n hx hb dX4_get_1 rfl (lv_at hl 1 rfl) ?_
  obtain ⟨s2, es2, hf⟩ := bd_ob hf
  refine call_v (As := [.int a0]) (rest := []) ⟨hx, hb, hml, hown, hts⟩ (tX4_lookUp l D ca B ar _ σ a0 s2 es2) (cwV 1 hts gX4_get_X4_lookUp rfl rfl rfl (by decide +kernel) ⟨Nat.le_of_ble_eq_true rfl, Nat.le_of_ble_eq_true rfl⟩) hN hK hP hD hA hS (fr_id _ _) rfl rfl rfl hl.1 rfl (lv_room (Nat.le_of_ble_eq_true rfl)) dX4_get_2 ⟨Nat.le_refl _, Nat.le_refl _⟩ (fun H locs hP hD hS => ?_)
  refine lv_aload_n hx hb dX4_get_5 rfl (lv_at hl 0 rfl) ?_
  refine va_get (D := D) (ci := 4) (v := .ref (B 6)) (C := RX4) (T := TX4) (N := 7) hx hb hts in4 hown hK hP 0 rfl rfl 1 (by decide) f18 (fun _ h9 => h9) rfl dX4_get_6 ?_
  obtain ⟨v3, ev3, hf⟩ := bd_ob hf
  refine call_i (As := []) (rest := []) ⟨hx, hb, hml, hown, hts⟩ (tX1_hasFound l D ca (B 6) _ (rr_se s2) v3 ev3) (cwV 0 hts gX4_get_X1_hasFound rfl rfl rfl (by decide +kernel) ⟨Nat.le_of_ble_eq_true rfl, Nat.le_of_ble_eq_true rfl⟩) hN hK hP hD hA hS (fr_RSp ca B ar s2) rfl rfl rfl hl.1 rfl (lv_room (Nat.le_of_ble_eq_true rfl)) dX4_get_9 ⟨Nat.le_refl _, Nat.le_refl _⟩ (fun H locs hP hD hS => ?_)
  refine lv_if_eq (tgt := 35) hx hb dX4_get_12 (by decide) (fun c4 => ?_) (fun c4 => ?_)
  · replace hf := it_p c4 hf
    refine lv_iconst (v := (-1)) hx hb dX4_get_35 (by decide) ?_
    obtain ⟨rfl, rfl⟩ := so2 hf
    exact hret _ _ _ _ dX4_get_36 hP hD hS
  · replace hf := it_n c4 hf
    refine lv_aload_n hx hb dX4_get_15 rfl (lv_at hl 0 rfl) ?_
    refine va_get (D := D) (ci := 4) (v := .ref (B 6)) (C := RX4) (T := TX4) (N := 7) hx hb hts in4 hown hK hP 0 rfl rfl 1 (by decide) f18 (fun _ h9 => h9) rfl dX4_get_16 ?_
    refine va_getN (D := D) (ci := 1) (v := va_rf (se_tb (rr_se s2))) (C := RX1) (T := TX1) (N := 4) hx hb hts in1 hown hK hP 6 rfl rfl 0 (by decide) f87 (fun _ h9 => h9) rfl dX4_get_19 ?_
    refine lv_aload_n hx hb dX4_get_22 rfl (lv_at hl 0 rfl) ?_
    refine va_get (D := D) (ci := 4) (v := .ref (B 6)) (C := RX4) (T := TX4) (N := 7) hx hb hts in4 hown hK hP 0 rfl rfl 1 (by decide) f18 (fun _ h9 => h9) rfl dX4_get_23 ?_
    refine va_getN (D := D) (ci := 1) (v := .int (se_slot (rr_se s2))) (C := RX1) (T := TX1) (N := 4) hx hb hts in1 hown hK hP 6 rfl rfl 1 (by decide) f90 (fun _ h9 => h9) rfl dX4_get_26 ?_
    rcases dsp_ob hf with ⟨c5, hf⟩ | ⟨c5, hf⟩
    · refine W.eq (g2 := F0 m 29 ls [.int (se_slot (rr_se s2)), .ref (rr_ap s2)]) (by rw [c5]; rfl) ?_
      obtain ⟨v6, ev6, hf⟩ := bd_ob hf
      refine call_i (As := [.int (se_slot (rr_se s2))]) (rest := []) ⟨hx, hb, hml, hown, hts⟩ (tX3_valueIn l D ca (rr_ap s2) (ar (rr_ap s2)) _ (rr_P s2) (se_slot (rr_se s2)) v6 ev6) (cwV 1 hts gX4_get_X3_valueIn rfl rfl rfl (by decide +kernel) ⟨Nat.le_of_ble_eq_true rfl, Nat.le_of_ble_eq_true rfl⟩) hN hK hP hD hA hS (fr_RPp ca B ar s2) rfl rfl rfl hl.1 rfl (lv_room (Nat.le_of_ble_eq_true rfl)) dX4_get_29 ⟨Nat.le_refl _, Nat.le_refl _⟩ (fun H locs hP hD hS => ?_)
      refine lv_goto (tgt := 36) hx hb dX4_get_32 (by decide) ?_
      obtain ⟨rfl, rfl⟩ := so2 hf
      exact hret _ _ _ _ dX4_get_36 hP hD hS
    · refine W.eq (g2 := F0 m 29 ls [.int (se_slot (rr_se s2)), .ref (rr_ao s2)]) (by rw [c5]; rfl) ?_
      obtain ⟨v7, ev7, hf⟩ := bd_ob hf
      refine call_i (As := [.int (se_slot (rr_se s2))]) (rest := []) ⟨hx, hb, hml, hown, hts⟩ (tX3_valueIn l D ca (rr_ao s2) (ar (rr_ao s2)) _ (rr_O s2) (se_slot (rr_se s2)) v7 ev7) (cwV 1 hts gX4_get_X3_valueIn rfl rfl rfl (by decide +kernel) ⟨Nat.le_of_ble_eq_true rfl, Nat.le_of_ble_eq_true rfl⟩) hN hK hP hD hA hS (fr_ROp ca B ar s2) rfl rfl rfl hl.1 rfl (lv_room (Nat.le_of_ble_eq_true rfl)) dX4_get_29 ⟨Nat.le_refl _, Nat.le_refl _⟩ (fun H locs hP hD hS => ?_)
      refine lv_goto (tgt := 36) hx hb dX4_get_32 (by decide) ?_
      obtain ⟨rfl, rfl⟩ := so2 hf
      exact hret _ _ _ _ dX4_get_36 hP hD hS

def rr_endMoveIfOldIsEmpty  (σ : RR)  : Option RR :=
  if (tb_ct (rr_O σ)) = 0 then
    bd (tt_emptyWith (rr_O σ) 0) fun s3 =>
    nm (rr_O' σ s3) fun s4 =>
    some s4
  else
    some σ
set_option maxHeartbeats 4000000 in
set_option maxRecDepth 100000 in
theorem tX4_endMoveIfOldIsEmpty (l : Launch) (D : va_G) (ca : Nat → ClassId) (B : Nat → Nat) (ar : Nat → Nat → Nat) (sz : Nat)  (σ : RR)  (σ9 : RR) (hf : rr_endMoveIfOldIsEmpty σ = some σ9) : Cv l D ca yX4_endMoveIfOldIsEmpty wsX4_endMoveIfOldIsEmpty { frames := 2, cells := 0, slots := 0, locals := 43 } [.ref (B 0)] (wRR ca B ar σ) sz (wRR ca B ar σ9) := by
  refine body_of (cc := cX4_endMoveIfOldIsEmpty) (maxL := 1) (ret := none) (fun A => Qv D ca (wRR ca B ar σ9) A) (by decide) rfl (Nat.le_of_ble_eq_true rfl) ?_
  intro p e s m below meth c A ls hx hb hr hml hts hown hlocks hA hK hP hD hS hl hN
  have hl : lv_has ls 1 [(0, .ref (B 0))] := hl
  have hret : ∀ (pc : Nat) (ls : Array Slot) (H : Heap) (locs : List Loc), decode cX4_endMoveIfOldIsEmpty pc = .ok (.return_, 1) → va_P D vwCl (wRR ca B ar σ9) H → va_D A (wRR ca B ar σ9) → va_S A s.heap H locs → W p l e { frames := 2, cells := 0, slots := 0, locals := 43 } s m ([.ref (B 0)] : List Value).toArray below meth c H locs 0 0 (MQ below (Qv D ca (wRR ca B ar σ9) A) ([.ref (B 0)] : List Value).toArray s 0 0 A) (F0 m pc ls []) := fun pc ls H locs hd hP hD hS => ret_v hx hb hr hlocks hK hP hD hS hd
  generalize MQ below (Qv D ca (wRR ca B ar σ9) A) ([.ref (B 0)] : List Value).toArray s 0 0 A = Q at hret ⊢
  generalize ([.ref (B 0)] : List Value).toArray = args at hts hret ⊢
  have f110 : (Cond.fieldLinkNest RX4 110 "RobinRow$Table" "count" "I" RX4).before args s = true := va_Nw.use rfl (hN.1 (RX4, 110, "RobinRow$Table", "count", "I") (by decide +kernel))
  have f38 := hts (.fieldLink RX4 38 "RobinRow" "old" "LRobinRow$Table;") (by decide +kernel)
  have in3 : ∀ w ∈ u_ws RX3 TX3 6, w ∈ wsX4_endMoveIfOldIsEmpty := by decide +kernel
  have in4 : ∀ w ∈ u_ws RX4 TX4 7, w ∈ wsX4_endMoveIfOldIsEmpty := by decide +kernel
  unfold rr_endMoveIfOldIsEmpty at hf
  refine lv_aload_n hx hb dX4_endMoveIfOldIsEmpty_0 rfl (lv_at hl 0 rfl) ?_
  refine va_get (D := D) (ci := 4) (v := .ref (rr_ao σ)) (C := RX4) (T := TX4) (N := 7) hx hb hts in4 hown hK hP 0 rfl rfl 4 (by decide) f38 (fun _ h9 => h9) rfl dX4_endMoveIfOldIsEmpty_1 ?_
  refine va_getN (D := D) (ci := 3) (v := .int (tb_ct (rr_O σ))) (C := RX3) (T := TX3) (N := 6) hx hb hts in3 hown hK hP 15 rfl rfl 5 (by decide) f110 (fun _ h9 => h9) rfl dX4_endMoveIfOldIsEmpty_4 ?_
  refine lv_if_ne (tgt := 18) hx hb dX4_endMoveIfOldIsEmpty_7 (by decide) (fun c1 => ?_) (fun c1 => ?_)
  · replace hf := it_n c1 hf
    obtain rfl := so1 hf
    exact hret _ _ _ _ dX4_endMoveIfOldIsEmpty_18 hP hD hS
  · replace hf := it_p c1 hf
    refine lv_aload_n hx hb dX4_endMoveIfOldIsEmpty_10 rfl (lv_at hl 0 rfl) ?_
    refine va_get (D := D) (ci := 4) (v := .ref (rr_ao σ)) (C := RX4) (T := TX4) (N := 7) hx hb hts in4 hown hK hP 0 rfl rfl 4 (by decide) f38 (fun _ h9 => h9) rfl dX4_endMoveIfOldIsEmpty_11 ?_
    refine lv_iconst (v := 0) hx hb dX4_endMoveIfOldIsEmpty_14 (by decide) ?_
    obtain ⟨s3, es3, hf⟩ := bd_ob hf
    refine call_v (As := [.int 0]) (rest := []) ⟨hx, hb, hml, hown, hts⟩ (tX3_emptyWith l D ca (rr_ao σ) (ar (rr_ao σ)) _ (rr_O σ) 0 s3 es3) (cwV 1 hts gX4_endMoveIfOldIsEmpty_X3_emptyWith rfl rfl rfl (by decide +kernel) ⟨Nat.le_of_ble_eq_true rfl, Nat.le_of_ble_eq_true rfl⟩) hN hK hP hD hA hS (fr_RO ca B ar σ s3) rfl rfl rfl hl.1 rfl (lv_room (Nat.le_of_ble_eq_true rfl)) dX4_endMoveIfOldIsEmpty_15 ⟨Nat.le_refl _, Nat.le_refl _⟩ (fun H locs hP hD hS => ?_)
    obtain ⟨s4, es4, hf⟩ := nm_ob hf
    have hP : va_P D vwCl (wRR ca B ar s4) H := by rw [← es4]; exact hP
    have hD : va_D A (wRR ca B ar s4) := by rw [← es4]; exact hD
    obtain rfl := so1 hf
    exact hret _ _ _ _ dX4_endMoveIfOldIsEmpty_18 hP hD hS

def rr_moveSlice_70   (σ : RR) (l1 : Int32) : Option (Int32 × RR) :=
  bd (rr_endMoveIfOldIsEmpty σ) fun s15 =>
  some (l1, s15)
def rr_moveSlice_2  (k2 : RR → Int32 → Option (Int32 × RR)) (σ : RR) (l1 : Int32) : Option (Int32 × RR) :=
  if 4 ≤ l1 then
    rr_moveSlice_70 σ l1
  else
    if (tb_ct (rr_O σ)) ≤ 0 then
      rr_moveSlice_70 σ l1
    else
      bd (tt_lowestSlotWithKey (rr_O σ)) fun v3 =>
      bd (tt_keyIn (rr_O σ) v3) fun v4 =>
      bd (tt_valueIn (rr_O σ) v3) fun v5 =>
      bd (tt_hashIn (rr_O σ) v3) fun v6 =>
      bd (tt_carryIn (rr_P σ) v4 v5 v6) fun s8 =>
      nm (rr_P' σ s8) fun s9 =>
      bd (tt_takeOut (rr_O s9) v3) fun s11 =>
      nm (rr_O' s9 s11) fun s12 =>
      nm (l1 + 1) fun v13 =>
      k2 s12 v13
def rr_moveSlice_lp2   : Nat → RR → Int32 → Option (Int32 × RR) := itF (fun _ _ => none) (fun k => rr_moveSlice_2   k)
def rr_moveSlice  (σ : RR)  : Option (Int32 × RR) :=
  rr_moveSlice_lp2 FU σ 0
set_option maxHeartbeats 4000000 in
set_option maxRecDepth 100000 in
theorem tX4_moveSlice (l : Launch) (D : va_G) (ca : Nat → ClassId) (B : Nat → Nat) (ar : Nat → Nat → Nat) (sz : Nat)  (σ : RR)  (r : Int32) (σ9 : RR) (hf : rr_moveSlice σ = some (r, σ9)) : Ci l D ca yX4_moveSlice wsX4_moveSlice { frames := 3, cells := 0, slots := 0, locals := 75 } [.ref (B 0)] (wRR ca B ar σ) sz r (wRR ca B ar σ9) := by
  refine body_of (cc := cX4_moveSlice) (maxL := 3) (ret := (some .int)) (fun A => Qi D ca r (wRR ca B ar σ9) A) (by decide) rfl (Nat.le_of_ble_eq_true rfl) ?_
  intro p e s m below meth c A ls hx hb hr hml hts hown hlocks hA hK hP hD hS hl hN
  have hl : lv_has ls 3 [(0, .ref (B 0))] := hl
  have hret : ∀ (pc : Nat) (ls : Array Slot) (H : Heap) (locs : List Loc), decode cX4_moveSlice pc = .ok (.ireturn, 1) → va_P D vwCl (wRR ca B ar σ9) H → va_D A (wRR ca B ar σ9) → va_S A s.heap H locs → W p l e { frames := 3, cells := 0, slots := 0, locals := 75 } s m ([.ref (B 0)] : List Value).toArray below meth c H locs 0 0 (MQ below (Qi D ca r (wRR ca B ar σ9) A) ([.ref (B 0)] : List Value).toArray s 0 0 A) (F0 m pc ls [.int r]) := fun pc ls H locs hd hP hD hS => ret_i hx hb hr hlocks hK hP hD hS hd
  generalize MQ below (Qi D ca r (wRR ca B ar σ9) A) ([.ref (B 0)] : List Value).toArray s 0 0 A = Q at hret ⊢
  generalize ([.ref (B 0)] : List Value).toArray = args at hts hret ⊢
  have f110 : (Cond.fieldLinkNest RX4 110 "RobinRow$Table" "count" "I" RX4).before args s = true := va_Nw.use rfl (hN.1 (RX4, 110, "RobinRow$Table", "count", "I") (by decide +kernel))
  have f34 := hts (.fieldLink RX4 34 "RobinRow" "present" "LRobinRow$Table;") (by decide +kernel)
  have f38 := hts (.fieldLink RX4 38 "RobinRow" "old" "LRobinRow$Table;") (by decide +kernel)
  have in3 : ∀ w ∈ u_ws RX3 TX3 6, w ∈ wsX4_moveSlice := by decide +kernel
  have in4 : ∀ w ∈ u_ws RX4 TX4 7, w ∈ wsX4_moveSlice := by decide +kernel
  have J70 : ∀ (H : Heap) (locs : List Loc) (ls : Array Slot) (σ : RR) (l1 : Int32), rr_moveSlice_70  σ l1 = some (r, σ9) → va_P D vwCl (wRR ca B ar σ) H → va_D A (wRR ca B ar σ) → va_S A s.heap H locs → lv_has ls 3 [(0, .ref (B 0)), (1, .int l1)] → W p l e { frames := 3, cells := 0, slots := 0, locals := 75 } s m args below meth c H locs 0 0 Q (F0 m 70 ls []) := by
    intro H locs ls σ l1 hf hP hD hS hl
    unfold rr_moveSlice_70 at hf
    refine lv_aload_n hx hb dX4_moveSlice_70 rfl (lv_at hl 0 rfl) ?_
    obtain ⟨s15, es15, hf⟩ := bd_ob hf
    refine call_v (As := []) (rest := []) ⟨hx, hb, hml, hown, hts⟩ (tX4_endMoveIfOldIsEmpty l D ca B ar _ σ s15 es15) (cwV 0 hts gX4_moveSlice_X4_endMoveIfOldIsEmpty rfl rfl rfl (by decide +kernel) ⟨Nat.le_of_ble_eq_true rfl, Nat.le_of_ble_eq_true rfl⟩) hN hK hP hD hA hS (fr_id _ _) rfl rfl rfl hl.1 rfl (lv_room (Nat.le_of_ble_eq_true rfl)) dX4_moveSlice_71 ⟨Nat.le_refl _, Nat.le_refl _⟩ (fun H locs hP hD hS => ?_)
    refine lv_iload_n hx hb dX4_moveSlice_74 rfl (lv_at hl 1 rfl) ?_
    obtain ⟨rfl, rfl⟩ := so2 hf
    exact hret _ _ _ _ dX4_moveSlice_75 hP hD hS
  have J2 : ∀ (n2 : Nat) (H : Heap) (locs : List Loc) (ls : Array Slot) (σ : RR) (l1 : Int32), rr_moveSlice_lp2  n2 σ l1 = some (r, σ9) → va_P D vwCl (wRR ca B ar σ) H → va_D A (wRR ca B ar σ) → va_S A s.heap H locs → lv_has ls 3 [(0, .ref (B 0)), (1, .int l1)] → W p l e { frames := 3, cells := 0, slots := 0, locals := 75 } s m args below meth c H locs 0 0 Q (F0 m 2 ls []) := by
    intro n2
    induction n2 with
    | zero =>
      intro H locs ls σ l1 hf hP hD hS hl
      exact absurd hf (fun h => by cases h)
    | succ n2 ih2 =>
      intro H locs ls σ l1 hf hP hD hS hl
      replace hf : rr_moveSlice_2  (rr_moveSlice_lp2  n2) σ l1 = some (r, σ9) := hf
      unfold rr_moveSlice_2 at hf
      refine lv_iload_n hx hb dX4_moveSlice_2 rfl (lv_at hl 1 rfl) ?_
      refine lv_iconst (v := 4) hx hb dX4_moveSlice_3 (by decide) ?_
      refine lv_icmp_ge (tgt := 70) hx hb dX4_moveSlice_4 (by decide) (fun c1 => ?_) (fun c1 => ?_)
      · replace hf := it_p c1 hf
        exact J70 _ _ _ _ _ hf hP hD hS (lv_sub hl [0, 1] rfl)
      · replace hf := it_n c1 hf
        refine lv_aload_n hx hb dX4_moveSlice_7 rfl (lv_at hl 0 rfl) ?_
        refine va_get (D := D) (ci := 4) (v := .ref (rr_ao σ)) (C := RX4) (T := TX4) (N := 7) hx hb hts in4 hown hK hP 0 rfl rfl 4 (by decide) f38 (fun _ h9 => h9) rfl dX4_moveSlice_8 ?_
        refine va_getN (D := D) (ci := 3) (v := .int (tb_ct (rr_O σ))) (C := RX3) (T := TX3) (N := 6) hx hb hts in3 hown hK hP 15 rfl rfl 5 (by decide) f110 (fun _ h9 => h9) rfl dX4_moveSlice_11 ?_
        refine lv_if_le (tgt := 70) hx hb dX4_moveSlice_14 (by decide) (fun c2 => ?_) (fun c2 => ?_)
        · replace hf := it_p c2 hf
          exact J70 _ _ _ _ _ hf hP hD hS (lv_sub hl [0, 1] rfl)
        · replace hf := it_n c2 hf
          refine lv_aload_n hx hb dX4_moveSlice_17 rfl (lv_at hl 0 rfl) ?_
          refine va_get (D := D) (ci := 4) (v := .ref (rr_ao σ)) (C := RX4) (T := TX4) (N := 7) hx hb hts in4 hown hK hP 0 rfl rfl 4 (by decide) f38 (fun _ h9 => h9) rfl dX4_moveSlice_18 ?_
          obtain ⟨v3, ev3, hf⟩ := bd_ob hf
          refine call_i (As := []) (rest := []) ⟨hx, hb, hml, hown, hts⟩ (tX3_lowestSlotWithKey l D ca (rr_ao σ) (ar (rr_ao σ)) _ (rr_O σ) v3 ev3) (cwV 0 hts gX4_moveSlice_X3_lowestSlotWithKey rfl rfl rfl (by decide +kernel) ⟨Nat.le_of_ble_eq_true rfl, Nat.le_of_ble_eq_true rfl⟩) hN hK hP hD hA hS (fr_ROp ca B ar σ) rfl rfl rfl hl.1 rfl (lv_room (Nat.le_of_ble_eq_true rfl)) dX4_moveSlice_21 ⟨Nat.le_refl _, Nat.le_refl _⟩ (fun H locs hP hD hS => ?_)
          refine lv_istore_n (lv' := [(2, .int v3), (0, .ref (B 0)), (1, .int l1)]) hx hb dX4_moveSlice_24 rfl hl (by decide) rfl (fun ls hl => ?_)
          refine lv_aload_n hx hb dX4_moveSlice_25 rfl (lv_at hl 1 rfl) ?_
          refine va_get (D := D) (ci := 4) (v := .ref (rr_ap σ)) (C := RX4) (T := TX4) (N := 7) hx hb hts in4 hown hK hP 0 rfl rfl 3 (by decide) f34 (fun _ h9 => h9) rfl dX4_moveSlice_26 ?_
          refine lv_aload_n hx hb dX4_moveSlice_29 rfl (lv_at hl 1 rfl) ?_
          refine va_get (D := D) (ci := 4) (v := .ref (rr_ao σ)) (C := RX4) (T := TX4) (N := 7) hx hb hts in4 hown hK hP 0 rfl rfl 4 (by decide) f38 (fun _ h9 => h9) rfl dX4_moveSlice_30 ?_
          refine lv_iload_n hx hb dX4_moveSlice_33 rfl (lv_at hl 0 rfl) ?_
          obtain ⟨v4, ev4, hf⟩ := bd_ob hf
          refine call_i (As := [.int v3]) (rest := [.ref (rr_ap σ)]) ⟨hx, hb, hml, hown, hts⟩ (tX3_keyIn l D ca (rr_ao σ) (ar (rr_ao σ)) _ (rr_O σ) v3 v4 ev4) (cwV 1 hts gX4_moveSlice_X3_keyIn rfl rfl rfl (by decide +kernel) ⟨Nat.le_of_ble_eq_true rfl, Nat.le_of_ble_eq_true rfl⟩) hN hK hP hD hA hS (fr_ROp ca B ar σ) rfl rfl rfl hl.1 rfl (lv_room (Nat.le_of_ble_eq_true rfl)) dX4_moveSlice_34 ⟨Nat.le_refl _, Nat.le_refl _⟩ (fun H locs hP hD hS => ?_)
          refine lv_aload_n hx hb dX4_moveSlice_37 rfl (lv_at hl 1 rfl) ?_
          refine va_get (D := D) (ci := 4) (v := .ref (rr_ao σ)) (C := RX4) (T := TX4) (N := 7) hx hb hts in4 hown hK hP 0 rfl rfl 4 (by decide) f38 (fun _ h9 => h9) rfl dX4_moveSlice_38 ?_
          refine lv_iload_n hx hb dX4_moveSlice_41 rfl (lv_at hl 0 rfl) ?_
          obtain ⟨v5, ev5, hf⟩ := bd_ob hf
          refine call_i (As := [.int v3]) (rest := [.int v4, .ref (rr_ap σ)]) ⟨hx, hb, hml, hown, hts⟩ (tX3_valueIn l D ca (rr_ao σ) (ar (rr_ao σ)) _ (rr_O σ) v3 v5 ev5) (cwV 1 hts gX4_moveSlice_X3_valueIn rfl rfl rfl (by decide +kernel) ⟨Nat.le_of_ble_eq_true rfl, Nat.le_of_ble_eq_true rfl⟩) hN hK hP hD hA hS (fr_ROp ca B ar σ) rfl rfl rfl hl.1 rfl (lv_room (Nat.le_of_ble_eq_true rfl)) dX4_moveSlice_42 ⟨Nat.le_refl _, Nat.le_refl _⟩ (fun H locs hP hD hS => ?_)
          refine lv_aload_n hx hb dX4_moveSlice_45 rfl (lv_at hl 1 rfl) ?_
          refine va_get (D := D) (ci := 4) (v := .ref (rr_ao σ)) (C := RX4) (T := TX4) (N := 7) hx hb hts in4 hown hK hP 0 rfl rfl 4 (by decide) f38 (fun _ h9 => h9) rfl dX4_moveSlice_46 ?_
          refine lv_iload_n hx hb dX4_moveSlice_49 rfl (lv_at hl 0 rfl) ?_
          obtain ⟨v6, ev6, hf⟩ := bd_ob hf
          refine call_i (As := [.int v3]) (rest := [.int v5, .int v4, .ref (rr_ap σ)]) ⟨hx, hb, hml, hown, hts⟩ (tX3_hashIn l D ca (rr_ao σ) (ar (rr_ao σ)) _ (rr_O σ) v3 v6 ev6) (cwV 1 hts gX4_moveSlice_X3_hashIn rfl rfl rfl (by decide +kernel) ⟨Nat.le_of_ble_eq_true rfl, Nat.le_of_ble_eq_true rfl⟩) hN hK hP hD hA hS (fr_ROp ca B ar σ) rfl rfl rfl hl.1 rfl (lv_room (Nat.le_of_ble_eq_true rfl)) dX4_moveSlice_50 ⟨Nat.le_refl _, Nat.le_refl _⟩ (fun H locs hP hD hS => ?_)
          obtain ⟨s8, es8, hf⟩ := bd_ob hf
          refine call_v (As := [.int v4, .int v5, .int v6]) (rest := []) ⟨hx, hb, hml, hown, hts⟩ (tX3_carryIn l D ca (rr_ap σ) (ar (rr_ap σ)) _ (rr_P σ) v4 v5 v6 s8 es8) (cwV 3 hts gX4_moveSlice_X3_carryIn rfl rfl rfl (by decide +kernel) ⟨Nat.le_of_ble_eq_true rfl, Nat.le_of_ble_eq_true rfl⟩) hN hK hP hD hA hS (fr_RP ca B ar σ s8) rfl rfl rfl hl.1 rfl (lv_room (Nat.le_of_ble_eq_true rfl)) dX4_moveSlice_53 ⟨Nat.le_refl _, Nat.le_refl _⟩ (fun H locs hP hD hS => ?_)
          obtain ⟨s9, es9, hf⟩ := nm_ob hf
          have hP : va_P D vwCl (wRR ca B ar s9) H := by rw [← es9]; exact hP
          have hD : va_D A (wRR ca B ar s9) := by rw [← es9]; exact hD
          refine lv_aload_n hx hb dX4_moveSlice_56 rfl (lv_at hl 1 rfl) ?_
          refine va_get (D := D) (ci := 4) (v := .ref (rr_ao s9)) (C := RX4) (T := TX4) (N := 7) hx hb hts in4 hown hK hP 0 rfl rfl 4 (by decide) f38 (fun _ h9 => h9) rfl dX4_moveSlice_57 ?_
          refine lv_iload_n hx hb dX4_moveSlice_60 rfl (lv_at hl 0 rfl) ?_
          obtain ⟨s11, es11, hf⟩ := bd_ob hf
          refine call_v (As := [.int v3]) (rest := []) ⟨hx, hb, hml, hown, hts⟩ (tX3_takeOut l D ca (rr_ao s9) (ar (rr_ao s9)) _ (rr_O s9) v3 s11 es11) (cwV 1 hts gX4_moveSlice_X3_takeOut rfl rfl rfl (by decide +kernel) ⟨Nat.le_of_ble_eq_true rfl, Nat.le_of_ble_eq_true rfl⟩) hN hK hP hD hA hS (fr_RO ca B ar s9 s11) rfl rfl rfl hl.1 rfl (lv_room (Nat.le_of_ble_eq_true rfl)) dX4_moveSlice_61 ⟨Nat.le_refl _, Nat.le_refl _⟩ (fun H locs hP hD hS => ?_)
          obtain ⟨s12, es12, hf⟩ := nm_ob hf
          have hP : va_P D vwCl (wRR ca B ar s12) H := by rw [← es12]; exact hP
          have hD : va_D A (wRR ca B ar s12) := by rw [← es12]; exact hD
          obtain ⟨v13, ev13, hf⟩ := nm_ob hf
          refine lv_iinc (v := v13) (lv' := [(1, .int v13), (2, .int v3), (0, .ref (B 0))]) hx hb dX4_moveSlice_64 hl (k := 2) rfl (by rw [← ev13]; rfl) (by decide) rfl (fun ls hl => ?_)
          refine lv_goto (tgt := 2) hx hb dX4_moveSlice_67 (by decide) ?_
          exact ih2 _ _ _ _ _ hf hP hD hS (lv_sub hl [2, 0] rfl)
  unfold rr_moveSlice at hf
  refine lv_iconst (v := 0) hx hb dX4_moveSlice_0 (by decide) ?_
  refine lv_istore_n (lv' := [(1, .int 0), (0, .ref (B 0))]) hx hb dX4_moveSlice_1 rfl hl (by decide) rfl (fun ls hl => ?_)
  exact J2 FU _ _ _ _ _ hf hP hD hS (lv_sub hl [1, 0] rfl)

def rr_remove  (σ : RR) (a0 : Int32) : Option (Int32 × RR) :=
  bd2 (rr_moveSlice σ) fun v1 s2 =>
  bd (rr_lookUp s2 a0) fun s4 =>
  bd (ss_hasFound (rr_se s4)) fun v5 =>
  if v5 = 0 then
    some ((-1), s4)
  else
    dsp (se_tb (rr_se s4)) (rr_ap s4) (rr_ao s4) (
      bd (tt_valueIn (rr_P s4) (se_slot (rr_se s4))) fun v8 =>
      dsp (se_tb (rr_se s4)) (rr_ap s4) (rr_ao s4) (
        bd (tt_takeOut (rr_P s4) (se_slot (rr_se s4))) fun s11 =>
        nm (rr_P' s4 s11) fun s12 =>
        bd (rr_endMoveIfOldIsEmpty s12) fun s14 =>
        some (v8, s14)) (
        bd (tt_takeOut (rr_O s4) (se_slot (rr_se s4))) fun s16 =>
        nm (rr_O' s4 s16) fun s17 =>
        bd (rr_endMoveIfOldIsEmpty s17) fun s19 =>
        some (v8, s19))) (
      bd (tt_valueIn (rr_O s4) (se_slot (rr_se s4))) fun v20 =>
      dsp (se_tb (rr_se s4)) (rr_ap s4) (rr_ao s4) (
        bd (tt_takeOut (rr_P s4) (se_slot (rr_se s4))) fun s23 =>
        nm (rr_P' s4 s23) fun s24 =>
        bd (rr_endMoveIfOldIsEmpty s24) fun s26 =>
        some (v20, s26)) (
        bd (tt_takeOut (rr_O s4) (se_slot (rr_se s4))) fun s28 =>
        nm (rr_O' s4 s28) fun s29 =>
        bd (rr_endMoveIfOldIsEmpty s29) fun s31 =>
        some (v20, s31)))
set_option maxHeartbeats 4000000 in
set_option maxRecDepth 100000 in
theorem tX4_remove (l : Launch) (D : va_G) (ca : Nat → ClassId) (B : Nat → Nat) (ar : Nat → Nat → Nat) (sz : Nat)  (σ : RR) (a0 : Int32) (r : Int32) (σ9 : RR) (hf : rr_remove σ a0 = some (r, σ9)) : Ci l D ca yX4_remove wsX4_remove { frames := 4, cells := 0, slots := 0, locals := 97 } [.ref (B 0), .int a0] (wRR ca B ar σ) sz r (wRR ca B ar σ9) := by
  refine body_of (cc := cX4_remove) (maxL := 3) (ret := (some .int)) (fun A => Qi D ca r (wRR ca B ar σ9) A) (by decide) rfl (Nat.le_of_ble_eq_true rfl) ?_
  intro p e s m below meth c A ls hx hb hr hml hts hown hlocks hA hK hP hD hS hl hN
  have hl : lv_has ls 3 [(0, .ref (B 0)), (1, .int a0)] := hl
  have hret : ∀ (pc : Nat) (ls : Array Slot) (H : Heap) (locs : List Loc), decode cX4_remove pc = .ok (.ireturn, 1) → va_P D vwCl (wRR ca B ar σ9) H → va_D A (wRR ca B ar σ9) → va_S A s.heap H locs → W p l e { frames := 4, cells := 0, slots := 0, locals := 97 } s m ([.ref (B 0), .int a0] : List Value).toArray below meth c H locs 0 0 (MQ below (Qi D ca r (wRR ca B ar σ9) A) ([.ref (B 0), .int a0] : List Value).toArray s 0 0 A) (F0 m pc ls [.int r]) := fun pc ls H locs hd hP hD hS => ret_i hx hb hr hlocks hK hP hD hS hd
  generalize MQ below (Qi D ca r (wRR ca B ar σ9) A) ([.ref (B 0), .int a0] : List Value).toArray s 0 0 A = Q at hret ⊢
  generalize ([.ref (B 0), .int a0] : List Value).toArray = args at hts hret ⊢
  have f18 := hts (.fieldLink RX4 18 "RobinRow" "search" "LRobinRow$Search;") (by decide +kernel)
  have f87 : (Cond.fieldLinkNest RX4 87 "RobinRow$Search" "table" "LRobinRow$Table;" RX4).before args s = true := va_Nw.use rfl (hN.1 (RX4, 87, "RobinRow$Search", "table", "LRobinRow$Table;") (by decide +kernel))
  have f90 : (Cond.fieldLinkNest RX4 90 "RobinRow$Search" "slot" "I" RX4).before args s = true := va_Nw.use rfl (hN.1 (RX4, 90, "RobinRow$Search", "slot", "I") (by decide +kernel))
  have in1 : ∀ w ∈ u_ws RX1 TX1 4, w ∈ wsX4_remove := by decide +kernel
  have in4 : ∀ w ∈ u_ws RX4 TX4 7, w ∈ wsX4_remove := by decide +kernel
  unfold rr_remove at hf
  refine lv_aload_n hx hb dX4_remove_0 rfl (lv_at hl 0 rfl) ?_
  obtain ⟨v1, s2, ev1, hf⟩ := bd2_ob hf
  refine call_i (As := []) (rest := []) ⟨hx, hb, hml, hown, hts⟩ (tX4_moveSlice l D ca B ar _ σ v1 s2 ev1) (cwV 0 hts gX4_remove_X4_moveSlice rfl rfl rfl (by decide +kernel) ⟨Nat.le_of_ble_eq_true rfl, Nat.le_of_ble_eq_true rfl⟩) hN hK hP hD hA hS (fr_id _ _) rfl rfl rfl hl.1 rfl (lv_room (Nat.le_of_ble_eq_true rfl)) dX4_remove_1 ⟨Nat.le_refl _, Nat.le_refl _⟩ (fun H locs hP hD hS => ?_)
  refine lv_pop hx hb dX4_remove_4 rfl ?_
  refine lv_aload_n hx hb dX4_remove_5 rfl (lv_at hl 0 rfl) ?_
  refine lv_iload_n hx hb dX4_remove_6 rfl (lv_at hl 1 rfl) ?_
  obtain ⟨s4, es4, hf⟩ := bd_ob hf
  refine call_v (As := [.int a0]) (rest := []) ⟨hx, hb, hml, hown, hts⟩ (tX4_lookUp l D ca B ar _ s2 a0 s4 es4) (cwV 1 hts gX4_remove_X4_lookUp rfl rfl rfl (by decide +kernel) ⟨Nat.le_of_ble_eq_true rfl, Nat.le_of_ble_eq_true rfl⟩) hN hK hP hD hA hS (fr_id _ _) rfl rfl rfl hl.1 rfl (lv_room (Nat.le_of_ble_eq_true rfl)) dX4_remove_7 ⟨Nat.le_refl _, Nat.le_refl _⟩ (fun H locs hP hD hS => ?_)
  refine lv_aload_n hx hb dX4_remove_10 rfl (lv_at hl 0 rfl) ?_
  refine va_get (D := D) (ci := 4) (v := .ref (B 6)) (C := RX4) (T := TX4) (N := 7) hx hb hts in4 hown hK hP 0 rfl rfl 1 (by decide) f18 (fun _ h9 => h9) rfl dX4_remove_11 ?_
  obtain ⟨v5, ev5, hf⟩ := bd_ob hf
  refine call_i (As := []) (rest := []) ⟨hx, hb, hml, hown, hts⟩ (tX1_hasFound l D ca (B 6) _ (rr_se s4) v5 ev5) (cwV 0 hts gX4_remove_X1_hasFound rfl rfl rfl (by decide +kernel) ⟨Nat.le_of_ble_eq_true rfl, Nat.le_of_ble_eq_true rfl⟩) hN hK hP hD hA hS (fr_RSp ca B ar s4) rfl rfl rfl hl.1 rfl (lv_room (Nat.le_of_ble_eq_true rfl)) dX4_remove_14 ⟨Nat.le_refl _, Nat.le_refl _⟩ (fun H locs hP hD hS => ?_)
  refine lv_if_ne (tgt := 22) hx hb dX4_remove_17 (by decide) (fun c6 => ?_) (fun c6 => ?_)
  · replace hf := it_n c6 hf
    refine lv_aload_n hx hb dX4_remove_22 rfl (lv_at hl 0 rfl) ?_
    refine va_get (D := D) (ci := 4) (v := .ref (B 6)) (C := RX4) (T := TX4) (N := 7) hx hb hts in4 hown hK hP 0 rfl rfl 1 (by decide) f18 (fun _ h9 => h9) rfl dX4_remove_23 ?_
    refine va_getN (D := D) (ci := 1) (v := va_rf (se_tb (rr_se s4))) (C := RX1) (T := TX1) (N := 4) hx hb hts in1 hown hK hP 6 rfl rfl 0 (by decide) f87 (fun _ h9 => h9) rfl dX4_remove_26 ?_
    refine lv_aload_n hx hb dX4_remove_29 rfl (lv_at hl 0 rfl) ?_
    refine va_get (D := D) (ci := 4) (v := .ref (B 6)) (C := RX4) (T := TX4) (N := 7) hx hb hts in4 hown hK hP 0 rfl rfl 1 (by decide) f18 (fun _ h9 => h9) rfl dX4_remove_30 ?_
    refine va_getN (D := D) (ci := 1) (v := .int (se_slot (rr_se s4))) (C := RX1) (T := TX1) (N := 4) hx hb hts in1 hown hK hP 6 rfl rfl 1 (by decide) f90 (fun _ h9 => h9) rfl dX4_remove_33 ?_
    rcases dsp_ob hf with ⟨c7, hf⟩ | ⟨c7, hf⟩
    · refine W.eq (g2 := F0 m 36 ls [.int (se_slot (rr_se s4)), .ref (rr_ap s4)]) (by rw [c7]; rfl) ?_
      obtain ⟨v8, ev8, hf⟩ := bd_ob hf
      refine call_i (As := [.int (se_slot (rr_se s4))]) (rest := []) ⟨hx, hb, hml, hown, hts⟩ (tX3_valueIn l D ca (rr_ap s4) (ar (rr_ap s4)) _ (rr_P s4) (se_slot (rr_se s4)) v8 ev8) (cwV 1 hts gX4_remove_X3_valueIn rfl rfl rfl (by decide +kernel) ⟨Nat.le_of_ble_eq_true rfl, Nat.le_of_ble_eq_true rfl⟩) hN hK hP hD hA hS (fr_RPp ca B ar s4) rfl rfl rfl hl.1 rfl (lv_room (Nat.le_of_ble_eq_true rfl)) dX4_remove_36 ⟨Nat.le_refl _, Nat.le_refl _⟩ (fun H locs hP hD hS => ?_)
      refine lv_istore_n (lv' := [(2, .int v8), (0, .ref (B 0)), (1, .int a0)]) hx hb dX4_remove_39 rfl hl (by decide) rfl (fun ls hl => ?_)
      refine lv_aload_n hx hb dX4_remove_40 rfl (lv_at hl 1 rfl) ?_
      refine va_get (D := D) (ci := 4) (v := .ref (B 6)) (C := RX4) (T := TX4) (N := 7) hx hb hts in4 hown hK hP 0 rfl rfl 1 (by decide) f18 (fun _ h9 => h9) rfl dX4_remove_41 ?_
      refine va_getN (D := D) (ci := 1) (v := va_rf (se_tb (rr_se s4))) (C := RX1) (T := TX1) (N := 4) hx hb hts in1 hown hK hP 6 rfl rfl 0 (by decide) f87 (fun _ h9 => h9) rfl dX4_remove_44 ?_
      refine lv_aload_n hx hb dX4_remove_47 rfl (lv_at hl 1 rfl) ?_
      refine va_get (D := D) (ci := 4) (v := .ref (B 6)) (C := RX4) (T := TX4) (N := 7) hx hb hts in4 hown hK hP 0 rfl rfl 1 (by decide) f18 (fun _ h9 => h9) rfl dX4_remove_48 ?_
      refine va_getN (D := D) (ci := 1) (v := .int (se_slot (rr_se s4))) (C := RX1) (T := TX1) (N := 4) hx hb hts in1 hown hK hP 6 rfl rfl 1 (by decide) f90 (fun _ h9 => h9) rfl dX4_remove_51 ?_
      rcases dsp_ob hf with ⟨c9, hf⟩ | ⟨c9, hf⟩
      · refine W.eq (g2 := F0 m 54 ls [.int (se_slot (rr_se s4)), .ref (rr_ap s4)]) (by rw [c9]; rfl) ?_
        obtain ⟨s11, es11, hf⟩ := bd_ob hf
        refine call_v (As := [.int (se_slot (rr_se s4))]) (rest := []) ⟨hx, hb, hml, hown, hts⟩ (tX3_takeOut l D ca (rr_ap s4) (ar (rr_ap s4)) _ (rr_P s4) (se_slot (rr_se s4)) s11 es11) (cwV 1 hts gX4_remove_X3_takeOut rfl rfl rfl (by decide +kernel) ⟨Nat.le_of_ble_eq_true rfl, Nat.le_of_ble_eq_true rfl⟩) hN hK hP hD hA hS (fr_RP ca B ar s4 s11) rfl rfl rfl hl.1 rfl (lv_room (Nat.le_of_ble_eq_true rfl)) dX4_remove_54 ⟨Nat.le_refl _, Nat.le_refl _⟩ (fun H locs hP hD hS => ?_)
        obtain ⟨s12, es12, hf⟩ := nm_ob hf
        have hP : va_P D vwCl (wRR ca B ar s12) H := by rw [← es12]; exact hP
        have hD : va_D A (wRR ca B ar s12) := by rw [← es12]; exact hD
        refine lv_aload_n hx hb dX4_remove_57 rfl (lv_at hl 1 rfl) ?_
        obtain ⟨s14, es14, hf⟩ := bd_ob hf
        refine call_v (As := []) (rest := []) ⟨hx, hb, hml, hown, hts⟩ (tX4_endMoveIfOldIsEmpty l D ca B ar _ s12 s14 es14) (cwV 0 hts gX4_remove_X4_endMoveIfOldIsEmpty rfl rfl rfl (by decide +kernel) ⟨Nat.le_of_ble_eq_true rfl, Nat.le_of_ble_eq_true rfl⟩) hN hK hP hD hA hS (fr_id _ _) rfl rfl rfl hl.1 rfl (lv_room (Nat.le_of_ble_eq_true rfl)) dX4_remove_58 ⟨Nat.le_refl _, Nat.le_refl _⟩ (fun H locs hP hD hS => ?_)
        refine lv_iload_n hx hb dX4_remove_61 rfl (lv_at hl 0 rfl) ?_
        obtain ⟨rfl, rfl⟩ := so2 hf
        exact hret _ _ _ _ dX4_remove_62 hP hD hS
      · refine W.eq (g2 := F0 m 54 ls [.int (se_slot (rr_se s4)), .ref (rr_ao s4)]) (by rw [c9]; rfl) ?_
        obtain ⟨s16, es16, hf⟩ := bd_ob hf
        refine call_v (As := [.int (se_slot (rr_se s4))]) (rest := []) ⟨hx, hb, hml, hown, hts⟩ (tX3_takeOut l D ca (rr_ao s4) (ar (rr_ao s4)) _ (rr_O s4) (se_slot (rr_se s4)) s16 es16) (cwV 1 hts gX4_remove_X3_takeOut rfl rfl rfl (by decide +kernel) ⟨Nat.le_of_ble_eq_true rfl, Nat.le_of_ble_eq_true rfl⟩) hN hK hP hD hA hS (fr_RO ca B ar s4 s16) rfl rfl rfl hl.1 rfl (lv_room (Nat.le_of_ble_eq_true rfl)) dX4_remove_54 ⟨Nat.le_refl _, Nat.le_refl _⟩ (fun H locs hP hD hS => ?_)
        obtain ⟨s17, es17, hf⟩ := nm_ob hf
        have hP : va_P D vwCl (wRR ca B ar s17) H := by rw [← es17]; exact hP
        have hD : va_D A (wRR ca B ar s17) := by rw [← es17]; exact hD
        refine lv_aload_n hx hb dX4_remove_57 rfl (lv_at hl 1 rfl) ?_
        obtain ⟨s19, es19, hf⟩ := bd_ob hf
        refine call_v (As := []) (rest := []) ⟨hx, hb, hml, hown, hts⟩ (tX4_endMoveIfOldIsEmpty l D ca B ar _ s17 s19 es19) (cwV 0 hts gX4_remove_X4_endMoveIfOldIsEmpty rfl rfl rfl (by decide +kernel) ⟨Nat.le_of_ble_eq_true rfl, Nat.le_of_ble_eq_true rfl⟩) hN hK hP hD hA hS (fr_id _ _) rfl rfl rfl hl.1 rfl (lv_room (Nat.le_of_ble_eq_true rfl)) dX4_remove_58 ⟨Nat.le_refl _, Nat.le_refl _⟩ (fun H locs hP hD hS => ?_)
        refine lv_iload_n hx hb dX4_remove_61 rfl (lv_at hl 0 rfl) ?_
        obtain ⟨rfl, rfl⟩ := so2 hf
        exact hret _ _ _ _ dX4_remove_62 hP hD hS
    · refine W.eq (g2 := F0 m 36 ls [.int (se_slot (rr_se s4)), .ref (rr_ao s4)]) (by rw [c7]; rfl) ?_
      obtain ⟨v20, ev20, hf⟩ := bd_ob hf
      refine call_i (As := [.int (se_slot (rr_se s4))]) (rest := []) ⟨hx, hb, hml, hown, hts⟩ (tX3_valueIn l D ca (rr_ao s4) (ar (rr_ao s4)) _ (rr_O s4) (se_slot (rr_se s4)) v20 ev20) (cwV 1 hts gX4_remove_X3_valueIn rfl rfl rfl (by decide +kernel) ⟨Nat.le_of_ble_eq_true rfl, Nat.le_of_ble_eq_true rfl⟩) hN hK hP hD hA hS (fr_ROp ca B ar s4) rfl rfl rfl hl.1 rfl (lv_room (Nat.le_of_ble_eq_true rfl)) dX4_remove_36 ⟨Nat.le_refl _, Nat.le_refl _⟩ (fun H locs hP hD hS => ?_)
      refine lv_istore_n (lv' := [(2, .int v20), (0, .ref (B 0)), (1, .int a0)]) hx hb dX4_remove_39 rfl hl (by decide) rfl (fun ls hl => ?_)
      refine lv_aload_n hx hb dX4_remove_40 rfl (lv_at hl 1 rfl) ?_
      refine va_get (D := D) (ci := 4) (v := .ref (B 6)) (C := RX4) (T := TX4) (N := 7) hx hb hts in4 hown hK hP 0 rfl rfl 1 (by decide) f18 (fun _ h9 => h9) rfl dX4_remove_41 ?_
      refine va_getN (D := D) (ci := 1) (v := va_rf (se_tb (rr_se s4))) (C := RX1) (T := TX1) (N := 4) hx hb hts in1 hown hK hP 6 rfl rfl 0 (by decide) f87 (fun _ h9 => h9) rfl dX4_remove_44 ?_
      refine lv_aload_n hx hb dX4_remove_47 rfl (lv_at hl 1 rfl) ?_
      refine va_get (D := D) (ci := 4) (v := .ref (B 6)) (C := RX4) (T := TX4) (N := 7) hx hb hts in4 hown hK hP 0 rfl rfl 1 (by decide) f18 (fun _ h9 => h9) rfl dX4_remove_48 ?_
      refine va_getN (D := D) (ci := 1) (v := .int (se_slot (rr_se s4))) (C := RX1) (T := TX1) (N := 4) hx hb hts in1 hown hK hP 6 rfl rfl 1 (by decide) f90 (fun _ h9 => h9) rfl dX4_remove_51 ?_
      rcases dsp_ob hf with ⟨c21, hf⟩ | ⟨c21, hf⟩
      · refine W.eq (g2 := F0 m 54 ls [.int (se_slot (rr_se s4)), .ref (rr_ap s4)]) (by rw [c21]; rfl) ?_
        obtain ⟨s23, es23, hf⟩ := bd_ob hf
        refine call_v (As := [.int (se_slot (rr_se s4))]) (rest := []) ⟨hx, hb, hml, hown, hts⟩ (tX3_takeOut l D ca (rr_ap s4) (ar (rr_ap s4)) _ (rr_P s4) (se_slot (rr_se s4)) s23 es23) (cwV 1 hts gX4_remove_X3_takeOut rfl rfl rfl (by decide +kernel) ⟨Nat.le_of_ble_eq_true rfl, Nat.le_of_ble_eq_true rfl⟩) hN hK hP hD hA hS (fr_RP ca B ar s4 s23) rfl rfl rfl hl.1 rfl (lv_room (Nat.le_of_ble_eq_true rfl)) dX4_remove_54 ⟨Nat.le_refl _, Nat.le_refl _⟩ (fun H locs hP hD hS => ?_)
        obtain ⟨s24, es24, hf⟩ := nm_ob hf
        have hP : va_P D vwCl (wRR ca B ar s24) H := by rw [← es24]; exact hP
        have hD : va_D A (wRR ca B ar s24) := by rw [← es24]; exact hD
        refine lv_aload_n hx hb dX4_remove_57 rfl (lv_at hl 1 rfl) ?_
        obtain ⟨s26, es26, hf⟩ := bd_ob hf
        refine call_v (As := []) (rest := []) ⟨hx, hb, hml, hown, hts⟩ (tX4_endMoveIfOldIsEmpty l D ca B ar _ s24 s26 es26) (cwV 0 hts gX4_remove_X4_endMoveIfOldIsEmpty rfl rfl rfl (by decide +kernel) ⟨Nat.le_of_ble_eq_true rfl, Nat.le_of_ble_eq_true rfl⟩) hN hK hP hD hA hS (fr_id _ _) rfl rfl rfl hl.1 rfl (lv_room (Nat.le_of_ble_eq_true rfl)) dX4_remove_58 ⟨Nat.le_refl _, Nat.le_refl _⟩ (fun H locs hP hD hS => ?_)
        refine lv_iload_n hx hb dX4_remove_61 rfl (lv_at hl 0 rfl) ?_
        obtain ⟨rfl, rfl⟩ := so2 hf
        exact hret _ _ _ _ dX4_remove_62 hP hD hS
      · refine W.eq (g2 := F0 m 54 ls [.int (se_slot (rr_se s4)), .ref (rr_ao s4)]) (by rw [c21]; rfl) ?_
        obtain ⟨s28, es28, hf⟩ := bd_ob hf
        refine call_v (As := [.int (se_slot (rr_se s4))]) (rest := []) ⟨hx, hb, hml, hown, hts⟩ (tX3_takeOut l D ca (rr_ao s4) (ar (rr_ao s4)) _ (rr_O s4) (se_slot (rr_se s4)) s28 es28) (cwV 1 hts gX4_remove_X3_takeOut rfl rfl rfl (by decide +kernel) ⟨Nat.le_of_ble_eq_true rfl, Nat.le_of_ble_eq_true rfl⟩) hN hK hP hD hA hS (fr_RO ca B ar s4 s28) rfl rfl rfl hl.1 rfl (lv_room (Nat.le_of_ble_eq_true rfl)) dX4_remove_54 ⟨Nat.le_refl _, Nat.le_refl _⟩ (fun H locs hP hD hS => ?_)
        obtain ⟨s29, es29, hf⟩ := nm_ob hf
        have hP : va_P D vwCl (wRR ca B ar s29) H := by rw [← es29]; exact hP
        have hD : va_D A (wRR ca B ar s29) := by rw [← es29]; exact hD
        refine lv_aload_n hx hb dX4_remove_57 rfl (lv_at hl 1 rfl) ?_
        obtain ⟨s31, es31, hf⟩ := bd_ob hf
        refine call_v (As := []) (rest := []) ⟨hx, hb, hml, hown, hts⟩ (tX4_endMoveIfOldIsEmpty l D ca B ar _ s29 s31 es31) (cwV 0 hts gX4_remove_X4_endMoveIfOldIsEmpty rfl rfl rfl (by decide +kernel) ⟨Nat.le_of_ble_eq_true rfl, Nat.le_of_ble_eq_true rfl⟩) hN hK hP hD hA hS (fr_id _ _) rfl rfl rfl hl.1 rfl (lv_room (Nat.le_of_ble_eq_true rfl)) dX4_remove_58 ⟨Nat.le_refl _, Nat.le_refl _⟩ (fun H locs hP hD hS => ?_)
        refine lv_iload_n hx hb dX4_remove_61 rfl (lv_at hl 0 rfl) ?_
        obtain ⟨rfl, rfl⟩ := so2 hf
        exact hret _ _ _ _ dX4_remove_62 hP hD hS
  · replace hf := it_p c6 hf
    refine lv_iconst (v := (-1)) hx hb dX4_remove_20 (by decide) ?_
    obtain ⟨rfl, rfl⟩ := so2 hf
    exact hret _ _ _ _ dX4_remove_21 hP hD hS

def rr_move  (σ : RR)  : Option (Int32 × RR) :=
  bd2 (rr_moveSlice σ) fun v1 s2 =>
  some (v1, s2)
set_option maxHeartbeats 4000000 in
set_option maxRecDepth 100000 in
theorem tX4_move (l : Launch) (D : va_G) (ca : Nat → ClassId) (B : Nat → Nat) (ar : Nat → Nat → Nat) (sz : Nat)  (σ : RR)  (r : Int32) (σ9 : RR) (hf : rr_move σ = some (r, σ9)) : Ci l D ca yX4_move wsX4_move { frames := 4, cells := 0, slots := 0, locals := 97 } [.ref (B 0)] (wRR ca B ar σ) sz r (wRR ca B ar σ9) := by
  refine body_of (cc := cX4_move) (maxL := 1) (ret := (some .int)) (fun A => Qi D ca r (wRR ca B ar σ9) A) (by decide) rfl (Nat.le_of_ble_eq_true rfl) ?_
  intro p e s m below meth c A ls hx hb hr hml hts hown hlocks hA hK hP hD hS hl hN
  have hl : lv_has ls 1 [(0, .ref (B 0))] := hl
  have hret : ∀ (pc : Nat) (ls : Array Slot) (H : Heap) (locs : List Loc), decode cX4_move pc = .ok (.ireturn, 1) → va_P D vwCl (wRR ca B ar σ9) H → va_D A (wRR ca B ar σ9) → va_S A s.heap H locs → W p l e { frames := 4, cells := 0, slots := 0, locals := 97 } s m ([.ref (B 0)] : List Value).toArray below meth c H locs 0 0 (MQ below (Qi D ca r (wRR ca B ar σ9) A) ([.ref (B 0)] : List Value).toArray s 0 0 A) (F0 m pc ls [.int r]) := fun pc ls H locs hd hP hD hS => ret_i hx hb hr hlocks hK hP hD hS hd
  generalize MQ below (Qi D ca r (wRR ca B ar σ9) A) ([.ref (B 0)] : List Value).toArray s 0 0 A = Q at hret ⊢
  generalize ([.ref (B 0)] : List Value).toArray = args at hts hret ⊢
  unfold rr_move at hf
  refine lv_aload_n hx hb dX4_move_0 rfl (lv_at hl 0 rfl) ?_
  obtain ⟨v1, s2, ev1, hf⟩ := bd2_ob hf
  refine call_i (As := []) (rest := []) ⟨hx, hb, hml, hown, hts⟩ (tX4_moveSlice l D ca B ar _ σ v1 s2 ev1) (cwV 0 hts gX4_move_X4_moveSlice rfl rfl rfl (by decide +kernel) ⟨Nat.le_of_ble_eq_true rfl, Nat.le_of_ble_eq_true rfl⟩) hN hK hP hD hA hS (fr_id _ _) rfl rfl rfl hl.1 rfl (lv_room (Nat.le_of_ble_eq_true rfl)) dX4_move_1 ⟨Nat.le_refl _, Nat.le_refl _⟩ (fun H locs hP hD hS => ?_)
  obtain ⟨rfl, rfl⟩ := so2 hf
  exact hret _ _ _ _ dX4_move_4 hP hD hS

def rr_beginMove  (σ : RR)  : Option RR :=
  nm (rr_swap σ) fun s2 =>
  bd (tt_emptyWith (rr_P s2) (2 * (tb_sl (rr_O s2)))) fun s4 =>
  nm (rr_P' s2 s4) fun s5 =>
  nm (rr_begun' s5 ((rr_begun s5) + 1)) fun s6 =>
  some s6
set_option maxHeartbeats 4000000 in
set_option maxRecDepth 100000 in
theorem tX4_beginMove (l : Launch) (D : va_G) (ca : Nat → ClassId) (B : Nat → Nat) (ar : Nat → Nat → Nat) (sz : Nat)  (σ : RR)  (σ9 : RR) (hf : rr_beginMove σ = some σ9) : Cv l D ca yX4_beginMove wsX4_beginMove { frames := 2, cells := 0, slots := 0, locals := 43 } [.ref (B 0)] (wRR ca B ar σ) sz (wRR ca B ar σ9) := by
  refine body_of (cc := cX4_beginMove) (maxL := 2) (ret := none) (fun A => Qv D ca (wRR ca B ar σ9) A) (by decide) rfl (Nat.le_of_ble_eq_true rfl) ?_
  intro p e s m below meth c A ls hx hb hr hml hts hown hlocks hA hK hP hD hS hl hN
  have hl : lv_has ls 2 [(0, .ref (B 0))] := hl
  have hret : ∀ (pc : Nat) (ls : Array Slot) (H : Heap) (locs : List Loc), decode cX4_beginMove pc = .ok (.return_, 1) → va_P D vwCl (wRR ca B ar σ9) H → va_D A (wRR ca B ar σ9) → va_S A s.heap H locs → W p l e { frames := 2, cells := 0, slots := 0, locals := 43 } s m ([.ref (B 0)] : List Value).toArray below meth c H locs 0 0 (MQ below (Qv D ca (wRR ca B ar σ9) A) ([.ref (B 0)] : List Value).toArray s 0 0 A) (F0 m pc ls []) := fun pc ls H locs hd hP hD hS => ret_v hx hb hr hlocks hK hP hD hS hd
  generalize MQ below (Qv D ca (wRR ca B ar σ9) A) ([.ref (B 0)] : List Value).toArray s 0 0 A = Q at hret ⊢
  generalize ([.ref (B 0)] : List Value).toArray = args at hts hret ⊢
  have f168 : (Cond.fieldLinkNest RX4 168 "RobinRow$Table" "slots" "I" RX4).before args s = true := va_Nw.use rfl (hN.1 (RX4, 168, "RobinRow$Table", "slots", "I") (by decide +kernel))
  have f34 := hts (.fieldLink RX4 34 "RobinRow" "present" "LRobinRow$Table;") (by decide +kernel)
  have f38 := hts (.fieldLink RX4 38 "RobinRow" "old" "LRobinRow$Table;") (by decide +kernel)
  have f56 := hts (.fieldLink RX4 56 "RobinRow" "begunMoves" "I") (by decide +kernel)
  have in3 : ∀ w ∈ u_ws RX3 TX3 6, w ∈ wsX4_beginMove := by decide +kernel
  have in4 : ∀ w ∈ u_ws RX4 TX4 7, w ∈ wsX4_beginMove := by decide +kernel
  unfold rr_beginMove at hf
  refine lv_aload_n hx hb dX4_beginMove_0 rfl (lv_at hl 0 rfl) ?_
  refine va_get (D := D) (ci := 4) (v := .ref (rr_ao σ)) (C := RX4) (T := TX4) (N := 7) hx hb hts in4 hown hK hP 0 rfl rfl 4 (by decide) f38 (fun _ h9 => h9) rfl dX4_beginMove_1 ?_
  refine lv_astore_n (lv' := [(1, .ref (rr_ao σ)), (0, .ref (B 0))]) hx hb dX4_beginMove_4 rfl hl (by decide) rfl (fun ls hl => ?_)
  refine lv_aload_n hx hb dX4_beginMove_5 rfl (lv_at hl 1 rfl) ?_
  refine lv_aload_n hx hb dX4_beginMove_6 rfl (lv_at hl 1 rfl) ?_
  refine va_get (D := D) (ci := 4) (v := .ref (rr_ap σ)) (C := RX4) (T := TX4) (N := 7) hx hb hts in4 hown hK hP 0 rfl rfl 3 (by decide) f34 (fun _ h9 => h9) rfl dX4_beginMove_7 ?_
  refine va_put (D := D) (ci := 4) (v := .ref (rr_ap σ)) (ty := .object "RobinRow$Table") (C := RX4) (T := TX4) (N := 7) hx hb hts in4 tyX4 tyX4_ok nmX4 hown hK hP hD hS 0 rfl rfl 4 (by decide) f38 (fun _ h9 => h9) rfl (by decide +kernel) rfl rfl (Nat.le_of_ble_eq_true rfl) dX4_beginMove_10 (fun H locs hP hD hS => ?_)
  refine lv_aload_n hx hb dX4_beginMove_13 rfl (lv_at hl 1 rfl) ?_
  refine lv_aload_n hx hb dX4_beginMove_14 rfl (lv_at hl 0 rfl) ?_
  obtain ⟨s2, es2, hf⟩ := nm_ob hf
  refine va_put (D := D) (ci := 4) (v := .ref (rr_ao σ)) (ty := .object "RobinRow$Table") (C := RX4) (T := TX4) (N := 7) hx hb hts in4 tyX4 tyX4_ok nmX4 hown hK hP hD hS 0 rfl rfl 3 (by decide) f34 (fun _ h9 => h9) rfl (by decide +kernel) rfl rfl (Nat.le_of_ble_eq_true rfl) dX4_beginMove_15 (fun H locs hP hD hS => ?_)
  have hP : va_P D vwCl (wRR ca B ar s2) H := by rw [← es2]; exact hP.sub [0, 1, 2, 3, 4, 5, 6, 7, 8, 9, 15, 16, 17, 18, 19, 10, 11, 12, 13, 14] rfl
  have hD : va_D A (wRR ca B ar s2) := by rw [← es2]; exact hD.sub [0, 1, 2, 3, 4, 5, 6, 7, 8, 9, 15, 16, 17, 18, 19, 10, 11, 12, 13, 14] (by decide) rfl
  refine lv_aload_n hx hb dX4_beginMove_18 rfl (lv_at hl 1 rfl) ?_
  refine va_get (D := D) (ci := 4) (v := .ref (rr_ap s2)) (C := RX4) (T := TX4) (N := 7) hx hb hts in4 hown hK hP 0 rfl rfl 3 (by decide) f34 (fun _ h9 => h9) rfl dX4_beginMove_19 ?_
  refine lv_iconst (v := 2) hx hb dX4_beginMove_22 (by decide) ?_
  refine lv_aload_n hx hb dX4_beginMove_23 rfl (lv_at hl 1 rfl) ?_
  refine va_get (D := D) (ci := 4) (v := .ref (rr_ao s2)) (C := RX4) (T := TX4) (N := 7) hx hb hts in4 hown hK hP 0 rfl rfl 4 (by decide) f38 (fun _ h9 => h9) rfl dX4_beginMove_24 ?_
  refine va_getN (D := D) (ci := 3) (v := .int (tb_sl (rr_O s2))) (C := RX3) (T := TX3) (N := 6) hx hb hts in3 hown hK hP 15 rfl rfl 4 (by decide) f168 (fun _ h9 => h9) rfl dX4_beginMove_27 ?_
  refine lv_imul hx hb dX4_beginMove_30 ?_
  obtain ⟨s4, es4, hf⟩ := bd_ob hf
  refine call_v (As := [.int (2 * (tb_sl (rr_O s2)))]) (rest := []) ⟨hx, hb, hml, hown, hts⟩ (tX3_emptyWith l D ca (rr_ap s2) (ar (rr_ap s2)) _ (rr_P s2) (2 * (tb_sl (rr_O s2))) s4 es4) (cwV 1 hts gX4_beginMove_X3_emptyWith rfl rfl rfl (by decide +kernel) ⟨Nat.le_of_ble_eq_true rfl, Nat.le_of_ble_eq_true rfl⟩) hN hK hP hD hA hS (fr_RP ca B ar s2 s4) rfl rfl rfl hl.1 rfl (lv_room (Nat.le_of_ble_eq_true rfl)) dX4_beginMove_31 ⟨Nat.le_refl _, Nat.le_refl _⟩ (fun H locs hP hD hS => ?_)
  obtain ⟨s5, es5, hf⟩ := nm_ob hf
  have hP : va_P D vwCl (wRR ca B ar s5) H := by rw [← es5]; exact hP
  have hD : va_D A (wRR ca B ar s5) := by rw [← es5]; exact hD
  refine lv_aload_n hx hb dX4_beginMove_34 rfl (lv_at hl 1 rfl) ?_
  refine lv_dup hx hb dX4_beginMove_35 rfl ?_
  refine va_get (D := D) (ci := 4) (v := .int (rr_begun s5)) (C := RX4) (T := TX4) (N := 7) hx hb hts in4 hown hK hP 0 rfl rfl 6 (by decide) f56 (fun _ h9 => h9) rfl dX4_beginMove_36 ?_
  refine lv_iconst (v := 1) hx hb dX4_beginMove_39 (by decide) ?_
  refine lv_iadd hx hb dX4_beginMove_40 ?_
  obtain ⟨s6, es6, hf⟩ := nm_ob hf
  refine va_put (D := D) (ci := 4) (v := .int ((rr_begun s5) + 1)) (ty := .int) (C := RX4) (T := TX4) (N := 7) hx hb hts in4 tyX4 tyX4_ok nmX4 hown hK hP hD hS 0 rfl rfl 6 (by decide) f56 (fun _ h9 => h9) rfl (by decide +kernel) rfl rfl (Nat.le_of_ble_eq_true rfl) dX4_beginMove_41 (fun H locs hP hD hS => ?_)
  have hP : va_P D vwCl (wRR ca B ar s6) H := by rw [← es6]; exact hP
  have hD : va_D A (wRR ca B ar s6) := by rw [← es6]; exact hD
  obtain rfl := so1 hf
  exact hret _ _ _ _ dX4_beginMove_44 hP hD hS

def rr_putNew_26   (σ : RR) (l1 : Int32) (l2 : Int32) : Option RR :=
  bd (rr_hash σ l1) fun v5 =>
  bd (tt_carryIn (rr_P σ) l1 l2 v5) fun s7 =>
  nm (rr_P' σ s7) fun s8 =>
  some s8
def rr_putNew  (σ : RR) (a0 : Int32) (a1 : Int32) : Option RR :=
  bd (rr_size σ) fun v1 =>
  if (8 * (v1 + 1)) ≤ (7 * (tb_sl (rr_P σ))) then
    rr_putNew_26 σ a0 a1
  else
    bd (rr_beginMove σ) fun s4 =>
    rr_putNew_26 s4 a0 a1
set_option maxHeartbeats 4000000 in
set_option maxRecDepth 100000 in
theorem tX4_putNew (l : Launch) (D : va_G) (ca : Nat → ClassId) (B : Nat → Nat) (ar : Nat → Nat → Nat) (sz : Nat)  (σ : RR) (a0 : Int32) (a1 : Int32) (σ9 : RR) (hf : rr_putNew σ a0 a1 = some σ9) : Cv l D ca yX4_putNew wsX4_putNew { frames := 3, cells := 0, slots := 0, locals := 75 } [.ref (B 0), .int a0, .int a1] (wRR ca B ar σ) sz (wRR ca B ar σ9) := by
  refine body_of (cc := cX4_putNew) (maxL := 3) (ret := none) (fun A => Qv D ca (wRR ca B ar σ9) A) (by decide) rfl (Nat.le_of_ble_eq_true rfl) ?_
  intro p e s m below meth c A ls hx hb hr hml hts hown hlocks hA hK hP hD hS hl hN
  have hl : lv_has ls 3 [(0, .ref (B 0)), (1, .int a0), (2, .int a1)] := hl
  have hret : ∀ (pc : Nat) (ls : Array Slot) (H : Heap) (locs : List Loc), decode cX4_putNew pc = .ok (.return_, 1) → va_P D vwCl (wRR ca B ar σ9) H → va_D A (wRR ca B ar σ9) → va_S A s.heap H locs → W p l e { frames := 3, cells := 0, slots := 0, locals := 75 } s m ([.ref (B 0), .int a0, .int a1] : List Value).toArray below meth c H locs 0 0 (MQ below (Qv D ca (wRR ca B ar σ9) A) ([.ref (B 0), .int a0, .int a1] : List Value).toArray s 0 0 A) (F0 m pc ls []) := fun pc ls H locs hd hP hD hS => ret_v hx hb hr hlocks hK hP hD hS hd
  generalize MQ below (Qv D ca (wRR ca B ar σ9) A) ([.ref (B 0), .int a0, .int a1] : List Value).toArray s 0 0 A = Q at hret ⊢
  generalize ([.ref (B 0), .int a0, .int a1] : List Value).toArray = args at hts hret ⊢
  have f168 : (Cond.fieldLinkNest RX4 168 "RobinRow$Table" "slots" "I" RX4).before args s = true := va_Nw.use rfl (hN.1 (RX4, 168, "RobinRow$Table", "slots", "I") (by decide +kernel))
  have f34 := hts (.fieldLink RX4 34 "RobinRow" "present" "LRobinRow$Table;") (by decide +kernel)
  have in3 : ∀ w ∈ u_ws RX3 TX3 6, w ∈ wsX4_putNew := by decide +kernel
  have in4 : ∀ w ∈ u_ws RX4 TX4 7, w ∈ wsX4_putNew := by decide +kernel
  have J26 : ∀ (H : Heap) (locs : List Loc) (ls : Array Slot) (σ : RR) (l1 : Int32) (l2 : Int32), rr_putNew_26  σ l1 l2 = some σ9 → va_P D vwCl (wRR ca B ar σ) H → va_D A (wRR ca B ar σ) → va_S A s.heap H locs → lv_has ls 3 [(0, .ref (B 0)), (1, .int l1), (2, .int l2)] → W p l e { frames := 3, cells := 0, slots := 0, locals := 75 } s m args below meth c H locs 0 0 Q (F0 m 26 ls []) := by
    intro H locs ls σ l1 l2 hf hP hD hS hl
    unfold rr_putNew_26 at hf
    refine lv_aload_n hx hb dX4_putNew_26 rfl (lv_at hl 0 rfl) ?_
    refine va_get (D := D) (ci := 4) (v := .ref (rr_ap σ)) (C := RX4) (T := TX4) (N := 7) hx hb hts in4 hown hK hP 0 rfl rfl 3 (by decide) f34 (fun _ h9 => h9) rfl dX4_putNew_27 ?_
    refine lv_iload_n hx hb dX4_putNew_30 rfl (lv_at hl 1 rfl) ?_
    refine lv_iload_n hx hb dX4_putNew_31 rfl (lv_at hl 2 rfl) ?_
    refine lv_aload_n hx hb dX4_putNew_32 rfl (lv_at hl 0 rfl) ?_
    refine lv_iload_n hx hb dX4_putNew_33 rfl (lv_at hl 1 rfl) ?_
    obtain ⟨v5, ev5, hf⟩ := bd_ob hf
    refine call_i (As := [.int l1]) (rest := [.int l2, .int l1, .ref (rr_ap σ)]) ⟨hx, hb, hml, hown, hts⟩ (tX4_hash l D ca B ar _ σ l1 v5 ev5) (cwV 1 hts gX4_putNew_X4_hash rfl rfl rfl (by decide +kernel) ⟨Nat.le_of_ble_eq_true rfl, Nat.le_of_ble_eq_true rfl⟩) hN hK hP hD hA hS (fr_id _ _) rfl rfl rfl hl.1 rfl (lv_room (Nat.le_of_ble_eq_true rfl)) dX4_putNew_34 ⟨Nat.le_refl _, Nat.le_refl _⟩ (fun H locs hP hD hS => ?_)
    obtain ⟨s7, es7, hf⟩ := bd_ob hf
    refine call_v (As := [.int l1, .int l2, .int v5]) (rest := []) ⟨hx, hb, hml, hown, hts⟩ (tX3_carryIn l D ca (rr_ap σ) (ar (rr_ap σ)) _ (rr_P σ) l1 l2 v5 s7 es7) (cwV 3 hts gX4_putNew_X3_carryIn rfl rfl rfl (by decide +kernel) ⟨Nat.le_of_ble_eq_true rfl, Nat.le_of_ble_eq_true rfl⟩) hN hK hP hD hA hS (fr_RP ca B ar σ s7) rfl rfl rfl hl.1 rfl (lv_room (Nat.le_of_ble_eq_true rfl)) dX4_putNew_37 ⟨Nat.le_refl _, Nat.le_refl _⟩ (fun H locs hP hD hS => ?_)
    obtain ⟨s8, es8, hf⟩ := nm_ob hf
    have hP : va_P D vwCl (wRR ca B ar s8) H := by rw [← es8]; exact hP
    have hD : va_D A (wRR ca B ar s8) := by rw [← es8]; exact hD
    obtain rfl := so1 hf
    exact hret _ _ _ _ dX4_putNew_40 hP hD hS
  unfold rr_putNew at hf
  refine lv_bipush (v := 8) hx hb dX4_putNew_0 (by decide) ?_
  refine lv_aload_n hx hb dX4_putNew_2 rfl (lv_at hl 0 rfl) ?_
  obtain ⟨v1, ev1, hf⟩ := bd_ob hf
  refine call_i (As := []) (rest := [.int 8]) ⟨hx, hb, hml, hown, hts⟩ (tX4_size l D ca B ar _ σ v1 ev1) (cwV 0 hts gX4_putNew_X4_size rfl rfl rfl (by decide +kernel) ⟨Nat.le_of_ble_eq_true rfl, Nat.le_of_ble_eq_true rfl⟩) hN hK hP hD hA hS (fr_id _ _) rfl rfl rfl hl.1 rfl (lv_room (Nat.le_of_ble_eq_true rfl)) dX4_putNew_3 ⟨Nat.le_refl _, Nat.le_refl _⟩ (fun H locs hP hD hS => ?_)
  refine lv_iconst (v := 1) hx hb dX4_putNew_6 (by decide) ?_
  refine lv_iadd hx hb dX4_putNew_7 ?_
  refine lv_imul hx hb dX4_putNew_8 ?_
  refine lv_bipush (v := 7) hx hb dX4_putNew_9 (by decide) ?_
  refine lv_aload_n hx hb dX4_putNew_11 rfl (lv_at hl 0 rfl) ?_
  refine va_get (D := D) (ci := 4) (v := .ref (rr_ap σ)) (C := RX4) (T := TX4) (N := 7) hx hb hts in4 hown hK hP 0 rfl rfl 3 (by decide) f34 (fun _ h9 => h9) rfl dX4_putNew_12 ?_
  refine va_getN (D := D) (ci := 3) (v := .int (tb_sl (rr_P σ))) (C := RX3) (T := TX3) (N := 6) hx hb hts in3 hown hK hP 10 rfl rfl 4 (by decide) f168 (fun _ h9 => h9) rfl dX4_putNew_15 ?_
  refine lv_imul hx hb dX4_putNew_18 ?_
  refine lv_icmp_le (tgt := 26) hx hb dX4_putNew_19 (by decide) (fun c2 => ?_) (fun c2 => ?_)
  · replace hf := it_p c2 hf
    exact J26 _ _ _ _ _ _ hf hP hD hS (lv_sub hl [0, 1, 2] rfl)
  · replace hf := it_n c2 hf
    refine lv_aload_n hx hb dX4_putNew_22 rfl (lv_at hl 0 rfl) ?_
    obtain ⟨s4, es4, hf⟩ := bd_ob hf
    refine call_v (As := []) (rest := []) ⟨hx, hb, hml, hown, hts⟩ (tX4_beginMove l D ca B ar _ σ s4 es4) (cwV 0 hts gX4_putNew_X4_beginMove rfl rfl rfl (by decide +kernel) ⟨Nat.le_of_ble_eq_true rfl, Nat.le_of_ble_eq_true rfl⟩) hN hK hP hD hA hS (fr_id _ _) rfl rfl rfl hl.1 rfl (lv_room (Nat.le_of_ble_eq_true rfl)) dX4_putNew_23 ⟨Nat.le_refl _, Nat.le_refl _⟩ (fun H locs hP hD hS => ?_)
    exact J26 _ _ _ _ _ _ hf hP hD hS (lv_sub hl [0, 1, 2] rfl)

def rr_put_43   (σ : RR) (l1 : Int32) (l2 : Int32) : Option (Int32 × RR) :=
  bd2 (rr_moveSlice σ) fun v7 s8 =>
  bd (rr_lookUp s8 l1) fun s10 =>
  bd (ss_hasFound (rr_se s10)) fun v11 =>
  if v11 = 0 then
    bd (rr_putNew s10 l1 l2) fun s14 =>
    some ((-1), s14)
  else
    dsp (se_tb (rr_se s10)) (rr_ap s10) (rr_ao s10) (
      bd2 (tt_exchangeValue (rr_P s10) (se_slot (rr_se s10)) l2) fun v16 s17 =>
      nm (rr_P' s10 s17) fun s18 =>
      some (v16, s18)) (
      bd2 (tt_exchangeValue (rr_O s10) (se_slot (rr_se s10)) l2) fun v19 s20 =>
      nm (rr_O' s10 s20) fun s21 =>
      some (v19, s21))
def rr_put  (σ : RR) (a0 : Int32) (a1 : Int32) : Option (Int32 × RR) :=
  if 0 ≤ a1 then
    bd (rr_size σ) fun v2 =>
    if v2 < 200 then
      rr_put_43 σ a0 a1
    else
      bd2 (rr_get σ a0) fun v4 s5 =>
      if v4 = (-1) then
        none
      else
        rr_put_43 s5 a0 a1
  else
    none
set_option maxHeartbeats 4000000 in
set_option maxRecDepth 100000 in
theorem tX4_put (l : Launch) (D : va_G) (ca : Nat → ClassId) (B : Nat → Nat) (ar : Nat → Nat → Nat) (sz : Nat)  (σ : RR) (a0 : Int32) (a1 : Int32) (r : Int32) (σ9 : RR) (hf : rr_put σ a0 a1 = some (r, σ9)) : Ci l D ca yX4_put wsX4_put { frames := 5, cells := 0, slots := 0, locals := 117 } [.ref (B 0), .int a0, .int a1] (wRR ca B ar σ) sz r (wRR ca B ar σ9) := by
  refine body_of (cc := cX4_put) (maxL := 3) (ret := (some .int)) (fun A => Qi D ca r (wRR ca B ar σ9) A) (by decide) rfl (Nat.le_of_ble_eq_true rfl) ?_
  intro p e s m below meth c A ls hx hb hr hml hts hown hlocks hA hK hP hD hS hl hN
  have hl : lv_has ls 3 [(0, .ref (B 0)), (1, .int a0), (2, .int a1)] := hl
  have hret : ∀ (pc : Nat) (ls : Array Slot) (H : Heap) (locs : List Loc), decode cX4_put pc = .ok (.ireturn, 1) → va_P D vwCl (wRR ca B ar σ9) H → va_D A (wRR ca B ar σ9) → va_S A s.heap H locs → W p l e { frames := 5, cells := 0, slots := 0, locals := 117 } s m ([.ref (B 0), .int a0, .int a1] : List Value).toArray below meth c H locs 0 0 (MQ below (Qi D ca r (wRR ca B ar σ9) A) ([.ref (B 0), .int a0, .int a1] : List Value).toArray s 0 0 A) (F0 m pc ls [.int r]) := fun pc ls H locs hd hP hD hS => ret_i hx hb hr hlocks hK hP hD hS hd
  generalize MQ below (Qi D ca r (wRR ca B ar σ9) A) ([.ref (B 0), .int a0, .int a1] : List Value).toArray s 0 0 A = Q at hret ⊢
  generalize ([.ref (B 0), .int a0, .int a1] : List Value).toArray = args at hts hret ⊢
  have f18 := hts (.fieldLink RX4 18 "RobinRow" "search" "LRobinRow$Search;") (by decide +kernel)
  have f87 : (Cond.fieldLinkNest RX4 87 "RobinRow$Search" "table" "LRobinRow$Table;" RX4).before args s = true := va_Nw.use rfl (hN.1 (RX4, 87, "RobinRow$Search", "table", "LRobinRow$Table;") (by decide +kernel))
  have f90 : (Cond.fieldLinkNest RX4 90 "RobinRow$Search" "slot" "I" RX4).before args s = true := va_Nw.use rfl (hN.1 (RX4, 90, "RobinRow$Search", "slot", "I") (by decide +kernel))
  have in1 : ∀ w ∈ u_ws RX1 TX1 4, w ∈ wsX4_put := by decide +kernel
  have in4 : ∀ w ∈ u_ws RX4 TX4 7, w ∈ wsX4_put := by decide +kernel
  have J43 : ∀ (H : Heap) (locs : List Loc) (ls : Array Slot) (σ : RR) (l1 : Int32) (l2 : Int32), rr_put_43  σ l1 l2 = some (r, σ9) → va_P D vwCl (wRR ca B ar σ) H → va_D A (wRR ca B ar σ) → va_S A s.heap H locs → lv_has ls 3 [(0, .ref (B 0)), (1, .int l1), (2, .int l2)] → W p l e { frames := 5, cells := 0, slots := 0, locals := 117 } s m args below meth c H locs 0 0 Q (F0 m 43 ls []) := by
    intro H locs ls σ l1 l2 hf hP hD hS hl
    unfold rr_put_43 at hf
    refine lv_aload_n hx hb dX4_put_43 rfl (lv_at hl 0 rfl) ?_
    obtain ⟨v7, s8, ev7, hf⟩ := bd2_ob hf
    refine call_i (As := []) (rest := []) ⟨hx, hb, hml, hown, hts⟩ (tX4_moveSlice l D ca B ar _ σ v7 s8 ev7) (cwV 0 hts gX4_put_X4_moveSlice rfl rfl rfl (by decide +kernel) ⟨Nat.le_of_ble_eq_true rfl, Nat.le_of_ble_eq_true rfl⟩) hN hK hP hD hA hS (fr_id _ _) rfl rfl rfl hl.1 rfl (lv_room (Nat.le_of_ble_eq_true rfl)) dX4_put_44 ⟨Nat.le_refl _, Nat.le_refl _⟩ (fun H locs hP hD hS => ?_)
    refine lv_pop hx hb dX4_put_47 rfl ?_
    refine lv_aload_n hx hb dX4_put_48 rfl (lv_at hl 0 rfl) ?_
    refine lv_iload_n hx hb dX4_put_49 rfl (lv_at hl 1 rfl) ?_
    obtain ⟨s10, es10, hf⟩ := bd_ob hf
    refine call_v (As := [.int l1]) (rest := []) ⟨hx, hb, hml, hown, hts⟩ (tX4_lookUp l D ca B ar _ s8 l1 s10 es10) (cwV 1 hts gX4_put_X4_lookUp rfl rfl rfl (by decide +kernel) ⟨Nat.le_of_ble_eq_true rfl, Nat.le_of_ble_eq_true rfl⟩) hN hK hP hD hA hS (fr_id _ _) rfl rfl rfl hl.1 rfl (lv_room (Nat.le_of_ble_eq_true rfl)) dX4_put_50 ⟨Nat.le_refl _, Nat.le_refl _⟩ (fun H locs hP hD hS => ?_)
    refine lv_aload_n hx hb dX4_put_53 rfl (lv_at hl 0 rfl) ?_
    refine va_get (D := D) (ci := 4) (v := .ref (B 6)) (C := RX4) (T := TX4) (N := 7) hx hb hts in4 hown hK hP 0 rfl rfl 1 (by decide) f18 (fun _ h9 => h9) rfl dX4_put_54 ?_
    obtain ⟨v11, ev11, hf⟩ := bd_ob hf
    refine call_i (As := []) (rest := []) ⟨hx, hb, hml, hown, hts⟩ (tX1_hasFound l D ca (B 6) _ (rr_se s10) v11 ev11) (cwV 0 hts gX4_put_X1_hasFound rfl rfl rfl (by decide +kernel) ⟨Nat.le_of_ble_eq_true rfl, Nat.le_of_ble_eq_true rfl⟩) hN hK hP hD hA hS (fr_RSp ca B ar s10) rfl rfl rfl hl.1 rfl (lv_room (Nat.le_of_ble_eq_true rfl)) dX4_put_57 ⟨Nat.le_refl _, Nat.le_refl _⟩ (fun H locs hP hD hS => ?_)
    refine lv_if_eq (tgt := 82) hx hb dX4_put_60 (by decide) (fun c12 => ?_) (fun c12 => ?_)
    · replace hf := it_p c12 hf
      refine lv_aload_n hx hb dX4_put_82 rfl (lv_at hl 0 rfl) ?_
      refine lv_iload_n hx hb dX4_put_83 rfl (lv_at hl 1 rfl) ?_
      refine lv_iload_n hx hb dX4_put_84 rfl (lv_at hl 2 rfl) ?_
      obtain ⟨s14, es14, hf⟩ := bd_ob hf
      refine call_v (As := [.int l1, .int l2]) (rest := []) ⟨hx, hb, hml, hown, hts⟩ (tX4_putNew l D ca B ar _ s10 l1 l2 s14 es14) (cwV 2 hts gX4_put_X4_putNew rfl rfl rfl (by decide +kernel) ⟨Nat.le_of_ble_eq_true rfl, Nat.le_of_ble_eq_true rfl⟩) hN hK hP hD hA hS (fr_id _ _) rfl rfl rfl hl.1 rfl (lv_room (Nat.le_of_ble_eq_true rfl)) dX4_put_85 ⟨Nat.le_refl _, Nat.le_refl _⟩ (fun H locs hP hD hS => ?_)
      refine lv_iconst (v := (-1)) hx hb dX4_put_88 (by decide) ?_
      obtain ⟨rfl, rfl⟩ := so2 hf
      exact hret _ _ _ _ dX4_put_89 hP hD hS
    · replace hf := it_n c12 hf
      refine lv_aload_n hx hb dX4_put_63 rfl (lv_at hl 0 rfl) ?_
      refine va_get (D := D) (ci := 4) (v := .ref (B 6)) (C := RX4) (T := TX4) (N := 7) hx hb hts in4 hown hK hP 0 rfl rfl 1 (by decide) f18 (fun _ h9 => h9) rfl dX4_put_64 ?_
      refine va_getN (D := D) (ci := 1) (v := va_rf (se_tb (rr_se s10))) (C := RX1) (T := TX1) (N := 4) hx hb hts in1 hown hK hP 6 rfl rfl 0 (by decide) f87 (fun _ h9 => h9) rfl dX4_put_67 ?_
      refine lv_aload_n hx hb dX4_put_70 rfl (lv_at hl 0 rfl) ?_
      refine va_get (D := D) (ci := 4) (v := .ref (B 6)) (C := RX4) (T := TX4) (N := 7) hx hb hts in4 hown hK hP 0 rfl rfl 1 (by decide) f18 (fun _ h9 => h9) rfl dX4_put_71 ?_
      refine va_getN (D := D) (ci := 1) (v := .int (se_slot (rr_se s10))) (C := RX1) (T := TX1) (N := 4) hx hb hts in1 hown hK hP 6 rfl rfl 1 (by decide) f90 (fun _ h9 => h9) rfl dX4_put_74 ?_
      refine lv_iload_n hx hb dX4_put_77 rfl (lv_at hl 2 rfl) ?_
      rcases dsp_ob hf with ⟨c15, hf⟩ | ⟨c15, hf⟩
      · refine W.eq (g2 := F0 m 78 ls [.int l2, .int (se_slot (rr_se s10)), .ref (rr_ap s10)]) (by rw [c15]; rfl) ?_
        obtain ⟨v16, s17, ev16, hf⟩ := bd2_ob hf
        refine call_i (As := [.int (se_slot (rr_se s10)), .int l2]) (rest := []) ⟨hx, hb, hml, hown, hts⟩ (tX3_exchangeValue l D ca (rr_ap s10) (ar (rr_ap s10)) _ (rr_P s10) (se_slot (rr_se s10)) l2 v16 s17 ev16) (cwV 2 hts gX4_put_X3_exchangeValue rfl rfl rfl (by decide +kernel) ⟨Nat.le_of_ble_eq_true rfl, Nat.le_of_ble_eq_true rfl⟩) hN hK hP hD hA hS (fr_RP ca B ar s10 s17) rfl rfl rfl hl.1 rfl (lv_room (Nat.le_of_ble_eq_true rfl)) dX4_put_78 ⟨Nat.le_refl _, Nat.le_refl _⟩ (fun H locs hP hD hS => ?_)
        obtain ⟨s18, es18, hf⟩ := nm_ob hf
        have hP : va_P D vwCl (wRR ca B ar s18) H := by rw [← es18]; exact hP
        have hD : va_D A (wRR ca B ar s18) := by rw [← es18]; exact hD
        obtain ⟨rfl, rfl⟩ := so2 hf
        exact hret _ _ _ _ dX4_put_81 hP hD hS
      · refine W.eq (g2 := F0 m 78 ls [.int l2, .int (se_slot (rr_se s10)), .ref (rr_ao s10)]) (by rw [c15]; rfl) ?_
        obtain ⟨v19, s20, ev19, hf⟩ := bd2_ob hf
        refine call_i (As := [.int (se_slot (rr_se s10)), .int l2]) (rest := []) ⟨hx, hb, hml, hown, hts⟩ (tX3_exchangeValue l D ca (rr_ao s10) (ar (rr_ao s10)) _ (rr_O s10) (se_slot (rr_se s10)) l2 v19 s20 ev19) (cwV 2 hts gX4_put_X3_exchangeValue rfl rfl rfl (by decide +kernel) ⟨Nat.le_of_ble_eq_true rfl, Nat.le_of_ble_eq_true rfl⟩) hN hK hP hD hA hS (fr_RO ca B ar s10 s20) rfl rfl rfl hl.1 rfl (lv_room (Nat.le_of_ble_eq_true rfl)) dX4_put_78 ⟨Nat.le_refl _, Nat.le_refl _⟩ (fun H locs hP hD hS => ?_)
        obtain ⟨s21, es21, hf⟩ := nm_ob hf
        have hP : va_P D vwCl (wRR ca B ar s21) H := by rw [← es21]; exact hP
        have hD : va_D A (wRR ca B ar s21) := by rw [← es21]; exact hD
        obtain ⟨rfl, rfl⟩ := so2 hf
        exact hret _ _ _ _ dX4_put_81 hP hD hS
  unfold rr_put at hf
  refine lv_iload_n hx hb dX4_put_0 rfl (lv_at hl 2 rfl) ?_
  refine lv_if_ge (tgt := 14) hx hb dX4_put_1 (by decide) (fun c1 => ?_) (fun c1 => ?_)
  · replace hf := it_p c1 hf
    refine lv_aload_n hx hb dX4_put_14 rfl (lv_at hl 0 rfl) ?_
    obtain ⟨v2, ev2, hf⟩ := bd_ob hf
    refine call_i (As := []) (rest := []) ⟨hx, hb, hml, hown, hts⟩ (tX4_size l D ca B ar _ σ v2 ev2) (cwV 0 hts gX4_put_X4_size rfl rfl rfl (by decide +kernel) ⟨Nat.le_of_ble_eq_true rfl, Nat.le_of_ble_eq_true rfl⟩) hN hK hP hD hA hS (fr_id _ _) rfl rfl rfl hl.1 rfl (lv_room (Nat.le_of_ble_eq_true rfl)) dX4_put_15 ⟨Nat.le_refl _, Nat.le_refl _⟩ (fun H locs hP hD hS => ?_)
    refine lv_sipush (v := 200) hx hb dX4_put_18 (by decide) ?_
    refine lv_icmp_lt (tgt := 43) hx hb dX4_put_21 (by decide) (fun c3 => ?_) (fun c3 => ?_)
    · replace hf := it_p c3 hf
      exact J43 _ _ _ _ _ _ hf hP hD hS (lv_sub hl [0, 1, 2] rfl)
    · replace hf := it_n c3 hf
      refine lv_aload_n hx hb dX4_put_24 rfl (lv_at hl 0 rfl) ?_
      refine lv_iload_n hx hb dX4_put_25 rfl (lv_at hl 1 rfl) ?_
      obtain ⟨v4, s5, ev4, hf⟩ := bd2_ob hf
      refine call_i (As := [.int a0]) (rest := []) ⟨hx, hb, hml, hown, hts⟩ (tX4_get l D ca B ar _ σ a0 v4 s5 ev4) (cwV 1 hts gX4_put_X4_get rfl rfl rfl (by decide +kernel) ⟨Nat.le_of_ble_eq_true rfl, Nat.le_of_ble_eq_true rfl⟩) hN hK hP hD hA hS (fr_id _ _) rfl rfl rfl hl.1 rfl (lv_room (Nat.le_of_ble_eq_true rfl)) dX4_put_26 ⟨Nat.le_refl _, Nat.le_refl _⟩ (fun H locs hP hD hS => ?_)
      refine lv_iconst (v := (-1)) hx hb dX4_put_29 (by decide) ?_
      refine lv_icmp_ne (tgt := 43) hx hb dX4_put_30 (by decide) (fun c6 => ?_) (fun c6 => ?_)
      · replace hf := it_n c6 hf
        exact J43 _ _ _ _ _ _ hf hP hD hS (lv_sub hl [0, 1, 2] rfl)
      · replace hf := it_p c6 hf
        exact absurd hf (fun h => by cases h)
  · replace hf := it_n c1 hf
    exact absurd hf (fun h => by cases h)

def rr_longest_4  (σ : RR) (k4 : Int32 → Int32 → Option Int32)  (l1 : Int32) (l2 : Int32) : Option Int32 :=
  if (tb_sl (rr_P σ)) ≤ l2 then
    some l1
  else
    bd (tt_distanceIn (rr_P σ) l2) fun v2 =>
    nm (if l1 < v2 then v2 else l1) fun v3 =>
    nm (l2 + 1) fun v4 =>
    k4 v3 v4
def rr_longest_lp4  (σ : RR)  : Nat → Int32 → Int32 → Option Int32 := itF (fun _ _ => none) (fun k => rr_longest_4 σ  k)
def rr_longest  (σ : RR)  : Option Int32 :=
  rr_longest_lp4 σ FU (-1) 0
set_option maxHeartbeats 4000000 in
set_option maxRecDepth 100000 in
theorem tX4_longest (l : Launch) (D : va_G) (ca : Nat → ClassId) (B : Nat → Nat) (ar : Nat → Nat → Nat) (sz : Nat)  (σ : RR)  (r : Int32) (hf : rr_longest σ = some r) : Ci l D ca yX4_longest wsX4_longest { frames := 2, cells := 0, slots := 0, locals := 42 } [.ref (B 0)] (wRR ca B ar σ) sz r (wRR ca B ar σ) := by
  refine body_of (cc := cX4_longest) (maxL := 3) (ret := (some .int)) (fun A => Qi D ca r (wRR ca B ar σ) A) (by decide) rfl (Nat.le_of_ble_eq_true rfl) ?_
  intro p e s m below meth c A ls hx hb hr hml hts hown hlocks hA hK hP hD hS hl hN
  have hl : lv_has ls 3 [(0, .ref (B 0))] := hl
  have hret : ∀ (pc : Nat) (ls : Array Slot) (H : Heap) (locs : List Loc), decode cX4_longest pc = .ok (.ireturn, 1) → va_P D vwCl (wRR ca B ar σ) H → va_D A (wRR ca B ar σ) → va_S A s.heap H locs → W p l e { frames := 2, cells := 0, slots := 0, locals := 42 } s m ([.ref (B 0)] : List Value).toArray below meth c H locs 0 0 (MQ below (Qi D ca r (wRR ca B ar σ) A) ([.ref (B 0)] : List Value).toArray s 0 0 A) (F0 m pc ls [.int r]) := fun pc ls H locs hd hP hD hS => ret_i hx hb hr hlocks hK hP hD hS hd
  generalize MQ below (Qi D ca r (wRR ca B ar σ) A) ([.ref (B 0)] : List Value).toArray s 0 0 A = Q at hret ⊢
  generalize ([.ref (B 0)] : List Value).toArray = args at hts hret ⊢
  have f168 : (Cond.fieldLinkNest RX4 168 "RobinRow$Table" "slots" "I" RX4).before args s = true := va_Nw.use rfl (hN.1 (RX4, 168, "RobinRow$Table", "slots", "I") (by decide +kernel))
  have f34 := hts (.fieldLink RX4 34 "RobinRow" "present" "LRobinRow$Table;") (by decide +kernel)
  have in3 : ∀ w ∈ u_ws RX3 TX3 6, w ∈ wsX4_longest := by decide +kernel
  have in4 : ∀ w ∈ u_ws RX4 TX4 7, w ∈ wsX4_longest := by decide +kernel
  have J4 : ∀ (n4 : Nat) (H : Heap) (locs : List Loc) (ls : Array Slot)  (l1 : Int32) (l2 : Int32), rr_longest_lp4 σ  n4 l1 l2 = some r → va_P D vwCl (wRR ca B ar σ) H → va_D A (wRR ca B ar σ) → va_S A s.heap H locs → lv_has ls 3 [(0, .ref (B 0)), (1, .int l1), (2, .int l2)] → W p l e { frames := 2, cells := 0, slots := 0, locals := 42 } s m args below meth c H locs 0 0 Q (F0 m 4 ls []) := by
    intro n4
    induction n4 with
    | zero =>
      intro H locs ls l1 l2 hf hP hD hS hl
      exact absurd hf (fun h => by cases h)
    | succ n4 ih4 =>
      intro H locs ls l1 l2 hf hP hD hS hl
      replace hf : rr_longest_4 σ  (rr_longest_lp4 σ  n4) l1 l2 = some r := hf
      unfold rr_longest_4 at hf
      refine lv_iload_n hx hb dX4_longest_4 rfl (lv_at hl 2 rfl) ?_
      refine lv_aload_n hx hb dX4_longest_5 rfl (lv_at hl 0 rfl) ?_
      refine va_get (D := D) (ci := 4) (v := .ref (rr_ap σ)) (C := RX4) (T := TX4) (N := 7) hx hb hts in4 hown hK hP 0 rfl rfl 3 (by decide) f34 (fun _ h9 => h9) rfl dX4_longest_6 ?_
      refine va_getN (D := D) (ci := 3) (v := .int (tb_sl (rr_P σ))) (C := RX3) (T := TX3) (N := 6) hx hb hts in3 hown hK hP 10 rfl rfl 4 (by decide) f168 (fun _ h9 => h9) rfl dX4_longest_9 ?_
      refine lv_icmp_ge (tgt := 34) hx hb dX4_longest_12 (by decide) (fun c1 => ?_) (fun c1 => ?_)
      · replace hf := it_p c1 hf
        refine lv_iload_n hx hb dX4_longest_34 rfl (lv_at hl 1 rfl) ?_
        obtain rfl := so1 hf
        exact hret _ _ _ _ dX4_longest_35 hP hD hS
      · replace hf := it_n c1 hf
        refine lv_iload_n hx hb dX4_longest_15 rfl (lv_at hl 1 rfl) ?_
        refine lv_aload_n hx hb dX4_longest_16 rfl (lv_at hl 0 rfl) ?_
        refine va_get (D := D) (ci := 4) (v := .ref (rr_ap σ)) (C := RX4) (T := TX4) (N := 7) hx hb hts in4 hown hK hP 0 rfl rfl 3 (by decide) f34 (fun _ h9 => h9) rfl dX4_longest_17 ?_
        refine lv_iload_n hx hb dX4_longest_20 rfl (lv_at hl 2 rfl) ?_
        obtain ⟨v2, ev2, hf⟩ := bd_ob hf
        refine call_i (As := [.int l2]) (rest := [.int l1]) ⟨hx, hb, hml, hown, hts⟩ (tX3_distanceIn l D ca (rr_ap σ) (ar (rr_ap σ)) _ (rr_P σ) l2 v2 ev2) (cwV 1 hts gX4_longest_X3_distanceIn rfl rfl rfl (by decide +kernel) ⟨Nat.le_of_ble_eq_true rfl, Nat.le_of_ble_eq_true rfl⟩) hN hK hP hD hA hS (fr_RPp ca B ar σ) rfl rfl rfl hl.1 rfl (lv_room (Nat.le_of_ble_eq_true rfl)) dX4_longest_21 ⟨Nat.le_refl _, Nat.le_refl _⟩ (fun H locs hP hD hS => ?_)
        refine va_mmax hx hb (hml.trans hl.1.symm) hown (hts (.methodLink RX4 188 Lib.Math.max.name) (by decide +kernel)) (hts (.static Lib.Math.max.name) (by decide +kernel)) (hts (.initialized "java/lang/Math") (by decide +kernel)) (hts (.code Lib.Math.max.name Lib.Math.max.code 2 (some .int)) (by decide +kernel)) (Nat.le_of_ble_eq_true rfl) (Nat.le_of_ble_eq_true rfl) (Nat.zero_le _) (Nat.zero_le _) dX4_longest_24 ?_
        obtain ⟨v3, ev3, hf⟩ := nm_ob hf
        refine tp_i ev3 ?_
        refine lv_istore_n (lv' := [(1, .int v3), (0, .ref (B 0)), (2, .int l2)]) hx hb dX4_longest_27 rfl hl (by decide) rfl (fun ls hl => ?_)
        obtain ⟨v4, ev4, hf⟩ := nm_ob hf
        refine lv_iinc (v := v4) (lv' := [(2, .int v4), (1, .int v3), (0, .ref (B 0))]) hx hb dX4_longest_28 hl (k := 2) rfl (by rw [← ev4]; rfl) (by decide) rfl (fun ls hl => ?_)
        refine lv_goto (tgt := 4) hx hb dX4_longest_31 (by decide) ?_
        exact ih4 _ _ _ _ _ hf hP hD hS (lv_sub hl [2, 1, 0] rfl)
  unfold rr_longest at hf
  refine lv_iconst (v := (-1)) hx hb dX4_longest_0 (by decide) ?_
  refine lv_istore_n (lv' := [(1, .int (-1)), (0, .ref (B 0))]) hx hb dX4_longest_1 rfl hl (by decide) rfl (fun ls hl => ?_)
  refine lv_iconst (v := 0) hx hb dX4_longest_2 (by decide) ?_
  refine lv_istore_n (lv' := [(2, .int 0), (1, .int (-1)), (0, .ref (B 0))]) hx hb dX4_longest_3 rfl hl (by decide) rfl (fun ls hl => ?_)
  exact J4 FU _ _ _ _ _ hf hP hD hS (lv_sub hl [2, 1, 0] rfl)

def rr_total_4  (σ : RR) (k4 : Int32 → Int32 → Option Int32)  (l1 : Int32) (l2 : Int32) : Option Int32 :=
  if (tb_sl (rr_P σ)) ≤ l2 then
    some l1
  else
    bd (tt_distanceIn (rr_P σ) l2) fun v2 =>
    nm (l1 + (if 0 < v2 then v2 else 0)) fun v3 =>
    nm (l2 + 1) fun v4 =>
    k4 v3 v4
def rr_total_lp4  (σ : RR)  : Nat → Int32 → Int32 → Option Int32 := itF (fun _ _ => none) (fun k => rr_total_4 σ  k)
def rr_total  (σ : RR)  : Option Int32 :=
  rr_total_lp4 σ FU 0 0
set_option maxHeartbeats 4000000 in
set_option maxRecDepth 100000 in
theorem tX4_total (l : Launch) (D : va_G) (ca : Nat → ClassId) (B : Nat → Nat) (ar : Nat → Nat → Nat) (sz : Nat)  (σ : RR)  (r : Int32) (hf : rr_total σ = some r) : Ci l D ca yX4_total wsX4_total { frames := 2, cells := 0, slots := 0, locals := 42 } [.ref (B 0)] (wRR ca B ar σ) sz r (wRR ca B ar σ) := by
  refine body_of (cc := cX4_total) (maxL := 3) (ret := (some .int)) (fun A => Qi D ca r (wRR ca B ar σ) A) (by decide) rfl (Nat.le_of_ble_eq_true rfl) ?_
  intro p e s m below meth c A ls hx hb hr hml hts hown hlocks hA hK hP hD hS hl hN
  have hl : lv_has ls 3 [(0, .ref (B 0))] := hl
  have hret : ∀ (pc : Nat) (ls : Array Slot) (H : Heap) (locs : List Loc), decode cX4_total pc = .ok (.ireturn, 1) → va_P D vwCl (wRR ca B ar σ) H → va_D A (wRR ca B ar σ) → va_S A s.heap H locs → W p l e { frames := 2, cells := 0, slots := 0, locals := 42 } s m ([.ref (B 0)] : List Value).toArray below meth c H locs 0 0 (MQ below (Qi D ca r (wRR ca B ar σ) A) ([.ref (B 0)] : List Value).toArray s 0 0 A) (F0 m pc ls [.int r]) := fun pc ls H locs hd hP hD hS => ret_i hx hb hr hlocks hK hP hD hS hd
  generalize MQ below (Qi D ca r (wRR ca B ar σ) A) ([.ref (B 0)] : List Value).toArray s 0 0 A = Q at hret ⊢
  generalize ([.ref (B 0)] : List Value).toArray = args at hts hret ⊢
  have f168 : (Cond.fieldLinkNest RX4 168 "RobinRow$Table" "slots" "I" RX4).before args s = true := va_Nw.use rfl (hN.1 (RX4, 168, "RobinRow$Table", "slots", "I") (by decide +kernel))
  have f34 := hts (.fieldLink RX4 34 "RobinRow" "present" "LRobinRow$Table;") (by decide +kernel)
  have in3 : ∀ w ∈ u_ws RX3 TX3 6, w ∈ wsX4_total := by decide +kernel
  have in4 : ∀ w ∈ u_ws RX4 TX4 7, w ∈ wsX4_total := by decide +kernel
  have J4 : ∀ (n4 : Nat) (H : Heap) (locs : List Loc) (ls : Array Slot)  (l1 : Int32) (l2 : Int32), rr_total_lp4 σ  n4 l1 l2 = some r → va_P D vwCl (wRR ca B ar σ) H → va_D A (wRR ca B ar σ) → va_S A s.heap H locs → lv_has ls 3 [(0, .ref (B 0)), (1, .int l1), (2, .int l2)] → W p l e { frames := 2, cells := 0, slots := 0, locals := 42 } s m args below meth c H locs 0 0 Q (F0 m 4 ls []) := by
    intro n4
    induction n4 with
    | zero =>
      intro H locs ls l1 l2 hf hP hD hS hl
      exact absurd hf (fun h => by cases h)
    | succ n4 ih4 =>
      intro H locs ls l1 l2 hf hP hD hS hl
      replace hf : rr_total_4 σ  (rr_total_lp4 σ  n4) l1 l2 = some r := hf
      unfold rr_total_4 at hf
      refine lv_iload_n hx hb dX4_total_4 rfl (lv_at hl 2 rfl) ?_
      refine lv_aload_n hx hb dX4_total_5 rfl (lv_at hl 0 rfl) ?_
      refine va_get (D := D) (ci := 4) (v := .ref (rr_ap σ)) (C := RX4) (T := TX4) (N := 7) hx hb hts in4 hown hK hP 0 rfl rfl 3 (by decide) f34 (fun _ h9 => h9) rfl dX4_total_6 ?_
      refine va_getN (D := D) (ci := 3) (v := .int (tb_sl (rr_P σ))) (C := RX3) (T := TX3) (N := 6) hx hb hts in3 hown hK hP 10 rfl rfl 4 (by decide) f168 (fun _ h9 => h9) rfl dX4_total_9 ?_
      refine lv_icmp_ge (tgt := 36) hx hb dX4_total_12 (by decide) (fun c1 => ?_) (fun c1 => ?_)
      · replace hf := it_p c1 hf
        refine lv_iload_n hx hb dX4_total_36 rfl (lv_at hl 1 rfl) ?_
        obtain rfl := so1 hf
        exact hret _ _ _ _ dX4_total_37 hP hD hS
      · replace hf := it_n c1 hf
        refine lv_iload_n hx hb dX4_total_15 rfl (lv_at hl 1 rfl) ?_
        refine lv_iconst (v := 0) hx hb dX4_total_16 (by decide) ?_
        refine lv_aload_n hx hb dX4_total_17 rfl (lv_at hl 0 rfl) ?_
        refine va_get (D := D) (ci := 4) (v := .ref (rr_ap σ)) (C := RX4) (T := TX4) (N := 7) hx hb hts in4 hown hK hP 0 rfl rfl 3 (by decide) f34 (fun _ h9 => h9) rfl dX4_total_18 ?_
        refine lv_iload_n hx hb dX4_total_21 rfl (lv_at hl 2 rfl) ?_
        obtain ⟨v2, ev2, hf⟩ := bd_ob hf
        refine call_i (As := [.int l2]) (rest := [.int 0, .int l1]) ⟨hx, hb, hml, hown, hts⟩ (tX3_distanceIn l D ca (rr_ap σ) (ar (rr_ap σ)) _ (rr_P σ) l2 v2 ev2) (cwV 1 hts gX4_total_X3_distanceIn rfl rfl rfl (by decide +kernel) ⟨Nat.le_of_ble_eq_true rfl, Nat.le_of_ble_eq_true rfl⟩) hN hK hP hD hA hS (fr_RPp ca B ar σ) rfl rfl rfl hl.1 rfl (lv_room (Nat.le_of_ble_eq_true rfl)) dX4_total_22 ⟨Nat.le_refl _, Nat.le_refl _⟩ (fun H locs hP hD hS => ?_)
        refine va_mmax hx hb (hml.trans hl.1.symm) hown (hts (.methodLink RX4 188 Lib.Math.max.name) (by decide +kernel)) (hts (.static Lib.Math.max.name) (by decide +kernel)) (hts (.initialized "java/lang/Math") (by decide +kernel)) (hts (.code Lib.Math.max.name Lib.Math.max.code 2 (some .int)) (by decide +kernel)) (Nat.le_of_ble_eq_true rfl) (Nat.le_of_ble_eq_true rfl) (Nat.zero_le _) (Nat.zero_le _) dX4_total_25 ?_
        refine lv_iadd hx hb dX4_total_28 ?_
        obtain ⟨v3, ev3, hf⟩ := nm_ob hf
        refine tp_i ev3 ?_
        refine lv_istore_n (lv' := [(1, .int v3), (0, .ref (B 0)), (2, .int l2)]) hx hb dX4_total_29 rfl hl (by decide) rfl (fun ls hl => ?_)
        obtain ⟨v4, ev4, hf⟩ := nm_ob hf
        refine lv_iinc (v := v4) (lv' := [(2, .int v4), (1, .int v3), (0, .ref (B 0))]) hx hb dX4_total_30 hl (k := 2) rfl (by rw [← ev4]; rfl) (by decide) rfl (fun ls hl => ?_)
        refine lv_goto (tgt := 4) hx hb dX4_total_33 (by decide) ?_
        exact ih4 _ _ _ _ _ hf hP hD hS (lv_sub hl [2, 1, 0] rfl)
  unfold rr_total at hf
  refine lv_iconst (v := 0) hx hb dX4_total_0 (by decide) ?_
  refine lv_istore_n (lv' := [(1, .int 0), (0, .ref (B 0))]) hx hb dX4_total_1 rfl hl (by decide) rfl (fun ls hl => ?_)
  refine lv_iconst (v := 0) hx hb dX4_total_2 (by decide) ?_
  refine lv_istore_n (lv' := [(2, .int 0), (1, .int 0), (0, .ref (B 0))]) hx hb dX4_total_3 rfl hl (by decide) rfl (fun ls hl => ?_)
  exact J4 FU _ _ _ _ _ hf hP hD hS (lv_sub hl [2, 1, 0] rfl)

def rr_groups  (σ : RR) (a0 : Int32) : Option (Int32 × RR) :=
  bd (rr_lookUp σ a0) fun s2 =>
  some ((se_groups (rr_se s2)), s2)
set_option maxHeartbeats 4000000 in
set_option maxRecDepth 100000 in
theorem tX4_groups (l : Launch) (D : va_G) (ca : Nat → ClassId) (B : Nat → Nat) (ar : Nat → Nat → Nat) (sz : Nat)  (σ : RR) (a0 : Int32) (r : Int32) (σ9 : RR) (hf : rr_groups σ a0 = some (r, σ9)) : Ci l D ca yX4_groups wsX4_groups { frames := 4, cells := 0, slots := 0, locals := 96 } [.ref (B 0), .int a0] (wRR ca B ar σ) sz r (wRR ca B ar σ9) := by
  refine body_of (cc := cX4_groups) (maxL := 2) (ret := (some .int)) (fun A => Qi D ca r (wRR ca B ar σ9) A) (by decide) rfl (Nat.le_of_ble_eq_true rfl) ?_
  intro p e s m below meth c A ls hx hb hr hml hts hown hlocks hA hK hP hD hS hl hN
  have hl : lv_has ls 2 [(0, .ref (B 0)), (1, .int a0)] := hl
  have hret : ∀ (pc : Nat) (ls : Array Slot) (H : Heap) (locs : List Loc), decode cX4_groups pc = .ok (.ireturn, 1) → va_P D vwCl (wRR ca B ar σ9) H → va_D A (wRR ca B ar σ9) → va_S A s.heap H locs → W p l e { frames := 4, cells := 0, slots := 0, locals := 96 } s m ([.ref (B 0), .int a0] : List Value).toArray below meth c H locs 0 0 (MQ below (Qi D ca r (wRR ca B ar σ9) A) ([.ref (B 0), .int a0] : List Value).toArray s 0 0 A) (F0 m pc ls [.int r]) := fun pc ls H locs hd hP hD hS => ret_i hx hb hr hlocks hK hP hD hS hd
  generalize MQ below (Qi D ca r (wRR ca B ar σ9) A) ([.ref (B 0), .int a0] : List Value).toArray s 0 0 A = Q at hret ⊢
  generalize ([.ref (B 0), .int a0] : List Value).toArray = args at hts hret ⊢
  have f18 := hts (.fieldLink RX4 18 "RobinRow" "search" "LRobinRow$Search;") (by decide +kernel)
  have f193 : (Cond.fieldLinkNest RX4 193 "RobinRow$Search" "groups" "I" RX4).before args s = true := va_Nw.use rfl (hN.1 (RX4, 193, "RobinRow$Search", "groups", "I") (by decide +kernel))
  have in1 : ∀ w ∈ u_ws RX1 TX1 4, w ∈ wsX4_groups := by decide +kernel
  have in4 : ∀ w ∈ u_ws RX4 TX4 7, w ∈ wsX4_groups := by decide +kernel
  unfold rr_groups at hf
  refine lv_aload_n hx hb dX4_groups_0 rfl (lv_at hl 0 rfl) ?_
  refine lv_iload_n hx hb dX4_groups_1 rfl (lv_at hl 1 rfl) ?_
  obtain ⟨s2, es2, hf⟩ := bd_ob hf
  refine call_v (As := [.int a0]) (rest := []) ⟨hx, hb, hml, hown, hts⟩ (tX4_lookUp l D ca B ar _ σ a0 s2 es2) (cwV 1 hts gX4_groups_X4_lookUp rfl rfl rfl (by decide +kernel) ⟨Nat.le_of_ble_eq_true rfl, Nat.le_of_ble_eq_true rfl⟩) hN hK hP hD hA hS (fr_id _ _) rfl rfl rfl hl.1 rfl (lv_room (Nat.le_of_ble_eq_true rfl)) dX4_groups_2 ⟨Nat.le_refl _, Nat.le_refl _⟩ (fun H locs hP hD hS => ?_)
  refine lv_aload_n hx hb dX4_groups_5 rfl (lv_at hl 0 rfl) ?_
  refine va_get (D := D) (ci := 4) (v := .ref (B 6)) (C := RX4) (T := TX4) (N := 7) hx hb hts in4 hown hK hP 0 rfl rfl 1 (by decide) f18 (fun _ h9 => h9) rfl dX4_groups_6 ?_
  refine va_getN (D := D) (ci := 1) (v := .int (se_groups (rr_se s2))) (C := RX1) (T := TX1) (N := 4) hx hb hts in1 hown hK hP 6 rfl rfl 2 (by decide) f193 (fun _ h9 => h9) rfl dX4_groups_9 ?_
  obtain ⟨rfl, rfl⟩ := so2 hf
  exact hret _ _ _ _ dX4_groups_12 hP hD hS

def rr_comparisons  (σ : RR) (a0 : Int32) : Option (Int32 × RR) :=
  bd (rr_lookUp σ a0) fun s2 =>
  some ((se_comps (rr_se s2)), s2)
set_option maxHeartbeats 4000000 in
set_option maxRecDepth 100000 in
theorem tX4_comparisons (l : Launch) (D : va_G) (ca : Nat → ClassId) (B : Nat → Nat) (ar : Nat → Nat → Nat) (sz : Nat)  (σ : RR) (a0 : Int32) (r : Int32) (σ9 : RR) (hf : rr_comparisons σ a0 = some (r, σ9)) : Ci l D ca yX4_comparisons wsX4_comparisons { frames := 4, cells := 0, slots := 0, locals := 96 } [.ref (B 0), .int a0] (wRR ca B ar σ) sz r (wRR ca B ar σ9) := by
  refine body_of (cc := cX4_comparisons) (maxL := 2) (ret := (some .int)) (fun A => Qi D ca r (wRR ca B ar σ9) A) (by decide) rfl (Nat.le_of_ble_eq_true rfl) ?_
  intro p e s m below meth c A ls hx hb hr hml hts hown hlocks hA hK hP hD hS hl hN
  have hl : lv_has ls 2 [(0, .ref (B 0)), (1, .int a0)] := hl
  have hret : ∀ (pc : Nat) (ls : Array Slot) (H : Heap) (locs : List Loc), decode cX4_comparisons pc = .ok (.ireturn, 1) → va_P D vwCl (wRR ca B ar σ9) H → va_D A (wRR ca B ar σ9) → va_S A s.heap H locs → W p l e { frames := 4, cells := 0, slots := 0, locals := 96 } s m ([.ref (B 0), .int a0] : List Value).toArray below meth c H locs 0 0 (MQ below (Qi D ca r (wRR ca B ar σ9) A) ([.ref (B 0), .int a0] : List Value).toArray s 0 0 A) (F0 m pc ls [.int r]) := fun pc ls H locs hd hP hD hS => ret_i hx hb hr hlocks hK hP hD hS hd
  generalize MQ below (Qi D ca r (wRR ca B ar σ9) A) ([.ref (B 0), .int a0] : List Value).toArray s 0 0 A = Q at hret ⊢
  generalize ([.ref (B 0), .int a0] : List Value).toArray = args at hts hret ⊢
  have f18 := hts (.fieldLink RX4 18 "RobinRow" "search" "LRobinRow$Search;") (by decide +kernel)
  have f196 : (Cond.fieldLinkNest RX4 196 "RobinRow$Search" "comparisons" "I" RX4).before args s = true := va_Nw.use rfl (hN.1 (RX4, 196, "RobinRow$Search", "comparisons", "I") (by decide +kernel))
  have in1 : ∀ w ∈ u_ws RX1 TX1 4, w ∈ wsX4_comparisons := by decide +kernel
  have in4 : ∀ w ∈ u_ws RX4 TX4 7, w ∈ wsX4_comparisons := by decide +kernel
  unfold rr_comparisons at hf
  refine lv_aload_n hx hb dX4_comparisons_0 rfl (lv_at hl 0 rfl) ?_
  refine lv_iload_n hx hb dX4_comparisons_1 rfl (lv_at hl 1 rfl) ?_
  obtain ⟨s2, es2, hf⟩ := bd_ob hf
  refine call_v (As := [.int a0]) (rest := []) ⟨hx, hb, hml, hown, hts⟩ (tX4_lookUp l D ca B ar _ σ a0 s2 es2) (cwV 1 hts gX4_comparisons_X4_lookUp rfl rfl rfl (by decide +kernel) ⟨Nat.le_of_ble_eq_true rfl, Nat.le_of_ble_eq_true rfl⟩) hN hK hP hD hA hS (fr_id _ _) rfl rfl rfl hl.1 rfl (lv_room (Nat.le_of_ble_eq_true rfl)) dX4_comparisons_2 ⟨Nat.le_refl _, Nat.le_refl _⟩ (fun H locs hP hD hS => ?_)
  refine lv_aload_n hx hb dX4_comparisons_5 rfl (lv_at hl 0 rfl) ?_
  refine va_get (D := D) (ci := 4) (v := .ref (B 6)) (C := RX4) (T := TX4) (N := 7) hx hb hts in4 hown hK hP 0 rfl rfl 1 (by decide) f18 (fun _ h9 => h9) rfl dX4_comparisons_6 ?_
  refine va_getN (D := D) (ci := 1) (v := .int (se_comps (rr_se s2))) (C := RX1) (T := TX1) (N := 4) hx hb hts in1 hown hK hP 6 rfl rfl 3 (by decide) f196 (fun _ h9 => h9) rfl dX4_comparisons_9 ?_
  obtain ⟨rfl, rfl⟩ := so2 hf
  exact hret _ _ _ _ dX4_comparisons_12 hP hD hS

def rr_plainTotal  (σ : RR)  : Option (Int32 × RR) :=
  bd (pp_fillFrom (rr_P σ) (rr_pl σ)) fun s2 =>
  nm (rr_pl' σ s2) fun s3 =>
  some ((pl_total (rr_pl s3)), s3)
set_option maxHeartbeats 4000000 in
set_option maxRecDepth 100000 in
theorem tX4_plainTotal (l : Launch) (D : va_G) (ca : Nat → ClassId) (B : Nat → Nat) (ar : Nat → Nat → Nat) (sz : Nat)  (σ : RR)  (r : Int32) (σ9 : RR) (hf : rr_plainTotal σ = some (r, σ9)) : Ci l D ca yX4_plainTotal wsX4_plainTotal { frames := 3, cells := 0, slots := 0, locals := 69 } [.ref (B 0)] (wRR ca B ar σ) sz r (wRR ca B ar σ9) := by
  refine body_of (cc := cX4_plainTotal) (maxL := 1) (ret := (some .int)) (fun A => Qi D ca r (wRR ca B ar σ9) A) (by decide) rfl (Nat.le_of_ble_eq_true rfl) ?_
  intro p e s m below meth c A ls hx hb hr hml hts hown hlocks hA hK hP hD hS hl hN
  have hl : lv_has ls 1 [(0, .ref (B 0))] := hl
  have hret : ∀ (pc : Nat) (ls : Array Slot) (H : Heap) (locs : List Loc), decode cX4_plainTotal pc = .ok (.ireturn, 1) → va_P D vwCl (wRR ca B ar σ9) H → va_D A (wRR ca B ar σ9) → va_S A s.heap H locs → W p l e { frames := 3, cells := 0, slots := 0, locals := 69 } s m ([.ref (B 0)] : List Value).toArray below meth c H locs 0 0 (MQ below (Qi D ca r (wRR ca B ar σ9) A) ([.ref (B 0)] : List Value).toArray s 0 0 A) (F0 m pc ls [.int r]) := fun pc ls H locs hd hP hD hS => ret_i hx hb hr hlocks hK hP hD hS hd
  generalize MQ below (Qi D ca r (wRR ca B ar σ9) A) ([.ref (B 0)] : List Value).toArray s 0 0 A = Q at hret ⊢
  generalize ([.ref (B 0)] : List Value).toArray = args at hts hret ⊢
  have f216 : (Cond.fieldLinkNest RX4 216 "RobinRow$PlainRow" "total" "I" RX4).before args s = true := va_Nw.use rfl (hN.1 (RX4, 216, "RobinRow$PlainRow", "total", "I") (by decide +kernel))
  have f25 := hts (.fieldLink RX4 25 "RobinRow" "plainRow" "LRobinRow$PlainRow;") (by decide +kernel)
  have f34 := hts (.fieldLink RX4 34 "RobinRow" "present" "LRobinRow$Table;") (by decide +kernel)
  have in0 : ∀ w ∈ u_ws RX0 TX0 4, w ∈ wsX4_plainTotal := by decide +kernel
  have in4 : ∀ w ∈ u_ws RX4 TX4 7, w ∈ wsX4_plainTotal := by decide +kernel
  unfold rr_plainTotal at hf
  refine lv_aload_n hx hb dX4_plainTotal_0 rfl (lv_at hl 0 rfl) ?_
  refine va_get (D := D) (ci := 4) (v := .ref (B 7)) (C := RX4) (T := TX4) (N := 7) hx hb hts in4 hown hK hP 0 rfl rfl 2 (by decide) f25 (fun _ h9 => h9) rfl dX4_plainTotal_1 ?_
  refine lv_aload_n hx hb dX4_plainTotal_4 rfl (lv_at hl 0 rfl) ?_
  refine va_get (D := D) (ci := 4) (v := .ref (rr_ap σ)) (C := RX4) (T := TX4) (N := 7) hx hb hts in4 hown hK hP 0 rfl rfl 3 (by decide) f34 (fun _ h9 => h9) rfl dX4_plainTotal_5 ?_
  obtain ⟨s2, es2, hf⟩ := bd_ob hf
  refine call_v (As := [.ref (rr_ap σ)]) (rest := []) ⟨hx, hb, hml, hown, hts⟩ (tX0_fillFrom l D ca (B 7) (fun i => B (8 + i)) (rr_ap σ) (ar (rr_ap σ)) _ (rr_P σ) (rr_pl σ) s2 es2) (cwV 1 hts gX4_plainTotal_X0_fillFrom rfl rfl rfl (by decide +kernel) ⟨Nat.le_of_ble_eq_true rfl, Nat.le_of_ble_eq_true rfl⟩) hN hK hP hD hA hS (fr_RPP ca B ar σ s2) rfl rfl rfl hl.1 rfl (lv_room (Nat.le_of_ble_eq_true rfl)) dX4_plainTotal_8 ⟨Nat.le_refl _, Nat.le_refl _⟩ (fun H locs hP hD hS => ?_)
  obtain ⟨s3, es3, hf⟩ := nm_ob hf
  have hP : va_P D vwCl (wRR ca B ar s3) H := by rw [← es3]; exact hP
  have hD : va_D A (wRR ca B ar s3) := by rw [← es3]; exact hD
  refine lv_aload_n hx hb dX4_plainTotal_11 rfl (lv_at hl 0 rfl) ?_
  refine va_get (D := D) (ci := 4) (v := .ref (B 7)) (C := RX4) (T := TX4) (N := 7) hx hb hts in4 hown hK hP 0 rfl rfl 2 (by decide) f25 (fun _ h9 => h9) rfl dX4_plainTotal_12 ?_
  refine va_getN (D := D) (ci := 0) (v := .int (pl_total (rr_pl s3))) (C := RX0) (T := TX0) (N := 4) hx hb hts in0 hown hK hP 7 rfl rfl 2 (by decide) f216 (fun _ h9 => h9) rfl dX4_plainTotal_15 ?_
  obtain ⟨rfl, rfl⟩ := so2 hf
  exact hret _ _ _ _ dX4_plainTotal_18 hP hD hS

def rr_plainLongest  (σ : RR)  : Option (Int32 × RR) :=
  bd (pp_fillFrom (rr_P σ) (rr_pl σ)) fun s2 =>
  nm (rr_pl' σ s2) fun s3 =>
  some ((pl_longest (rr_pl s3)), s3)
set_option maxHeartbeats 4000000 in
set_option maxRecDepth 100000 in
theorem tX4_plainLongest (l : Launch) (D : va_G) (ca : Nat → ClassId) (B : Nat → Nat) (ar : Nat → Nat → Nat) (sz : Nat)  (σ : RR)  (r : Int32) (σ9 : RR) (hf : rr_plainLongest σ = some (r, σ9)) : Ci l D ca yX4_plainLongest wsX4_plainLongest { frames := 3, cells := 0, slots := 0, locals := 69 } [.ref (B 0)] (wRR ca B ar σ) sz r (wRR ca B ar σ9) := by
  refine body_of (cc := cX4_plainLongest) (maxL := 1) (ret := (some .int)) (fun A => Qi D ca r (wRR ca B ar σ9) A) (by decide) rfl (Nat.le_of_ble_eq_true rfl) ?_
  intro p e s m below meth c A ls hx hb hr hml hts hown hlocks hA hK hP hD hS hl hN
  have hl : lv_has ls 1 [(0, .ref (B 0))] := hl
  have hret : ∀ (pc : Nat) (ls : Array Slot) (H : Heap) (locs : List Loc), decode cX4_plainLongest pc = .ok (.ireturn, 1) → va_P D vwCl (wRR ca B ar σ9) H → va_D A (wRR ca B ar σ9) → va_S A s.heap H locs → W p l e { frames := 3, cells := 0, slots := 0, locals := 69 } s m ([.ref (B 0)] : List Value).toArray below meth c H locs 0 0 (MQ below (Qi D ca r (wRR ca B ar σ9) A) ([.ref (B 0)] : List Value).toArray s 0 0 A) (F0 m pc ls [.int r]) := fun pc ls H locs hd hP hD hS => ret_i hx hb hr hlocks hK hP hD hS hd
  generalize MQ below (Qi D ca r (wRR ca B ar σ9) A) ([.ref (B 0)] : List Value).toArray s 0 0 A = Q at hret ⊢
  generalize ([.ref (B 0)] : List Value).toArray = args at hts hret ⊢
  have f219 : (Cond.fieldLinkNest RX4 219 "RobinRow$PlainRow" "longest" "I" RX4).before args s = true := va_Nw.use rfl (hN.1 (RX4, 219, "RobinRow$PlainRow", "longest", "I") (by decide +kernel))
  have f25 := hts (.fieldLink RX4 25 "RobinRow" "plainRow" "LRobinRow$PlainRow;") (by decide +kernel)
  have f34 := hts (.fieldLink RX4 34 "RobinRow" "present" "LRobinRow$Table;") (by decide +kernel)
  have in0 : ∀ w ∈ u_ws RX0 TX0 4, w ∈ wsX4_plainLongest := by decide +kernel
  have in4 : ∀ w ∈ u_ws RX4 TX4 7, w ∈ wsX4_plainLongest := by decide +kernel
  unfold rr_plainLongest at hf
  refine lv_aload_n hx hb dX4_plainLongest_0 rfl (lv_at hl 0 rfl) ?_
  refine va_get (D := D) (ci := 4) (v := .ref (B 7)) (C := RX4) (T := TX4) (N := 7) hx hb hts in4 hown hK hP 0 rfl rfl 2 (by decide) f25 (fun _ h9 => h9) rfl dX4_plainLongest_1 ?_
  refine lv_aload_n hx hb dX4_plainLongest_4 rfl (lv_at hl 0 rfl) ?_
  refine va_get (D := D) (ci := 4) (v := .ref (rr_ap σ)) (C := RX4) (T := TX4) (N := 7) hx hb hts in4 hown hK hP 0 rfl rfl 3 (by decide) f34 (fun _ h9 => h9) rfl dX4_plainLongest_5 ?_
  obtain ⟨s2, es2, hf⟩ := bd_ob hf
  refine call_v (As := [.ref (rr_ap σ)]) (rest := []) ⟨hx, hb, hml, hown, hts⟩ (tX0_fillFrom l D ca (B 7) (fun i => B (8 + i)) (rr_ap σ) (ar (rr_ap σ)) _ (rr_P σ) (rr_pl σ) s2 es2) (cwV 1 hts gX4_plainLongest_X0_fillFrom rfl rfl rfl (by decide +kernel) ⟨Nat.le_of_ble_eq_true rfl, Nat.le_of_ble_eq_true rfl⟩) hN hK hP hD hA hS (fr_RPP ca B ar σ s2) rfl rfl rfl hl.1 rfl (lv_room (Nat.le_of_ble_eq_true rfl)) dX4_plainLongest_8 ⟨Nat.le_refl _, Nat.le_refl _⟩ (fun H locs hP hD hS => ?_)
  obtain ⟨s3, es3, hf⟩ := nm_ob hf
  have hP : va_P D vwCl (wRR ca B ar s3) H := by rw [← es3]; exact hP
  have hD : va_D A (wRR ca B ar s3) := by rw [← es3]; exact hD
  refine lv_aload_n hx hb dX4_plainLongest_11 rfl (lv_at hl 0 rfl) ?_
  refine va_get (D := D) (ci := 4) (v := .ref (B 7)) (C := RX4) (T := TX4) (N := 7) hx hb hts in4 hown hK hP 0 rfl rfl 2 (by decide) f25 (fun _ h9 => h9) rfl dX4_plainLongest_12 ?_
  refine va_getN (D := D) (ci := 0) (v := .int (pl_longest (rr_pl s3))) (C := RX0) (T := TX0) (N := 4) hx hb hts in0 hown hK hP 7 rfl rfl 3 (by decide) f219 (fun _ h9 => h9) rfl dX4_plainLongest_15 ?_
  obtain ⟨rfl, rfl⟩ := so2 hf
  exact hret _ _ _ _ dX4_plainLongest_18 hP hD hS

def rr_tableOf_19  (σ : RR)   (l1 : Int32) : Option Nat :=
  if l1 = 0 then
    some 0
  else
    some 1
def rr_tableOf  (σ : RR) (a0 : Int32) : Option Nat :=
  if a0 = 0 then
    rr_tableOf_19 σ a0
  else
    if a0 = 1 then
      rr_tableOf_19 σ a0
    else
      none
set_option maxHeartbeats 4000000 in
set_option maxRecDepth 100000 in
theorem tX4_tableOf (l : Launch) (D : va_G) (ca : Nat → ClassId) (B : Nat → Nat) (ar : Nat → Nat → Nat) (sz : Nat)  (σ : RR) (a0 : Int32) (r : Nat) (hf : rr_tableOf σ a0 = some r) : Cr l D ca yX4_tableOf wsX4_tableOf { frames := 0, cells := 0, slots := 0, locals := 0 } [.ref (B 0), .int a0] (wRR ca B ar σ) sz (adrT σ r) (wRR ca B ar σ) := by
  refine body_of (cc := cX4_tableOf) (maxL := 2) (ret := (some (.object "RobinRow$Table"))) (fun A => Qr D ca (adrT σ r) (wRR ca B ar σ) A) (by decide) rfl (Nat.le_of_ble_eq_true rfl) ?_
  intro p e s m below meth c A ls hx hb hr hml hts hown hlocks hA hK hP hD hS hl hN
  have hl : lv_has ls 2 [(0, .ref (B 0)), (1, .int a0)] := hl
  have hret : ∀ (pc : Nat) (ls : Array Slot) (H : Heap) (locs : List Loc), decode cX4_tableOf pc = .ok (.areturn, 1) → va_P D vwCl (wRR ca B ar σ) H → va_D A (wRR ca B ar σ) → va_S A s.heap H locs → W p l e { frames := 0, cells := 0, slots := 0, locals := 0 } s m ([.ref (B 0), .int a0] : List Value).toArray below meth c H locs 0 0 (MQ below (Qr D ca (adrT σ r) (wRR ca B ar σ) A) ([.ref (B 0), .int a0] : List Value).toArray s 0 0 A) (F0 m pc ls [.ref (adrT σ r)]) := fun pc ls H locs hd hP hD hS => ret_r hx hb hr ⟨_, rfl⟩ hlocks hK hP hD hS hd
  generalize MQ below (Qr D ca (adrT σ r) (wRR ca B ar σ) A) ([.ref (B 0), .int a0] : List Value).toArray s 0 0 A = Q at hret ⊢
  generalize ([.ref (B 0), .int a0] : List Value).toArray = args at hts hret ⊢
  have f34 := hts (.fieldLink RX4 34 "RobinRow" "present" "LRobinRow$Table;") (by decide +kernel)
  have f38 := hts (.fieldLink RX4 38 "RobinRow" "old" "LRobinRow$Table;") (by decide +kernel)
  have in4 : ∀ w ∈ u_ws RX4 TX4 7, w ∈ wsX4_tableOf := by decide +kernel
  have J19 : ∀ (H : Heap) (locs : List Loc) (ls : Array Slot)  (l1 : Int32), rr_tableOf_19 σ  l1 = some r → va_P D vwCl (wRR ca B ar σ) H → va_D A (wRR ca B ar σ) → va_S A s.heap H locs → lv_has ls 2 [(0, .ref (B 0)), (1, .int l1)] → W p l e { frames := 0, cells := 0, slots := 0, locals := 0 } s m args below meth c H locs 0 0 Q (F0 m 19 ls []) := by
    intro H locs ls l1 hf hP hD hS hl
    unfold rr_tableOf_19 at hf
    refine lv_iload_n hx hb dX4_tableOf_19 rfl (lv_at hl 1 rfl) ?_
    refine lv_if_ne (tgt := 30) hx hb dX4_tableOf_20 (by decide) (fun c3 => ?_) (fun c3 => ?_)
    · replace hf := it_n c3 hf
      refine lv_aload_n hx hb dX4_tableOf_30 rfl (lv_at hl 0 rfl) ?_
      refine va_get (D := D) (ci := 4) (v := .ref (rr_ao σ)) (C := RX4) (T := TX4) (N := 7) hx hb hts in4 hown hK hP 0 rfl rfl 4 (by decide) f38 (fun _ h9 => h9) rfl dX4_tableOf_31 ?_
      obtain rfl := so1 hf
      exact hret _ _ _ _ dX4_tableOf_34 hP hD hS
    · replace hf := it_p c3 hf
      refine lv_aload_n hx hb dX4_tableOf_23 rfl (lv_at hl 0 rfl) ?_
      refine va_get (D := D) (ci := 4) (v := .ref (rr_ap σ)) (C := RX4) (T := TX4) (N := 7) hx hb hts in4 hown hK hP 0 rfl rfl 3 (by decide) f34 (fun _ h9 => h9) rfl dX4_tableOf_24 ?_
      refine lv_goto (tgt := 34) hx hb dX4_tableOf_27 (by decide) ?_
      obtain rfl := so1 hf
      exact hret _ _ _ _ dX4_tableOf_34 hP hD hS
  unfold rr_tableOf at hf
  refine lv_iload_n hx hb dX4_tableOf_0 rfl (lv_at hl 1 rfl) ?_
  refine lv_if_eq (tgt := 19) hx hb dX4_tableOf_1 (by decide) (fun c1 => ?_) (fun c1 => ?_)
  · replace hf := it_p c1 hf
    exact J19 _ _ _ _ hf hP hD hS (lv_sub hl [0, 1] rfl)
  · replace hf := it_n c1 hf
    refine lv_iload_n hx hb dX4_tableOf_4 rfl (lv_at hl 1 rfl) ?_
    refine lv_iconst (v := 1) hx hb dX4_tableOf_5 (by decide) ?_
    refine lv_icmp_eq (tgt := 19) hx hb dX4_tableOf_6 (by decide) (fun c2 => ?_) (fun c2 => ?_)
    · replace hf := it_p c2 hf
      exact J19 _ _ _ _ hf hP hD hS (lv_sub hl [0, 1] rfl)
    · replace hf := it_n c2 hf
      exact absurd hf (fun h => by cases h)

def rr_tableWithSlot  (σ : RR) (a0 : Int32) (a1 : Int32) : Option Nat :=
  bd (rr_tableOf σ a0) fun v1 =>
  if v1 = 0 then
    if a1 < 0 then
      none
    else
      if a1 < (tb_sl (rr_P σ)) then
        some 0
      else
        none
  else
    if a1 < 0 then
      none
    else
      if a1 < (tb_sl (rr_O σ)) then
        some 1
      else
        none
set_option maxHeartbeats 4000000 in
set_option maxRecDepth 100000 in
theorem tX4_tableWithSlot (l : Launch) (D : va_G) (ca : Nat → ClassId) (B : Nat → Nat) (ar : Nat → Nat → Nat) (sz : Nat)  (σ : RR) (a0 : Int32) (a1 : Int32) (r : Nat) (hf : rr_tableWithSlot σ a0 a1 = some r) : Cr l D ca yX4_tableWithSlot wsX4_tableWithSlot { frames := 1, cells := 0, slots := 0, locals := 21 } [.ref (B 0), .int a0, .int a1] (wRR ca B ar σ) sz (adrT σ r) (wRR ca B ar σ) := by
  refine body_of (cc := cX4_tableWithSlot) (maxL := 4) (ret := (some (.object "RobinRow$Table"))) (fun A => Qr D ca (adrT σ r) (wRR ca B ar σ) A) (by decide) rfl (Nat.le_of_ble_eq_true rfl) ?_
  intro p e s m below meth c A ls hx hb hr hml hts hown hlocks hA hK hP hD hS hl hN
  have hl : lv_has ls 4 [(0, .ref (B 0)), (1, .int a0), (2, .int a1)] := hl
  have hret : ∀ (pc : Nat) (ls : Array Slot) (H : Heap) (locs : List Loc), decode cX4_tableWithSlot pc = .ok (.areturn, 1) → va_P D vwCl (wRR ca B ar σ) H → va_D A (wRR ca B ar σ) → va_S A s.heap H locs → W p l e { frames := 1, cells := 0, slots := 0, locals := 21 } s m ([.ref (B 0), .int a0, .int a1] : List Value).toArray below meth c H locs 0 0 (MQ below (Qr D ca (adrT σ r) (wRR ca B ar σ) A) ([.ref (B 0), .int a0, .int a1] : List Value).toArray s 0 0 A) (F0 m pc ls [.ref (adrT σ r)]) := fun pc ls H locs hd hP hD hS => ret_r hx hb hr ⟨_, rfl⟩ hlocks hK hP hD hS hd
  generalize MQ below (Qr D ca (adrT σ r) (wRR ca B ar σ) A) ([.ref (B 0), .int a0, .int a1] : List Value).toArray s 0 0 A = Q at hret ⊢
  generalize ([.ref (B 0), .int a0, .int a1] : List Value).toArray = args at hts hret ⊢
  have f168 : (Cond.fieldLinkNest RX4 168 "RobinRow$Table" "slots" "I" RX4).before args s = true := va_Nw.use rfl (hN.1 (RX4, 168, "RobinRow$Table", "slots", "I") (by decide +kernel))
  have in3 : ∀ w ∈ u_ws RX3 TX3 6, w ∈ wsX4_tableWithSlot := by decide +kernel
  unfold rr_tableWithSlot at hf
  refine lv_aload_n hx hb dX4_tableWithSlot_0 rfl (lv_at hl 0 rfl) ?_
  refine lv_iload_n hx hb dX4_tableWithSlot_1 rfl (lv_at hl 1 rfl) ?_
  obtain ⟨v1, ev1, hf⟩ := bd_ob hf
  refine call_r (As := [.int a0]) (rest := []) ⟨hx, hb, hml, hown, hts⟩ (tX4_tableOf l D ca B ar _ σ a0 v1 ev1) (cwV 1 hts gX4_tableWithSlot_X4_tableOf rfl rfl rfl (by decide +kernel) ⟨Nat.le_of_ble_eq_true rfl, Nat.le_of_ble_eq_true rfl⟩) hN hK hP hD hA hS (fr_id _ _) rfl rfl rfl hl.1 rfl (lv_room (Nat.le_of_ble_eq_true rfl)) dX4_tableWithSlot_2 ⟨Nat.le_refl _, Nat.le_refl _⟩ (fun H locs hP hD hS => ?_)
  by_cases c2 : v1 = 0
  · replace hf := it_p c2 hf
    refine W.eq (g2 := F0 m 5 ls [.ref (rr_ap σ)]) (by rw [adrT, if_pos c2]) ?_
    refine lv_astore_n (lv' := [(3, .ref (rr_ap σ)), (0, .ref (B 0)), (1, .int a0), (2, .int a1)]) hx hb dX4_tableWithSlot_5 rfl hl (by decide) rfl (fun ls hl => ?_)
    refine lv_iload_n hx hb dX4_tableWithSlot_6 rfl (lv_at hl 3 rfl) ?_
    refine lv_if_lt (tgt := 18) hx hb dX4_tableWithSlot_7 (by decide) (fun c3 => ?_) (fun c3 => ?_)
    · replace hf := it_p c3 hf
      exact absurd hf (fun h => by cases h)
    · replace hf := it_n c3 hf
      refine lv_iload_n hx hb dX4_tableWithSlot_10 rfl (lv_at hl 3 rfl) ?_
      refine lv_aload_n hx hb dX4_tableWithSlot_11 rfl (lv_at hl 0 rfl) ?_
      refine va_getN (D := D) (ci := 3) (v := .int (tb_sl (rr_P σ))) (C := RX3) (T := TX3) (N := 6) hx hb hts in3 hown hK hP 10 rfl rfl 4 (by decide) f168 (fun _ h9 => h9) rfl dX4_tableWithSlot_12 ?_
      refine lv_icmp_lt (tgt := 28) hx hb dX4_tableWithSlot_15 (by decide) (fun c4 => ?_) (fun c4 => ?_)
      · replace hf := it_p c4 hf
        refine lv_aload_n hx hb dX4_tableWithSlot_28 rfl (lv_at hl 0 rfl) ?_
        obtain rfl := so1 hf
        exact hret _ _ _ _ dX4_tableWithSlot_29 hP hD hS
      · replace hf := it_n c4 hf
        exact absurd hf (fun h => by cases h)
  · replace hf := it_n c2 hf
    refine W.eq (g2 := F0 m 5 ls [.ref (rr_ao σ)]) (by rw [adrT, if_neg c2]) ?_
    refine lv_astore_n (lv' := [(3, .ref (rr_ao σ)), (0, .ref (B 0)), (1, .int a0), (2, .int a1)]) hx hb dX4_tableWithSlot_5 rfl hl (by decide) rfl (fun ls hl => ?_)
    refine lv_iload_n hx hb dX4_tableWithSlot_6 rfl (lv_at hl 3 rfl) ?_
    refine lv_if_lt (tgt := 18) hx hb dX4_tableWithSlot_7 (by decide) (fun c5 => ?_) (fun c5 => ?_)
    · replace hf := it_p c5 hf
      exact absurd hf (fun h => by cases h)
    · replace hf := it_n c5 hf
      refine lv_iload_n hx hb dX4_tableWithSlot_10 rfl (lv_at hl 3 rfl) ?_
      refine lv_aload_n hx hb dX4_tableWithSlot_11 rfl (lv_at hl 0 rfl) ?_
      refine va_getN (D := D) (ci := 3) (v := .int (tb_sl (rr_O σ))) (C := RX3) (T := TX3) (N := 6) hx hb hts in3 hown hK hP 15 rfl rfl 4 (by decide) f168 (fun _ h9 => h9) rfl dX4_tableWithSlot_12 ?_
      refine lv_icmp_lt (tgt := 28) hx hb dX4_tableWithSlot_15 (by decide) (fun c6 => ?_) (fun c6 => ?_)
      · replace hf := it_p c6 hf
        refine lv_aload_n hx hb dX4_tableWithSlot_28 rfl (lv_at hl 0 rfl) ?_
        obtain rfl := so1 hf
        exact hret _ _ _ _ dX4_tableWithSlot_29 hP hD hS
      · replace hf := it_n c6 hf
        exact absurd hf (fun h => by cases h)

def rr_slots  (σ : RR) (a0 : Int32) : Option Int32 :=
  bd (rr_tableOf σ a0) fun v1 =>
  if v1 = 0 then
    some (tb_sl (rr_P σ))
  else
    some (tb_sl (rr_O σ))
set_option maxHeartbeats 4000000 in
set_option maxRecDepth 100000 in
theorem tX4_slots (l : Launch) (D : va_G) (ca : Nat → ClassId) (B : Nat → Nat) (ar : Nat → Nat → Nat) (sz : Nat)  (σ : RR) (a0 : Int32) (r : Int32) (hf : rr_slots σ a0 = some r) : Ci l D ca yX4_slots wsX4_slots { frames := 1, cells := 0, slots := 0, locals := 21 } [.ref (B 0), .int a0] (wRR ca B ar σ) sz r (wRR ca B ar σ) := by
  refine body_of (cc := cX4_slots) (maxL := 2) (ret := (some .int)) (fun A => Qi D ca r (wRR ca B ar σ) A) (by decide) rfl (Nat.le_of_ble_eq_true rfl) ?_
  intro p e s m below meth c A ls hx hb hr hml hts hown hlocks hA hK hP hD hS hl hN
  have hl : lv_has ls 2 [(0, .ref (B 0)), (1, .int a0)] := hl
  have hret : ∀ (pc : Nat) (ls : Array Slot) (H : Heap) (locs : List Loc), decode cX4_slots pc = .ok (.ireturn, 1) → va_P D vwCl (wRR ca B ar σ) H → va_D A (wRR ca B ar σ) → va_S A s.heap H locs → W p l e { frames := 1, cells := 0, slots := 0, locals := 21 } s m ([.ref (B 0), .int a0] : List Value).toArray below meth c H locs 0 0 (MQ below (Qi D ca r (wRR ca B ar σ) A) ([.ref (B 0), .int a0] : List Value).toArray s 0 0 A) (F0 m pc ls [.int r]) := fun pc ls H locs hd hP hD hS => ret_i hx hb hr hlocks hK hP hD hS hd
  generalize MQ below (Qi D ca r (wRR ca B ar σ) A) ([.ref (B 0), .int a0] : List Value).toArray s 0 0 A = Q at hret ⊢
  generalize ([.ref (B 0), .int a0] : List Value).toArray = args at hts hret ⊢
  have f168 : (Cond.fieldLinkNest RX4 168 "RobinRow$Table" "slots" "I" RX4).before args s = true := va_Nw.use rfl (hN.1 (RX4, 168, "RobinRow$Table", "slots", "I") (by decide +kernel))
  have in3 : ∀ w ∈ u_ws RX3 TX3 6, w ∈ wsX4_slots := by decide +kernel
  unfold rr_slots at hf
  refine lv_aload_n hx hb dX4_slots_0 rfl (lv_at hl 0 rfl) ?_
  refine lv_iload_n hx hb dX4_slots_1 rfl (lv_at hl 1 rfl) ?_
  obtain ⟨v1, ev1, hf⟩ := bd_ob hf
  refine call_r (As := [.int a0]) (rest := []) ⟨hx, hb, hml, hown, hts⟩ (tX4_tableOf l D ca B ar _ σ a0 v1 ev1) (cwV 1 hts gX4_slots_X4_tableOf rfl rfl rfl (by decide +kernel) ⟨Nat.le_of_ble_eq_true rfl, Nat.le_of_ble_eq_true rfl⟩) hN hK hP hD hA hS (fr_id _ _) rfl rfl rfl hl.1 rfl (lv_room (Nat.le_of_ble_eq_true rfl)) dX4_slots_2 ⟨Nat.le_refl _, Nat.le_refl _⟩ (fun H locs hP hD hS => ?_)
  by_cases c2 : v1 = 0
  · replace hf := it_p c2 hf
    refine W.eq (g2 := F0 m 5 ls [.ref (rr_ap σ)]) (by rw [adrT, if_pos c2]) ?_
    refine va_getN (D := D) (ci := 3) (v := .int (tb_sl (rr_P σ))) (C := RX3) (T := TX3) (N := 6) hx hb hts in3 hown hK hP 10 rfl rfl 4 (by decide) f168 (fun _ h9 => h9) rfl dX4_slots_5 ?_
    obtain rfl := so1 hf
    exact hret _ _ _ _ dX4_slots_8 hP hD hS
  · replace hf := it_n c2 hf
    refine W.eq (g2 := F0 m 5 ls [.ref (rr_ao σ)]) (by rw [adrT, if_neg c2]) ?_
    refine va_getN (D := D) (ci := 3) (v := .int (tb_sl (rr_O σ))) (C := RX3) (T := TX3) (N := 6) hx hb hts in3 hown hK hP 15 rfl rfl 4 (by decide) f168 (fun _ h9 => h9) rfl dX4_slots_5 ?_
    obtain rfl := so1 hf
    exact hret _ _ _ _ dX4_slots_8 hP hD hS

def rr_keysIn  (σ : RR) (a0 : Int32) : Option Int32 :=
  bd (rr_tableOf σ a0) fun v1 =>
  if v1 = 0 then
    some (tb_ct (rr_P σ))
  else
    some (tb_ct (rr_O σ))
set_option maxHeartbeats 4000000 in
set_option maxRecDepth 100000 in
theorem tX4_keysIn (l : Launch) (D : va_G) (ca : Nat → ClassId) (B : Nat → Nat) (ar : Nat → Nat → Nat) (sz : Nat)  (σ : RR) (a0 : Int32) (r : Int32) (hf : rr_keysIn σ a0 = some r) : Ci l D ca yX4_keysIn wsX4_keysIn { frames := 1, cells := 0, slots := 0, locals := 21 } [.ref (B 0), .int a0] (wRR ca B ar σ) sz r (wRR ca B ar σ) := by
  refine body_of (cc := cX4_keysIn) (maxL := 2) (ret := (some .int)) (fun A => Qi D ca r (wRR ca B ar σ) A) (by decide) rfl (Nat.le_of_ble_eq_true rfl) ?_
  intro p e s m below meth c A ls hx hb hr hml hts hown hlocks hA hK hP hD hS hl hN
  have hl : lv_has ls 2 [(0, .ref (B 0)), (1, .int a0)] := hl
  have hret : ∀ (pc : Nat) (ls : Array Slot) (H : Heap) (locs : List Loc), decode cX4_keysIn pc = .ok (.ireturn, 1) → va_P D vwCl (wRR ca B ar σ) H → va_D A (wRR ca B ar σ) → va_S A s.heap H locs → W p l e { frames := 1, cells := 0, slots := 0, locals := 21 } s m ([.ref (B 0), .int a0] : List Value).toArray below meth c H locs 0 0 (MQ below (Qi D ca r (wRR ca B ar σ) A) ([.ref (B 0), .int a0] : List Value).toArray s 0 0 A) (F0 m pc ls [.int r]) := fun pc ls H locs hd hP hD hS => ret_i hx hb hr hlocks hK hP hD hS hd
  generalize MQ below (Qi D ca r (wRR ca B ar σ) A) ([.ref (B 0), .int a0] : List Value).toArray s 0 0 A = Q at hret ⊢
  generalize ([.ref (B 0), .int a0] : List Value).toArray = args at hts hret ⊢
  have f110 : (Cond.fieldLinkNest RX4 110 "RobinRow$Table" "count" "I" RX4).before args s = true := va_Nw.use rfl (hN.1 (RX4, 110, "RobinRow$Table", "count", "I") (by decide +kernel))
  have in3 : ∀ w ∈ u_ws RX3 TX3 6, w ∈ wsX4_keysIn := by decide +kernel
  unfold rr_keysIn at hf
  refine lv_aload_n hx hb dX4_keysIn_0 rfl (lv_at hl 0 rfl) ?_
  refine lv_iload_n hx hb dX4_keysIn_1 rfl (lv_at hl 1 rfl) ?_
  obtain ⟨v1, ev1, hf⟩ := bd_ob hf
  refine call_r (As := [.int a0]) (rest := []) ⟨hx, hb, hml, hown, hts⟩ (tX4_tableOf l D ca B ar _ σ a0 v1 ev1) (cwV 1 hts gX4_keysIn_X4_tableOf rfl rfl rfl (by decide +kernel) ⟨Nat.le_of_ble_eq_true rfl, Nat.le_of_ble_eq_true rfl⟩) hN hK hP hD hA hS (fr_id _ _) rfl rfl rfl hl.1 rfl (lv_room (Nat.le_of_ble_eq_true rfl)) dX4_keysIn_2 ⟨Nat.le_refl _, Nat.le_refl _⟩ (fun H locs hP hD hS => ?_)
  by_cases c2 : v1 = 0
  · replace hf := it_p c2 hf
    refine W.eq (g2 := F0 m 5 ls [.ref (rr_ap σ)]) (by rw [adrT, if_pos c2]) ?_
    refine va_getN (D := D) (ci := 3) (v := .int (tb_ct (rr_P σ))) (C := RX3) (T := TX3) (N := 6) hx hb hts in3 hown hK hP 10 rfl rfl 5 (by decide) f110 (fun _ h9 => h9) rfl dX4_keysIn_5 ?_
    obtain rfl := so1 hf
    exact hret _ _ _ _ dX4_keysIn_8 hP hD hS
  · replace hf := it_n c2 hf
    refine W.eq (g2 := F0 m 5 ls [.ref (rr_ao σ)]) (by rw [adrT, if_neg c2]) ?_
    refine va_getN (D := D) (ci := 3) (v := .int (tb_ct (rr_O σ))) (C := RX3) (T := TX3) (N := 6) hx hb hts in3 hown hK hP 15 rfl rfl 5 (by decide) f110 (fun _ h9 => h9) rfl dX4_keysIn_5 ?_
    obtain rfl := so1 hf
    exact hret _ _ _ _ dX4_keysIn_8 hP hD hS

def rr_control  (σ : RR) (a0 : Int32) (a1 : Int32) : Option Int32 :=
  bd (rr_tableWithSlot σ a0 a1) fun v1 =>
  if v1 = 0 then
    bd (tt_controlIn (rr_P σ) a1) fun v3 =>
    gn .byte v3 <|
    some v3
  else
    bd (tt_controlIn (rr_O σ) a1) fun v5 =>
    gn .byte v5 <|
    some v5
set_option maxHeartbeats 4000000 in
set_option maxRecDepth 100000 in
theorem tX4_control (l : Launch) (D : va_G) (ca : Nat → ClassId) (B : Nat → Nat) (ar : Nat → Nat → Nat) (sz : Nat)  (σ : RR) (a0 : Int32) (a1 : Int32) (r : Int32) (hf : rr_control σ a0 a1 = some r) : Ci l D ca yX4_control wsX4_control { frames := 2, cells := 0, slots := 0, locals := 44 } [.ref (B 0), .int a0, .int a1] (wRR ca B ar σ) sz r (wRR ca B ar σ) := by
  refine body_of (cc := cX4_control) (maxL := 3) (ret := (some .byte)) (fun A => Qi D ca r (wRR ca B ar σ) A) (by decide) rfl (Nat.le_of_ble_eq_true rfl) ?_
  intro p e s m below meth c A ls hx hb hr hml hts hown hlocks hA hK hP hD hS hl hN
  have hl : lv_has ls 3 [(0, .ref (B 0)), (1, .int a0), (2, .int a1)] := hl
  have hret : ∀ (pc : Nat) (ls : Array Slot) (H : Heap) (locs : List Loc), decode cX4_control pc = .ok (.ireturn, 1) → narrow .byte (.int r) = .int r → va_P D vwCl (wRR ca B ar σ) H → va_D A (wRR ca B ar σ) → va_S A s.heap H locs → W p l e { frames := 2, cells := 0, slots := 0, locals := 44 } s m ([.ref (B 0), .int a0, .int a1] : List Value).toArray below meth c H locs 0 0 (MQ below (Qi D ca r (wRR ca B ar σ) A) ([.ref (B 0), .int a0, .int a1] : List Value).toArray s 0 0 A) (F0 m pc ls [.int r]) := fun pc ls H locs hd hn hP hD hS => ret_z hx hb hr hn hlocks hK hP hD hS hd
  generalize MQ below (Qi D ca r (wRR ca B ar σ) A) ([.ref (B 0), .int a0, .int a1] : List Value).toArray s 0 0 A = Q at hret ⊢
  generalize ([.ref (B 0), .int a0, .int a1] : List Value).toArray = args at hts hret ⊢
  unfold rr_control at hf
  refine lv_aload_n hx hb dX4_control_0 rfl (lv_at hl 0 rfl) ?_
  refine lv_iload_n hx hb dX4_control_1 rfl (lv_at hl 1 rfl) ?_
  refine lv_iload_n hx hb dX4_control_2 rfl (lv_at hl 2 rfl) ?_
  obtain ⟨v1, ev1, hf⟩ := bd_ob hf
  refine call_r (As := [.int a0, .int a1]) (rest := []) ⟨hx, hb, hml, hown, hts⟩ (tX4_tableWithSlot l D ca B ar _ σ a0 a1 v1 ev1) (cwV 2 hts gX4_control_X4_tableWithSlot rfl rfl rfl (by decide +kernel) ⟨Nat.le_of_ble_eq_true rfl, Nat.le_of_ble_eq_true rfl⟩) hN hK hP hD hA hS (fr_id _ _) rfl rfl rfl hl.1 rfl (lv_room (Nat.le_of_ble_eq_true rfl)) dX4_control_3 ⟨Nat.le_refl _, Nat.le_refl _⟩ (fun H locs hP hD hS => ?_)
  by_cases c2 : v1 = 0
  · replace hf := it_p c2 hf
    refine W.eq (g2 := F0 m 6 ls [.ref (rr_ap σ)]) (by rw [adrT, if_pos c2]) ?_
    refine lv_iload_n hx hb dX4_control_6 rfl (lv_at hl 2 rfl) ?_
    obtain ⟨v3, ev3, hf⟩ := bd_ob hf
    refine call_i (As := [.int a1]) (rest := []) ⟨hx, hb, hml, hown, hts⟩ (tX3_controlIn l D ca (rr_ap σ) (ar (rr_ap σ)) _ (rr_P σ) a1 v3 ev3) (cwV 1 hts gX4_control_X3_controlIn rfl rfl rfl (by decide +kernel) ⟨Nat.le_of_ble_eq_true rfl, Nat.le_of_ble_eq_true rfl⟩) hN hK hP hD hA hS (fr_RPp ca B ar σ) rfl rfl rfl hl.1 rfl (lv_room (Nat.le_of_ble_eq_true rfl)) dX4_control_7 ⟨Nat.le_refl _, Nat.le_refl _⟩ (fun H locs hP hD hS => ?_)
    obtain ⟨g4, hf⟩ := gn_ob hf
    obtain rfl := so1 hf
    exact hret _ _ _ _ dX4_control_10 (nr_b g4) hP hD hS
  · replace hf := it_n c2 hf
    refine W.eq (g2 := F0 m 6 ls [.ref (rr_ao σ)]) (by rw [adrT, if_neg c2]) ?_
    refine lv_iload_n hx hb dX4_control_6 rfl (lv_at hl 2 rfl) ?_
    obtain ⟨v5, ev5, hf⟩ := bd_ob hf
    refine call_i (As := [.int a1]) (rest := []) ⟨hx, hb, hml, hown, hts⟩ (tX3_controlIn l D ca (rr_ao σ) (ar (rr_ao σ)) _ (rr_O σ) a1 v5 ev5) (cwV 1 hts gX4_control_X3_controlIn rfl rfl rfl (by decide +kernel) ⟨Nat.le_of_ble_eq_true rfl, Nat.le_of_ble_eq_true rfl⟩) hN hK hP hD hA hS (fr_ROp ca B ar σ) rfl rfl rfl hl.1 rfl (lv_room (Nat.le_of_ble_eq_true rfl)) dX4_control_7 ⟨Nat.le_refl _, Nat.le_refl _⟩ (fun H locs hP hD hS => ?_)
    obtain ⟨g6, hf⟩ := gn_ob hf
    obtain rfl := so1 hf
    exact hret _ _ _ _ dX4_control_10 (nr_b g6) hP hD hS

def rr_keyAt  (σ : RR) (a0 : Int32) (a1 : Int32) : Option Int32 :=
  bd (rr_tableWithSlot σ a0 a1) fun v1 =>
  if v1 = 0 then
    bd (tt_isEmptyIn (rr_P σ) a1) fun v3 =>
    if v3 = 0 then
      bd (tt_keyIn (rr_P σ) a1) fun v5 =>
      some v5
    else
      none
  else
    bd (tt_isEmptyIn (rr_O σ) a1) fun v6 =>
    if v6 = 0 then
      bd (tt_keyIn (rr_O σ) a1) fun v8 =>
      some v8
    else
      none
set_option maxHeartbeats 4000000 in
set_option maxRecDepth 100000 in
theorem tX4_keyAt (l : Launch) (D : va_G) (ca : Nat → ClassId) (B : Nat → Nat) (ar : Nat → Nat → Nat) (sz : Nat)  (σ : RR) (a0 : Int32) (a1 : Int32) (r : Int32) (hf : rr_keyAt σ a0 a1 = some r) : Ci l D ca yX4_keyAt wsX4_keyAt { frames := 2, cells := 0, slots := 0, locals := 44 } [.ref (B 0), .int a0, .int a1] (wRR ca B ar σ) sz r (wRR ca B ar σ) := by
  refine body_of (cc := cX4_keyAt) (maxL := 4) (ret := (some .int)) (fun A => Qi D ca r (wRR ca B ar σ) A) (by decide) rfl (Nat.le_of_ble_eq_true rfl) ?_
  intro p e s m below meth c A ls hx hb hr hml hts hown hlocks hA hK hP hD hS hl hN
  have hl : lv_has ls 4 [(0, .ref (B 0)), (1, .int a0), (2, .int a1)] := hl
  have hret : ∀ (pc : Nat) (ls : Array Slot) (H : Heap) (locs : List Loc), decode cX4_keyAt pc = .ok (.ireturn, 1) → va_P D vwCl (wRR ca B ar σ) H → va_D A (wRR ca B ar σ) → va_S A s.heap H locs → W p l e { frames := 2, cells := 0, slots := 0, locals := 44 } s m ([.ref (B 0), .int a0, .int a1] : List Value).toArray below meth c H locs 0 0 (MQ below (Qi D ca r (wRR ca B ar σ) A) ([.ref (B 0), .int a0, .int a1] : List Value).toArray s 0 0 A) (F0 m pc ls [.int r]) := fun pc ls H locs hd hP hD hS => ret_i hx hb hr hlocks hK hP hD hS hd
  generalize MQ below (Qi D ca r (wRR ca B ar σ) A) ([.ref (B 0), .int a0, .int a1] : List Value).toArray s 0 0 A = Q at hret ⊢
  generalize ([.ref (B 0), .int a0, .int a1] : List Value).toArray = args at hts hret ⊢
  unfold rr_keyAt at hf
  refine lv_aload_n hx hb dX4_keyAt_0 rfl (lv_at hl 0 rfl) ?_
  refine lv_iload_n hx hb dX4_keyAt_1 rfl (lv_at hl 1 rfl) ?_
  refine lv_iload_n hx hb dX4_keyAt_2 rfl (lv_at hl 2 rfl) ?_
  obtain ⟨v1, ev1, hf⟩ := bd_ob hf
  refine call_r (As := [.int a0, .int a1]) (rest := []) ⟨hx, hb, hml, hown, hts⟩ (tX4_tableWithSlot l D ca B ar _ σ a0 a1 v1 ev1) (cwV 2 hts gX4_keyAt_X4_tableWithSlot rfl rfl rfl (by decide +kernel) ⟨Nat.le_of_ble_eq_true rfl, Nat.le_of_ble_eq_true rfl⟩) hN hK hP hD hA hS (fr_id _ _) rfl rfl rfl hl.1 rfl (lv_room (Nat.le_of_ble_eq_true rfl)) dX4_keyAt_3 ⟨Nat.le_refl _, Nat.le_refl _⟩ (fun H locs hP hD hS => ?_)
  by_cases c2 : v1 = 0
  · replace hf := it_p c2 hf
    refine W.eq (g2 := F0 m 6 ls [.ref (rr_ap σ)]) (by rw [adrT, if_pos c2]) ?_
    refine lv_astore_n (lv' := [(3, .ref (rr_ap σ)), (0, .ref (B 0)), (1, .int a0), (2, .int a1)]) hx hb dX4_keyAt_6 rfl hl (by decide) rfl (fun ls hl => ?_)
    refine lv_aload_n hx hb dX4_keyAt_7 rfl (lv_at hl 0 rfl) ?_
    refine lv_iload_n hx hb dX4_keyAt_8 rfl (lv_at hl 3 rfl) ?_
    obtain ⟨v3, ev3, hf⟩ := bd_ob hf
    refine call_i (As := [.int a1]) (rest := []) ⟨hx, hb, hml, hown, hts⟩ (tX3_isEmptyIn l D ca (rr_ap σ) (ar (rr_ap σ)) _ (rr_P σ) a1 v3 ev3) (cwV 1 hts gX4_keyAt_X3_isEmptyIn rfl rfl rfl (by decide +kernel) ⟨Nat.le_of_ble_eq_true rfl, Nat.le_of_ble_eq_true rfl⟩) hN hK hP hD hA hS (fr_RPp ca B ar σ) rfl rfl rfl hl.1 rfl (lv_room (Nat.le_of_ble_eq_true rfl)) dX4_keyAt_9 ⟨Nat.le_refl _, Nat.le_refl _⟩ (fun H locs hP hD hS => ?_)
    refine lv_if_eq (tgt := 25) hx hb dX4_keyAt_12 (by decide) (fun c4 => ?_) (fun c4 => ?_)
    · replace hf := it_p c4 hf
      refine lv_aload_n hx hb dX4_keyAt_25 rfl (lv_at hl 0 rfl) ?_
      refine lv_iload_n hx hb dX4_keyAt_26 rfl (lv_at hl 3 rfl) ?_
      obtain ⟨v5, ev5, hf⟩ := bd_ob hf
      refine call_i (As := [.int a1]) (rest := []) ⟨hx, hb, hml, hown, hts⟩ (tX3_keyIn l D ca (rr_ap σ) (ar (rr_ap σ)) _ (rr_P σ) a1 v5 ev5) (cwV 1 hts gX4_keyAt_X3_keyIn rfl rfl rfl (by decide +kernel) ⟨Nat.le_of_ble_eq_true rfl, Nat.le_of_ble_eq_true rfl⟩) hN hK hP hD hA hS (fr_RPp ca B ar σ) rfl rfl rfl hl.1 rfl (lv_room (Nat.le_of_ble_eq_true rfl)) dX4_keyAt_27 ⟨Nat.le_refl _, Nat.le_refl _⟩ (fun H locs hP hD hS => ?_)
      obtain rfl := so1 hf
      exact hret _ _ _ _ dX4_keyAt_30 hP hD hS
    · replace hf := it_n c4 hf
      exact absurd hf (fun h => by cases h)
  · replace hf := it_n c2 hf
    refine W.eq (g2 := F0 m 6 ls [.ref (rr_ao σ)]) (by rw [adrT, if_neg c2]) ?_
    refine lv_astore_n (lv' := [(3, .ref (rr_ao σ)), (0, .ref (B 0)), (1, .int a0), (2, .int a1)]) hx hb dX4_keyAt_6 rfl hl (by decide) rfl (fun ls hl => ?_)
    refine lv_aload_n hx hb dX4_keyAt_7 rfl (lv_at hl 0 rfl) ?_
    refine lv_iload_n hx hb dX4_keyAt_8 rfl (lv_at hl 3 rfl) ?_
    obtain ⟨v6, ev6, hf⟩ := bd_ob hf
    refine call_i (As := [.int a1]) (rest := []) ⟨hx, hb, hml, hown, hts⟩ (tX3_isEmptyIn l D ca (rr_ao σ) (ar (rr_ao σ)) _ (rr_O σ) a1 v6 ev6) (cwV 1 hts gX4_keyAt_X3_isEmptyIn rfl rfl rfl (by decide +kernel) ⟨Nat.le_of_ble_eq_true rfl, Nat.le_of_ble_eq_true rfl⟩) hN hK hP hD hA hS (fr_ROp ca B ar σ) rfl rfl rfl hl.1 rfl (lv_room (Nat.le_of_ble_eq_true rfl)) dX4_keyAt_9 ⟨Nat.le_refl _, Nat.le_refl _⟩ (fun H locs hP hD hS => ?_)
    refine lv_if_eq (tgt := 25) hx hb dX4_keyAt_12 (by decide) (fun c7 => ?_) (fun c7 => ?_)
    · replace hf := it_p c7 hf
      refine lv_aload_n hx hb dX4_keyAt_25 rfl (lv_at hl 0 rfl) ?_
      refine lv_iload_n hx hb dX4_keyAt_26 rfl (lv_at hl 3 rfl) ?_
      obtain ⟨v8, ev8, hf⟩ := bd_ob hf
      refine call_i (As := [.int a1]) (rest := []) ⟨hx, hb, hml, hown, hts⟩ (tX3_keyIn l D ca (rr_ao σ) (ar (rr_ao σ)) _ (rr_O σ) a1 v8 ev8) (cwV 1 hts gX4_keyAt_X3_keyIn rfl rfl rfl (by decide +kernel) ⟨Nat.le_of_ble_eq_true rfl, Nat.le_of_ble_eq_true rfl⟩) hN hK hP hD hA hS (fr_ROp ca B ar σ) rfl rfl rfl hl.1 rfl (lv_room (Nat.le_of_ble_eq_true rfl)) dX4_keyAt_27 ⟨Nat.le_refl _, Nat.le_refl _⟩ (fun H locs hP hD hS => ?_)
      obtain rfl := so1 hf
      exact hret _ _ _ _ dX4_keyAt_30 hP hD hS
    · replace hf := it_n c7 hf
      exact absurd hf (fun h => by cases h)

def rr_distanceAt  (σ : RR) (a0 : Int32) (a1 : Int32) : Option Int32 :=
  bd (rr_tableWithSlot σ a0 a1) fun v1 =>
  if v1 = 0 then
    bd (tt_distanceIn (rr_P σ) a1) fun v3 =>
    some v3
  else
    bd (tt_distanceIn (rr_O σ) a1) fun v4 =>
    some v4
set_option maxHeartbeats 4000000 in
set_option maxRecDepth 100000 in
theorem tX4_distanceAt (l : Launch) (D : va_G) (ca : Nat → ClassId) (B : Nat → Nat) (ar : Nat → Nat → Nat) (sz : Nat)  (σ : RR) (a0 : Int32) (a1 : Int32) (r : Int32) (hf : rr_distanceAt σ a0 a1 = some r) : Ci l D ca yX4_distanceAt wsX4_distanceAt { frames := 2, cells := 0, slots := 0, locals := 44 } [.ref (B 0), .int a0, .int a1] (wRR ca B ar σ) sz r (wRR ca B ar σ) := by
  refine body_of (cc := cX4_distanceAt) (maxL := 3) (ret := (some .int)) (fun A => Qi D ca r (wRR ca B ar σ) A) (by decide) rfl (Nat.le_of_ble_eq_true rfl) ?_
  intro p e s m below meth c A ls hx hb hr hml hts hown hlocks hA hK hP hD hS hl hN
  have hl : lv_has ls 3 [(0, .ref (B 0)), (1, .int a0), (2, .int a1)] := hl
  have hret : ∀ (pc : Nat) (ls : Array Slot) (H : Heap) (locs : List Loc), decode cX4_distanceAt pc = .ok (.ireturn, 1) → va_P D vwCl (wRR ca B ar σ) H → va_D A (wRR ca B ar σ) → va_S A s.heap H locs → W p l e { frames := 2, cells := 0, slots := 0, locals := 44 } s m ([.ref (B 0), .int a0, .int a1] : List Value).toArray below meth c H locs 0 0 (MQ below (Qi D ca r (wRR ca B ar σ) A) ([.ref (B 0), .int a0, .int a1] : List Value).toArray s 0 0 A) (F0 m pc ls [.int r]) := fun pc ls H locs hd hP hD hS => ret_i hx hb hr hlocks hK hP hD hS hd
  generalize MQ below (Qi D ca r (wRR ca B ar σ) A) ([.ref (B 0), .int a0, .int a1] : List Value).toArray s 0 0 A = Q at hret ⊢
  generalize ([.ref (B 0), .int a0, .int a1] : List Value).toArray = args at hts hret ⊢
  unfold rr_distanceAt at hf
  refine lv_aload_n hx hb dX4_distanceAt_0 rfl (lv_at hl 0 rfl) ?_
  refine lv_iload_n hx hb dX4_distanceAt_1 rfl (lv_at hl 1 rfl) ?_
  refine lv_iload_n hx hb dX4_distanceAt_2 rfl (lv_at hl 2 rfl) ?_
  obtain ⟨v1, ev1, hf⟩ := bd_ob hf
  refine call_r (As := [.int a0, .int a1]) (rest := []) ⟨hx, hb, hml, hown, hts⟩ (tX4_tableWithSlot l D ca B ar _ σ a0 a1 v1 ev1) (cwV 2 hts gX4_distanceAt_X4_tableWithSlot rfl rfl rfl (by decide +kernel) ⟨Nat.le_of_ble_eq_true rfl, Nat.le_of_ble_eq_true rfl⟩) hN hK hP hD hA hS (fr_id _ _) rfl rfl rfl hl.1 rfl (lv_room (Nat.le_of_ble_eq_true rfl)) dX4_distanceAt_3 ⟨Nat.le_refl _, Nat.le_refl _⟩ (fun H locs hP hD hS => ?_)
  by_cases c2 : v1 = 0
  · replace hf := it_p c2 hf
    refine W.eq (g2 := F0 m 6 ls [.ref (rr_ap σ)]) (by rw [adrT, if_pos c2]) ?_
    refine lv_iload_n hx hb dX4_distanceAt_6 rfl (lv_at hl 2 rfl) ?_
    obtain ⟨v3, ev3, hf⟩ := bd_ob hf
    refine call_i (As := [.int a1]) (rest := []) ⟨hx, hb, hml, hown, hts⟩ (tX3_distanceIn l D ca (rr_ap σ) (ar (rr_ap σ)) _ (rr_P σ) a1 v3 ev3) (cwV 1 hts gX4_distanceAt_X3_distanceIn rfl rfl rfl (by decide +kernel) ⟨Nat.le_of_ble_eq_true rfl, Nat.le_of_ble_eq_true rfl⟩) hN hK hP hD hA hS (fr_RPp ca B ar σ) rfl rfl rfl hl.1 rfl (lv_room (Nat.le_of_ble_eq_true rfl)) dX4_distanceAt_7 ⟨Nat.le_refl _, Nat.le_refl _⟩ (fun H locs hP hD hS => ?_)
    obtain rfl := so1 hf
    exact hret _ _ _ _ dX4_distanceAt_10 hP hD hS
  · replace hf := it_n c2 hf
    refine W.eq (g2 := F0 m 6 ls [.ref (rr_ao σ)]) (by rw [adrT, if_neg c2]) ?_
    refine lv_iload_n hx hb dX4_distanceAt_6 rfl (lv_at hl 2 rfl) ?_
    obtain ⟨v4, ev4, hf⟩ := bd_ob hf
    refine call_i (As := [.int a1]) (rest := []) ⟨hx, hb, hml, hown, hts⟩ (tX3_distanceIn l D ca (rr_ao σ) (ar (rr_ao σ)) _ (rr_O σ) a1 v4 ev4) (cwV 1 hts gX4_distanceAt_X3_distanceIn rfl rfl rfl (by decide +kernel) ⟨Nat.le_of_ble_eq_true rfl, Nat.le_of_ble_eq_true rfl⟩) hN hK hP hD hA hS (fr_ROp ca B ar σ) rfl rfl rfl hl.1 rfl (lv_room (Nat.le_of_ble_eq_true rfl)) dX4_distanceAt_7 ⟨Nat.le_refl _, Nat.le_refl _⟩ (fun H locs hP hD hS => ?_)
    obtain rfl := so1 hf
    exact hret _ _ _ _ dX4_distanceAt_10 hP hD hS

def rr_clear  (σ : RR) (a0 : Int32) : Option RR :=
  if a0 = 0 then
    nm (rr_way' σ a0) fun s2 =>
    bd (tt_emptyWith (rr_P s2) 8) fun s4 =>
    nm (rr_P' s2 s4) fun s5 =>
    bd (tt_emptyWith (rr_O s5) 0) fun s7 =>
    nm (rr_O' s5 s7) fun s8 =>
    nm (rr_begun' s8 0) fun s9 =>
    bd (ww_end (rr_sws s9 0)) fun s12 =>
    nm (rr_sws' s9 (va_up (rr_sws s9) 0 s12)) fun s13 =>
    bd (ww_end (rr_sws s13 1)) fun s16 =>
    nm (rr_sws' s13 (va_up (rr_sws s13) 1 s16)) fun s17 =>
    bd (ww_end (rr_sws s17 2)) fun s20 =>
    nm (rr_sws' s17 (va_up (rr_sws s17) 2 s20)) fun s21 =>
    bd (ww_end (rr_sws s21 3)) fun s24 =>
    nm (rr_sws' s21 (va_up (rr_sws s21) 3 s24)) fun s25 =>
    some s25
  else
    if a0 = 1 then
      nm (rr_way' σ a0) fun s28 =>
      bd (tt_emptyWith (rr_P s28) 8) fun s30 =>
      nm (rr_P' s28 s30) fun s31 =>
      bd (tt_emptyWith (rr_O s31) 0) fun s33 =>
      nm (rr_O' s31 s33) fun s34 =>
      nm (rr_begun' s34 0) fun s35 =>
      bd (ww_end (rr_sws s35 0)) fun s38 =>
      nm (rr_sws' s35 (va_up (rr_sws s35) 0 s38)) fun s39 =>
      bd (ww_end (rr_sws s39 1)) fun s42 =>
      nm (rr_sws' s39 (va_up (rr_sws s39) 1 s42)) fun s43 =>
      bd (ww_end (rr_sws s43 2)) fun s46 =>
      nm (rr_sws' s43 (va_up (rr_sws s43) 2 s46)) fun s47 =>
      bd (ww_end (rr_sws s47 3)) fun s50 =>
      nm (rr_sws' s47 (va_up (rr_sws s47) 3 s50)) fun s51 =>
      some s51
    else
      none
set_option maxHeartbeats 4000000 in
set_option maxRecDepth 100000 in
theorem tX4_clear (l : Launch) (D : va_G) (ca : Nat → ClassId) (B : Nat → Nat) (ar : Nat → Nat → Nat) (sz : Nat)  (σ : RR) (a0 : Int32) (σ9 : RR) (hf : rr_clear σ a0 = some σ9) : Cv l D ca yX4_clear wsX4_clear { frames := 2, cells := 0, slots := 0, locals := 43 } [.ref (B 0), .int a0] (wRR ca B ar σ) sz (wRR ca B ar σ9) := by
  refine body_of (cc := cX4_clear) (maxL := 3) (ret := none) (fun A => Qv D ca (wRR ca B ar σ9) A) (by decide) rfl (Nat.le_of_ble_eq_true rfl) ?_
  intro p e s m below meth c A ls hx hb hr hml hts hown hlocks hA hK hP hD hS hl hN
  have hl : lv_has ls 3 [(0, .ref (B 0)), (1, .int a0)] := hl
  have hret : ∀ (pc : Nat) (ls : Array Slot) (H : Heap) (locs : List Loc), decode cX4_clear pc = .ok (.return_, 1) → va_P D vwCl (wRR ca B ar σ9) H → va_D A (wRR ca B ar σ9) → va_S A s.heap H locs → W p l e { frames := 2, cells := 0, slots := 0, locals := 43 } s m ([.ref (B 0), .int a0] : List Value).toArray below meth c H locs 0 0 (MQ below (Qv D ca (wRR ca B ar σ9) A) ([.ref (B 0), .int a0] : List Value).toArray s 0 0 A) (F0 m pc ls []) := fun pc ls H locs hd hP hD hS => ret_v hx hb hr hlocks hK hP hD hS hd
  generalize MQ below (Qv D ca (wRR ca B ar σ9) A) ([.ref (B 0), .int a0] : List Value).toArray s 0 0 A = Q at hret ⊢
  generalize ([.ref (B 0), .int a0] : List Value).toArray = args at hts hret ⊢
  have f11 := hts (.fieldLink RX4 11 "RobinRow" "sweeps" "[LRobinRow$Sweep;") (by decide +kernel)
  have f34 := hts (.fieldLink RX4 34 "RobinRow" "present" "LRobinRow$Table;") (by decide +kernel)
  have f38 := hts (.fieldLink RX4 38 "RobinRow" "old" "LRobinRow$Table;") (by decide +kernel)
  have f42 := hts (.fieldLink RX4 42 "RobinRow" "way" "I") (by decide +kernel)
  have f56 := hts (.fieldLink RX4 56 "RobinRow" "begunMoves" "I") (by decide +kernel)
  have in4 : ∀ w ∈ u_ws RX4 TX4 7, w ∈ wsX4_clear := by decide +kernel
  unfold rr_clear at hf
  refine lv_iload_n hx hb dX4_clear_0 rfl (lv_at hl 1 rfl) ?_
  refine lv_if_eq (tgt := 19) hx hb dX4_clear_1 (by decide) (fun c1 => ?_) (fun c1 => ?_)
  · replace hf := it_p c1 hf
    refine lv_aload_n hx hb dX4_clear_19 rfl (lv_at hl 0 rfl) ?_
    refine lv_iload_n hx hb dX4_clear_20 rfl (lv_at hl 1 rfl) ?_
    obtain ⟨s2, es2, hf⟩ := nm_ob hf
    refine va_put (D := D) (ci := 4) (v := .int a0) (ty := .int) (C := RX4) (T := TX4) (N := 7) hx hb hts in4 tyX4 tyX4_ok nmX4 hown hK hP hD hS 0 rfl rfl 5 (by decide) f42 (fun _ h9 => h9) rfl (by decide +kernel) rfl rfl (Nat.le_of_ble_eq_true rfl) dX4_clear_21 (fun H locs hP hD hS => ?_)
    have hP : va_P D vwCl (wRR ca B ar s2) H := by rw [← es2]; exact hP
    have hD : va_D A (wRR ca B ar s2) := by rw [← es2]; exact hD
    refine lv_aload_n hx hb dX4_clear_24 rfl (lv_at hl 0 rfl) ?_
    refine va_get (D := D) (ci := 4) (v := .ref (rr_ap s2)) (C := RX4) (T := TX4) (N := 7) hx hb hts in4 hown hK hP 0 rfl rfl 3 (by decide) f34 (fun _ h9 => h9) rfl dX4_clear_25 ?_
    refine lv_bipush (v := 8) hx hb dX4_clear_28 (by decide) ?_
    obtain ⟨s4, es4, hf⟩ := bd_ob hf
    refine call_v (As := [.int 8]) (rest := []) ⟨hx, hb, hml, hown, hts⟩ (tX3_emptyWith l D ca (rr_ap s2) (ar (rr_ap s2)) _ (rr_P s2) 8 s4 es4) (cwV 1 hts gX4_clear_X3_emptyWith rfl rfl rfl (by decide +kernel) ⟨Nat.le_of_ble_eq_true rfl, Nat.le_of_ble_eq_true rfl⟩) hN hK hP hD hA hS (fr_RP ca B ar s2 s4) rfl rfl rfl hl.1 rfl (lv_room (Nat.le_of_ble_eq_true rfl)) dX4_clear_30 ⟨Nat.le_refl _, Nat.le_refl _⟩ (fun H locs hP hD hS => ?_)
    obtain ⟨s5, es5, hf⟩ := nm_ob hf
    have hP : va_P D vwCl (wRR ca B ar s5) H := by rw [← es5]; exact hP
    have hD : va_D A (wRR ca B ar s5) := by rw [← es5]; exact hD
    refine lv_aload_n hx hb dX4_clear_33 rfl (lv_at hl 0 rfl) ?_
    refine va_get (D := D) (ci := 4) (v := .ref (rr_ao s5)) (C := RX4) (T := TX4) (N := 7) hx hb hts in4 hown hK hP 0 rfl rfl 4 (by decide) f38 (fun _ h9 => h9) rfl dX4_clear_34 ?_
    refine lv_iconst (v := 0) hx hb dX4_clear_37 (by decide) ?_
    obtain ⟨s7, es7, hf⟩ := bd_ob hf
    refine call_v (As := [.int 0]) (rest := []) ⟨hx, hb, hml, hown, hts⟩ (tX3_emptyWith l D ca (rr_ao s5) (ar (rr_ao s5)) _ (rr_O s5) 0 s7 es7) (cwV 1 hts gX4_clear_X3_emptyWith rfl rfl rfl (by decide +kernel) ⟨Nat.le_of_ble_eq_true rfl, Nat.le_of_ble_eq_true rfl⟩) hN hK hP hD hA hS (fr_RO ca B ar s5 s7) rfl rfl rfl hl.1 rfl (lv_room (Nat.le_of_ble_eq_true rfl)) dX4_clear_38 ⟨Nat.le_refl _, Nat.le_refl _⟩ (fun H locs hP hD hS => ?_)
    obtain ⟨s8, es8, hf⟩ := nm_ob hf
    have hP : va_P D vwCl (wRR ca B ar s8) H := by rw [← es8]; exact hP
    have hD : va_D A (wRR ca B ar s8) := by rw [← es8]; exact hD
    refine lv_aload_n hx hb dX4_clear_41 rfl (lv_at hl 0 rfl) ?_
    refine lv_iconst (v := 0) hx hb dX4_clear_42 (by decide) ?_
    obtain ⟨s9, es9, hf⟩ := nm_ob hf
    refine va_put (D := D) (ci := 4) (v := .int 0) (ty := .int) (C := RX4) (T := TX4) (N := 7) hx hb hts in4 tyX4 tyX4_ok nmX4 hown hK hP hD hS 0 rfl rfl 6 (by decide) f56 (fun _ h9 => h9) rfl (by decide +kernel) rfl rfl (Nat.le_of_ble_eq_true rfl) dX4_clear_43 (fun H locs hP hD hS => ?_)
    have hP : va_P D vwCl (wRR ca B ar s9) H := by rw [← es9]; exact hP
    have hD : va_D A (wRR ca B ar s9) := by rw [← es9]; exact hD
    refine lv_iconst (v := 0) hx hb dX4_clear_46 (by decide) ?_
    refine lv_istore_n (lv' := [(2, .int 0), (0, .ref (B 0)), (1, .int a0)]) hx hb dX4_clear_47 rfl hl (by decide) rfl (fun ls hl => ?_)
    refine lv_iload_n hx hb dX4_clear_48 rfl (lv_at hl 0 rfl) ?_
    refine lv_iconst (v := 4) hx hb dX4_clear_49 (by decide) ?_
    refine lv_icmp_ge (tgt := 68) hx hb dX4_clear_50 (by decide) (fun c => absurd c (by decide)) (fun _ => ?_)
    refine lv_aload_n hx hb dX4_clear_53 rfl (lv_at hl 1 rfl) ?_
    refine va_get (D := D) (ci := 4) (v := .ref (B 1)) (C := RX4) (T := TX4) (N := 7) hx hb hts in4 hown hK hP 0 rfl rfl 0 (by decide) f11 (fun _ h9 => h9) rfl dX4_clear_54 ?_
    refine lv_iload_n hx hb dX4_clear_57 rfl (lv_at hl 0 rfl) ?_
    refine va_aldq hx hb hK hP 1 4 rfl rfl (show ¬ ((0 : Int32) < 0 ∨ 4 ≤ (0 : Int32).toNatClampNeg) by decide) dX4_clear_58 ?_
    refine W.eq (g2 := F0 m 59 ls [.ref (B (2 + 0))]) rfl ?_
    obtain ⟨s12, es12, hf⟩ := bd_ob hf
    refine call_v (As := []) (rest := []) ⟨hx, hb, hml, hown, hts⟩ (tX2_end l D ca (B (2 + 0)) _ (rr_sws s9 0) s12 es12) (cwV 0 hts gX4_clear_X2_end rfl rfl rfl (by decide +kernel) ⟨Nat.le_of_ble_eq_true rfl, Nat.le_of_ble_eq_true rfl⟩) hN hK hP hD hA hS (fr_RW ca B ar s9 s12 (show 0 < 4 by decide)) rfl rfl rfl hl.1 rfl (lv_room (Nat.le_of_ble_eq_true rfl)) dX4_clear_59 ⟨Nat.le_refl _, Nat.le_refl _⟩ (fun H locs hP hD hS => ?_)
    obtain ⟨s13, es13, hf⟩ := nm_ob hf
    have hP : va_P D vwCl (wRR ca B ar s13) H := by rw [← es13]; exact hP
    have hD : va_D A (wRR ca B ar s13) := by rw [← es13]; exact hD
    refine lv_iinc (v := 1) (lv' := [(2, .int 1), (0, .ref (B 0)), (1, .int a0)]) hx hb dX4_clear_62 hl (k := 0) rfl (by decide) (by decide) rfl (fun ls hl => ?_)
    refine lv_goto (tgt := 48) hx hb dX4_clear_65 (by decide) ?_
    refine lv_iload_n hx hb dX4_clear_48 rfl (lv_at hl 0 rfl) ?_
    refine lv_iconst (v := 4) hx hb dX4_clear_49 (by decide) ?_
    refine lv_icmp_ge (tgt := 68) hx hb dX4_clear_50 (by decide) (fun c => absurd c (by decide)) (fun _ => ?_)
    refine lv_aload_n hx hb dX4_clear_53 rfl (lv_at hl 1 rfl) ?_
    refine va_get (D := D) (ci := 4) (v := .ref (B 1)) (C := RX4) (T := TX4) (N := 7) hx hb hts in4 hown hK hP 0 rfl rfl 0 (by decide) f11 (fun _ h9 => h9) rfl dX4_clear_54 ?_
    refine lv_iload_n hx hb dX4_clear_57 rfl (lv_at hl 0 rfl) ?_
    refine va_aldq hx hb hK hP 1 4 rfl rfl (show ¬ ((1 : Int32) < 0 ∨ 4 ≤ (1 : Int32).toNatClampNeg) by decide) dX4_clear_58 ?_
    refine W.eq (g2 := F0 m 59 ls [.ref (B (2 + 1))]) rfl ?_
    obtain ⟨s16, es16, hf⟩ := bd_ob hf
    refine call_v (As := []) (rest := []) ⟨hx, hb, hml, hown, hts⟩ (tX2_end l D ca (B (2 + 1)) _ (rr_sws s13 1) s16 es16) (cwV 0 hts gX4_clear_X2_end rfl rfl rfl (by decide +kernel) ⟨Nat.le_of_ble_eq_true rfl, Nat.le_of_ble_eq_true rfl⟩) hN hK hP hD hA hS (fr_RW ca B ar s13 s16 (show 1 < 4 by decide)) rfl rfl rfl hl.1 rfl (lv_room (Nat.le_of_ble_eq_true rfl)) dX4_clear_59 ⟨Nat.le_refl _, Nat.le_refl _⟩ (fun H locs hP hD hS => ?_)
    obtain ⟨s17, es17, hf⟩ := nm_ob hf
    have hP : va_P D vwCl (wRR ca B ar s17) H := by rw [← es17]; exact hP
    have hD : va_D A (wRR ca B ar s17) := by rw [← es17]; exact hD
    refine lv_iinc (v := 2) (lv' := [(2, .int 2), (0, .ref (B 0)), (1, .int a0)]) hx hb dX4_clear_62 hl (k := 0) rfl (by decide) (by decide) rfl (fun ls hl => ?_)
    refine lv_goto (tgt := 48) hx hb dX4_clear_65 (by decide) ?_
    refine lv_iload_n hx hb dX4_clear_48 rfl (lv_at hl 0 rfl) ?_
    refine lv_iconst (v := 4) hx hb dX4_clear_49 (by decide) ?_
    refine lv_icmp_ge (tgt := 68) hx hb dX4_clear_50 (by decide) (fun c => absurd c (by decide)) (fun _ => ?_)
    refine lv_aload_n hx hb dX4_clear_53 rfl (lv_at hl 1 rfl) ?_
    refine va_get (D := D) (ci := 4) (v := .ref (B 1)) (C := RX4) (T := TX4) (N := 7) hx hb hts in4 hown hK hP 0 rfl rfl 0 (by decide) f11 (fun _ h9 => h9) rfl dX4_clear_54 ?_
    refine lv_iload_n hx hb dX4_clear_57 rfl (lv_at hl 0 rfl) ?_
    refine va_aldq hx hb hK hP 1 4 rfl rfl (show ¬ ((2 : Int32) < 0 ∨ 4 ≤ (2 : Int32).toNatClampNeg) by decide) dX4_clear_58 ?_
    refine W.eq (g2 := F0 m 59 ls [.ref (B (2 + 2))]) rfl ?_
    obtain ⟨s20, es20, hf⟩ := bd_ob hf
    refine call_v (As := []) (rest := []) ⟨hx, hb, hml, hown, hts⟩ (tX2_end l D ca (B (2 + 2)) _ (rr_sws s17 2) s20 es20) (cwV 0 hts gX4_clear_X2_end rfl rfl rfl (by decide +kernel) ⟨Nat.le_of_ble_eq_true rfl, Nat.le_of_ble_eq_true rfl⟩) hN hK hP hD hA hS (fr_RW ca B ar s17 s20 (show 2 < 4 by decide)) rfl rfl rfl hl.1 rfl (lv_room (Nat.le_of_ble_eq_true rfl)) dX4_clear_59 ⟨Nat.le_refl _, Nat.le_refl _⟩ (fun H locs hP hD hS => ?_)
    obtain ⟨s21, es21, hf⟩ := nm_ob hf
    have hP : va_P D vwCl (wRR ca B ar s21) H := by rw [← es21]; exact hP
    have hD : va_D A (wRR ca B ar s21) := by rw [← es21]; exact hD
    refine lv_iinc (v := 3) (lv' := [(2, .int 3), (0, .ref (B 0)), (1, .int a0)]) hx hb dX4_clear_62 hl (k := 0) rfl (by decide) (by decide) rfl (fun ls hl => ?_)
    refine lv_goto (tgt := 48) hx hb dX4_clear_65 (by decide) ?_
    refine lv_iload_n hx hb dX4_clear_48 rfl (lv_at hl 0 rfl) ?_
    refine lv_iconst (v := 4) hx hb dX4_clear_49 (by decide) ?_
    refine lv_icmp_ge (tgt := 68) hx hb dX4_clear_50 (by decide) (fun c => absurd c (by decide)) (fun _ => ?_)
    refine lv_aload_n hx hb dX4_clear_53 rfl (lv_at hl 1 rfl) ?_
    refine va_get (D := D) (ci := 4) (v := .ref (B 1)) (C := RX4) (T := TX4) (N := 7) hx hb hts in4 hown hK hP 0 rfl rfl 0 (by decide) f11 (fun _ h9 => h9) rfl dX4_clear_54 ?_
    refine lv_iload_n hx hb dX4_clear_57 rfl (lv_at hl 0 rfl) ?_
    refine va_aldq hx hb hK hP 1 4 rfl rfl (show ¬ ((3 : Int32) < 0 ∨ 4 ≤ (3 : Int32).toNatClampNeg) by decide) dX4_clear_58 ?_
    refine W.eq (g2 := F0 m 59 ls [.ref (B (2 + 3))]) rfl ?_
    obtain ⟨s24, es24, hf⟩ := bd_ob hf
    refine call_v (As := []) (rest := []) ⟨hx, hb, hml, hown, hts⟩ (tX2_end l D ca (B (2 + 3)) _ (rr_sws s21 3) s24 es24) (cwV 0 hts gX4_clear_X2_end rfl rfl rfl (by decide +kernel) ⟨Nat.le_of_ble_eq_true rfl, Nat.le_of_ble_eq_true rfl⟩) hN hK hP hD hA hS (fr_RW ca B ar s21 s24 (show 3 < 4 by decide)) rfl rfl rfl hl.1 rfl (lv_room (Nat.le_of_ble_eq_true rfl)) dX4_clear_59 ⟨Nat.le_refl _, Nat.le_refl _⟩ (fun H locs hP hD hS => ?_)
    obtain ⟨s25, es25, hf⟩ := nm_ob hf
    have hP : va_P D vwCl (wRR ca B ar s25) H := by rw [← es25]; exact hP
    have hD : va_D A (wRR ca B ar s25) := by rw [← es25]; exact hD
    refine lv_iinc (v := 4) (lv' := [(2, .int 4), (0, .ref (B 0)), (1, .int a0)]) hx hb dX4_clear_62 hl (k := 0) rfl (by decide) (by decide) rfl (fun ls hl => ?_)
    refine lv_goto (tgt := 48) hx hb dX4_clear_65 (by decide) ?_
    refine lv_iload_n hx hb dX4_clear_48 rfl (lv_at hl 0 rfl) ?_
    refine lv_iconst (v := 4) hx hb dX4_clear_49 (by decide) ?_
    refine lv_icmp_ge (tgt := 68) hx hb dX4_clear_50 (by decide) (fun _ => ?_) (fun c => absurd c (by decide))
    obtain rfl := so1 hf
    exact hret _ _ _ _ dX4_clear_68 hP hD hS
  · replace hf := it_n c1 hf
    refine lv_iload_n hx hb dX4_clear_4 rfl (lv_at hl 1 rfl) ?_
    refine lv_iconst (v := 1) hx hb dX4_clear_5 (by decide) ?_
    refine lv_icmp_eq (tgt := 19) hx hb dX4_clear_6 (by decide) (fun c27 => ?_) (fun c27 => ?_)
    · replace hf := it_p c27 hf
      refine lv_aload_n hx hb dX4_clear_19 rfl (lv_at hl 0 rfl) ?_
      refine lv_iload_n hx hb dX4_clear_20 rfl (lv_at hl 1 rfl) ?_
      obtain ⟨s28, es28, hf⟩ := nm_ob hf
      refine va_put (D := D) (ci := 4) (v := .int a0) (ty := .int) (C := RX4) (T := TX4) (N := 7) hx hb hts in4 tyX4 tyX4_ok nmX4 hown hK hP hD hS 0 rfl rfl 5 (by decide) f42 (fun _ h9 => h9) rfl (by decide +kernel) rfl rfl (Nat.le_of_ble_eq_true rfl) dX4_clear_21 (fun H locs hP hD hS => ?_)
      have hP : va_P D vwCl (wRR ca B ar s28) H := by rw [← es28]; exact hP
      have hD : va_D A (wRR ca B ar s28) := by rw [← es28]; exact hD
      refine lv_aload_n hx hb dX4_clear_24 rfl (lv_at hl 0 rfl) ?_
      refine va_get (D := D) (ci := 4) (v := .ref (rr_ap s28)) (C := RX4) (T := TX4) (N := 7) hx hb hts in4 hown hK hP 0 rfl rfl 3 (by decide) f34 (fun _ h9 => h9) rfl dX4_clear_25 ?_
      refine lv_bipush (v := 8) hx hb dX4_clear_28 (by decide) ?_
      obtain ⟨s30, es30, hf⟩ := bd_ob hf
      refine call_v (As := [.int 8]) (rest := []) ⟨hx, hb, hml, hown, hts⟩ (tX3_emptyWith l D ca (rr_ap s28) (ar (rr_ap s28)) _ (rr_P s28) 8 s30 es30) (cwV 1 hts gX4_clear_X3_emptyWith rfl rfl rfl (by decide +kernel) ⟨Nat.le_of_ble_eq_true rfl, Nat.le_of_ble_eq_true rfl⟩) hN hK hP hD hA hS (fr_RP ca B ar s28 s30) rfl rfl rfl hl.1 rfl (lv_room (Nat.le_of_ble_eq_true rfl)) dX4_clear_30 ⟨Nat.le_refl _, Nat.le_refl _⟩ (fun H locs hP hD hS => ?_)
      obtain ⟨s31, es31, hf⟩ := nm_ob hf
      have hP : va_P D vwCl (wRR ca B ar s31) H := by rw [← es31]; exact hP
      have hD : va_D A (wRR ca B ar s31) := by rw [← es31]; exact hD
      refine lv_aload_n hx hb dX4_clear_33 rfl (lv_at hl 0 rfl) ?_
      refine va_get (D := D) (ci := 4) (v := .ref (rr_ao s31)) (C := RX4) (T := TX4) (N := 7) hx hb hts in4 hown hK hP 0 rfl rfl 4 (by decide) f38 (fun _ h9 => h9) rfl dX4_clear_34 ?_
      refine lv_iconst (v := 0) hx hb dX4_clear_37 (by decide) ?_
      obtain ⟨s33, es33, hf⟩ := bd_ob hf
      refine call_v (As := [.int 0]) (rest := []) ⟨hx, hb, hml, hown, hts⟩ (tX3_emptyWith l D ca (rr_ao s31) (ar (rr_ao s31)) _ (rr_O s31) 0 s33 es33) (cwV 1 hts gX4_clear_X3_emptyWith rfl rfl rfl (by decide +kernel) ⟨Nat.le_of_ble_eq_true rfl, Nat.le_of_ble_eq_true rfl⟩) hN hK hP hD hA hS (fr_RO ca B ar s31 s33) rfl rfl rfl hl.1 rfl (lv_room (Nat.le_of_ble_eq_true rfl)) dX4_clear_38 ⟨Nat.le_refl _, Nat.le_refl _⟩ (fun H locs hP hD hS => ?_)
      obtain ⟨s34, es34, hf⟩ := nm_ob hf
      have hP : va_P D vwCl (wRR ca B ar s34) H := by rw [← es34]; exact hP
      have hD : va_D A (wRR ca B ar s34) := by rw [← es34]; exact hD
      refine lv_aload_n hx hb dX4_clear_41 rfl (lv_at hl 0 rfl) ?_
      refine lv_iconst (v := 0) hx hb dX4_clear_42 (by decide) ?_
      obtain ⟨s35, es35, hf⟩ := nm_ob hf
      refine va_put (D := D) (ci := 4) (v := .int 0) (ty := .int) (C := RX4) (T := TX4) (N := 7) hx hb hts in4 tyX4 tyX4_ok nmX4 hown hK hP hD hS 0 rfl rfl 6 (by decide) f56 (fun _ h9 => h9) rfl (by decide +kernel) rfl rfl (Nat.le_of_ble_eq_true rfl) dX4_clear_43 (fun H locs hP hD hS => ?_)
      have hP : va_P D vwCl (wRR ca B ar s35) H := by rw [← es35]; exact hP
      have hD : va_D A (wRR ca B ar s35) := by rw [← es35]; exact hD
      refine lv_iconst (v := 0) hx hb dX4_clear_46 (by decide) ?_
      refine lv_istore_n (lv' := [(2, .int 0), (0, .ref (B 0)), (1, .int a0)]) hx hb dX4_clear_47 rfl hl (by decide) rfl (fun ls hl => ?_)
      refine lv_iload_n hx hb dX4_clear_48 rfl (lv_at hl 0 rfl) ?_
      refine lv_iconst (v := 4) hx hb dX4_clear_49 (by decide) ?_
      refine lv_icmp_ge (tgt := 68) hx hb dX4_clear_50 (by decide) (fun c => absurd c (by decide)) (fun _ => ?_)
      refine lv_aload_n hx hb dX4_clear_53 rfl (lv_at hl 1 rfl) ?_
      refine va_get (D := D) (ci := 4) (v := .ref (B 1)) (C := RX4) (T := TX4) (N := 7) hx hb hts in4 hown hK hP 0 rfl rfl 0 (by decide) f11 (fun _ h9 => h9) rfl dX4_clear_54 ?_
      refine lv_iload_n hx hb dX4_clear_57 rfl (lv_at hl 0 rfl) ?_
      refine va_aldq hx hb hK hP 1 4 rfl rfl (show ¬ ((0 : Int32) < 0 ∨ 4 ≤ (0 : Int32).toNatClampNeg) by decide) dX4_clear_58 ?_
      refine W.eq (g2 := F0 m 59 ls [.ref (B (2 + 0))]) rfl ?_
      obtain ⟨s38, es38, hf⟩ := bd_ob hf
      refine call_v (As := []) (rest := []) ⟨hx, hb, hml, hown, hts⟩ (tX2_end l D ca (B (2 + 0)) _ (rr_sws s35 0) s38 es38) (cwV 0 hts gX4_clear_X2_end rfl rfl rfl (by decide +kernel) ⟨Nat.le_of_ble_eq_true rfl, Nat.le_of_ble_eq_true rfl⟩) hN hK hP hD hA hS (fr_RW ca B ar s35 s38 (show 0 < 4 by decide)) rfl rfl rfl hl.1 rfl (lv_room (Nat.le_of_ble_eq_true rfl)) dX4_clear_59 ⟨Nat.le_refl _, Nat.le_refl _⟩ (fun H locs hP hD hS => ?_)
      obtain ⟨s39, es39, hf⟩ := nm_ob hf
      have hP : va_P D vwCl (wRR ca B ar s39) H := by rw [← es39]; exact hP
      have hD : va_D A (wRR ca B ar s39) := by rw [← es39]; exact hD
      refine lv_iinc (v := 1) (lv' := [(2, .int 1), (0, .ref (B 0)), (1, .int a0)]) hx hb dX4_clear_62 hl (k := 0) rfl (by decide) (by decide) rfl (fun ls hl => ?_)
      refine lv_goto (tgt := 48) hx hb dX4_clear_65 (by decide) ?_
      refine lv_iload_n hx hb dX4_clear_48 rfl (lv_at hl 0 rfl) ?_
      refine lv_iconst (v := 4) hx hb dX4_clear_49 (by decide) ?_
      refine lv_icmp_ge (tgt := 68) hx hb dX4_clear_50 (by decide) (fun c => absurd c (by decide)) (fun _ => ?_)
      refine lv_aload_n hx hb dX4_clear_53 rfl (lv_at hl 1 rfl) ?_
      refine va_get (D := D) (ci := 4) (v := .ref (B 1)) (C := RX4) (T := TX4) (N := 7) hx hb hts in4 hown hK hP 0 rfl rfl 0 (by decide) f11 (fun _ h9 => h9) rfl dX4_clear_54 ?_
      refine lv_iload_n hx hb dX4_clear_57 rfl (lv_at hl 0 rfl) ?_
      refine va_aldq hx hb hK hP 1 4 rfl rfl (show ¬ ((1 : Int32) < 0 ∨ 4 ≤ (1 : Int32).toNatClampNeg) by decide) dX4_clear_58 ?_
      refine W.eq (g2 := F0 m 59 ls [.ref (B (2 + 1))]) rfl ?_
      obtain ⟨s42, es42, hf⟩ := bd_ob hf
      refine call_v (As := []) (rest := []) ⟨hx, hb, hml, hown, hts⟩ (tX2_end l D ca (B (2 + 1)) _ (rr_sws s39 1) s42 es42) (cwV 0 hts gX4_clear_X2_end rfl rfl rfl (by decide +kernel) ⟨Nat.le_of_ble_eq_true rfl, Nat.le_of_ble_eq_true rfl⟩) hN hK hP hD hA hS (fr_RW ca B ar s39 s42 (show 1 < 4 by decide)) rfl rfl rfl hl.1 rfl (lv_room (Nat.le_of_ble_eq_true rfl)) dX4_clear_59 ⟨Nat.le_refl _, Nat.le_refl _⟩ (fun H locs hP hD hS => ?_)
      obtain ⟨s43, es43, hf⟩ := nm_ob hf
      have hP : va_P D vwCl (wRR ca B ar s43) H := by rw [← es43]; exact hP
      have hD : va_D A (wRR ca B ar s43) := by rw [← es43]; exact hD
      refine lv_iinc (v := 2) (lv' := [(2, .int 2), (0, .ref (B 0)), (1, .int a0)]) hx hb dX4_clear_62 hl (k := 0) rfl (by decide) (by decide) rfl (fun ls hl => ?_)
      refine lv_goto (tgt := 48) hx hb dX4_clear_65 (by decide) ?_
      refine lv_iload_n hx hb dX4_clear_48 rfl (lv_at hl 0 rfl) ?_
      refine lv_iconst (v := 4) hx hb dX4_clear_49 (by decide) ?_
      refine lv_icmp_ge (tgt := 68) hx hb dX4_clear_50 (by decide) (fun c => absurd c (by decide)) (fun _ => ?_)
      refine lv_aload_n hx hb dX4_clear_53 rfl (lv_at hl 1 rfl) ?_
      refine va_get (D := D) (ci := 4) (v := .ref (B 1)) (C := RX4) (T := TX4) (N := 7) hx hb hts in4 hown hK hP 0 rfl rfl 0 (by decide) f11 (fun _ h9 => h9) rfl dX4_clear_54 ?_
      refine lv_iload_n hx hb dX4_clear_57 rfl (lv_at hl 0 rfl) ?_
      refine va_aldq hx hb hK hP 1 4 rfl rfl (show ¬ ((2 : Int32) < 0 ∨ 4 ≤ (2 : Int32).toNatClampNeg) by decide) dX4_clear_58 ?_
      refine W.eq (g2 := F0 m 59 ls [.ref (B (2 + 2))]) rfl ?_
      obtain ⟨s46, es46, hf⟩ := bd_ob hf
      refine call_v (As := []) (rest := []) ⟨hx, hb, hml, hown, hts⟩ (tX2_end l D ca (B (2 + 2)) _ (rr_sws s43 2) s46 es46) (cwV 0 hts gX4_clear_X2_end rfl rfl rfl (by decide +kernel) ⟨Nat.le_of_ble_eq_true rfl, Nat.le_of_ble_eq_true rfl⟩) hN hK hP hD hA hS (fr_RW ca B ar s43 s46 (show 2 < 4 by decide)) rfl rfl rfl hl.1 rfl (lv_room (Nat.le_of_ble_eq_true rfl)) dX4_clear_59 ⟨Nat.le_refl _, Nat.le_refl _⟩ (fun H locs hP hD hS => ?_)
      obtain ⟨s47, es47, hf⟩ := nm_ob hf
      have hP : va_P D vwCl (wRR ca B ar s47) H := by rw [← es47]; exact hP
      have hD : va_D A (wRR ca B ar s47) := by rw [← es47]; exact hD
      refine lv_iinc (v := 3) (lv' := [(2, .int 3), (0, .ref (B 0)), (1, .int a0)]) hx hb dX4_clear_62 hl (k := 0) rfl (by decide) (by decide) rfl (fun ls hl => ?_)
      refine lv_goto (tgt := 48) hx hb dX4_clear_65 (by decide) ?_
      refine lv_iload_n hx hb dX4_clear_48 rfl (lv_at hl 0 rfl) ?_
      refine lv_iconst (v := 4) hx hb dX4_clear_49 (by decide) ?_
      refine lv_icmp_ge (tgt := 68) hx hb dX4_clear_50 (by decide) (fun c => absurd c (by decide)) (fun _ => ?_)
      refine lv_aload_n hx hb dX4_clear_53 rfl (lv_at hl 1 rfl) ?_
      refine va_get (D := D) (ci := 4) (v := .ref (B 1)) (C := RX4) (T := TX4) (N := 7) hx hb hts in4 hown hK hP 0 rfl rfl 0 (by decide) f11 (fun _ h9 => h9) rfl dX4_clear_54 ?_
      refine lv_iload_n hx hb dX4_clear_57 rfl (lv_at hl 0 rfl) ?_
      refine va_aldq hx hb hK hP 1 4 rfl rfl (show ¬ ((3 : Int32) < 0 ∨ 4 ≤ (3 : Int32).toNatClampNeg) by decide) dX4_clear_58 ?_
      refine W.eq (g2 := F0 m 59 ls [.ref (B (2 + 3))]) rfl ?_
      obtain ⟨s50, es50, hf⟩ := bd_ob hf
      refine call_v (As := []) (rest := []) ⟨hx, hb, hml, hown, hts⟩ (tX2_end l D ca (B (2 + 3)) _ (rr_sws s47 3) s50 es50) (cwV 0 hts gX4_clear_X2_end rfl rfl rfl (by decide +kernel) ⟨Nat.le_of_ble_eq_true rfl, Nat.le_of_ble_eq_true rfl⟩) hN hK hP hD hA hS (fr_RW ca B ar s47 s50 (show 3 < 4 by decide)) rfl rfl rfl hl.1 rfl (lv_room (Nat.le_of_ble_eq_true rfl)) dX4_clear_59 ⟨Nat.le_refl _, Nat.le_refl _⟩ (fun H locs hP hD hS => ?_)
      obtain ⟨s51, es51, hf⟩ := nm_ob hf
      have hP : va_P D vwCl (wRR ca B ar s51) H := by rw [← es51]; exact hP
      have hD : va_D A (wRR ca B ar s51) := by rw [← es51]; exact hD
      refine lv_iinc (v := 4) (lv' := [(2, .int 4), (0, .ref (B 0)), (1, .int a0)]) hx hb dX4_clear_62 hl (k := 0) rfl (by decide) (by decide) rfl (fun ls hl => ?_)
      refine lv_goto (tgt := 48) hx hb dX4_clear_65 (by decide) ?_
      refine lv_iload_n hx hb dX4_clear_48 rfl (lv_at hl 0 rfl) ?_
      refine lv_iconst (v := 4) hx hb dX4_clear_49 (by decide) ?_
      refine lv_icmp_ge (tgt := 68) hx hb dX4_clear_50 (by decide) (fun _ => ?_) (fun c => absurd c (by decide))
      obtain rfl := so1 hf
      exact hret _ _ _ _ dX4_clear_68 hP hD hS
    · replace hf := it_n c27 hf
      exact absurd hf (fun h => by cases h)
end
section
/-! constructors: their worlds come with new cells -/
theorem ca_same {D : va_G} {ca : Nat → ClassId} {s : State} {cA : ClassId} {ty : FieldType} (h : va_K D vwCl (vt ca ++ [(cA, ty)]) s) {k : Nat} {c' : ClassId} (hk : (vt ca)[k]? = some (c', ty)) : cA = c' := by
  have h1 : va_RA s cA ty := (h.2 5 (cA, ty) rfl).2
  have hlt : k < (vt ca).length := (List.getElem?_eq_some_iff.mp hk).1
  have h2 : va_RA s c' ty := (h.2 k (c', ty) (by rw [List.getElem?_append_left hlt]; exact hk)).2
  cases ty with
  | object C =>
    obtain ⟨_, _, _, _, _, e1⟩ := h1
    obtain ⟨_, _, _, _, _, e2⟩ := h2
    exact Option.some.inj (e1.symm.trans e2)
  | _ => exact Option.some.inj (h1.symm.trans h2)
def Cn {X : Type} (l : Launch) (D : va_G) (ca : Nat → ClassId) (y : MethodName) (wy : List Cond) (rm : Room) (av : List Value) (ws : va_W) (sz : Nat) (w1 : X → va_W) (mc ms : Nat) : Prop := Met l y wy rm (va_Pc av (Pw D ca ws sz)) (va_Qv (fun (_ : Unit) => True) (fun _ t => ∃ x : X, Aw D ca (va_A ws sz) (w1 x) t) (va_A ws sz)) mc ms (va_A ws sz)
theorem bodyn_of {X : Type} {l : Launch} {D : va_G} {ca : Nat → ClassId} {y : MethodName} {wy wy' : List Cond} {rm : Room} {av : List Value} {ws : va_W} {sz : Nat} {w1 : X → va_W} {mc ms : Nat} {cc : ByteArray} {maxL : Nat}
    (hy : plainName y.cls = true) (hyn : y.name = "<init>") (hw : wy = Cond.code y cc maxL none :: wy') (hlen : (lg_sl av).length ≤ maxL)
    (body : ∀ (p : Program) (e : Env) (s : State) (m : MethodId) (below : List Frame) (meth : Method) (c : Code) (A : Nat → Prop) (ls : Array Slot), p.tables.exec = Jvm.exec → c.code = cc → meth.sig.returnType = none → c.maxLocals = maxL → (∀ w ∈ wy, w.before av.toArray s = true) → s.vm.findClass y.cls = some m.cls → meth.locks = false → meth.name = "<init>" → (∀ q : Nat, s.heap.size ≤ q → A q) → va_K D vwCl (vt ca) s → va_P D vwCl ws s.heap → va_D A ws → va_S A s.heap s.heap [] → lv_has ls maxL (lv_args 0 av) → NX s →
      W p l e rm s m av.toArray below meth c s.heap [] 0 0 (MQ below (va_Qv (fun (_ : Unit) => True) (fun _ t => ∃ x : X, Aw D ca A (w1 x) t) A) av.toArray s mc ms A) (F0 m 0 ls [])) : Cn l D ca y wy rm av ws sz w1 mc ms := by
  refine Met.ofW (cc := cc) (maxL := maxL) (ret := none) hy hw ?_
  intro p e s m args below meth c s₁ B hml hv
  obtain ⟨rfl, hsz, hP, hK, hD0, hN⟩ := hv
  subst hsz
  have hD := hD0.self (sz := s.heap.size)
  rw [lg_entry_eq]
  exact body p e s m below meth c (va_A ws s.heap.size) _ B.exec B.bytes B.returns hml (atoms_spec (ws := wy) B.pre) (findClass_of_methodNamed B.named) B.notSynchronized ((name_of_methodNamed B.named B.method).1.trans hyn) (fun q h => Or.inr h) hK hP hD va_S.rf (lv_entry av hlen) hN
section CN
variable {p : Program} {l : Launch} {e : Env} {R : Room} {s : State} {m : MethodId} {args : Array Value} {below : List Frame} {meth : Method} {c : Code} {H : Heap} {locs : List Loc} {cells slots mc ms : Nat} {Q : State → Prop} {D : va_G} {ca : Nat → ClassId} {A : Nat → Prop} {ws wc : va_W} {cc bytes : ByteArray} {pc nL maxL index n : Nat} {ls : Array Slot} {st0 rest As : List Value} {Ts wy : List Cond} {own : String} {y : MethodName} {rm : Room} {b : Nat}
theorem ret_n {X : Type} {w1 : X → va_W} {x : X} (hx : p.tables.exec = Jvm.exec) (hb : c.code = cc) (hr : meth.sig.returnType = none) (hlocks : meth.locks = false) (hK : va_K D vwCl (vt ca) s) (hP : va_P D vwCl (w1 x) H) (hD : va_D A (w1 x)) (hS : va_S A s.heap H locs) (hdg : decode cc pc = .ok (.return_, 1)) : W p l e R s m args below meth c H locs cells slots (MQ below (va_Qv (fun (_ : Unit) => True) (fun _ t => ∃ x : X, Aw D ca A (w1 x) t) A) args s cells slots A) (F0 m pc ls []) :=
  W.vret hx hb hr (fun t ht hW => ⟨⟨(), rfl, trivial, x, by rw [ht]; exact hP, va_K.moved hW.alike hK, hD⟩, hS.F ht⟩) hS.2.2 hdg
theorem call_n {X : Type} {w1 ws2 : X → va_W} (S : CallFix p m c cc nL s args Ts own) (hM : Cn l D ca y wy rm (.ref b :: As) wc H.size w1 mc ms) (cw : CallB R s args own index y bytes maxL none wy rm mc ms n ∧ y.name = "<init>" ∧ (Cond.instanceMethod y).before args s = true) (hN : NX s) (hK : va_K D vwCl (vt ca) s) (hP : va_P D vwCl ws H) (hD : va_D A ws) (hA : ∀ q : Nat, s.heap.size ≤ q → A q) (hS : va_S A s.heap H locs) (hF : ∀ x, Fr ws wc (w1 x) (ws2 x)) (hn : As.length = n) (hsize : ls.size = nL) (hst : st0 = As.reverse ++ .ref b :: rest) (hW : 2 * (F0 m pc ls st0).monitorRoom + (rest.map fun v => v.category).sum ≤ 8) (hdg : decode cc pc = .ok (.invokespecial index, 3)) (hf : cells + mc ≤ R.cells ∧ slots + ms ≤ R.slots)
    (hne : Nonempty X) (kk : ∀ (x : X) (H1 : Heap) (locs1 : List Loc), va_P D vwCl (ws2 x) H1 → va_D A (ws2 x) → va_S A s.heap H1 locs1 → W p l e R s m args below meth c H1 locs1 (cells + mc) (slots + ms) Q (F0 m (pc + 3) ls rest)) : W p l e R s m args below meth c H locs cells slots Q (F0 m pc ls st0) := by
  obtain ⟨x0⟩ := hne
  obtain ⟨hPc, hDc, hFc, -⟩ := (hF x0).use hP hD hS hA
  refine va_callv (va_runI (As := As) (rest := rest) S hM cw (pre_S (As := .ref b :: As) hN hK hPc hDc) rfl hn hsize hst hW hdg hf) hS (fun q _ h => hFc q h) hFc (fun u t H1 locs1 ht hvm hw hB hz1 hk1 hS1 => ?_)
  obtain ⟨x, hP1, hK1, hD1⟩ := hB
  rw [ht] at hP1
  obtain ⟨-, -, -, hback⟩ := (hF x).use hP hD hS hA
  obtain ⟨a1, a2⟩ := hback H1 hk1 hP1 hD1
  exact kk x H1 locs1 a1 a2 hS1
theorem call_nN {X : Type} {host : String} {w1 ws2 : X → va_W} (S : CallFix p m c cc nL s args Ts own) (hM : Cn l D ca y wy rm (.ref b :: As) wc H.size w1 mc ms) (cw : va_CN R s args own index y host bytes maxL none wy rm mc ms n ∧ y.name = "<init>" ∧ (Cond.instanceMethod y).before args s = true) (hN : NX s) (hK : va_K D vwCl (vt ca) s) (hP : va_P D vwCl ws H) (hD : va_D A ws) (hA : ∀ q : Nat, s.heap.size ≤ q → A q) (hS : va_S A s.heap H locs) (hF : ∀ x, Fr ws wc (w1 x) (ws2 x)) (hn : As.length = n) (hsize : ls.size = nL) (hst : st0 = As.reverse ++ .ref b :: rest) (hW : 2 * (F0 m pc ls st0).monitorRoom + (rest.map fun v => v.category).sum ≤ 8) (hdg : decode cc pc = .ok (.invokespecial index, 3)) (hf : cells + mc ≤ R.cells ∧ slots + ms ≤ R.slots)
    (hne : Nonempty X) (kk : ∀ (x : X) (H1 : Heap) (locs1 : List Loc), va_P D vwCl (ws2 x) H1 → va_D A (ws2 x) → va_S A s.heap H1 locs1 → W p l e R s m args below meth c H1 locs1 (cells + mc) (slots + ms) Q (F0 m (pc + 3) ls rest)) : W p l e R s m args below meth c H locs cells slots Q (F0 m pc ls st0) := by
  obtain ⟨x0⟩ := hne
  obtain ⟨hPc, hDc, hFc, -⟩ := (hF x0).use hP hD hS hA
  refine va_callv (va_runIN (As := As) (rest := rest) S hM cw (pre_S (As := .ref b :: As) hN hK hPc hDc) rfl hn hsize hst hW hdg hf) hS (fun q _ h => hFc q h) hFc (fun u t H1 locs1 ht hvm hw hB hz1 hk1 hS1 => ?_)
  obtain ⟨x, hP1, hK1, hD1⟩ := hB
  rw [ht] at hP1
  obtain ⟨-, -, -, hback⟩ := (hF x).use hP hD hS hA
  obtain ⟨a1, a2⟩ := hback H1 hk1 hP1 hD1
  exact kk x H1 locs1 a1 a2 hS1
end CN
theorem map_drop {a b : va_W} : (List.range' a.length b.length).map (fun i => (a ++ b)[i]?) = b.map some := by
  apply List.ext_getElem?
  intro i
  rw [List.getElem?_map, List.getElem?_map]
  by_cases h : i < b.length
  · rw [List.getElem?_range' h, List.getElem?_eq_getElem h]
    simp [h]
  · rw [List.getElem?_eq_none (by simpa using h), List.getElem?_eq_none (by omega)]
    rfl
theorem map_take {a b : va_W} : (List.range a.length).map (fun i => (a ++ b)[i]?) = a.map some := by
  rw [← rg_map a]
  apply List.map_congr_left
  intro i hi
  exact List.getElem?_append_left (List.mem_range.mp hi)
/-- the last cells are the callee's -/
theorem fr_last (a wc w1 : va_W) : Fr (a ++ wc) wc w1 (a ++ w1) :=
  ⟨List.range' a.length wc.length, List.range a.length, List.range (a ++ w1).length, a, map_drop, va_nd_of List.nodup_range', map_take, va_nd_of List.nodup_range, (fun i h h2 => by
    have h3 := List.mem_range.mp h
    have h4 := (List.mem_range'_1.mp h2).1
    omega), rg_map (a ++ w1), va_nd_of List.nodup_range⟩

def atH (h : Nat) (B : Nat → Nat) : Nat → Nat := fun i => if i = 0 then h else B i
def sw0 : Sw := (0, 0, 0, 0, 0)
def se0 : Se := (none, 0, 0, 0)
def pl0 : Pl := (fun _ => 0, fun _ => 0, 0, 0)
def tb0 : Tb := (fun _ => 0, fun _ => 0, fun _ => 0, fun _ => 0, 0, 0)

set_option maxHeartbeats 4000000 in
set_option maxRecDepth 100000 in
theorem tX2_init (l : Launch) (D : va_G) (ca : Nat → ClassId) (h sz : Nat) : Cn (X := Unit) l D ca yX2_init wsX2_init { frames := 1, cells := 0, slots := 0, locals := 12 } [.ref h] ([(h, .inr (2, [.int 0, .int 0, .int 0, .int 0, .long 0]))]) sz (fun x => wSw h sw0) 0 0 := by
  refine bodyn_of (cc := cX2_init) (maxL := 1) (by decide) rfl rfl (Nat.le_of_ble_eq_true rfl) ?_
  intro p e s m below meth c A ls hx hb hr hml hts hown hlocks hin hA hK hP hD hS hl hN
  have hl : lv_has ls 1 [(0, .ref h)] := hl
  generalize ([.ref h] : List Value).toArray = args at hts ⊢
  refine lv_aload_n hx hb dX2_init_0 rfl (lv_at hl 0 rfl) ?_
  refine W.objInit hx hb hown (hts (.methodLink RX2 3 objectInit) (by decide +kernel)) (hts (.instanceMethod objectInit) (by decide +kernel)) (hts (.code objectInit ⟨#[0xb1]⟩ 1 none) (by decide +kernel)) rfl (by rw [hml]; exact hl.1) rfl dX2_init_1 (Nat.le_of_ble_eq_true rfl) (Nat.le_of_ble_eq_true rfl) ?_
  refine W.eq (g2 := F0 m 4 ls []) rfl ?_
  exact ret_n (x := ()) hx hb hr hlocks hK hP hD hS dX2_init_4

set_option maxHeartbeats 4000000 in
set_option maxRecDepth 100000 in
theorem tX1_init (l : Launch) (D : va_G) (ca : Nat → ClassId) (h sz : Nat) : Cn (X := Unit) l D ca yX1_init wsX1_init { frames := 1, cells := 0, slots := 0, locals := 12 } [.ref h] ([(h, .inr (1, [.null, .int 0, .int 0, .int 0]))]) sz (fun x => wSe h se0) 0 0 := by
  refine bodyn_of (cc := cX1_init) (maxL := 1) (by decide) rfl rfl (Nat.le_of_ble_eq_true rfl) ?_
  intro p e s m below meth c A ls hx hb hr hml hts hown hlocks hin hA hK hP hD hS hl hN
  have hl : lv_has ls 1 [(0, .ref h)] := hl
  generalize ([.ref h] : List Value).toArray = args at hts ⊢
  refine lv_aload_n hx hb dX1_init_0 rfl (lv_at hl 0 rfl) ?_
  refine W.objInit hx hb hown (hts (.methodLink RX1 3 objectInit) (by decide +kernel)) (hts (.instanceMethod objectInit) (by decide +kernel)) (hts (.code objectInit ⟨#[0xb1]⟩ 1 none) (by decide +kernel)) rfl (by rw [hml]; exact hl.1) rfl dX1_init_1 (Nat.le_of_ble_eq_true rfl) (Nat.le_of_ble_eq_true rfl) ?_
  refine W.eq (g2 := F0 m 4 ls []) rfl ?_
  exact ret_n (x := ()) hx hb hr hlocks hK hP hD hS dX1_init_4

set_option maxHeartbeats 4000000 in
set_option maxRecDepth 100000 in
theorem tX0_init (l : Launch) (D : va_G) (ca : Nat → ClassId) (h sz : Nat) : Cn (X := (Nat → Nat)) l D ca yX0_init wsX0_init { frames := 1, cells := 2, slots := 512, locals := 12 } [.ref h] ([(h, .inr (0, [.null, .null, .int 0, .int 0]))]) sz (fun x => wPl ca h x pl0) 2 512 := by
  refine bodyn_of (cc := cX0_init) (maxL := 1) (by decide) rfl rfl (Nat.le_of_ble_eq_true rfl) ?_
  intro p e s m below meth c A ls hx hb hr hml hts hown hlocks hin hA hK hP hD hS hl hN
  have hl : lv_has ls 1 [(0, .ref h)] := hl
  generalize ([.ref h] : List Value).toArray = args at hts ⊢
  have in0 : ∀ w ∈ u_ws RX0 TX0 4, w ∈ wsX0_init := by decide +kernel
  have ac_int := hts (.arrayClass .int) (by decide +kernel)
  have f9 := hts (.fieldLink RX0 9 "RobinRow$PlainRow" "rising" "[I") (by decide +kernel)
  have ac_boolean := hts (.arrayClass .boolean) (by decide +kernel)
  have f15 := hts (.fieldLink RX0 15 "RobinRow$PlainRow" "taken" "[Z") (by decide +kernel)
  refine lv_aload_n hx hb dX0_init_0 rfl (lv_at hl 0 rfl) ?_
  refine W.objInit hx hb hown (hts (.methodLink RX0 3 objectInit) (by decide +kernel)) (hts (.instanceMethod objectInit) (by decide +kernel)) (hts (.code objectInit ⟨#[0xb1]⟩ 1 none) (by decide +kernel)) rfl (by rw [hml]; exact hl.1) rfl dX0_init_1 (Nat.le_of_ble_eq_true rfl) (Nat.le_of_ble_eq_true rfl) ?_
  refine W.eq (g2 := F0 m 4 ls []) rfl ?_
  refine lv_aload_n hx hb dX0_init_4 rfl (lv_at hl 0 rfl) ?_
  refine lv_sipush (v := 256) hx hb dX0_init_5 (by decide) ?_
  refine va_newa (atype := .int) (ty := .int) (a0 := (256, .inl (fun _ => 0))) hx hb ac_int rfl hK hP hD hS hA (fun _ => rfl) (by decide) (N' := 256) rfl (Nat.le_of_ble_eq_true rfl) (Nat.le_of_ble_eq_true rfl) (Nat.le_of_ble_eq_true rfl) dX0_init_8 (fun q0 cA H hK9 hP hD hS => ?_)
  obtain rfl : cA = ca 0 := ca_same hK9 (k := 0) rfl
  have hP : va_P D vwCl (((h, .inr (0, [.null, .null, .int 0, .int 0])) :: [(q0, .inl (ca 0, 256, .inl (fun _ => 0)))])) H := hP
  have hD : va_D A (((h, .inr (0, [.null, .null, .int 0, .int 0])) :: [(q0, .inl (ca 0, 256, .inl (fun _ => 0)))])) := hD
  refine W.widen (k := 1) (n := 256) (Nat.le_of_ble_eq_true rfl) (Nat.le_of_ble_eq_true rfl) ?_
  refine va_putF (D := D) (ci := 0) (v := .ref q0) (ty := (.array .int)) (C := RX0) (T := TX0) (N := 4) hx hb hts in0 tyX0 tyX0_ok nmX0 hown hK hP hD hS 0 rfl rfl 0 (by decide) f9 (fun _ h9 => h9) rfl hin rfl (by decide +kernel) rfl rfl (Nat.le_of_ble_eq_true rfl) dX0_init_10 (fun H locs hP hD hS => ?_)
  have hP : va_P D vwCl (((h, .inr (0, [.ref q0, .null, .int 0, .int 0])) :: [(q0, .inl (ca 0, 256, .inl (fun _ => 0)))])) H := hP
  have hD : va_D A (((h, .inr (0, [.ref q0, .null, .int 0, .int 0])) :: [(q0, .inl (ca 0, 256, .inl (fun _ => 0)))])) := hD
  refine lv_aload_n hx hb dX0_init_13 rfl (lv_at hl 0 rfl) ?_
  refine lv_sipush (v := 256) hx hb dX0_init_14 (by decide) ?_
  refine va_newa (atype := .boolean) (ty := .boolean) (a0 := (256, .inl (fun _ => 0))) hx hb ac_boolean rfl hK hP hD hS hA (fun _ => rfl) (by decide) (N' := 256) rfl (Nat.le_of_ble_eq_true rfl) (Nat.le_of_ble_eq_true rfl) (Nat.le_of_ble_eq_true rfl) dX0_init_17 (fun q1 cA H hK9 hP hD hS => ?_)
  obtain rfl : cA = ca 2 := ca_same hK9 (k := 2) rfl
  have hP : va_P D vwCl (((h, .inr (0, [.ref q0, .null, .int 0, .int 0])) :: ((q0, .inl (ca 0, 256, .inl (fun _ => 0))) :: [(q1, .inl (ca 2, 256, .inl (fun _ => 0)))]))) H := hP
  have hD : va_D A (((h, .inr (0, [.ref q0, .null, .int 0, .int 0])) :: ((q0, .inl (ca 0, 256, .inl (fun _ => 0))) :: [(q1, .inl (ca 2, 256, .inl (fun _ => 0)))]))) := hD
  refine W.widen (k := 2) (n := 512) (Nat.le_of_ble_eq_true rfl) (Nat.le_of_ble_eq_true rfl) ?_
  refine va_putF (D := D) (ci := 0) (v := .ref q1) (ty := (.array .boolean)) (C := RX0) (T := TX0) (N := 4) hx hb hts in0 tyX0 tyX0_ok nmX0 hown hK hP hD hS 0 rfl rfl 1 (by decide) f15 (fun _ h9 => h9) rfl hin rfl (by decide +kernel) rfl rfl (Nat.le_of_ble_eq_true rfl) dX0_init_19 (fun H locs hP hD hS => ?_)
  have hP : va_P D vwCl (((h, .inr (0, [.ref q0, .ref q1, .int 0, .int 0])) :: ((q0, .inl (ca 0, 256, .inl (fun _ => 0))) :: [(q1, .inl (ca 2, 256, .inl (fun _ => 0)))]))) H := hP
  have hD : va_D A (((h, .inr (0, [.ref q0, .ref q1, .int 0, .int 0])) :: ((q0, .inl (ca 0, 256, .inl (fun _ => 0))) :: [(q1, .inl (ca 2, 256, .inl (fun _ => 0)))]))) := hD
  exact ret_n (x := (fun i => if i = 0 then q0 else q1)) hx hb hr hlocks hK hP hD hS dX0_init_22

set_option maxHeartbeats 4000000 in
set_option maxRecDepth 100000 in
theorem tX3_init (l : Launch) (D : va_G) (ca : Nat → ClassId) (h sz : Nat) (a0 : Int32) (τ9 : Tb) (hf : tt_emptyWith tb0 a0 = some τ9) : Cn (X := (Nat → Nat)) l D ca yX3_init wsX3_init { frames := 2, cells := 4, slots := 1024, locals := 43 } [.ref h, .int a0] ([(h, .inr (3, [.null, .null, .null, .null, .int 0, .int 0]))]) sz (fun x => wTab ca h x τ9) 4 1024 := by
  refine bodyn_of (cc := cX3_init) (maxL := 2) (by decide) rfl rfl (Nat.le_of_ble_eq_true rfl) ?_
  intro p e s m below meth c A ls hx hb hr hml hts hown hlocks hin hA hK hP hD hS hl hN
  have hl : lv_has ls 2 [(0, .ref h), (1, .int a0)] := hl
  generalize ([.ref h, .int a0] : List Value).toArray = args at hts ⊢
  have in3 : ∀ w ∈ u_ws RX3 TX3 6, w ∈ wsX3_init := by decide +kernel
  have ac_byte := hts (.arrayClass .byte) (by decide +kernel)
  have f9 := hts (.fieldLink RX3 9 "RobinRow$Table" "controls" "[B") (by decide +kernel)
  have ac_int := hts (.arrayClass .int) (by decide +kernel)
  have f15 := hts (.fieldLink RX3 15 "RobinRow$Table" "hashes" "[I") (by decide +kernel)
  have f19 := hts (.fieldLink RX3 19 "RobinRow$Table" "keys" "[I") (by decide +kernel)
  have f22 := hts (.fieldLink RX3 22 "RobinRow$Table" "values" "[I") (by decide +kernel)
  refine lv_aload_n hx hb dX3_init_0 rfl (lv_at hl 0 rfl) ?_
  refine W.objInit hx hb hown (hts (.methodLink RX3 3 objectInit) (by decide +kernel)) (hts (.instanceMethod objectInit) (by decide +kernel)) (hts (.code objectInit ⟨#[0xb1]⟩ 1 none) (by decide +kernel)) rfl (by rw [hml]; exact hl.1) rfl dX3_init_1 (Nat.le_of_ble_eq_true rfl) (Nat.le_of_ble_eq_true rfl) ?_
  refine W.eq (g2 := F0 m 4 ls []) rfl ?_
  refine lv_aload_n hx hb dX3_init_4 rfl (lv_at hl 0 rfl) ?_
  refine lv_sipush (v := 256) hx hb dX3_init_5 (by decide) ?_
  refine va_newa (atype := .byte) (ty := .byte) (a0 := (256, .inl (fun _ => 0))) hx hb ac_byte rfl hK hP hD hS hA (fun _ => rfl) (by decide) (N' := 256) rfl (Nat.le_of_ble_eq_true rfl) (Nat.le_of_ble_eq_true rfl) (Nat.le_of_ble_eq_true rfl) dX3_init_8 (fun q0 cA H hK9 hP hD hS => ?_)
  obtain rfl : cA = ca 1 := ca_same hK9 (k := 1) rfl
  have hP : va_P D vwCl (((h, .inr (3, [.null, .null, .null, .null, .int 0, .int 0])) :: [(q0, .inl (ca 1, 256, .inl (fun _ => 0)))])) H := hP
  have hD : va_D A (((h, .inr (3, [.null, .null, .null, .null, .int 0, .int 0])) :: [(q0, .inl (ca 1, 256, .inl (fun _ => 0)))])) := hD
  refine W.widen (k := 1) (n := 256) (Nat.le_of_ble_eq_true rfl) (Nat.le_of_ble_eq_true rfl) ?_
  refine va_putF (D := D) (ci := 3) (v := .ref q0) (ty := (.array .byte)) (C := RX3) (T := TX3) (N := 6) hx hb hts in3 tyX3 tyX3_ok nmX3 hown hK hP hD hS 0 rfl rfl 0 (by decide) f9 (fun _ h9 => h9) rfl hin rfl (by decide +kernel) rfl rfl (Nat.le_of_ble_eq_true rfl) dX3_init_10 (fun H locs hP hD hS => ?_)
  have hP : va_P D vwCl (((h, .inr (3, [.ref q0, .null, .null, .null, .int 0, .int 0])) :: [(q0, .inl (ca 1, 256, .inl (fun _ => 0)))])) H := hP
  have hD : va_D A (((h, .inr (3, [.ref q0, .null, .null, .null, .int 0, .int 0])) :: [(q0, .inl (ca 1, 256, .inl (fun _ => 0)))])) := hD
  refine lv_aload_n hx hb dX3_init_13 rfl (lv_at hl 0 rfl) ?_
  refine lv_sipush (v := 256) hx hb dX3_init_14 (by decide) ?_
  refine va_newa (atype := .int) (ty := .int) (a0 := (256, .inl (fun _ => 0))) hx hb ac_int rfl hK hP hD hS hA (fun _ => rfl) (by decide) (N' := 256) rfl (Nat.le_of_ble_eq_true rfl) (Nat.le_of_ble_eq_true rfl) (Nat.le_of_ble_eq_true rfl) dX3_init_17 (fun q1 cA H hK9 hP hD hS => ?_)
  obtain rfl : cA = ca 0 := ca_same hK9 (k := 0) rfl
  have hP : va_P D vwCl (((h, .inr (3, [.ref q0, .null, .null, .null, .int 0, .int 0])) :: ((q0, .inl (ca 1, 256, .inl (fun _ => 0))) :: [(q1, .inl (ca 0, 256, .inl (fun _ => 0)))]))) H := hP
  have hD : va_D A (((h, .inr (3, [.ref q0, .null, .null, .null, .int 0, .int 0])) :: ((q0, .inl (ca 1, 256, .inl (fun _ => 0))) :: [(q1, .inl (ca 0, 256, .inl (fun _ => 0)))]))) := hD
  refine W.widen (k := 2) (n := 512) (Nat.le_of_ble_eq_true rfl) (Nat.le_of_ble_eq_true rfl) ?_
  refine va_putF (D := D) (ci := 3) (v := .ref q1) (ty := (.array .int)) (C := RX3) (T := TX3) (N := 6) hx hb hts in3 tyX3 tyX3_ok nmX3 hown hK hP hD hS 0 rfl rfl 1 (by decide) f15 (fun _ h9 => h9) rfl hin rfl (by decide +kernel) rfl rfl (Nat.le_of_ble_eq_true rfl) dX3_init_19 (fun H locs hP hD hS => ?_)
  have hP : va_P D vwCl (((h, .inr (3, [.ref q0, .ref q1, .null, .null, .int 0, .int 0])) :: ((q0, .inl (ca 1, 256, .inl (fun _ => 0))) :: [(q1, .inl (ca 0, 256, .inl (fun _ => 0)))]))) H := hP
  have hD : va_D A (((h, .inr (3, [.ref q0, .ref q1, .null, .null, .int 0, .int 0])) :: ((q0, .inl (ca 1, 256, .inl (fun _ => 0))) :: [(q1, .inl (ca 0, 256, .inl (fun _ => 0)))]))) := hD
  refine lv_aload_n hx hb dX3_init_22 rfl (lv_at hl 0 rfl) ?_
  refine lv_sipush (v := 256) hx hb dX3_init_23 (by decide) ?_
  refine va_newa (atype := .int) (ty := .int) (a0 := (256, .inl (fun _ => 0))) hx hb ac_int rfl hK hP hD hS hA (fun _ => rfl) (by decide) (N' := 256) rfl (Nat.le_of_ble_eq_true rfl) (Nat.le_of_ble_eq_true rfl) (Nat.le_of_ble_eq_true rfl) dX3_init_26 (fun q2 cA H hK9 hP hD hS => ?_)
  obtain rfl : cA = ca 0 := ca_same hK9 (k := 0) rfl
  have hP : va_P D vwCl (((h, .inr (3, [.ref q0, .ref q1, .null, .null, .int 0, .int 0])) :: ((q0, .inl (ca 1, 256, .inl (fun _ => 0))) :: ((q1, .inl (ca 0, 256, .inl (fun _ => 0))) :: [(q2, .inl (ca 0, 256, .inl (fun _ => 0)))])))) H := hP
  have hD : va_D A (((h, .inr (3, [.ref q0, .ref q1, .null, .null, .int 0, .int 0])) :: ((q0, .inl (ca 1, 256, .inl (fun _ => 0))) :: ((q1, .inl (ca 0, 256, .inl (fun _ => 0))) :: [(q2, .inl (ca 0, 256, .inl (fun _ => 0)))])))) := hD
  refine W.widen (k := 3) (n := 768) (Nat.le_of_ble_eq_true rfl) (Nat.le_of_ble_eq_true rfl) ?_
  refine va_putF (D := D) (ci := 3) (v := .ref q2) (ty := (.array .int)) (C := RX3) (T := TX3) (N := 6) hx hb hts in3 tyX3 tyX3_ok nmX3 hown hK hP hD hS 0 rfl rfl 2 (by decide) f19 (fun _ h9 => h9) rfl hin rfl (by decide +kernel) rfl rfl (Nat.le_of_ble_eq_true rfl) dX3_init_28 (fun H locs hP hD hS => ?_)
  have hP : va_P D vwCl (((h, .inr (3, [.ref q0, .ref q1, .ref q2, .null, .int 0, .int 0])) :: ((q0, .inl (ca 1, 256, .inl (fun _ => 0))) :: ((q1, .inl (ca 0, 256, .inl (fun _ => 0))) :: [(q2, .inl (ca 0, 256, .inl (fun _ => 0)))])))) H := hP
  have hD : va_D A (((h, .inr (3, [.ref q0, .ref q1, .ref q2, .null, .int 0, .int 0])) :: ((q0, .inl (ca 1, 256, .inl (fun _ => 0))) :: ((q1, .inl (ca 0, 256, .inl (fun _ => 0))) :: [(q2, .inl (ca 0, 256, .inl (fun _ => 0)))])))) := hD
  refine lv_aload_n hx hb dX3_init_31 rfl (lv_at hl 0 rfl) ?_
  refine lv_sipush (v := 256) hx hb dX3_init_32 (by decide) ?_
  refine va_newa (atype := .int) (ty := .int) (a0 := (256, .inl (fun _ => 0))) hx hb ac_int rfl hK hP hD hS hA (fun _ => rfl) (by decide) (N' := 256) rfl (Nat.le_of_ble_eq_true rfl) (Nat.le_of_ble_eq_true rfl) (Nat.le_of_ble_eq_true rfl) dX3_init_35 (fun q3 cA H hK9 hP hD hS => ?_)
  obtain rfl : cA = ca 0 := ca_same hK9 (k := 0) rfl
  have hP : va_P D vwCl (((h, .inr (3, [.ref q0, .ref q1, .ref q2, .null, .int 0, .int 0])) :: ((q0, .inl (ca 1, 256, .inl (fun _ => 0))) :: ((q1, .inl (ca 0, 256, .inl (fun _ => 0))) :: ((q2, .inl (ca 0, 256, .inl (fun _ => 0))) :: [(q3, .inl (ca 0, 256, .inl (fun _ => 0)))]))))) H := hP
  have hD : va_D A (((h, .inr (3, [.ref q0, .ref q1, .ref q2, .null, .int 0, .int 0])) :: ((q0, .inl (ca 1, 256, .inl (fun _ => 0))) :: ((q1, .inl (ca 0, 256, .inl (fun _ => 0))) :: ((q2, .inl (ca 0, 256, .inl (fun _ => 0))) :: [(q3, .inl (ca 0, 256, .inl (fun _ => 0)))]))))) := hD
  refine W.widen (k := 4) (n := 1024) (Nat.le_of_ble_eq_true rfl) (Nat.le_of_ble_eq_true rfl) ?_
  refine va_putF (D := D) (ci := 3) (v := .ref q3) (ty := (.array .int)) (C := RX3) (T := TX3) (N := 6) hx hb hts in3 tyX3 tyX3_ok nmX3 hown hK hP hD hS 0 rfl rfl 3 (by decide) f22 (fun _ h9 => h9) rfl hin rfl (by decide +kernel) rfl rfl (Nat.le_of_ble_eq_true rfl) dX3_init_37 (fun H locs hP hD hS => ?_)
  have hP : va_P D vwCl (((h, .inr (3, [.ref q0, .ref q1, .ref q2, .ref q3, .int 0, .int 0])) :: ((q0, .inl (ca 1, 256, .inl (fun _ => 0))) :: ((q1, .inl (ca 0, 256, .inl (fun _ => 0))) :: ((q2, .inl (ca 0, 256, .inl (fun _ => 0))) :: [(q3, .inl (ca 0, 256, .inl (fun _ => 0)))]))))) H := hP
  have hD : va_D A (((h, .inr (3, [.ref q0, .ref q1, .ref q2, .ref q3, .int 0, .int 0])) :: ((q0, .inl (ca 1, 256, .inl (fun _ => 0))) :: ((q1, .inl (ca 0, 256, .inl (fun _ => 0))) :: ((q2, .inl (ca 0, 256, .inl (fun _ => 0))) :: [(q3, .inl (ca 0, 256, .inl (fun _ => 0)))]))))) := hD
  refine lv_aload_n hx hb dX3_init_40 rfl (lv_at hl 0 rfl) ?_
  refine lv_iload_n hx hb dX3_init_41 rfl (lv_at hl 1 rfl) ?_
  
  obtain ⟨ar, ha0, ha1, ha2, ha3⟩ : ∃ ar : Nat → Nat, ar 0 = q0 ∧ ar 1 = q1 ∧ ar 2 = q2 ∧ ar 3 = q3 := ⟨fun i => if i = 0 then q0 else if i = 1 then q1 else if i = 2 then q2 else q3, rfl, rfl, rfl, rfl⟩
  subst ha0 ha1 ha2 ha3
  have hP : va_P D vwCl (wTab ca h ar tb0) H := hP
  have hD : va_D A (wTab ca h ar tb0) := hD
  refine call_v (As := [.int a0]) (rest := []) ⟨hx, hb, hml, hown, hts⟩ (tX3_emptyWith l D ca h ar _ tb0 a0 τ9 hf) (cwV 1 hts gX3_init_X3_emptyWith rfl rfl rfl (by decide +kernel) ⟨Nat.le_of_ble_eq_true rfl, Nat.le_of_ble_eq_true rfl⟩) hN hK hP hD hA hS (fr_id _ _) rfl rfl rfl hl.1 rfl (lv_room (Nat.le_of_ble_eq_true rfl)) dX3_init_42 ⟨Nat.le_of_ble_eq_true rfl, Nat.le_of_ble_eq_true rfl⟩ (fun H locs hP hD hS => ?_)
  exact ret_n (x := ar) hx hb hr hlocks hK hP hD hS dX3_init_45

def rr0 (p o : Nat) (τ8 τ0 : Tb) : RR := (τ8, τ0, p, o, fun _ => sw0, se0, pl0, 1, 0)
end
section
set_option maxHeartbeats 4000000 in
set_option maxRecDepth 100000 in
theorem tX4_init (l : Launch) (D : va_G) (ca : Nat → ClassId) (h sz : Nat) (τ8 τ0 : Tb) (hf8 : tt_emptyWith tb0 8 = some τ8) (hf0 : tt_emptyWith tb0 0 = some τ0) : Cn (X := ((Nat → Nat) × (Nat → Nat → Nat) × Nat × Nat)) l D ca yX4_init wsX4_init { frames := 3, cells := 19, slots := 2604, locals := 64 } [.ref h] ([(h, .inr (4, [.null, .null, .null, .null, .null, .int 0, .int 0]))]) sz (fun x => wRR ca (atH h x.1) x.2.1 (rr0 x.2.2.1 x.2.2.2 τ8 τ0)) 19 2604 := by
  refine bodyn_of (cc := cX4_init) (maxL := 2) (by decide) rfl rfl (Nat.le_of_ble_eq_true rfl) ?_
  intro p e s m below meth c A ls hx hb hr hml hts hown hlocks hin hA hK hP hD hS hl hN
  have hl : lv_has ls 2 [(0, .ref h)] := hl
  generalize ([.ref h] : List Value).toArray = args at hts ⊢
  have hAO := hN.2.2.2.2.2
  have in4 : ∀ w ∈ u_ws RX4 TX4 7, w ∈ wsX4_init := by decide +kernel
  have f11 := hts (.fieldLink RX4 11 "RobinRow" "sweeps" "[LRobinRow$Sweep;") (by decide +kernel)
  have in1 : ∀ w ∈ u_ws RX1 TX1 4, w ∈ wsX4_init := by decide +kernel
  have f18 := hts (.fieldLink RX4 18 "RobinRow" "search" "LRobinRow$Search;") (by decide +kernel)
  have in0 : ∀ w ∈ u_ws RX0 TX0 4, w ∈ wsX4_init := by decide +kernel
  have f25 := hts (.fieldLink RX4 25 "RobinRow" "plainRow" "LRobinRow$PlainRow;") (by decide +kernel)
  have in3 : ∀ w ∈ u_ws RX3 TX3 6, w ∈ wsX4_init := by decide +kernel
  have f34 := hts (.fieldLink RX4 34 "RobinRow" "present" "LRobinRow$Table;") (by decide +kernel)
  have f38 := hts (.fieldLink RX4 38 "RobinRow" "old" "LRobinRow$Table;") (by decide +kernel)
  have in2 : ∀ w ∈ u_ws RX2 TX2 5, w ∈ wsX4_init := by decide +kernel
  have f42 := hts (.fieldLink RX4 42 "RobinRow" "way" "I") (by decide +kernel)
  refine lv_aload_n hx hb dX4_init_0 rfl (lv_at hl 0 rfl) ?_
  refine W.objInit hx hb hown (hts (.methodLink RX4 1 objectInit) (by decide +kernel)) (hts (.instanceMethod objectInit) (by decide +kernel)) (hts (.code objectInit ⟨#[0xb1]⟩ 1 none) (by decide +kernel)) rfl (by rw [hml]; exact hl.1) rfl dX4_init_1 (Nat.le_of_ble_eq_true rfl) (Nat.le_of_ble_eq_true rfl) ?_
  refine W.eq (g2 := F0 m 4 ls []) rfl ?_
  refine lv_aload_n hx hb dX4_init_4 rfl (lv_at hl 0 rfl) ?_
  refine lv_iconst (v := 4) hx hb dX4_init_5 (by decide) ?_
  refine va_newq (C := RX2) hx hb hown (hts (.classLink RX4 9 RX2) (by decide +kernel)) hAO hK hP hD hS hA (by decide) (N' := 4) rfl (Nat.le_of_ble_eq_true rfl) (Nat.le_of_ble_eq_true rfl) (Nat.le_of_ble_eq_true rfl) dX4_init_6 (fun q0 cA H hK9 hP hD hS => ?_)
  obtain rfl : cA = ca 4 := ca_same hK9 (k := 4) rfl
  have hP : va_P D vwCl (((h, .inr (4, [.null, .null, .null, .null, .null, .int 0, .int 0])) :: [(q0, .inl (ca 4, 4, .inr (.inr (.inr (.inr (fun _ => none))))))])) H := hP
  have hD : va_D A (((h, .inr (4, [.null, .null, .null, .null, .null, .int 0, .int 0])) :: [(q0, .inl (ca 4, 4, .inr (.inr (.inr (.inr (fun _ => none))))))])) := hD
  refine W.widen (k := 1) (n := 4) (Nat.le_of_ble_eq_true rfl) (Nat.le_of_ble_eq_true rfl) ?_
  refine va_putF (D := D) (ci := 4) (v := .ref q0) (ty := (.array (.object "RobinRow$Sweep"))) (C := RX4) (T := TX4) (N := 7) hx hb hts in4 tyX4 tyX4_ok nmX4 hown hK hP hD hS 0 rfl rfl 0 (by decide) f11 (fun _ h9 => h9) rfl hin rfl (by decide +kernel) rfl rfl (Nat.le_of_ble_eq_true rfl) dX4_init_9 (fun H locs hP hD hS => ?_)
  have hP : va_P D vwCl (((h, .inr (4, [.ref q0, .null, .null, .null, .null, .int 0, .int 0])) :: [(q0, .inl (ca 4, 4, .inr (.inr (.inr (.inr (fun _ => none))))))])) H := hP
  have hD : va_D A (((h, .inr (4, [.ref q0, .null, .null, .null, .null, .int 0, .int 0])) :: [(q0, .inl (ca 4, 4, .inr (.inr (.inr (.inr (fun _ => none))))))])) := hD
  refine lv_aload_n hx hb dX4_init_12 rfl (lv_at hl 0 rfl) ?_
  refine va_new (ci := 1) (fs := [.null, .int 0, .int 0, .int 0]) (C := RX1) (T := TX1) (N := 4) hx hb hts in1 tyX1 tyX1_ok hown (hts (.classLink RX4 15 RX1) (by decide +kernel)) (hts (.instantiable RX1 4) (by decide +kernel)) (hts (.initialized RX1) (by decide +kernel)) hK hP hD hS hA rfl (fun j hj => by rcases (show j = 0 ∨ j = 1 ∨ j = 2 ∨ j = 3 by omega) with rfl | rfl | rfl | rfl <;> rfl) (Nat.le_of_ble_eq_true rfl) (Nat.le_of_ble_eq_true rfl) dX4_init_13 (fun q1 H hP hD hS => ?_)
  have hP : va_P D vwCl (((h, .inr (4, [.ref q0, .null, .null, .null, .null, .int 0, .int 0])) :: ((q0, .inl (ca 4, 4, .inr (.inr (.inr (.inr (fun _ => none)))))) :: [(q1, .inr (1, [.null, .int 0, .int 0, .int 0]))]))) H := hP
  have hD : va_D A (((h, .inr (4, [.ref q0, .null, .null, .null, .null, .int 0, .int 0])) :: ((q0, .inl (ca 4, 4, .inr (.inr (.inr (.inr (fun _ => none)))))) :: [(q1, .inr (1, [.null, .int 0, .int 0, .int 0]))]))) := hD
  refine W.widen (k := 2) (n := 8) (Nat.le_of_ble_eq_true rfl) (Nat.le_of_ble_eq_true rfl) ?_
  refine lv_dup hx hb dX4_init_16 rfl ?_
  have hP : va_P D vwCl (((h, .inr (4, [.ref q0, .null, .null, .null, .null, .int 0, .int 0])) :: [(q0, .inl (ca 4, 4, .inr (.inr (.inr (.inr (fun _ => none))))))]) ++ [(q1, .inr (1, [.null, .int 0, .int 0, .int 0]))]) H := hP
  have hD : va_D A (((h, .inr (4, [.ref q0, .null, .null, .null, .null, .int 0, .int 0])) :: [(q0, .inl (ca 4, 4, .inr (.inr (.inr (.inr (fun _ => none))))))]) ++ [(q1, .inr (1, [.null, .int 0, .int 0, .int 0]))]) := hD
  refine call_nN (As := []) (rest := [.ref q1, .ref h]) ⟨hx, hb, hml, hown, hts⟩ (tX1_init l D ca q1 _) ⟨va_cnB 0 hts gX4_init_X1_init_n17 rfl rfl rfl (hN.2.1 (17, yX1_init) (by decide +kernel)) (hts (.initialized RX1) (by decide +kernel)) (by decide +kernel) ⟨Nat.le_of_ble_eq_true rfl, Nat.le_of_ble_eq_true rfl⟩, rfl, hts (.instanceMethod yX1_init) (by decide +kernel)⟩ hN hK hP hD hA hS (fun _ => fr_last (((h, .inr (4, [.ref q0, .null, .null, .null, .null, .int 0, .int 0])) :: [(q0, .inl (ca 4, 4, .inr (.inr (.inr (.inr (fun _ => none))))))])) _ _) rfl hl.1 rfl (lv_room (Nat.le_of_ble_eq_true rfl)) dX4_init_17 ⟨Nat.le_of_ble_eq_true rfl, Nat.le_of_ble_eq_true rfl⟩ ⟨()⟩ (fun x2 H locs hP hD hS => ?_)
  have hP : va_P D vwCl (((h, .inr (4, [.ref q0, .null, .null, .null, .null, .int 0, .int 0])) :: ((q0, .inl (ca 4, 4, .inr (.inr (.inr (.inr (fun _ => none)))))) :: wSe q1 se0))) H := hP
  have hD : va_D A (((h, .inr (4, [.ref q0, .null, .null, .null, .null, .int 0, .int 0])) :: ((q0, .inl (ca 4, 4, .inr (.inr (.inr (.inr (fun _ => none)))))) :: wSe q1 se0))) := hD
  refine W.widen (k := 2) (n := 8) (Nat.le_of_ble_eq_true rfl) (Nat.le_of_ble_eq_true rfl) ?_
  refine va_putF (D := D) (ci := 4) (v := .ref q1) (ty := (.object "RobinRow$Search")) (C := RX4) (T := TX4) (N := 7) hx hb hts in4 tyX4 tyX4_ok nmX4 hown hK hP hD hS 0 rfl rfl 1 (by decide) f18 (fun _ h9 => h9) rfl hin rfl (by decide +kernel) rfl rfl (Nat.le_of_ble_eq_true rfl) dX4_init_20 (fun H locs hP hD hS => ?_)
  have hP : va_P D vwCl (((h, .inr (4, [.ref q0, .ref q1, .null, .null, .null, .int 0, .int 0])) :: ((q0, .inl (ca 4, 4, .inr (.inr (.inr (.inr (fun _ => none)))))) :: wSe q1 se0))) H := hP
  have hD : va_D A (((h, .inr (4, [.ref q0, .ref q1, .null, .null, .null, .int 0, .int 0])) :: ((q0, .inl (ca 4, 4, .inr (.inr (.inr (.inr (fun _ => none)))))) :: wSe q1 se0))) := hD
  refine lv_aload_n hx hb dX4_init_23 rfl (lv_at hl 0 rfl) ?_
  refine va_new (ci := 0) (fs := [.null, .null, .int 0, .int 0]) (C := RX0) (T := TX0) (N := 4) hx hb hts in0 tyX0 tyX0_ok hown (hts (.classLink RX4 22 RX0) (by decide +kernel)) (hts (.instantiable RX0 4) (by decide +kernel)) (hts (.initialized RX0) (by decide +kernel)) hK hP hD hS hA rfl (fun j hj => by rcases (show j = 0 ∨ j = 1 ∨ j = 2 ∨ j = 3 by omega) with rfl | rfl | rfl | rfl <;> rfl) (Nat.le_of_ble_eq_true rfl) (Nat.le_of_ble_eq_true rfl) dX4_init_24 (fun q3 H hP hD hS => ?_)
  have hP : va_P D vwCl (((h, .inr (4, [.ref q0, .ref q1, .null, .null, .null, .int 0, .int 0])) :: ((q0, .inl (ca 4, 4, .inr (.inr (.inr (.inr (fun _ => none)))))) :: (wSe q1 se0 ++ [(q3, .inr (0, [.null, .null, .int 0, .int 0]))])))) H := hP
  have hD : va_D A (((h, .inr (4, [.ref q0, .ref q1, .null, .null, .null, .int 0, .int 0])) :: ((q0, .inl (ca 4, 4, .inr (.inr (.inr (.inr (fun _ => none)))))) :: (wSe q1 se0 ++ [(q3, .inr (0, [.null, .null, .int 0, .int 0]))])))) := hD
  refine W.widen (k := 3) (n := 12) (Nat.le_of_ble_eq_true rfl) (Nat.le_of_ble_eq_true rfl) ?_
  refine lv_dup hx hb dX4_init_27 rfl ?_
  have hP : va_P D vwCl (((h, .inr (4, [.ref q0, .ref q1, .null, .null, .null, .int 0, .int 0])) :: ((q0, .inl (ca 4, 4, .inr (.inr (.inr (.inr (fun _ => none)))))) :: wSe q1 se0)) ++ [(q3, .inr (0, [.null, .null, .int 0, .int 0]))]) H := hP
  have hD : va_D A (((h, .inr (4, [.ref q0, .ref q1, .null, .null, .null, .int 0, .int 0])) :: ((q0, .inl (ca 4, 4, .inr (.inr (.inr (.inr (fun _ => none)))))) :: wSe q1 se0)) ++ [(q3, .inr (0, [.null, .null, .int 0, .int 0]))]) := hD
  refine call_nN (As := []) (rest := [.ref q3, .ref h]) ⟨hx, hb, hml, hown, hts⟩ (tX0_init l D ca q3 _) ⟨va_cnB 0 hts gX4_init_X0_init_n24 rfl rfl rfl (hN.2.1 (24, yX0_init) (by decide +kernel)) (hts (.initialized RX0) (by decide +kernel)) (by decide +kernel) ⟨Nat.le_of_ble_eq_true rfl, Nat.le_of_ble_eq_true rfl⟩, rfl, hts (.instanceMethod yX0_init) (by decide +kernel)⟩ hN hK hP hD hA hS (fun _ => fr_last (((h, .inr (4, [.ref q0, .ref q1, .null, .null, .null, .int 0, .int 0])) :: ((q0, .inl (ca 4, 4, .inr (.inr (.inr (.inr (fun _ => none)))))) :: wSe q1 se0))) _ _) rfl hl.1 rfl (lv_room (Nat.le_of_ble_eq_true rfl)) dX4_init_28 ⟨Nat.le_of_ble_eq_true rfl, Nat.le_of_ble_eq_true rfl⟩ ⟨fun i => i⟩ (fun x4 H locs hP hD hS => ?_)
  have hP : va_P D vwCl (((h, .inr (4, [.ref q0, .ref q1, .null, .null, .null, .int 0, .int 0])) :: ((q0, .inl (ca 4, 4, .inr (.inr (.inr (.inr (fun _ => none)))))) :: (wSe q1 se0 ++ wPl ca q3 x4 pl0)))) H := hP
  have hD : va_D A (((h, .inr (4, [.ref q0, .ref q1, .null, .null, .null, .int 0, .int 0])) :: ((q0, .inl (ca 4, 4, .inr (.inr (.inr (.inr (fun _ => none)))))) :: (wSe q1 se0 ++ wPl ca q3 x4 pl0)))) := hD
  refine W.widen (k := 5) (n := 524) (Nat.le_of_ble_eq_true rfl) (Nat.le_of_ble_eq_true rfl) ?_
  refine va_putF (D := D) (ci := 4) (v := .ref q3) (ty := (.object "RobinRow$PlainRow")) (C := RX4) (T := TX4) (N := 7) hx hb hts in4 tyX4 tyX4_ok nmX4 hown hK hP hD hS 0 rfl rfl 2 (by decide) f25 (fun _ h9 => h9) rfl hin rfl (by decide +kernel) rfl rfl (Nat.le_of_ble_eq_true rfl) dX4_init_31 (fun H locs hP hD hS => ?_)
  have hP : va_P D vwCl (((h, .inr (4, [.ref q0, .ref q1, .ref q3, .null, .null, .int 0, .int 0])) :: ((q0, .inl (ca 4, 4, .inr (.inr (.inr (.inr (fun _ => none)))))) :: (wSe q1 se0 ++ wPl ca q3 x4 pl0)))) H := hP
  have hD : va_D A (((h, .inr (4, [.ref q0, .ref q1, .ref q3, .null, .null, .int 0, .int 0])) :: ((q0, .inl (ca 4, 4, .inr (.inr (.inr (.inr (fun _ => none)))))) :: (wSe q1 se0 ++ wPl ca q3 x4 pl0)))) := hD
  refine lv_aload_n hx hb dX4_init_34 rfl (lv_at hl 0 rfl) ?_
  refine va_new (ci := 3) (fs := [.null, .null, .null, .null, .int 0, .int 0]) (C := RX3) (T := TX3) (N := 6) hx hb hts in3 tyX3 tyX3_ok hown (hts (.classLink RX4 29 RX3) (by decide +kernel)) (hts (.instantiable RX3 6) (by decide +kernel)) (hts (.initialized RX3) (by decide +kernel)) hK hP hD hS hA rfl (fun j hj => by rcases (show j = 0 ∨ j = 1 ∨ j = 2 ∨ j = 3 ∨ j = 4 ∨ j = 5 by omega) with rfl | rfl | rfl | rfl | rfl | rfl <;> rfl) (Nat.le_of_ble_eq_true rfl) (Nat.le_of_ble_eq_true rfl) dX4_init_35 (fun q5 H hP hD hS => ?_)
  have hP : va_P D vwCl (((h, .inr (4, [.ref q0, .ref q1, .ref q3, .null, .null, .int 0, .int 0])) :: ((q0, .inl (ca 4, 4, .inr (.inr (.inr (.inr (fun _ => none)))))) :: (wSe q1 se0 ++ (wPl ca q3 x4 pl0 ++ [(q5, .inr (3, [.null, .null, .null, .null, .int 0, .int 0]))]))))) H := hP
  have hD : va_D A (((h, .inr (4, [.ref q0, .ref q1, .ref q3, .null, .null, .int 0, .int 0])) :: ((q0, .inl (ca 4, 4, .inr (.inr (.inr (.inr (fun _ => none)))))) :: (wSe q1 se0 ++ (wPl ca q3 x4 pl0 ++ [(q5, .inr (3, [.null, .null, .null, .null, .int 0, .int 0]))]))))) := hD
  refine W.widen (k := 6) (n := 530) (Nat.le_of_ble_eq_true rfl) (Nat.le_of_ble_eq_true rfl) ?_
  refine lv_dup hx hb dX4_init_38 rfl ?_
  refine lv_bipush (v := 8) hx hb dX4_init_39 (by decide) ?_
  have hP : va_P D vwCl (((h, .inr (4, [.ref q0, .ref q1, .ref q3, .null, .null, .int 0, .int 0])) :: ((q0, .inl (ca 4, 4, .inr (.inr (.inr (.inr (fun _ => none)))))) :: (wSe q1 se0 ++ wPl ca q3 x4 pl0))) ++ [(q5, .inr (3, [.null, .null, .null, .null, .int 0, .int 0]))]) H := hP
  have hD : va_D A (((h, .inr (4, [.ref q0, .ref q1, .ref q3, .null, .null, .int 0, .int 0])) :: ((q0, .inl (ca 4, 4, .inr (.inr (.inr (.inr (fun _ => none)))))) :: (wSe q1 se0 ++ wPl ca q3 x4 pl0))) ++ [(q5, .inr (3, [.null, .null, .null, .null, .int 0, .int 0]))]) := hD
  refine call_n (As := [.int 8]) (rest := [.ref q5, .ref h]) ⟨hx, hb, hml, hown, hts⟩ (tX3_init l D ca q5 _ 8 τ8 hf8) (cwI 1 hts gX4_init_X3_init rfl rfl rfl (hts (.initialized RX3) (by decide +kernel)) (hts (.methodLink RX4 31 yX3_init) (by decide +kernel)) (hts (.instanceMethod yX3_init) (by decide +kernel)) rfl (by decide +kernel) ⟨Nat.le_of_ble_eq_true rfl, Nat.le_of_ble_eq_true rfl⟩) hN hK hP hD hA hS (fun _ => fr_last (((h, .inr (4, [.ref q0, .ref q1, .ref q3, .null, .null, .int 0, .int 0])) :: ((q0, .inl (ca 4, 4, .inr (.inr (.inr (.inr (fun _ => none)))))) :: (wSe q1 se0 ++ wPl ca q3 x4 pl0)))) _ _) rfl hl.1 rfl (lv_room (Nat.le_of_ble_eq_true rfl)) dX4_init_41 ⟨Nat.le_of_ble_eq_true rfl, Nat.le_of_ble_eq_true rfl⟩ ⟨fun i => i⟩ (fun x6 H locs hP hD hS => ?_)
  have hP : va_P D vwCl (((h, .inr (4, [.ref q0, .ref q1, .ref q3, .null, .null, .int 0, .int 0])) :: ((q0, .inl (ca 4, 4, .inr (.inr (.inr (.inr (fun _ => none)))))) :: (wSe q1 se0 ++ (wPl ca q3 x4 pl0 ++ wTab ca q5 x6 τ8))))) H := hP
  have hD : va_D A (((h, .inr (4, [.ref q0, .ref q1, .ref q3, .null, .null, .int 0, .int 0])) :: ((q0, .inl (ca 4, 4, .inr (.inr (.inr (.inr (fun _ => none)))))) :: (wSe q1 se0 ++ (wPl ca q3 x4 pl0 ++ wTab ca q5 x6 τ8))))) := hD
  refine W.widen (k := 10) (n := 1554) (Nat.le_of_ble_eq_true rfl) (Nat.le_of_ble_eq_true rfl) ?_
  refine va_put (D := D) (ci := 4) (v := .ref q5) (ty := (.object "RobinRow$Table")) (C := RX4) (T := TX4) (N := 7) hx hb hts in4 tyX4 tyX4_ok nmX4 hown hK hP hD hS 0 rfl rfl 3 (by decide) f34 (fun _ h9 => h9) rfl (by decide +kernel) rfl rfl (Nat.le_of_ble_eq_true rfl) dX4_init_44 (fun H locs hP hD hS => ?_)
  have hP : va_P D vwCl (((h, .inr (4, [.ref q0, .ref q1, .ref q3, .ref q5, .null, .int 0, .int 0])) :: ((q0, .inl (ca 4, 4, .inr (.inr (.inr (.inr (fun _ => none)))))) :: (wSe q1 se0 ++ (wPl ca q3 x4 pl0 ++ wTab ca q5 x6 τ8))))) H := hP
  have hD : va_D A (((h, .inr (4, [.ref q0, .ref q1, .ref q3, .ref q5, .null, .int 0, .int 0])) :: ((q0, .inl (ca 4, 4, .inr (.inr (.inr (.inr (fun _ => none)))))) :: (wSe q1 se0 ++ (wPl ca q3 x4 pl0 ++ wTab ca q5 x6 τ8))))) := hD
  refine lv_aload_n hx hb dX4_init_47 rfl (lv_at hl 0 rfl) ?_
  refine va_new (ci := 3) (fs := [.null, .null, .null, .null, .int 0, .int 0]) (C := RX3) (T := TX3) (N := 6) hx hb hts in3 tyX3 tyX3_ok hown (hts (.classLink RX4 29 RX3) (by decide +kernel)) (hts (.instantiable RX3 6) (by decide +kernel)) (hts (.initialized RX3) (by decide +kernel)) hK hP hD hS hA rfl (fun j hj => by rcases (show j = 0 ∨ j = 1 ∨ j = 2 ∨ j = 3 ∨ j = 4 ∨ j = 5 by omega) with rfl | rfl | rfl | rfl | rfl | rfl <;> rfl) (Nat.le_of_ble_eq_true rfl) (Nat.le_of_ble_eq_true rfl) dX4_init_48 (fun q7 H hP hD hS => ?_)
  have hP : va_P D vwCl (((h, .inr (4, [.ref q0, .ref q1, .ref q3, .ref q5, .null, .int 0, .int 0])) :: ((q0, .inl (ca 4, 4, .inr (.inr (.inr (.inr (fun _ => none)))))) :: (wSe q1 se0 ++ (wPl ca q3 x4 pl0 ++ (wTab ca q5 x6 τ8 ++ [(q7, .inr (3, [.null, .null, .null, .null, .int 0, .int 0]))])))))) H := hP
  have hD : va_D A (((h, .inr (4, [.ref q0, .ref q1, .ref q3, .ref q5, .null, .int 0, .int 0])) :: ((q0, .inl (ca 4, 4, .inr (.inr (.inr (.inr (fun _ => none)))))) :: (wSe q1 se0 ++ (wPl ca q3 x4 pl0 ++ (wTab ca q5 x6 τ8 ++ [(q7, .inr (3, [.null, .null, .null, .null, .int 0, .int 0]))])))))) := hD
  refine W.widen (k := 11) (n := 1560) (Nat.le_of_ble_eq_true rfl) (Nat.le_of_ble_eq_true rfl) ?_
  refine lv_dup hx hb dX4_init_51 rfl ?_
  refine lv_iconst (v := 0) hx hb dX4_init_52 (by decide) ?_
  have hP : va_P D vwCl (((h, .inr (4, [.ref q0, .ref q1, .ref q3, .ref q5, .null, .int 0, .int 0])) :: ((q0, .inl (ca 4, 4, .inr (.inr (.inr (.inr (fun _ => none)))))) :: (wSe q1 se0 ++ (wPl ca q3 x4 pl0 ++ wTab ca q5 x6 τ8)))) ++ [(q7, .inr (3, [.null, .null, .null, .null, .int 0, .int 0]))]) H := hP
  have hD : va_D A (((h, .inr (4, [.ref q0, .ref q1, .ref q3, .ref q5, .null, .int 0, .int 0])) :: ((q0, .inl (ca 4, 4, .inr (.inr (.inr (.inr (fun _ => none)))))) :: (wSe q1 se0 ++ (wPl ca q3 x4 pl0 ++ wTab ca q5 x6 τ8)))) ++ [(q7, .inr (3, [.null, .null, .null, .null, .int 0, .int 0]))]) := hD
  refine call_n (As := [.int 0]) (rest := [.ref q7, .ref h]) ⟨hx, hb, hml, hown, hts⟩ (tX3_init l D ca q7 _ 0 τ0 hf0) (cwI 1 hts gX4_init_X3_init rfl rfl rfl (hts (.initialized RX3) (by decide +kernel)) (hts (.methodLink RX4 31 yX3_init) (by decide +kernel)) (hts (.instanceMethod yX3_init) (by decide +kernel)) rfl (by decide +kernel) ⟨Nat.le_of_ble_eq_true rfl, Nat.le_of_ble_eq_true rfl⟩) hN hK hP hD hA hS (fun _ => fr_last (((h, .inr (4, [.ref q0, .ref q1, .ref q3, .ref q5, .null, .int 0, .int 0])) :: ((q0, .inl (ca 4, 4, .inr (.inr (.inr (.inr (fun _ => none)))))) :: (wSe q1 se0 ++ (wPl ca q3 x4 pl0 ++ wTab ca q5 x6 τ8))))) _ _) rfl hl.1 rfl (lv_room (Nat.le_of_ble_eq_true rfl)) dX4_init_53 ⟨Nat.le_of_ble_eq_true rfl, Nat.le_of_ble_eq_true rfl⟩ ⟨fun i => i⟩ (fun x8 H locs hP hD hS => ?_)
  have hP : va_P D vwCl (((h, .inr (4, [.ref q0, .ref q1, .ref q3, .ref q5, .null, .int 0, .int 0])) :: ((q0, .inl (ca 4, 4, .inr (.inr (.inr (.inr (fun _ => none)))))) :: (wSe q1 se0 ++ (wPl ca q3 x4 pl0 ++ (wTab ca q5 x6 τ8 ++ wTab ca q7 x8 τ0)))))) H := hP
  have hD : va_D A (((h, .inr (4, [.ref q0, .ref q1, .ref q3, .ref q5, .null, .int 0, .int 0])) :: ((q0, .inl (ca 4, 4, .inr (.inr (.inr (.inr (fun _ => none)))))) :: (wSe q1 se0 ++ (wPl ca q3 x4 pl0 ++ (wTab ca q5 x6 τ8 ++ wTab ca q7 x8 τ0)))))) := hD
  refine W.widen (k := 15) (n := 2584) (Nat.le_of_ble_eq_true rfl) (Nat.le_of_ble_eq_true rfl) ?_
  refine va_put (D := D) (ci := 4) (v := .ref q7) (ty := (.object "RobinRow$Table")) (C := RX4) (T := TX4) (N := 7) hx hb hts in4 tyX4 tyX4_ok nmX4 hown hK hP hD hS 0 rfl rfl 4 (by decide) f38 (fun _ h9 => h9) rfl (by decide +kernel) rfl rfl (Nat.le_of_ble_eq_true rfl) dX4_init_56 (fun H locs hP hD hS => ?_)
  have hP : va_P D vwCl (((h, .inr (4, [.ref q0, .ref q1, .ref q3, .ref q5, .ref q7, .int 0, .int 0])) :: ((q0, .inl (ca 4, 4, .inr (.inr (.inr (.inr (fun _ => none)))))) :: (wSe q1 se0 ++ (wPl ca q3 x4 pl0 ++ (wTab ca q5 x6 τ8 ++ wTab ca q7 x8 τ0)))))) H := hP
  have hD : va_D A (((h, .inr (4, [.ref q0, .ref q1, .ref q3, .ref q5, .ref q7, .int 0, .int 0])) :: ((q0, .inl (ca 4, 4, .inr (.inr (.inr (.inr (fun _ => none)))))) :: (wSe q1 se0 ++ (wPl ca q3 x4 pl0 ++ (wTab ca q5 x6 τ8 ++ wTab ca q7 x8 τ0)))))) := hD
  refine lv_iconst (v := 0) hx hb dX4_init_59 (by decide) ?_
  refine lv_istore_n (lv' := [(1, .int 0), (0, .ref h)]) hx hb dX4_init_60 rfl hl (by decide) rfl (fun ls hl => ?_)
  refine lv_iload_n hx hb dX4_init_61 rfl (lv_at hl 0 rfl) ?_
  refine lv_iconst (v := 4) hx hb dX4_init_62 (by decide) ?_
  refine lv_icmp_ge (tgt := 85) hx hb dX4_init_63 (by decide) (fun c => absurd c (by decide)) (fun _ => ?_)
  refine lv_aload_n hx hb dX4_init_66 rfl (lv_at hl 1 rfl) ?_
  refine va_get (D := D) (ci := 4) (v := .ref q0) (C := RX4) (T := TX4) (N := 7) hx hb hts in4 hown hK hP 0 rfl rfl 0 (by decide) f11 (fun _ h9 => h9) rfl dX4_init_67 ?_
  refine lv_iload_n hx hb dX4_init_70 rfl (lv_at hl 0 rfl) ?_
  refine va_new (ci := 2) (fs := [.int 0, .int 0, .int 0, .int 0, .long 0]) (C := RX2) (T := TX2) (N := 5) hx hb hts in2 tyX2 tyX2_ok hown (hts (.classLink RX4 9 RX2) (by decide +kernel)) (hts (.instantiable RX2 5) (by decide +kernel)) (hts (.initialized RX2) (by decide +kernel)) hK hP hD hS hA rfl (fun j hj => by rcases (show j = 0 ∨ j = 1 ∨ j = 2 ∨ j = 3 ∨ j = 4 by omega) with rfl | rfl | rfl | rfl | rfl <;> rfl) (Nat.le_of_ble_eq_true rfl) (Nat.le_of_ble_eq_true rfl) dX4_init_71 (fun q9 H hP hD hS => ?_)
  have hP : va_P D vwCl (((h, .inr (4, [.ref q0, .ref q1, .ref q3, .ref q5, .ref q7, .int 0, .int 0])) :: ((q0, .inl (ca 4, 4, .inr (.inr (.inr (.inr (fun _ => none)))))) :: (wSe q1 se0 ++ (wPl ca q3 x4 pl0 ++ (wTab ca q5 x6 τ8 ++ (wTab ca q7 x8 τ0 ++ [(q9, .inr (2, [.int 0, .int 0, .int 0, .int 0, .long 0]))]))))))) H := hP
  have hD : va_D A (((h, .inr (4, [.ref q0, .ref q1, .ref q3, .ref q5, .ref q7, .int 0, .int 0])) :: ((q0, .inl (ca 4, 4, .inr (.inr (.inr (.inr (fun _ => none)))))) :: (wSe q1 se0 ++ (wPl ca q3 x4 pl0 ++ (wTab ca q5 x6 τ8 ++ (wTab ca q7 x8 τ0 ++ [(q9, .inr (2, [.int 0, .int 0, .int 0, .int 0, .long 0]))]))))))) := hD
  refine W.widen (k := 16) (n := 2589) (Nat.le_of_ble_eq_true rfl) (Nat.le_of_ble_eq_true rfl) ?_
  refine lv_dup hx hb dX4_init_74 rfl ?_
  have hP : va_P D vwCl (((h, .inr (4, [.ref q0, .ref q1, .ref q3, .ref q5, .ref q7, .int 0, .int 0])) :: ((q0, .inl (ca 4, 4, .inr (.inr (.inr (.inr (fun _ => none)))))) :: (wSe q1 se0 ++ (wPl ca q3 x4 pl0 ++ (wTab ca q5 x6 τ8 ++ wTab ca q7 x8 τ0))))) ++ [(q9, .inr (2, [.int 0, .int 0, .int 0, .int 0, .long 0]))]) H := hP
  have hD : va_D A (((h, .inr (4, [.ref q0, .ref q1, .ref q3, .ref q5, .ref q7, .int 0, .int 0])) :: ((q0, .inl (ca 4, 4, .inr (.inr (.inr (.inr (fun _ => none)))))) :: (wSe q1 se0 ++ (wPl ca q3 x4 pl0 ++ (wTab ca q5 x6 τ8 ++ wTab ca q7 x8 τ0))))) ++ [(q9, .inr (2, [.int 0, .int 0, .int 0, .int 0, .long 0]))]) := hD
  refine call_nN (As := []) (rest := [.ref q9, .int 0, .ref q0]) ⟨hx, hb, hml, hown, hts⟩ (tX2_init l D ca q9 _) ⟨va_cnB 0 hts gX4_init_X2_init_n41 rfl rfl rfl (hN.2.1 (41, yX2_init) (by decide +kernel)) (hts (.initialized RX2) (by decide +kernel)) (by decide +kernel) ⟨Nat.le_of_ble_eq_true rfl, Nat.le_of_ble_eq_true rfl⟩, rfl, hts (.instanceMethod yX2_init) (by decide +kernel)⟩ hN hK hP hD hA hS (fun _ => fr_last (((h, .inr (4, [.ref q0, .ref q1, .ref q3, .ref q5, .ref q7, .int 0, .int 0])) :: ((q0, .inl (ca 4, 4, .inr (.inr (.inr (.inr (fun _ => none)))))) :: (wSe q1 se0 ++ (wPl ca q3 x4 pl0 ++ (wTab ca q5 x6 τ8 ++ wTab ca q7 x8 τ0)))))) _ _) rfl hl.1 rfl (lv_room (Nat.le_of_ble_eq_true rfl)) dX4_init_75 ⟨Nat.le_of_ble_eq_true rfl, Nat.le_of_ble_eq_true rfl⟩ ⟨()⟩ (fun x10 H locs hP hD hS => ?_)
  have hP : va_P D vwCl (((h, .inr (4, [.ref q0, .ref q1, .ref q3, .ref q5, .ref q7, .int 0, .int 0])) :: ((q0, .inl (ca 4, 4, .inr (.inr (.inr (.inr (fun _ => none)))))) :: (wSe q1 se0 ++ (wPl ca q3 x4 pl0 ++ (wTab ca q5 x6 τ8 ++ (wTab ca q7 x8 τ0 ++ wSw q9 sw0))))))) H := hP
  have hD : va_D A (((h, .inr (4, [.ref q0, .ref q1, .ref q3, .ref q5, .ref q7, .int 0, .int 0])) :: ((q0, .inl (ca 4, 4, .inr (.inr (.inr (.inr (fun _ => none)))))) :: (wSe q1 se0 ++ (wPl ca q3 x4 pl0 ++ (wTab ca q5 x6 τ8 ++ (wTab ca q7 x8 τ0 ++ wSw q9 sw0))))))) := hD
  refine W.widen (k := 16) (n := 2589) (Nat.le_of_ble_eq_true rfl) (Nat.le_of_ble_eq_true rfl) ?_
  refine va_astq hx hb hK hP hD hS 1 4 16 2 (r := (RX2, TX2, 5)) rfl rfl rfl rfl (show ¬ ((0 : Int32) < 0 ∨ 4 ≤ (0 : Int32).toNatClampNeg) by decide) dX4_init_78 (fun H locs hP hD hS => ?_)
  have hP : va_P D vwCl (((h, .inr (4, [.ref q0, .ref q1, .ref q3, .ref q5, .ref q7, .int 0, .int 0])) :: ((q0, .inl (ca 4, 4, .inr (.inr (.inr (.inr (va_up (fun _ => none) 0 (some q9))))))) :: (wSe q1 se0 ++ (wPl ca q3 x4 pl0 ++ (wTab ca q5 x6 τ8 ++ (wTab ca q7 x8 τ0 ++ wSw q9 sw0))))))) H := hP
  have hD : va_D A (((h, .inr (4, [.ref q0, .ref q1, .ref q3, .ref q5, .ref q7, .int 0, .int 0])) :: ((q0, .inl (ca 4, 4, .inr (.inr (.inr (.inr (va_up (fun _ => none) 0 (some q9))))))) :: (wSe q1 se0 ++ (wPl ca q3 x4 pl0 ++ (wTab ca q5 x6 τ8 ++ (wTab ca q7 x8 τ0 ++ wSw q9 sw0))))))) := hD
  refine lv_iinc (v := 1) (lv' := [(1, .int 1), (0, .ref h)]) hx hb dX4_init_79 hl (k := 0) rfl (by decide) (by decide) rfl (fun ls hl => ?_)
  refine lv_goto (tgt := 61) hx hb dX4_init_82 (by decide) ?_
  refine lv_iload_n hx hb dX4_init_61 rfl (lv_at hl 0 rfl) ?_
  refine lv_iconst (v := 4) hx hb dX4_init_62 (by decide) ?_
  refine lv_icmp_ge (tgt := 85) hx hb dX4_init_63 (by decide) (fun c => absurd c (by decide)) (fun _ => ?_)
  refine lv_aload_n hx hb dX4_init_66 rfl (lv_at hl 1 rfl) ?_
  refine va_get (D := D) (ci := 4) (v := .ref q0) (C := RX4) (T := TX4) (N := 7) hx hb hts in4 hown hK hP 0 rfl rfl 0 (by decide) f11 (fun _ h9 => h9) rfl dX4_init_67 ?_
  refine lv_iload_n hx hb dX4_init_70 rfl (lv_at hl 0 rfl) ?_
  refine va_new (ci := 2) (fs := [.int 0, .int 0, .int 0, .int 0, .long 0]) (C := RX2) (T := TX2) (N := 5) hx hb hts in2 tyX2 tyX2_ok hown (hts (.classLink RX4 9 RX2) (by decide +kernel)) (hts (.instantiable RX2 5) (by decide +kernel)) (hts (.initialized RX2) (by decide +kernel)) hK hP hD hS hA rfl (fun j hj => by rcases (show j = 0 ∨ j = 1 ∨ j = 2 ∨ j = 3 ∨ j = 4 by omega) with rfl | rfl | rfl | rfl | rfl <;> rfl) (Nat.le_of_ble_eq_true rfl) (Nat.le_of_ble_eq_true rfl) dX4_init_71 (fun q11 H hP hD hS => ?_)
  have hP : va_P D vwCl (((h, .inr (4, [.ref q0, .ref q1, .ref q3, .ref q5, .ref q7, .int 0, .int 0])) :: ((q0, .inl (ca 4, 4, .inr (.inr (.inr (.inr (va_up (fun _ => none) 0 (some q9))))))) :: (wSe q1 se0 ++ (wPl ca q3 x4 pl0 ++ (wTab ca q5 x6 τ8 ++ (wTab ca q7 x8 τ0 ++ (wSw q9 sw0 ++ [(q11, .inr (2, [.int 0, .int 0, .int 0, .int 0, .long 0]))])))))))) H := hP
  have hD : va_D A (((h, .inr (4, [.ref q0, .ref q1, .ref q3, .ref q5, .ref q7, .int 0, .int 0])) :: ((q0, .inl (ca 4, 4, .inr (.inr (.inr (.inr (va_up (fun _ => none) 0 (some q9))))))) :: (wSe q1 se0 ++ (wPl ca q3 x4 pl0 ++ (wTab ca q5 x6 τ8 ++ (wTab ca q7 x8 τ0 ++ (wSw q9 sw0 ++ [(q11, .inr (2, [.int 0, .int 0, .int 0, .int 0, .long 0]))])))))))) := hD
  refine W.widen (k := 17) (n := 2594) (Nat.le_of_ble_eq_true rfl) (Nat.le_of_ble_eq_true rfl) ?_
  refine lv_dup hx hb dX4_init_74 rfl ?_
  have hP : va_P D vwCl (((h, .inr (4, [.ref q0, .ref q1, .ref q3, .ref q5, .ref q7, .int 0, .int 0])) :: ((q0, .inl (ca 4, 4, .inr (.inr (.inr (.inr (va_up (fun _ => none) 0 (some q9))))))) :: (wSe q1 se0 ++ (wPl ca q3 x4 pl0 ++ (wTab ca q5 x6 τ8 ++ (wTab ca q7 x8 τ0 ++ wSw q9 sw0)))))) ++ [(q11, .inr (2, [.int 0, .int 0, .int 0, .int 0, .long 0]))]) H := hP
  have hD : va_D A (((h, .inr (4, [.ref q0, .ref q1, .ref q3, .ref q5, .ref q7, .int 0, .int 0])) :: ((q0, .inl (ca 4, 4, .inr (.inr (.inr (.inr (va_up (fun _ => none) 0 (some q9))))))) :: (wSe q1 se0 ++ (wPl ca q3 x4 pl0 ++ (wTab ca q5 x6 τ8 ++ (wTab ca q7 x8 τ0 ++ wSw q9 sw0)))))) ++ [(q11, .inr (2, [.int 0, .int 0, .int 0, .int 0, .long 0]))]) := hD
  refine call_nN (As := []) (rest := [.ref q11, .int 1, .ref q0]) ⟨hx, hb, hml, hown, hts⟩ (tX2_init l D ca q11 _) ⟨va_cnB 0 hts gX4_init_X2_init_n41 rfl rfl rfl (hN.2.1 (41, yX2_init) (by decide +kernel)) (hts (.initialized RX2) (by decide +kernel)) (by decide +kernel) ⟨Nat.le_of_ble_eq_true rfl, Nat.le_of_ble_eq_true rfl⟩, rfl, hts (.instanceMethod yX2_init) (by decide +kernel)⟩ hN hK hP hD hA hS (fun _ => fr_last (((h, .inr (4, [.ref q0, .ref q1, .ref q3, .ref q5, .ref q7, .int 0, .int 0])) :: ((q0, .inl (ca 4, 4, .inr (.inr (.inr (.inr (va_up (fun _ => none) 0 (some q9))))))) :: (wSe q1 se0 ++ (wPl ca q3 x4 pl0 ++ (wTab ca q5 x6 τ8 ++ (wTab ca q7 x8 τ0 ++ wSw q9 sw0))))))) _ _) rfl hl.1 rfl (lv_room (Nat.le_of_ble_eq_true rfl)) dX4_init_75 ⟨Nat.le_of_ble_eq_true rfl, Nat.le_of_ble_eq_true rfl⟩ ⟨()⟩ (fun x12 H locs hP hD hS => ?_)
  have hP : va_P D vwCl (((h, .inr (4, [.ref q0, .ref q1, .ref q3, .ref q5, .ref q7, .int 0, .int 0])) :: ((q0, .inl (ca 4, 4, .inr (.inr (.inr (.inr (va_up (fun _ => none) 0 (some q9))))))) :: (wSe q1 se0 ++ (wPl ca q3 x4 pl0 ++ (wTab ca q5 x6 τ8 ++ (wTab ca q7 x8 τ0 ++ (wSw q9 sw0 ++ wSw q11 sw0)))))))) H := hP
  have hD : va_D A (((h, .inr (4, [.ref q0, .ref q1, .ref q3, .ref q5, .ref q7, .int 0, .int 0])) :: ((q0, .inl (ca 4, 4, .inr (.inr (.inr (.inr (va_up (fun _ => none) 0 (some q9))))))) :: (wSe q1 se0 ++ (wPl ca q3 x4 pl0 ++ (wTab ca q5 x6 τ8 ++ (wTab ca q7 x8 τ0 ++ (wSw q9 sw0 ++ wSw q11 sw0)))))))) := hD
  refine W.widen (k := 17) (n := 2594) (Nat.le_of_ble_eq_true rfl) (Nat.le_of_ble_eq_true rfl) ?_
  refine va_astq hx hb hK hP hD hS 1 4 17 2 (r := (RX2, TX2, 5)) rfl rfl rfl rfl (show ¬ ((1 : Int32) < 0 ∨ 4 ≤ (1 : Int32).toNatClampNeg) by decide) dX4_init_78 (fun H locs hP hD hS => ?_)
  have hP : va_P D vwCl (((h, .inr (4, [.ref q0, .ref q1, .ref q3, .ref q5, .ref q7, .int 0, .int 0])) :: ((q0, .inl (ca 4, 4, .inr (.inr (.inr (.inr (va_up (va_up (fun _ => none) 0 (some q9)) 1 (some q11))))))) :: (wSe q1 se0 ++ (wPl ca q3 x4 pl0 ++ (wTab ca q5 x6 τ8 ++ (wTab ca q7 x8 τ0 ++ (wSw q9 sw0 ++ wSw q11 sw0)))))))) H := hP
  have hD : va_D A (((h, .inr (4, [.ref q0, .ref q1, .ref q3, .ref q5, .ref q7, .int 0, .int 0])) :: ((q0, .inl (ca 4, 4, .inr (.inr (.inr (.inr (va_up (va_up (fun _ => none) 0 (some q9)) 1 (some q11))))))) :: (wSe q1 se0 ++ (wPl ca q3 x4 pl0 ++ (wTab ca q5 x6 τ8 ++ (wTab ca q7 x8 τ0 ++ (wSw q9 sw0 ++ wSw q11 sw0)))))))) := hD
  refine lv_iinc (v := 2) (lv' := [(1, .int 2), (0, .ref h)]) hx hb dX4_init_79 hl (k := 0) rfl (by decide) (by decide) rfl (fun ls hl => ?_)
  refine lv_goto (tgt := 61) hx hb dX4_init_82 (by decide) ?_
  refine lv_iload_n hx hb dX4_init_61 rfl (lv_at hl 0 rfl) ?_
  refine lv_iconst (v := 4) hx hb dX4_init_62 (by decide) ?_
  refine lv_icmp_ge (tgt := 85) hx hb dX4_init_63 (by decide) (fun c => absurd c (by decide)) (fun _ => ?_)
  refine lv_aload_n hx hb dX4_init_66 rfl (lv_at hl 1 rfl) ?_
  refine va_get (D := D) (ci := 4) (v := .ref q0) (C := RX4) (T := TX4) (N := 7) hx hb hts in4 hown hK hP 0 rfl rfl 0 (by decide) f11 (fun _ h9 => h9) rfl dX4_init_67 ?_
  refine lv_iload_n hx hb dX4_init_70 rfl (lv_at hl 0 rfl) ?_
  refine va_new (ci := 2) (fs := [.int 0, .int 0, .int 0, .int 0, .long 0]) (C := RX2) (T := TX2) (N := 5) hx hb hts in2 tyX2 tyX2_ok hown (hts (.classLink RX4 9 RX2) (by decide +kernel)) (hts (.instantiable RX2 5) (by decide +kernel)) (hts (.initialized RX2) (by decide +kernel)) hK hP hD hS hA rfl (fun j hj => by rcases (show j = 0 ∨ j = 1 ∨ j = 2 ∨ j = 3 ∨ j = 4 by omega) with rfl | rfl | rfl | rfl | rfl <;> rfl) (Nat.le_of_ble_eq_true rfl) (Nat.le_of_ble_eq_true rfl) dX4_init_71 (fun q13 H hP hD hS => ?_)
  have hP : va_P D vwCl (((h, .inr (4, [.ref q0, .ref q1, .ref q3, .ref q5, .ref q7, .int 0, .int 0])) :: ((q0, .inl (ca 4, 4, .inr (.inr (.inr (.inr (va_up (va_up (fun _ => none) 0 (some q9)) 1 (some q11))))))) :: (wSe q1 se0 ++ (wPl ca q3 x4 pl0 ++ (wTab ca q5 x6 τ8 ++ (wTab ca q7 x8 τ0 ++ (wSw q9 sw0 ++ (wSw q11 sw0 ++ [(q13, .inr (2, [.int 0, .int 0, .int 0, .int 0, .long 0]))]))))))))) H := hP
  have hD : va_D A (((h, .inr (4, [.ref q0, .ref q1, .ref q3, .ref q5, .ref q7, .int 0, .int 0])) :: ((q0, .inl (ca 4, 4, .inr (.inr (.inr (.inr (va_up (va_up (fun _ => none) 0 (some q9)) 1 (some q11))))))) :: (wSe q1 se0 ++ (wPl ca q3 x4 pl0 ++ (wTab ca q5 x6 τ8 ++ (wTab ca q7 x8 τ0 ++ (wSw q9 sw0 ++ (wSw q11 sw0 ++ [(q13, .inr (2, [.int 0, .int 0, .int 0, .int 0, .long 0]))]))))))))) := hD
  refine W.widen (k := 18) (n := 2599) (Nat.le_of_ble_eq_true rfl) (Nat.le_of_ble_eq_true rfl) ?_
  refine lv_dup hx hb dX4_init_74 rfl ?_
  have hP : va_P D vwCl (((h, .inr (4, [.ref q0, .ref q1, .ref q3, .ref q5, .ref q7, .int 0, .int 0])) :: ((q0, .inl (ca 4, 4, .inr (.inr (.inr (.inr (va_up (va_up (fun _ => none) 0 (some q9)) 1 (some q11))))))) :: (wSe q1 se0 ++ (wPl ca q3 x4 pl0 ++ (wTab ca q5 x6 τ8 ++ (wTab ca q7 x8 τ0 ++ (wSw q9 sw0 ++ wSw q11 sw0))))))) ++ [(q13, .inr (2, [.int 0, .int 0, .int 0, .int 0, .long 0]))]) H := hP
  have hD : va_D A (((h, .inr (4, [.ref q0, .ref q1, .ref q3, .ref q5, .ref q7, .int 0, .int 0])) :: ((q0, .inl (ca 4, 4, .inr (.inr (.inr (.inr (va_up (va_up (fun _ => none) 0 (some q9)) 1 (some q11))))))) :: (wSe q1 se0 ++ (wPl ca q3 x4 pl0 ++ (wTab ca q5 x6 τ8 ++ (wTab ca q7 x8 τ0 ++ (wSw q9 sw0 ++ wSw q11 sw0))))))) ++ [(q13, .inr (2, [.int 0, .int 0, .int 0, .int 0, .long 0]))]) := hD
  refine call_nN (As := []) (rest := [.ref q13, .int 2, .ref q0]) ⟨hx, hb, hml, hown, hts⟩ (tX2_init l D ca q13 _) ⟨va_cnB 0 hts gX4_init_X2_init_n41 rfl rfl rfl (hN.2.1 (41, yX2_init) (by decide +kernel)) (hts (.initialized RX2) (by decide +kernel)) (by decide +kernel) ⟨Nat.le_of_ble_eq_true rfl, Nat.le_of_ble_eq_true rfl⟩, rfl, hts (.instanceMethod yX2_init) (by decide +kernel)⟩ hN hK hP hD hA hS (fun _ => fr_last (((h, .inr (4, [.ref q0, .ref q1, .ref q3, .ref q5, .ref q7, .int 0, .int 0])) :: ((q0, .inl (ca 4, 4, .inr (.inr (.inr (.inr (va_up (va_up (fun _ => none) 0 (some q9)) 1 (some q11))))))) :: (wSe q1 se0 ++ (wPl ca q3 x4 pl0 ++ (wTab ca q5 x6 τ8 ++ (wTab ca q7 x8 τ0 ++ (wSw q9 sw0 ++ wSw q11 sw0)))))))) _ _) rfl hl.1 rfl (lv_room (Nat.le_of_ble_eq_true rfl)) dX4_init_75 ⟨Nat.le_of_ble_eq_true rfl, Nat.le_of_ble_eq_true rfl⟩ ⟨()⟩ (fun x14 H locs hP hD hS => ?_)
  have hP : va_P D vwCl (((h, .inr (4, [.ref q0, .ref q1, .ref q3, .ref q5, .ref q7, .int 0, .int 0])) :: ((q0, .inl (ca 4, 4, .inr (.inr (.inr (.inr (va_up (va_up (fun _ => none) 0 (some q9)) 1 (some q11))))))) :: (wSe q1 se0 ++ (wPl ca q3 x4 pl0 ++ (wTab ca q5 x6 τ8 ++ (wTab ca q7 x8 τ0 ++ (wSw q9 sw0 ++ (wSw q11 sw0 ++ wSw q13 sw0))))))))) H := hP
  have hD : va_D A (((h, .inr (4, [.ref q0, .ref q1, .ref q3, .ref q5, .ref q7, .int 0, .int 0])) :: ((q0, .inl (ca 4, 4, .inr (.inr (.inr (.inr (va_up (va_up (fun _ => none) 0 (some q9)) 1 (some q11))))))) :: (wSe q1 se0 ++ (wPl ca q3 x4 pl0 ++ (wTab ca q5 x6 τ8 ++ (wTab ca q7 x8 τ0 ++ (wSw q9 sw0 ++ (wSw q11 sw0 ++ wSw q13 sw0))))))))) := hD
  refine W.widen (k := 18) (n := 2599) (Nat.le_of_ble_eq_true rfl) (Nat.le_of_ble_eq_true rfl) ?_
  refine va_astq hx hb hK hP hD hS 1 4 18 2 (r := (RX2, TX2, 5)) rfl rfl rfl rfl (show ¬ ((2 : Int32) < 0 ∨ 4 ≤ (2 : Int32).toNatClampNeg) by decide) dX4_init_78 (fun H locs hP hD hS => ?_)
  have hP : va_P D vwCl (((h, .inr (4, [.ref q0, .ref q1, .ref q3, .ref q5, .ref q7, .int 0, .int 0])) :: ((q0, .inl (ca 4, 4, .inr (.inr (.inr (.inr (va_up (va_up (va_up (fun _ => none) 0 (some q9)) 1 (some q11)) 2 (some q13))))))) :: (wSe q1 se0 ++ (wPl ca q3 x4 pl0 ++ (wTab ca q5 x6 τ8 ++ (wTab ca q7 x8 τ0 ++ (wSw q9 sw0 ++ (wSw q11 sw0 ++ wSw q13 sw0))))))))) H := hP
  have hD : va_D A (((h, .inr (4, [.ref q0, .ref q1, .ref q3, .ref q5, .ref q7, .int 0, .int 0])) :: ((q0, .inl (ca 4, 4, .inr (.inr (.inr (.inr (va_up (va_up (va_up (fun _ => none) 0 (some q9)) 1 (some q11)) 2 (some q13))))))) :: (wSe q1 se0 ++ (wPl ca q3 x4 pl0 ++ (wTab ca q5 x6 τ8 ++ (wTab ca q7 x8 τ0 ++ (wSw q9 sw0 ++ (wSw q11 sw0 ++ wSw q13 sw0))))))))) := hD
  refine lv_iinc (v := 3) (lv' := [(1, .int 3), (0, .ref h)]) hx hb dX4_init_79 hl (k := 0) rfl (by decide) (by decide) rfl (fun ls hl => ?_)
  refine lv_goto (tgt := 61) hx hb dX4_init_82 (by decide) ?_
  refine lv_iload_n hx hb dX4_init_61 rfl (lv_at hl 0 rfl) ?_
  refine lv_iconst (v := 4) hx hb dX4_init_62 (by decide) ?_
  refine lv_icmp_ge (tgt := 85) hx hb dX4_init_63 (by decide) (fun c => absurd c (by decide)) (fun _ => ?_)
  refine lv_aload_n hx hb dX4_init_66 rfl (lv_at hl 1 rfl) ?_
  refine va_get (D := D) (ci := 4) (v := .ref q0) (C := RX4) (T := TX4) (N := 7) hx hb hts in4 hown hK hP 0 rfl rfl 0 (by decide) f11 (fun _ h9 => h9) rfl dX4_init_67 ?_
  refine lv_iload_n hx hb dX4_init_70 rfl (lv_at hl 0 rfl) ?_
  refine va_new (ci := 2) (fs := [.int 0, .int 0, .int 0, .int 0, .long 0]) (C := RX2) (T := TX2) (N := 5) hx hb hts in2 tyX2 tyX2_ok hown (hts (.classLink RX4 9 RX2) (by decide +kernel)) (hts (.instantiable RX2 5) (by decide +kernel)) (hts (.initialized RX2) (by decide +kernel)) hK hP hD hS hA rfl (fun j hj => by rcases (show j = 0 ∨ j = 1 ∨ j = 2 ∨ j = 3 ∨ j = 4 by omega) with rfl | rfl | rfl | rfl | rfl <;> rfl) (Nat.le_of_ble_eq_true rfl) (Nat.le_of_ble_eq_true rfl) dX4_init_71 (fun q15 H hP hD hS => ?_)
  have hP : va_P D vwCl (((h, .inr (4, [.ref q0, .ref q1, .ref q3, .ref q5, .ref q7, .int 0, .int 0])) :: ((q0, .inl (ca 4, 4, .inr (.inr (.inr (.inr (va_up (va_up (va_up (fun _ => none) 0 (some q9)) 1 (some q11)) 2 (some q13))))))) :: (wSe q1 se0 ++ (wPl ca q3 x4 pl0 ++ (wTab ca q5 x6 τ8 ++ (wTab ca q7 x8 τ0 ++ (wSw q9 sw0 ++ (wSw q11 sw0 ++ (wSw q13 sw0 ++ [(q15, .inr (2, [.int 0, .int 0, .int 0, .int 0, .long 0]))])))))))))) H := hP
  have hD : va_D A (((h, .inr (4, [.ref q0, .ref q1, .ref q3, .ref q5, .ref q7, .int 0, .int 0])) :: ((q0, .inl (ca 4, 4, .inr (.inr (.inr (.inr (va_up (va_up (va_up (fun _ => none) 0 (some q9)) 1 (some q11)) 2 (some q13))))))) :: (wSe q1 se0 ++ (wPl ca q3 x4 pl0 ++ (wTab ca q5 x6 τ8 ++ (wTab ca q7 x8 τ0 ++ (wSw q9 sw0 ++ (wSw q11 sw0 ++ (wSw q13 sw0 ++ [(q15, .inr (2, [.int 0, .int 0, .int 0, .int 0, .long 0]))])))))))))) := hD
  refine W.widen (k := 19) (n := 2604) (Nat.le_of_ble_eq_true rfl) (Nat.le_of_ble_eq_true rfl) ?_
  refine lv_dup hx hb dX4_init_74 rfl ?_
  have hP : va_P D vwCl (((h, .inr (4, [.ref q0, .ref q1, .ref q3, .ref q5, .ref q7, .int 0, .int 0])) :: ((q0, .inl (ca 4, 4, .inr (.inr (.inr (.inr (va_up (va_up (va_up (fun _ => none) 0 (some q9)) 1 (some q11)) 2 (some q13))))))) :: (wSe q1 se0 ++ (wPl ca q3 x4 pl0 ++ (wTab ca q5 x6 τ8 ++ (wTab ca q7 x8 τ0 ++ (wSw q9 sw0 ++ (wSw q11 sw0 ++ wSw q13 sw0)))))))) ++ [(q15, .inr (2, [.int 0, .int 0, .int 0, .int 0, .long 0]))]) H := hP
  have hD : va_D A (((h, .inr (4, [.ref q0, .ref q1, .ref q3, .ref q5, .ref q7, .int 0, .int 0])) :: ((q0, .inl (ca 4, 4, .inr (.inr (.inr (.inr (va_up (va_up (va_up (fun _ => none) 0 (some q9)) 1 (some q11)) 2 (some q13))))))) :: (wSe q1 se0 ++ (wPl ca q3 x4 pl0 ++ (wTab ca q5 x6 τ8 ++ (wTab ca q7 x8 τ0 ++ (wSw q9 sw0 ++ (wSw q11 sw0 ++ wSw q13 sw0)))))))) ++ [(q15, .inr (2, [.int 0, .int 0, .int 0, .int 0, .long 0]))]) := hD
  refine call_nN (As := []) (rest := [.ref q15, .int 3, .ref q0]) ⟨hx, hb, hml, hown, hts⟩ (tX2_init l D ca q15 _) ⟨va_cnB 0 hts gX4_init_X2_init_n41 rfl rfl rfl (hN.2.1 (41, yX2_init) (by decide +kernel)) (hts (.initialized RX2) (by decide +kernel)) (by decide +kernel) ⟨Nat.le_of_ble_eq_true rfl, Nat.le_of_ble_eq_true rfl⟩, rfl, hts (.instanceMethod yX2_init) (by decide +kernel)⟩ hN hK hP hD hA hS (fun _ => fr_last (((h, .inr (4, [.ref q0, .ref q1, .ref q3, .ref q5, .ref q7, .int 0, .int 0])) :: ((q0, .inl (ca 4, 4, .inr (.inr (.inr (.inr (va_up (va_up (va_up (fun _ => none) 0 (some q9)) 1 (some q11)) 2 (some q13))))))) :: (wSe q1 se0 ++ (wPl ca q3 x4 pl0 ++ (wTab ca q5 x6 τ8 ++ (wTab ca q7 x8 τ0 ++ (wSw q9 sw0 ++ (wSw q11 sw0 ++ wSw q13 sw0))))))))) _ _) rfl hl.1 rfl (lv_room (Nat.le_of_ble_eq_true rfl)) dX4_init_75 ⟨Nat.le_of_ble_eq_true rfl, Nat.le_of_ble_eq_true rfl⟩ ⟨()⟩ (fun x16 H locs hP hD hS => ?_)
  have hP : va_P D vwCl (((h, .inr (4, [.ref q0, .ref q1, .ref q3, .ref q5, .ref q7, .int 0, .int 0])) :: ((q0, .inl (ca 4, 4, .inr (.inr (.inr (.inr (va_up (va_up (va_up (fun _ => none) 0 (some q9)) 1 (some q11)) 2 (some q13))))))) :: (wSe q1 se0 ++ (wPl ca q3 x4 pl0 ++ (wTab ca q5 x6 τ8 ++ (wTab ca q7 x8 τ0 ++ (wSw q9 sw0 ++ (wSw q11 sw0 ++ (wSw q13 sw0 ++ wSw q15 sw0)))))))))) H := hP
  have hD : va_D A (((h, .inr (4, [.ref q0, .ref q1, .ref q3, .ref q5, .ref q7, .int 0, .int 0])) :: ((q0, .inl (ca 4, 4, .inr (.inr (.inr (.inr (va_up (va_up (va_up (fun _ => none) 0 (some q9)) 1 (some q11)) 2 (some q13))))))) :: (wSe q1 se0 ++ (wPl ca q3 x4 pl0 ++ (wTab ca q5 x6 τ8 ++ (wTab ca q7 x8 τ0 ++ (wSw q9 sw0 ++ (wSw q11 sw0 ++ (wSw q13 sw0 ++ wSw q15 sw0)))))))))) := hD
  refine W.widen (k := 19) (n := 2604) (Nat.le_of_ble_eq_true rfl) (Nat.le_of_ble_eq_true rfl) ?_
  refine va_astq hx hb hK hP hD hS 1 4 19 2 (r := (RX2, TX2, 5)) rfl rfl rfl rfl (show ¬ ((3 : Int32) < 0 ∨ 4 ≤ (3 : Int32).toNatClampNeg) by decide) dX4_init_78 (fun H locs hP hD hS => ?_)
  have hP : va_P D vwCl (((h, .inr (4, [.ref q0, .ref q1, .ref q3, .ref q5, .ref q7, .int 0, .int 0])) :: ((q0, .inl (ca 4, 4, .inr (.inr (.inr (.inr (va_up (va_up (va_up (va_up (fun _ => none) 0 (some q9)) 1 (some q11)) 2 (some q13)) 3 (some q15))))))) :: (wSe q1 se0 ++ (wPl ca q3 x4 pl0 ++ (wTab ca q5 x6 τ8 ++ (wTab ca q7 x8 τ0 ++ (wSw q9 sw0 ++ (wSw q11 sw0 ++ (wSw q13 sw0 ++ wSw q15 sw0)))))))))) H := hP
  have hD : va_D A (((h, .inr (4, [.ref q0, .ref q1, .ref q3, .ref q5, .ref q7, .int 0, .int 0])) :: ((q0, .inl (ca 4, 4, .inr (.inr (.inr (.inr (va_up (va_up (va_up (va_up (fun _ => none) 0 (some q9)) 1 (some q11)) 2 (some q13)) 3 (some q15))))))) :: (wSe q1 se0 ++ (wPl ca q3 x4 pl0 ++ (wTab ca q5 x6 τ8 ++ (wTab ca q7 x8 τ0 ++ (wSw q9 sw0 ++ (wSw q11 sw0 ++ (wSw q13 sw0 ++ wSw q15 sw0)))))))))) := hD
  refine lv_iinc (v := 4) (lv' := [(1, .int 4), (0, .ref h)]) hx hb dX4_init_79 hl (k := 0) rfl (by decide) (by decide) rfl (fun ls hl => ?_)
  refine lv_goto (tgt := 61) hx hb dX4_init_82 (by decide) ?_
  refine lv_iload_n hx hb dX4_init_61 rfl (lv_at hl 0 rfl) ?_
  refine lv_iconst (v := 4) hx hb dX4_init_62 (by decide) ?_
  refine lv_icmp_ge (tgt := 85) hx hb dX4_init_63 (by decide) (fun _ => ?_) (fun c => absurd c (by decide))
  refine lv_aload_n hx hb dX4_init_85 rfl (lv_at hl 1 rfl) ?_
  refine lv_iconst (v := 1) hx hb dX4_init_86 (by decide) ?_
  refine va_put (D := D) (ci := 4) (v := .int 1) (ty := .int) (C := RX4) (T := TX4) (N := 7) hx hb hts in4 tyX4 tyX4_ok nmX4 hown hK hP hD hS 0 rfl rfl 5 (by decide) f42 (fun _ h9 => h9) rfl (by decide +kernel) rfl rfl (Nat.le_of_ble_eq_true rfl) dX4_init_87 (fun H locs hP hD hS => ?_)
  have hP : va_P D vwCl (((h, .inr (4, [.ref q0, .ref q1, .ref q3, .ref q5, .ref q7, .int 1, .int 0])) :: ((q0, .inl (ca 4, 4, .inr (.inr (.inr (.inr (va_up (va_up (va_up (va_up (fun _ => none) 0 (some q9)) 1 (some q11)) 2 (some q13)) 3 (some q15))))))) :: (wSe q1 se0 ++ (wPl ca q3 x4 pl0 ++ (wTab ca q5 x6 τ8 ++ (wTab ca q7 x8 τ0 ++ (wSw q9 sw0 ++ (wSw q11 sw0 ++ (wSw q13 sw0 ++ wSw q15 sw0)))))))))) H := hP
  have hD : va_D A (((h, .inr (4, [.ref q0, .ref q1, .ref q3, .ref q5, .ref q7, .int 1, .int 0])) :: ((q0, .inl (ca 4, 4, .inr (.inr (.inr (.inr (va_up (va_up (va_up (va_up (fun _ => none) 0 (some q9)) 1 (some q11)) 2 (some q13)) 3 (some q15))))))) :: (wSe q1 se0 ++ (wPl ca q3 x4 pl0 ++ (wTab ca q5 x6 τ8 ++ (wTab ca q7 x8 τ0 ++ (wSw q9 sw0 ++ (wSw q11 sw0 ++ (wSw q13 sw0 ++ wSw q15 sw0)))))))))) := hD
  have hne : q7 ≠ q5 := fun z => absurd (hD.1 11 6 _ _ rfl rfl z) (by decide)
  obtain ⟨ar, h1, h2⟩ : ∃ ar : Nat → Nat → Nat, ar q5 = x6 ∧ ar q7 = x8 := ⟨fun a => if a = q5 then x6 else x8, if_pos rfl, if_neg hne⟩
  subst h1 h2
  obtain ⟨B, b0, b1, b2, b3, b4, b5, b6, b7, b8⟩ : ∃ B : Nat → Nat, B 0 = h ∧ B 1 = q0 ∧ B 2 = q9 ∧ B 3 = q11 ∧ B 4 = q13 ∧ B 5 = q15 ∧ B 6 = q1 ∧ B 7 = q3 ∧ ∀ i, B (8 + i) = x4 i := ⟨fun i => if i = 0 then h else if i = 1 then q0 else if i = 2 then q9 else if i = 3 then q11 else if i = 4 then q13 else if i = 5 then q15 else if i = 6 then q1 else if i = 7 then q3 else x4 (i - 8), rfl, rfl, rfl, rfl, rfl, rfl, rfl, rfl, fun i => by show (if 8 + i = 0 then h else if 8 + i = 1 then _ else if 8 + i = 2 then _ else if 8 + i = 3 then _ else if 8 + i = 4 then _ else if 8 + i = 5 then _ else if 8 + i = 6 then _ else if 8 + i = 7 then _ else x4 (8 + i - 8)) = x4 i; rw [if_neg (by omega), if_neg (by omega), if_neg (by omega), if_neg (by omega), if_neg (by omega), if_neg (by omega), if_neg (by omega), if_neg (by omega), Nat.add_sub_cancel_left]⟩
  obtain rfl : (fun i => B (8 + i)) = x4 := funext b8
  subst b0 b1 b2 b3 b4 b5 b6 b7
  have hP : va_P D vwCl (wRR ca B ar (rr0 q5 q7 τ8 τ0)) H := hP.sub [0, 1, 16, 17, 18, 19, 2, 3, 4, 5, 6, 7, 8, 9, 10, 11, 12, 13, 14, 15] rfl
  have hD : va_D A (wRR ca B ar (rr0 q5 q7 τ8 τ0)) := hD.sub [0, 1, 16, 17, 18, 19, 2, 3, 4, 5, 6, 7, 8, 9, 10, 11, 12, 13, 14, 15] (by decide) rfl
  exact ret_n (x := (B, ar, q5, q7)) hx hb hr hlocks hK hP hD hS dX4_init_90
end
section
def jj_low   (a0 : Int32) (a1 : Int32) : Option Int32 :=
  g0 a1 <|
  some ((a0 &&& 2147483647) - (a0 &&& 2147483647) / a1 * a1)
set_option maxHeartbeats 4000000 in
set_option maxRecDepth 100000 in
theorem tL_low (l : Launch) (D : va_G) (ca : Nat → ClassId)  (sz : Nat)   (a0 : Int32) (a1 : Int32) (r : Int32) (hf : jj_low a0 a1 = some r) : Ci l D ca yL_low wsL_low { frames := 0, cells := 0, slots := 0, locals := 0 } [.int a0, .int a1] ([]) sz r ([]) := by
  refine body_of (cc := cL_low) (maxL := 2) (ret := (some .int)) (fun A => Qi D ca r ([]) A) (by decide) rfl (Nat.le_of_ble_eq_true rfl) ?_
  intro p e s m below meth c A ls hx hb hr hml hts hown hlocks hA hK hP hD hS hl hN
  have hl : lv_has ls 2 [(0, .int a0), (1, .int a1)] := hl
  have hret : ∀ (pc : Nat) (ls : Array Slot) (H : Heap) (locs : List Loc), decode cL_low pc = .ok (.ireturn, 1) → va_P D vwCl ([]) H → va_D A ([]) → va_S A s.heap H locs → W p l e { frames := 0, cells := 0, slots := 0, locals := 0 } s m ([.int a0, .int a1] : List Value).toArray below meth c H locs 0 0 (MQ below (Qi D ca r ([]) A) ([.int a0, .int a1] : List Value).toArray s 0 0 A) (F0 m pc ls [.int r]) := fun pc ls H locs hd hP hD hS => ret_i hx hb hr hlocks hK hP hD hS hd
  generalize MQ below (Qi D ca r ([]) A) ([.int a0, .int a1] : List Value).toArray s 0 0 A = Q at hret ⊢
  generalize ([.int a0, .int a1] : List Value).toArray = args at hts hret ⊢
  unfold jj_low at hf
  refine lv_iload_n hx hb dL_low_0 rfl (lv_at hl 0 rfl) ?_
  refine lv_ldc (v := 2147483647) hx hb hown (hts (.constant RL 7 (2147483647)) (by decide +kernel)) dL_low_1 ?_
  refine lv_iand hx hb dL_low_3 ?_
  refine lv_iload_n hx hb dL_low_4 rfl (lv_at hl 1 rfl) ?_
  obtain ⟨g1, hf⟩ := g0_ob hf
  refine lv_irem hx hb dL_low_5 g1 ?_
  obtain rfl := so1 hf
  exact hret _ _ _ _ dL_low_6 hP hD hS

def hh_placeOf_25  (τ : (Nat → Int32)) (k5 : Int32 → Int32 → Int32 → Int32 → Option Int32)  (l1 : Int32) (l2 : Int32) (l4 : Int32) (t0 : Int32) : Option Int32 :=
  nm (l4 + 1) fun v4 =>
  k5 l1 l2 t0 v4
def hh_placeOf_5  (τ : (Nat → Int32)) (k5 : Int32 → Int32 → Int32 → Int32 → Option Int32)  (l1 : Int32) (l2 : Int32) (l3 : Int32) (l4 : Int32) : Option Int32 :=
  if l1 ≤ l4 then
    some l3
  else
    gd l4 64 <|
    if (τ l4.toNatClampNeg) = l2 then
      hh_placeOf_25 τ k5 l1 l2 l4 l4
    else
      hh_placeOf_25 τ k5 l1 l2 l4 l3
def hh_placeOf_lp5  (τ : (Nat → Int32))  : Nat → Int32 → Int32 → Int32 → Int32 → Option Int32 := itF (fun _ _ _ _ => none) (fun k => hh_placeOf_5 τ  k)
def hh_placeOf  (τ : (Nat → Int32)) (a1 : Int32) (a2 : Int32) : Option Int32 :=
  hh_placeOf_lp5 τ FU a1 a2 (-1) 0
set_option maxHeartbeats 4000000 in
set_option maxRecDepth 100000 in
theorem tL_placeOf (l : Launch) (D : va_G) (ca : Nat → ClassId) (h : Nat) (sz : Nat)  (τ : (Nat → Int32)) (a1 : Int32) (a2 : Int32) (r : Int32) (hf : hh_placeOf τ a1 a2 = some r) : Ci l D ca yL_placeOf wsL_placeOf { frames := 0, cells := 0, slots := 0, locals := 0 } [.ref h, .int a1, .int a2] (wA ca h τ) sz r (wA ca h τ) := by
  refine body_of (cc := cL_placeOf) (maxL := 5) (ret := (some .int)) (fun A => Qi D ca r (wA ca h τ) A) (by decide) rfl (Nat.le_of_ble_eq_true rfl) ?_
  intro p e s m below meth c A ls hx hb hr hml hts hown hlocks hA hK hP hD hS hl hN
  have hl : lv_has ls 5 [(0, .ref h), (1, .int a1), (2, .int a2)] := hl
  have hret : ∀ (pc : Nat) (ls : Array Slot) (H : Heap) (locs : List Loc), decode cL_placeOf pc = .ok (.ireturn, 1) → va_P D vwCl (wA ca h τ) H → va_D A (wA ca h τ) → va_S A s.heap H locs → W p l e { frames := 0, cells := 0, slots := 0, locals := 0 } s m ([.ref h, .int a1, .int a2] : List Value).toArray below meth c H locs 0 0 (MQ below (Qi D ca r (wA ca h τ) A) ([.ref h, .int a1, .int a2] : List Value).toArray s 0 0 A) (F0 m pc ls [.int r]) := fun pc ls H locs hd hP hD hS => ret_i hx hb hr hlocks hK hP hD hS hd
  generalize MQ below (Qi D ca r (wA ca h τ) A) ([.ref h, .int a1, .int a2] : List Value).toArray s 0 0 A = Q at hret ⊢
  generalize ([.ref h, .int a1, .int a2] : List Value).toArray = args at hts hret ⊢
  have J5 : ∀ (n5 : Nat) (H : Heap) (locs : List Loc) (ls : Array Slot)  (l1 : Int32) (l2 : Int32) (l3 : Int32) (l4 : Int32), hh_placeOf_lp5 τ  n5 l1 l2 l3 l4 = some r → va_P D vwCl (wA ca h τ) H → va_D A (wA ca h τ) → va_S A s.heap H locs → lv_has ls 5 [(0, .ref h), (1, .int l1), (2, .int l2), (3, .int l3), (4, .int l4)] → W p l e { frames := 0, cells := 0, slots := 0, locals := 0 } s m args below meth c H locs 0 0 Q (F0 m 5 ls []) := by
    intro n5
    induction n5 with
    | zero =>
      intro H locs ls l1 l2 l3 l4 hf hP hD hS hl
      exact absurd hf (fun h => by cases h)
    | succ n5 ih5 =>
      have J25 : ∀ (H : Heap) (locs : List Loc) (ls : Array Slot)  (l1 : Int32) (l2 : Int32) (l4 : Int32) (t0 : Int32), hh_placeOf_25 τ (hh_placeOf_lp5 τ  n5) l1 l2 l4 t0 = some r → va_P D vwCl (wA ca h τ) H → va_D A (wA ca h τ) → va_S A s.heap H locs → lv_has ls 5 [(0, .ref h), (1, .int l1), (2, .int l2), (4, .int l4)] → W p l e { frames := 0, cells := 0, slots := 0, locals := 0 } s m args below meth c H locs 0 0 Q (F0 m 25 ls [.int t0]) := by
        intro H locs ls l1 l2 l4 t0 hf hP hD hS hl
        unfold hh_placeOf_25 at hf
        refine lv_istore_n (lv' := [(3, .int t0), (0, .ref h), (1, .int l1), (2, .int l2), (4, .int l4)]) hx hb dL_placeOf_25 rfl hl (by decide) rfl (fun ls hl => ?_)
        obtain ⟨v4, ev4, hf⟩ := nm_ob hf
        refine lv_iinc (v := v4) (lv' := [(4, .int v4), (3, .int t0), (0, .ref h), (1, .int l1), (2, .int l2)]) hx hb dL_placeOf_26 hl (k := 4) rfl (by rw [← ev4]; rfl) (by decide) rfl (fun ls hl => ?_)
        refine lv_goto (tgt := 5) hx hb dL_placeOf_29 (by decide) ?_
        exact ih5 _ _ _ _ _ _ _ hf hP hD hS (lv_sub hl [2, 3, 4, 1, 0] rfl)
      intro H locs ls l1 l2 l3 l4 hf hP hD hS hl
      replace hf : hh_placeOf_5 τ  (hh_placeOf_lp5 τ  n5) l1 l2 l3 l4 = some r := hf
      unfold hh_placeOf_5 at hf
      refine lv_iload hx hb dL_placeOf_5 (lv_at hl 4 rfl) ?_
      refine lv_iload_n hx hb dL_placeOf_7 rfl (lv_at hl 1 rfl) ?_
      refine lv_icmp_ge (tgt := 32) hx hb dL_placeOf_8 (by decide) (fun c1 => ?_) (fun c1 => ?_)
      · replace hf := it_p c1 hf
        refine lv_iload_n hx hb dL_placeOf_32 rfl (lv_at hl 3 rfl) ?_
        obtain rfl := so1 hf
        exact hret _ _ _ _ dL_placeOf_33 hP hD hS
      · replace hf := it_n c1 hf
        refine lv_aload_n hx hb dL_placeOf_11 rfl (lv_at hl 0 rfl) ?_
        refine lv_iload hx hb dL_placeOf_12 (lv_at hl 4 rfl) ?_
        obtain ⟨g2, hf⟩ := gd_ob hf
        refine va_iald hx hb hK hP 0 0 rfl rfl g2 dL_placeOf_14 ?_
        refine lv_iload_n hx hb dL_placeOf_15 rfl (lv_at hl 2 rfl) ?_
        refine lv_icmp_ne (tgt := 24) hx hb dL_placeOf_16 (by decide) (fun c3 => ?_) (fun c3 => ?_)
        · replace hf := it_n c3 hf
          refine lv_iload_n hx hb dL_placeOf_24 rfl (lv_at hl 3 rfl) ?_
          exact J25 _ _ _ _ _ _ _ hf hP hD hS (lv_sub hl [0, 1, 2, 4] rfl)
        · replace hf := it_p c3 hf
          refine lv_iload hx hb dL_placeOf_19 (lv_at hl 4 rfl) ?_
          refine lv_goto (tgt := 25) hx hb dL_placeOf_21 (by decide) ?_
          exact J25 _ _ _ _ _ _ _ hf hP hD hS (lv_sub hl [0, 1, 2, 4] rfl)
  unfold hh_placeOf at hf
  refine lv_iconst (v := (-1)) hx hb dL_placeOf_0 (by decide) ?_
  refine lv_istore_n (lv' := [(3, .int (-1)), (0, .ref h), (1, .int a1), (2, .int a2)]) hx hb dL_placeOf_1 rfl hl (by decide) rfl (fun ls hl => ?_)
  refine lv_iconst (v := 0) hx hb dL_placeOf_2 (by decide) ?_
  refine lv_istore (lv' := [(4, .int 0), (3, .int (-1)), (0, .ref h), (1, .int a1), (2, .int a2)]) hx hb dL_placeOf_3 hl (by decide) rfl (fun ls hl => ?_)
  exact J5 FU _ _ _ _ _ _ _ hf hP hD hS (lv_sub hl [2, 3, 4, 1, 0] rfl)

def hh_size_21  (τ : (Nat → Int32)) (k4 : Int32 → Int32 → Int32 → Option Int32)  (l1 : Int32) (l3 : Int32) (t0 : Int32) (t1 : Int32) : Option Int32 :=
  nm (t0 + t1) fun v4 =>
  nm (l3 + 1) fun v5 =>
  k4 l1 v4 v5
def hh_size_4  (τ : (Nat → Int32)) (k4 : Int32 → Int32 → Int32 → Option Int32)  (l1 : Int32) (l2 : Int32) (l3 : Int32) : Option Int32 :=
  if l1 ≤ l3 then
    some l2
  else
    gd l3 64 <|
    if (τ l3.toNatClampNeg) < 0 then
      hh_size_21 τ k4 l1 l3 l2 0
    else
      hh_size_21 τ k4 l1 l3 l2 1
def hh_size_lp4  (τ : (Nat → Int32))  : Nat → Int32 → Int32 → Int32 → Option Int32 := itF (fun _ _ _ => none) (fun k => hh_size_4 τ  k)
def hh_size  (τ : (Nat → Int32)) (a1 : Int32) : Option Int32 :=
  hh_size_lp4 τ FU a1 0 0
set_option maxHeartbeats 4000000 in
set_option maxRecDepth 100000 in
theorem tL_size (l : Launch) (D : va_G) (ca : Nat → ClassId) (h : Nat) (sz : Nat)  (τ : (Nat → Int32)) (a1 : Int32) (r : Int32) (hf : hh_size τ a1 = some r) : Ci l D ca yL_size wsL_size { frames := 0, cells := 0, slots := 0, locals := 0 } [.ref h, .int a1] (wA ca h τ) sz r (wA ca h τ) := by
  refine body_of (cc := cL_size) (maxL := 4) (ret := (some .int)) (fun A => Qi D ca r (wA ca h τ) A) (by decide) rfl (Nat.le_of_ble_eq_true rfl) ?_
  intro p e s m below meth c A ls hx hb hr hml hts hown hlocks hA hK hP hD hS hl hN
  have hl : lv_has ls 4 [(0, .ref h), (1, .int a1)] := hl
  have hret : ∀ (pc : Nat) (ls : Array Slot) (H : Heap) (locs : List Loc), decode cL_size pc = .ok (.ireturn, 1) → va_P D vwCl (wA ca h τ) H → va_D A (wA ca h τ) → va_S A s.heap H locs → W p l e { frames := 0, cells := 0, slots := 0, locals := 0 } s m ([.ref h, .int a1] : List Value).toArray below meth c H locs 0 0 (MQ below (Qi D ca r (wA ca h τ) A) ([.ref h, .int a1] : List Value).toArray s 0 0 A) (F0 m pc ls [.int r]) := fun pc ls H locs hd hP hD hS => ret_i hx hb hr hlocks hK hP hD hS hd
  generalize MQ below (Qi D ca r (wA ca h τ) A) ([.ref h, .int a1] : List Value).toArray s 0 0 A = Q at hret ⊢
  generalize ([.ref h, .int a1] : List Value).toArray = args at hts hret ⊢
  have J4 : ∀ (n4 : Nat) (H : Heap) (locs : List Loc) (ls : Array Slot)  (l1 : Int32) (l2 : Int32) (l3 : Int32), hh_size_lp4 τ  n4 l1 l2 l3 = some r → va_P D vwCl (wA ca h τ) H → va_D A (wA ca h τ) → va_S A s.heap H locs → lv_has ls 4 [(0, .ref h), (1, .int l1), (2, .int l2), (3, .int l3)] → W p l e { frames := 0, cells := 0, slots := 0, locals := 0 } s m args below meth c H locs 0 0 Q (F0 m 4 ls []) := by
    intro n4
    induction n4 with
    | zero =>
      intro H locs ls l1 l2 l3 hf hP hD hS hl
      exact absurd hf (fun h => by cases h)
    | succ n4 ih4 =>
      have J21 : ∀ (H : Heap) (locs : List Loc) (ls : Array Slot)  (l1 : Int32) (l3 : Int32) (t0 : Int32) (t1 : Int32), hh_size_21 τ (hh_size_lp4 τ  n4) l1 l3 t0 t1 = some r → va_P D vwCl (wA ca h τ) H → va_D A (wA ca h τ) → va_S A s.heap H locs → lv_has ls 4 [(0, .ref h), (1, .int l1), (3, .int l3)] → W p l e { frames := 0, cells := 0, slots := 0, locals := 0 } s m args below meth c H locs 0 0 Q (F0 m 21 ls [.int t1, .int t0]) := by
        intro H locs ls l1 l3 t0 t1 hf hP hD hS hl
        unfold hh_size_21 at hf
        refine lv_iadd hx hb dL_size_21 ?_
        obtain ⟨v4, ev4, hf⟩ := nm_ob hf
        refine tp_i ev4 ?_
        refine lv_istore_n (lv' := [(2, .int v4), (0, .ref h), (1, .int l1), (3, .int l3)]) hx hb dL_size_22 rfl hl (by decide) rfl (fun ls hl => ?_)
        obtain ⟨v5, ev5, hf⟩ := nm_ob hf
        refine lv_iinc (v := v5) (lv' := [(3, .int v5), (2, .int v4), (0, .ref h), (1, .int l1)]) hx hb dL_size_23 hl (k := 3) rfl (by rw [← ev5]; rfl) (by decide) rfl (fun ls hl => ?_)
        refine lv_goto (tgt := 4) hx hb dL_size_26 (by decide) ?_
        exact ih4 _ _ _ _ _ _ hf hP hD hS (lv_sub hl [2, 3, 1, 0] rfl)
      intro H locs ls l1 l2 l3 hf hP hD hS hl
      replace hf : hh_size_4 τ  (hh_size_lp4 τ  n4) l1 l2 l3 = some r := hf
      unfold hh_size_4 at hf
      refine lv_iload_n hx hb dL_size_4 rfl (lv_at hl 3 rfl) ?_
      refine lv_iload_n hx hb dL_size_5 rfl (lv_at hl 1 rfl) ?_
      refine lv_icmp_ge (tgt := 29) hx hb dL_size_6 (by decide) (fun c1 => ?_) (fun c1 => ?_)
      · replace hf := it_p c1 hf
        refine lv_iload_n hx hb dL_size_29 rfl (lv_at hl 2 rfl) ?_
        obtain rfl := so1 hf
        exact hret _ _ _ _ dL_size_30 hP hD hS
      · replace hf := it_n c1 hf
        refine lv_iload_n hx hb dL_size_9 rfl (lv_at hl 2 rfl) ?_
        refine lv_aload_n hx hb dL_size_10 rfl (lv_at hl 0 rfl) ?_
        refine lv_iload_n hx hb dL_size_11 rfl (lv_at hl 3 rfl) ?_
        obtain ⟨g2, hf⟩ := gd_ob hf
        refine va_iald hx hb hK hP 0 0 rfl rfl g2 dL_size_12 ?_
        refine lv_if_lt (tgt := 20) hx hb dL_size_13 (by decide) (fun c3 => ?_) (fun c3 => ?_)
        · replace hf := it_p c3 hf
          refine lv_iconst (v := 0) hx hb dL_size_20 (by decide) ?_
          exact J21 _ _ _ _ _ _ _ hf hP hD hS (lv_sub hl [0, 1, 3] rfl)
        · replace hf := it_n c3 hf
          refine lv_iconst (v := 1) hx hb dL_size_16 (by decide) ?_
          refine lv_goto (tgt := 21) hx hb dL_size_17 (by decide) ?_
          exact J21 _ _ _ _ _ _ _ hf hP hD hS (lv_sub hl [0, 1, 3] rfl)
  unfold hh_size at hf
  refine lv_iconst (v := 0) hx hb dL_size_0 (by decide) ?_
  refine lv_istore_n (lv' := [(2, .int 0), (0, .ref h), (1, .int a1)]) hx hb dL_size_1 rfl hl (by decide) rfl (fun ls hl => ?_)
  refine lv_iconst (v := 0) hx hb dL_size_2 (by decide) ?_
  refine lv_istore_n (lv' := [(3, .int 0), (2, .int 0), (0, .ref h), (1, .int a1)]) hx hb dL_size_3 rfl hl (by decide) rfl (fun ls hl => ?_)
  exact J4 FU _ _ _ _ _ _ hf hP hD hS (lv_sub hl [2, 3, 1, 0] rfl)

def hh_keysOf_149  (σ : RR) (k36 : Int32 → Int32 → Int32 → Int32 → Int32 → Int32 → Option Int32)  (l1 : Int32) (l2 : Int32) (l3 : Int32) (l5 : Int32) (l6 : Int32) (l7 : Int32) : Option Int32 :=
  nm (l6 + 1) fun v22 =>
  k36 l1 l2 l3 l7 l5 v22
def hh_keysOf_144  (σ : RR) (k36 : Int32 → Int32 → Int32 → Int32 → Int32 → Int32 → Option Int32)  (l1 : Int32) (l2 : Int32) (l3 : Int32) (l6 : Int32) (l7 : Int32) (t0 : Int32) : Option Int32 :=
  nm (l3 + 1) fun v21 =>
  hh_keysOf_149 σ k36 l1 l2 v21 t0 l6 l7
def hh_keysOf_78  (σ : RR) (k36 : Int32 → Int32 → Int32 → Int32 → Int32 → Int32 → Option Int32)  (l1 : Int32) (l2 : Int32) (l3 : Int32) (l6 : Int32) (l7 : Int32) (t0 : Int32) : Option Int32 :=
  hh_keysOf_149 σ k36 l1 l2 l3 t0 l6 l7
def hh_keysOf_36  (σ : RR) (k36 : Int32 → Int32 → Int32 → Int32 → Int32 → Int32 → Option Int32)  (l1 : Int32) (l2 : Int32) (l3 : Int32) (l4 : Int32) (l5 : Int32) (l6 : Int32) : Option Int32 :=
  if l2 ≤ l6 then
    if l5 = 0 then
      some (-1000)
    else
      bd (rr_keysIn σ l1) fun v7 =>
      if l3 = v7 then
        some l3
      else
        some (-1000)
  else
    bd (rr_distanceAt σ l1 l6) fun v9 =>
    if 0 ≤ v9 then
      bd (rr_keyAt σ l1 l6) fun v11 =>
      bd (rr_hash σ v11) fun v12 =>
      if l5 = 0 then
        hh_keysOf_144 σ k36 l1 l2 l3 l6 v9 0
      else
        if v9 = ((l6 - v12) &&& (l2 - 1)) then
          bd (rr_control σ l1 l6) fun v15 =>
          if v15 = (ushr v12 25) then
            if (l4 + 1) < v9 then
              hh_keysOf_144 σ k36 l1 l2 l3 l6 v9 0
            else
              hh_keysOf_144 σ k36 l1 l2 l3 l6 v9 1
          else
            hh_keysOf_144 σ k36 l1 l2 l3 l6 v9 0
        else
          hh_keysOf_144 σ k36 l1 l2 l3 l6 v9 0
    else
      if l5 = 0 then
        hh_keysOf_78 σ k36 l1 l2 l3 l6 v9 0
      else
        bd (rr_control σ l1 l6) fun v19 =>
        if v19 = (-128) then
          hh_keysOf_78 σ k36 l1 l2 l3 l6 v9 1
        else
          hh_keysOf_78 σ k36 l1 l2 l3 l6 v9 0
def hh_keysOf_lp36  (σ : RR)  : Nat → Int32 → Int32 → Int32 → Int32 → Int32 → Int32 → Option Int32 := itF (fun _ _ _ _ _ _ => none) (fun k => hh_keysOf_36 σ  k)
def hh_keysOf_28  (σ : RR)   (l1 : Int32) (l2 : Int32) (l3 : Int32) (t0 : Int32) : Option Int32 :=
  hh_keysOf_lp36 σ FU l1 l2 l3 t0 1 0
def hh_keysOf  (σ : RR) (a1 : Int32) : Option Int32 :=
  bd (rr_slots σ a1) fun v1 =>
  bd (rr_slots σ a1) fun v2 =>
  if v2 = 0 then
    hh_keysOf_28 σ a1 v1 0 0
  else
    bd (rr_distanceAt σ a1 (v1 - 1)) fun v4 =>
    hh_keysOf_28 σ a1 v1 0 v4
set_option maxHeartbeats 4000000 in
set_option maxRecDepth 100000 in
theorem tL_keysOf (l : Launch) (D : va_G) (ca : Nat → ClassId) (B : Nat → Nat) (ar : Nat → Nat → Nat) (sz : Nat)  (σ : RR) (a1 : Int32) (r : Int32) (hf : hh_keysOf σ a1 = some r) : Ci l D ca yL_keysOf wsL_keysOf { frames := 3, cells := 0, slots := 0, locals := 67 } [.ref (B 0), .int a1] (wRR ca B ar σ) sz r (wRR ca B ar σ) := by
  refine body_of (cc := cL_keysOf) (maxL := 9) (ret := (some .int)) (fun A => Qi D ca r (wRR ca B ar σ) A) (by decide) rfl (Nat.le_of_ble_eq_true rfl) ?_
  intro p e s m below meth c A ls hx hb hr hml hts hown hlocks hA hK hP hD hS hl hN
  have hl : lv_has ls 9 [(0, .ref (B 0)), (1, .int a1)] := hl
  have hret : ∀ (pc : Nat) (ls : Array Slot) (H : Heap) (locs : List Loc), decode cL_keysOf pc = .ok (.ireturn, 1) → va_P D vwCl (wRR ca B ar σ) H → va_D A (wRR ca B ar σ) → va_S A s.heap H locs → W p l e { frames := 3, cells := 0, slots := 0, locals := 67 } s m ([.ref (B 0), .int a1] : List Value).toArray below meth c H locs 0 0 (MQ below (Qi D ca r (wRR ca B ar σ) A) ([.ref (B 0), .int a1] : List Value).toArray s 0 0 A) (F0 m pc ls [.int r]) := fun pc ls H locs hd hP hD hS => ret_i hx hb hr hlocks hK hP hD hS hd
  generalize MQ below (Qi D ca r (wRR ca B ar σ) A) ([.ref (B 0), .int a1] : List Value).toArray s 0 0 A = Q at hret ⊢
  generalize ([.ref (B 0), .int a1] : List Value).toArray = args at hts hret ⊢
  have J36 : ∀ (n36 : Nat) (H : Heap) (locs : List Loc) (ls : Array Slot)  (l1 : Int32) (l2 : Int32) (l3 : Int32) (l4 : Int32) (l5 : Int32) (l6 : Int32), hh_keysOf_lp36 σ  n36 l1 l2 l3 l4 l5 l6 = some r → va_P D vwCl (wRR ca B ar σ) H → va_D A (wRR ca B ar σ) → va_S A s.heap H locs → lv_has ls 9 [(0, .ref (B 0)), (1, .int l1), (2, .int l2), (3, .int l3), (4, .int l4), (5, .int l5), (6, .int l6)] → W p l e { frames := 3, cells := 0, slots := 0, locals := 67 } s m args below meth c H locs 0 0 Q (F0 m 36 ls []) := by
    intro n36
    induction n36 with
    | zero =>
      intro H locs ls l1 l2 l3 l4 l5 l6 hf hP hD hS hl
      exact absurd hf (fun h => by cases h)
    | succ n36 ih36 =>
      have J149 : ∀ (H : Heap) (locs : List Loc) (ls : Array Slot)  (l1 : Int32) (l2 : Int32) (l3 : Int32) (l5 : Int32) (l6 : Int32) (l7 : Int32), hh_keysOf_149 σ (hh_keysOf_lp36 σ  n36) l1 l2 l3 l5 l6 l7 = some r → va_P D vwCl (wRR ca B ar σ) H → va_D A (wRR ca B ar σ) → va_S A s.heap H locs → lv_has ls 9 [(0, .ref (B 0)), (1, .int l1), (2, .int l2), (3, .int l3), (5, .int l5), (6, .int l6), (7, .int l7)] → W p l e { frames := 3, cells := 0, slots := 0, locals := 67 } s m args below meth c H locs 0 0 Q (F0 m 149 ls []) := by
        intro H locs ls l1 l2 l3 l5 l6 l7 hf hP hD hS hl
        unfold hh_keysOf_149 at hf
        refine lv_iload hx hb dL_keysOf_149 (lv_at hl 6 rfl) ?_
        refine lv_istore (lv' := [(4, .int l7), (0, .ref (B 0)), (1, .int l1), (2, .int l2), (3, .int l3), (5, .int l5), (6, .int l6), (7, .int l7)]) hx hb dL_keysOf_151 hl (by decide) rfl (fun ls hl => ?_)
        obtain ⟨v22, ev22, hf⟩ := nm_ob hf
        refine lv_iinc (v := v22) (lv' := [(6, .int v22), (4, .int l7), (0, .ref (B 0)), (1, .int l1), (2, .int l2), (3, .int l3), (5, .int l5), (7, .int l7)]) hx hb dL_keysOf_153 hl (k := 6) rfl (by rw [← ev22]; rfl) (by decide) rfl (fun ls hl => ?_)
        refine lv_goto (tgt := 36) hx hb dL_keysOf_156 (by decide) ?_
        exact ih36 _ _ _ _ _ _ _ _ _ hf hP hD hS (lv_sub hl [2, 3, 4, 5, 1, 6, 0] rfl)
      have J144 : ∀ (H : Heap) (locs : List Loc) (ls : Array Slot)  (l1 : Int32) (l2 : Int32) (l3 : Int32) (l6 : Int32) (l7 : Int32) (t0 : Int32), hh_keysOf_144 σ (hh_keysOf_lp36 σ  n36) l1 l2 l3 l6 l7 t0 = some r → va_P D vwCl (wRR ca B ar σ) H → va_D A (wRR ca B ar σ) → va_S A s.heap H locs → lv_has ls 9 [(0, .ref (B 0)), (1, .int l1), (2, .int l2), (3, .int l3), (6, .int l6), (7, .int l7)] → W p l e { frames := 3, cells := 0, slots := 0, locals := 67 } s m args below meth c H locs 0 0 Q (F0 m 144 ls [.int t0]) := by
        intro H locs ls l1 l2 l3 l6 l7 t0 hf hP hD hS hl
        unfold hh_keysOf_144 at hf
        refine lv_istore (lv' := [(5, .int t0), (0, .ref (B 0)), (1, .int l1), (2, .int l2), (3, .int l3), (6, .int l6), (7, .int l7)]) hx hb dL_keysOf_144 hl (by decide) rfl (fun ls hl => ?_)
        obtain ⟨v21, ev21, hf⟩ := nm_ob hf
        refine lv_iinc (v := v21) (lv' := [(3, .int v21), (5, .int t0), (0, .ref (B 0)), (1, .int l1), (2, .int l2), (6, .int l6), (7, .int l7)]) hx hb dL_keysOf_146 hl (k := 4) rfl (by rw [← ev21]; rfl) (by decide) rfl (fun ls hl => ?_)
        exact J149 _ _ _ _ _ _ _ _ _ hf hP hD hS (lv_sub hl [2, 3, 4, 0, 1, 5, 6] rfl)
      have J78 : ∀ (H : Heap) (locs : List Loc) (ls : Array Slot)  (l1 : Int32) (l2 : Int32) (l3 : Int32) (l6 : Int32) (l7 : Int32) (t0 : Int32), hh_keysOf_78 σ (hh_keysOf_lp36 σ  n36) l1 l2 l3 l6 l7 t0 = some r → va_P D vwCl (wRR ca B ar σ) H → va_D A (wRR ca B ar σ) → va_S A s.heap H locs → lv_has ls 9 [(0, .ref (B 0)), (1, .int l1), (2, .int l2), (3, .int l3), (6, .int l6), (7, .int l7)] → W p l e { frames := 3, cells := 0, slots := 0, locals := 67 } s m args below meth c H locs 0 0 Q (F0 m 78 ls [.int t0]) := by
        intro H locs ls l1 l2 l3 l6 l7 t0 hf hP hD hS hl
        unfold hh_keysOf_78 at hf
        refine lv_istore (lv' := [(5, .int t0), (0, .ref (B 0)), (1, .int l1), (2, .int l2), (3, .int l3), (6, .int l6), (7, .int l7)]) hx hb dL_keysOf_78 hl (by decide) rfl (fun ls hl => ?_)
        refine lv_goto (tgt := 149) hx hb dL_keysOf_80 (by decide) ?_
        exact J149 _ _ _ _ _ _ _ _ _ hf hP hD hS (lv_sub hl [1, 2, 3, 4, 0, 5, 6] rfl)
      intro H locs ls l1 l2 l3 l4 l5 l6 hf hP hD hS hl
      replace hf : hh_keysOf_36 σ  (hh_keysOf_lp36 σ  n36) l1 l2 l3 l4 l5 l6 = some r := hf
      unfold hh_keysOf_36 at hf
      refine lv_iload hx hb dL_keysOf_36 (lv_at hl 6 rfl) ?_
      refine lv_iload_n hx hb dL_keysOf_38 rfl (lv_at hl 2 rfl) ?_
      refine lv_icmp_ge (tgt := 159) hx hb dL_keysOf_39 (by decide) (fun c5 => ?_) (fun c5 => ?_)
      · replace hf := it_p c5 hf
        refine lv_iload hx hb dL_keysOf_159 (lv_at hl 5 rfl) ?_
        refine lv_if_eq (tgt := 177) hx hb dL_keysOf_161 (by decide) (fun c6 => ?_) (fun c6 => ?_)
        · replace hf := it_p c6 hf
          refine lv_sipush (v := (-1000)) hx hb dL_keysOf_177 (by decide) ?_
          obtain rfl := so1 hf
          exact hret _ _ _ _ dL_keysOf_180 hP hD hS
        · replace hf := it_n c6 hf
          refine lv_iload_n hx hb dL_keysOf_164 rfl (lv_at hl 3 rfl) ?_
          refine lv_aload_n hx hb dL_keysOf_165 rfl (lv_at hl 0 rfl) ?_
          refine lv_iload_n hx hb dL_keysOf_166 rfl (lv_at hl 1 rfl) ?_
          obtain ⟨v7, ev7, hf⟩ := bd_ob hf
          refine call_i (As := [.int l1]) (rest := [.int l3]) ⟨hx, hb, hml, hown, hts⟩ (tX4_keysIn l D ca B ar _ σ l1 v7 ev7) (cwV 1 hts gL_keysOf_X4_keysIn rfl rfl rfl (by decide +kernel) ⟨Nat.le_of_ble_eq_true rfl, Nat.le_of_ble_eq_true rfl⟩) hN hK hP hD hA hS (fr_id _ _) rfl rfl rfl hl.1 rfl (lv_room (Nat.le_of_ble_eq_true rfl)) dL_keysOf_167 ⟨Nat.le_refl _, Nat.le_refl _⟩ (fun H locs hP hD hS => ?_)
          refine lv_icmp_ne (tgt := 177) hx hb dL_keysOf_170 (by decide) (fun c8 => ?_) (fun c8 => ?_)
          · replace hf := it_n c8 hf
            refine lv_sipush (v := (-1000)) hx hb dL_keysOf_177 (by decide) ?_
            obtain rfl := so1 hf
            exact hret _ _ _ _ dL_keysOf_180 hP hD hS
          · replace hf := it_p c8 hf
            refine lv_iload_n hx hb dL_keysOf_173 rfl (lv_at hl 3 rfl) ?_
            refine lv_goto (tgt := 180) hx hb dL_keysOf_174 (by decide) ?_
            obtain rfl := so1 hf
            exact hret _ _ _ _ dL_keysOf_180 hP hD hS
      · replace hf := it_n c5 hf
        refine lv_aload_n hx hb dL_keysOf_42 rfl (lv_at hl 0 rfl) ?_
        refine lv_iload_n hx hb dL_keysOf_43 rfl (lv_at hl 1 rfl) ?_
        refine lv_iload hx hb dL_keysOf_44 (lv_at hl 6 rfl) ?_
        obtain ⟨v9, ev9, hf⟩ := bd_ob hf
        refine call_i (As := [.int l1, .int l6]) (rest := []) ⟨hx, hb, hml, hown, hts⟩ (tX4_distanceAt l D ca B ar _ σ l1 l6 v9 ev9) (cwV 2 hts gL_keysOf_X4_distanceAt rfl rfl rfl (by decide +kernel) ⟨Nat.le_of_ble_eq_true rfl, Nat.le_of_ble_eq_true rfl⟩) hN hK hP hD hA hS (fr_id _ _) rfl rfl rfl hl.1 rfl (lv_room (Nat.le_of_ble_eq_true rfl)) dL_keysOf_46 ⟨Nat.le_refl _, Nat.le_refl _⟩ (fun H locs hP hD hS => ?_)
        refine lv_istore (lv' := [(7, .int v9), (0, .ref (B 0)), (1, .int l1), (2, .int l2), (3, .int l3), (4, .int l4), (5, .int l5), (6, .int l6)]) hx hb dL_keysOf_49 hl (by decide) rfl (fun ls hl => ?_)
        refine lv_iload hx hb dL_keysOf_51 (lv_at hl 0 rfl) ?_
        refine lv_if_ge (tgt := 83) hx hb dL_keysOf_53 (by decide) (fun c10 => ?_) (fun c10 => ?_)
        · replace hf := it_p c10 hf
          refine lv_aload_n hx hb dL_keysOf_83 rfl (lv_at hl 1 rfl) ?_
          refine lv_aload_n hx hb dL_keysOf_84 rfl (lv_at hl 1 rfl) ?_
          refine lv_iload_n hx hb dL_keysOf_85 rfl (lv_at hl 2 rfl) ?_
          refine lv_iload hx hb dL_keysOf_86 (lv_at hl 7 rfl) ?_
          obtain ⟨v11, ev11, hf⟩ := bd_ob hf
          refine call_i (As := [.int l1, .int l6]) (rest := [.ref (B 0)]) ⟨hx, hb, hml, hown, hts⟩ (tX4_keyAt l D ca B ar _ σ l1 l6 v11 ev11) (cwV 2 hts gL_keysOf_X4_keyAt rfl rfl rfl (by decide +kernel) ⟨Nat.le_of_ble_eq_true rfl, Nat.le_of_ble_eq_true rfl⟩) hN hK hP hD hA hS (fr_id _ _) rfl rfl rfl hl.1 rfl (lv_room (Nat.le_of_ble_eq_true rfl)) dL_keysOf_88 ⟨Nat.le_refl _, Nat.le_refl _⟩ (fun H locs hP hD hS => ?_)
          obtain ⟨v12, ev12, hf⟩ := bd_ob hf
          refine call_i (As := [.int v11]) (rest := []) ⟨hx, hb, hml, hown, hts⟩ (tX4_hash l D ca B ar _ σ v11 v12 ev12) (cwV 1 hts gL_keysOf_X4_hash rfl rfl rfl (by decide +kernel) ⟨Nat.le_of_ble_eq_true rfl, Nat.le_of_ble_eq_true rfl⟩) hN hK hP hD hA hS (fr_id _ _) rfl rfl rfl hl.1 rfl (lv_room (Nat.le_of_ble_eq_true rfl)) dL_keysOf_91 ⟨Nat.le_refl _, Nat.le_refl _⟩ (fun H locs hP hD hS => ?_)
          refine lv_istore (lv' := [(8, .int v12), (7, .int v9), (0, .ref (B 0)), (1, .int l1), (2, .int l2), (3, .int l3), (4, .int l4), (5, .int l5), (6, .int l6)]) hx hb dL_keysOf_94 hl (by decide) rfl (fun ls hl => ?_)
          refine lv_iload hx hb dL_keysOf_96 (lv_at hl 7 rfl) ?_
          refine lv_if_eq (tgt := 143) hx hb dL_keysOf_98 (by decide) (fun c13 => ?_) (fun c13 => ?_)
          · replace hf := it_p c13 hf
            refine lv_iconst (v := 0) hx hb dL_keysOf_143 (by decide) ?_
            exact J144 _ _ _ _ _ _ _ _ _ hf hP hD hS (lv_sub hl [2, 3, 4, 5, 8, 1] rfl)
          · replace hf := it_n c13 hf
            refine lv_iload hx hb dL_keysOf_101 (lv_at hl 1 rfl) ?_
            refine lv_iload hx hb dL_keysOf_103 (lv_at hl 8 rfl) ?_
            refine lv_iload hx hb dL_keysOf_105 (lv_at hl 0 rfl) ?_
            refine lv_isub hx hb dL_keysOf_107 ?_
            refine lv_iload_n hx hb dL_keysOf_108 rfl (lv_at hl 4 rfl) ?_
            refine lv_iconst (v := 1) hx hb dL_keysOf_109 (by decide) ?_
            refine lv_isub hx hb dL_keysOf_110 ?_
            refine lv_iand hx hb dL_keysOf_111 ?_
            refine lv_icmp_ne (tgt := 143) hx hb dL_keysOf_112 (by decide) (fun c14 => ?_) (fun c14 => ?_)
            · replace hf := it_n c14 hf
              refine lv_iconst (v := 0) hx hb dL_keysOf_143 (by decide) ?_
              exact J144 _ _ _ _ _ _ _ _ _ hf hP hD hS (lv_sub hl [2, 3, 4, 5, 8, 1] rfl)
            · replace hf := it_p c14 hf
              refine lv_aload_n hx hb dL_keysOf_115 rfl (lv_at hl 2 rfl) ?_
              refine lv_iload_n hx hb dL_keysOf_116 rfl (lv_at hl 3 rfl) ?_
              refine lv_iload hx hb dL_keysOf_117 (lv_at hl 8 rfl) ?_
              obtain ⟨v15, ev15, hf⟩ := bd_ob hf
              refine call_i (As := [.int l1, .int l6]) (rest := []) ⟨hx, hb, hml, hown, hts⟩ (tX4_control l D ca B ar _ σ l1 l6 v15 ev15) (cwV 2 hts gL_keysOf_X4_control rfl rfl rfl (by decide +kernel) ⟨Nat.le_of_ble_eq_true rfl, Nat.le_of_ble_eq_true rfl⟩) hN hK hP hD hA hS (fr_id _ _) rfl rfl rfl hl.1 rfl (lv_room (Nat.le_of_ble_eq_true rfl)) dL_keysOf_119 ⟨Nat.le_refl _, Nat.le_refl _⟩ (fun H locs hP hD hS => ?_)
              refine lv_iload hx hb dL_keysOf_122 (lv_at hl 0 rfl) ?_
              refine lv_bipush (v := 25) hx hb dL_keysOf_124 (by decide) ?_
              refine lv_iushr (v := (ushr v12 25)) hx hb dL_keysOf_126 rfl ?_
              refine lv_icmp_ne (tgt := 143) hx hb dL_keysOf_127 (by decide) (fun c16 => ?_) (fun c16 => ?_)
              · replace hf := it_n c16 hf
                refine lv_iconst (v := 0) hx hb dL_keysOf_143 (by decide) ?_
                exact J144 _ _ _ _ _ _ _ _ _ hf hP hD hS (lv_sub hl [2, 3, 4, 5, 8, 1] rfl)
              · replace hf := it_p c16 hf
                refine lv_iload hx hb dL_keysOf_130 (lv_at hl 1 rfl) ?_
                refine lv_iload hx hb dL_keysOf_132 (lv_at hl 6 rfl) ?_
                refine lv_iconst (v := 1) hx hb dL_keysOf_134 (by decide) ?_
                refine lv_iadd hx hb dL_keysOf_135 ?_
                refine lv_icmp_gt (tgt := 143) hx hb dL_keysOf_136 (by decide) (fun c17 => ?_) (fun c17 => ?_)
                · replace hf := it_p c17 hf
                  refine lv_iconst (v := 0) hx hb dL_keysOf_143 (by decide) ?_
                  exact J144 _ _ _ _ _ _ _ _ _ hf hP hD hS (lv_sub hl [2, 3, 4, 5, 8, 1] rfl)
                · replace hf := it_n c17 hf
                  refine lv_iconst (v := 1) hx hb dL_keysOf_139 (by decide) ?_
                  refine lv_goto (tgt := 144) hx hb dL_keysOf_140 (by decide) ?_
                  exact J144 _ _ _ _ _ _ _ _ _ hf hP hD hS (lv_sub hl [2, 3, 4, 5, 8, 1] rfl)
        · replace hf := it_n c10 hf
          refine lv_iload hx hb dL_keysOf_56 (lv_at hl 6 rfl) ?_
          refine lv_if_eq (tgt := 77) hx hb dL_keysOf_58 (by decide) (fun c18 => ?_) (fun c18 => ?_)
          · replace hf := it_p c18 hf
            refine lv_iconst (v := 0) hx hb dL_keysOf_77 (by decide) ?_
            exact J78 _ _ _ _ _ _ _ _ _ hf hP hD hS (lv_sub hl [1, 2, 3, 4, 7, 0] rfl)
          · replace hf := it_n c18 hf
            refine lv_aload_n hx hb dL_keysOf_61 rfl (lv_at hl 1 rfl) ?_
            refine lv_iload_n hx hb dL_keysOf_62 rfl (lv_at hl 2 rfl) ?_
            refine lv_iload hx hb dL_keysOf_63 (lv_at hl 7 rfl) ?_
            obtain ⟨v19, ev19, hf⟩ := bd_ob hf
            refine call_i (As := [.int l1, .int l6]) (rest := []) ⟨hx, hb, hml, hown, hts⟩ (tX4_control l D ca B ar _ σ l1 l6 v19 ev19) (cwV 2 hts gL_keysOf_X4_control rfl rfl rfl (by decide +kernel) ⟨Nat.le_of_ble_eq_true rfl, Nat.le_of_ble_eq_true rfl⟩) hN hK hP hD hA hS (fr_id _ _) rfl rfl rfl hl.1 rfl (lv_room (Nat.le_of_ble_eq_true rfl)) dL_keysOf_65 ⟨Nat.le_refl _, Nat.le_refl _⟩ (fun H locs hP hD hS => ?_)
            refine lv_bipush (v := (-128)) hx hb dL_keysOf_68 (by decide) ?_
            refine lv_icmp_ne (tgt := 77) hx hb dL_keysOf_70 (by decide) (fun c20 => ?_) (fun c20 => ?_)
            · replace hf := it_n c20 hf
              refine lv_iconst (v := 0) hx hb dL_keysOf_77 (by decide) ?_
              exact J78 _ _ _ _ _ _ _ _ _ hf hP hD hS (lv_sub hl [1, 2, 3, 4, 7, 0] rfl)
            · replace hf := it_p c20 hf
              refine lv_iconst (v := 1) hx hb dL_keysOf_73 (by decide) ?_
              refine lv_goto (tgt := 78) hx hb dL_keysOf_74 (by decide) ?_
              exact J78 _ _ _ _ _ _ _ _ _ hf hP hD hS (lv_sub hl [1, 2, 3, 4, 7, 0] rfl)
  have J28 : ∀ (H : Heap) (locs : List Loc) (ls : Array Slot)  (l1 : Int32) (l2 : Int32) (l3 : Int32) (t0 : Int32), hh_keysOf_28 σ  l1 l2 l3 t0 = some r → va_P D vwCl (wRR ca B ar σ) H → va_D A (wRR ca B ar σ) → va_S A s.heap H locs → lv_has ls 9 [(0, .ref (B 0)), (1, .int l1), (2, .int l2), (3, .int l3)] → W p l e { frames := 3, cells := 0, slots := 0, locals := 67 } s m args below meth c H locs 0 0 Q (F0 m 28 ls [.int t0]) := by
    intro H locs ls l1 l2 l3 t0 hf hP hD hS hl
    unfold hh_keysOf_28 at hf
    refine lv_istore (lv' := [(4, .int t0), (0, .ref (B 0)), (1, .int l1), (2, .int l2), (3, .int l3)]) hx hb dL_keysOf_28 hl (by decide) rfl (fun ls hl => ?_)
    refine lv_iconst (v := 1) hx hb dL_keysOf_30 (by decide) ?_
    refine lv_istore (lv' := [(5, .int 1), (4, .int t0), (0, .ref (B 0)), (1, .int l1), (2, .int l2), (3, .int l3)]) hx hb dL_keysOf_31 hl (by decide) rfl (fun ls hl => ?_)
    refine lv_iconst (v := 0) hx hb dL_keysOf_33 (by decide) ?_
    refine lv_istore (lv' := [(6, .int 0), (5, .int 1), (4, .int t0), (0, .ref (B 0)), (1, .int l1), (2, .int l2), (3, .int l3)]) hx hb dL_keysOf_34 hl (by decide) rfl (fun ls hl => ?_)
    exact J36 FU _ _ _ _ _ _ _ _ _ hf hP hD hS (lv_sub hl [3, 4, 5, 6, 2, 1, 0] rfl)
  unfold hh_keysOf at hf
  refine lv_aload_n hx hb dL_keysOf_0 rfl (lv_at hl 0 rfl) ?_
  refine lv_iload_n hx hb dL_keysOf_1 rfl (lv_at hl 1 rfl) ?_
  obtain ⟨v1, ev1, hf⟩ := bd_ob hf
  refine call_i (As := [.int a1]) (rest := []) ⟨hx, hb, hml, hown, hts⟩ (tX4_slots l D ca B ar _ σ a1 v1 ev1) (cwV 1 hts gL_keysOf_X4_slots rfl rfl rfl (by decide +kernel) ⟨Nat.le_of_ble_eq_true rfl, Nat.le_of_ble_eq_true rfl⟩) hN hK hP hD hA hS (fr_id _ _) rfl rfl rfl hl.1 rfl (lv_room (Nat.le_of_ble_eq_true rfl)) dL_keysOf_2 ⟨Nat.le_refl _, Nat.le_refl _⟩ (fun H locs hP hD hS => ?_)
  refine lv_istore_n (lv' := [(2, .int v1), (0, .ref (B 0)), (1, .int a1)]) hx hb dL_keysOf_5 rfl hl (by decide) rfl (fun ls hl => ?_)
  refine lv_iconst (v := 0) hx hb dL_keysOf_6 (by decide) ?_
  refine lv_istore_n (lv' := [(3, .int 0), (2, .int v1), (0, .ref (B 0)), (1, .int a1)]) hx hb dL_keysOf_7 rfl hl (by decide) rfl (fun ls hl => ?_)
  refine lv_aload_n hx hb dL_keysOf_8 rfl (lv_at hl 2 rfl) ?_
  refine lv_iload_n hx hb dL_keysOf_9 rfl (lv_at hl 3 rfl) ?_
  obtain ⟨v2, ev2, hf⟩ := bd_ob hf
  refine call_i (As := [.int a1]) (rest := []) ⟨hx, hb, hml, hown, hts⟩ (tX4_slots l D ca B ar _ σ a1 v2 ev2) (cwV 1 hts gL_keysOf_X4_slots rfl rfl rfl (by decide +kernel) ⟨Nat.le_of_ble_eq_true rfl, Nat.le_of_ble_eq_true rfl⟩) hN hK hP hD hA hS (fr_id _ _) rfl rfl rfl hl.1 rfl (lv_room (Nat.le_of_ble_eq_true rfl)) dL_keysOf_10 ⟨Nat.le_refl _, Nat.le_refl _⟩ (fun H locs hP hD hS => ?_)
  refine lv_if_ne (tgt := 20) hx hb dL_keysOf_13 (by decide) (fun c3 => ?_) (fun c3 => ?_)
  · replace hf := it_n c3 hf
    refine lv_aload_n hx hb dL_keysOf_20 rfl (lv_at hl 2 rfl) ?_
    refine lv_iload_n hx hb dL_keysOf_21 rfl (lv_at hl 3 rfl) ?_
    refine lv_iload_n hx hb dL_keysOf_22 rfl (lv_at hl 1 rfl) ?_
    refine lv_iconst (v := 1) hx hb dL_keysOf_23 (by decide) ?_
    refine lv_isub hx hb dL_keysOf_24 ?_
    obtain ⟨v4, ev4, hf⟩ := bd_ob hf
    refine call_i (As := [.int a1, .int (v1 - 1)]) (rest := []) ⟨hx, hb, hml, hown, hts⟩ (tX4_distanceAt l D ca B ar _ σ a1 (v1 - 1) v4 ev4) (cwV 2 hts gL_keysOf_X4_distanceAt rfl rfl rfl (by decide +kernel) ⟨Nat.le_of_ble_eq_true rfl, Nat.le_of_ble_eq_true rfl⟩) hN hK hP hD hA hS (fr_id _ _) rfl rfl rfl hl.1 rfl (lv_room (Nat.le_of_ble_eq_true rfl)) dL_keysOf_25 ⟨Nat.le_refl _, Nat.le_refl _⟩ (fun H locs hP hD hS => ?_)
    exact J28 _ _ _ _ _ _ _ hf hP hD hS (lv_sub hl [2, 3, 1, 0] rfl)
  · replace hf := it_p c3 hf
    refine lv_iconst (v := 0) hx hb dL_keysOf_16 (by decide) ?_
    refine lv_goto (tgt := 28) hx hb dL_keysOf_17 (by decide) ?_
    exact J28 _ _ _ _ _ _ _ hf hP hD hS (lv_sub hl [2, 3, 1, 0] rfl)

def hh_isPut_59   (σ : HS) (l4 : Int32) (l5 : Int32) (l6 : Int32) (t0 : Int32) : Option (Int32 × HS) :=
  gd l6 64 <|
  nm (hs_v' σ (upd (hs_v σ) l6.toNatClampNeg l5)) fun s19 =>
  if t0 = 0 then
    some (0, s19)
  else
    bd2 (rr_get (hs_x s19) l4) fun v21 s22 =>
    nm (hs_x' s19 s22) fun s23 =>
    if v21 = l5 then
      some (1, s23)
    else
      some (0, s23)
def hh_isPut_39   (σ : HS) (l4 : Int32) (l5 : Int32) (l6 : Int32) : Option (Int32 × HS) :=
  bd2 (rr_put (hs_x σ) l4 l5) fun v13 s14 =>
  nm (hs_x' σ s14) fun s15 =>
  gd l6 64 <|
  if v13 = (hs_v s15 l6.toNatClampNeg) then
    hh_isPut_59 s15 l4 l5 l6 1
  else
    hh_isPut_59 s15 l4 l5 l6 0
def hh_isPut  (σ : HS) (a4 : Int32) (a5 : Int32) : Option (Int32 × HS) :=
  gd 0 1 <|
  bd (hh_placeOf (hs_k σ) (hs_n σ (0 : Int32).toNatClampNeg) a4) fun v2 =>
  if 0 ≤ v2 then
    hh_isPut_39 σ a4 a5 v2
  else
    gd 0 1 <|
    nm (hs_n σ (0 : Int32).toNatClampNeg) fun v5 =>
    gd v5 64 <|
    nm (hs_k' σ (upd (hs_k σ) v5.toNatClampNeg a4)) fun s7 =>
    gd v5 64 <|
    nm (hs_v' s7 (upd (hs_v s7) v5.toNatClampNeg (-1))) fun s9 =>
    gd 0 1 <|
    gd 0 1 <|
    nm (hs_n' s9 (upd (hs_n s9) (0 : Int32).toNatClampNeg ((hs_n s9 (0 : Int32).toNatClampNeg) + 1))) fun s12 =>
    hh_isPut_39 s12 a4 a5 v5
set_option maxHeartbeats 4000000 in
set_option maxRecDepth 100000 in
theorem tL_isPut (l : Launch) (D : va_G) (ca : Nat → ClassId) (B : Nat → Nat) (ar : Nat → Nat → Nat) (E : Nat → Nat) (sz : Nat)  (σ : HS) (a4 : Int32) (a5 : Int32) (r : Int32) (σ9 : HS) (hf : hh_isPut σ a4 a5 = some (r, σ9)) : Ci l D ca yL_isPut wsL_isPut { frames := 6, cells := 0, slots := 0, locals := 139 } [.ref (B 0), .ref (E 0), .ref (E 1), .ref (E 2), .int a4, .int a5] (wH ca B ar E σ) sz r (wH ca B ar E σ9) := by
  refine body_of (cc := cL_isPut) (maxL := 8) (ret := (some .boolean)) (fun A => Qi D ca r (wH ca B ar E σ9) A) (by decide) rfl (Nat.le_of_ble_eq_true rfl) ?_
  intro p e s m below meth c A ls hx hb hr hml hts hown hlocks hA hK hP hD hS hl hN
  have hl : lv_has ls 8 [(0, .ref (B 0)), (1, .ref (E 0)), (2, .ref (E 1)), (3, .ref (E 2)), (4, .int a4), (5, .int a5)] := hl
  have hret : ∀ (pc : Nat) (ls : Array Slot) (H : Heap) (locs : List Loc), decode cL_isPut pc = .ok (.ireturn, 1) → narrow .boolean (.int r) = .int r → va_P D vwCl (wH ca B ar E σ9) H → va_D A (wH ca B ar E σ9) → va_S A s.heap H locs → W p l e { frames := 6, cells := 0, slots := 0, locals := 139 } s m ([.ref (B 0), .ref (E 0), .ref (E 1), .ref (E 2), .int a4, .int a5] : List Value).toArray below meth c H locs 0 0 (MQ below (Qi D ca r (wH ca B ar E σ9) A) ([.ref (B 0), .ref (E 0), .ref (E 1), .ref (E 2), .int a4, .int a5] : List Value).toArray s 0 0 A) (F0 m pc ls [.int r]) := fun pc ls H locs hd hn hP hD hS => ret_z hx hb hr hn hlocks hK hP hD hS hd
  generalize MQ below (Qi D ca r (wH ca B ar E σ9) A) ([.ref (B 0), .ref (E 0), .ref (E 1), .ref (E 2), .int a4, .int a5] : List Value).toArray s 0 0 A = Q at hret ⊢
  generalize ([.ref (B 0), .ref (E 0), .ref (E 1), .ref (E 2), .int a4, .int a5] : List Value).toArray = args at hts hret ⊢
  have J59 : ∀ (H : Heap) (locs : List Loc) (ls : Array Slot) (σ : HS) (l4 : Int32) (l5 : Int32) (l6 : Int32) (t0 : Int32), hh_isPut_59  σ l4 l5 l6 t0 = some (r, σ9) → va_P D vwCl (wH ca B ar E σ) H → va_D A (wH ca B ar E σ) → va_S A s.heap H locs → lv_has ls 8 [(0, .ref (B 0)), (2, .ref (E 1)), (4, .int l4), (5, .int l5), (6, .int l6)] → W p l e { frames := 6, cells := 0, slots := 0, locals := 139 } s m args below meth c H locs 0 0 Q (F0 m 59 ls [.int t0]) := by
    intro H locs ls σ l4 l5 l6 t0 hf hP hD hS hl
    unfold hh_isPut_59 at hf
    refine lv_istore (lv' := [(7, .int t0), (0, .ref (B 0)), (2, .ref (E 1)), (4, .int l4), (5, .int l5), (6, .int l6)]) hx hb dL_isPut_59 hl (by decide) rfl (fun ls hl => ?_)
    refine lv_aload_n hx hb dL_isPut_61 rfl (lv_at hl 2 rfl) ?_
    refine lv_iload hx hb dL_isPut_62 (lv_at hl 5 rfl) ?_
    refine lv_iload hx hb dL_isPut_64 (lv_at hl 4 rfl) ?_
    obtain ⟨g18, hf⟩ := gd_ob hf
    obtain ⟨s19, es19, hf⟩ := nm_ob hf
    refine va_iast hx hb hK hP hD hS 21 0 rfl rfl g18 dL_isPut_66 (fun H locs hP hD hS => ?_)
    have hP : va_P D vwCl (wH ca B ar E s19) H := by rw [← es19]; exact hP
    have hD : va_D A (wH ca B ar E s19) := by rw [← es19]; exact hD
    refine lv_iload hx hb dL_isPut_67 (lv_at hl 0 rfl) ?_
    refine lv_if_eq (tgt := 87) hx hb dL_isPut_69 (by decide) (fun c20 => ?_) (fun c20 => ?_)
    · replace hf := it_p c20 hf
      refine lv_iconst (v := 0) hx hb dL_isPut_87 (by decide) ?_
      obtain ⟨rfl, rfl⟩ := so2 hf
      exact hret _ _ _ _ dL_isPut_88 rfl hP hD hS
    · replace hf := it_n c20 hf
      refine lv_aload_n hx hb dL_isPut_72 rfl (lv_at hl 1 rfl) ?_
      refine lv_iload hx hb dL_isPut_73 (lv_at hl 3 rfl) ?_
      obtain ⟨v21, s22, ev21, hf⟩ := bd2_ob hf
      refine call_i (As := [.int l4]) (rest := []) ⟨hx, hb, hml, hown, hts⟩ (tX4_get l D ca B ar _ (hs_x s19) l4 v21 s22 ev21) (cwV 1 hts gL_isPut_X4_get rfl rfl rfl (by decide +kernel) ⟨Nat.le_of_ble_eq_true rfl, Nat.le_of_ble_eq_true rfl⟩) hN hK hP hD hA hS (fr_HR ca B ar E s19 s22) rfl rfl rfl hl.1 rfl (lv_room (Nat.le_of_ble_eq_true rfl)) dL_isPut_75 ⟨Nat.le_refl _, Nat.le_refl _⟩ (fun H locs hP hD hS => ?_)
      obtain ⟨s23, es23, hf⟩ := nm_ob hf
      have hP : va_P D vwCl (wH ca B ar E s23) H := by rw [← es23]; exact hP
      have hD : va_D A (wH ca B ar E s23) := by rw [← es23]; exact hD
      refine lv_iload hx hb dL_isPut_78 (lv_at hl 4 rfl) ?_
      refine lv_icmp_ne (tgt := 87) hx hb dL_isPut_80 (by decide) (fun c24 => ?_) (fun c24 => ?_)
      · replace hf := it_n c24 hf
        refine lv_iconst (v := 0) hx hb dL_isPut_87 (by decide) ?_
        obtain ⟨rfl, rfl⟩ := so2 hf
        exact hret _ _ _ _ dL_isPut_88 rfl hP hD hS
      · replace hf := it_p c24 hf
        refine lv_iconst (v := 1) hx hb dL_isPut_83 (by decide) ?_
        refine lv_goto (tgt := 88) hx hb dL_isPut_84 (by decide) ?_
        obtain ⟨rfl, rfl⟩ := so2 hf
        exact hret _ _ _ _ dL_isPut_88 rfl hP hD hS
  have J39 : ∀ (H : Heap) (locs : List Loc) (ls : Array Slot) (σ : HS) (l4 : Int32) (l5 : Int32) (l6 : Int32), hh_isPut_39  σ l4 l5 l6 = some (r, σ9) → va_P D vwCl (wH ca B ar E σ) H → va_D A (wH ca B ar E σ) → va_S A s.heap H locs → lv_has ls 8 [(0, .ref (B 0)), (2, .ref (E 1)), (4, .int l4), (5, .int l5), (6, .int l6)] → W p l e { frames := 6, cells := 0, slots := 0, locals := 139 } s m args below meth c H locs 0 0 Q (F0 m 39 ls []) := by
    intro H locs ls σ l4 l5 l6 hf hP hD hS hl
    unfold hh_isPut_39 at hf
    refine lv_aload_n hx hb dL_isPut_39 rfl (lv_at hl 0 rfl) ?_
    refine lv_iload hx hb dL_isPut_40 (lv_at hl 2 rfl) ?_
    refine lv_iload hx hb dL_isPut_42 (lv_at hl 3 rfl) ?_
    obtain ⟨v13, s14, ev13, hf⟩ := bd2_ob hf
    refine call_i (As := [.int l4, .int l5]) (rest := []) ⟨hx, hb, hml, hown, hts⟩ (tX4_put l D ca B ar _ (hs_x σ) l4 l5 v13 s14 ev13) (cwV 2 hts gL_isPut_X4_put rfl rfl rfl (by decide +kernel) ⟨Nat.le_of_ble_eq_true rfl, Nat.le_of_ble_eq_true rfl⟩) hN hK hP hD hA hS (fr_HR ca B ar E σ s14) rfl rfl rfl hl.1 rfl (lv_room (Nat.le_of_ble_eq_true rfl)) dL_isPut_44 ⟨Nat.le_refl _, Nat.le_refl _⟩ (fun H locs hP hD hS => ?_)
    obtain ⟨s15, es15, hf⟩ := nm_ob hf
    have hP : va_P D vwCl (wH ca B ar E s15) H := by rw [← es15]; exact hP
    have hD : va_D A (wH ca B ar E s15) := by rw [← es15]; exact hD
    refine lv_aload_n hx hb dL_isPut_47 rfl (lv_at hl 1 rfl) ?_
    refine lv_iload hx hb dL_isPut_48 (lv_at hl 4 rfl) ?_
    obtain ⟨g16, hf⟩ := gd_ob hf
    refine va_iald hx hb hK hP 21 0 rfl rfl g16 dL_isPut_50 ?_
    refine lv_icmp_ne (tgt := 58) hx hb dL_isPut_51 (by decide) (fun c17 => ?_) (fun c17 => ?_)
    · replace hf := it_n c17 hf
      refine lv_iconst (v := 0) hx hb dL_isPut_58 (by decide) ?_
      exact J59 _ _ _ _ _ _ _ _ hf hP hD hS (lv_sub hl [0, 1, 2, 3, 4] rfl)
    · replace hf := it_p c17 hf
      refine lv_iconst (v := 1) hx hb dL_isPut_54 (by decide) ?_
      refine lv_goto (tgt := 59) hx hb dL_isPut_55 (by decide) ?_
      exact J59 _ _ _ _ _ _ _ _ hf hP hD hS (lv_sub hl [0, 1, 2, 3, 4] rfl)
  unfold hh_isPut at hf
  refine lv_aload_n hx hb dL_isPut_0 rfl (lv_at hl 1 rfl) ?_
  refine lv_aload_n hx hb dL_isPut_1 rfl (lv_at hl 3 rfl) ?_
  refine lv_iconst (v := 0) hx hb dL_isPut_2 (by decide) ?_
  obtain ⟨g1, hf⟩ := gd_ob hf
  refine va_iald hx hb hK hP 22 0 rfl rfl g1 dL_isPut_3 ?_
  refine lv_iload hx hb dL_isPut_4 (lv_at hl 4 rfl) ?_
  obtain ⟨v2, ev2, hf⟩ := bd_ob hf
  refine call_si (As := [.ref (E 0), .int (hs_n σ (0 : Int32).toNatClampNeg), .int a4]) (rest := []) ⟨hx, hb, hml, hown, hts⟩ (tL_placeOf l D ca (E 0) _ (hs_k σ) (hs_n σ (0 : Int32).toNatClampNeg) a4 v2 ev2) (va_cwS 3 hts gL_isPut_L_placeOf rfl rfl rfl (by decide +kernel) ⟨Nat.le_of_ble_eq_true rfl, Nat.le_of_ble_eq_true rfl⟩) hN hK hP hD hA hS (fr_Hk ca B ar E σ) rfl hl.1 rfl (lv_room (Nat.le_of_ble_eq_true rfl)) dL_isPut_6 ⟨Nat.le_refl _, Nat.le_refl _⟩ (fun H locs hP hD hS => ?_)
  refine lv_istore (lv' := [(6, .int v2), (0, .ref (B 0)), (1, .ref (E 0)), (2, .ref (E 1)), (3, .ref (E 2)), (4, .int a4), (5, .int a5)]) hx hb dL_isPut_9 hl (by decide) rfl (fun ls hl => ?_)
  refine lv_iload hx hb dL_isPut_11 (lv_at hl 0 rfl) ?_
  refine lv_if_ge (tgt := 39) hx hb dL_isPut_13 (by decide) (fun c3 => ?_) (fun c3 => ?_)
  · replace hf := it_p c3 hf
    exact J39 _ _ _ _ _ _ _ hf hP hD hS (lv_sub hl [1, 3, 5, 6, 0] rfl)
  · replace hf := it_n c3 hf
    refine lv_aload_n hx hb dL_isPut_16 rfl (lv_at hl 4 rfl) ?_
    refine lv_iconst (v := 0) hx hb dL_isPut_17 (by decide) ?_
    obtain ⟨g4, hf⟩ := gd_ob hf
    refine va_iald hx hb hK hP 22 0 rfl rfl g4 dL_isPut_18 ?_
    obtain ⟨v5, ev5, hf⟩ := nm_ob hf
    refine tp_i ev5 ?_
    refine lv_istore (lv' := [(6, .int v5), (0, .ref (B 0)), (1, .ref (E 0)), (2, .ref (E 1)), (3, .ref (E 2)), (4, .int a4), (5, .int a5)]) hx hb dL_isPut_19 hl (by decide) rfl (fun ls hl => ?_)
    refine lv_aload_n hx hb dL_isPut_21 rfl (lv_at hl 2 rfl) ?_
    refine lv_iload hx hb dL_isPut_22 (lv_at hl 0 rfl) ?_
    refine lv_iload hx hb dL_isPut_24 (lv_at hl 5 rfl) ?_
    obtain ⟨g6, hf⟩ := gd_ob hf
    obtain ⟨s7, es7, hf⟩ := nm_ob hf
    refine va_iast hx hb hK hP hD hS 20 0 rfl rfl g6 dL_isPut_26 (fun H locs hP hD hS => ?_)
    have hP : va_P D vwCl (wH ca B ar E s7) H := by rw [← es7]; exact hP
    have hD : va_D A (wH ca B ar E s7) := by rw [← es7]; exact hD
    refine lv_aload_n hx hb dL_isPut_27 rfl (lv_at hl 3 rfl) ?_
    refine lv_iload hx hb dL_isPut_28 (lv_at hl 0 rfl) ?_
    refine lv_iconst (v := (-1)) hx hb dL_isPut_30 (by decide) ?_
    obtain ⟨g8, hf⟩ := gd_ob hf
    obtain ⟨s9, es9, hf⟩ := nm_ob hf
    refine va_iast hx hb hK hP hD hS 21 0 rfl rfl g8 dL_isPut_31 (fun H locs hP hD hS => ?_)
    have hP : va_P D vwCl (wH ca B ar E s9) H := by rw [← es9]; exact hP
    have hD : va_D A (wH ca B ar E s9) := by rw [← es9]; exact hD
    refine lv_aload_n hx hb dL_isPut_32 rfl (lv_at hl 4 rfl) ?_
    refine lv_iconst (v := 0) hx hb dL_isPut_33 (by decide) ?_
    refine lv_dup2_11 hx hb dL_isPut_34 rfl rfl ?_
    obtain ⟨g10, hf⟩ := gd_ob hf
    refine va_iald hx hb hK hP 22 0 rfl rfl g10 dL_isPut_35 ?_
    refine lv_iconst (v := 1) hx hb dL_isPut_36 (by decide) ?_
    refine lv_iadd hx hb dL_isPut_37 ?_
    obtain ⟨g11, hf⟩ := gd_ob hf
    obtain ⟨s12, es12, hf⟩ := nm_ob hf
    refine va_iast hx hb hK hP hD hS 22 0 rfl rfl g11 dL_isPut_38 (fun H locs hP hD hS => ?_)
    have hP : va_P D vwCl (wH ca B ar E s12) H := by rw [← es12]; exact hP
    have hD : va_D A (wH ca B ar E s12) := by rw [← es12]; exact hD
    exact J39 _ _ _ _ _ _ _ hf hP hD hS (lv_sub hl [1, 3, 5, 6, 0] rfl)

def hh_isRemoved_46   (σ : HS) (l5 : Int32) (t0 : Int32) : Option (Int32 × HS) :=
  if l5 < 0 then
    gn .boolean t0 <|
    some (t0, σ)
  else
    gd l5 64 <|
    nm (hs_v' σ (upd (hs_v σ) l5.toNatClampNeg (-1))) fun s15 =>
    gn .boolean t0 <|
    some (t0, s15)
def hh_isRemoved_28   (σ : HS) (l4 : Int32) (l5 : Int32) (t0 : Int32) (t1 : Int32) : Option (Int32 × HS) :=
  if t0 = t1 then
    bd2 (rr_get (hs_x σ) l4) fun v8 s9 =>
    nm (hs_x' σ s9) fun s10 =>
    if v8 = (-1) then
      hh_isRemoved_46 s10 l5 1
    else
      hh_isRemoved_46 s10 l5 0
  else
    hh_isRemoved_46 σ l5 0
def hh_isRemoved  (σ : HS) (a3 : Int32) (a4 : Int32) : Option (Int32 × HS) :=
  bd (hh_placeOf (hs_k σ) a3 a4) fun v1 =>
  bd2 (rr_remove (hs_x σ) a4) fun v2 s3 =>
  nm (hs_x' σ s3) fun s4 =>
  if 0 ≤ v1 then
    gd v1 64 <|
    hh_isRemoved_28 s4 a4 v1 v2 (hs_v s4 v1.toNatClampNeg)
  else
    hh_isRemoved_28 s4 a4 v1 v2 (-1)
set_option maxHeartbeats 4000000 in
set_option maxRecDepth 100000 in
theorem tL_isRemoved (l : Launch) (D : va_G) (ca : Nat → ClassId) (B : Nat → Nat) (ar : Nat → Nat → Nat) (E : Nat → Nat) (sz : Nat)  (σ : HS) (a3 : Int32) (a4 : Int32) (r : Int32) (σ9 : HS) (hf : hh_isRemoved σ a3 a4 = some (r, σ9)) : Ci l D ca yL_isRemoved wsL_isRemoved { frames := 5, cells := 0, slots := 0, locals := 119 } [.ref (B 0), .ref (E 0), .ref (E 1), .int a3, .int a4] (wH ca B ar E σ) sz r (wH ca B ar E σ9) := by
  refine body_of (cc := cL_isRemoved) (maxL := 7) (ret := (some .boolean)) (fun A => Qi D ca r (wH ca B ar E σ9) A) (by decide) rfl (Nat.le_of_ble_eq_true rfl) ?_
  intro p e s m below meth c A ls hx hb hr hml hts hown hlocks hA hK hP hD hS hl hN
  have hl : lv_has ls 7 [(0, .ref (B 0)), (1, .ref (E 0)), (2, .ref (E 1)), (3, .int a3), (4, .int a4)] := hl
  have hret : ∀ (pc : Nat) (ls : Array Slot) (H : Heap) (locs : List Loc), decode cL_isRemoved pc = .ok (.ireturn, 1) → narrow .boolean (.int r) = .int r → va_P D vwCl (wH ca B ar E σ9) H → va_D A (wH ca B ar E σ9) → va_S A s.heap H locs → W p l e { frames := 5, cells := 0, slots := 0, locals := 119 } s m ([.ref (B 0), .ref (E 0), .ref (E 1), .int a3, .int a4] : List Value).toArray below meth c H locs 0 0 (MQ below (Qi D ca r (wH ca B ar E σ9) A) ([.ref (B 0), .ref (E 0), .ref (E 1), .int a3, .int a4] : List Value).toArray s 0 0 A) (F0 m pc ls [.int r]) := fun pc ls H locs hd hn hP hD hS => ret_z hx hb hr hn hlocks hK hP hD hS hd
  generalize MQ below (Qi D ca r (wH ca B ar E σ9) A) ([.ref (B 0), .ref (E 0), .ref (E 1), .int a3, .int a4] : List Value).toArray s 0 0 A = Q at hret ⊢
  generalize ([.ref (B 0), .ref (E 0), .ref (E 1), .int a3, .int a4] : List Value).toArray = args at hts hret ⊢
  have J46 : ∀ (H : Heap) (locs : List Loc) (ls : Array Slot) (σ : HS) (l5 : Int32) (t0 : Int32), hh_isRemoved_46  σ l5 t0 = some (r, σ9) → va_P D vwCl (wH ca B ar E σ) H → va_D A (wH ca B ar E σ) → va_S A s.heap H locs → lv_has ls 7 [(2, .ref (E 1)), (5, .int l5)] → W p l e { frames := 5, cells := 0, slots := 0, locals := 119 } s m args below meth c H locs 0 0 Q (F0 m 46 ls [.int t0]) := by
    intro H locs ls σ l5 t0 hf hP hD hS hl
    unfold hh_isRemoved_46 at hf
    refine lv_istore (lv' := [(6, .int t0), (2, .ref (E 1)), (5, .int l5)]) hx hb dL_isRemoved_46 hl (by decide) rfl (fun ls hl => ?_)
    refine lv_iload hx hb dL_isRemoved_48 (lv_at hl 2 rfl) ?_
    refine lv_if_lt (tgt := 58) hx hb dL_isRemoved_50 (by decide) (fun c12 => ?_) (fun c12 => ?_)
    · replace hf := it_p c12 hf
      refine lv_iload hx hb dL_isRemoved_58 (lv_at hl 0 rfl) ?_
      obtain ⟨g13, hf⟩ := gn_ob hf
      obtain ⟨rfl, rfl⟩ := so2 hf
      exact hret _ _ _ _ dL_isRemoved_60 (nr_z g13) hP hD hS
    · replace hf := it_n c12 hf
      refine lv_aload_n hx hb dL_isRemoved_53 rfl (lv_at hl 1 rfl) ?_
      refine lv_iload hx hb dL_isRemoved_54 (lv_at hl 2 rfl) ?_
      refine lv_iconst (v := (-1)) hx hb dL_isRemoved_56 (by decide) ?_
      obtain ⟨g14, hf⟩ := gd_ob hf
      obtain ⟨s15, es15, hf⟩ := nm_ob hf
      refine va_iast hx hb hK hP hD hS 21 0 rfl rfl g14 dL_isRemoved_57 (fun H locs hP hD hS => ?_)
      have hP : va_P D vwCl (wH ca B ar E s15) H := by rw [← es15]; exact hP
      have hD : va_D A (wH ca B ar E s15) := by rw [← es15]; exact hD
      refine lv_iload hx hb dL_isRemoved_58 (lv_at hl 0 rfl) ?_
      obtain ⟨g16, hf⟩ := gn_ob hf
      obtain ⟨rfl, rfl⟩ := so2 hf
      exact hret _ _ _ _ dL_isRemoved_60 (nr_z g16) hP hD hS
  have J28 : ∀ (H : Heap) (locs : List Loc) (ls : Array Slot) (σ : HS) (l4 : Int32) (l5 : Int32) (t0 : Int32) (t1 : Int32), hh_isRemoved_28  σ l4 l5 t0 t1 = some (r, σ9) → va_P D vwCl (wH ca B ar E σ) H → va_D A (wH ca B ar E σ) → va_S A s.heap H locs → lv_has ls 7 [(0, .ref (B 0)), (2, .ref (E 1)), (4, .int l4), (5, .int l5)] → W p l e { frames := 5, cells := 0, slots := 0, locals := 119 } s m args below meth c H locs 0 0 Q (F0 m 28 ls [.int t1, .int t0]) := by
    intro H locs ls σ l4 l5 t0 t1 hf hP hD hS hl
    unfold hh_isRemoved_28 at hf
    refine lv_icmp_ne (tgt := 45) hx hb dL_isRemoved_28 (by decide) (fun c7 => ?_) (fun c7 => ?_)
    · replace hf := it_n c7 hf
      refine lv_iconst (v := 0) hx hb dL_isRemoved_45 (by decide) ?_
      exact J46 _ _ _ _ _ _ hf hP hD hS (lv_sub hl [1, 3] rfl)
    · replace hf := it_p c7 hf
      refine lv_aload_n hx hb dL_isRemoved_31 rfl (lv_at hl 0 rfl) ?_
      refine lv_iload hx hb dL_isRemoved_32 (lv_at hl 2 rfl) ?_
      obtain ⟨v8, s9, ev8, hf⟩ := bd2_ob hf
      refine call_i (As := [.int l4]) (rest := []) ⟨hx, hb, hml, hown, hts⟩ (tX4_get l D ca B ar _ (hs_x σ) l4 v8 s9 ev8) (cwV 1 hts gL_isRemoved_X4_get rfl rfl rfl (by decide +kernel) ⟨Nat.le_of_ble_eq_true rfl, Nat.le_of_ble_eq_true rfl⟩) hN hK hP hD hA hS (fr_HR ca B ar E σ s9) rfl rfl rfl hl.1 rfl (lv_room (Nat.le_of_ble_eq_true rfl)) dL_isRemoved_34 ⟨Nat.le_refl _, Nat.le_refl _⟩ (fun H locs hP hD hS => ?_)
      obtain ⟨s10, es10, hf⟩ := nm_ob hf
      have hP : va_P D vwCl (wH ca B ar E s10) H := by rw [← es10]; exact hP
      have hD : va_D A (wH ca B ar E s10) := by rw [← es10]; exact hD
      refine lv_iconst (v := (-1)) hx hb dL_isRemoved_37 (by decide) ?_
      refine lv_icmp_ne (tgt := 45) hx hb dL_isRemoved_38 (by decide) (fun c11 => ?_) (fun c11 => ?_)
      · replace hf := it_n c11 hf
        refine lv_iconst (v := 0) hx hb dL_isRemoved_45 (by decide) ?_
        exact J46 _ _ _ _ _ _ hf hP hD hS (lv_sub hl [1, 3] rfl)
      · replace hf := it_p c11 hf
        refine lv_iconst (v := 1) hx hb dL_isRemoved_41 (by decide) ?_
        refine lv_goto (tgt := 46) hx hb dL_isRemoved_42 (by decide) ?_
        exact J46 _ _ _ _ _ _ hf hP hD hS (lv_sub hl [1, 3] rfl)
  unfold hh_isRemoved at hf
  refine lv_aload_n hx hb dL_isRemoved_0 rfl (lv_at hl 1 rfl) ?_
  refine lv_iload_n hx hb dL_isRemoved_1 rfl (lv_at hl 3 rfl) ?_
  refine lv_iload hx hb dL_isRemoved_2 (lv_at hl 4 rfl) ?_
  obtain ⟨v1, ev1, hf⟩ := bd_ob hf
  refine call_si (As := [.ref (E 0), .int a3, .int a4]) (rest := []) ⟨hx, hb, hml, hown, hts⟩ (tL_placeOf l D ca (E 0) _ (hs_k σ) a3 a4 v1 ev1) (va_cwS 3 hts gL_isRemoved_L_placeOf rfl rfl rfl (by decide +kernel) ⟨Nat.le_of_ble_eq_true rfl, Nat.le_of_ble_eq_true rfl⟩) hN hK hP hD hA hS (fr_Hk ca B ar E σ) rfl hl.1 rfl (lv_room (Nat.le_of_ble_eq_true rfl)) dL_isRemoved_4 ⟨Nat.le_refl _, Nat.le_refl _⟩ (fun H locs hP hD hS => ?_)
  refine lv_istore (lv' := [(5, .int v1), (0, .ref (B 0)), (1, .ref (E 0)), (2, .ref (E 1)), (3, .int a3), (4, .int a4)]) hx hb dL_isRemoved_7 hl (by decide) rfl (fun ls hl => ?_)
  refine lv_aload_n hx hb dL_isRemoved_9 rfl (lv_at hl 1 rfl) ?_
  refine lv_iload hx hb dL_isRemoved_10 (lv_at hl 5 rfl) ?_
  obtain ⟨v2, s3, ev2, hf⟩ := bd2_ob hf
  refine call_i (As := [.int a4]) (rest := []) ⟨hx, hb, hml, hown, hts⟩ (tX4_remove l D ca B ar _ (hs_x σ) a4 v2 s3 ev2) (cwV 1 hts gL_isRemoved_X4_remove rfl rfl rfl (by decide +kernel) ⟨Nat.le_of_ble_eq_true rfl, Nat.le_of_ble_eq_true rfl⟩) hN hK hP hD hA hS (fr_HR ca B ar E σ s3) rfl rfl rfl hl.1 rfl (lv_room (Nat.le_of_ble_eq_true rfl)) dL_isRemoved_12 ⟨Nat.le_refl _, Nat.le_refl _⟩ (fun H locs hP hD hS => ?_)
  obtain ⟨s4, es4, hf⟩ := nm_ob hf
  have hP : va_P D vwCl (wH ca B ar E s4) H := by rw [← es4]; exact hP
  have hD : va_D A (wH ca B ar E s4) := by rw [← es4]; exact hD
  refine lv_iload hx hb dL_isRemoved_15 (lv_at hl 0 rfl) ?_
  refine lv_if_ge (tgt := 24) hx hb dL_isRemoved_17 (by decide) (fun c5 => ?_) (fun c5 => ?_)
  · replace hf := it_p c5 hf
    refine lv_aload_n hx hb dL_isRemoved_24 rfl (lv_at hl 3 rfl) ?_
    refine lv_iload hx hb dL_isRemoved_25 (lv_at hl 0 rfl) ?_
    obtain ⟨g6, hf⟩ := gd_ob hf
    refine va_iald hx hb hK hP 21 0 rfl rfl g6 dL_isRemoved_27 ?_
    exact J28 _ _ _ _ _ _ _ _ hf hP hD hS (lv_sub hl [1, 3, 5, 0] rfl)
  · replace hf := it_n c5 hf
    refine lv_iconst (v := (-1)) hx hb dL_isRemoved_20 (by decide) ?_
    refine lv_goto (tgt := 28) hx hb dL_isRemoved_21 (by decide) ?_
    exact J28 _ _ _ _ _ _ _ _ hf hP hD hS (lv_sub hl [1, 3, 5, 0] rfl)

def hh_isSo_147   (σ : HS) (l4 : Int32) (l7 : Int32) (t0 : Int32) : Option (Int32 × HS) :=
  if l7 = 0 then
    some (0, σ)
  else
    bd2 (rr_get (hs_x σ) l4) fun v33 s34 =>
    nm (hs_x' σ s34) fun s35 =>
    if v33 = t0 then
      bd2 (rr_groups (hs_x s35) l4) fun v37 s38 =>
      nm (hs_x' s35 s38) fun s39 =>
      if v37 < 1 then
        some (0, s39)
      else
        if t0 < 0 then
          some (1, s39)
        else
          bd2 (rr_comparisons (hs_x s39) l4) fun v42 s43 =>
          nm (hs_x' s39 s43) fun s44 =>
          if v42 < 1 then
            some (0, s44)
          else
            some (1, s44)
    else
      some (0, s35)
def hh_isSo_123   (σ : HS) (l3 : Int32) (l4 : Int32) (t0 : Int32) : Option (Int32 × HS) :=
  bd (hh_placeOf (hs_k σ) l3 l4) fun v29 =>
  if 0 ≤ v29 then
    gd v29 64 <|
    hh_isSo_147 σ l4 t0 (hs_v σ v29.toNatClampNeg)
  else
    hh_isSo_147 σ l4 t0 (-1)
def hh_isSo_57   (σ : HS) (l3 : Int32) (l4 : Int32) (l6 : Int32) (t0 : Int32) : Option (Int32 × HS) :=
  if t0 = 0 then
    hh_isSo_123 σ l3 l4 0
  else
    bd (rr_longest (hs_x σ)) fun v10 =>
    bd (rr_slots (hs_x σ) 0) fun v11 =>
    if v11 ≤ v10 then
      hh_isSo_123 σ l3 l4 0
    else
      if l6 = 0 then
        bd (rr_longest (hs_x σ)) fun v23 =>
        if v23 = (-1) then
          bd2 (rr_plainLongest (hs_x σ)) fun v25 s26 =>
          nm (hs_x' σ s26) fun s27 =>
          if v25 = (-1) then
            hh_isSo_123 s27 l3 l4 1
          else
            hh_isSo_123 s27 l3 l4 0
        else
          hh_isSo_123 σ l3 l4 0
      else
        bd2 (rr_plainTotal (hs_x σ)) fun v14 s15 =>
        nm (hs_x' σ s15) fun s16 =>
        if v14 < 0 then
          hh_isSo_123 s16 l3 l4 0
        else
          bd (rr_total (hs_x s16)) fun v18 =>
          bd2 (rr_plainTotal (hs_x s16)) fun v19 s20 =>
          nm (hs_x' s16 s20) fun s21 =>
          if v18 = v19 then
            hh_isSo_123 s21 l3 l4 1
          else
            hh_isSo_123 s21 l3 l4 0
def hh_isSo  (σ : HS) (a3 : Int32) (a4 : Int32) : Option (Int32 × HS) :=
  bd (hh_size (hs_v σ) a3) fun v1 =>
  bd (hh_keysOf (hs_x σ) 0) fun v2 =>
  bd (rr_size (hs_x σ)) fun v3 =>
  if v3 = v1 then
    bd (hh_keysOf (hs_x σ) 1) fun v5 =>
    if (v2 + v5) = v1 then
      bd (rr_slots (hs_x σ) 0) fun v7 =>
      if (7 * v7) < (8 * v1) then
        hh_isSo_57 σ a3 a4 v2 0
      else
        hh_isSo_57 σ a3 a4 v2 1
    else
      hh_isSo_57 σ a3 a4 v2 0
  else
    hh_isSo_57 σ a3 a4 v2 0
set_option maxHeartbeats 4000000 in
set_option maxRecDepth 100000 in
theorem tL_isSo (l : Launch) (D : va_G) (ca : Nat → ClassId) (B : Nat → Nat) (ar : Nat → Nat → Nat) (E : Nat → Nat) (sz : Nat)  (σ : HS) (a3 : Int32) (a4 : Int32) (r : Int32) (σ9 : HS) (hf : hh_isSo σ a3 a4 = some (r, σ9)) : Ci l D ca yL_isSo wsL_isSo { frames := 5, cells := 0, slots := 0, locals := 117 } [.ref (B 0), .ref (E 0), .ref (E 1), .int a3, .int a4] (wH ca B ar E σ) sz r (wH ca B ar E σ9) := by
  refine body_of (cc := cL_isSo) (maxL := 10) (ret := (some .boolean)) (fun A => Qi D ca r (wH ca B ar E σ9) A) (by decide) rfl (Nat.le_of_ble_eq_true rfl) ?_
  intro p e s m below meth c A ls hx hb hr hml hts hown hlocks hA hK hP hD hS hl hN
  have hl : lv_has ls 10 [(0, .ref (B 0)), (1, .ref (E 0)), (2, .ref (E 1)), (3, .int a3), (4, .int a4)] := hl
  have hret : ∀ (pc : Nat) (ls : Array Slot) (H : Heap) (locs : List Loc), decode cL_isSo pc = .ok (.ireturn, 1) → narrow .boolean (.int r) = .int r → va_P D vwCl (wH ca B ar E σ9) H → va_D A (wH ca B ar E σ9) → va_S A s.heap H locs → W p l e { frames := 5, cells := 0, slots := 0, locals := 117 } s m ([.ref (B 0), .ref (E 0), .ref (E 1), .int a3, .int a4] : List Value).toArray below meth c H locs 0 0 (MQ below (Qi D ca r (wH ca B ar E σ9) A) ([.ref (B 0), .ref (E 0), .ref (E 1), .int a3, .int a4] : List Value).toArray s 0 0 A) (F0 m pc ls [.int r]) := fun pc ls H locs hd hn hP hD hS => ret_z hx hb hr hn hlocks hK hP hD hS hd
  generalize MQ below (Qi D ca r (wH ca B ar E σ9) A) ([.ref (B 0), .ref (E 0), .ref (E 1), .int a3, .int a4] : List Value).toArray s 0 0 A = Q at hret ⊢
  generalize ([.ref (B 0), .ref (E 0), .ref (E 1), .int a3, .int a4] : List Value).toArray = args at hts hret ⊢
  have J147 : ∀ (H : Heap) (locs : List Loc) (ls : Array Slot) (σ : HS) (l4 : Int32) (l7 : Int32) (t0 : Int32), hh_isSo_147  σ l4 l7 t0 = some (r, σ9) → va_P D vwCl (wH ca B ar E σ) H → va_D A (wH ca B ar E σ) → va_S A s.heap H locs → lv_has ls 10 [(0, .ref (B 0)), (4, .int l4), (7, .int l7)] → W p l e { frames := 5, cells := 0, slots := 0, locals := 117 } s m args below meth c H locs 0 0 Q (F0 m 147 ls [.int t0]) := by
    intro H locs ls σ l4 l7 t0 hf hP hD hS hl
    unfold hh_isSo_147 at hf
    refine lv_istore (lv' := [(9, .int t0), (0, .ref (B 0)), (4, .int l4), (7, .int l7)]) hx hb dL_isSo_147 hl (by decide) rfl (fun ls hl => ?_)
    refine lv_iload hx hb dL_isSo_149 (lv_at hl 3 rfl) ?_
    refine lv_if_eq (tgt := 194) hx hb dL_isSo_151 (by decide) (fun c32 => ?_) (fun c32 => ?_)
    · replace hf := it_p c32 hf
      refine lv_iconst (v := 0) hx hb dL_isSo_194 (by decide) ?_
      obtain ⟨rfl, rfl⟩ := so2 hf
      exact hret _ _ _ _ dL_isSo_195 rfl hP hD hS
    · replace hf := it_n c32 hf
      refine lv_aload_n hx hb dL_isSo_154 rfl (lv_at hl 1 rfl) ?_
      refine lv_iload hx hb dL_isSo_155 (lv_at hl 2 rfl) ?_
      obtain ⟨v33, s34, ev33, hf⟩ := bd2_ob hf
      refine call_i (As := [.int l4]) (rest := []) ⟨hx, hb, hml, hown, hts⟩ (tX4_get l D ca B ar _ (hs_x σ) l4 v33 s34 ev33) (cwV 1 hts gL_isSo_X4_get rfl rfl rfl (by decide +kernel) ⟨Nat.le_of_ble_eq_true rfl, Nat.le_of_ble_eq_true rfl⟩) hN hK hP hD hA hS (fr_HR ca B ar E σ s34) rfl rfl rfl hl.1 rfl (lv_room (Nat.le_of_ble_eq_true rfl)) dL_isSo_157 ⟨Nat.le_refl _, Nat.le_refl _⟩ (fun H locs hP hD hS => ?_)
      obtain ⟨s35, es35, hf⟩ := nm_ob hf
      have hP : va_P D vwCl (wH ca B ar E s35) H := by rw [← es35]; exact hP
      have hD : va_D A (wH ca B ar E s35) := by rw [← es35]; exact hD
      refine lv_iload hx hb dL_isSo_160 (lv_at hl 0 rfl) ?_
      refine lv_icmp_ne (tgt := 194) hx hb dL_isSo_162 (by decide) (fun c36 => ?_) (fun c36 => ?_)
      · replace hf := it_n c36 hf
        refine lv_iconst (v := 0) hx hb dL_isSo_194 (by decide) ?_
        obtain ⟨rfl, rfl⟩ := so2 hf
        exact hret _ _ _ _ dL_isSo_195 rfl hP hD hS
      · replace hf := it_p c36 hf
        refine lv_aload_n hx hb dL_isSo_165 rfl (lv_at hl 1 rfl) ?_
        refine lv_iload hx hb dL_isSo_166 (lv_at hl 2 rfl) ?_
        obtain ⟨v37, s38, ev37, hf⟩ := bd2_ob hf
        refine call_i (As := [.int l4]) (rest := []) ⟨hx, hb, hml, hown, hts⟩ (tX4_groups l D ca B ar _ (hs_x s35) l4 v37 s38 ev37) (cwV 1 hts gL_isSo_X4_groups rfl rfl rfl (by decide +kernel) ⟨Nat.le_of_ble_eq_true rfl, Nat.le_of_ble_eq_true rfl⟩) hN hK hP hD hA hS (fr_HR ca B ar E s35 s38) rfl rfl rfl hl.1 rfl (lv_room (Nat.le_of_ble_eq_true rfl)) dL_isSo_168 ⟨Nat.le_refl _, Nat.le_refl _⟩ (fun H locs hP hD hS => ?_)
        obtain ⟨s39, es39, hf⟩ := nm_ob hf
        have hP : va_P D vwCl (wH ca B ar E s39) H := by rw [← es39]; exact hP
        have hD : va_D A (wH ca B ar E s39) := by rw [← es39]; exact hD
        refine lv_iconst (v := 1) hx hb dL_isSo_171 (by decide) ?_
        refine lv_icmp_lt (tgt := 194) hx hb dL_isSo_172 (by decide) (fun c40 => ?_) (fun c40 => ?_)
        · replace hf := it_p c40 hf
          refine lv_iconst (v := 0) hx hb dL_isSo_194 (by decide) ?_
          obtain ⟨rfl, rfl⟩ := so2 hf
          exact hret _ _ _ _ dL_isSo_195 rfl hP hD hS
        · replace hf := it_n c40 hf
          refine lv_iload hx hb dL_isSo_175 (lv_at hl 0 rfl) ?_
          refine lv_if_lt (tgt := 190) hx hb dL_isSo_177 (by decide) (fun c41 => ?_) (fun c41 => ?_)
          · replace hf := it_p c41 hf
            refine lv_iconst (v := 1) hx hb dL_isSo_190 (by decide) ?_
            refine lv_goto (tgt := 195) hx hb dL_isSo_191 (by decide) ?_
            obtain ⟨rfl, rfl⟩ := so2 hf
            exact hret _ _ _ _ dL_isSo_195 rfl hP hD hS
          · replace hf := it_n c41 hf
            refine lv_aload_n hx hb dL_isSo_180 rfl (lv_at hl 1 rfl) ?_
            refine lv_iload hx hb dL_isSo_181 (lv_at hl 2 rfl) ?_
            obtain ⟨v42, s43, ev42, hf⟩ := bd2_ob hf
            refine call_i (As := [.int l4]) (rest := []) ⟨hx, hb, hml, hown, hts⟩ (tX4_comparisons l D ca B ar _ (hs_x s39) l4 v42 s43 ev42) (cwV 1 hts gL_isSo_X4_comparisons rfl rfl rfl (by decide +kernel) ⟨Nat.le_of_ble_eq_true rfl, Nat.le_of_ble_eq_true rfl⟩) hN hK hP hD hA hS (fr_HR ca B ar E s39 s43) rfl rfl rfl hl.1 rfl (lv_room (Nat.le_of_ble_eq_true rfl)) dL_isSo_183 ⟨Nat.le_refl _, Nat.le_refl _⟩ (fun H locs hP hD hS => ?_)
            obtain ⟨s44, es44, hf⟩ := nm_ob hf
            have hP : va_P D vwCl (wH ca B ar E s44) H := by rw [← es44]; exact hP
            have hD : va_D A (wH ca B ar E s44) := by rw [← es44]; exact hD
            refine lv_iconst (v := 1) hx hb dL_isSo_186 (by decide) ?_
            refine lv_icmp_lt (tgt := 194) hx hb dL_isSo_187 (by decide) (fun c45 => ?_) (fun c45 => ?_)
            · replace hf := it_p c45 hf
              refine lv_iconst (v := 0) hx hb dL_isSo_194 (by decide) ?_
              obtain ⟨rfl, rfl⟩ := so2 hf
              exact hret _ _ _ _ dL_isSo_195 rfl hP hD hS
            · replace hf := it_n c45 hf
              refine lv_iconst (v := 1) hx hb dL_isSo_190 (by decide) ?_
              refine lv_goto (tgt := 195) hx hb dL_isSo_191 (by decide) ?_
              obtain ⟨rfl, rfl⟩ := so2 hf
              exact hret _ _ _ _ dL_isSo_195 rfl hP hD hS
  have J123 : ∀ (H : Heap) (locs : List Loc) (ls : Array Slot) (σ : HS) (l3 : Int32) (l4 : Int32) (t0 : Int32), hh_isSo_123  σ l3 l4 t0 = some (r, σ9) → va_P D vwCl (wH ca B ar E σ) H → va_D A (wH ca B ar E σ) → va_S A s.heap H locs → lv_has ls 10 [(0, .ref (B 0)), (1, .ref (E 0)), (2, .ref (E 1)), (3, .int l3), (4, .int l4)] → W p l e { frames := 5, cells := 0, slots := 0, locals := 117 } s m args below meth c H locs 0 0 Q (F0 m 123 ls [.int t0]) := by
    intro H locs ls σ l3 l4 t0 hf hP hD hS hl
    unfold hh_isSo_123 at hf
    refine lv_istore (lv' := [(7, .int t0), (0, .ref (B 0)), (1, .ref (E 0)), (2, .ref (E 1)), (3, .int l3), (4, .int l4)]) hx hb dL_isSo_123 hl (by decide) rfl (fun ls hl => ?_)
    refine lv_aload_n hx hb dL_isSo_125 rfl (lv_at hl 2 rfl) ?_
    refine lv_iload_n hx hb dL_isSo_126 rfl (lv_at hl 4 rfl) ?_
    refine lv_iload hx hb dL_isSo_127 (lv_at hl 5 rfl) ?_
    obtain ⟨v29, ev29, hf⟩ := bd_ob hf
    refine call_si (As := [.ref (E 0), .int l3, .int l4]) (rest := []) ⟨hx, hb, hml, hown, hts⟩ (tL_placeOf l D ca (E 0) _ (hs_k σ) l3 l4 v29 ev29) (va_cwS 3 hts gL_isSo_L_placeOf rfl rfl rfl (by decide +kernel) ⟨Nat.le_of_ble_eq_true rfl, Nat.le_of_ble_eq_true rfl⟩) hN hK hP hD hA hS (fr_Hk ca B ar E σ) rfl hl.1 rfl (lv_room (Nat.le_of_ble_eq_true rfl)) dL_isSo_129 ⟨Nat.le_refl _, Nat.le_refl _⟩ (fun H locs hP hD hS => ?_)
    refine lv_istore (lv' := [(8, .int v29), (7, .int t0), (0, .ref (B 0)), (1, .ref (E 0)), (2, .ref (E 1)), (3, .int l3), (4, .int l4)]) hx hb dL_isSo_132 hl (by decide) rfl (fun ls hl => ?_)
    refine lv_iload hx hb dL_isSo_134 (lv_at hl 0 rfl) ?_
    refine lv_if_ge (tgt := 143) hx hb dL_isSo_136 (by decide) (fun c30 => ?_) (fun c30 => ?_)
    · replace hf := it_p c30 hf
      refine lv_aload_n hx hb dL_isSo_143 rfl (lv_at hl 4 rfl) ?_
      refine lv_iload hx hb dL_isSo_144 (lv_at hl 0 rfl) ?_
      obtain ⟨g31, hf⟩ := gd_ob hf
      refine va_iald hx hb hK hP 21 0 rfl rfl g31 dL_isSo_146 ?_
      exact J147 _ _ _ _ _ _ _ hf hP hD hS (lv_sub hl [2, 6, 1] rfl)
    · replace hf := it_n c30 hf
      refine lv_iconst (v := (-1)) hx hb dL_isSo_139 (by decide) ?_
      refine lv_goto (tgt := 147) hx hb dL_isSo_140 (by decide) ?_
      exact J147 _ _ _ _ _ _ _ hf hP hD hS (lv_sub hl [2, 6, 1] rfl)
  have J57 : ∀ (H : Heap) (locs : List Loc) (ls : Array Slot) (σ : HS) (l3 : Int32) (l4 : Int32) (l6 : Int32) (t0 : Int32), hh_isSo_57  σ l3 l4 l6 t0 = some (r, σ9) → va_P D vwCl (wH ca B ar E σ) H → va_D A (wH ca B ar E σ) → va_S A s.heap H locs → lv_has ls 10 [(0, .ref (B 0)), (1, .ref (E 0)), (2, .ref (E 1)), (3, .int l3), (4, .int l4), (6, .int l6)] → W p l e { frames := 5, cells := 0, slots := 0, locals := 117 } s m args below meth c H locs 0 0 Q (F0 m 57 ls [.int t0]) := by
    intro H locs ls σ l3 l4 l6 t0 hf hP hD hS hl
    unfold hh_isSo_57 at hf
    refine lv_istore (lv' := [(7, .int t0), (0, .ref (B 0)), (1, .ref (E 0)), (2, .ref (E 1)), (3, .int l3), (4, .int l4), (6, .int l6)]) hx hb dL_isSo_57 hl (by decide) rfl (fun ls hl => ?_)
    refine lv_iload hx hb dL_isSo_59 (lv_at hl 0 rfl) ?_
    refine lv_if_eq (tgt := 122) hx hb dL_isSo_61 (by decide) (fun c9 => ?_) (fun c9 => ?_)
    · replace hf := it_p c9 hf
      refine lv_iconst (v := 0) hx hb dL_isSo_122 (by decide) ?_
      exact J123 _ _ _ _ _ _ _ hf hP hD hS (lv_sub hl [1, 2, 3, 4, 5] rfl)
    · replace hf := it_n c9 hf
      refine lv_aload_n hx hb dL_isSo_64 rfl (lv_at hl 1 rfl) ?_
      obtain ⟨v10, ev10, hf⟩ := bd_ob hf
      refine call_i (As := []) (rest := []) ⟨hx, hb, hml, hown, hts⟩ (tX4_longest l D ca B ar _ (hs_x σ) v10 ev10) (cwV 0 hts gL_isSo_X4_longest rfl rfl rfl (by decide +kernel) ⟨Nat.le_of_ble_eq_true rfl, Nat.le_of_ble_eq_true rfl⟩) hN hK hP hD hA hS (fr_HRp ca B ar E σ) rfl rfl rfl hl.1 rfl (lv_room (Nat.le_of_ble_eq_true rfl)) dL_isSo_65 ⟨Nat.le_refl _, Nat.le_refl _⟩ (fun H locs hP hD hS => ?_)
      refine lv_aload_n hx hb dL_isSo_68 rfl (lv_at hl 1 rfl) ?_
      refine lv_iconst (v := 0) hx hb dL_isSo_69 (by decide) ?_
      obtain ⟨v11, ev11, hf⟩ := bd_ob hf
      refine call_i (As := [.int 0]) (rest := [.int v10]) ⟨hx, hb, hml, hown, hts⟩ (tX4_slots l D ca B ar _ (hs_x σ) 0 v11 ev11) (cwV 1 hts gL_isSo_X4_slots rfl rfl rfl (by decide +kernel) ⟨Nat.le_of_ble_eq_true rfl, Nat.le_of_ble_eq_true rfl⟩) hN hK hP hD hA hS (fr_HRp ca B ar E σ) rfl rfl rfl hl.1 rfl (lv_room (Nat.le_of_ble_eq_true rfl)) dL_isSo_70 ⟨Nat.le_refl _, Nat.le_refl _⟩ (fun H locs hP hD hS => ?_)
      refine lv_icmp_ge (tgt := 122) hx hb dL_isSo_73 (by decide) (fun c12 => ?_) (fun c12 => ?_)
      · replace hf := it_p c12 hf
        refine lv_iconst (v := 0) hx hb dL_isSo_122 (by decide) ?_
        exact J123 _ _ _ _ _ _ _ hf hP hD hS (lv_sub hl [1, 2, 3, 4, 5] rfl)
      · replace hf := it_n c12 hf
        refine lv_iload hx hb dL_isSo_76 (lv_at hl 6 rfl) ?_
        refine lv_if_ne (tgt := 100) hx hb dL_isSo_78 (by decide) (fun c13 => ?_) (fun c13 => ?_)
        · replace hf := it_n c13 hf
          refine lv_aload_n hx hb dL_isSo_100 rfl (lv_at hl 1 rfl) ?_
          obtain ⟨v14, s15, ev14, hf⟩ := bd2_ob hf
          refine call_i (As := []) (rest := []) ⟨hx, hb, hml, hown, hts⟩ (tX4_plainTotal l D ca B ar _ (hs_x σ) v14 s15 ev14) (cwV 0 hts gL_isSo_X4_plainTotal rfl rfl rfl (by decide +kernel) ⟨Nat.le_of_ble_eq_true rfl, Nat.le_of_ble_eq_true rfl⟩) hN hK hP hD hA hS (fr_HR ca B ar E σ s15) rfl rfl rfl hl.1 rfl (lv_room (Nat.le_of_ble_eq_true rfl)) dL_isSo_101 ⟨Nat.le_refl _, Nat.le_refl _⟩ (fun H locs hP hD hS => ?_)
          obtain ⟨s16, es16, hf⟩ := nm_ob hf
          have hP : va_P D vwCl (wH ca B ar E s16) H := by rw [← es16]; exact hP
          have hD : va_D A (wH ca B ar E s16) := by rw [← es16]; exact hD
          refine lv_if_lt (tgt := 122) hx hb dL_isSo_104 (by decide) (fun c17 => ?_) (fun c17 => ?_)
          · replace hf := it_p c17 hf
            refine lv_iconst (v := 0) hx hb dL_isSo_122 (by decide) ?_
            exact J123 _ _ _ _ _ _ _ hf hP hD hS (lv_sub hl [1, 2, 3, 4, 5] rfl)
          · replace hf := it_n c17 hf
            refine lv_aload_n hx hb dL_isSo_107 rfl (lv_at hl 1 rfl) ?_
            obtain ⟨v18, ev18, hf⟩ := bd_ob hf
            refine call_i (As := []) (rest := []) ⟨hx, hb, hml, hown, hts⟩ (tX4_total l D ca B ar _ (hs_x s16) v18 ev18) (cwV 0 hts gL_isSo_X4_total rfl rfl rfl (by decide +kernel) ⟨Nat.le_of_ble_eq_true rfl, Nat.le_of_ble_eq_true rfl⟩) hN hK hP hD hA hS (fr_HRp ca B ar E s16) rfl rfl rfl hl.1 rfl (lv_room (Nat.le_of_ble_eq_true rfl)) dL_isSo_108 ⟨Nat.le_refl _, Nat.le_refl _⟩ (fun H locs hP hD hS => ?_)
            refine lv_aload_n hx hb dL_isSo_111 rfl (lv_at hl 1 rfl) ?_
            obtain ⟨v19, s20, ev19, hf⟩ := bd2_ob hf
            refine call_i (As := []) (rest := [.int v18]) ⟨hx, hb, hml, hown, hts⟩ (tX4_plainTotal l D ca B ar _ (hs_x s16) v19 s20 ev19) (cwV 0 hts gL_isSo_X4_plainTotal rfl rfl rfl (by decide +kernel) ⟨Nat.le_of_ble_eq_true rfl, Nat.le_of_ble_eq_true rfl⟩) hN hK hP hD hA hS (fr_HR ca B ar E s16 s20) rfl rfl rfl hl.1 rfl (lv_room (Nat.le_of_ble_eq_true rfl)) dL_isSo_112 ⟨Nat.le_refl _, Nat.le_refl _⟩ (fun H locs hP hD hS => ?_)
            obtain ⟨s21, es21, hf⟩ := nm_ob hf
            have hP : va_P D vwCl (wH ca B ar E s21) H := by rw [← es21]; exact hP
            have hD : va_D A (wH ca B ar E s21) := by rw [← es21]; exact hD
            refine lv_icmp_ne (tgt := 122) hx hb dL_isSo_115 (by decide) (fun c22 => ?_) (fun c22 => ?_)
            · replace hf := it_n c22 hf
              refine lv_iconst (v := 0) hx hb dL_isSo_122 (by decide) ?_
              exact J123 _ _ _ _ _ _ _ hf hP hD hS (lv_sub hl [1, 2, 3, 4, 5] rfl)
            · replace hf := it_p c22 hf
              refine lv_iconst (v := 1) hx hb dL_isSo_118 (by decide) ?_
              refine lv_goto (tgt := 123) hx hb dL_isSo_119 (by decide) ?_
              exact J123 _ _ _ _ _ _ _ hf hP hD hS (lv_sub hl [1, 2, 3, 4, 5] rfl)
        · replace hf := it_p c13 hf
          refine lv_aload_n hx hb dL_isSo_81 rfl (lv_at hl 1 rfl) ?_
          obtain ⟨v23, ev23, hf⟩ := bd_ob hf
          refine call_i (As := []) (rest := []) ⟨hx, hb, hml, hown, hts⟩ (tX4_longest l D ca B ar _ (hs_x σ) v23 ev23) (cwV 0 hts gL_isSo_X4_longest rfl rfl rfl (by decide +kernel) ⟨Nat.le_of_ble_eq_true rfl, Nat.le_of_ble_eq_true rfl⟩) hN hK hP hD hA hS (fr_HRp ca B ar E σ) rfl rfl rfl hl.1 rfl (lv_room (Nat.le_of_ble_eq_true rfl)) dL_isSo_82 ⟨Nat.le_refl _, Nat.le_refl _⟩ (fun H locs hP hD hS => ?_)
          refine lv_iconst (v := (-1)) hx hb dL_isSo_85 (by decide) ?_
          refine lv_icmp_ne (tgt := 122) hx hb dL_isSo_86 (by decide) (fun c24 => ?_) (fun c24 => ?_)
          · replace hf := it_n c24 hf
            refine lv_iconst (v := 0) hx hb dL_isSo_122 (by decide) ?_
            exact J123 _ _ _ _ _ _ _ hf hP hD hS (lv_sub hl [1, 2, 3, 4, 5] rfl)
          · replace hf := it_p c24 hf
            refine lv_aload_n hx hb dL_isSo_89 rfl (lv_at hl 1 rfl) ?_
            obtain ⟨v25, s26, ev25, hf⟩ := bd2_ob hf
            refine call_i (As := []) (rest := []) ⟨hx, hb, hml, hown, hts⟩ (tX4_plainLongest l D ca B ar _ (hs_x σ) v25 s26 ev25) (cwV 0 hts gL_isSo_X4_plainLongest rfl rfl rfl (by decide +kernel) ⟨Nat.le_of_ble_eq_true rfl, Nat.le_of_ble_eq_true rfl⟩) hN hK hP hD hA hS (fr_HR ca B ar E σ s26) rfl rfl rfl hl.1 rfl (lv_room (Nat.le_of_ble_eq_true rfl)) dL_isSo_90 ⟨Nat.le_refl _, Nat.le_refl _⟩ (fun H locs hP hD hS => ?_)
            obtain ⟨s27, es27, hf⟩ := nm_ob hf
            have hP : va_P D vwCl (wH ca B ar E s27) H := by rw [← es27]; exact hP
            have hD : va_D A (wH ca B ar E s27) := by rw [← es27]; exact hD
            refine lv_iconst (v := (-1)) hx hb dL_isSo_93 (by decide) ?_
            refine lv_icmp_ne (tgt := 122) hx hb dL_isSo_94 (by decide) (fun c28 => ?_) (fun c28 => ?_)
            · replace hf := it_n c28 hf
              refine lv_iconst (v := 0) hx hb dL_isSo_122 (by decide) ?_
              exact J123 _ _ _ _ _ _ _ hf hP hD hS (lv_sub hl [1, 2, 3, 4, 5] rfl)
            · replace hf := it_p c28 hf
              refine lv_goto (tgt := 118) hx hb dL_isSo_97 (by decide) ?_
              refine lv_iconst (v := 1) hx hb dL_isSo_118 (by decide) ?_
              refine lv_goto (tgt := 123) hx hb dL_isSo_119 (by decide) ?_
              exact J123 _ _ _ _ _ _ _ hf hP hD hS (lv_sub hl [1, 2, 3, 4, 5] rfl)
  unfold hh_isSo at hf
  refine lv_aload_n hx hb dL_isSo_0 rfl (lv_at hl 2 rfl) ?_
  refine lv_iload_n hx hb dL_isSo_1 rfl (lv_at hl 3 rfl) ?_
  obtain ⟨v1, ev1, hf⟩ := bd_ob hf
  refine call_si (As := [.ref (E 1), .int a3]) (rest := []) ⟨hx, hb, hml, hown, hts⟩ (tL_size l D ca (E 1) _ (hs_v σ) a3 v1 ev1) (va_cwS 2 hts gL_isSo_L_size rfl rfl rfl (by decide +kernel) ⟨Nat.le_of_ble_eq_true rfl, Nat.le_of_ble_eq_true rfl⟩) hN hK hP hD hA hS (fr_Hv ca B ar E σ) rfl hl.1 rfl (lv_room (Nat.le_of_ble_eq_true rfl)) dL_isSo_2 ⟨Nat.le_refl _, Nat.le_refl _⟩ (fun H locs hP hD hS => ?_)
  refine lv_istore (lv' := [(5, .int v1), (0, .ref (B 0)), (1, .ref (E 0)), (2, .ref (E 1)), (3, .int a3), (4, .int a4)]) hx hb dL_isSo_5 hl (by decide) rfl (fun ls hl => ?_)
  refine lv_aload_n hx hb dL_isSo_7 rfl (lv_at hl 1 rfl) ?_
  refine lv_iconst (v := 0) hx hb dL_isSo_8 (by decide) ?_
  obtain ⟨v2, ev2, hf⟩ := bd_ob hf
  refine call_si (As := [.ref (B 0), .int 0]) (rest := []) ⟨hx, hb, hml, hown, hts⟩ (tL_keysOf l D ca B ar _ (hs_x σ) 0 v2 ev2) (va_cwS 2 hts gL_isSo_L_keysOf rfl rfl rfl (by decide +kernel) ⟨Nat.le_of_ble_eq_true rfl, Nat.le_of_ble_eq_true rfl⟩) hN hK hP hD hA hS (fr_HRp ca B ar E σ) rfl hl.1 rfl (lv_room (Nat.le_of_ble_eq_true rfl)) dL_isSo_9 ⟨Nat.le_refl _, Nat.le_refl _⟩ (fun H locs hP hD hS => ?_)
  refine lv_istore (lv' := [(6, .int v2), (5, .int v1), (0, .ref (B 0)), (1, .ref (E 0)), (2, .ref (E 1)), (3, .int a3), (4, .int a4)]) hx hb dL_isSo_12 hl (by decide) rfl (fun ls hl => ?_)
  refine lv_aload_n hx hb dL_isSo_14 rfl (lv_at hl 2 rfl) ?_
  obtain ⟨v3, ev3, hf⟩ := bd_ob hf
  refine call_i (As := []) (rest := []) ⟨hx, hb, hml, hown, hts⟩ (tX4_size l D ca B ar _ (hs_x σ) v3 ev3) (cwV 0 hts gL_isSo_X4_size rfl rfl rfl (by decide +kernel) ⟨Nat.le_of_ble_eq_true rfl, Nat.le_of_ble_eq_true rfl⟩) hN hK hP hD hA hS (fr_HRp ca B ar E σ) rfl rfl rfl hl.1 rfl (lv_room (Nat.le_of_ble_eq_true rfl)) dL_isSo_15 ⟨Nat.le_refl _, Nat.le_refl _⟩ (fun H locs hP hD hS => ?_)
  refine lv_iload hx hb dL_isSo_18 (lv_at hl 1 rfl) ?_
  refine lv_icmp_ne (tgt := 56) hx hb dL_isSo_20 (by decide) (fun c4 => ?_) (fun c4 => ?_)
  · replace hf := it_n c4 hf
    refine lv_iconst (v := 0) hx hb dL_isSo_56 (by decide) ?_
    exact J57 _ _ _ _ _ _ _ _ hf hP hD hS (lv_sub hl [2, 3, 4, 5, 6, 0] rfl)
  · replace hf := it_p c4 hf
    refine lv_iload hx hb dL_isSo_23 (lv_at hl 0 rfl) ?_
    refine lv_aload_n hx hb dL_isSo_25 rfl (lv_at hl 2 rfl) ?_
    refine lv_iconst (v := 1) hx hb dL_isSo_26 (by decide) ?_
    obtain ⟨v5, ev5, hf⟩ := bd_ob hf
    refine call_si (As := [.ref (B 0), .int 1]) (rest := [.int v2]) ⟨hx, hb, hml, hown, hts⟩ (tL_keysOf l D ca B ar _ (hs_x σ) 1 v5 ev5) (va_cwS 2 hts gL_isSo_L_keysOf rfl rfl rfl (by decide +kernel) ⟨Nat.le_of_ble_eq_true rfl, Nat.le_of_ble_eq_true rfl⟩) hN hK hP hD hA hS (fr_HRp ca B ar E σ) rfl hl.1 rfl (lv_room (Nat.le_of_ble_eq_true rfl)) dL_isSo_27 ⟨Nat.le_refl _, Nat.le_refl _⟩ (fun H locs hP hD hS => ?_)
    refine lv_iadd hx hb dL_isSo_30 ?_
    refine lv_iload hx hb dL_isSo_31 (lv_at hl 1 rfl) ?_
    refine lv_icmp_ne (tgt := 56) hx hb dL_isSo_33 (by decide) (fun c6 => ?_) (fun c6 => ?_)
    · replace hf := it_n c6 hf
      refine lv_iconst (v := 0) hx hb dL_isSo_56 (by decide) ?_
      exact J57 _ _ _ _ _ _ _ _ hf hP hD hS (lv_sub hl [2, 3, 4, 5, 6, 0] rfl)
    · replace hf := it_p c6 hf
      refine lv_bipush (v := 8) hx hb dL_isSo_36 (by decide) ?_
      refine lv_iload hx hb dL_isSo_38 (lv_at hl 1 rfl) ?_
      refine lv_imul hx hb dL_isSo_40 ?_
      refine lv_bipush (v := 7) hx hb dL_isSo_41 (by decide) ?_
      refine lv_aload_n hx hb dL_isSo_43 rfl (lv_at hl 2 rfl) ?_
      refine lv_iconst (v := 0) hx hb dL_isSo_44 (by decide) ?_
      obtain ⟨v7, ev7, hf⟩ := bd_ob hf
      refine call_i (As := [.int 0]) (rest := [.int 7, .int (8 * v1)]) ⟨hx, hb, hml, hown, hts⟩ (tX4_slots l D ca B ar _ (hs_x σ) 0 v7 ev7) (cwV 1 hts gL_isSo_X4_slots rfl rfl rfl (by decide +kernel) ⟨Nat.le_of_ble_eq_true rfl, Nat.le_of_ble_eq_true rfl⟩) hN hK hP hD hA hS (fr_HRp ca B ar E σ) rfl rfl rfl hl.1 rfl (lv_room (Nat.le_of_ble_eq_true rfl)) dL_isSo_45 ⟨Nat.le_refl _, Nat.le_refl _⟩ (fun H locs hP hD hS => ?_)
      refine lv_imul hx hb dL_isSo_48 ?_
      refine lv_icmp_gt (tgt := 56) hx hb dL_isSo_49 (by decide) (fun c8 => ?_) (fun c8 => ?_)
      · replace hf := it_p c8 hf
        refine lv_iconst (v := 0) hx hb dL_isSo_56 (by decide) ?_
        exact J57 _ _ _ _ _ _ _ _ hf hP hD hS (lv_sub hl [2, 3, 4, 5, 6, 0] rfl)
      · replace hf := it_n c8 hf
        refine lv_iconst (v := 1) hx hb dL_isSo_52 (by decide) ?_
        refine lv_goto (tgt := 57) hx hb dL_isSo_53 (by decide) ?_
        exact J57 _ _ _ _ _ _ _ _ hf hP hD hS (lv_sub hl [2, 3, 4, 5, 6, 0] rfl)
end
section
/-! THE CLAIM OUT OF ONE WALK OF THE LAW'S BODY. Your part is whole_start (and what it stands on); all else here is the same for every law, but numbers. -/
def R_law : String := "RobinRowLaw"
def lw_P (b : Addr) (xs : List Int32) (args : Array Value) (s : State) : Prop := args = #[.ref b] ∧ s.IntsAt b xs ∧ xs.length ≤ 260 ∧ (Jvm.Cond.and given_1 narrow_1).before args s = true
def lw_Q (_ : Array Value) (s : State) (o : Outcome) (t : State) : Prop := o = .returned (some (.int 1)) ∧ Framed s o t [] 600172 7300668
def lw_Z (below : List Frame) (a : Array Value) (s : State) : State → Prop := fun t => ∃ o, t.status = .running ∧ Ended t below o ∧ lw_Q a s o t
/-- the law's own end, with 1 on the stack, nothing written that was there before, its room as the claim has it -/
theorem lw_ret {p : Program} {l : Launch} {e : Env} {s : State} {m : MethodId} {below : List Frame} {meth : Method} {c : Code} {b : Nat} (hx : p.tables.exec = Jvm.exec) (hb : c.code = code) (hr : meth.sig.returnType = ret) (hlocks : meth.locks = false) {pc : Nat} {H : Heap} {ls : Array Slot} (hdg : decode code pc = .ok (.ireturn, 1)) : W p l e room_1 s m #[Value.ref b] below meth c H [] 600172 7300668 (lw_Z below #[Value.ref b] s) (F0 m pc ls [.int 1]) := by
  intro T hT X
  obtain ⟨fs, hret, hrun, hended, hW, hframe⟩ := X.leave (v := some (.int 1)) (hlocks := hlocks) (fun h => by rw [hr] at h; cases h)
  have hmeth' : T.vm.method? m = some meth := X.method'
  refine ⟨T.setFrames fs, ?_, .returned (some (.int 1)), hrun, hended, rfl, ⟨_, rfl⟩, hW, hframe⟩
  jvm_step X.here [X.here.top, hx, hb, hdg, hmeth', hr, ret, narrow_b1]
  (try refine ⟨rfl, ?_⟩); (try refine ⟨rfl, ?_⟩)
  first | (intro acts; rw [hret _ acts rfl rfl rfl]) | rw [hret _ _ rfl rfl rfl]
  exact Steps.refl _
/-- what holds at the law's entry: the machine, the code, the tables' words (any of lw_tbl by 'hts w (by decide +kernel)'), the script of L ints xs at the cell b, what the Statement gives of the start (any of its parts by flat_of_before) -/
def lw_At (p : Program) (s : State) (m : MethodId) (meth : Method) (c : Code) (b L : Nat) (xs : Nat → Int32) : Prop :=
  p.tables.exec = Jvm.exec ∧ c.code = code ∧ meth.sig.returnType = ret ∧ c.maxLocals = 11 ∧ s.vm.findClass R_law = some m.cls ∧ (∀ w ∈ lw_tbl, w.before #[Value.ref b] s = true) ∧ va_X b L xs s s.heap ∧ b < s.heap.size ∧ meth.locks = false ∧ (Jvm.Cond.and given_1 narrow_1).before #[Value.ref b] s = true
end
section
/-! a script's number, or what stands for it behind its end -/
def jj_drawn (xs : Nat → Int32) (L : Nat) (k : Int32) : Option Int32 :=
  if (Int32.ofNat L) ≤ k then some ((29989 * (k + 3)) * (k + 17)) else gd k L (some (xs k.toNatClampNeg))
def Cd (l : Launch) (D : va_G) (ca : Nat → ClassId) (y : MethodName) (wy : List Cond) (rm : Room) (av : List Value) (b L : Nat) (xs : Nat → Int32) (sz : Nat) (r : Int32) : Prop := Met l y wy rm (va_Pc av (fun U => Pw D ca [] sz U ∧ va_X b L xs U U.heap ∧ b < sz)) (Qi D ca r [] (va_A [] sz)) 0 0 (va_A [] sz)
theorem Pd_blind {D : va_G} {ca : Nat → ClassId} {sz b L : Nat} {xs : Nat → Int32} {av : List Value} : FrameBlind (va_Pc av (fun U => Pw D ca [] sz U ∧ va_X b L xs U U.heap ∧ b < sz)) := by
  intro a U g mk q
  obtain ⟨q0, q1, qX, qb⟩ := q
  have h := Pw_blind (av := av) a U g mk ⟨q0, q1⟩
  exact ⟨h.1, h.2, va_X.moved (u := U) (U := U.calling g mk a) (Vm.Alike.refl U.vm) qX, qb⟩
set_option maxHeartbeats 4000000 in
set_option maxRecDepth 100000 in
theorem tL_drawn (l : Launch) (D : va_G) (ca : Nat → ClassId) (b L : Nat) (xs : Nat → Int32) (sz : Nat) (a1 r : Int32) (hf : jj_drawn xs L a1 = some r) : Cd l D ca yL_drawn wsL_drawn { frames := 0, cells := 0, slots := 0, locals := 0 } [.ref b, .int a1] b L xs sz r := by
  refine Met.ofW (cc := cL_drawn) (maxL := 2) (ret := some .int) (by decide) rfl ?_
  intro p e s m args below meth c s₁ B hml hv
  obtain ⟨rfl, ⟨hsz, hP, hK, hD0, hN⟩, hXs, hbl⟩ := hv
  subst hsz
  have hD := hD0.self (sz := s.heap.size)
  rw [lg_entry_eq]
  have hA : ∀ q : Nat, s.heap.size ≤ q → va_A [] s.heap.size q := fun q h => Or.inr h
  have hbA : ¬ va_A [] s.heap.size b := by
    rintro (⟨k, e9, h⟩ | h)
    · simp at h
    · exact absurd hbl (Nat.not_lt.mpr h)
  have hx := B.exec
  have hb := B.bytes
  have hr := B.returns
  have hlocks := B.notSynchronized
  have hS : va_S (va_A [] s.heap.size) s.heap s.heap [] := va_S.rf
  have hl := lv_entry ([.ref b, .int a1]) (n := 2) (Nat.le_of_ble_eq_true rfl)
  generalize (lg_sl ([.ref b, .int a1]) ++ List.replicate (2 - (lg_sl ([.ref b, .int a1])).length) Slot.unset).toArray = ls at hl ⊢
  have hl : lv_has ls 2 [(0, .ref b), (1, .int a1)] := hl
  have hret : ∀ (pc : Nat) (ls : Array Slot), decode cL_drawn pc = .ok (.ireturn, 1) → W p l e ({ frames := 0, cells := 0, slots := 0, locals := 0 } : Room) s m ([.ref b, .int a1] : List Value).toArray below meth c s.heap [] 0 0 (MQ below (Qi D ca r [] (va_A [] s.heap.size)) ([.ref b, .int a1] : List Value).toArray s 0 0 (va_A [] s.heap.size)) (F0 m pc ls [.int r]) := fun pc ls hd => ret_i hx hb hr hlocks hK hP hD hS hd
  unfold jj_drawn at hf
  refine lv_iload_n hx hb dL_drawn_0 rfl (lv_at hl 1 rfl) ?_
  refine lv_aload_n hx hb dL_drawn_1 rfl (lv_at hl 0 rfl) ?_
  refine va_slen hx hb hXs hbl hbA hS dL_drawn_2 ?_
  refine lv_icmp_ge (tgt := 12) hx hb dL_drawn_3 (by decide) (fun c1 => ?_) (fun c1 => ?_)
  · replace hf := it_p c1 hf
    obtain rfl := so1 hf
    refine lv_sipush (v := 29989) hx hb dL_drawn_12 (by decide) ?_
    refine lv_iload_n hx hb dL_drawn_15 rfl (lv_at hl 1 rfl) ?_
    refine lv_iconst (v := 3) hx hb dL_drawn_16 (by decide) ?_
    refine lv_iadd hx hb dL_drawn_17 ?_
    refine lv_imul hx hb dL_drawn_18 ?_
    refine lv_iload_n hx hb dL_drawn_19 rfl (lv_at hl 1 rfl) ?_
    refine lv_bipush (v := 17) hx hb dL_drawn_20 (by decide) ?_
    refine lv_iadd hx hb dL_drawn_22 ?_
    refine lv_imul hx hb dL_drawn_23 ?_
    exact hret _ _ dL_drawn_24
  · replace hf := it_n c1 hf
    obtain ⟨g1, hf⟩ := gd_ob hf
    obtain rfl := so1 hf
    refine lv_aload_n hx hb dL_drawn_6 rfl (lv_at hl 0 rfl) ?_
    refine lv_iload_n hx hb dL_drawn_7 rfl (lv_at hl 1 rfl) ?_
    refine va_sld hx hb hXs hbl hbA hS g1 dL_drawn_8 ?_
    refine lv_goto (tgt := 24) hx hb dL_drawn_9 (by decide) ?_
    exact hret _ _ dL_drawn_24
section CD
variable {p : Program} {l : Launch} {e : Env} {R : Room} {s : State} {m : MethodId} {args : Array Value} {below : List Frame} {meth : Method} {c : Code} {H : Heap} {locs : List Loc} {cells slots : Nat} {Q : State → Prop} {D : va_G} {ca : Nat → ClassId} {A : Nat → Prop} {ws : va_W} {cc bytes : ByteArray} {pc nL maxL index n : Nat} {ls : Array Slot} {st0 rest As : List Value} {Ts wy : List Cond} {own : String} {y : MethodName} {ret : Option FieldType} {rm : Room}
theorem call_d {r : Int32} {b L : Nat} {xs : Nat → Int32} (hXs : va_X b L xs s s.heap) (hbl : b < s.heap.size) (hbA : ¬ A b) (S : CallFix p m c cc nL s args Ts own) (hM : Cd l D ca y wy rm As b L xs H.size r) (cw : CallB R s args own index y bytes maxL ret wy rm 0 0 n ∧ (Cond.static y).before args s = true) (hN : NX s) (hK : va_K D vwCl (vt ca) s) (hP : va_P D vwCl ws H) (hD : va_D A ws) (hA : ∀ q : Nat, s.heap.size ≤ q → A q) (hS : va_S A s.heap H locs) (hn : As.length = n) (hsize : ls.size = nL) (hst : st0 = As.reverse ++ rest) (hW : 2 * (F0 m pc ls st0).monitorRoom + (rest.map fun v => v.category).sum ≤ 8) (hdg : decode cc pc = .ok (.invokestatic index, 3)) (hf : cells + 0 ≤ R.cells ∧ slots + 0 ≤ R.slots)
    (kk : ∀ (H1 : Heap) (locs1 : List Loc), va_P D vwCl ws H1 → va_D A ws → va_S A s.heap H1 locs1 → W p l e R s m args below meth c H1 locs1 cells slots Q (F0 m (pc + 3) ls (.int r :: rest))) : W p l e R s m args below meth c H locs cells slots Q (F0 m pc ls st0) := by
  obtain ⟨hPc, hDc, hFc, hback⟩ := (fr_no ws).use hP hD hS hA
  have hX1 : va_X b L xs s H := hXs.kept (hS.2.1 b hbl hbA)
  have hb1 : b < H.size := Nat.lt_of_lt_of_le hbl hS.1
  have hpre : PreS s H (va_Pc As (fun U => Pw D ca [] H.size U ∧ va_X b L xs U U.heap ∧ b < H.size)) As :=
    ⟨Pd_blind, fun U hU hW => ⟨rfl, ⟨by rw [hU], by rw [hU]; exact hPc, va_K.moved hW.alike hK, hDc.weaken (fun _ _ _ _ => trivial), hN.warm hW⟩, by rw [hU]; exact va_X.moved hW.alike hX1, hb1⟩⟩
  refine va_calli (va_runS (As := As) (rest := rest) S hM cw hpre rfl hn hsize hst hW hdg hf) hS (fun q _ h => hFc q h) hFc (fun r1 u t H1 locs1 ht hvm hw hB hz1 hk1 hS1 => ?_)
  obtain ⟨hP1, hK1, hD1⟩ := hB
  rw [ht] at hP1
  obtain ⟨a1, a2⟩ := hback H1 hk1 hP1 hD1
  obtain rfl : r1 = r := hw
  exact kk H1 locs1 a1 a2 hS1
end CD
def zz_law_278 (xs : Nat → Int32) (L : Nat) (k43 : HS → Int32 → Option Int32) (σ : HS) (l5 : Int32) (l7 : Int32) (l8 : Int32) : Option Int32 :=
  if l8 = 0 then
    some 0
  else
    gd 0 1 <|
    bd2 (hh_isSo σ (hs_n σ (0 : Int32).toNatClampNeg) l7) fun v36 s37 =>
    if v36 = 0 then
      some 0
    else
      nm (l5 + 1) fun v39 =>
      k43 s37 v39
def zz_law_276 (xs : Nat → Int32) (L : Nat) (k43 : HS → Int32 → Option Int32) (σ : HS) (l5 : Int32) (l7 : Int32) (t0 : Int32) : Option Int32 :=
  zz_law_278 xs L k43 σ l5 l7 t0
def zz_law_268 (xs : Nat → Int32) (L : Nat) (k43 : HS → Int32 → Option Int32) (σ : HS) (l5 : Int32) (l7 : Int32) (t0 : Int32) (t1 : Int32) : Option Int32 :=
  if t0 = t1 then
    zz_law_276 xs L k43 σ l5 l7 1
  else
    zz_law_276 xs L k43 σ l5 l7 0
def zz_law_255 (xs : Nat → Int32) (L : Nat) (k43 : HS → Int32 → Option Int32) (σ : HS) (l5 : Int32) (l7 : Int32) (t0 : Int32) : Option Int32 :=
  bd (rr_keysIn (hs_x σ) 1) fun v45 =>
  if v45 = 0 then
    zz_law_268 xs L k43 σ l5 l7 t0 1
  else
    zz_law_268 xs L k43 σ l5 l7 t0 0
def zz_law_226 (xs : Nat → Int32) (L : Nat) (k43 : HS → Int32 → Option Int32) (σ : HS) (l5 : Int32) (l7 : Int32) (l9 : Int32) (l10 : Int32) (t0 : Int32) (t1 : Int32) : Option Int32 :=
  if t0 = t1 then
    bd (rr_keysIn (hs_x σ) 1) fun v41 =>
    if v41 = (l9 - l10) then
      bd (rr_slots (hs_x σ) 1) fun v43 =>
      if v43 = 0 then
        zz_law_255 xs L k43 σ l5 l7 1
      else
        zz_law_255 xs L k43 σ l5 l7 0
    else
      zz_law_276 xs L k43 σ l5 l7 0
  else
    zz_law_276 xs L k43 σ l5 l7 0
def zz_law_172 (xs : Nat → Int32) (L : Nat) (k43 : HS → Int32 → Option Int32) (σ : HS) (l5 : Int32) (l6 : Int32) (l7 : Int32) : Option Int32 :=
  if (l6 &&& 14) = 12 then
    gd 0 1 <|
    bd2 (hh_isRemoved σ (hs_n σ (0 : Int32).toNatClampNeg) l7) fun v32 s33 =>
    zz_law_278 xs L k43 s33 l5 l7 v32
  else
    bd (rr_keysIn (hs_x σ) 1) fun v26 =>
    bd2 (rr_move (hs_x σ)) fun v27 s28 =>
    nm (hs_x' σ s28) fun s29 =>
    if 4 ≤ v26 then
      zz_law_226 xs L k43 s29 l5 l7 v26 v27 v27 4
    else
      zz_law_226 xs L k43 s29 l5 l7 v26 v27 v27 v26
def zz_law_88 (xs : Nat → Int32) (L : Nat) (k43 : HS → Int32 → Option Int32) (σ : HS) (l5 : Int32) (l6 : Int32) (t0 : Int32) : Option Int32 :=
  if 10 ≤ (l6 &&& 14) then
    if (l6 &&& 14) = 10 then
      gd 0 1 <|
      if (hs_n σ (0 : Int32).toNatClampNeg) ≤ 0 then
        zz_law_172 xs L k43 σ l5 l6 t0
      else
        gd 0 1 <|
        gd 0 1 <|
        bd (jj_low (l6 >>> (4 &&& 31)) (hs_n σ (0 : Int32).toNatClampNeg)) fun v18 =>
        gd v18 64 <|
        bd2 (hh_isRemoved σ (hs_n σ (0 : Int32).toNatClampNeg) (hs_k σ v18.toNatClampNeg)) fun v20 s21 =>
        zz_law_278 xs L k43 s21 l5 t0 v20
    else
      zz_law_172 xs L k43 σ l5 l6 t0
  else
    bd (jj_low (l6 >>> (4 &&& 31)) 1000000) fun v22 =>
    bd2 (hh_isPut σ t0 v22) fun v23 s24 =>
    zz_law_278 xs L k43 s24 l5 t0 v23
def zz_law_43 (xs : Nat → Int32) (L : Nat) (k43 : HS → Int32 → Option Int32) (σ : HS) (l5 : Int32) : Option Int32 :=
  if 60 ≤ l5 then
    some 1
  else
    bd (jj_drawn xs L l5) fun v8 =>
    if (v8 &&& 1) = 0 then
      bd (jj_low (v8 >>> (1 &&& 31)) 40) fun v11 =>
      zz_law_88 xs L k43 σ l5 v8 (v11 - 8)
    else
      bd (jj_drawn xs L (l5 + 5)) fun v10 =>
      zz_law_88 xs L k43 σ l5 v8 v10
def zz_law_lp43 (xs : Nat → Int32) (L : Nat) : Nat → HS → Int32 → Option Int32 := itF (fun _ _ => none) (fun k => zz_law_43 xs L k)
def zz_law_40 (xs : Nat → Int32) (L : Nat)  (σ : HS)  : Option Int32 :=
  zz_law_lp43 xs L FU σ 1
def zz_law (xs : Nat → Int32) (L : Nat) (σ : HS) : Option Int32 :=
  bd (jj_drawn xs L 0) fun v1 =>
  bd (jj_low v1 3) fun v2 =>
  if v2 = 0 then
    bd (rr_clear (hs_x σ) 0) fun s5 =>
    nm (hs_x' σ s5) fun s6 =>
    zz_law_40 xs L s6
  else
    zz_law_40 xs L σ
set_option maxHeartbeats 8000000 in
set_option maxRecDepth 100000 in
theorem law_main {p : Program} {l : Launch} {e : Env} {s : State} {m : MethodId} {below : List Frame} {meth : Method} {c : Code} {b L : Nat} {xs : Nat → Int32} {D : va_G} {ca : Nat → ClassId} {B : Nat → Nat} {ar : Nat → Nat → Nat} {E : Nat → Nat} {A : Nat → Prop} {cells slots : Nat} (C0 : lw_At p s m meth c b L xs) (hN : NX s) (hbA : ¬ A b) (hA : ∀ q : Nat, s.heap.size ≤ q → A q) (hAe : ∀ q : Nat, A q → s.heap.size ≤ q) (hK : va_K D vwCl (vt ca) s) (hc9 : cells ≤ 600172) (hs9 : slots ≤ 7300668) : ∀ (H : Heap) (locs : List Loc) (ls : Array Slot) (σ : HS), zz_law xs L σ = some 1 → va_P D vwCl (wH ca B ar E σ) H → va_D A (wH ca B ar E σ) → va_S A s.heap H locs → lv_has ls 11 [(4, .ref (E 2)), (3, .ref (E 1)), (2, .ref (E 0)), (1, .ref (B 0)), (0, .ref b)] → W p l e room_1 s m #[Value.ref b] below meth c H locs cells slots (lw_Z below #[Value.ref b] s) (F0 m 23 ls []) := by
  obtain ⟨hx, hb, hr, hml, hown, hts0, hXs, hbl, hlocks, hgv⟩ := id C0
  have hts : ∀ w ∈ wsL_law, w.before #[Value.ref b] s = true := fun w h => hts0 w (wsL_law_in w h)
  have J43 : ∀ (n43 : Nat) (H : Heap) (locs : List Loc) (ls : Array Slot) (σ : HS) (l5 : Int32), zz_law_lp43 xs L  n43 σ l5 = some 1 → va_P D vwCl (wH ca B ar E σ) H → va_D A (wH ca B ar E σ) → va_S A s.heap H locs → lv_has ls 11 [(0, .ref b), (1, .ref (B 0)), (2, .ref (E 0)), (3, .ref (E 1)), (4, .ref (E 2)), (5, .int l5)] → W p l e room_1 s m #[Value.ref b] below meth c H locs cells slots (lw_Z below #[Value.ref b] s) (F0 m 43 ls []) := by
    intro n43
    induction n43 with
    | zero =>
      intro H locs ls σ l5 hf hP hD hS hl
      exact absurd hf (fun h => by cases h)
    | succ n43 ih43 =>
      have J278 : ∀ (H : Heap) (locs : List Loc) (ls : Array Slot) (σ : HS) (l5 : Int32) (l7 : Int32) (l8 : Int32), zz_law_278 xs L (zz_law_lp43 xs L  n43) σ l5 l7 l8 = some 1 → va_P D vwCl (wH ca B ar E σ) H → va_D A (wH ca B ar E σ) → va_S A s.heap H locs → lv_has ls 11 [(0, .ref b), (1, .ref (B 0)), (2, .ref (E 0)), (3, .ref (E 1)), (4, .ref (E 2)), (5, .int l5), (7, .int l7), (8, .int l8)] → W p l e room_1 s m #[Value.ref b] below meth c H locs cells slots (lw_Z below #[Value.ref b] s) (F0 m 278 ls []) := by
        intro H locs ls σ l5 l7 l8 hf hP hD hS hl
        unfold zz_law_278 at hf
        refine lv_iload hx hb dL_law_278 (lv_at hl 7 rfl) ?_
        refine lv_if_eq (tgt := 298) hx hb dL_law_280 (by decide) (fun c34 => ?_) (fun c34 => ?_)
        · replace hf := it_p c34 hf
          refine lv_iconst (v := 0) hx hb dL_law_298 (by decide) ?_
          exact absurd (so1 hf) (by decide)
        · replace hf := it_n c34 hf
          refine lv_aload_n hx hb dL_law_283 rfl (lv_at hl 1 rfl) ?_
          refine lv_aload_n hx hb dL_law_284 rfl (lv_at hl 2 rfl) ?_
          refine lv_aload_n hx hb dL_law_285 rfl (lv_at hl 3 rfl) ?_
          refine lv_aload hx hb dL_law_286 (lv_at hl 4 rfl) ?_
          refine lv_iconst (v := 0) hx hb dL_law_288 (by decide) ?_
          obtain ⟨g35, hf⟩ := gd_ob hf
          refine va_iald hx hb hK hP 22 0 rfl rfl g35 dL_law_289 ?_
          refine lv_iload hx hb dL_law_290 (lv_at hl 6 rfl) ?_
          obtain ⟨v36, s37, ev36, hf⟩ := bd2_ob hf
          refine call_si (As := [.ref (B 0), .ref (E 0), .ref (E 1), .int (hs_n σ (0 : Int32).toNatClampNeg), .int l7]) (rest := []) ⟨hx, hb, hml, hown, hts⟩ (tL_isSo l D ca B ar E _ σ (hs_n σ (0 : Int32).toNatClampNeg) l7 v36 s37 ev36) (va_cwS 5 hts gL_law_L_isSo rfl rfl rfl (by decide +kernel) ⟨Nat.le_of_ble_eq_true rfl, Nat.le_of_ble_eq_true rfl⟩) hN hK hP hD hA hS (fr_id _ _) rfl hl.1 rfl (lv_room (Nat.le_of_ble_eq_true rfl)) dL_law_292 ⟨(show cells + 0 ≤ 600172 by omega), (show slots + 0 ≤ 7300668 by omega)⟩ (fun H locs hP hD hS => ?_)
          refine lv_if_ne (tgt := 300) hx hb dL_law_295 (by decide) (fun c38 => ?_) (fun c38 => ?_)
          · replace hf := it_n c38 hf
            obtain ⟨v39, ev39, hf⟩ := nm_ob hf
            refine lv_iinc (v := v39) (lv' := [(5, .int v39), (0, .ref b), (1, .ref (B 0)), (2, .ref (E 0)), (3, .ref (E 1)), (4, .ref (E 2)), (7, .int l7), (8, .int l8)]) hx hb dL_law_300 hl (k := 5) rfl (by rw [← ev39]; rfl) (by decide) rfl (fun ls hl => ?_)
            refine lv_goto (tgt := 43) hx hb dL_law_303 (by decide) ?_
            exact ih43 _ _ _ _ _ hf hP hD hS (lv_sub hl [1, 2, 3, 4, 5, 0] rfl)
          · replace hf := it_p c38 hf
            refine lv_iconst (v := 0) hx hb dL_law_298 (by decide) ?_
            exact absurd (so1 hf) (by decide)
      have J276 : ∀ (H : Heap) (locs : List Loc) (ls : Array Slot) (σ : HS) (l5 : Int32) (l7 : Int32) (t0 : Int32), zz_law_276 xs L (zz_law_lp43 xs L  n43) σ l5 l7 t0 = some 1 → va_P D vwCl (wH ca B ar E σ) H → va_D A (wH ca B ar E σ) → va_S A s.heap H locs → lv_has ls 11 [(0, .ref b), (1, .ref (B 0)), (2, .ref (E 0)), (3, .ref (E 1)), (4, .ref (E 2)), (5, .int l5), (7, .int l7)] → W p l e room_1 s m #[Value.ref b] below meth c H locs cells slots (lw_Z below #[Value.ref b] s) (F0 m 276 ls [.int t0]) := by
        intro H locs ls σ l5 l7 t0 hf hP hD hS hl
        unfold zz_law_276 at hf
        refine lv_istore (lv' := [(8, .int t0), (0, .ref b), (1, .ref (B 0)), (2, .ref (E 0)), (3, .ref (E 1)), (4, .ref (E 2)), (5, .int l5), (7, .int l7)]) hx hb dL_law_276 hl (by decide) rfl (fun ls hl => ?_)
        exact J278 _ _ _ _ _ _ _ hf hP hD hS (lv_sub hl [1, 2, 3, 4, 5, 6, 7, 0] rfl)
      have J268 : ∀ (H : Heap) (locs : List Loc) (ls : Array Slot) (σ : HS) (l5 : Int32) (l7 : Int32) (t0 : Int32) (t1 : Int32), zz_law_268 xs L (zz_law_lp43 xs L  n43) σ l5 l7 t0 t1 = some 1 → va_P D vwCl (wH ca B ar E σ) H → va_D A (wH ca B ar E σ) → va_S A s.heap H locs → lv_has ls 11 [(0, .ref b), (1, .ref (B 0)), (2, .ref (E 0)), (3, .ref (E 1)), (4, .ref (E 2)), (5, .int l5), (7, .int l7)] → W p l e room_1 s m #[Value.ref b] below meth c H locs cells slots (lw_Z below #[Value.ref b] s) (F0 m 268 ls [.int t1, .int t0]) := by
        intro H locs ls σ l5 l7 t0 t1 hf hP hD hS hl
        unfold zz_law_268 at hf
        refine lv_icmp_ne (tgt := 275) hx hb dL_law_268 (by decide) (fun c47 => ?_) (fun c47 => ?_)
        · replace hf := it_n c47 hf
          refine lv_iconst (v := 0) hx hb dL_law_275 (by decide) ?_
          exact J276 _ _ _ _ _ _ _ hf hP hD hS (lv_sub hl [0, 1, 2, 3, 4, 5, 6] rfl)
        · replace hf := it_p c47 hf
          refine lv_iconst (v := 1) hx hb dL_law_271 (by decide) ?_
          refine lv_goto (tgt := 276) hx hb dL_law_272 (by decide) ?_
          exact J276 _ _ _ _ _ _ _ hf hP hD hS (lv_sub hl [0, 1, 2, 3, 4, 5, 6] rfl)
      have J255 : ∀ (H : Heap) (locs : List Loc) (ls : Array Slot) (σ : HS) (l5 : Int32) (l7 : Int32) (t0 : Int32), zz_law_255 xs L (zz_law_lp43 xs L  n43) σ l5 l7 t0 = some 1 → va_P D vwCl (wH ca B ar E σ) H → va_D A (wH ca B ar E σ) → va_S A s.heap H locs → lv_has ls 11 [(0, .ref b), (1, .ref (B 0)), (2, .ref (E 0)), (3, .ref (E 1)), (4, .ref (E 2)), (5, .int l5), (7, .int l7)] → W p l e room_1 s m #[Value.ref b] below meth c H locs cells slots (lw_Z below #[Value.ref b] s) (F0 m 255 ls [.int t0]) := by
        intro H locs ls σ l5 l7 t0 hf hP hD hS hl
        unfold zz_law_255 at hf
        refine lv_aload_n hx hb dL_law_255 rfl (lv_at hl 1 rfl) ?_
        refine lv_iconst (v := 1) hx hb dL_law_256 (by decide) ?_
        obtain ⟨v45, ev45, hf⟩ := bd_ob hf
        refine call_i (As := [.int 1]) (rest := [.int t0]) ⟨hx, hb, hml, hown, hts⟩ (tX4_keysIn l D ca B ar _ (hs_x σ) 1 v45 ev45) (cwV 1 hts gL_law_X4_keysIn rfl rfl rfl (by decide +kernel) ⟨Nat.le_of_ble_eq_true rfl, Nat.le_of_ble_eq_true rfl⟩) hN hK hP hD hA hS (fr_HRp ca B ar E σ) rfl rfl rfl hl.1 rfl (lv_room (Nat.le_of_ble_eq_true rfl)) dL_law_257 ⟨(show cells + 0 ≤ 600172 by omega), (show slots + 0 ≤ 7300668 by omega)⟩ (fun H locs hP hD hS => ?_)
        refine lv_if_ne (tgt := 267) hx hb dL_law_260 (by decide) (fun c46 => ?_) (fun c46 => ?_)
        · replace hf := it_n c46 hf
          refine lv_iconst (v := 0) hx hb dL_law_267 (by decide) ?_
          exact J268 _ _ _ _ _ _ _ _ hf hP hD hS (lv_sub hl [0, 1, 2, 3, 4, 5, 6] rfl)
        · replace hf := it_p c46 hf
          refine lv_iconst (v := 1) hx hb dL_law_263 (by decide) ?_
          refine lv_goto (tgt := 268) hx hb dL_law_264 (by decide) ?_
          exact J268 _ _ _ _ _ _ _ _ hf hP hD hS (lv_sub hl [0, 1, 2, 3, 4, 5, 6] rfl)
      have J226 : ∀ (H : Heap) (locs : List Loc) (ls : Array Slot) (σ : HS) (l5 : Int32) (l7 : Int32) (l9 : Int32) (l10 : Int32) (t0 : Int32) (t1 : Int32), zz_law_226 xs L (zz_law_lp43 xs L  n43) σ l5 l7 l9 l10 t0 t1 = some 1 → va_P D vwCl (wH ca B ar E σ) H → va_D A (wH ca B ar E σ) → va_S A s.heap H locs → lv_has ls 11 [(0, .ref b), (1, .ref (B 0)), (2, .ref (E 0)), (3, .ref (E 1)), (4, .ref (E 2)), (5, .int l5), (7, .int l7), (9, .int l9), (10, .int l10)] → W p l e room_1 s m #[Value.ref b] below meth c H locs cells slots (lw_Z below #[Value.ref b] s) (F0 m 226 ls [.int t1, .int t0]) := by
        intro H locs ls σ l5 l7 l9 l10 t0 t1 hf hP hD hS hl
        unfold zz_law_226 at hf
        refine lv_icmp_ne (tgt := 275) hx hb dL_law_226 (by decide) (fun c40 => ?_) (fun c40 => ?_)
        · replace hf := it_n c40 hf
          refine lv_iconst (v := 0) hx hb dL_law_275 (by decide) ?_
          exact J276 _ _ _ _ _ _ _ hf hP hD hS (lv_sub hl [0, 1, 2, 3, 4, 5, 6] rfl)
        · replace hf := it_p c40 hf
          refine lv_aload_n hx hb dL_law_229 rfl (lv_at hl 1 rfl) ?_
          refine lv_iconst (v := 1) hx hb dL_law_230 (by decide) ?_
          obtain ⟨v41, ev41, hf⟩ := bd_ob hf
          refine call_i (As := [.int 1]) (rest := []) ⟨hx, hb, hml, hown, hts⟩ (tX4_keysIn l D ca B ar _ (hs_x σ) 1 v41 ev41) (cwV 1 hts gL_law_X4_keysIn rfl rfl rfl (by decide +kernel) ⟨Nat.le_of_ble_eq_true rfl, Nat.le_of_ble_eq_true rfl⟩) hN hK hP hD hA hS (fr_HRp ca B ar E σ) rfl rfl rfl hl.1 rfl (lv_room (Nat.le_of_ble_eq_true rfl)) dL_law_231 ⟨(show cells + 0 ≤ 600172 by omega), (show slots + 0 ≤ 7300668 by omega)⟩ (fun H locs hP hD hS => ?_)
          refine lv_iload hx hb dL_law_234 (lv_at hl 7 rfl) ?_
          refine lv_iload hx hb dL_law_236 (lv_at hl 8 rfl) ?_
          refine lv_isub hx hb dL_law_238 ?_
          refine lv_icmp_ne (tgt := 275) hx hb dL_law_239 (by decide) (fun c42 => ?_) (fun c42 => ?_)
          · replace hf := it_n c42 hf
            refine lv_iconst (v := 0) hx hb dL_law_275 (by decide) ?_
            exact J276 _ _ _ _ _ _ _ hf hP hD hS (lv_sub hl [0, 1, 2, 3, 4, 5, 6] rfl)
          · replace hf := it_p c42 hf
            refine lv_aload_n hx hb dL_law_242 rfl (lv_at hl 1 rfl) ?_
            refine lv_iconst (v := 1) hx hb dL_law_243 (by decide) ?_
            obtain ⟨v43, ev43, hf⟩ := bd_ob hf
            refine call_i (As := [.int 1]) (rest := []) ⟨hx, hb, hml, hown, hts⟩ (tX4_slots l D ca B ar _ (hs_x σ) 1 v43 ev43) (cwV 1 hts gL_law_X4_slots rfl rfl rfl (by decide +kernel) ⟨Nat.le_of_ble_eq_true rfl, Nat.le_of_ble_eq_true rfl⟩) hN hK hP hD hA hS (fr_HRp ca B ar E σ) rfl rfl rfl hl.1 rfl (lv_room (Nat.le_of_ble_eq_true rfl)) dL_law_244 ⟨(show cells + 0 ≤ 600172 by omega), (show slots + 0 ≤ 7300668 by omega)⟩ (fun H locs hP hD hS => ?_)
            refine lv_if_ne (tgt := 254) hx hb dL_law_247 (by decide) (fun c44 => ?_) (fun c44 => ?_)
            · replace hf := it_n c44 hf
              refine lv_iconst (v := 0) hx hb dL_law_254 (by decide) ?_
              exact J255 _ _ _ _ _ _ _ hf hP hD hS (lv_sub hl [0, 1, 2, 3, 4, 5, 6] rfl)
            · replace hf := it_p c44 hf
              refine lv_iconst (v := 1) hx hb dL_law_250 (by decide) ?_
              refine lv_goto (tgt := 255) hx hb dL_law_251 (by decide) ?_
              exact J255 _ _ _ _ _ _ _ hf hP hD hS (lv_sub hl [0, 1, 2, 3, 4, 5, 6] rfl)
      have J172 : ∀ (H : Heap) (locs : List Loc) (ls : Array Slot) (σ : HS) (l5 : Int32) (l6 : Int32) (l7 : Int32), zz_law_172 xs L (zz_law_lp43 xs L  n43) σ l5 l6 l7 = some 1 → va_P D vwCl (wH ca B ar E σ) H → va_D A (wH ca B ar E σ) → va_S A s.heap H locs → lv_has ls 11 [(0, .ref b), (1, .ref (B 0)), (2, .ref (E 0)), (3, .ref (E 1)), (4, .ref (E 2)), (5, .int l5), (6, .int l6), (7, .int l7)] → W p l e room_1 s m #[Value.ref b] below meth c H locs cells slots (lw_Z below #[Value.ref b] s) (F0 m 172 ls []) := by
        intro H locs ls σ l5 l6 l7 hf hP hD hS hl
        unfold zz_law_172 at hf
        refine lv_iload hx hb dL_law_172 (lv_at hl 6 rfl) ?_
        refine lv_bipush (v := 14) hx hb dL_law_174 (by decide) ?_
        refine lv_iand hx hb dL_law_176 ?_
        refine lv_bipush (v := 12) hx hb dL_law_177 (by decide) ?_
        refine lv_icmp_ne (tgt := 199) hx hb dL_law_179 (by decide) (fun c25 => ?_) (fun c25 => ?_)
        · replace hf := it_n c25 hf
          refine lv_aload_n hx hb dL_law_199 rfl (lv_at hl 1 rfl) ?_
          refine lv_iconst (v := 1) hx hb dL_law_200 (by decide) ?_
          obtain ⟨v26, ev26, hf⟩ := bd_ob hf
          refine call_i (As := [.int 1]) (rest := []) ⟨hx, hb, hml, hown, hts⟩ (tX4_keysIn l D ca B ar _ (hs_x σ) 1 v26 ev26) (cwV 1 hts gL_law_X4_keysIn rfl rfl rfl (by decide +kernel) ⟨Nat.le_of_ble_eq_true rfl, Nat.le_of_ble_eq_true rfl⟩) hN hK hP hD hA hS (fr_HRp ca B ar E σ) rfl rfl rfl hl.1 rfl (lv_room (Nat.le_of_ble_eq_true rfl)) dL_law_201 ⟨(show cells + 0 ≤ 600172 by omega), (show slots + 0 ≤ 7300668 by omega)⟩ (fun H locs hP hD hS => ?_)
          refine lv_istore (lv' := [(9, .int v26), (0, .ref b), (1, .ref (B 0)), (2, .ref (E 0)), (3, .ref (E 1)), (4, .ref (E 2)), (5, .int l5), (6, .int l6), (7, .int l7)]) hx hb dL_law_204 hl (by decide) rfl (fun ls hl => ?_)
          refine lv_aload_n hx hb dL_law_206 rfl (lv_at hl 2 rfl) ?_
          obtain ⟨v27, s28, ev27, hf⟩ := bd2_ob hf
          refine call_i (As := []) (rest := []) ⟨hx, hb, hml, hown, hts⟩ (tX4_move l D ca B ar _ (hs_x σ) v27 s28 ev27) (cwV 0 hts gL_law_X4_move rfl rfl rfl (by decide +kernel) ⟨Nat.le_of_ble_eq_true rfl, Nat.le_of_ble_eq_true rfl⟩) hN hK hP hD hA hS (fr_HR ca B ar E σ s28) rfl rfl rfl hl.1 rfl (lv_room (Nat.le_of_ble_eq_true rfl)) dL_law_207 ⟨(show cells + 0 ≤ 600172 by omega), (show slots + 0 ≤ 7300668 by omega)⟩ (fun H locs hP hD hS => ?_)
          obtain ⟨s29, es29, hf⟩ := nm_ob hf
          have hP : va_P D vwCl (wH ca B ar E s29) H := by rw [← es29]; exact hP
          have hD : va_D A (wH ca B ar E s29) := by rw [← es29]; exact hD
          refine lv_istore (lv' := [(10, .int v27), (9, .int v26), (0, .ref b), (1, .ref (B 0)), (2, .ref (E 0)), (3, .ref (E 1)), (4, .ref (E 2)), (5, .int l5), (6, .int l6), (7, .int l7)]) hx hb dL_law_210 hl (by decide) rfl (fun ls hl => ?_)
          refine lv_iload hx hb dL_law_212 (lv_at hl 0 rfl) ?_
          refine lv_iload hx hb dL_law_214 (lv_at hl 1 rfl) ?_
          refine lv_iconst (v := 4) hx hb dL_law_216 (by decide) ?_
          refine lv_icmp_ge (tgt := 225) hx hb dL_law_217 (by decide) (fun c30 => ?_) (fun c30 => ?_)
          · replace hf := it_p c30 hf
            refine lv_iconst (v := 4) hx hb dL_law_225 (by decide) ?_
            exact J226 _ _ _ _ _ _ _ _ _ _ hf hP hD hS (lv_sub hl [2, 3, 4, 5, 6, 7, 9, 1, 0] rfl)
          · replace hf := it_n c30 hf
            refine lv_iload hx hb dL_law_220 (lv_at hl 1 rfl) ?_
            refine lv_goto (tgt := 226) hx hb dL_law_222 (by decide) ?_
            exact J226 _ _ _ _ _ _ _ _ _ _ hf hP hD hS (lv_sub hl [2, 3, 4, 5, 6, 7, 9, 1, 0] rfl)
        · replace hf := it_p c25 hf
          refine lv_aload_n hx hb dL_law_182 rfl (lv_at hl 1 rfl) ?_
          refine lv_aload_n hx hb dL_law_183 rfl (lv_at hl 2 rfl) ?_
          refine lv_aload_n hx hb dL_law_184 rfl (lv_at hl 3 rfl) ?_
          refine lv_aload hx hb dL_law_185 (lv_at hl 4 rfl) ?_
          refine lv_iconst (v := 0) hx hb dL_law_187 (by decide) ?_
          obtain ⟨g31, hf⟩ := gd_ob hf
          refine va_iald hx hb hK hP 22 0 rfl rfl g31 dL_law_188 ?_
          refine lv_iload hx hb dL_law_189 (lv_at hl 7 rfl) ?_
          obtain ⟨v32, s33, ev32, hf⟩ := bd2_ob hf
          refine call_si (As := [.ref (B 0), .ref (E 0), .ref (E 1), .int (hs_n σ (0 : Int32).toNatClampNeg), .int l7]) (rest := []) ⟨hx, hb, hml, hown, hts⟩ (tL_isRemoved l D ca B ar E _ σ (hs_n σ (0 : Int32).toNatClampNeg) l7 v32 s33 ev32) (va_cwS 5 hts gL_law_L_isRemoved rfl rfl rfl (by decide +kernel) ⟨Nat.le_of_ble_eq_true rfl, Nat.le_of_ble_eq_true rfl⟩) hN hK hP hD hA hS (fr_id _ _) rfl hl.1 rfl (lv_room (Nat.le_of_ble_eq_true rfl)) dL_law_191 ⟨(show cells + 0 ≤ 600172 by omega), (show slots + 0 ≤ 7300668 by omega)⟩ (fun H locs hP hD hS => ?_)
          refine lv_istore (lv' := [(8, .int v32), (0, .ref b), (1, .ref (B 0)), (2, .ref (E 0)), (3, .ref (E 1)), (4, .ref (E 2)), (5, .int l5), (6, .int l6), (7, .int l7)]) hx hb dL_law_194 hl (by decide) rfl (fun ls hl => ?_)
          refine lv_goto (tgt := 278) hx hb dL_law_196 (by decide) ?_
          exact J278 _ _ _ _ _ _ _ hf hP hD hS (lv_sub hl [1, 2, 3, 4, 5, 6, 8, 0] rfl)
      have J88 : ∀ (H : Heap) (locs : List Loc) (ls : Array Slot) (σ : HS) (l5 : Int32) (l6 : Int32) (t0 : Int32), zz_law_88 xs L (zz_law_lp43 xs L  n43) σ l5 l6 t0 = some 1 → va_P D vwCl (wH ca B ar E σ) H → va_D A (wH ca B ar E σ) → va_S A s.heap H locs → lv_has ls 11 [(0, .ref b), (1, .ref (B 0)), (2, .ref (E 0)), (3, .ref (E 1)), (4, .ref (E 2)), (5, .int l5), (6, .int l6)] → W p l e room_1 s m #[Value.ref b] below meth c H locs cells slots (lw_Z below #[Value.ref b] s) (F0 m 88 ls [.int t0]) := by
        intro H locs ls σ l5 l6 t0 hf hP hD hS hl
        unfold zz_law_88 at hf
        refine lv_istore (lv' := [(7, .int t0), (0, .ref b), (1, .ref (B 0)), (2, .ref (E 0)), (3, .ref (E 1)), (4, .ref (E 2)), (5, .int l5), (6, .int l6)]) hx hb dL_law_88 hl (by decide) rfl (fun ls hl => ?_)
        refine lv_iconst (v := 1) hx hb dL_law_90 (by decide) ?_
        refine lv_istore (lv' := [(8, .int 1), (7, .int t0), (0, .ref b), (1, .ref (B 0)), (2, .ref (E 0)), (3, .ref (E 1)), (4, .ref (E 2)), (5, .int l5), (6, .int l6)]) hx hb dL_law_91 hl (by decide) rfl (fun ls hl => ?_)
        refine lv_iload hx hb dL_law_93 (lv_at hl 8 rfl) ?_
        refine lv_bipush (v := 14) hx hb dL_law_95 (by decide) ?_
        refine lv_iand hx hb dL_law_97 ?_
        refine lv_bipush (v := 10) hx hb dL_law_98 (by decide) ?_
        refine lv_icmp_ge (tgt := 127) hx hb dL_law_100 (by decide) (fun c12 => ?_) (fun c12 => ?_)
        · replace hf := it_p c12 hf
          refine lv_iload hx hb dL_law_127 (lv_at hl 8 rfl) ?_
          refine lv_bipush (v := 14) hx hb dL_law_129 (by decide) ?_
          refine lv_iand hx hb dL_law_131 ?_
          refine lv_bipush (v := 10) hx hb dL_law_132 (by decide) ?_
          refine lv_icmp_ne (tgt := 172) hx hb dL_law_134 (by decide) (fun c13 => ?_) (fun c13 => ?_)
          · replace hf := it_n c13 hf
            exact J172 _ _ _ _ _ _ _ hf hP hD hS (lv_sub hl [2, 3, 4, 5, 6, 7, 8, 1] rfl)
          · replace hf := it_p c13 hf
            refine lv_aload hx hb dL_law_137 (lv_at hl 6 rfl) ?_
            refine lv_iconst (v := 0) hx hb dL_law_139 (by decide) ?_
            obtain ⟨g14, hf⟩ := gd_ob hf
            refine va_iald hx hb hK hP 22 0 rfl rfl g14 dL_law_140 ?_
            refine lv_if_le (tgt := 172) hx hb dL_law_141 (by decide) (fun c15 => ?_) (fun c15 => ?_)
            · replace hf := it_p c15 hf
              exact J172 _ _ _ _ _ _ _ hf hP hD hS (lv_sub hl [2, 3, 4, 5, 6, 7, 8, 1] rfl)
            · replace hf := it_n c15 hf
              refine lv_aload_n hx hb dL_law_144 rfl (lv_at hl 3 rfl) ?_
              refine lv_aload_n hx hb dL_law_145 rfl (lv_at hl 4 rfl) ?_
              refine lv_aload_n hx hb dL_law_146 rfl (lv_at hl 5 rfl) ?_
              refine lv_aload hx hb dL_law_147 (lv_at hl 6 rfl) ?_
              refine lv_iconst (v := 0) hx hb dL_law_149 (by decide) ?_
              obtain ⟨g16, hf⟩ := gd_ob hf
              refine va_iald hx hb hK hP 22 0 rfl rfl g16 dL_law_150 ?_
              refine lv_aload_n hx hb dL_law_151 rfl (lv_at hl 4 rfl) ?_
              refine lv_iload hx hb dL_law_152 (lv_at hl 8 rfl) ?_
              refine lv_iconst (v := 4) hx hb dL_law_154 (by decide) ?_
              refine lv_ishr hx hb dL_law_155 ?_
              refine lv_aload hx hb dL_law_156 (lv_at hl 6 rfl) ?_
              refine lv_iconst (v := 0) hx hb dL_law_158 (by decide) ?_
              obtain ⟨g17, hf⟩ := gd_ob hf
              refine va_iald hx hb hK hP 22 0 rfl rfl g17 dL_law_159 ?_
              obtain ⟨v18, ev18, hf⟩ := bd_ob hf
              refine call_si (As := [.int (l6 >>> (4 &&& 31)), .int (hs_n σ (0 : Int32).toNatClampNeg)]) (rest := [.ref (E 0), .int (hs_n σ (0 : Int32).toNatClampNeg), .ref (E 1), .ref (E 0), .ref (B 0)]) ⟨hx, hb, hml, hown, hts⟩ (tL_low l D ca _ (l6 >>> (4 &&& 31)) (hs_n σ (0 : Int32).toNatClampNeg) v18 ev18) (va_cwS 2 hts gL_law_L_low rfl rfl rfl (by decide +kernel) ⟨Nat.le_of_ble_eq_true rfl, Nat.le_of_ble_eq_true rfl⟩) hN hK hP hD hA hS (fr_no _) rfl hl.1 rfl (lv_room (Nat.le_of_ble_eq_true rfl)) dL_law_160 ⟨(show cells + 0 ≤ 600172 by omega), (show slots + 0 ≤ 7300668 by omega)⟩ (fun H locs hP hD hS => ?_)
              obtain ⟨g19, hf⟩ := gd_ob hf
              refine va_iald hx hb hK hP 20 0 rfl rfl g19 dL_law_163 ?_
              obtain ⟨v20, s21, ev20, hf⟩ := bd2_ob hf
              refine call_si (As := [.ref (B 0), .ref (E 0), .ref (E 1), .int (hs_n σ (0 : Int32).toNatClampNeg), .int (hs_k σ v18.toNatClampNeg)]) (rest := []) ⟨hx, hb, hml, hown, hts⟩ (tL_isRemoved l D ca B ar E _ σ (hs_n σ (0 : Int32).toNatClampNeg) (hs_k σ v18.toNatClampNeg) v20 s21 ev20) (va_cwS 5 hts gL_law_L_isRemoved rfl rfl rfl (by decide +kernel) ⟨Nat.le_of_ble_eq_true rfl, Nat.le_of_ble_eq_true rfl⟩) hN hK hP hD hA hS (fr_id _ _) rfl hl.1 rfl (lv_room (Nat.le_of_ble_eq_true rfl)) dL_law_164 ⟨(show cells + 0 ≤ 600172 by omega), (show slots + 0 ≤ 7300668 by omega)⟩ (fun H locs hP hD hS => ?_)
              refine lv_istore (lv' := [(8, .int v20), (7, .int t0), (0, .ref b), (1, .ref (B 0)), (2, .ref (E 0)), (3, .ref (E 1)), (4, .ref (E 2)), (5, .int l5), (6, .int l6)]) hx hb dL_law_167 hl (by decide) rfl (fun ls hl => ?_)
              refine lv_goto (tgt := 278) hx hb dL_law_169 (by decide) ?_
              exact J278 _ _ _ _ _ _ _ hf hP hD hS (lv_sub hl [2, 3, 4, 5, 6, 7, 1, 0] rfl)
        · replace hf := it_n c12 hf
          refine lv_aload_n hx hb dL_law_103 rfl (lv_at hl 3 rfl) ?_
          refine lv_aload_n hx hb dL_law_104 rfl (lv_at hl 4 rfl) ?_
          refine lv_aload_n hx hb dL_law_105 rfl (lv_at hl 5 rfl) ?_
          refine lv_aload hx hb dL_law_106 (lv_at hl 6 rfl) ?_
          refine lv_iload hx hb dL_law_108 (lv_at hl 1 rfl) ?_
          refine lv_iload hx hb dL_law_110 (lv_at hl 8 rfl) ?_
          refine lv_iconst (v := 4) hx hb dL_law_112 (by decide) ?_
          refine lv_ishr hx hb dL_law_113 ?_
          refine lv_ldc (v := 1000000) hx hb hown (hts (.constant RL 86 (1000000)) (by decide +kernel)) dL_law_114 ?_
          obtain ⟨v22, ev22, hf⟩ := bd_ob hf
          refine call_si (As := [.int (l6 >>> (4 &&& 31)), .int 1000000]) (rest := [.int t0, .ref (E 2), .ref (E 1), .ref (E 0), .ref (B 0)]) ⟨hx, hb, hml, hown, hts⟩ (tL_low l D ca _ (l6 >>> (4 &&& 31)) 1000000 v22 ev22) (va_cwS 2 hts gL_law_L_low rfl rfl rfl (by decide +kernel) ⟨Nat.le_of_ble_eq_true rfl, Nat.le_of_ble_eq_true rfl⟩) hN hK hP hD hA hS (fr_no _) rfl hl.1 rfl (lv_room (Nat.le_of_ble_eq_true rfl)) dL_law_116 ⟨(show cells + 0 ≤ 600172 by omega), (show slots + 0 ≤ 7300668 by omega)⟩ (fun H locs hP hD hS => ?_)
          obtain ⟨v23, s24, ev23, hf⟩ := bd2_ob hf
          refine call_si (As := [.ref (B 0), .ref (E 0), .ref (E 1), .ref (E 2), .int t0, .int v22]) (rest := []) ⟨hx, hb, hml, hown, hts⟩ (tL_isPut l D ca B ar E _ σ t0 v22 v23 s24 ev23) (va_cwS 6 hts gL_law_L_isPut rfl rfl rfl (by decide +kernel) ⟨Nat.le_of_ble_eq_true rfl, Nat.le_of_ble_eq_true rfl⟩) hN hK hP hD hA hS (fr_id _ _) rfl hl.1 rfl (lv_room (Nat.le_of_ble_eq_true rfl)) dL_law_119 ⟨(show cells + 0 ≤ 600172 by omega), (show slots + 0 ≤ 7300668 by omega)⟩ (fun H locs hP hD hS => ?_)
          refine lv_istore (lv' := [(8, .int v23), (7, .int t0), (0, .ref b), (1, .ref (B 0)), (2, .ref (E 0)), (3, .ref (E 1)), (4, .ref (E 2)), (5, .int l5), (6, .int l6)]) hx hb dL_law_122 hl (by decide) rfl (fun ls hl => ?_)
          refine lv_goto (tgt := 278) hx hb dL_law_124 (by decide) ?_
          exact J278 _ _ _ _ _ _ _ hf hP hD hS (lv_sub hl [2, 3, 4, 5, 6, 7, 1, 0] rfl)
      intro H locs ls σ l5 hf hP hD hS hl
      replace hf : zz_law_43 xs L  (zz_law_lp43 xs L  n43) σ l5 = some 1 := hf
      unfold zz_law_43 at hf
      refine lv_iload hx hb dL_law_43 (lv_at hl 5 rfl) ?_
      refine lv_bipush (v := 60) hx hb dL_law_45 (by decide) ?_
      refine lv_icmp_ge (tgt := 306) hx hb dL_law_47 (by decide) (fun c7 => ?_) (fun c7 => ?_)
      · replace hf := it_p c7 hf
        refine lv_iconst (v := 1) hx hb dL_law_306 (by decide) ?_
        refine va_forget (fun q hq => hAe _ (hS.2.2 q hq)) ?_
        refine W.widen (k := 600172) (n := 7300668) (by omega) (by omega) ?_
        exact lw_ret hx hb hr hlocks dL_law_307
      · replace hf := it_n c7 hf
        refine lv_aload_n hx hb dL_law_50 rfl (lv_at hl 0 rfl) ?_
        refine lv_iload hx hb dL_law_51 (lv_at hl 5 rfl) ?_
        obtain ⟨v8, ev8, hf⟩ := bd_ob hf
        refine call_d (As := [.ref b, .int l5]) (rest := []) hXs hbl hbA ⟨hx, hb, hml, hown, hts⟩ (tL_drawn l D ca b L xs _ l5 v8 ev8) (va_cwS 2 hts gL_law_L_drawn rfl rfl rfl (by decide +kernel) ⟨Nat.le_of_ble_eq_true rfl, Nat.le_of_ble_eq_true rfl⟩) hN hK hP hD hA hS rfl hl.1 rfl (lv_room (Nat.le_of_ble_eq_true rfl)) dL_law_53 ⟨(show cells + 0 ≤ 600172 by omega), (show slots + 0 ≤ 7300668 by omega)⟩ (fun H locs hP hD hS => ?_)
        refine lv_istore (lv' := [(6, .int v8), (0, .ref b), (1, .ref (B 0)), (2, .ref (E 0)), (3, .ref (E 1)), (4, .ref (E 2)), (5, .int l5)]) hx hb dL_law_56 hl (by decide) rfl (fun ls hl => ?_)
        refine lv_iload hx hb dL_law_58 (lv_at hl 0 rfl) ?_
        refine lv_iconst (v := 1) hx hb dL_law_60 (by decide) ?_
        refine lv_iand hx hb dL_law_61 ?_
        refine lv_if_ne (tgt := 80) hx hb dL_law_62 (by decide) (fun c9 => ?_) (fun c9 => ?_)
        · replace hf := it_n c9 hf
          refine lv_aload_n hx hb dL_law_80 rfl (lv_at hl 1 rfl) ?_
          refine lv_iload hx hb dL_law_81 (lv_at hl 6 rfl) ?_
          refine lv_iconst (v := 5) hx hb dL_law_83 (by decide) ?_
          refine lv_iadd hx hb dL_law_84 ?_
          obtain ⟨v10, ev10, hf⟩ := bd_ob hf
          refine call_d (As := [.ref b, .int (l5 + 5)]) (rest := []) hXs hbl hbA ⟨hx, hb, hml, hown, hts⟩ (tL_drawn l D ca b L xs _ (l5 + 5) v10 ev10) (va_cwS 2 hts gL_law_L_drawn rfl rfl rfl (by decide +kernel) ⟨Nat.le_of_ble_eq_true rfl, Nat.le_of_ble_eq_true rfl⟩) hN hK hP hD hA hS rfl hl.1 rfl (lv_room (Nat.le_of_ble_eq_true rfl)) dL_law_85 ⟨(show cells + 0 ≤ 600172 by omega), (show slots + 0 ≤ 7300668 by omega)⟩ (fun H locs hP hD hS => ?_)
          exact J88 _ _ _ _ _ _ _ hf hP hD hS (lv_sub hl [1, 2, 3, 4, 5, 6, 0] rfl)
        · replace hf := it_p c9 hf
          refine lv_iload hx hb dL_law_65 (lv_at hl 0 rfl) ?_
          refine lv_iconst (v := 1) hx hb dL_law_67 (by decide) ?_
          refine lv_ishr hx hb dL_law_68 ?_
          refine lv_bipush (v := 40) hx hb dL_law_69 (by decide) ?_
          obtain ⟨v11, ev11, hf⟩ := bd_ob hf
          refine call_si (As := [.int (v8 >>> (1 &&& 31)), .int 40]) (rest := []) ⟨hx, hb, hml, hown, hts⟩ (tL_low l D ca _ (v8 >>> (1 &&& 31)) 40 v11 ev11) (va_cwS 2 hts gL_law_L_low rfl rfl rfl (by decide +kernel) ⟨Nat.le_of_ble_eq_true rfl, Nat.le_of_ble_eq_true rfl⟩) hN hK hP hD hA hS (fr_no _) rfl hl.1 rfl (lv_room (Nat.le_of_ble_eq_true rfl)) dL_law_71 ⟨(show cells + 0 ≤ 600172 by omega), (show slots + 0 ≤ 7300668 by omega)⟩ (fun H locs hP hD hS => ?_)
          refine lv_bipush (v := 8) hx hb dL_law_74 (by decide) ?_
          refine lv_isub hx hb dL_law_76 ?_
          refine lv_goto (tgt := 88) hx hb dL_law_77 (by decide) ?_
          exact J88 _ _ _ _ _ _ _ hf hP hD hS (lv_sub hl [1, 2, 3, 4, 5, 6, 0] rfl)
  have J40 : ∀ (H : Heap) (locs : List Loc) (ls : Array Slot) (σ : HS) , zz_law_40 xs L  σ = some 1 → va_P D vwCl (wH ca B ar E σ) H → va_D A (wH ca B ar E σ) → va_S A s.heap H locs → lv_has ls 11 [(0, .ref b), (1, .ref (B 0)), (2, .ref (E 0)), (3, .ref (E 1)), (4, .ref (E 2))] → W p l e room_1 s m #[Value.ref b] below meth c H locs cells slots (lw_Z below #[Value.ref b] s) (F0 m 40 ls []) := by
    intro H locs ls σ hf hP hD hS hl
    unfold zz_law_40 at hf
    refine lv_iconst (v := 1) hx hb dL_law_40 (by decide) ?_
    refine lv_istore (lv' := [(5, .int 1), (0, .ref b), (1, .ref (B 0)), (2, .ref (E 0)), (3, .ref (E 1)), (4, .ref (E 2))]) hx hb dL_law_41 hl (by decide) rfl (fun ls hl => ?_)
    exact J43 FU _ _ _ _ _ hf hP hD hS (lv_sub hl [1, 2, 3, 4, 5, 0] rfl)
  intro H locs ls σ hf hP hD hS hl
  unfold zz_law at hf
  refine lv_aload_n hx hb dL_law_23 rfl (lv_at hl 4 rfl) ?_
  refine lv_iconst (v := 0) hx hb dL_law_24 (by decide) ?_
  obtain ⟨v1, ev1, hf⟩ := bd_ob hf
  refine call_d (As := [.ref b, .int 0]) (rest := []) hXs hbl hbA ⟨hx, hb, hml, hown, hts⟩ (tL_drawn l D ca b L xs _ 0 v1 ev1) (va_cwS 2 hts gL_law_L_drawn rfl rfl rfl (by decide +kernel) ⟨Nat.le_of_ble_eq_true rfl, Nat.le_of_ble_eq_true rfl⟩) hN hK hP hD hA hS rfl hl.1 rfl (lv_room (Nat.le_of_ble_eq_true rfl)) dL_law_25 ⟨(show cells + 0 ≤ 600172 by omega), (show slots + 0 ≤ 7300668 by omega)⟩ (fun H locs hP hD hS => ?_)
  refine lv_iconst (v := 3) hx hb dL_law_28 (by decide) ?_
  obtain ⟨v2, ev2, hf⟩ := bd_ob hf
  refine call_si (As := [.int v1, .int 3]) (rest := []) ⟨hx, hb, hml, hown, hts⟩ (tL_low l D ca _ v1 3 v2 ev2) (va_cwS 2 hts gL_law_L_low rfl rfl rfl (by decide +kernel) ⟨Nat.le_of_ble_eq_true rfl, Nat.le_of_ble_eq_true rfl⟩) hN hK hP hD hA hS (fr_no _) rfl hl.1 rfl (lv_room (Nat.le_of_ble_eq_true rfl)) dL_law_29 ⟨(show cells + 0 ≤ 600172 by omega), (show slots + 0 ≤ 7300668 by omega)⟩ (fun H locs hP hD hS => ?_)
  refine lv_if_ne (tgt := 40) hx hb dL_law_32 (by decide) (fun c3 => ?_) (fun c3 => ?_)
  · replace hf := it_n c3 hf
    exact J40 _ _ _ _ hf hP hD hS (lv_sub hl [4, 3, 2, 1, 0] rfl)
  · replace hf := it_p c3 hf
    refine lv_aload_n hx hb dL_law_35 rfl (lv_at hl 3 rfl) ?_
    refine lv_iconst (v := 0) hx hb dL_law_36 (by decide) ?_
    obtain ⟨s5, es5, hf⟩ := bd_ob hf
    refine call_v (As := [.int 0]) (rest := []) ⟨hx, hb, hml, hown, hts⟩ (tX4_clear l D ca B ar _ (hs_x σ) 0 s5 es5) (cwV 1 hts gL_law_X4_clear rfl rfl rfl (by decide +kernel) ⟨Nat.le_of_ble_eq_true rfl, Nat.le_of_ble_eq_true rfl⟩) hN hK hP hD hA hS (fr_HR ca B ar E σ s5) rfl rfl rfl hl.1 rfl (lv_room (Nat.le_of_ble_eq_true rfl)) dL_law_37 ⟨(show cells + 0 ≤ 600172 by omega), (show slots + 0 ≤ 7300668 by omega)⟩ (fun H locs hP hD hS => ?_)
    obtain ⟨s6, es6, hf⟩ := nm_ob hf
    have hP : va_P D vwCl (wH ca B ar E s6) H := by rw [← es6]; exact hP
    have hD : va_D A (wH ca B ar E s6) := by rw [← es6]; exact hD
    exact J40 _ _ _ _ hf hP hD hS (lv_sub hl [4, 3, 2, 1, 0] rfl)
end
section
set_option maxRecDepth 100000 in
theorem st_m1 : ∀ q ∈ nxf, Cond.fieldLinkNest q.1 q.2.1 q.2.2.1 q.2.2.2.1 q.2.2.2.2 RX4 ∈ lw_tbl := by decide +kernel
set_option maxRecDepth 100000 in
theorem st_m2 : ∀ q ∈ nxm, Cond.methodLinkNest RX4 q.1 q.2 RX4 ∈ lw_tbl := by decide +kernel
set_option maxRecDepth 100000 in
theorem st_m3 : ∀ q ∈ nxc, Cond.castable q q ∈ lw_tbl := by decide +kernel
set_option maxRecDepth 100000 in
theorem st_m4 : ∀ q ∈ nxs, Cond.stringRef RX4 q.1 q.2 ∈ lw_tbl := by decide +kernel
set_option maxRecDepth 100000 in
theorem st_m4b : ∀ q ∈ nxs, Cond.exactly (.string RX4 q.1) "java/lang/String" ∈ flatC (Jvm.Cond.and given_1 narrow_1) := by decide +kernel
set_option maxRecDepth 100000 in
theorem st_m5 : ∀ q ∈ nxd, Cond.declares q ∈ lw_tbl := by decide +kernel
theorem st_nx {args : Array Value} {s : State} (hts0 : ∀ w ∈ lw_tbl, w.before args s = true) (hgv : (Jvm.Cond.and given_1 narrow_1).before args s = true) : NX s := by
  have hs := flat_of_before _ hgv
  refine ⟨fun q hq => va_Nw.of rfl (hts0 _ (st_m1 q hq)), fun q hq => va_Nw.of rfl (hts0 _ (st_m2 q hq)), fun q hq => va_Nw.of rfl (hts0 _ (st_m3 q hq)), fun q hq => ?_, fun q hq => va_Nw.of rfl (hts0 _ (st_m5 q hq)), va_AO.of (hts0 (.arrayOver (.object RX2)) (by decide +kernel))⟩
  obtain ⟨a, _, _, _, he, -⟩ := Cond.exactly_spec (hs _ (st_m4b q hq))
  exact ⟨a, vk_R.of (hts0 _ (st_m4 q hq)) he⟩
theorem st_ar {args : Array Value} {s : State} {ty : FieldType} (hp : ∀ C, ty ≠ .object C) (h : (Cond.arrayClass ty).before args s = true) : ∃ cA : ClassId, ArrOfT s cA ty ∧ va_RA s cA ty := by
  obtain ⟨cA, kA, comp, h1, h2, h3⟩ := Cond.arrayClass_spec h
  refine ⟨cA, fun n z => ⟨(fun k h => by cases h), kA, h2, comp, h3⟩, ?_⟩
  cases ty with
  | object C => exact absurd rfl (hp C)
  | _ => exact h1
theorem st_ao {args : Array Value} {s : State} {C : String} (h : (Cond.arrayOver (.object C)).before args s = true) : ∃ cA : ClassId, ArrOfT s cA (.object C) ∧ va_RA s cA (.object C) := by
  obtain ⟨comp, cA, kA, h1, -, h3, h4, h2⟩ := Cond.arrayOver_spec h
  exact ⟨cA, fun n z => ⟨(fun k h => by cases h), kA, h3, comp, h4⟩, kA, comp, h3, h4, h1, h2⟩
set_option maxHeartbeats 4000000 in
set_option maxRecDepth 100000 in
theorem st_k {args : Array Value} {s : State} (hts0 : ∀ w ∈ lw_tbl, w.before args s = true) : ∃ (D : va_G) (ca : Nat → ClassId), va_K D vwCl (vt ca) s := by
  obtain ⟨c0, i0, k0⟩ := u_known (C := RX0) (T := TX0) (N := 4) (n := 4) hts0 inX0 (hts0 (.instantiable RX0 4) (by decide +kernel))
  obtain ⟨c1, i1, k1⟩ := u_known (C := RX1) (T := TX1) (N := 4) (n := 4) hts0 inX1 (hts0 (.instantiable RX1 4) (by decide +kernel))
  obtain ⟨c2, i2, k2⟩ := u_known (C := RX2) (T := TX2) (N := 5) (n := 5) hts0 inX2 (hts0 (.instantiable RX2 5) (by decide +kernel))
  obtain ⟨c3, i3, k3⟩ := u_known (C := RX3) (T := TX3) (N := 6) (n := 6) hts0 inX3 (hts0 (.instantiable RX3 6) (by decide +kernel))
  obtain ⟨c4, i4, k4⟩ := u_known (C := RX4) (T := TX4) (N := 7) (n := 7) hts0 inX4 (hts0 (.instantiable RX4 7) (by decide +kernel))
  obtain ⟨a0, b0⟩ := st_ar (ty := .int) (fun _ h => by cases h) (hts0 (.arrayClass .int) (by decide +kernel))
  obtain ⟨a1, b1⟩ := st_ar (ty := .byte) (fun _ h => by cases h) (hts0 (.arrayClass .byte) (by decide +kernel))
  obtain ⟨a2, b2⟩ := st_ar (ty := .boolean) (fun _ h => by cases h) (hts0 (.arrayClass .boolean) (by decide +kernel))
  obtain ⟨a4, b4⟩ := st_ao (C := RX2) (hts0 (.arrayOver (.object RX2)) (by decide +kernel))
  refine ⟨(fun k => [c0, c1, c2, c3, c4].getD k c0, fun k => [i0, i1, i2, i3, i4].getD k i0), fun k => [a0, a1, a2, a0, a4].getD k a0, ?_, ?_⟩
  · intro k q hq
    match k, hq with
    | 0, hq => cases hq; exact k0
    | 1, hq => cases hq; exact k1
    | 2, hq => cases hq; exact k2
    | 3, hq => cases hq; exact k3
    | 4, hq => cases hq; exact k4
    | k + 5, hq => simp [vwCl] at hq
  · intro k q hq
    match k, hq with
    | 0, hq => cases hq; exact b0
    | 1, hq => cases hq; exact b1
    | 2, hq => cases hq; exact b2
    | 3, hq => cases hq; exact b0
    | 4, hq => cases hq; exact b4
    | k + 5, hq => simp [vt] at hq
set_option maxHeartbeats 4000000 in
set_option maxRecDepth 100000 in
/-- the walk of the law's body, over what its functions answer -/
theorem whole_open {p : Program} {e : Env} {s : State} {m : MethodId} {below : List Frame} {meth : Method} {c : Code} (l : Launch) (hflags : l.flags = flags0) {b L : Nat} {xs : Nat → Int32} (C0 : lw_At p s m meth c b L xs) (hmath : ∃ τ8 τ0 : Tb, tt_emptyWith tb0 8 = some τ8 ∧ tt_emptyWith tb0 0 = some τ0 ∧ ∀ p o : Nat, p ≠ o → zz_law xs L (rr0 p o τ8 τ0, (fun _ => 0), (fun _ => 0), (fun _ => 0)) = some 1) : W p l e room_1 s m #[Value.ref b] below meth c s.heap [] 0 0 (lw_Z below #[Value.ref b] s) (entryFrame m ([Value.ref b] : List Value).toArray 11) := by
  obtain ⟨τ8, τ0, hf8, hf0, hmath⟩ := hmath
  obtain ⟨hx, hb, hr, hml, hown, hts0, hXs, hbl, hlocks, hgv⟩ := id C0
  have hN : NX s := st_nx hts0 hgv
  obtain ⟨D, ca, hK⟩ := st_k hts0
  have hA : ∀ q : Nat, s.heap.size ≤ q → (fun q : Nat => s.heap.size ≤ q) q := fun _ h => h
  have hbA : ¬ (fun q : Nat => s.heap.size ≤ q) b := Nat.not_le.mpr hbl
  have hts : ∀ w ∈ wsL_law, w.before #[Value.ref b] s = true := fun w h => hts0 w (wsL_law_in w h)
  have hS : va_S (fun q : Nat => s.heap.size ≤ q) s.heap s.heap [] := va_S.rf
  have hP : va_P D vwCl [] s.heap := fun k q h => by simp at h
  have hD : va_D (fun q : Nat => s.heap.size ≤ q) [] := ⟨fun i j p q h => by simp at h, fun k q h => by simp at h⟩
  have hl := lv_entry ([.ref b]) (n := 11) (Nat.le_of_ble_eq_true rfl)
  rw [lg_entry_eq]
  generalize (lg_sl ([.ref b]) ++ List.replicate (11 - (lg_sl ([.ref b])).length) Slot.unset).toArray = ls at hl ⊢
  have hl : lv_has ls 11 [(0, .ref b)] := hl
  refine va_new (ci := 4) (fs := [.null, .null, .null, .null, .null, .int 0, .int 0]) (C := RX4) (T := TX4) (N := 7) hx hb hts0 inX4 tyX4 tyX4_ok hown (hts0 (.classLink RL 15 RX4) (by decide +kernel)) (hts0 (.instantiable RX4 7) (by decide +kernel)) (hts0 (.initialized RX4) (by decide +kernel)) hK hP hD hS hA rfl (fun j hj => by rcases (show j = 0 ∨ j = 1 ∨ j = 2 ∨ j = 3 ∨ j = 4 ∨ j = 5 ∨ j = 6 by omega) with rfl | rfl | rfl | rfl | rfl | rfl | rfl <;> rfl) (Nat.le_of_ble_eq_true rfl) (Nat.le_of_ble_eq_true rfl) dL_law_0 (fun qx H hP hD hS => ?_)
  refine lv_dup hx hb dL_law_3 rfl ?_
  replace hP : va_P D vwCl (([] : va_W) ++ [(qx, .inr (4, [.null, .null, .null, .null, .null, .int 0, .int 0]))]) H := hP
  replace hD : va_D (fun q : Nat => s.heap.size ≤ q) (([] : va_W) ++ [(qx, .inr (4, [.null, .null, .null, .null, .null, .int 0, .int 0]))]) := hD
  refine call_n (As := []) (rest := [.ref qx]) ⟨hx, hb, hml, hown, hts⟩ (tX4_init l D ca qx _ τ8 τ0 hf8 hf0) (cwI 0 hts gL_law_X4_init rfl rfl rfl (hts0 (.initialized RX4) (by decide +kernel)) (hts0 (.methodLink RL 75 yX4_init) (by decide +kernel)) (hts0 (.instanceMethod yX4_init) (by decide +kernel)) rfl (by decide +kernel) ⟨Nat.le_of_ble_eq_true rfl, Nat.le_of_ble_eq_true rfl⟩) hN hK hP hD hA hS (fun _ => fr_last (([] : va_W)) _ _) rfl hl.1 rfl (lv_room (Nat.le_of_ble_eq_true rfl)) dL_law_4 ⟨Nat.le_of_ble_eq_true rfl, Nat.le_of_ble_eq_true rfl⟩ ⟨(fun i => i, fun i j => i, 0, 0)⟩ (fun x1 H locs hP hD hS => ?_)
  obtain ⟨B9, ar, tp, to⟩ := x1
  obtain ⟨B, hBe⟩ : ∃ B, atH qx B9 = B := ⟨_, rfl⟩
  refine W.widen (k := 20) (n := 2611) (Nat.le_of_ble_eq_true rfl) (Nat.le_of_ble_eq_true rfl) ?_
  replace hP : va_P D vwCl (wRR ca B ar (rr0 tp to τ8 τ0)) H := by rw [← hBe]; exact hP
  replace hD : va_D (fun q : Nat => s.heap.size ≤ q) (wRR ca B ar (rr0 tp to τ8 τ0)) := by rw [← hBe]; exact hD
  rw [show qx = B 0 by rw [← hBe]; rfl]
  refine lv_astore_n (lv' := [(1, .ref (B 0)), (0, .ref b)]) hx hb dL_law_7 rfl hl (by decide) rfl (fun ls hl => ?_)
  refine lv_bipush (v := 64) hx hb dL_law_8 (by decide) ?_
  refine va_newa (atype := .int) (ty := .int) (a0 := (64, .inl (fun _ => 0))) hx hb (hts0 (.arrayClass .int) (by decide +kernel)) rfl hK hP hD hS hA (fun _ => rfl) (by decide) (N' := 64) rfl (Nat.le_of_ble_eq_true rfl) (Nat.le_of_ble_eq_true rfl) (Nat.le_of_ble_eq_true rfl) dL_law_10 (fun e0 cA H hK9 hP hD hS => ?_)
  obtain rfl : cA = ca 0 := ca_same hK9 (k := 0) rfl
  clear hK9
  refine W.widen (k := 21) (n := 2675) (Nat.le_of_ble_eq_true rfl) (Nat.le_of_ble_eq_true rfl) ?_
  refine lv_astore_n (lv' := [(2, .ref e0), (1, .ref (B 0)), (0, .ref b)]) hx hb dL_law_12 rfl hl (by decide) rfl (fun ls hl => ?_)
  refine lv_bipush (v := 64) hx hb dL_law_13 (by decide) ?_
  refine va_newa (atype := .int) (ty := .int) (a0 := (64, .inl (fun _ => 0))) hx hb (hts0 (.arrayClass .int) (by decide +kernel)) rfl hK hP hD hS hA (fun _ => rfl) (by decide) (N' := 64) rfl (Nat.le_of_ble_eq_true rfl) (Nat.le_of_ble_eq_true rfl) (Nat.le_of_ble_eq_true rfl) dL_law_15 (fun e1 cA H hK9 hP hD hS => ?_)
  obtain rfl : cA = ca 0 := ca_same hK9 (k := 0) rfl
  clear hK9
  refine W.widen (k := 22) (n := 2739) (Nat.le_of_ble_eq_true rfl) (Nat.le_of_ble_eq_true rfl) ?_
  refine lv_astore_n (lv' := [(3, .ref e1), (2, .ref e0), (1, .ref (B 0)), (0, .ref b)]) hx hb dL_law_17 rfl hl (by decide) rfl (fun ls hl => ?_)
  refine lv_iconst (v := 1) hx hb dL_law_18 (by decide) ?_
  refine va_newa (atype := .int) (ty := .int) (a0 := (1, .inl (fun _ => 0))) hx hb (hts0 (.arrayClass .int) (by decide +kernel)) rfl hK hP hD hS hA (fun _ => rfl) (by decide) (N' := 1) rfl (Nat.le_of_ble_eq_true rfl) (Nat.le_of_ble_eq_true rfl) (Nat.le_of_ble_eq_true rfl) dL_law_19 (fun e2 cA H hK9 hP hD hS => ?_)
  obtain rfl : cA = ca 0 := ca_same hK9 (k := 0) rfl
  clear hK9
  refine W.widen (k := 23) (n := 2740) (Nat.le_of_ble_eq_true rfl) (Nat.le_of_ble_eq_true rfl) ?_
  refine lv_astore (lv' := [(4, .ref e2), (3, .ref e1), (2, .ref e0), (1, .ref (B 0)), (0, .ref b)]) hx hb dL_law_21 hl (by decide) rfl (fun ls hl => ?_)
  have hne : tp ≠ to := fun z => absurd (hD.1 10 15 _ _ rfl rfl z) (by decide)
  obtain ⟨E, hE0, hE1, hE2⟩ : ∃ E : Nat → Nat, E 0 = e0 ∧ E 1 = e1 ∧ E 2 = e2 := ⟨fun i => if i = 0 then e0 else if i = 1 then e1 else e2, rfl, rfl, rfl⟩
  subst hE0
  subst hE1
  subst hE2
  have hP : va_P D vwCl (wH ca B ar E (rr0 tp to τ8 τ0, (fun _ => 0), (fun _ => 0), (fun _ => 0))) H := hP.sub [0, 1, 2, 3, 4, 5, 6, 7, 8, 9, 10, 11, 12, 13, 14, 15, 16, 17, 18, 19, 20, 21, 22] rfl
  have hD : va_D (fun q : Nat => s.heap.size ≤ q) (wH ca B ar E (rr0 tp to τ8 τ0, (fun _ => 0), (fun _ => 0), (fun _ => 0))) := hD.sub [0, 1, 2, 3, 4, 5, 6, 7, 8, 9, 10, 11, 12, 13, 14, 15, 16, 17, 18, 19, 20, 21, 22] (by decide) rfl
  exact law_main C0 hN hbA hA (fun _ h => h) hK (by omega) (by omega) _ _ _ _ (hmath tp to hne) hP hD hS hl
end
