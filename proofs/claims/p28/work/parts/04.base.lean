/-! my own base: contracts with one world before and one behind, calls by a frame that a list of places gives, steps of the functions that the methods compute -/
theorem ob {α β : Type} {o : Option α} {f : α → Option β} {r : β} (h : o.bind f = some r) : ∃ a, o = some a ∧ f a = some r := by
  cases o with
  | none => cases h
  | some a => exact ⟨a, rfl, h⟩
def nm {α β : Type} (x : α) (f : α → Option β) : Option β := f x
theorem nm_ob {α β : Type} {x : α} {f : α → Option β} {r : β} (h : nm x f = some r) : ∃ a, x = a ∧ f a = some r := ⟨x, rfl, h⟩
def bd {α β : Type} (o : Option α) (f : α → Option β) : Option β := o.bind f
theorem bd_ob {α β : Type} {o : Option α} {f : α → Option β} {r : β} (h : bd o f = some r) : ∃ a, o = some a ∧ f a = some r := ob h
def bd2 {α β γ : Type} (o : Option (α × β)) (f : α → β → Option γ) : Option γ := o.bind fun z => f z.1 z.2
theorem bd2_ob {α β γ : Type} {o : Option (α × β)} {f : α → β → Option γ} {r : γ} (h : bd2 o f = some r) : ∃ a b, o = some (a, b) ∧ f a b = some r := by
  obtain ⟨⟨a, b⟩, h1, h2⟩ := ob h
  exact ⟨a, b, h1, h2⟩
/-- a place of a row of n is looked at -/
def gd {α : Type} (i : Int32) (n : Nat) (x : Option α) : Option α := if ¬ (i < 0 ∨ n ≤ i.toNatClampNeg) then x else none
theorem gd_ob {α : Type} {i : Int32} {n : Nat} {x : Option α} {r : α} (h : gd i n x = some r) : vp_in i n ∧ x = some r := by
  unfold gd at h
  by_cases q : ¬ (i < 0 ∨ n ≤ i.toNatClampNeg)
  · rw [if_pos q] at h
    exact ⟨q, h⟩
  · rw [if_neg q] at h
    cases h
theorem gd_of {α : Type} {i : Int32} {n : Nat} {x : Option α} (h : vp_in i n) : gd i n x = x := by
  unfold gd
  exact if_pos h
/-- a number that must fit a narrow type -/
def gn {α : Type} (ty : FieldType) (v : Int32) (x : Option α) : Option α := if vp_nar ty v = v then x else none
theorem gn_ob {α : Type} {ty : FieldType} {v : Int32} {x : Option α} {r : α} (h : gn ty v x = some r) : vp_nar ty v = v ∧ x = some r := by
  unfold gn at h
  by_cases q : vp_nar ty v = v
  · rw [if_pos q] at h
    exact ⟨q, h⟩
  · rw [if_neg q] at h
    cases h
theorem gn_of {α : Type} {ty : FieldType} {v : Int32} {x : Option α} (h : vp_nar ty v = v) : gn ty v x = x := by
  unfold gn
  exact if_pos h
theorem it_p {α : Type} {c : Prop} {_ : Decidable c} {a b : α} {r : α} (h : c) (hf : (if c then a else b) = r) : a = r := by
  rw [if_pos h] at hf
  exact hf
theorem it_n {α : Type} {c : Prop} {_ : Decidable c} {a b : α} {r : α} (h : ¬ c) (hf : (if c then a else b) = r) : b = r := by
  rw [if_neg h] at hf
  exact hf
theorem so1 {α : Type} {a b : α} (h : some a = some b) : a = b := Option.some.inj h
theorem so2 {α β : Type} {a c : α} {b d : β} (h : some (a, b) = some (c, d)) : a = c ∧ b = d := by
  cases h
  exact ⟨rfl, rfl⟩
/-- how many rounds any loop gets -/
def FU : Nat := 1024
/-- the array classes, in one order -/
def vt (ca : Nat → ClassId) : List (ClassId × FieldType) := [(ca 0, .int), (ca 1, .byte), (ca 2, .boolean), (ca 3, .int), (ca 4, .object RX2)]
/-- links between nest mates, which no list of words has -/
def nxf : List (String × Nat × String × String × String) := [(RX1, 22, "RobinRow$Table", "slots", "I"), (RX0, 46, "RobinRow$Table", "slots", "I"), (RX4, 110, "RobinRow$Table", "count", "I"), (RX4, 168, "RobinRow$Table", "slots", "I"), (RX4, 193, "RobinRow$Search", "groups", "I"), (RX4, 196, "RobinRow$Search", "comparisons", "I"), (RX4, 216, "RobinRow$PlainRow", "total", "I"), (RX4, 219, "RobinRow$PlainRow", "longest", "I"), (RX4, 87, "RobinRow$Search", "table", "LRobinRow$Table;"), (RX4, 90, "RobinRow$Search", "slot", "I")]
def nxm : List (Nat × MethodName) := [(17, yX1_init), (24, yX0_init), (41, yX2_init)]
def nxc : List String := []
def nxs : List (Nat × String) := []
def nxd : List MethodName := []
def NX (U : State) : Prop := (∀ q ∈ nxf, va_Nw (.fieldLinkNest q.1 q.2.1 q.2.2.1 q.2.2.2.1 q.2.2.2.2 RX4) U) ∧ (∀ q ∈ nxm, va_Nw (.methodLinkNest RX4 q.1 q.2 RX4) U) ∧ (∀ q ∈ nxc, va_Nw (.castable q q) U) ∧ (∀ q ∈ nxs, ∃ a : Nat, vk_R RX4 q.1 q.2 a U) ∧ (∀ q ∈ nxd, va_Nw (.declares q) U) ∧ va_AO RX2 U
theorem NX.warm {s U : State} (hW : s.WarmedH U.vm) (h : NX s) : NX U := ⟨fun q hq => va_Nw.warmF hW (h.1 q hq), fun q hq => va_Nw.warmM hW (h.2.1 q hq), fun q hq => va_Nw.warmC hW (h.2.2.1 q hq), fun q hq => (h.2.2.2.1 q hq).elim fun a ha => ⟨a, vk_R.warm hW ha⟩, fun q hq => va_Nw.warmD hW (h.2.2.2.2.1 q hq), va_AO.moved hW.alike h.2.2.2.2.2⟩
theorem NX.same {s U : State} (hv : s.vm = U.vm) (h : NX s) : NX U := ⟨fun q hq => va_Nw.same rfl hv (h.1 q hq), fun q hq => va_Nw.same rfl hv (h.2.1 q hq), fun q hq => va_Nw.same rfl hv (h.2.2.1 q hq), fun q hq => (h.2.2.2.1 q hq).elim fun a ha => ⟨a, vk_R.same hv.symm ha⟩, fun q hq => va_Nw.same rfl hv (h.2.2.2.2.1 q hq), va_AO.moved (by rw [hv]; exact Vm.Alike.refl _) h.2.2.2.2.2⟩
def Pw (D : va_G) (ca : Nat → ClassId) (ws : va_W) (sz : Nat) (U : State) : Prop := U.heap.size = sz ∧ va_P D vwCl ws U.heap ∧ va_K D vwCl (vt ca) U ∧ va_D (fun _ => True) ws ∧ NX U
def Aw (D : va_G) (ca : Nat → ClassId) (A : Nat → Prop) (ws : va_W) (t : State) : Prop := va_P D vwCl ws t.heap ∧ va_K D vwCl (vt ca) t ∧ va_D A ws
theorem Pw_blind {D : va_G} {ca : Nat → ClassId} {ws : va_W} {sz : Nat} {av : List Value} : FrameBlind (va_Pc av (Pw D ca ws sz)) := by
  intro a U g mk q
  obtain ⟨q0, q1, qP, qK, qD, qN⟩ := q
  exact ⟨q0, q1, qP, va_K.moved (u := U) (U := U.calling g mk a) (Vm.Alike.refl U.vm) qK, qD, NX.same (s := U) (U := U.calling g mk a) rfl qN⟩
def Qi (D : va_G) (ca : Nat → ClassId) (r : Int32) (ws' : va_W) (A : Nat → Prop) : Array Value → State → Outcome → State → Prop := va_Qi (fun (r' : Int32) (_ : Unit) => r' = r) (fun _ t => Aw D ca A ws' t) A
def Ql (D : va_G) (ca : Nat → ClassId) (r : Int64) (ws' : va_W) (A : Nat → Prop) : Array Value → State → Outcome → State → Prop := va_Ql (fun (r' : Int64) (_ : Unit) => r' = r) (fun _ t => Aw D ca A ws' t) A
def Qv (D : va_G) (ca : Nat → ClassId) (ws' : va_W) (A : Nat → Prop) : Array Value → State → Outcome → State → Prop := va_Qv (fun (_ : Unit) => True) (fun _ t => Aw D ca A ws' t) A
/-- contracts: an int (a truth, a byte), a long, nothing -/
def Ci (l : Launch) (D : va_G) (ca : Nat → ClassId) (y : MethodName) (wy : List Cond) (rm : Room) (av : List Value) (ws : va_W) (sz : Nat) (r : Int32) (ws' : va_W) : Prop := Met l y wy rm (va_Pc av (Pw D ca ws sz)) (Qi D ca r ws' (va_A ws sz)) 0 0 (va_A ws sz)
def Cl (l : Launch) (D : va_G) (ca : Nat → ClassId) (y : MethodName) (wy : List Cond) (rm : Room) (av : List Value) (ws : va_W) (sz : Nat) (r : Int64) (ws' : va_W) : Prop := Met l y wy rm (va_Pc av (Pw D ca ws sz)) (Ql D ca r ws' (va_A ws sz)) 0 0 (va_A ws sz)
def Cv (l : Launch) (D : va_G) (ca : Nat → ClassId) (y : MethodName) (wy : List Cond) (rm : Room) (av : List Value) (ws : va_W) (sz : Nat) (ws' : va_W) : Prop := Met l y wy rm (va_Pc av (Pw D ca ws sz)) (Qv D ca ws' (va_A ws sz)) 0 0 (va_A ws sz)
def Qr (D : va_G) (ca : Nat → ClassId) (r : Nat) (ws' : va_W) (A : Nat → Prop) : Array Value → State → Outcome → State → Prop := va_Qr (fun (_ : Unit) => True) (fun _ a t => a = r ∧ Aw D ca A ws' t) A
def Cr (l : Launch) (D : va_G) (ca : Nat → ClassId) (y : MethodName) (wy : List Cond) (rm : Room) (av : List Value) (ws : va_W) (sz : Nat) (r : Nat) (ws' : va_W) : Prop := Met l y wy rm (va_Pc av (Pw D ca ws sz)) (Qr D ca r ws' (va_A ws sz)) 0 0 (va_A ws sz)
/-- a method's body, from its entry -/
theorem body_of {l : Launch} {D : va_G} {ca : Nat → ClassId} {y : MethodName} {wy wy' : List Cond} {rm : Room} {av : List Value} {ws : va_W} {sz : Nat} {cc : ByteArray} {maxL : Nat} {ret : Option FieldType} (Qc : (Nat → Prop) → Array Value → State → Outcome → State → Prop)
    (hy : plainName y.cls = true) (hw : wy = Cond.code y cc maxL ret :: wy') (hlen : (lg_sl av).length ≤ maxL)
    (body : ∀ (p : Program) (e : Env) (s : State) (m : MethodId) (below : List Frame) (meth : Method) (c : Code) (A : Nat → Prop) (ls : Array Slot), p.tables.exec = Jvm.exec → c.code = cc → meth.sig.returnType = ret → c.maxLocals = maxL → (∀ w ∈ wy, w.before av.toArray s = true) → s.vm.findClass y.cls = some m.cls → meth.locks = false → (∀ q : Nat, s.heap.size ≤ q → A q) → va_K D vwCl (vt ca) s → va_P D vwCl ws s.heap → va_D A ws → va_S A s.heap s.heap [] → lv_has ls maxL (lv_args 0 av) → NX s →
      W p l e rm s m av.toArray below meth c s.heap [] 0 0 (MQ below (Qc A) av.toArray s 0 0 A) (F0 m 0 ls [])) : Met l y wy rm (va_Pc av (Pw D ca ws sz)) (Qc (va_A ws sz)) 0 0 (va_A ws sz) := by
  refine Met.ofW (cc := cc) (maxL := maxL) (ret := ret) hy hw ?_
  intro p e s m args below meth c s₁ B hml hv
  obtain ⟨rfl, hsz, hP, hK, hD0, hN⟩ := hv
  subst hsz
  have hD := hD0.self (sz := s.heap.size)
  rw [lg_entry_eq]
  exact body p e s m below meth c (va_A ws s.heap.size) _ B.exec B.bytes B.returns hml (atoms_spec (ws := wy) B.pre) (findClass_of_methodNamed B.named) B.notSynchronized (fun q h => Or.inr h) hK hP hD va_S.rf (lv_entry av hlen) hN
section RT
variable {p : Program} {l : Launch} {e : Env} {R : Room} {s : State} {m : MethodId} {args : Array Value} {below : List Frame} {meth : Method} {c : Code} {H : Heap} {locs : List Loc} {cells slots : Nat} {D : va_G} {ca : Nat → ClassId} {A : Nat → Prop} {ws ws' : va_W} {cc : ByteArray} {pc : Nat} {ls : Array Slot}
theorem ret_i {r : Int32} (hx : p.tables.exec = Jvm.exec) (hb : c.code = cc) (hr : meth.sig.returnType = some .int) (hlocks : meth.locks = false) (hK : va_K D vwCl (vt ca) s) (hP : va_P D vwCl ws' H) (hD : va_D A ws') (hS : va_S A s.heap H locs) (hdg : decode cc pc = .ok (.ireturn, 1)) : W p l e R s m args below meth c H locs cells slots (MQ below (Qi D ca r ws' A) args s cells slots A) (F0 m pc ls [.int r]) :=
  W.iret hx hb hr (fun t ht hW => ⟨⟨r, (), rfl, rfl, by rw [ht]; exact hP, va_K.moved hW.alike hK, hD⟩, hS.F ht⟩) hS.2.2 hdg
theorem ret_z {r : Int32} {ty : FieldType} (hx : p.tables.exec = Jvm.exec) (hb : c.code = cc) (hr : meth.sig.returnType = some ty) (hn : narrow ty (.int r) = .int r) (hlocks : meth.locks = false) (hK : va_K D vwCl (vt ca) s) (hP : va_P D vwCl ws' H) (hD : va_D A ws') (hS : va_S A s.heap H locs) (hdg : decode cc pc = .ok (.ireturn, 1)) : W p l e R s m args below meth c H locs cells slots (MQ below (Qi D ca r ws' A) args s cells slots A) (F0 m pc ls [.int r]) :=
  W.zret hx hb hr hn (fun t ht hW => ⟨⟨r, (), rfl, rfl, by rw [ht]; exact hP, va_K.moved hW.alike hK, hD⟩, hS.F ht⟩) hS.2.2 hdg
theorem ret_l {r : Int64} (hx : p.tables.exec = Jvm.exec) (hb : c.code = cc) (hr : meth.sig.returnType = some .long) (hlocks : meth.locks = false) (hK : va_K D vwCl (vt ca) s) (hP : va_P D vwCl ws' H) (hD : va_D A ws') (hS : va_S A s.heap H locs) (hdg : decode cc pc = .ok (.lreturn, 1)) : W p l e R s m args below meth c H locs cells slots (MQ below (Ql D ca r ws' A) args s cells slots A) (F0 m pc ls [.long r]) :=
  W.lret hx hb hr (fun t ht hW => ⟨⟨r, (), rfl, rfl, by rw [ht]; exact hP, va_K.moved hW.alike hK, hD⟩, hS.F ht⟩) hS.2.2 hdg
theorem ret_v (hx : p.tables.exec = Jvm.exec) (hb : c.code = cc) (hr : meth.sig.returnType = none) (hlocks : meth.locks = false) (hK : va_K D vwCl (vt ca) s) (hP : va_P D vwCl ws' H) (hD : va_D A ws') (hS : va_S A s.heap H locs) (hdg : decode cc pc = .ok (.return_, 1)) : W p l e R s m args below meth c H locs cells slots (MQ below (Qv D ca ws' A) args s cells slots A) (F0 m pc ls []) :=
  W.vret hx hb hr (fun t ht hW => ⟨⟨(), rfl, trivial, by rw [ht]; exact hP, va_K.moved hW.alike hK, hD⟩, hS.F ht⟩) hS.2.2 hdg
theorem ret_r {r : Nat} {rt : FieldType} (hx : p.tables.exec = Jvm.exec) (hb : c.code = cc) (hr : meth.sig.returnType = some rt) (hrt : ∃ n, rt = .object n) (hlocks : meth.locks = false) (hK : va_K D vwCl (vt ca) s) (hP : va_P D vwCl ws' H) (hD : va_D A ws') (hS : va_S A s.heap H locs) (hdg : decode cc pc = .ok (.areturn, 1)) : W p l e R s m args below meth c H locs cells slots (MQ below (Qr D ca r ws' A) args s cells slots A) (F0 m pc ls [.ref r]) :=
  W.aret hx hb hr (Or.inl hrt) (Or.inr ⟨r, rfl⟩) (fun t ht hW => ⟨⟨(), r, rfl, trivial, rfl, by rw [ht]; exact hP, va_K.moved hW.alike hK, hD⟩, hS.F ht⟩) hS.2.2 hdg
theorem tp_i {x y : Int32} {rest : List Value} {Q : State → Prop} (h : x = y) (k : W p l e R s m args below meth c H locs cells slots Q (F0 m pc ls (.int y :: rest))) : W p l e R s m args below meth c H locs cells slots Q (F0 m pc ls (.int x :: rest)) := by
  rw [h]
  exact k
theorem tp_l {x y : Int64} {rest : List Value} {Q : State → Prop} (h : x = y) (k : W p l e R s m args below meth c H locs cells slots Q (F0 m pc ls (.long y :: rest))) : W p l e R s m args below meth c H locs cells slots Q (F0 m pc ls (.long x :: rest)) := by
  rw [h]
  exact k
end RT
/-! the frame: a callee's world out of the caller's, by places, and back -/
def Fr (ws wc w1 ws2 : va_W) : Prop := ∃ (isC isR perm : List Nat) (wr : va_W), isC.map (fun i => ws[i]?) = wc.map some ∧ va_nd isC = true ∧ isR.map (fun i => ws[i]?) = wr.map some ∧ va_nd isR = true ∧ (∀ i ∈ isR, i ∉ isC) ∧ perm.map (fun i => (wr ++ w1)[i]?) = ws2.map some ∧ va_nd perm = true
theorem fm_of_map {α β : Type} {f : α → Option β} : ∀ {l : List α} {w : List β}, l.map f = w.map some → l.filterMap f = w
  | [], [], _ => rfl
  | [], _ :: _, h => by simp at h
  | _ :: _, [], h => by simp at h
  | a :: l, b :: w, h => by
    simp only [List.map_cons, List.cons.injEq] at h
    rw [List.filterMap_cons, h.1]
    exact congrArg (b :: ·) (fm_of_map h.2)
theorem va_nd_of : ∀ {l : List Nat}, l.Nodup → va_nd l = true
  | [], _ => rfl
  | a :: l, h => by
    have h2 := List.nodup_cons.mp h
    simp only [va_nd, Bool.and_eq_true, decide_eq_true_eq]
    exact ⟨h2.1, va_nd_of h2.2⟩
theorem rg_map (ws : va_W) : (List.range ws.length).map (fun i => ws[i]?) = ws.map some := by
  apply List.ext_getElem?
  intro i
  rw [List.getElem?_map, List.getElem?_map]
  by_cases h : i < ws.length
  · rw [List.getElem?_range h, List.getElem?_eq_getElem h]
    simp [h]
  · rw [List.getElem?_eq_none (by simpa using h), List.getElem?_eq_none (by omega)]
    rfl
theorem fr_id (ws w1 : va_W) : Fr ws ws w1 w1 :=
  ⟨List.range ws.length, [], List.range w1.length, [], rg_map ws, va_nd_of List.nodup_range, rfl, rfl, (fun i h => absurd h List.not_mem_nil), rg_map w1, va_nd_of List.nodup_range⟩
/-- a callee without a world -/
theorem fr_no (ws : va_W) : Fr ws [] [] ws :=
  ⟨[], List.range ws.length, List.range ws.length, ws, rfl, rfl, rg_map ws, va_nd_of List.nodup_range, (fun i _ h => absurd h List.not_mem_nil), (by rw [List.append_nil]; exact rg_map ws), va_nd_of List.nodup_range⟩
theorem Fr.use {A0 : Nat → Prop} {D : va_G} {ws wc w1 ws2 : va_W} {H H0 : Heap} {locs : List Loc} (h : Fr ws wc w1 ws2) (hP : va_P D vwCl ws H) (hD : va_D A0 ws) (hS : va_S A0 H0 H locs) (hA : ∀ q : Nat, H0.size ≤ q → A0 q) :
    va_P D vwCl wc H ∧ va_D A0 wc ∧ (∀ q, va_A wc H.size q → A0 q) ∧ ∀ H1 : Heap, (∀ q : Nat, q < H.size → ¬ va_A wc H.size q → H1[q]? = H[q]?) → va_P D vwCl w1 H1 → va_D (va_A wc H.size) w1 → va_P D vwCl ws2 H1 ∧ va_D A0 ws2 := by
  obtain ⟨isC, isR, perm, wr, h1, h2, h3, h4, h5, h6, h7⟩ := h
  refine ⟨hP.sub isC (fm_of_map h1), hD.sub isC h2 h1, va_free hD hS hA isC h1, fun H1 hk hP1 hD1 => ?_⟩
  obtain ⟨a, b⟩ := va_join hP hD isC isR h1 h3 h4 h5 hk (va_free hD hS hA isC h1) hP1 hD1
  exact ⟨a.sub perm (fm_of_map h6), b.sub perm h7 h6⟩
section CALLS
variable {p : Program} {l : Launch} {e : Env} {R : Room} {s : State} {m : MethodId} {args : Array Value} {below : List Frame} {meth : Method} {c : Code} {H : Heap} {locs : List Loc} {cells slots : Nat} {Q : State → Prop} {D : va_G} {ca : Nat → ClassId} {A : Nat → Prop} {ws wc w1 ws2 : va_W} {cc bytes : ByteArray} {pc nL maxL index n : Nat} {ls : Array Slot} {st0 rest As : List Value} {Ts wy : List Cond} {own C : String} {y : MethodName} {ret : Option FieldType} {rm : Room} {b ci : Nat} {fs : List Value} {T3 : u_T} {N3 : Nat}
theorem pre_V (hN : NX s) (hK : va_K D vwCl (vt ca) s) (hPc : va_P D vwCl wc H) (hDc : va_D A wc) (hq : wc[0]? = some (b, .inr (ci, fs))) (hci : vwCl[ci]? = some (C, T3, N3)) : PreV s H C b (va_Pc (.ref b :: As) (Pw D ca wc H.size)) As :=
  ⟨Pw_blind, va_recv hK hPc hci hq, fun U hU hW => ⟨rfl, by rw [hU], by rw [hU]; exact hPc, va_K.moved hW.alike hK, hDc.weaken (fun _ _ _ _ => trivial), hN.warm hW⟩⟩
theorem pre_S (hN : NX s) (hK : va_K D vwCl (vt ca) s) (hPc : va_P D vwCl wc H) (hDc : va_D A wc) : PreS s H (va_Pc As (Pw D ca wc H.size)) As :=
  ⟨Pw_blind, fun U hU hW => ⟨rfl, by rw [hU], by rw [hU]; exact hPc, va_K.moved hW.alike hK, hDc.weaken (fun _ _ _ _ => trivial), hN.warm hW⟩⟩
theorem call_r {r : Nat} (S : CallFix p m c cc nL s args Ts own) (hM : Cr l D ca y wy rm (.ref b :: As) wc H.size r w1) (cw : CallW R s args own C index y bytes maxL ret wy rm 0 0 n) (hN : NX s) (hK : va_K D vwCl (vt ca) s) (hP : va_P D vwCl ws H) (hD : va_D A ws) (hA : ∀ q : Nat, s.heap.size ≤ q → A q) (hS : va_S A s.heap H locs) (hF : Fr ws wc w1 ws2) (hq : wc[0]? = some (b, .inr (ci, fs))) (hci : vwCl[ci]? = some (C, T3, N3)) (hn : As.length = n) (hsize : ls.size = nL) (hst : st0 = As.reverse ++ .ref b :: rest) (hW : 2 * (F0 m pc ls st0).monitorRoom + (rest.map fun v => v.category).sum ≤ 8) (hdg : decode cc pc = .ok (.invokevirtual index, 3)) (hf : cells + 0 ≤ R.cells ∧ slots + 0 ≤ R.slots)
    (kk : ∀ (H1 : Heap) (locs1 : List Loc), va_P D vwCl ws2 H1 → va_D A ws2 → va_S A s.heap H1 locs1 → W p l e R s m args below meth c H1 locs1 cells slots Q (F0 m (pc + 3) ls (.ref r :: rest))) : W p l e R s m args below meth c H locs cells slots Q (F0 m pc ls st0) := by
  obtain ⟨hPc, hDc, hFc, hback⟩ := hF.use hP hD hS hA
  refine va_callr (va_runV (As := As) (rest := rest) S hM cw (pre_V hN hK hPc hDc hq hci) rfl hn hsize hst hW hdg hf) hS (fun q _ h => hFc q h) hFc (fun u r1 t H1 locs1 ht hvm hw hB hz1 hk1 hS1 => ?_)
  obtain ⟨rfl, hP1, hK1, hD1⟩ := hB
  rw [ht] at hP1
  obtain ⟨a1, a2⟩ := hback H1 hk1 hP1 hD1
  exact kk H1 locs1 a1 a2 hS1
theorem call_i {r : Int32} (S : CallFix p m c cc nL s args Ts own) (hM : Ci l D ca y wy rm (.ref b :: As) wc H.size r w1) (cw : CallW R s args own C index y bytes maxL ret wy rm 0 0 n) (hN : NX s) (hK : va_K D vwCl (vt ca) s) (hP : va_P D vwCl ws H) (hD : va_D A ws) (hA : ∀ q : Nat, s.heap.size ≤ q → A q) (hS : va_S A s.heap H locs) (hF : Fr ws wc w1 ws2) (hq : wc[0]? = some (b, .inr (ci, fs))) (hci : vwCl[ci]? = some (C, T3, N3)) (hn : As.length = n) (hsize : ls.size = nL) (hst : st0 = As.reverse ++ .ref b :: rest) (hW : 2 * (F0 m pc ls st0).monitorRoom + (rest.map fun v => v.category).sum ≤ 8) (hdg : decode cc pc = .ok (.invokevirtual index, 3)) (hf : cells + 0 ≤ R.cells ∧ slots + 0 ≤ R.slots)
    (kk : ∀ (H1 : Heap) (locs1 : List Loc), va_P D vwCl ws2 H1 → va_D A ws2 → va_S A s.heap H1 locs1 → W p l e R s m args below meth c H1 locs1 cells slots Q (F0 m (pc + 3) ls (.int r :: rest))) : W p l e R s m args below meth c H locs cells slots Q (F0 m pc ls st0) := by
  obtain ⟨hPc, hDc, hFc, hback⟩ := hF.use hP hD hS hA
  refine va_calli (va_runV (As := As) (rest := rest) S hM cw (pre_V hN hK hPc hDc hq hci) rfl hn hsize hst hW hdg hf) hS (fun q _ h => hFc q h) hFc (fun r1 u t H1 locs1 ht hvm hw hB hz1 hk1 hS1 => ?_)
  obtain ⟨hP1, hK1, hD1⟩ := hB
  rw [ht] at hP1
  obtain ⟨a1, a2⟩ := hback H1 hk1 hP1 hD1
  obtain rfl : r1 = r := hw
  exact kk H1 locs1 a1 a2 hS1
theorem call_l {r : Int64} (S : CallFix p m c cc nL s args Ts own) (hM : Cl l D ca y wy rm (.ref b :: As) wc H.size r w1) (cw : CallW R s args own C index y bytes maxL ret wy rm 0 0 n) (hN : NX s) (hK : va_K D vwCl (vt ca) s) (hP : va_P D vwCl ws H) (hD : va_D A ws) (hA : ∀ q : Nat, s.heap.size ≤ q → A q) (hS : va_S A s.heap H locs) (hF : Fr ws wc w1 ws2) (hq : wc[0]? = some (b, .inr (ci, fs))) (hci : vwCl[ci]? = some (C, T3, N3)) (hn : As.length = n) (hsize : ls.size = nL) (hst : st0 = As.reverse ++ .ref b :: rest) (hW : 2 * (F0 m pc ls st0).monitorRoom + (rest.map fun v => v.category).sum ≤ 8) (hdg : decode cc pc = .ok (.invokevirtual index, 3)) (hf : cells + 0 ≤ R.cells ∧ slots + 0 ≤ R.slots)
    (kk : ∀ (H1 : Heap) (locs1 : List Loc), va_P D vwCl ws2 H1 → va_D A ws2 → va_S A s.heap H1 locs1 → W p l e R s m args below meth c H1 locs1 cells slots Q (F0 m (pc + 3) ls (.long r :: rest))) : W p l e R s m args below meth c H locs cells slots Q (F0 m pc ls st0) := by
  obtain ⟨hPc, hDc, hFc, hback⟩ := hF.use hP hD hS hA
  refine va_calll (va_runV (As := As) (rest := rest) S hM cw (pre_V hN hK hPc hDc hq hci) rfl hn hsize hst hW hdg hf) hS (fun q _ h => hFc q h) hFc (fun r1 u t H1 locs1 ht hvm hw hB hz1 hk1 hS1 => ?_)
  obtain ⟨hP1, hK1, hD1⟩ := hB
  rw [ht] at hP1
  obtain ⟨a1, a2⟩ := hback H1 hk1 hP1 hD1
  obtain rfl : r1 = r := hw
  exact kk H1 locs1 a1 a2 hS1
theorem call_v (S : CallFix p m c cc nL s args Ts own) (hM : Cv l D ca y wy rm (.ref b :: As) wc H.size w1) (cw : CallW R s args own C index y bytes maxL ret wy rm 0 0 n) (hN : NX s) (hK : va_K D vwCl (vt ca) s) (hP : va_P D vwCl ws H) (hD : va_D A ws) (hA : ∀ q : Nat, s.heap.size ≤ q → A q) (hS : va_S A s.heap H locs) (hF : Fr ws wc w1 ws2) (hq : wc[0]? = some (b, .inr (ci, fs))) (hci : vwCl[ci]? = some (C, T3, N3)) (hn : As.length = n) (hsize : ls.size = nL) (hst : st0 = As.reverse ++ .ref b :: rest) (hW : 2 * (F0 m pc ls st0).monitorRoom + (rest.map fun v => v.category).sum ≤ 8) (hdg : decode cc pc = .ok (.invokevirtual index, 3)) (hf : cells + 0 ≤ R.cells ∧ slots + 0 ≤ R.slots)
    (kk : ∀ (H1 : Heap) (locs1 : List Loc), va_P D vwCl ws2 H1 → va_D A ws2 → va_S A s.heap H1 locs1 → W p l e R s m args below meth c H1 locs1 cells slots Q (F0 m (pc + 3) ls rest)) : W p l e R s m args below meth c H locs cells slots Q (F0 m pc ls st0) := by
  obtain ⟨hPc, hDc, hFc, hback⟩ := hF.use hP hD hS hA
  refine va_callv (va_runV (As := As) (rest := rest) S hM cw (pre_V hN hK hPc hDc hq hci) rfl hn hsize hst hW hdg hf) hS (fun q _ h => hFc q h) hFc (fun u t H1 locs1 ht hvm hw hB hz1 hk1 hS1 => ?_)
  obtain ⟨hP1, hK1, hD1⟩ := hB
  rw [ht] at hP1
  obtain ⟨a1, a2⟩ := hback H1 hk1 hP1 hD1
  exact kk H1 locs1 a1 a2 hS1
theorem call_si {r : Int32} (S : CallFix p m c cc nL s args Ts own) (hM : Ci l D ca y wy rm As wc H.size r w1) (cw : CallB R s args own index y bytes maxL ret wy rm 0 0 n ∧ (Cond.static y).before args s = true) (hN : NX s) (hK : va_K D vwCl (vt ca) s) (hP : va_P D vwCl ws H) (hD : va_D A ws) (hA : ∀ q : Nat, s.heap.size ≤ q → A q) (hS : va_S A s.heap H locs) (hF : Fr ws wc w1 ws2) (hn : As.length = n) (hsize : ls.size = nL) (hst : st0 = As.reverse ++ rest) (hW : 2 * (F0 m pc ls st0).monitorRoom + (rest.map fun v => v.category).sum ≤ 8) (hdg : decode cc pc = .ok (.invokestatic index, 3)) (hf : cells + 0 ≤ R.cells ∧ slots + 0 ≤ R.slots)
    (kk : ∀ (H1 : Heap) (locs1 : List Loc), va_P D vwCl ws2 H1 → va_D A ws2 → va_S A s.heap H1 locs1 → W p l e R s m args below meth c H1 locs1 cells slots Q (F0 m (pc + 3) ls (.int r :: rest))) : W p l e R s m args below meth c H locs cells slots Q (F0 m pc ls st0) := by
  obtain ⟨hPc, hDc, hFc, hback⟩ := hF.use hP hD hS hA
  refine va_calli (va_runS (As := As) (rest := rest) S hM cw (pre_S hN hK hPc hDc) rfl hn hsize hst hW hdg hf) hS (fun q _ h => hFc q h) hFc (fun r1 u t H1 locs1 ht hvm hw hB hz1 hk1 hS1 => ?_)
  obtain ⟨hP1, hK1, hD1⟩ := hB
  rw [ht] at hP1
  obtain ⟨a1, a2⟩ := hback H1 hk1 hP1 hD1
  obtain rfl : r1 = r := hw
  exact kk H1 locs1 a1 a2 hS1
theorem call_sl {r : Int64} (S : CallFix p m c cc nL s args Ts own) (hM : Cl l D ca y wy rm As wc H.size r w1) (cw : CallB R s args own index y bytes maxL ret wy rm 0 0 n ∧ (Cond.static y).before args s = true) (hN : NX s) (hK : va_K D vwCl (vt ca) s) (hP : va_P D vwCl ws H) (hD : va_D A ws) (hA : ∀ q : Nat, s.heap.size ≤ q → A q) (hS : va_S A s.heap H locs) (hF : Fr ws wc w1 ws2) (hn : As.length = n) (hsize : ls.size = nL) (hst : st0 = As.reverse ++ rest) (hW : 2 * (F0 m pc ls st0).monitorRoom + (rest.map fun v => v.category).sum ≤ 8) (hdg : decode cc pc = .ok (.invokestatic index, 3)) (hf : cells + 0 ≤ R.cells ∧ slots + 0 ≤ R.slots)
    (kk : ∀ (H1 : Heap) (locs1 : List Loc), va_P D vwCl ws2 H1 → va_D A ws2 → va_S A s.heap H1 locs1 → W p l e R s m args below meth c H1 locs1 cells slots Q (F0 m (pc + 3) ls (.long r :: rest))) : W p l e R s m args below meth c H locs cells slots Q (F0 m pc ls st0) := by
  obtain ⟨hPc, hDc, hFc, hback⟩ := hF.use hP hD hS hA
  refine va_calll (va_runS (As := As) (rest := rest) S hM cw (pre_S hN hK hPc hDc) rfl hn hsize hst hW hdg hf) hS (fun q _ h => hFc q h) hFc (fun r1 u t H1 locs1 ht hvm hw hB hz1 hk1 hS1 => ?_)
  obtain ⟨hP1, hK1, hD1⟩ := hB
  rw [ht] at hP1
  obtain ⟨a1, a2⟩ := hback H1 hk1 hP1 hD1
  obtain rfl : r1 = r := hw
  exact kk H1 locs1 a1 a2 hS1
end CALLS
