/-! constructors: their worlds come with new cells -/
theorem ca_same {D : va_G} {ca : Nat → ClassId} {s : State} {cA : ClassId} {ty : FieldType} (h : va_K D vwCl (vt ca ++ [(cA, ty)]) s) {k : Nat} {c' : ClassId} (hk : (vt ca)[k]? = some (c', ty)) : cA = c' := by
  have h1 : va_RA s cA ty := (h.2 5 (cA, ty) rfl).2
  have hlt : k < (vt ca).length := (List.getElem?_eq_some_iff.mp hk).1
  have h2 : va_RA s c' ty := (h.2 k (c', ty) (by rw [List.getElem?_append_left hlt]; exact hk)).2
  cases ty with
  | object C =>
    obtain ⟨_, _, _, _, _, e1⟩ := h1
    obtain ⟨_, _, _, _, _, e2⟩ := h2
    exact Option.some.inj (e1.symm.trans e2)
  | _ => exact Option.some.inj (h1.symm.trans h2)
def Cn {X : Type} (l : Launch) (D : va_G) (ca : Nat → ClassId) (y : MethodName) (wy : List Cond) (rm : Room) (av : List Value) (ws : va_W) (sz : Nat) (w1 : X → va_W) (mc ms : Nat) : Prop := Met l y wy rm (va_Pc av (Pw D ca ws sz)) (va_Qv (fun (_ : Unit) => True) (fun _ t => ∃ x : X, Aw D ca (va_A ws sz) (w1 x) t) (va_A ws sz)) mc ms (va_A ws sz)
theorem bodyn_of {X : Type} {l : Launch} {D : va_G} {ca : Nat → ClassId} {y : MethodName} {wy wy' : List Cond} {rm : Room} {av : List Value} {ws : va_W} {sz : Nat} {w1 : X → va_W} {mc ms : Nat} {cc : ByteArray} {maxL : Nat}
    (hy : plainName y.cls = true) (hyn : y.name = "<init>") (hw : wy = Cond.code y cc maxL none :: wy') (hlen : (lg_sl av).length ≤ maxL)
    (body : ∀ (p : Program) (e : Env) (s : State) (m : MethodId) (below : List Frame) (meth : Method) (c : Code) (A : Nat → Prop) (ls : Array Slot), p.tables.exec = Jvm.exec → c.code = cc → meth.sig.returnType = none → c.maxLocals = maxL → (∀ w ∈ wy, w.before av.toArray s = true) → s.vm.findClass y.cls = some m.cls → meth.locks = false → meth.name = "<init>" → (∀ q : Nat, s.heap.size ≤ q → A q) → va_K D vwCl (vt ca) s → va_P D vwCl ws s.heap → va_D A ws → va_S A s.heap s.heap [] → lv_has ls maxL (lv_args 0 av) → NX s →
      W p l e rm s m av.toArray below meth c s.heap [] 0 0 (MQ below (va_Qv (fun (_ : Unit) => True) (fun _ t => ∃ x : X, Aw D ca A (w1 x) t) A) av.toArray s mc ms A) (F0 m 0 ls [])) : Cn l D ca y wy rm av ws sz w1 mc ms := by
  refine Met.ofW (cc := cc) (maxL := maxL) (ret := none) hy hw ?_
  intro p e s m args below meth c s₁ B hml hv
  obtain ⟨rfl, hsz, hP, hK, hD0, hN⟩ := hv
  subst hsz
  have hD := hD0.self (sz := s.heap.size)
  rw [lg_entry_eq]
  exact body p e s m below meth c (va_A ws s.heap.size) _ B.exec B.bytes B.returns hml (atoms_spec (ws := wy) B.pre) (findClass_of_methodNamed B.named) B.notSynchronized ((name_of_methodNamed B.named B.method).1.trans hyn) (fun q h => Or.inr h) hK hP hD va_S.rf (lv_entry av hlen) hN
section CN
variable {p : Program} {l : Launch} {e : Env} {R : Room} {s : State} {m : MethodId} {args : Array Value} {below : List Frame} {meth : Method} {c : Code} {H : Heap} {locs : List Loc} {cells slots mc ms : Nat} {Q : State → Prop} {D : va_G} {ca : Nat → ClassId} {A : Nat → Prop} {ws wc : va_W} {cc bytes : ByteArray} {pc nL maxL index n : Nat} {ls : Array Slot} {st0 rest As : List Value} {Ts wy : List Cond} {own : String} {y : MethodName} {rm : Room} {b : Nat}
theorem ret_n {X : Type} {w1 : X → va_W} {x : X} (hx : p.tables.exec = Jvm.exec) (hb : c.code = cc) (hr : meth.sig.returnType = none) (hlocks : meth.locks = false) (hK : va_K D vwCl (vt ca) s) (hP : va_P D vwCl (w1 x) H) (hD : va_D A (w1 x)) (hS : va_S A s.heap H locs) (hdg : decode cc pc = .ok (.return_, 1)) : W p l e R s m args below meth c H locs cells slots (MQ below (va_Qv (fun (_ : Unit) => True) (fun _ t => ∃ x : X, Aw D ca A (w1 x) t) A) args s cells slots A) (F0 m pc ls []) :=
  W.vret hx hb hr (fun t ht hW => ⟨⟨(), rfl, trivial, x, by rw [ht]; exact hP, va_K.moved hW.alike hK, hD⟩, hS.F ht⟩) hS.2.2 hdg
theorem call_n {X : Type} {w1 ws2 : X → va_W} (S : CallFix p m c cc nL s args Ts own) (hM : Cn l D ca y wy rm (.ref b :: As) wc H.size w1 mc ms) (cw : CallB R s args own index y bytes maxL none wy rm mc ms n ∧ y.name = "<init>" ∧ (Cond.instanceMethod y).before args s = true) (hN : NX s) (hK : va_K D vwCl (vt ca) s) (hP : va_P D vwCl ws H) (hD : va_D A ws) (hA : ∀ q : Nat, s.heap.size ≤ q → A q) (hS : va_S A s.heap H locs) (hF : ∀ x, Fr ws wc (w1 x) (ws2 x)) (hn : As.length = n) (hsize : ls.size = nL) (hst : st0 = As.reverse ++ .ref b :: rest) (hW : 2 * (F0 m pc ls st0).monitorRoom + (rest.map fun v => v.category).sum ≤ 8) (hdg : decode cc pc = .ok (.invokespecial index, 3)) (hf : cells + mc ≤ R.cells ∧ slots + ms ≤ R.slots)
    (hne : Nonempty X) (kk : ∀ (x : X) (H1 : Heap) (locs1 : List Loc), va_P D vwCl (ws2 x) H1 → va_D A (ws2 x) → va_S A s.heap H1 locs1 → W p l e R s m args below meth c H1 locs1 (cells + mc) (slots + ms) Q (F0 m (pc + 3) ls rest)) : W p l e R s m args below meth c H locs cells slots Q (F0 m pc ls st0) := by
  obtain ⟨x0⟩ := hne
  obtain ⟨hPc, hDc, hFc, -⟩ := (hF x0).use hP hD hS hA
  refine va_callv (va_runI (As := As) (rest := rest) S hM cw (pre_S (As := .ref b :: As) hN hK hPc hDc) rfl hn hsize hst hW hdg hf) hS (fun q _ h => hFc q h) hFc (fun u t H1 locs1 ht hvm hw hB hz1 hk1 hS1 => ?_)
  obtain ⟨x, hP1, hK1, hD1⟩ := hB
  rw [ht] at hP1
  obtain ⟨-, -, -, hback⟩ := (hF x).use hP hD hS hA
  obtain ⟨a1, a2⟩ := hback H1 hk1 hP1 hD1
  exact kk x H1 locs1 a1 a2 hS1
theorem call_nN {X : Type} {host : String} {w1 ws2 : X → va_W} (S : CallFix p m c cc nL s args Ts own) (hM : Cn l D ca y wy rm (.ref b :: As) wc H.size w1 mc ms) (cw : va_CN R s args own index y host bytes maxL none wy rm mc ms n ∧ y.name = "<init>" ∧ (Cond.instanceMethod y).before args s = true) (hN : NX s) (hK : va_K D vwCl (vt ca) s) (hP : va_P D vwCl ws H) (hD : va_D A ws) (hA : ∀ q : Nat, s.heap.size ≤ q → A q) (hS : va_S A s.heap H locs) (hF : ∀ x, Fr ws wc (w1 x) (ws2 x)) (hn : As.length = n) (hsize : ls.size = nL) (hst : st0 = As.reverse ++ .ref b :: rest) (hW : 2 * (F0 m pc ls st0).monitorRoom + (rest.map fun v => v.category).sum ≤ 8) (hdg : decode cc pc = .ok (.invokespecial index, 3)) (hf : cells + mc ≤ R.cells ∧ slots + ms ≤ R.slots)
    (hne : Nonempty X) (kk : ∀ (x : X) (H1 : Heap) (locs1 : List Loc), va_P D vwCl (ws2 x) H1 → va_D A (ws2 x) → va_S A s.heap H1 locs1 → W p l e R s m args below meth c H1 locs1 (cells + mc) (slots + ms) Q (F0 m (pc + 3) ls rest)) : W p l e R s m args below meth c H locs cells slots Q (F0 m pc ls st0) := by
  obtain ⟨x0⟩ := hne
  obtain ⟨hPc, hDc, hFc, -⟩ := (hF x0).use hP hD hS hA
  refine va_callv (va_runIN (As := As) (rest := rest) S hM cw (pre_S (As := .ref b :: As) hN hK hPc hDc) rfl hn hsize hst hW hdg hf) hS (fun q _ h => hFc q h) hFc (fun u t H1 locs1 ht hvm hw hB hz1 hk1 hS1 => ?_)
  obtain ⟨x, hP1, hK1, hD1⟩ := hB
  rw [ht] at hP1
  obtain ⟨-, -, -, hback⟩ := (hF x).use hP hD hS hA
  obtain ⟨a1, a2⟩ := hback H1 hk1 hP1 hD1
  exact kk x H1 locs1 a1 a2 hS1
end CN
theorem map_drop {a b : va_W} : (List.range' a.length b.length).map (fun i => (a ++ b)[i]?) = b.map some := by
  apply List.ext_getElem?
  intro i
  rw [List.getElem?_map, List.getElem?_map]
  by_cases h : i < b.length
  · rw [List.getElem?_range' h, List.getElem?_eq_getElem h]
    simp [h]
  · rw [List.getElem?_eq_none (by simpa using h), List.getElem?_eq_none (by omega)]
    rfl
theorem map_take {a b : va_W} : (List.range a.length).map (fun i => (a ++ b)[i]?) = a.map some := by
  rw [← rg_map a]
  apply List.map_congr_left
  intro i hi
  exact List.getElem?_append_left (List.mem_range.mp hi)
/-- the last cells are the callee's -/
theorem fr_last (a wc w1 : va_W) : Fr (a ++ wc) wc w1 (a ++ w1) :=
  ⟨List.range' a.length wc.length, List.range a.length, List.range (a ++ w1).length, a, map_drop, va_nd_of List.nodup_range', map_take, va_nd_of List.nodup_range, (fun i h h2 => by
    have h3 := List.mem_range.mp h
    have h4 := (List.mem_range'_1.mp h2).1
    omega), rg_map (a ++ w1), va_nd_of List.nodup_range⟩

def atH (h : Nat) (B : Nat → Nat) : Nat → Nat := fun i => if i = 0 then h else B i
def sw0 : Sw := (0, 0, 0, 0, 0)
def se0 : Se := (none, 0, 0, 0)
def pl0 : Pl := (fun _ => 0, fun _ => 0, 0, 0)
def tb0 : Tb := (fun _ => 0, fun _ => 0, fun _ => 0, fun _ => 0, 0, 0)

set_option maxHeartbeats 4000000 in
set_option maxRecDepth 100000 in
theorem tX2_init (l : Launch) (D : va_G) (ca : Nat → ClassId) (h sz : Nat) : Cn (X := Unit) l D ca yX2_init wsX2_init { frames := 1, cells := 0, slots := 0, locals := 12 } [.ref h] ([(h, .inr (2, [.int 0, .int 0, .int 0, .int 0, .long 0]))]) sz (fun x => wSw h sw0) 0 0 := by
  refine bodyn_of (cc := cX2_init) (maxL := 1) (by decide) rfl rfl (Nat.le_of_ble_eq_true rfl) ?_
  intro p e s m below meth c A ls hx hb hr hml hts hown hlocks hin hA hK hP hD hS hl hN
  have hl : lv_has ls 1 [(0, .ref h)] := hl
  generalize ([.ref h] : List Value).toArray = args at hts ⊢
  refine lv_aload_n hx hb dX2_init_0 rfl (lv_at hl 0 rfl) ?_
  refine W.objInit hx hb hown (hts (.methodLink RX2 3 objectInit) (by decide +kernel)) (hts (.instanceMethod objectInit) (by decide +kernel)) (hts (.code objectInit ⟨#[0xb1]⟩ 1 none) (by decide +kernel)) rfl (by rw [hml]; exact hl.1) rfl dX2_init_1 (Nat.le_of_ble_eq_true rfl) (Nat.le_of_ble_eq_true rfl) ?_
  refine W.eq (g2 := F0 m 4 ls []) rfl ?_
  exact ret_n (x := ()) hx hb hr hlocks hK hP hD hS dX2_init_4

set_option maxHeartbeats 4000000 in
set_option maxRecDepth 100000 in
theorem tX1_init (l : Launch) (D : va_G) (ca : Nat → ClassId) (h sz : Nat) : Cn (X := Unit) l D ca yX1_init wsX1_init { frames := 1, cells := 0, slots := 0, locals := 12 } [.ref h] ([(h, .inr (1, [.null, .int 0, .int 0, .int 0]))]) sz (fun x => wSe h se0) 0 0 := by
  refine bodyn_of (cc := cX1_init) (maxL := 1) (by decide) rfl rfl (Nat.le_of_ble_eq_true rfl) ?_
  intro p e s m below meth c A ls hx hb hr hml hts hown hlocks hin hA hK hP hD hS hl hN
  have hl : lv_has ls 1 [(0, .ref h)] := hl
  generalize ([.ref h] : List Value).toArray = args at hts ⊢
  refine lv_aload_n hx hb dX1_init_0 rfl (lv_at hl 0 rfl) ?_
  refine W.objInit hx hb hown (hts (.methodLink RX1 3 objectInit) (by decide +kernel)) (hts (.instanceMethod objectInit) (by decide +kernel)) (hts (.code objectInit ⟨#[0xb1]⟩ 1 none) (by decide +kernel)) rfl (by rw [hml]; exact hl.1) rfl dX1_init_1 (Nat.le_of_ble_eq_true rfl) (Nat.le_of_ble_eq_true rfl) ?_
  refine W.eq (g2 := F0 m 4 ls []) rfl ?_
  exact ret_n (x := ()) hx hb hr hlocks hK hP hD hS dX1_init_4

set_option maxHeartbeats 4000000 in
set_option maxRecDepth 100000 in
theorem tX0_init (l : Launch) (D : va_G) (ca : Nat → ClassId) (h sz : Nat) : Cn (X := (Nat → Nat)) l D ca yX0_init wsX0_init { frames := 1, cells := 2, slots := 512, locals := 12 } [.ref h] ([(h, .inr (0, [.null, .null, .int 0, .int 0]))]) sz (fun x => wPl ca h x pl0) 2 512 := by
  refine bodyn_of (cc := cX0_init) (maxL := 1) (by decide) rfl rfl (Nat.le_of_ble_eq_true rfl) ?_
  intro p e s m below meth c A ls hx hb hr hml hts hown hlocks hin hA hK hP hD hS hl hN
  have hl : lv_has ls 1 [(0, .ref h)] := hl
  generalize ([.ref h] : List Value).toArray = args at hts ⊢
  have in0 : ∀ w ∈ u_ws RX0 TX0 4, w ∈ wsX0_init := by decide +kernel
  have ac_int := hts (.arrayClass .int) (by decide +kernel)
  have f9 := hts (.fieldLink RX0 9 "RobinRow$PlainRow" "rising" "[I") (by decide +kernel)
  have ac_boolean := hts (.arrayClass .boolean) (by decide +kernel)
  have f15 := hts (.fieldLink RX0 15 "RobinRow$PlainRow" "taken" "[Z") (by decide +kernel)
  refine lv_aload_n hx hb dX0_init_0 rfl (lv_at hl 0 rfl) ?_
  refine W.objInit hx hb hown (hts (.methodLink RX0 3 objectInit) (by decide +kernel)) (hts (.instanceMethod objectInit) (by decide +kernel)) (hts (.code objectInit ⟨#[0xb1]⟩ 1 none) (by decide +kernel)) rfl (by rw [hml]; exact hl.1) rfl dX0_init_1 (Nat.le_of_ble_eq_true rfl) (Nat.le_of_ble_eq_true rfl) ?_
  refine W.eq (g2 := F0 m 4 ls []) rfl ?_
  refine lv_aload_n hx hb dX0_init_4 rfl (lv_at hl 0 rfl) ?_
  refine lv_sipush (v := 256) hx hb dX0_init_5 (by decide) ?_
  refine va_newa (atype := .int) (ty := .int) (a0 := (256, .inl (fun _ => 0))) hx hb ac_int rfl hK hP hD hS hA (fun _ => rfl) (by decide) (N' := 256) rfl (Nat.le_of_ble_eq_true rfl) (Nat.le_of_ble_eq_true rfl) (Nat.le_of_ble_eq_true rfl) dX0_init_8 (fun q0 cA H hK9 hP hD hS => ?_)
  obtain rfl : cA = ca 0 := ca_same hK9 (k := 0) rfl
  have hP : va_P D vwCl (((h, .inr (0, [.null, .null, .int 0, .int 0])) :: [(q0, .inl (ca 0, 256, .inl (fun _ => 0)))])) H := hP
  have hD : va_D A (((h, .inr (0, [.null, .null, .int 0, .int 0])) :: [(q0, .inl (ca 0, 256, .inl (fun _ => 0)))])) := hD
  refine W.widen (k := 1) (n := 256) (Nat.le_of_ble_eq_true rfl) (Nat.le_of_ble_eq_true rfl) ?_
  refine va_putF (D := D) (ci := 0) (v := .ref q0) (ty := (.array .int)) (C := RX0) (T := TX0) (N := 4) hx hb hts in0 tyX0 tyX0_ok nmX0 hown hK hP hD hS 0 rfl rfl 0 (by decide) f9 (fun _ h9 => h9) rfl hin rfl (by decide +kernel) rfl rfl (Nat.le_of_ble_eq_true rfl) dX0_init_10 (fun H locs hP hD hS => ?_)
  have hP : va_P D vwCl (((h, .inr (0, [.ref q0, .null, .int 0, .int 0])) :: [(q0, .inl (ca 0, 256, .inl (fun _ => 0)))])) H := hP
  have hD : va_D A (((h, .inr (0, [.ref q0, .null, .int 0, .int 0])) :: [(q0, .inl (ca 0, 256, .inl (fun _ => 0)))])) := hD
  refine lv_aload_n hx hb dX0_init_13 rfl (lv_at hl 0 rfl) ?_
  refine lv_sipush (v := 256) hx hb dX0_init_14 (by decide) ?_
  refine va_newa (atype := .boolean) (ty := .boolean) (a0 := (256, .inl (fun _ => 0))) hx hb ac_boolean rfl hK hP hD hS hA (fun _ => rfl) (by decide) (N' := 256) rfl (Nat.le_of_ble_eq_true rfl) (Nat.le_of_ble_eq_true rfl) (Nat.le_of_ble_eq_true rfl) dX0_init_17 (fun q1 cA H hK9 hP hD hS => ?_)
  obtain rfl : cA = ca 2 := ca_same hK9 (k := 2) rfl
  have hP : va_P D vwCl (((h, .inr (0, [.ref q0, .null, .int 0, .int 0])) :: ((q0, .inl (ca 0, 256, .inl (fun _ => 0))) :: [(q1, .inl (ca 2, 256, .inl (fun _ => 0)))]))) H := hP
  have hD : va_D A (((h, .inr (0, [.ref q0, .null, .int 0, .int 0])) :: ((q0, .inl (ca 0, 256, .inl (fun _ => 0))) :: [(q1, .inl (ca 2, 256, .inl (fun _ => 0)))]))) := hD
  refine W.widen (k := 2) (n := 512) (Nat.le_of_ble_eq_true rfl) (Nat.le_of_ble_eq_true rfl) ?_
  refine va_putF (D := D) (ci := 0) (v := .ref q1) (ty := (.array .boolean)) (C := RX0) (T := TX0) (N := 4) hx hb hts in0 tyX0 tyX0_ok nmX0 hown hK hP hD hS 0 rfl rfl 1 (by decide) f15 (fun _ h9 => h9) rfl hin rfl (by decide +kernel) rfl rfl (Nat.le_of_ble_eq_true rfl) dX0_init_19 (fun H locs hP hD hS => ?_)
  have hP : va_P D vwCl (((h, .inr (0, [.ref q0, .ref q1, .int 0, .int 0])) :: ((q0, .inl (ca 0, 256, .inl (fun _ => 0))) :: [(q1, .inl (ca 2, 256, .inl (fun _ => 0)))]))) H := hP
  have hD : va_D A (((h, .inr (0, [.ref q0, .ref q1, .int 0, .int 0])) :: ((q0, .inl (ca 0, 256, .inl (fun _ => 0))) :: [(q1, .inl (ca 2, 256, .inl (fun _ => 0)))]))) := hD
  exact ret_n (x := (fun i => if i = 0 then q0 else q1)) hx hb hr hlocks hK hP hD hS dX0_init_22

set_option maxHeartbeats 4000000 in
set_option maxRecDepth 100000 in
theorem tX3_init (l : Launch) (D : va_G) (ca : Nat → ClassId) (h sz : Nat) (a0 : Int32) (τ9 : Tb) (hf : tt_emptyWith tb0 a0 = some τ9) : Cn (X := (Nat → Nat)) l D ca yX3_init wsX3_init { frames := 2, cells := 4, slots := 1024, locals := 43 } [.ref h, .int a0] ([(h, .inr (3, [.null, .null, .null, .null, .int 0, .int 0]))]) sz (fun x => wTab ca h x τ9) 4 1024 := by
  refine bodyn_of (cc := cX3_init) (maxL := 2) (by decide) rfl rfl (Nat.le_of_ble_eq_true rfl) ?_
  intro p e s m below meth c A ls hx hb hr hml hts hown hlocks hin hA hK hP hD hS hl hN
  have hl : lv_has ls 2 [(0, .ref h), (1, .int a0)] := hl
  generalize ([.ref h, .int a0] : List Value).toArray = args at hts ⊢
  have in3 : ∀ w ∈ u_ws RX3 TX3 6, w ∈ wsX3_init := by decide +kernel
  have ac_byte := hts (.arrayClass .byte) (by decide +kernel)
  have f9 := hts (.fieldLink RX3 9 "RobinRow$Table" "controls" "[B") (by decide +kernel)
  have ac_int := hts (.arrayClass .int) (by decide +kernel)
  have f15 := hts (.fieldLink RX3 15 "RobinRow$Table" "hashes" "[I") (by decide +kernel)
  have f19 := hts (.fieldLink RX3 19 "RobinRow$Table" "keys" "[I") (by decide +kernel)
  have f22 := hts (.fieldLink RX3 22 "RobinRow$Table" "values" "[I") (by decide +kernel)
  refine lv_aload_n hx hb dX3_init_0 rfl (lv_at hl 0 rfl) ?_
  refine W.objInit hx hb hown (hts (.methodLink RX3 3 objectInit) (by decide +kernel)) (hts (.instanceMethod objectInit) (by decide +kernel)) (hts (.code objectInit ⟨#[0xb1]⟩ 1 none) (by decide +kernel)) rfl (by rw [hml]; exact hl.1) rfl dX3_init_1 (Nat.le_of_ble_eq_true rfl) (Nat.le_of_ble_eq_true rfl) ?_
  refine W.eq (g2 := F0 m 4 ls []) rfl ?_
  refine lv_aload_n hx hb dX3_init_4 rfl (lv_at hl 0 rfl) ?_
  refine lv_sipush (v := 256) hx hb dX3_init_5 (by decide) ?_
  refine va_newa (atype := .byte) (ty := .byte) (a0 := (256, .inl (fun _ => 0))) hx hb ac_byte rfl hK hP hD hS hA (fun _ => rfl) (by decide) (N' := 256) rfl (Nat.le_of_ble_eq_true rfl) (Nat.le_of_ble_eq_true rfl) (Nat.le_of_ble_eq_true rfl) dX3_init_8 (fun q0 cA H hK9 hP hD hS => ?_)
  obtain rfl : cA = ca 1 := ca_same hK9 (k := 1) rfl
  have hP : va_P D vwCl (((h, .inr (3, [.null, .null, .null, .null, .int 0, .int 0])) :: [(q0, .inl (ca 1, 256, .inl (fun _ => 0)))])) H := hP
  have hD : va_D A (((h, .inr (3, [.null, .null, .null, .null, .int 0, .int 0])) :: [(q0, .inl (ca 1, 256, .inl (fun _ => 0)))])) := hD
  refine W.widen (k := 1) (n := 256) (Nat.le_of_ble_eq_true rfl) (Nat.le_of_ble_eq_true rfl) ?_
  refine va_putF (D := D) (ci := 3) (v := .ref q0) (ty := (.array .byte)) (C := RX3) (T := TX3) (N := 6) hx hb hts in3 tyX3 tyX3_ok nmX3 hown hK hP hD hS 0 rfl rfl 0 (by decide) f9 (fun _ h9 => h9) rfl hin rfl (by decide +kernel) rfl rfl (Nat.le_of_ble_eq_true rfl) dX3_init_10 (fun H locs hP hD hS => ?_)
  have hP : va_P D vwCl (((h, .inr (3, [.ref q0, .null, .null, .null, .int 0, .int 0])) :: [(q0, .inl (ca 1, 256, .inl (fun _ => 0)))])) H := hP
  have hD : va_D A (((h, .inr (3, [.ref q0, .null, .null, .null, .int 0, .int 0])) :: [(q0, .inl (ca 1, 256, .inl (fun _ => 0)))])) := hD
  refine lv_aload_n hx hb dX3_init_13 rfl (lv_at hl 0 rfl) ?_
  refine lv_sipush (v := 256) hx hb dX3_init_14 (by decide) ?_
  refine va_newa (atype := .int) (ty := .int) (a0 := (256, .inl (fun _ => 0))) hx hb ac_int rfl hK hP hD hS hA (fun _ => rfl) (by decide) (N' := 256) rfl (Nat.le_of_ble_eq_true rfl) (Nat.le_of_ble_eq_true rfl) (Nat.le_of_ble_eq_true rfl) dX3_init_17 (fun q1 cA H hK9 hP hD hS => ?_)
  obtain rfl : cA = ca 0 := ca_same hK9 (k := 0) rfl
  have hP : va_P D vwCl (((h, .inr (3, [.ref q0, .null, .null, .null, .int 0, .int 0])) :: ((q0, .inl (ca 1, 256, .inl (fun _ => 0))) :: [(q1, .inl (ca 0, 256, .inl (fun _ => 0)))]))) H := hP
  have hD : va_D A (((h, .inr (3, [.ref q0, .null, .null, .null, .int 0, .int 0])) :: ((q0, .inl (ca 1, 256, .inl (fun _ => 0))) :: [(q1, .inl (ca 0, 256, .inl (fun _ => 0)))]))) := hD
  refine W.widen (k := 2) (n := 512) (Nat.le_of_ble_eq_true rfl) (Nat.le_of_ble_eq_true rfl) ?_
  refine va_putF (D := D) (ci := 3) (v := .ref q1) (ty := (.array .int)) (C := RX3) (T := TX3) (N := 6) hx hb hts in3 tyX3 tyX3_ok nmX3 hown hK hP hD hS 0 rfl rfl 1 (by decide) f15 (fun _ h9 => h9) rfl hin rfl (by decide +kernel) rfl rfl (Nat.le_of_ble_eq_true rfl) dX3_init_19 (fun H locs hP hD hS => ?_)
  have hP : va_P D vwCl (((h, .inr (3, [.ref q0, .ref q1, .null, .null, .int 0, .int 0])) :: ((q0, .inl (ca 1, 256, .inl (fun _ => 0))) :: [(q1, .inl (ca 0, 256, .inl (fun _ => 0)))]))) H := hP
  have hD : va_D A (((h, .inr (3, [.ref q0, .ref q1, .null, .null, .int 0, .int 0])) :: ((q0, .inl (ca 1, 256, .inl (fun _ => 0))) :: [(q1, .inl (ca 0, 256, .inl (fun _ => 0)))]))) := hD
  refine lv_aload_n hx hb dX3_init_22 rfl (lv_at hl 0 rfl) ?_
  refine lv_sipush (v := 256) hx hb dX3_init_23 (by decide) ?_
  refine va_newa (atype := .int) (ty := .int) (a0 := (256, .inl (fun _ => 0))) hx hb ac_int rfl hK hP hD hS hA (fun _ => rfl) (by decide) (N' := 256) rfl (Nat.le_of_ble_eq_true rfl) (Nat.le_of_ble_eq_true rfl) (Nat.le_of_ble_eq_true rfl) dX3_init_26 (fun q2 cA H hK9 hP hD hS => ?_)
  obtain rfl : cA = ca 0 := ca_same hK9 (k := 0) rfl
  have hP : va_P D vwCl (((h, .inr (3, [.ref q0, .ref q1, .null, .null, .int 0, .int 0])) :: ((q0, .inl (ca 1, 256, .inl (fun _ => 0))) :: ((q1, .inl (ca 0, 256, .inl (fun _ => 0))) :: [(q2, .inl (ca 0, 256, .inl (fun _ => 0)))])))) H := hP
  have hD : va_D A (((h, .inr (3, [.ref q0, .ref q1, .null, .null, .int 0, .int 0])) :: ((q0, .inl (ca 1, 256, .inl (fun _ => 0))) :: ((q1, .inl (ca 0, 256, .inl (fun _ => 0))) :: [(q2, .inl (ca 0, 256, .inl (fun _ => 0)))])))) := hD
  refine W.widen (k := 3) (n := 768) (Nat.le_of_ble_eq_true rfl) (Nat.le_of_ble_eq_true rfl) ?_
  refine va_putF (D := D) (ci := 3) (v := .ref q2) (ty := (.array .int)) (C := RX3) (T := TX3) (N := 6) hx hb hts in3 tyX3 tyX3_ok nmX3 hown hK hP hD hS 0 rfl rfl 2 (by decide) f19 (fun _ h9 => h9) rfl hin rfl (by decide +kernel) rfl rfl (Nat.le_of_ble_eq_true rfl) dX3_init_28 (fun H locs hP hD hS => ?_)
  have hP : va_P D vwCl (((h, .inr (3, [.ref q0, .ref q1, .ref q2, .null, .int 0, .int 0])) :: ((q0, .inl (ca 1, 256, .inl (fun _ => 0))) :: ((q1, .inl (ca 0, 256, .inl (fun _ => 0))) :: [(q2, .inl (ca 0, 256, .inl (fun _ => 0)))])))) H := hP
  have hD : va_D A (((h, .inr (3, [.ref q0, .ref q1, .ref q2, .null, .int 0, .int 0])) :: ((q0, .inl (ca 1, 256, .inl (fun _ => 0))) :: ((q1, .inl (ca 0, 256, .inl (fun _ => 0))) :: [(q2, .inl (ca 0, 256, .inl (fun _ => 0)))])))) := hD
  refine lv_aload_n hx hb dX3_init_31 rfl (lv_at hl 0 rfl) ?_
  refine lv_sipush (v := 256) hx hb dX3_init_32 (by decide) ?_
  refine va_newa (atype := .int) (ty := .int) (a0 := (256, .inl (fun _ => 0))) hx hb ac_int rfl hK hP hD hS hA (fun _ => rfl) (by decide) (N' := 256) rfl (Nat.le_of_ble_eq_true rfl) (Nat.le_of_ble_eq_true rfl) (Nat.le_of_ble_eq_true rfl) dX3_init_35 (fun q3 cA H hK9 hP hD hS => ?_)
  obtain rfl : cA = ca 0 := ca_same hK9 (k := 0) rfl
  have hP : va_P D vwCl (((h, .inr (3, [.ref q0, .ref q1, .ref q2, .null, .int 0, .int 0])) :: ((q0, .inl (ca 1, 256, .inl (fun _ => 0))) :: ((q1, .inl (ca 0, 256, .inl (fun _ => 0))) :: ((q2, .inl (ca 0, 256, .inl (fun _ => 0))) :: [(q3, .inl (ca 0, 256, .inl (fun _ => 0)))]))))) H := hP
  have hD : va_D A (((h, .inr (3, [.ref q0, .ref q1, .ref q2, .null, .int 0, .int 0])) :: ((q0, .inl (ca 1, 256, .inl (fun _ => 0))) :: ((q1, .inl (ca 0, 256, .inl (fun _ => 0))) :: ((q2, .inl (ca 0, 256, .inl (fun _ => 0))) :: [(q3, .inl (ca 0, 256, .inl (fun _ => 0)))]))))) := hD
  refine W.widen (k := 4) (n := 1024) (Nat.le_of_ble_eq_true rfl) (Nat.le_of_ble_eq_true rfl) ?_
  refine va_putF (D := D) (ci := 3) (v := .ref q3) (ty := (.array .int)) (C := RX3) (T := TX3) (N := 6) hx hb hts in3 tyX3 tyX3_ok nmX3 hown hK hP hD hS 0 rfl rfl 3 (by decide) f22 (fun _ h9 => h9) rfl hin rfl (by decide +kernel) rfl rfl (Nat.le_of_ble_eq_true rfl) dX3_init_37 (fun H locs hP hD hS => ?_)
  have hP : va_P D vwCl (((h, .inr (3, [.ref q0, .ref q1, .ref q2, .ref q3, .int 0, .int 0])) :: ((q0, .inl (ca 1, 256, .inl (fun _ => 0))) :: ((q1, .inl (ca 0, 256, .inl (fun _ => 0))) :: ((q2, .inl (ca 0, 256, .inl (fun _ => 0))) :: [(q3, .inl (ca 0, 256, .inl (fun _ => 0)))]))))) H := hP
  have hD : va_D A (((h, .inr (3, [.ref q0, .ref q1, .ref q2, .ref q3, .int 0, .int 0])) :: ((q0, .inl (ca 1, 256, .inl (fun _ => 0))) :: ((q1, .inl (ca 0, 256, .inl (fun _ => 0))) :: ((q2, .inl (ca 0, 256, .inl (fun _ => 0))) :: [(q3, .inl (ca 0, 256, .inl (fun _ => 0)))]))))) := hD
  refine lv_aload_n hx hb dX3_init_40 rfl (lv_at hl 0 rfl) ?_
  refine lv_iload_n hx hb dX3_init_41 rfl (lv_at hl 1 rfl) ?_
  
  obtain ⟨ar, ha0, ha1, ha2, ha3⟩ : ∃ ar : Nat → Nat, ar 0 = q0 ∧ ar 1 = q1 ∧ ar 2 = q2 ∧ ar 3 = q3 := ⟨fun i => if i = 0 then q0 else if i = 1 then q1 else if i = 2 then q2 else q3, rfl, rfl, rfl, rfl⟩
  subst ha0 ha1 ha2 ha3
  have hP : va_P D vwCl (wTab ca h ar tb0) H := hP
  have hD : va_D A (wTab ca h ar tb0) := hD
  refine call_v (As := [.int a0]) (rest := []) ⟨hx, hb, hml, hown, hts⟩ (tX3_emptyWith l D ca h ar _ tb0 a0 τ9 hf) (cwV 1 hts gX3_init_X3_emptyWith rfl rfl rfl (by decide +kernel) ⟨Nat.le_of_ble_eq_true rfl, Nat.le_of_ble_eq_true rfl⟩) hN hK hP hD hA hS (fr_id _ _) rfl rfl rfl hl.1 rfl (lv_room (Nat.le_of_ble_eq_true rfl)) dX3_init_42 ⟨Nat.le_of_ble_eq_true rfl, Nat.le_of_ble_eq_true rfl⟩ (fun H locs hP hD hS => ?_)
  exact ret_n (x := ar) hx hb hr hlocks hK hP hD hS dX3_init_45

def rr0 (p o : Nat) (τ8 τ0 : Tb) : RR := (τ8, τ0, p, o, fun _ => sw0, se0, pl0, 1, 0)

