/-! the law's own helpers: a call of the class, what it throws caught -/
def wRL (ca : Nat → ClassId) (B : Nat → Nat) (ar : Nat → Nat → Nat) (o : Nat) (σ : RR) (out : Nat → Int64) : va_W := wRR ca B ar σ ++ [(o, .inl (ca 3, 1, .inr (.inl out)))]
theorem fr_RL (ca : Nat → ClassId) (B : Nat → Nat) (ar : Nat → Nat → Nat) (o : Nat) (σ : RR) (out : Nat → Int64) (u : RR) : Fr (wRL ca B ar o σ out) (wRR ca B ar σ) (wRR ca B ar u) (wRL ca B ar o u out) := ⟨[0, 1, 2, 3, 4, 5, 6, 7, 8, 9, 10, 11, 12, 13, 14, 15, 16, 17, 18, 19], [20], [1, 2, 3, 4, 5, 6, 7, 8, 9, 10, 11, 12, 13, 14, 15, 16, 17, 18, 19, 20, 0], [(o, .inl (ca 3, 1, .inr (.inl out)))], rfl, rfl, rfl, rfl, by decide, rfl, rfl⟩
def NC (U : State) : Prop := va_Nc "java/lang/IllegalStateException" "java/lang/IllegalArgumentException" U ∧ va_Nc "java/lang/IllegalStateException" "java/lang/IndexOutOfBoundsException" U
theorem NC.moved {u U : State} (hvm : u.vm.Alike U.vm) (h : NC u) : NC U := ⟨va_Nc.moved hvm h.1, va_Nc.moved hvm h.2⟩
def Ph (D : va_G) (ca : Nat → ClassId) (ws : va_W) (sz : Nat) (U : State) : Prop := Px D ca ws sz U ∧ NC U
theorem Ph_blind {D : va_G} {ca : Nat → ClassId} {ws : va_W} {sz : Nat} {av : List Value} : FrameBlind (va_Pc av (Ph D ca ws sz)) := by
  intro a U g mk q
  obtain ⟨q0, q1, qN⟩ := q
  have h := Px_blind (av := av) a U g mk ⟨q0, q1⟩
  exact ⟨h.1, h.2, NC.moved (u := U) (U := U.calling g mk a) (Vm.Alike.refl U.vm) qN⟩
def Lh (l : Launch) (D : va_G) (ca : Nat → ClassId) (y : MethodName) (wy : List Cond) (rm : Room) (av : List Value) (ws : va_W) (sz : Nat) (k : Int32) (ws' : va_W) (mc ms : Nat) : Prop := Met l y wy rm (va_Pc av (Ph D ca ws sz)) (Qi D ca k ws' (va_A ws sz)) mc ms (va_A ws sz)
theorem met_of_x {l : Launch} {y : MethodName} {ws : List Cond} {rm : Room} {Pc : Array Value → State → Prop} {Qc : Array Value → State → Outcome → State → Prop} {mc ms : Nat} {free : Addr → Prop} (h : vx_Met l y ws rm Pc Qc (fun _ _ _ => False) mc ms free) : Met l y ws rm Pc Qc mc ms free := by
  intro p e ha hc hk s m args below hf happ hP hK
  obtain ⟨n, o, h1, h2, h3, hq⟩ := h p e ha hc hk s m args below hf happ hP hK
  rcases hq with hq | ⟨q, -, E, ce, L, hF, -⟩
  · exact ⟨n, o, h1, h2, h3, hq⟩
  · exact hF.elim
theorem bodyl_of {l : Launch} {D : va_G} {ca : Nat → ClassId} {y : MethodName} {wy wy' : List Cond} {rm : Room} {av : List Value} {ws ws' : va_W} {sz mc ms : Nat} {k : Int32} {cc : ByteArray} {maxL : Nat} {ret : Option FieldType} {hh : List (Nat × Nat × Nat × Nat)}
    (hy : plainName y.cls = true) (hw : wy = Cond.codeWith y cc maxL ret hh :: wy') (hlen : (lg_sl av).length ≤ maxL)
    (body : ∀ (p : Program) (e : Env) (s : State) (m : MethodId) (below : List Frame) (meth : Method) (c : Code) (A : Nat → Prop) (ls : Array Slot), p.tables.exec = Jvm.exec → c.code = cc → meth.sig.returnType = ret → c.maxLocals = maxL → (∀ w ∈ wy, w.before av.toArray s = true) → s.vm.findClass y.cls = some m.cls → meth.locks = false → (∀ q : Nat, s.heap.size ≤ q → A q) → va_K D vwCl (vt ca) s → va_P D vwCl ws s.heap → va_D A ws → va_S A s.heap s.heap [] → lv_has ls maxL (lv_args 0 av) → NX s → HX A s s.heap → NC s → c.exceptionTable.toList = tableOf hh →
      W p l e rm s m av.toArray below meth c s.heap [] 0 0 (vx_MQ below (Qi D ca k ws' A) (fun _ _ _ => False) av.toArray s mc ms A) (F0 m 0 ls [])) : Lh l D ca y wy rm av ws sz k ws' mc ms := by
  refine met_of_x (vx_ofWH (cc := cc) (maxL := maxL) (ret := ret) hy hw ?_)
  intro p e s m args below meth c s₁ B hml hv
  obtain ⟨rfl, ⟨⟨hsz, hP, hK, hD0, hN⟩, hX⟩, hC⟩ := hv
  subst hsz
  have hD := hD0.self (sz := s.heap.size)
  have hts := atoms_spec (ws := wy) B.pre
  rw [lg_entry_eq]
  exact body p e s m below meth c (va_A ws s.heap.size) _ B.exec B.bytes B.returns hml hts (findClass_of_methodNamed B.named) B.notSynchronized (fun q h => Or.inr h) hK hP hD va_S.rf (lv_entry av hlen) hN hX hC (vx_table (x := y) B (hts _ (by rw [hw]; exact List.mem_cons_self)))
section HL
variable {p : Program} {l : Launch} {e : Env} {R : Room} {s : State} {m : MethodId} {args : Array Value} {below : List Frame} {meth : Method} {c : Code} {H : Heap} {locs : List Loc} {cells slots mc ms : Nat} {Q : State → Prop} {D : va_G} {ca : Nat → ClassId} {A : Nat → Prop} {w w2 : RR → va_W} {ws : va_W} {σ : RR} {cc bytes : ByteArray} {pc nL maxL index n : Nat} {ls : Array Slot} {st0 rest As : List Value} {Ts wy : List Cond} {own C : String} {y : MethodName} {ret : Option FieldType} {rm : Room} {b ci : Nat} {fs : List Value} {T3 : u_T} {N3 : Nat}
theorem reth {ws' : va_W} {r : Int32} {XC : String → State → State → Prop} (hx : p.tables.exec = Jvm.exec) (hb : c.code = cc) (hr : meth.sig.returnType = some .int) (hlocks : meth.locks = false) (hK : va_K D vwCl (vt ca) s) (hc : cells ≤ mc) (hs : slots ≤ ms) (hP : va_P D vwCl ws' H) (hD : va_D A ws') (hS : va_S A s.heap H locs) (hdg : decode cc pc = .ok (.ireturn, 1)) : W p l e R s m args below meth c H locs cells slots (vx_MQ below (Qi D ca r ws' A) XC args s mc ms A) (F0 m pc ls [.int r]) :=
  vx_ret (W.widen hc hs (W.iret hx hb hr (fun t ht hW => ⟨⟨r, (), rfl, rfl, by rw [ht]; exact hP, va_K.moved hW.alike hK, hD⟩, hS.F ht⟩) hS.2.2 hdg))
theorem callxf_i {z : Ex (Int32 × RR)} (S : CallFix p m c cc nL s args Ts own) (hM : Cxi l D ca y wy rm (.ref b :: As) w σ H.size z mc ms) (cw : CallW R s args own C index y bytes maxL ret wy rm mc ms n) (hN : NX s) (hX : HX A s s.heap) (hK : va_K D vwCl (vt ca) s) (hP : va_P D vwCl ws H) (hD : va_D A ws) (hA : ∀ q : Nat, s.heap.size ≤ q → A q) (hS : va_S A s.heap H locs) (hF : ∀ u, Fr ws (w σ) (w u) (w2 u)) (hq : (w σ)[0]? = some (b, .inr (ci, fs))) (hci : vwCl[ci]? = some (C, T3, N3)) (hn : As.length = n) (hsize : ls.size = nL) (hst : st0 = As.reverse ++ .ref b :: rest) (hW : 2 * (F0 m pc ls st0).monitorRoom + (rest.map fun v => v.category).sum ≤ 8) (hdg : decode cc pc = .ok (.invokevirtual index, 3)) (hf : cells + mc ≤ R.cells ∧ slots + ms ≤ R.slots)
    (kx : ∀ (k : Nat) (u : RR) (ce : Cell) (q : Addr) (H1 : Heap) (locs1 : List Loc), z = .inr (k, u) → va_P D vwCl (w2 u) H1 → va_D A (w2 u) → va_S A s.heap H1 locs1 → H1[q]? = some ce → ce.vm = .none → s.vm.findClass (exn k) = some ce.cls → vx_W p l e R s m args below meth c H1 locs1 (cells + mc) (slots + ms) Q (F0 m pc ls rest) q)
    (kk : ∀ (r : Int32) (u : RR) (H1 : Heap) (locs1 : List Loc), z = .inl (r, u) → va_P D vwCl (w2 u) H1 → va_D A (w2 u) → va_S A s.heap H1 locs1 → W p l e R s m args below meth c H1 locs1 (cells + mc) (slots + ms) Q (F0 m (pc + 3) ls (.int r :: rest))) : W p l e R s m args below meth c H locs cells slots Q (F0 m pc ls st0) := by
  obtain ⟨hPc, hDc, hFc, -⟩ := (hF σ).use hP hD hS hA
  refine vx_calli (vx_runV (As := As) (rest := rest) S hM cw (pre_X (ws := w σ) hN hX hK hS hPc hDc hFc hq hci) rfl hn hsize hst hW hdg hf) hS (fun q _ h => hFc q h) hFc (fun q _ h => hFc q h) (fun E ce q9 u t H1 locs1 ht hvm hw hB hz1 hk1 hS1 hce hcv hcl => ?_) (fun r u t H1 locs1 ht hvm hw hB hz1 hk1 hS1 => ?_)
  · obtain ⟨hE, hP1, hK1, hD1⟩ := hB
    rw [ht] at hP1
    rw [hE] at hcl
    obtain ⟨-, -, -, hback⟩ := (hF u.2).use hP hD hS hA
    obtain ⟨a1, a2⟩ := hback H1 hk1 hP1 hD1
    exact kx u.1 u.2 ce q9 H1 locs1 hw a1 a2 hS1 hce hcv hcl
  · obtain ⟨hP1, hK1, hD1⟩ := hB
    rw [ht] at hP1
    obtain ⟨-, -, -, hback⟩ := (hF u).use hP hD hS hA
    obtain ⟨a1, a2⟩ := hback H1 hk1 hP1 hD1
    exact kk r u H1 locs1 hw a1 a2 hS1
theorem callxf_v {z : Ex RR} (S : CallFix p m c cc nL s args Ts own) (hM : Cxv l D ca y wy rm (.ref b :: As) w σ H.size z mc ms) (cw : CallW R s args own C index y bytes maxL ret wy rm mc ms n) (hN : NX s) (hX : HX A s s.heap) (hK : va_K D vwCl (vt ca) s) (hP : va_P D vwCl ws H) (hD : va_D A ws) (hA : ∀ q : Nat, s.heap.size ≤ q → A q) (hS : va_S A s.heap H locs) (hF : ∀ u, Fr ws (w σ) (w u) (w2 u)) (hq : (w σ)[0]? = some (b, .inr (ci, fs))) (hci : vwCl[ci]? = some (C, T3, N3)) (hn : As.length = n) (hsize : ls.size = nL) (hst : st0 = As.reverse ++ .ref b :: rest) (hW : 2 * (F0 m pc ls st0).monitorRoom + (rest.map fun v => v.category).sum ≤ 8) (hdg : decode cc pc = .ok (.invokevirtual index, 3)) (hf : cells + mc ≤ R.cells ∧ slots + ms ≤ R.slots)
    (kx : ∀ (k : Nat) (u : RR) (ce : Cell) (q : Addr) (H1 : Heap) (locs1 : List Loc), z = .inr (k, u) → va_P D vwCl (w2 u) H1 → va_D A (w2 u) → va_S A s.heap H1 locs1 → H1[q]? = some ce → ce.vm = .none → s.vm.findClass (exn k) = some ce.cls → vx_W p l e R s m args below meth c H1 locs1 (cells + mc) (slots + ms) Q (F0 m pc ls rest) q)
    (kk : ∀ (u : RR) (H1 : Heap) (locs1 : List Loc), z = .inl u → va_P D vwCl (w2 u) H1 → va_D A (w2 u) → va_S A s.heap H1 locs1 → W p l e R s m args below meth c H1 locs1 (cells + mc) (slots + ms) Q (F0 m (pc + 3) ls rest)) : W p l e R s m args below meth c H locs cells slots Q (F0 m pc ls st0) := by
  obtain ⟨hPc, hDc, hFc, -⟩ := (hF σ).use hP hD hS hA
  refine vx_callv (vx_runV (As := As) (rest := rest) S hM cw (pre_X (ws := w σ) hN hX hK hS hPc hDc hFc hq hci) rfl hn hsize hst hW hdg hf) hS (fun q _ h => hFc q h) hFc (fun q _ h => hFc q h) (fun E ce q9 u t H1 locs1 ht hvm hw hB hz1 hk1 hS1 hce hcv hcl => ?_) (fun u t H1 locs1 ht hvm hw hB hz1 hk1 hS1 => ?_)
  · obtain ⟨hE, hP1, hK1, hD1⟩ := hB
    rw [ht] at hP1
    rw [hE] at hcl
    obtain ⟨-, -, -, hback⟩ := (hF u.2).use hP hD hS hA
    obtain ⟨a1, a2⟩ := hback H1 hk1 hP1 hD1
    exact kx u.1 u.2 ce q9 H1 locs1 hw a1 a2 hS1 hce hcv hcl
  · obtain ⟨hP1, hK1, hD1⟩ := hB
    rw [ht] at hP1
    obtain ⟨-, -, -, hback⟩ := (hF u).use hP hD hS hA
    obtain ⟨a1, a2⟩ := hback H1 hk1 hP1 hD1
    exact kk u H1 locs1 hw a1 a2 hS1
end HL
/-- what a helper makes of what the class's method did: c1, c2 are the exceptions that its rows catch -/
def hres (c1 c2 : Nat) (g : Int32 → Int64) (z : Ex (Int32 × RR)) (out : Nat → Int64) : Option (Int32 × RR × (Nat → Int64)) := match z with
  | .inl a => some (0, a.2, vp_updL out 0 (g a.1))
  | .inr u => if u.1 = c1 then some (1, u.2, out) else if u.1 = c2 then some (2, u.2, out) else none
def hresV (c1 : Nat) (z : Ex RR) (out : Nat → Int64) : Option (Int32 × RR × (Nat → Int64)) := match z with
  | .inl a => some (0, a, out)
  | .inr u => if u.1 = c1 then some (1, u.2, out) else none
def gB (r : Int32) : Int64 := if r = 0 then 0 else 1
theorem so3 {α β γ : Type} {a a' : α} {b b' : β} {c c' : γ} (h : some (a, b, c) = some (a', b', c')) : a = a' ∧ b = b' ∧ c = c' := by
  cases h
  exact ⟨rfl, rfl, rfl⟩

set_option maxHeartbeats 4000000 in
set_option maxRecDepth 100000 in
theorem tL_clear (l : Launch) (hT : l.stackTraces = false) (D : va_G) (ca : Nat → ClassId) (B : Nat → Nat) (ar : Nat → Nat → Nat) (sz : Nat) (σ : RR) (out : Nat → Int64) (a0 : Int32) (z : Ex RR) (hz : rx_clear σ a0 = some z) (k : Int32) (σ9 : RR) (out9 : Nat → Int64) (hr9 : hresV 1 z out = some (k, σ9, out9)) : Lh l D ca yL_clear wsL_clear { frames := 7, cells := 1, slots := 6, locals := 104 } [.ref (B 0), .int a0] (wRR ca B ar σ) sz k (wRR ca B ar σ9) 1 6 := by
  refine bodyl_of (cc := cL_clear) (maxL := 3) (ret := some .int) (by decide) rfl (Nat.le_of_ble_eq_true rfl) ?_
  intro p e s m below meth c A ls hx hb hr hml hts hown hlocks hA hK hP hD hS hl hN hX hC htab
  have hl : lv_has ls 3 [(0, .ref (B 0)), (1, .int a0)] := hl
  generalize ([.ref (B 0), .int a0] : List Value).toArray = args at hts ⊢
  refine lv_aload_n hx hb dL_clear_0 rfl (lv_at hl 0 rfl) ?_
  refine lv_iload_n hx hb dL_clear_1 rfl (lv_at hl 1 rfl) ?_
  refine callxf_v (w := wRR ca B ar) (w2 := (wRR ca B ar)) (As := [.int a0]) (rest := []) ⟨hx, hb, hml, hown, hts⟩ (tX4_clear l hT D ca B ar _ σ a0 z hz) (cwV 1 hts gL_clear_X4_clear rfl rfl rfl (by decide +kernel) ⟨Nat.le_of_ble_eq_true rfl, Nat.le_of_ble_eq_true rfl⟩) hN hX hK hP hD hA hS (fun u => fr_id _ _) rfl rfl rfl hl.1 rfl (lv_room (Nat.le_of_ble_eq_true rfl)) dL_clear_2 ⟨Nat.le_of_ble_eq_true rfl, Nat.le_of_ble_eq_true rfl⟩ (fun k8 u8 ce8 q8 H locs hz8 hP hD hS h81 h82 h83 => ?_) (fun u8 H locs hz8 hP hD hS => ?_)
  · rw [hz8] at hr9
    have hr9 : (if k8 = 1 then some ((1 : Int32), u8, out) else none) = some (k, σ9, out9) := hr9
    by_cases c1 : k8 = 1
    · obtain ⟨rfl, rfl, rfl⟩ := so3 (it_p c1 hr9)
      subst c1
      refine vx_catch (name := "java/lang/IllegalArgumentException") (E := "java/lang/IllegalArgumentException") hown [] { startPc := 0, endPc := 5, handlerPc := 8, catchType := 13 } [] (by rw [htab]; rfl) (fun z h => absurd h List.not_mem_nil) (by decide) (by decide) (hts (.classLink RL 13 "java/lang/IllegalArgumentException") (by decide +kernel)) (va_Nw.use rfl (hN.2.2.1 "java/lang/IllegalArgumentException" (by decide +kernel))) h81 h82 h83 ?_
      refine lv_astore_n (lv' := [(2, .ref q8), (0, .ref (B 0)), (1, .int a0)]) hx hb dL_clear_8 rfl hl (by decide) rfl (fun ls hl => ?_)
      refine lv_iconst (v := 1) hx hb dL_clear_9 (by decide) ?_
      exact reth hx hb hr hlocks hK (Nat.le_of_ble_eq_true rfl) (Nat.le_of_ble_eq_true rfl) hP hD hS dL_clear_10
    · replace hr9 := it_n c1 hr9
      exact absurd hr9 (fun h => by cases h)
  · rw [hz8] at hr9
    obtain ⟨rfl, rfl, rfl⟩ := so3 hr9
    refine lv_goto (tgt := 11) hx hb dL_clear_5 (by decide) ?_
    refine lv_iconst (v := 0) hx hb dL_clear_11 (by decide) ?_
    exact reth hx hb hr hlocks hK (Nat.le_of_ble_eq_true rfl) (Nat.le_of_ble_eq_true rfl) hP hD hS dL_clear_12

set_option maxHeartbeats 4000000 in
set_option maxRecDepth 100000 in
theorem tL_put (l : Launch) (hT : l.stackTraces = false) (D : va_G) (ca : Nat → ClassId) (B : Nat → Nat) (ar : Nat → Nat → Nat) (o : Nat) (sz : Nat) (σ : RR) (out : Nat → Int64) (a0 : Int32) (a1 : Int32) (z : Ex (Int32 × RR)) (hz : rx_put σ a0 a1 = some z) (k : Int32) (σ9 : RR) (out9 : Nat → Int64) (hr9 : hres 1 2 Int32.toInt64 z out = some (k, σ9, out9)) : Lh l D ca yL_put wsL_put { frames := 7, cells := 1, slots := 6, locals := 139 } [.ref (B 0), .int a0, .int a1, .ref o] (wRL ca B ar o σ out) sz k (wRL ca B ar o σ9 out9) 1 6 := by
  refine bodyl_of (cc := cL_put) (maxL := 5) (ret := some .int) (by decide) rfl (Nat.le_of_ble_eq_true rfl) ?_
  intro p e s m below meth c A ls hx hb hr hml hts hown hlocks hA hK hP hD hS hl hN hX hC htab
  have hl : lv_has ls 5 [(0, .ref (B 0)), (1, .int a0), (2, .int a1), (3, .ref o)] := hl
  generalize ([.ref (B 0), .int a0, .int a1, .ref o] : List Value).toArray = args at hts ⊢
  refine lv_aload_n hx hb dL_put_0 rfl (lv_at hl 3 rfl) ?_
  refine lv_iconst (v := 0) hx hb dL_put_1 (by decide) ?_
  refine lv_aload_n hx hb dL_put_2 rfl (lv_at hl 0 rfl) ?_
  refine lv_iload_n hx hb dL_put_3 rfl (lv_at hl 1 rfl) ?_
  refine lv_iload_n hx hb dL_put_4 rfl (lv_at hl 2 rfl) ?_
  refine callxf_i (w := wRR ca B ar) (w2 := (fun u => wRL ca B ar o u out)) (As := [.int a0, .int a1]) (rest := [.int 0, .ref o]) ⟨hx, hb, hml, hown, hts⟩ (tX4_put l hT D ca B ar _ σ a0 a1 z hz) (cwV 2 hts gL_put_X4_put rfl rfl rfl (by decide +kernel) ⟨Nat.le_of_ble_eq_true rfl, Nat.le_of_ble_eq_true rfl⟩) hN hX hK hP hD hA hS (fun u => fr_RL ca B ar o σ out u) rfl rfl rfl hl.1 rfl (lv_room (Nat.le_of_ble_eq_true rfl)) dL_put_5 ⟨Nat.le_of_ble_eq_true rfl, Nat.le_of_ble_eq_true rfl⟩ (fun k8 u8 ce8 q8 H locs hz8 hP hD hS h81 h82 h83 => ?_) (fun v8 u8 H locs hz8 hP hD hS => ?_)
  · rw [hz8] at hr9
    have hr9 : (if k8 = 1 then some ((1 : Int32), u8, out) else if k8 = 2 then some (2, u8, out) else none) = some (k, σ9, out9) := hr9
    by_cases c1 : k8 = 1
    · obtain ⟨rfl, rfl, rfl⟩ := so3 (it_p c1 hr9)
      subst c1
      refine vx_catch (name := "java/lang/IllegalArgumentException") (E := "java/lang/IllegalArgumentException") hown [] { startPc := 0, endPc := 10, handlerPc := 13, catchType := 13 } [{ startPc := 0, endPc := 10, handlerPc := 17, catchType := 19 }] (by rw [htab]; rfl) (fun z h => absurd h List.not_mem_nil) (by decide) (by decide) (hts (.classLink RL 13 "java/lang/IllegalArgumentException") (by decide +kernel)) (va_Nw.use rfl (hN.2.2.1 "java/lang/IllegalArgumentException" (by decide +kernel))) h81 h82 h83 ?_
      refine lv_astore (lv' := [(4, .ref q8), (0, .ref (B 0)), (1, .int a0), (2, .int a1), (3, .ref o)]) hx hb dL_put_13 hl (by decide) rfl (fun ls hl => ?_)
      refine lv_iconst (v := 1) hx hb dL_put_15 (by decide) ?_
      exact reth hx hb hr hlocks hK (Nat.le_of_ble_eq_true rfl) (Nat.le_of_ble_eq_true rfl) hP hD hS dL_put_16
    · replace hr9 := it_n c1 hr9
      by_cases c2 : k8 = 2
      · obtain ⟨rfl, rfl, rfl⟩ := so3 (it_p c2 hr9)
        subst c2
        refine vx_catch (name := "java/lang/IllegalStateException") (E := "java/lang/IllegalStateException") hown [{ startPc := 0, endPc := 10, handlerPc := 13, catchType := 13 }] { startPc := 0, endPc := 10, handlerPc := 17, catchType := 19 } [] (by rw [htab]; rfl) (fun z h => by cases List.mem_singleton.mp h; exact Or.inr ⟨by decide, "java/lang/IllegalArgumentException", hts (.classLink RL 13 "java/lang/IllegalArgumentException") (by decide +kernel), hC.1⟩) (by decide) (by decide) (hts (.classLink RL 19 "java/lang/IllegalStateException") (by decide +kernel)) (va_Nw.use rfl (hN.2.2.1 "java/lang/IllegalStateException" (by decide +kernel))) h81 h82 h83 ?_
        refine lv_astore (lv' := [(4, .ref q8), (0, .ref (B 0)), (1, .int a0), (2, .int a1), (3, .ref o)]) hx hb dL_put_17 hl (by decide) rfl (fun ls hl => ?_)
        refine lv_iconst (v := 2) hx hb dL_put_19 (by decide) ?_
        exact reth hx hb hr hlocks hK (Nat.le_of_ble_eq_true rfl) (Nat.le_of_ble_eq_true rfl) hP hD hS dL_put_20
      · exact absurd (it_n c2 hr9) (fun h => by cases h)
  · rw [hz8] at hr9
    refine lv_i2l (v := v8.toInt64) hx hb dL_put_8 rfl ?_
    have hr9 : some ((0 : Int32), u8, vp_updL out 0 v8.toInt64) = some (k, σ9, out9) := hr9
    refine va_last hx hb hK hP hD hS 20 3 rfl rfl (show ¬ ((0 : Int32) < 0 ∨ 1 ≤ (0 : Int32).toNatClampNeg) by decide) dL_put_9 (fun H locs hP hD hS => ?_)
    have hP : va_P D vwCl (wRL ca B ar o u8 (vp_updL out 0 v8.toInt64)) H := hP
    have hD : va_D A (wRL ca B ar o u8 (vp_updL out 0 v8.toInt64)) := hD
    obtain ⟨rfl, rfl, rfl⟩ := so3 hr9
    refine lv_goto (tgt := 21) hx hb dL_put_10 (by decide) ?_
    refine lv_iconst (v := 0) hx hb dL_put_21 (by decide) ?_
    exact reth hx hb hr hlocks hK (Nat.le_of_ble_eq_true rfl) (Nat.le_of_ble_eq_true rfl) hP hD hS dL_put_22

set_option maxHeartbeats 4000000 in
set_option maxRecDepth 100000 in
theorem tL_openSweep (l : Launch) (hT : l.stackTraces = false) (D : va_G) (ca : Nat → ClassId) (B : Nat → Nat) (ar : Nat → Nat → Nat) (o : Nat) (sz : Nat) (σ : RR) (out : Nat → Int64) (z : Ex (Int32 × RR)) (hz : rx_openSweep σ = some z) (k : Int32) (σ9 : RR) (out9 : Nat → Int64) (hr9 : hres 2 2 Int32.toInt64 z out = some (k, σ9, out9)) : Lh l D ca yL_openSweep wsL_openSweep { frames := 7, cells := 1, slots := 6, locals := 103 } [.ref (B 0), .ref o] (wRL ca B ar o σ out) sz k (wRL ca B ar o σ9 out9) 1 6 := by
  refine bodyl_of (cc := cL_openSweep) (maxL := 3) (ret := some .int) (by decide) rfl (Nat.le_of_ble_eq_true rfl) ?_
  intro p e s m below meth c A ls hx hb hr hml hts hown hlocks hA hK hP hD hS hl hN hX hC htab
  have hl : lv_has ls 3 [(0, .ref (B 0)), (1, .ref o)] := hl
  generalize ([.ref (B 0), .ref o] : List Value).toArray = args at hts ⊢
  refine lv_aload_n hx hb dL_openSweep_0 rfl (lv_at hl 1 rfl) ?_
  refine lv_iconst (v := 0) hx hb dL_openSweep_1 (by decide) ?_
  refine lv_aload_n hx hb dL_openSweep_2 rfl (lv_at hl 0 rfl) ?_
  refine callxf_i (w := wRR ca B ar) (w2 := (fun u => wRL ca B ar o u out)) (As := []) (rest := [.int 0, .ref o]) ⟨hx, hb, hml, hown, hts⟩ (tX4_openSweep l hT D ca B ar _ σ z hz) (cwV 0 hts gL_openSweep_X4_openSweep rfl rfl rfl (by decide +kernel) ⟨Nat.le_of_ble_eq_true rfl, Nat.le_of_ble_eq_true rfl⟩) hN hX hK hP hD hA hS (fun u => fr_RL ca B ar o σ out u) rfl rfl rfl hl.1 rfl (lv_room (Nat.le_of_ble_eq_true rfl)) dL_openSweep_3 ⟨Nat.le_of_ble_eq_true rfl, Nat.le_of_ble_eq_true rfl⟩ (fun k8 u8 ce8 q8 H locs hz8 hP hD hS h81 h82 h83 => ?_) (fun v8 u8 H locs hz8 hP hD hS => ?_)
  · rw [hz8] at hr9
    have hr9 : (if k8 = 2 then some ((1 : Int32), u8, out) else if k8 = 2 then some (2, u8, out) else none) = some (k, σ9, out9) := hr9
    by_cases c1 : k8 = 2
    · obtain ⟨rfl, rfl, rfl⟩ := so3 (it_p c1 hr9)
      subst c1
      refine vx_catch (name := "java/lang/IllegalStateException") (E := "java/lang/IllegalStateException") hown [] { startPc := 0, endPc := 8, handlerPc := 11, catchType := 19 } [] (by rw [htab]; rfl) (fun z h => absurd h List.not_mem_nil) (by decide) (by decide) (hts (.classLink RL 19 "java/lang/IllegalStateException") (by decide +kernel)) (va_Nw.use rfl (hN.2.2.1 "java/lang/IllegalStateException" (by decide +kernel))) h81 h82 h83 ?_
      refine lv_astore_n (lv' := [(2, .ref q8), (0, .ref (B 0)), (1, .ref o)]) hx hb dL_openSweep_11 rfl hl (by decide) rfl (fun ls hl => ?_)
      refine lv_iconst (v := 1) hx hb dL_openSweep_12 (by decide) ?_
      exact reth hx hb hr hlocks hK (Nat.le_of_ble_eq_true rfl) (Nat.le_of_ble_eq_true rfl) hP hD hS dL_openSweep_13
    · replace hr9 := it_n c1 hr9
      exact absurd (it_n c1 hr9) (fun h => by cases h)
  · rw [hz8] at hr9
    refine lv_i2l (v := v8.toInt64) hx hb dL_openSweep_6 rfl ?_
    have hr9 : some ((0 : Int32), u8, vp_updL out 0 v8.toInt64) = some (k, σ9, out9) := hr9
    refine va_last hx hb hK hP hD hS 20 3 rfl rfl (show ¬ ((0 : Int32) < 0 ∨ 1 ≤ (0 : Int32).toNatClampNeg) by decide) dL_openSweep_7 (fun H locs hP hD hS => ?_)
    have hP : va_P D vwCl (wRL ca B ar o u8 (vp_updL out 0 v8.toInt64)) H := hP
    have hD : va_D A (wRL ca B ar o u8 (vp_updL out 0 v8.toInt64)) := hD
    obtain ⟨rfl, rfl, rfl⟩ := so3 hr9
    refine lv_goto (tgt := 14) hx hb dL_openSweep_8 (by decide) ?_
    refine lv_iconst (v := 0) hx hb dL_openSweep_14 (by decide) ?_
    exact reth hx hb hr hlocks hK (Nat.le_of_ble_eq_true rfl) (Nat.le_of_ble_eq_true rfl) hP hD hS dL_openSweep_15

set_option maxHeartbeats 4000000 in
set_option maxRecDepth 100000 in
theorem tL_hasNext (l : Launch) (hT : l.stackTraces = false) (D : va_G) (ca : Nat → ClassId) (B : Nat → Nat) (ar : Nat → Nat → Nat) (o : Nat) (sz : Nat) (σ : RR) (out : Nat → Int64) (a0 : Int32) (z : Ex (Int32 × RR)) (hz : rx_hasNext σ a0 = some z) (k : Int32) (σ9 : RR) (out9 : Nat → Int64) (hr9 : hres 3 3 gB z out = some (k, σ9, out9)) : Lh l D ca yL_hasNext wsL_hasNext { frames := 8, cells := 1, slots := 6, locals := 128 } [.ref (B 0), .int a0, .ref o] (wRL ca B ar o σ out) sz k (wRL ca B ar o σ9 out9) 1 6 := by
  refine bodyl_of (cc := cL_hasNext) (maxL := 4) (ret := some .int) (by decide) rfl (Nat.le_of_ble_eq_true rfl) ?_
  intro p e s m below meth c A ls hx hb hr hml hts hown hlocks hA hK hP hD hS hl hN hX hC htab
  have hl : lv_has ls 4 [(0, .ref (B 0)), (1, .int a0), (2, .ref o)] := hl
  generalize ([.ref (B 0), .int a0, .ref o] : List Value).toArray = args at hts ⊢
  refine lv_aload_n hx hb dL_hasNext_0 rfl (lv_at hl 2 rfl) ?_
  refine lv_iconst (v := 0) hx hb dL_hasNext_1 (by decide) ?_
  refine lv_aload_n hx hb dL_hasNext_2 rfl (lv_at hl 0 rfl) ?_
  refine lv_iload_n hx hb dL_hasNext_3 rfl (lv_at hl 1 rfl) ?_
  refine callxf_i (w := wRR ca B ar) (w2 := (fun u => wRL ca B ar o u out)) (As := [.int a0]) (rest := [.int 0, .ref o]) ⟨hx, hb, hml, hown, hts⟩ (tX4_hasNext l hT D ca B ar _ σ a0 z hz) (cwV 1 hts gL_hasNext_X4_hasNext rfl rfl rfl (by decide +kernel) ⟨Nat.le_of_ble_eq_true rfl, Nat.le_of_ble_eq_true rfl⟩) hN hX hK hP hD hA hS (fun u => fr_RL ca B ar o σ out u) rfl rfl rfl hl.1 rfl (lv_room (Nat.le_of_ble_eq_true rfl)) dL_hasNext_4 ⟨Nat.le_of_ble_eq_true rfl, Nat.le_of_ble_eq_true rfl⟩ (fun k8 u8 ce8 q8 H locs hz8 hP hD hS h81 h82 h83 => ?_) (fun v8 u8 H locs hz8 hP hD hS => ?_)
  · rw [hz8] at hr9
    have hr9 : (if k8 = 3 then some ((1 : Int32), u8, out) else if k8 = 3 then some (2, u8, out) else none) = some (k, σ9, out9) := hr9
    by_cases c1 : k8 = 3
    · obtain ⟨rfl, rfl, rfl⟩ := so3 (it_p c1 hr9)
      subst c1
      refine vx_catch (name := "java/lang/IndexOutOfBoundsException") (E := "java/lang/IndexOutOfBoundsException") hown [] { startPc := 0, endPc := 16, handlerPc := 19, catchType := 29 } [] (by rw [htab]; rfl) (fun z h => absurd h List.not_mem_nil) (by decide) (by decide) (hts (.classLink RL 29 "java/lang/IndexOutOfBoundsException") (by decide +kernel)) (va_Nw.use rfl (hN.2.2.1 "java/lang/IndexOutOfBoundsException" (by decide +kernel))) h81 h82 h83 ?_
      refine lv_astore_n (lv' := [(3, .ref q8), (0, .ref (B 0)), (1, .int a0), (2, .ref o)]) hx hb dL_hasNext_19 rfl hl (by decide) rfl (fun ls hl => ?_)
      refine lv_iconst (v := 1) hx hb dL_hasNext_20 (by decide) ?_
      exact reth hx hb hr hlocks hK (Nat.le_of_ble_eq_true rfl) (Nat.le_of_ble_eq_true rfl) hP hD hS dL_hasNext_21
    · replace hr9 := it_n c1 hr9
      exact absurd (it_n c1 hr9) (fun h => by cases h)
  · rw [hz8] at hr9
    have hr9 : some ((0 : Int32), u8, vp_updL out 0 (gB v8)) = some (k, σ9, out9) := hr9
    refine lv_if_eq (tgt := 14) hx hb dL_hasNext_7 (by decide) (fun c5 => ?_) (fun c5 => ?_)
    · rw [show gB v8 = 0 from if_pos c5] at hr9
      refine lv_lconst (v := 0) hx hb dL_hasNext_14 (by decide) ?_
      refine va_last hx hb hK hP hD hS 20 3 rfl rfl (show ¬ ((0 : Int32) < 0 ∨ 1 ≤ (0 : Int32).toNatClampNeg) by decide) dL_hasNext_15 (fun H locs hP hD hS => ?_)
      have hP : va_P D vwCl (wRL ca B ar o u8 (vp_updL out 0 0)) H := hP
      have hD : va_D A (wRL ca B ar o u8 (vp_updL out 0 0)) := hD
      obtain ⟨rfl, rfl, rfl⟩ := so3 hr9
      refine lv_goto (tgt := 22) hx hb dL_hasNext_16 (by decide) ?_
      refine lv_iconst (v := 0) hx hb dL_hasNext_22 (by decide) ?_
      exact reth hx hb hr hlocks hK (Nat.le_of_ble_eq_true rfl) (Nat.le_of_ble_eq_true rfl) hP hD hS dL_hasNext_23
    · rw [show gB v8 = 1 from if_neg c5] at hr9
      refine lv_lconst (v := 1) hx hb dL_hasNext_10 (by decide) ?_
      refine lv_goto (tgt := 15) hx hb dL_hasNext_11 (by decide) ?_
      refine va_last hx hb hK hP hD hS 20 3 rfl rfl (show ¬ ((0 : Int32) < 0 ∨ 1 ≤ (0 : Int32).toNatClampNeg) by decide) dL_hasNext_15 (fun H locs hP hD hS => ?_)
      have hP : va_P D vwCl (wRL ca B ar o u8 (vp_updL out 0 1)) H := hP
      have hD : va_D A (wRL ca B ar o u8 (vp_updL out 0 1)) := hD
      obtain ⟨rfl, rfl, rfl⟩ := so3 hr9
      refine lv_goto (tgt := 22) hx hb dL_hasNext_16 (by decide) ?_
      refine lv_iconst (v := 0) hx hb dL_hasNext_22 (by decide) ?_
      exact reth hx hb hr hlocks hK (Nat.le_of_ble_eq_true rfl) (Nat.le_of_ble_eq_true rfl) hP hD hS dL_hasNext_23

set_option maxHeartbeats 4000000 in
set_option maxRecDepth 100000 in
theorem tL_next (l : Launch) (hT : l.stackTraces = false) (D : va_G) (ca : Nat → ClassId) (B : Nat → Nat) (ar : Nat → Nat → Nat) (o : Nat) (sz : Nat) (σ : RR) (out : Nat → Int64) (a0 : Int32) (z : Ex (Int32 × RR)) (hz : rx_next σ a0 = some z) (k : Int32) (σ9 : RR) (out9 : Nat → Int64) (hr9 : hres 3 2 Int32.toInt64 z out = some (k, σ9, out9)) : Lh l D ca yL_next wsL_next { frames := 8, cells := 2, slots := 12, locals := 130 } [.ref (B 0), .int a0, .ref o] (wRL ca B ar o σ out) sz k (wRL ca B ar o σ9 out9) 2 12 := by
  refine bodyl_of (cc := cL_next) (maxL := 4) (ret := some .int) (by decide) rfl (Nat.le_of_ble_eq_true rfl) ?_
  intro p e s m below meth c A ls hx hb hr hml hts hown hlocks hA hK hP hD hS hl hN hX hC htab
  have hl : lv_has ls 4 [(0, .ref (B 0)), (1, .int a0), (2, .ref o)] := hl
  generalize ([.ref (B 0), .int a0, .ref o] : List Value).toArray = args at hts ⊢
  refine lv_aload_n hx hb dL_next_0 rfl (lv_at hl 2 rfl) ?_
  refine lv_iconst (v := 0) hx hb dL_next_1 (by decide) ?_
  refine lv_aload_n hx hb dL_next_2 rfl (lv_at hl 0 rfl) ?_
  refine lv_iload_n hx hb dL_next_3 rfl (lv_at hl 1 rfl) ?_
  refine callxf_i (w := wRR ca B ar) (w2 := (fun u => wRL ca B ar o u out)) (As := [.int a0]) (rest := [.int 0, .ref o]) ⟨hx, hb, hml, hown, hts⟩ (tX4_next l hT D ca B ar _ σ a0 z hz) (cwV 1 hts gL_next_X4_next rfl rfl rfl (by decide +kernel) ⟨Nat.le_of_ble_eq_true rfl, Nat.le_of_ble_eq_true rfl⟩) hN hX hK hP hD hA hS (fun u => fr_RL ca B ar o σ out u) rfl rfl rfl hl.1 rfl (lv_room (Nat.le_of_ble_eq_true rfl)) dL_next_4 ⟨Nat.le_of_ble_eq_true rfl, Nat.le_of_ble_eq_true rfl⟩ (fun k8 u8 ce8 q8 H locs hz8 hP hD hS h81 h82 h83 => ?_) (fun v8 u8 H locs hz8 hP hD hS => ?_)
  · rw [hz8] at hr9
    have hr9 : (if k8 = 3 then some ((1 : Int32), u8, out) else if k8 = 2 then some (2, u8, out) else none) = some (k, σ9, out9) := hr9
    by_cases c1 : k8 = 3
    · obtain ⟨rfl, rfl, rfl⟩ := so3 (it_p c1 hr9)
      subst c1
      refine vx_catch (name := "java/lang/IndexOutOfBoundsException") (E := "java/lang/IndexOutOfBoundsException") hown [] { startPc := 0, endPc := 9, handlerPc := 12, catchType := 29 } [{ startPc := 0, endPc := 9, handlerPc := 15, catchType := 19 }] (by rw [htab]; rfl) (fun z h => absurd h List.not_mem_nil) (by decide) (by decide) (hts (.classLink RL 29 "java/lang/IndexOutOfBoundsException") (by decide +kernel)) (va_Nw.use rfl (hN.2.2.1 "java/lang/IndexOutOfBoundsException" (by decide +kernel))) h81 h82 h83 ?_
      refine lv_astore_n (lv' := [(3, .ref q8), (0, .ref (B 0)), (1, .int a0), (2, .ref o)]) hx hb dL_next_12 rfl hl (by decide) rfl (fun ls hl => ?_)
      refine lv_iconst (v := 1) hx hb dL_next_13 (by decide) ?_
      exact reth hx hb hr hlocks hK (Nat.le_of_ble_eq_true rfl) (Nat.le_of_ble_eq_true rfl) hP hD hS dL_next_14
    · replace hr9 := it_n c1 hr9
      by_cases c2 : k8 = 2
      · obtain ⟨rfl, rfl, rfl⟩ := so3 (it_p c2 hr9)
        subst c2
        refine vx_catch (name := "java/lang/IllegalStateException") (E := "java/lang/IllegalStateException") hown [{ startPc := 0, endPc := 9, handlerPc := 12, catchType := 29 }] { startPc := 0, endPc := 9, handlerPc := 15, catchType := 19 } [] (by rw [htab]; rfl) (fun z h => by cases List.mem_singleton.mp h; exact Or.inr ⟨by decide, "java/lang/IndexOutOfBoundsException", hts (.classLink RL 29 "java/lang/IndexOutOfBoundsException") (by decide +kernel), hC.2⟩) (by decide) (by decide) (hts (.classLink RL 19 "java/lang/IllegalStateException") (by decide +kernel)) (va_Nw.use rfl (hN.2.2.1 "java/lang/IllegalStateException" (by decide +kernel))) h81 h82 h83 ?_
        refine lv_astore_n (lv' := [(3, .ref q8), (0, .ref (B 0)), (1, .int a0), (2, .ref o)]) hx hb dL_next_15 rfl hl (by decide) rfl (fun ls hl => ?_)
        refine lv_iconst (v := 2) hx hb dL_next_16 (by decide) ?_
        exact reth hx hb hr hlocks hK (Nat.le_of_ble_eq_true rfl) (Nat.le_of_ble_eq_true rfl) hP hD hS dL_next_17
      · exact absurd (it_n c2 hr9) (fun h => by cases h)
  · rw [hz8] at hr9
    refine lv_i2l (v := v8.toInt64) hx hb dL_next_7 rfl ?_
    have hr9 : some ((0 : Int32), u8, vp_updL out 0 v8.toInt64) = some (k, σ9, out9) := hr9
    refine va_last hx hb hK hP hD hS 20 3 rfl rfl (show ¬ ((0 : Int32) < 0 ∨ 1 ≤ (0 : Int32).toNatClampNeg) by decide) dL_next_8 (fun H locs hP hD hS => ?_)
    have hP : va_P D vwCl (wRL ca B ar o u8 (vp_updL out 0 v8.toInt64)) H := hP
    have hD : va_D A (wRL ca B ar o u8 (vp_updL out 0 v8.toInt64)) := hD
    obtain ⟨rfl, rfl, rfl⟩ := so3 hr9
    refine lv_goto (tgt := 18) hx hb dL_next_9 (by decide) ?_
    refine lv_iconst (v := 0) hx hb dL_next_18 (by decide) ?_
    exact reth hx hb hr hlocks hK (Nat.le_of_ble_eq_true rfl) (Nat.le_of_ble_eq_true rfl) hP hD hS dL_next_19

set_option maxHeartbeats 4000000 in
set_option maxRecDepth 100000 in
theorem tL_removeMet (l : Launch) (hT : l.stackTraces = false) (D : va_G) (ca : Nat → ClassId) (B : Nat → Nat) (ar : Nat → Nat → Nat) (o : Nat) (sz : Nat) (σ : RR) (out : Nat → Int64) (a0 : Int32) (z : Ex (Int32 × RR)) (hz : rx_removeMet σ a0 = some z) (k : Int32) (σ9 : RR) (out9 : Nat → Int64) (hr9 : hres 3 2 Int32.toInt64 z out = some (k, σ9, out9)) : Lh l D ca yL_removeMet wsL_removeMet { frames := 8, cells := 2, slots := 12, locals := 141 } [.ref (B 0), .int a0, .ref o] (wRL ca B ar o σ out) sz k (wRL ca B ar o σ9 out9) 2 12 := by
  refine bodyl_of (cc := cL_removeMet) (maxL := 4) (ret := some .int) (by decide) rfl (Nat.le_of_ble_eq_true rfl) ?_
  intro p e s m below meth c A ls hx hb hr hml hts hown hlocks hA hK hP hD hS hl hN hX hC htab
  have hl : lv_has ls 4 [(0, .ref (B 0)), (1, .int a0), (2, .ref o)] := hl
  generalize ([.ref (B 0), .int a0, .ref o] : List Value).toArray = args at hts ⊢
  refine lv_aload_n hx hb dL_removeMet_0 rfl (lv_at hl 2 rfl) ?_
  refine lv_iconst (v := 0) hx hb dL_removeMet_1 (by decide) ?_
  refine lv_aload_n hx hb dL_removeMet_2 rfl (lv_at hl 0 rfl) ?_
  refine lv_iload_n hx hb dL_removeMet_3 rfl (lv_at hl 1 rfl) ?_
  refine callxf_i (w := wRR ca B ar) (w2 := (fun u => wRL ca B ar o u out)) (As := [.int a0]) (rest := [.int 0, .ref o]) ⟨hx, hb, hml, hown, hts⟩ (tX4_removeMet l hT D ca B ar _ σ a0 z hz) (cwV 1 hts gL_removeMet_X4_removeMet rfl rfl rfl (by decide +kernel) ⟨Nat.le_of_ble_eq_true rfl, Nat.le_of_ble_eq_true rfl⟩) hN hX hK hP hD hA hS (fun u => fr_RL ca B ar o σ out u) rfl rfl rfl hl.1 rfl (lv_room (Nat.le_of_ble_eq_true rfl)) dL_removeMet_4 ⟨Nat.le_of_ble_eq_true rfl, Nat.le_of_ble_eq_true rfl⟩ (fun k8 u8 ce8 q8 H locs hz8 hP hD hS h81 h82 h83 => ?_) (fun v8 u8 H locs hz8 hP hD hS => ?_)
  · rw [hz8] at hr9
    have hr9 : (if k8 = 3 then some ((1 : Int32), u8, out) else if k8 = 2 then some (2, u8, out) else none) = some (k, σ9, out9) := hr9
    by_cases c1 : k8 = 3
    · obtain ⟨rfl, rfl, rfl⟩ := so3 (it_p c1 hr9)
      subst c1
      refine vx_catch (name := "java/lang/IndexOutOfBoundsException") (E := "java/lang/IndexOutOfBoundsException") hown [] { startPc := 0, endPc := 9, handlerPc := 12, catchType := 29 } [{ startPc := 0, endPc := 9, handlerPc := 15, catchType := 19 }] (by rw [htab]; rfl) (fun z h => absurd h List.not_mem_nil) (by decide) (by decide) (hts (.classLink RL 29 "java/lang/IndexOutOfBoundsException") (by decide +kernel)) (va_Nw.use rfl (hN.2.2.1 "java/lang/IndexOutOfBoundsException" (by decide +kernel))) h81 h82 h83 ?_
      refine lv_astore_n (lv' := [(3, .ref q8), (0, .ref (B 0)), (1, .int a0), (2, .ref o)]) hx hb dL_removeMet_12 rfl hl (by decide) rfl (fun ls hl => ?_)
      refine lv_iconst (v := 1) hx hb dL_removeMet_13 (by decide) ?_
      exact reth hx hb hr hlocks hK (Nat.le_of_ble_eq_true rfl) (Nat.le_of_ble_eq_true rfl) hP hD hS dL_removeMet_14
    · replace hr9 := it_n c1 hr9
      by_cases c2 : k8 = 2
      · obtain ⟨rfl, rfl, rfl⟩ := so3 (it_p c2 hr9)
        subst c2
        refine vx_catch (name := "java/lang/IllegalStateException") (E := "java/lang/IllegalStateException") hown [{ startPc := 0, endPc := 9, handlerPc := 12, catchType := 29 }] { startPc := 0, endPc := 9, handlerPc := 15, catchType := 19 } [] (by rw [htab]; rfl) (fun z h => by cases List.mem_singleton.mp h; exact Or.inr ⟨by decide, "java/lang/IndexOutOfBoundsException", hts (.classLink RL 29 "java/lang/IndexOutOfBoundsException") (by decide +kernel), hC.2⟩) (by decide) (by decide) (hts (.classLink RL 19 "java/lang/IllegalStateException") (by decide +kernel)) (va_Nw.use rfl (hN.2.2.1 "java/lang/IllegalStateException" (by decide +kernel))) h81 h82 h83 ?_
        refine lv_astore_n (lv' := [(3, .ref q8), (0, .ref (B 0)), (1, .int a0), (2, .ref o)]) hx hb dL_removeMet_15 rfl hl (by decide) rfl (fun ls hl => ?_)
        refine lv_iconst (v := 2) hx hb dL_removeMet_16 (by decide) ?_
        exact reth hx hb hr hlocks hK (Nat.le_of_ble_eq_true rfl) (Nat.le_of_ble_eq_true rfl) hP hD hS dL_removeMet_17
      · exact absurd (it_n c2 hr9) (fun h => by cases h)
  · rw [hz8] at hr9
    refine lv_i2l (v := v8.toInt64) hx hb dL_removeMet_7 rfl ?_
    have hr9 : some ((0 : Int32), u8, vp_updL out 0 v8.toInt64) = some (k, σ9, out9) := hr9
    refine va_last hx hb hK hP hD hS 20 3 rfl rfl (show ¬ ((0 : Int32) < 0 ∨ 1 ≤ (0 : Int32).toNatClampNeg) by decide) dL_removeMet_8 (fun H locs hP hD hS => ?_)
    have hP : va_P D vwCl (wRL ca B ar o u8 (vp_updL out 0 v8.toInt64)) H := hP
    have hD : va_D A (wRL ca B ar o u8 (vp_updL out 0 v8.toInt64)) := hD
    obtain ⟨rfl, rfl, rfl⟩ := so3 hr9
    refine lv_goto (tgt := 18) hx hb dL_removeMet_9 (by decide) ?_
    refine lv_iconst (v := 0) hx hb dL_removeMet_18 (by decide) ?_
    exact reth hx hb hr hlocks hK (Nat.le_of_ble_eq_true rfl) (Nat.le_of_ble_eq_true rfl) hP hD hS dL_removeMet_19

set_option maxHeartbeats 4000000 in
set_option maxRecDepth 100000 in
theorem tL_closeSweep (l : Launch) (hT : l.stackTraces = false) (D : va_G) (ca : Nat → ClassId) (B : Nat → Nat) (ar : Nat → Nat → Nat) (o : Nat) (sz : Nat) (σ : RR) (out : Nat → Int64) (a0 : Int32) (z : Ex (Int32 × RR)) (hz : rx_closeSweep σ a0 = some z) (k : Int32) (σ9 : RR) (out9 : Nat → Int64) (hr9 : hres 3 3 Int32.toInt64 z out = some (k, σ9, out9)) : Lh l D ca yL_closeSweep wsL_closeSweep { frames := 8, cells := 1, slots := 6, locals := 125 } [.ref (B 0), .int a0, .ref o] (wRL ca B ar o σ out) sz k (wRL ca B ar o σ9 out9) 1 6 := by
  refine bodyl_of (cc := cL_closeSweep) (maxL := 4) (ret := some .int) (by decide) rfl (Nat.le_of_ble_eq_true rfl) ?_
  intro p e s m below meth c A ls hx hb hr hml hts hown hlocks hA hK hP hD hS hl hN hX hC htab
  have hl : lv_has ls 4 [(0, .ref (B 0)), (1, .int a0), (2, .ref o)] := hl
  generalize ([.ref (B 0), .int a0, .ref o] : List Value).toArray = args at hts ⊢
  refine lv_aload_n hx hb dL_closeSweep_0 rfl (lv_at hl 2 rfl) ?_
  refine lv_iconst (v := 0) hx hb dL_closeSweep_1 (by decide) ?_
  refine lv_aload_n hx hb dL_closeSweep_2 rfl (lv_at hl 0 rfl) ?_
  refine lv_iload_n hx hb dL_closeSweep_3 rfl (lv_at hl 1 rfl) ?_
  refine callxf_i (w := wRR ca B ar) (w2 := (fun u => wRL ca B ar o u out)) (As := [.int a0]) (rest := [.int 0, .ref o]) ⟨hx, hb, hml, hown, hts⟩ (tX4_closeSweep l hT D ca B ar _ σ a0 z hz) (cwV 1 hts gL_closeSweep_X4_closeSweep rfl rfl rfl (by decide +kernel) ⟨Nat.le_of_ble_eq_true rfl, Nat.le_of_ble_eq_true rfl⟩) hN hX hK hP hD hA hS (fun u => fr_RL ca B ar o σ out u) rfl rfl rfl hl.1 rfl (lv_room (Nat.le_of_ble_eq_true rfl)) dL_closeSweep_4 ⟨Nat.le_of_ble_eq_true rfl, Nat.le_of_ble_eq_true rfl⟩ (fun k8 u8 ce8 q8 H locs hz8 hP hD hS h81 h82 h83 => ?_) (fun v8 u8 H locs hz8 hP hD hS => ?_)
  · rw [hz8] at hr9
    have hr9 : (if k8 = 3 then some ((1 : Int32), u8, out) else if k8 = 3 then some (2, u8, out) else none) = some (k, σ9, out9) := hr9
    by_cases c1 : k8 = 3
    · obtain ⟨rfl, rfl, rfl⟩ := so3 (it_p c1 hr9)
      subst c1
      refine vx_catch (name := "java/lang/IndexOutOfBoundsException") (E := "java/lang/IndexOutOfBoundsException") hown [] { startPc := 0, endPc := 9, handlerPc := 12, catchType := 29 } [] (by rw [htab]; rfl) (fun z h => absurd h List.not_mem_nil) (by decide) (by decide) (hts (.classLink RL 29 "java/lang/IndexOutOfBoundsException") (by decide +kernel)) (va_Nw.use rfl (hN.2.2.1 "java/lang/IndexOutOfBoundsException" (by decide +kernel))) h81 h82 h83 ?_
      refine lv_astore_n (lv' := [(3, .ref q8), (0, .ref (B 0)), (1, .int a0), (2, .ref o)]) hx hb dL_closeSweep_12 rfl hl (by decide) rfl (fun ls hl => ?_)
      refine lv_iconst (v := 1) hx hb dL_closeSweep_13 (by decide) ?_
      exact reth hx hb hr hlocks hK (Nat.le_of_ble_eq_true rfl) (Nat.le_of_ble_eq_true rfl) hP hD hS dL_closeSweep_14
    · replace hr9 := it_n c1 hr9
      exact absurd (it_n c1 hr9) (fun h => by cases h)
  · rw [hz8] at hr9
    refine lv_i2l (v := v8.toInt64) hx hb dL_closeSweep_7 rfl ?_
    have hr9 : some ((0 : Int32), u8, vp_updL out 0 v8.toInt64) = some (k, σ9, out9) := hr9
    refine va_last hx hb hK hP hD hS 20 3 rfl rfl (show ¬ ((0 : Int32) < 0 ∨ 1 ≤ (0 : Int32).toNatClampNeg) by decide) dL_closeSweep_8 (fun H locs hP hD hS => ?_)
    have hP : va_P D vwCl (wRL ca B ar o u8 (vp_updL out 0 v8.toInt64)) H := hP
    have hD : va_D A (wRL ca B ar o u8 (vp_updL out 0 v8.toInt64)) := hD
    obtain ⟨rfl, rfl, rfl⟩ := so3 hr9
    refine lv_goto (tgt := 15) hx hb dL_closeSweep_9 (by decide) ?_
    refine lv_iconst (v := 0) hx hb dL_closeSweep_15 (by decide) ?_
    exact reth hx hb hr hlocks hK (Nat.le_of_ble_eq_true rfl) (Nat.le_of_ble_eq_true rfl) hP hD hS dL_closeSweep_16

set_option maxHeartbeats 4000000 in
set_option maxRecDepth 100000 in
theorem tL_slots (l : Launch) (hT : l.stackTraces = false) (D : va_G) (ca : Nat → ClassId) (B : Nat → Nat) (ar : Nat → Nat → Nat) (o : Nat) (sz : Nat) (σ : RR) (out : Nat → Int64) (a0 : Int32) (z : Ex (Int32 × RR)) (hz : rx_slots σ a0 = some z) (k : Int32) (σ9 : RR) (out9 : Nat → Int64) (hr9 : hres 3 3 Int32.toInt64 z out = some (k, σ9, out9)) : Lh l D ca yL_slots wsL_slots { frames := 8, cells := 1, slots := 6, locals := 124 } [.ref (B 0), .int a0, .ref o] (wRL ca B ar o σ out) sz k (wRL ca B ar o σ9 out9) 1 6 := by
  refine bodyl_of (cc := cL_slots) (maxL := 4) (ret := some .int) (by decide) rfl (Nat.le_of_ble_eq_true rfl) ?_
  intro p e s m below meth c A ls hx hb hr hml hts hown hlocks hA hK hP hD hS hl hN hX hC htab
  have hl : lv_has ls 4 [(0, .ref (B 0)), (1, .int a0), (2, .ref o)] := hl
  generalize ([.ref (B 0), .int a0, .ref o] : List Value).toArray = args at hts ⊢
  refine lv_aload_n hx hb dL_slots_0 rfl (lv_at hl 2 rfl) ?_
  refine lv_iconst (v := 0) hx hb dL_slots_1 (by decide) ?_
  refine lv_aload_n hx hb dL_slots_2 rfl (lv_at hl 0 rfl) ?_
  refine lv_iload_n hx hb dL_slots_3 rfl (lv_at hl 1 rfl) ?_
  refine callxf_i (w := wRR ca B ar) (w2 := (fun u => wRL ca B ar o u out)) (As := [.int a0]) (rest := [.int 0, .ref o]) ⟨hx, hb, hml, hown, hts⟩ (tX4_slots l hT D ca B ar _ σ a0 z hz) (cwV 1 hts gL_slots_X4_slots rfl rfl rfl (by decide +kernel) ⟨Nat.le_of_ble_eq_true rfl, Nat.le_of_ble_eq_true rfl⟩) hN hX hK hP hD hA hS (fun u => fr_RL ca B ar o σ out u) rfl rfl rfl hl.1 rfl (lv_room (Nat.le_of_ble_eq_true rfl)) dL_slots_4 ⟨Nat.le_of_ble_eq_true rfl, Nat.le_of_ble_eq_true rfl⟩ (fun k8 u8 ce8 q8 H locs hz8 hP hD hS h81 h82 h83 => ?_) (fun v8 u8 H locs hz8 hP hD hS => ?_)
  · rw [hz8] at hr9
    have hr9 : (if k8 = 3 then some ((1 : Int32), u8, out) else if k8 = 3 then some (2, u8, out) else none) = some (k, σ9, out9) := hr9
    by_cases c1 : k8 = 3
    · obtain ⟨rfl, rfl, rfl⟩ := so3 (it_p c1 hr9)
      subst c1
      refine vx_catch (name := "java/lang/IndexOutOfBoundsException") (E := "java/lang/IndexOutOfBoundsException") hown [] { startPc := 0, endPc := 9, handlerPc := 12, catchType := 29 } [] (by rw [htab]; rfl) (fun z h => absurd h List.not_mem_nil) (by decide) (by decide) (hts (.classLink RL 29 "java/lang/IndexOutOfBoundsException") (by decide +kernel)) (va_Nw.use rfl (hN.2.2.1 "java/lang/IndexOutOfBoundsException" (by decide +kernel))) h81 h82 h83 ?_
      refine lv_astore_n (lv' := [(3, .ref q8), (0, .ref (B 0)), (1, .int a0), (2, .ref o)]) hx hb dL_slots_12 rfl hl (by decide) rfl (fun ls hl => ?_)
      refine lv_iconst (v := 1) hx hb dL_slots_13 (by decide) ?_
      exact reth hx hb hr hlocks hK (Nat.le_of_ble_eq_true rfl) (Nat.le_of_ble_eq_true rfl) hP hD hS dL_slots_14
    · replace hr9 := it_n c1 hr9
      exact absurd (it_n c1 hr9) (fun h => by cases h)
  · rw [hz8] at hr9
    refine lv_i2l (v := v8.toInt64) hx hb dL_slots_7 rfl ?_
    have hr9 : some ((0 : Int32), u8, vp_updL out 0 v8.toInt64) = some (k, σ9, out9) := hr9
    refine va_last hx hb hK hP hD hS 20 3 rfl rfl (show ¬ ((0 : Int32) < 0 ∨ 1 ≤ (0 : Int32).toNatClampNeg) by decide) dL_slots_8 (fun H locs hP hD hS => ?_)
    have hP : va_P D vwCl (wRL ca B ar o u8 (vp_updL out 0 v8.toInt64)) H := hP
    have hD : va_D A (wRL ca B ar o u8 (vp_updL out 0 v8.toInt64)) := hD
    obtain ⟨rfl, rfl, rfl⟩ := so3 hr9
    refine lv_goto (tgt := 15) hx hb dL_slots_9 (by decide) ?_
    refine lv_iconst (v := 0) hx hb dL_slots_15 (by decide) ?_
    exact reth hx hb hr hlocks hK (Nat.le_of_ble_eq_true rfl) (Nat.le_of_ble_eq_true rfl) hP hD hS dL_slots_16

set_option maxHeartbeats 4000000 in
set_option maxRecDepth 100000 in
theorem tL_keysIn (l : Launch) (hT : l.stackTraces = false) (D : va_G) (ca : Nat → ClassId) (B : Nat → Nat) (ar : Nat → Nat → Nat) (o : Nat) (sz : Nat) (σ : RR) (out : Nat → Int64) (a0 : Int32) (z : Ex (Int32 × RR)) (hz : rx_keysIn σ a0 = some z) (k : Int32) (σ9 : RR) (out9 : Nat → Int64) (hr9 : hres 3 3 Int32.toInt64 z out = some (k, σ9, out9)) : Lh l D ca yL_keysIn wsL_keysIn { frames := 8, cells := 1, slots := 6, locals := 124 } [.ref (B 0), .int a0, .ref o] (wRL ca B ar o σ out) sz k (wRL ca B ar o σ9 out9) 1 6 := by
  refine bodyl_of (cc := cL_keysIn) (maxL := 4) (ret := some .int) (by decide) rfl (Nat.le_of_ble_eq_true rfl) ?_
  intro p e s m below meth c A ls hx hb hr hml hts hown hlocks hA hK hP hD hS hl hN hX hC htab
  have hl : lv_has ls 4 [(0, .ref (B 0)), (1, .int a0), (2, .ref o)] := hl
  generalize ([.ref (B 0), .int a0, .ref o] : List Value).toArray = args at hts ⊢
  refine lv_aload_n hx hb dL_keysIn_0 rfl (lv_at hl 2 rfl) ?_
  refine lv_iconst (v := 0) hx hb dL_keysIn_1 (by decide) ?_
  refine lv_aload_n hx hb dL_keysIn_2 rfl (lv_at hl 0 rfl) ?_
  refine lv_iload_n hx hb dL_keysIn_3 rfl (lv_at hl 1 rfl) ?_
  refine callxf_i (w := wRR ca B ar) (w2 := (fun u => wRL ca B ar o u out)) (As := [.int a0]) (rest := [.int 0, .ref o]) ⟨hx, hb, hml, hown, hts⟩ (tX4_keysIn l hT D ca B ar _ σ a0 z hz) (cwV 1 hts gL_keysIn_X4_keysIn rfl rfl rfl (by decide +kernel) ⟨Nat.le_of_ble_eq_true rfl, Nat.le_of_ble_eq_true rfl⟩) hN hX hK hP hD hA hS (fun u => fr_RL ca B ar o σ out u) rfl rfl rfl hl.1 rfl (lv_room (Nat.le_of_ble_eq_true rfl)) dL_keysIn_4 ⟨Nat.le_of_ble_eq_true rfl, Nat.le_of_ble_eq_true rfl⟩ (fun k8 u8 ce8 q8 H locs hz8 hP hD hS h81 h82 h83 => ?_) (fun v8 u8 H locs hz8 hP hD hS => ?_)
  · rw [hz8] at hr9
    have hr9 : (if k8 = 3 then some ((1 : Int32), u8, out) else if k8 = 3 then some (2, u8, out) else none) = some (k, σ9, out9) := hr9
    by_cases c1 : k8 = 3
    · obtain ⟨rfl, rfl, rfl⟩ := so3 (it_p c1 hr9)
      subst c1
      refine vx_catch (name := "java/lang/IndexOutOfBoundsException") (E := "java/lang/IndexOutOfBoundsException") hown [] { startPc := 0, endPc := 9, handlerPc := 12, catchType := 29 } [] (by rw [htab]; rfl) (fun z h => absurd h List.not_mem_nil) (by decide) (by decide) (hts (.classLink RL 29 "java/lang/IndexOutOfBoundsException") (by decide +kernel)) (va_Nw.use rfl (hN.2.2.1 "java/lang/IndexOutOfBoundsException" (by decide +kernel))) h81 h82 h83 ?_
      refine lv_astore_n (lv' := [(3, .ref q8), (0, .ref (B 0)), (1, .int a0), (2, .ref o)]) hx hb dL_keysIn_12 rfl hl (by decide) rfl (fun ls hl => ?_)
      refine lv_iconst (v := 1) hx hb dL_keysIn_13 (by decide) ?_
      exact reth hx hb hr hlocks hK (Nat.le_of_ble_eq_true rfl) (Nat.le_of_ble_eq_true rfl) hP hD hS dL_keysIn_14
    · replace hr9 := it_n c1 hr9
      exact absurd (it_n c1 hr9) (fun h => by cases h)
  · rw [hz8] at hr9
    refine lv_i2l (v := v8.toInt64) hx hb dL_keysIn_7 rfl ?_
    have hr9 : some ((0 : Int32), u8, vp_updL out 0 v8.toInt64) = some (k, σ9, out9) := hr9
    refine va_last hx hb hK hP hD hS 20 3 rfl rfl (show ¬ ((0 : Int32) < 0 ∨ 1 ≤ (0 : Int32).toNatClampNeg) by decide) dL_keysIn_8 (fun H locs hP hD hS => ?_)
    have hP : va_P D vwCl (wRL ca B ar o u8 (vp_updL out 0 v8.toInt64)) H := hP
    have hD : va_D A (wRL ca B ar o u8 (vp_updL out 0 v8.toInt64)) := hD
    obtain ⟨rfl, rfl, rfl⟩ := so3 hr9
    refine lv_goto (tgt := 15) hx hb dL_keysIn_9 (by decide) ?_
    refine lv_iconst (v := 0) hx hb dL_keysIn_15 (by decide) ?_
    exact reth hx hb hr hlocks hK (Nat.le_of_ble_eq_true rfl) (Nat.le_of_ble_eq_true rfl) hP hD hS dL_keysIn_16

set_option maxHeartbeats 4000000 in
set_option maxRecDepth 100000 in
theorem tL_control (l : Launch) (hT : l.stackTraces = false) (D : va_G) (ca : Nat → ClassId) (B : Nat → Nat) (ar : Nat → Nat → Nat) (o : Nat) (sz : Nat) (σ : RR) (out : Nat → Int64) (a0 : Int32) (a1 : Int32) (z : Ex (Int32 × RR)) (hz : rx_control σ a0 a1 = some z) (k : Int32) (σ9 : RR) (out9 : Nat → Int64) (hr9 : hres 3 3 Int32.toInt64 z out = some (k, σ9, out9)) : Lh l D ca yL_control wsL_control { frames := 9, cells := 2, slots := 12, locals := 148 } [.ref (B 0), .int a0, .int a1, .ref o] (wRL ca B ar o σ out) sz k (wRL ca B ar o σ9 out9) 2 12 := by
  refine bodyl_of (cc := cL_control) (maxL := 5) (ret := some .int) (by decide) rfl (Nat.le_of_ble_eq_true rfl) ?_
  intro p e s m below meth c A ls hx hb hr hml hts hown hlocks hA hK hP hD hS hl hN hX hC htab
  have hl : lv_has ls 5 [(0, .ref (B 0)), (1, .int a0), (2, .int a1), (3, .ref o)] := hl
  generalize ([.ref (B 0), .int a0, .int a1, .ref o] : List Value).toArray = args at hts ⊢
  refine lv_aload_n hx hb dL_control_0 rfl (lv_at hl 3 rfl) ?_
  refine lv_iconst (v := 0) hx hb dL_control_1 (by decide) ?_
  refine lv_aload_n hx hb dL_control_2 rfl (lv_at hl 0 rfl) ?_
  refine lv_iload_n hx hb dL_control_3 rfl (lv_at hl 1 rfl) ?_
  refine lv_iload_n hx hb dL_control_4 rfl (lv_at hl 2 rfl) ?_
  refine callxf_i (w := wRR ca B ar) (w2 := (fun u => wRL ca B ar o u out)) (As := [.int a0, .int a1]) (rest := [.int 0, .ref o]) ⟨hx, hb, hml, hown, hts⟩ (tX4_control l hT D ca B ar _ σ a0 a1 z hz) (cwV 2 hts gL_control_X4_control rfl rfl rfl (by decide +kernel) ⟨Nat.le_of_ble_eq_true rfl, Nat.le_of_ble_eq_true rfl⟩) hN hX hK hP hD hA hS (fun u => fr_RL ca B ar o σ out u) rfl rfl rfl hl.1 rfl (lv_room (Nat.le_of_ble_eq_true rfl)) dL_control_5 ⟨Nat.le_of_ble_eq_true rfl, Nat.le_of_ble_eq_true rfl⟩ (fun k8 u8 ce8 q8 H locs hz8 hP hD hS h81 h82 h83 => ?_) (fun v8 u8 H locs hz8 hP hD hS => ?_)
  · rw [hz8] at hr9
    have hr9 : (if k8 = 3 then some ((1 : Int32), u8, out) else if k8 = 3 then some (2, u8, out) else none) = some (k, σ9, out9) := hr9
    by_cases c1 : k8 = 3
    · obtain ⟨rfl, rfl, rfl⟩ := so3 (it_p c1 hr9)
      subst c1
      refine vx_catch (name := "java/lang/IndexOutOfBoundsException") (E := "java/lang/IndexOutOfBoundsException") hown [] { startPc := 0, endPc := 10, handlerPc := 13, catchType := 29 } [] (by rw [htab]; rfl) (fun z h => absurd h List.not_mem_nil) (by decide) (by decide) (hts (.classLink RL 29 "java/lang/IndexOutOfBoundsException") (by decide +kernel)) (va_Nw.use rfl (hN.2.2.1 "java/lang/IndexOutOfBoundsException" (by decide +kernel))) h81 h82 h83 ?_
      refine lv_astore (lv' := [(4, .ref q8), (0, .ref (B 0)), (1, .int a0), (2, .int a1), (3, .ref o)]) hx hb dL_control_13 hl (by decide) rfl (fun ls hl => ?_)
      refine lv_iconst (v := 1) hx hb dL_control_15 (by decide) ?_
      exact reth hx hb hr hlocks hK (Nat.le_of_ble_eq_true rfl) (Nat.le_of_ble_eq_true rfl) hP hD hS dL_control_16
    · replace hr9 := it_n c1 hr9
      exact absurd (it_n c1 hr9) (fun h => by cases h)
  · rw [hz8] at hr9
    refine lv_i2l (v := v8.toInt64) hx hb dL_control_8 rfl ?_
    have hr9 : some ((0 : Int32), u8, vp_updL out 0 v8.toInt64) = some (k, σ9, out9) := hr9
    refine va_last hx hb hK hP hD hS 20 3 rfl rfl (show ¬ ((0 : Int32) < 0 ∨ 1 ≤ (0 : Int32).toNatClampNeg) by decide) dL_control_9 (fun H locs hP hD hS => ?_)
    have hP : va_P D vwCl (wRL ca B ar o u8 (vp_updL out 0 v8.toInt64)) H := hP
    have hD : va_D A (wRL ca B ar o u8 (vp_updL out 0 v8.toInt64)) := hD
    obtain ⟨rfl, rfl, rfl⟩ := so3 hr9
    refine lv_goto (tgt := 17) hx hb dL_control_10 (by decide) ?_
    refine lv_iconst (v := 0) hx hb dL_control_17 (by decide) ?_
    exact reth hx hb hr hlocks hK (Nat.le_of_ble_eq_true rfl) (Nat.le_of_ble_eq_true rfl) hP hD hS dL_control_18

set_option maxHeartbeats 4000000 in
set_option maxRecDepth 100000 in
theorem tL_keyAt (l : Launch) (hT : l.stackTraces = false) (D : va_G) (ca : Nat → ClassId) (B : Nat → Nat) (ar : Nat → Nat → Nat) (o : Nat) (sz : Nat) (σ : RR) (out : Nat → Int64) (a0 : Int32) (a1 : Int32) (z : Ex (Int32 × RR)) (hz : rx_keyAt σ a0 a1 = some z) (k : Int32) (σ9 : RR) (out9 : Nat → Int64) (hr9 : hres 3 2 Int32.toInt64 z out = some (k, σ9, out9)) : Lh l D ca yL_keyAt wsL_keyAt { frames := 9, cells := 3, slots := 18, locals := 149 } [.ref (B 0), .int a0, .int a1, .ref o] (wRL ca B ar o σ out) sz k (wRL ca B ar o σ9 out9) 3 18 := by
  refine bodyl_of (cc := cL_keyAt) (maxL := 5) (ret := some .int) (by decide) rfl (Nat.le_of_ble_eq_true rfl) ?_
  intro p e s m below meth c A ls hx hb hr hml hts hown hlocks hA hK hP hD hS hl hN hX hC htab
  have hl : lv_has ls 5 [(0, .ref (B 0)), (1, .int a0), (2, .int a1), (3, .ref o)] := hl
  generalize ([.ref (B 0), .int a0, .int a1, .ref o] : List Value).toArray = args at hts ⊢
  refine lv_aload_n hx hb dL_keyAt_0 rfl (lv_at hl 3 rfl) ?_
  refine lv_iconst (v := 0) hx hb dL_keyAt_1 (by decide) ?_
  refine lv_aload_n hx hb dL_keyAt_2 rfl (lv_at hl 0 rfl) ?_
  refine lv_iload_n hx hb dL_keyAt_3 rfl (lv_at hl 1 rfl) ?_
  refine lv_iload_n hx hb dL_keyAt_4 rfl (lv_at hl 2 rfl) ?_
  refine callxf_i (w := wRR ca B ar) (w2 := (fun u => wRL ca B ar o u out)) (As := [.int a0, .int a1]) (rest := [.int 0, .ref o]) ⟨hx, hb, hml, hown, hts⟩ (tX4_keyAt l hT D ca B ar _ σ a0 a1 z hz) (cwV 2 hts gL_keyAt_X4_keyAt rfl rfl rfl (by decide +kernel) ⟨Nat.le_of_ble_eq_true rfl, Nat.le_of_ble_eq_true rfl⟩) hN hX hK hP hD hA hS (fun u => fr_RL ca B ar o σ out u) rfl rfl rfl hl.1 rfl (lv_room (Nat.le_of_ble_eq_true rfl)) dL_keyAt_5 ⟨Nat.le_of_ble_eq_true rfl, Nat.le_of_ble_eq_true rfl⟩ (fun k8 u8 ce8 q8 H locs hz8 hP hD hS h81 h82 h83 => ?_) (fun v8 u8 H locs hz8 hP hD hS => ?_)
  · rw [hz8] at hr9
    have hr9 : (if k8 = 3 then some ((1 : Int32), u8, out) else if k8 = 2 then some (2, u8, out) else none) = some (k, σ9, out9) := hr9
    by_cases c1 : k8 = 3
    · obtain ⟨rfl, rfl, rfl⟩ := so3 (it_p c1 hr9)
      subst c1
      refine vx_catch (name := "java/lang/IndexOutOfBoundsException") (E := "java/lang/IndexOutOfBoundsException") hown [] { startPc := 0, endPc := 10, handlerPc := 13, catchType := 29 } [{ startPc := 0, endPc := 10, handlerPc := 17, catchType := 19 }] (by rw [htab]; rfl) (fun z h => absurd h List.not_mem_nil) (by decide) (by decide) (hts (.classLink RL 29 "java/lang/IndexOutOfBoundsException") (by decide +kernel)) (va_Nw.use rfl (hN.2.2.1 "java/lang/IndexOutOfBoundsException" (by decide +kernel))) h81 h82 h83 ?_
      refine lv_astore (lv' := [(4, .ref q8), (0, .ref (B 0)), (1, .int a0), (2, .int a1), (3, .ref o)]) hx hb dL_keyAt_13 hl (by decide) rfl (fun ls hl => ?_)
      refine lv_iconst (v := 1) hx hb dL_keyAt_15 (by decide) ?_
      exact reth hx hb hr hlocks hK (Nat.le_of_ble_eq_true rfl) (Nat.le_of_ble_eq_true rfl) hP hD hS dL_keyAt_16
    · replace hr9 := it_n c1 hr9
      by_cases c2 : k8 = 2
      · obtain ⟨rfl, rfl, rfl⟩ := so3 (it_p c2 hr9)
        subst c2
        refine vx_catch (name := "java/lang/IllegalStateException") (E := "java/lang/IllegalStateException") hown [{ startPc := 0, endPc := 10, handlerPc := 13, catchType := 29 }] { startPc := 0, endPc := 10, handlerPc := 17, catchType := 19 } [] (by rw [htab]; rfl) (fun z h => by cases List.mem_singleton.mp h; exact Or.inr ⟨by decide, "java/lang/IndexOutOfBoundsException", hts (.classLink RL 29 "java/lang/IndexOutOfBoundsException") (by decide +kernel), hC.2⟩) (by decide) (by decide) (hts (.classLink RL 19 "java/lang/IllegalStateException") (by decide +kernel)) (va_Nw.use rfl (hN.2.2.1 "java/lang/IllegalStateException" (by decide +kernel))) h81 h82 h83 ?_
        refine lv_astore (lv' := [(4, .ref q8), (0, .ref (B 0)), (1, .int a0), (2, .int a1), (3, .ref o)]) hx hb dL_keyAt_17 hl (by decide) rfl (fun ls hl => ?_)
        refine lv_iconst (v := 2) hx hb dL_keyAt_19 (by decide) ?_
        exact reth hx hb hr hlocks hK (Nat.le_of_ble_eq_true rfl) (Nat.le_of_ble_eq_true rfl) hP hD hS dL_keyAt_20
      · exact absurd (it_n c2 hr9) (fun h => by cases h)
  · rw [hz8] at hr9
    refine lv_i2l (v := v8.toInt64) hx hb dL_keyAt_8 rfl ?_
    have hr9 : some ((0 : Int32), u8, vp_updL out 0 v8.toInt64) = some (k, σ9, out9) := hr9
    refine va_last hx hb hK hP hD hS 20 3 rfl rfl (show ¬ ((0 : Int32) < 0 ∨ 1 ≤ (0 : Int32).toNatClampNeg) by decide) dL_keyAt_9 (fun H locs hP hD hS => ?_)
    have hP : va_P D vwCl (wRL ca B ar o u8 (vp_updL out 0 v8.toInt64)) H := hP
    have hD : va_D A (wRL ca B ar o u8 (vp_updL out 0 v8.toInt64)) := hD
    obtain ⟨rfl, rfl, rfl⟩ := so3 hr9
    refine lv_goto (tgt := 21) hx hb dL_keyAt_10 (by decide) ?_
    refine lv_iconst (v := 0) hx hb dL_keyAt_21 (by decide) ?_
    exact reth hx hb hr hlocks hK (Nat.le_of_ble_eq_true rfl) (Nat.le_of_ble_eq_true rfl) hP hD hS dL_keyAt_22

set_option maxHeartbeats 4000000 in
set_option maxRecDepth 100000 in
theorem tL_distanceAt (l : Launch) (hT : l.stackTraces = false) (D : va_G) (ca : Nat → ClassId) (B : Nat → Nat) (ar : Nat → Nat → Nat) (o : Nat) (sz : Nat) (σ : RR) (out : Nat → Int64) (a0 : Int32) (a1 : Int32) (z : Ex (Int32 × RR)) (hz : rx_distanceAt σ a0 a1 = some z) (k : Int32) (σ9 : RR) (out9 : Nat → Int64) (hr9 : hres 3 3 Int32.toInt64 z out = some (k, σ9, out9)) : Lh l D ca yL_distanceAt wsL_distanceAt { frames := 9, cells := 2, slots := 12, locals := 148 } [.ref (B 0), .int a0, .int a1, .ref o] (wRL ca B ar o σ out) sz k (wRL ca B ar o σ9 out9) 2 12 := by
  refine bodyl_of (cc := cL_distanceAt) (maxL := 5) (ret := some .int) (by decide) rfl (Nat.le_of_ble_eq_true rfl) ?_
  intro p e s m below meth c A ls hx hb hr hml hts hown hlocks hA hK hP hD hS hl hN hX hC htab
  have hl : lv_has ls 5 [(0, .ref (B 0)), (1, .int a0), (2, .int a1), (3, .ref o)] := hl
  generalize ([.ref (B 0), .int a0, .int a1, .ref o] : List Value).toArray = args at hts ⊢
  refine lv_aload_n hx hb dL_distanceAt_0 rfl (lv_at hl 3 rfl) ?_
  refine lv_iconst (v := 0) hx hb dL_distanceAt_1 (by decide) ?_
  refine lv_aload_n hx hb dL_distanceAt_2 rfl (lv_at hl 0 rfl) ?_
  refine lv_iload_n hx hb dL_distanceAt_3 rfl (lv_at hl 1 rfl) ?_
  refine lv_iload_n hx hb dL_distanceAt_4 rfl (lv_at hl 2 rfl) ?_
  refine callxf_i (w := wRR ca B ar) (w2 := (fun u => wRL ca B ar o u out)) (As := [.int a0, .int a1]) (rest := [.int 0, .ref o]) ⟨hx, hb, hml, hown, hts⟩ (tX4_distanceAt l hT D ca B ar _ σ a0 a1 z hz) (cwV 2 hts gL_distanceAt_X4_distanceAt rfl rfl rfl (by decide +kernel) ⟨Nat.le_of_ble_eq_true rfl, Nat.le_of_ble_eq_true rfl⟩) hN hX hK hP hD hA hS (fun u => fr_RL ca B ar o σ out u) rfl rfl rfl hl.1 rfl (lv_room (Nat.le_of_ble_eq_true rfl)) dL_distanceAt_5 ⟨Nat.le_of_ble_eq_true rfl, Nat.le_of_ble_eq_true rfl⟩ (fun k8 u8 ce8 q8 H locs hz8 hP hD hS h81 h82 h83 => ?_) (fun v8 u8 H locs hz8 hP hD hS => ?_)
  · rw [hz8] at hr9
    have hr9 : (if k8 = 3 then some ((1 : Int32), u8, out) else if k8 = 3 then some (2, u8, out) else none) = some (k, σ9, out9) := hr9
    by_cases c1 : k8 = 3
    · obtain ⟨rfl, rfl, rfl⟩ := so3 (it_p c1 hr9)
      subst c1
      refine vx_catch (name := "java/lang/IndexOutOfBoundsException") (E := "java/lang/IndexOutOfBoundsException") hown [] { startPc := 0, endPc := 10, handlerPc := 13, catchType := 29 } [] (by rw [htab]; rfl) (fun z h => absurd h List.not_mem_nil) (by decide) (by decide) (hts (.classLink RL 29 "java/lang/IndexOutOfBoundsException") (by decide +kernel)) (va_Nw.use rfl (hN.2.2.1 "java/lang/IndexOutOfBoundsException" (by decide +kernel))) h81 h82 h83 ?_
      refine lv_astore (lv' := [(4, .ref q8), (0, .ref (B 0)), (1, .int a0), (2, .int a1), (3, .ref o)]) hx hb dL_distanceAt_13 hl (by decide) rfl (fun ls hl => ?_)
      refine lv_iconst (v := 1) hx hb dL_distanceAt_15 (by decide) ?_
      exact reth hx hb hr hlocks hK (Nat.le_of_ble_eq_true rfl) (Nat.le_of_ble_eq_true rfl) hP hD hS dL_distanceAt_16
    · replace hr9 := it_n c1 hr9
      exact absurd (it_n c1 hr9) (fun h => by cases h)
  · rw [hz8] at hr9
    refine lv_i2l (v := v8.toInt64) hx hb dL_distanceAt_8 rfl ?_
    have hr9 : some ((0 : Int32), u8, vp_updL out 0 v8.toInt64) = some (k, σ9, out9) := hr9
    refine va_last hx hb hK hP hD hS 20 3 rfl rfl (show ¬ ((0 : Int32) < 0 ∨ 1 ≤ (0 : Int32).toNatClampNeg) by decide) dL_distanceAt_9 (fun H locs hP hD hS => ?_)
    have hP : va_P D vwCl (wRL ca B ar o u8 (vp_updL out 0 v8.toInt64)) H := hP
    have hD : va_D A (wRL ca B ar o u8 (vp_updL out 0 v8.toInt64)) := hD
    obtain ⟨rfl, rfl, rfl⟩ := so3 hr9
    refine lv_goto (tgt := 17) hx hb dL_distanceAt_10 (by decide) ?_
    refine lv_iconst (v := 0) hx hb dL_distanceAt_17 (by decide) ?_
    exact reth hx hb hr hlocks hK (Nat.le_of_ble_eq_true rfl) (Nat.le_of_ble_eq_true rfl) hP hD hS dL_distanceAt_18

set_option maxHeartbeats 4000000 in
set_option maxRecDepth 100000 in
theorem tL_displaced (l : Launch) (hT : l.stackTraces = false) (D : va_G) (ca : Nat → ClassId) (B : Nat → Nat) (ar : Nat → Nat → Nat) (o : Nat) (sz : Nat) (σ : RR) (out : Nat → Int64) (a0 : Int32) (z : Ex (Int32 × RR)) (hz : rx_displaced σ a0 = some z) (k : Int32) (σ9 : RR) (out9 : Nat → Int64) (hr9 : hres 2 2 Int32.toInt64 z out = some (k, σ9, out9)) : Lh l D ca yL_displaced wsL_displaced { frames := 7, cells := 1, slots := 6, locals := 104 } [.ref (B 0), .int a0, .ref o] (wRL ca B ar o σ out) sz k (wRL ca B ar o σ9 out9) 1 6 := by
  refine bodyl_of (cc := cL_displaced) (maxL := 4) (ret := some .int) (by decide) rfl (Nat.le_of_ble_eq_true rfl) ?_
  intro p e s m below meth c A ls hx hb hr hml hts hown hlocks hA hK hP hD hS hl hN hX hC htab
  have hl : lv_has ls 4 [(0, .ref (B 0)), (1, .int a0), (2, .ref o)] := hl
  generalize ([.ref (B 0), .int a0, .ref o] : List Value).toArray = args at hts ⊢
  refine lv_aload_n hx hb dL_displaced_0 rfl (lv_at hl 2 rfl) ?_
  refine lv_iconst (v := 0) hx hb dL_displaced_1 (by decide) ?_
  refine lv_aload_n hx hb dL_displaced_2 rfl (lv_at hl 0 rfl) ?_
  refine lv_iload_n hx hb dL_displaced_3 rfl (lv_at hl 1 rfl) ?_
  refine callxf_i (w := wRR ca B ar) (w2 := (fun u => wRL ca B ar o u out)) (As := [.int a0]) (rest := [.int 0, .ref o]) ⟨hx, hb, hml, hown, hts⟩ (tX4_displaced l hT D ca B ar _ σ a0 z hz) (cwV 1 hts gL_displaced_X4_displaced rfl rfl rfl (by decide +kernel) ⟨Nat.le_of_ble_eq_true rfl, Nat.le_of_ble_eq_true rfl⟩) hN hX hK hP hD hA hS (fun u => fr_RL ca B ar o σ out u) rfl rfl rfl hl.1 rfl (lv_room (Nat.le_of_ble_eq_true rfl)) dL_displaced_4 ⟨Nat.le_of_ble_eq_true rfl, Nat.le_of_ble_eq_true rfl⟩ (fun k8 u8 ce8 q8 H locs hz8 hP hD hS h81 h82 h83 => ?_) (fun v8 u8 H locs hz8 hP hD hS => ?_)
  · rw [hz8] at hr9
    have hr9 : (if k8 = 2 then some ((1 : Int32), u8, out) else if k8 = 2 then some (2, u8, out) else none) = some (k, σ9, out9) := hr9
    by_cases c1 : k8 = 2
    · obtain ⟨rfl, rfl, rfl⟩ := so3 (it_p c1 hr9)
      subst c1
      refine vx_catch (name := "java/lang/IllegalStateException") (E := "java/lang/IllegalStateException") hown [] { startPc := 0, endPc := 9, handlerPc := 12, catchType := 19 } [] (by rw [htab]; rfl) (fun z h => absurd h List.not_mem_nil) (by decide) (by decide) (hts (.classLink RL 19 "java/lang/IllegalStateException") (by decide +kernel)) (va_Nw.use rfl (hN.2.2.1 "java/lang/IllegalStateException" (by decide +kernel))) h81 h82 h83 ?_
      refine lv_astore_n (lv' := [(3, .ref q8), (0, .ref (B 0)), (1, .int a0), (2, .ref o)]) hx hb dL_displaced_12 rfl hl (by decide) rfl (fun ls hl => ?_)
      refine lv_iconst (v := 1) hx hb dL_displaced_13 (by decide) ?_
      exact reth hx hb hr hlocks hK (Nat.le_of_ble_eq_true rfl) (Nat.le_of_ble_eq_true rfl) hP hD hS dL_displaced_14
    · replace hr9 := it_n c1 hr9
      exact absurd (it_n c1 hr9) (fun h => by cases h)
  · rw [hz8] at hr9
    refine lv_i2l (v := v8.toInt64) hx hb dL_displaced_7 rfl ?_
    have hr9 : some ((0 : Int32), u8, vp_updL out 0 v8.toInt64) = some (k, σ9, out9) := hr9
    refine va_last hx hb hK hP hD hS 20 3 rfl rfl (show ¬ ((0 : Int32) < 0 ∨ 1 ≤ (0 : Int32).toNatClampNeg) by decide) dL_displaced_8 (fun H locs hP hD hS => ?_)
    have hP : va_P D vwCl (wRL ca B ar o u8 (vp_updL out 0 v8.toInt64)) H := hP
    have hD : va_D A (wRL ca B ar o u8 (vp_updL out 0 v8.toInt64)) := hD
    obtain ⟨rfl, rfl, rfl⟩ := so3 hr9
    refine lv_goto (tgt := 15) hx hb dL_displaced_9 (by decide) ?_
    refine lv_iconst (v := 0) hx hb dL_displaced_15 (by decide) ?_
    exact reth hx hb hr hlocks hK (Nat.le_of_ble_eq_true rfl) (Nat.le_of_ble_eq_true rfl) hP hD hS dL_displaced_16
