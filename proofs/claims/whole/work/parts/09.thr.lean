/-! methods that may throw: their contracts, the throw itself, calls that return or go on to the caller -/
def exn (k : Nat) : String := if k = 1 then "java/lang/IllegalArgumentException" else if k = 2 then "java/lang/IllegalStateException" else "java/lang/IndexOutOfBoundsException"
abbrev Ex (α : Type) : Type := α ⊕ (Nat × RR)
def xb {α β : Type} (o : Option (Ex (α × RR))) (F : α → RR → Option (Ex β)) : Option (Ex β) := o.bind fun z => match z with
  | .inl a => F a.1 a.2
  | .inr u => some (.inr u)
theorem xb_ob {α β : Type} {o : Option (Ex (α × RR))} {F : α → RR → Option (Ex β)} {R : Ex β} (h : xb o F = some R) : ∃ z, o = some z ∧ (∀ a u, z = .inl (a, u) → F a u = some R) ∧ ∀ u, z = .inr u → R = .inr u := by
  unfold xb at h
  cases o with
  | none => cases h
  | some z =>
    refine ⟨z, rfl, fun a u e => ?_, fun u e => ?_⟩
    · subst e
      exact h
    · subst e
      exact (Option.some.inj h).symm
def gk {α : Type} (k n : Nat) (x : Option α) : Option α := if k < n then x else none
theorem gk_ob {α : Type} {k n : Nat} {x : Option α} {r : α} (h : gk k n x = some r) : k < n ∧ x = some r := by
  unfold gk at h
  by_cases q : k < n
  · rw [if_pos q] at h
    exact ⟨q, h⟩
  · rw [if_neg q] at h
    cases h
def HX (A : Nat → Prop) (U : State) (H : Heap) : Prop := vx_Zq Bundle.tN "UNASSIGNED_STACK" Bundle.steD A U H ∧ vx_Zq Bundle.tN "SUPPRESSED_SENTINEL" Bundle.listD A U H
theorem HX.moved {A : Nat → Prop} {u U : State} {H : Heap} (hvm : u.vm.Alike U.vm) (h : HX A u H) : HX A U H := ⟨vx_Zq.moved hvm h.1, vx_Zq.moved hvm h.2⟩
theorem HX.kept {A : Nat → Prop} {U : State} {H H1 : Heap} (h : HX A U H) (hq : ∀ a : Nat, a < H.size → ¬ A a → H1[a]? = H[a]?) : HX A U H1 := ⟨vx_Zq.kept h.1 hq, vx_Zq.kept h.2 hq⟩
theorem HX.narrow {A B : Nat → Prop} {U : State} {H : Heap} (h : HX A U H) (hAB : ∀ q, B q → A q) : HX B U H := ⟨vx_Zq.narrow h.1 hAB, vx_Zq.narrow h.2 hAB⟩
def Px (D : va_G) (ca : Nat → ClassId) (ws : va_W) (sz : Nat) (U : State) : Prop := Pw D ca ws sz U ∧ HX (va_A ws sz) U U.heap
theorem Px_blind {D : va_G} {ca : Nat → ClassId} {ws : va_W} {sz : Nat} {av : List Value} : FrameBlind (va_Pc av (Px D ca ws sz)) := by
  intro a U g mk q
  obtain ⟨q0, q1, qX⟩ := q
  have h := Pw_blind (av := av) a U g mk ⟨q0, q1⟩
  exact ⟨h.1, h.2, HX.moved (u := U) (U := U.calling g mk a) (Vm.Alike.refl U.vm) qX⟩
def Qxi (D : va_G) (ca : Nat → ClassId) (w : RR → va_W) (z : Ex (Int32 × RR)) (A : Nat → Prop) : Array Value → State → Outcome → State → Prop := va_Qi (fun (r : Int32) (u : RR) => z = .inl (r, u)) (fun u t => Aw D ca A (w u) t) A
def Qxv (D : va_G) (ca : Nat → ClassId) (w : RR → va_W) (z : Ex RR) (A : Nat → Prop) : Array Value → State → Outcome → State → Prop := va_Qv (fun (u : RR) => z = .inl u) (fun u t => Aw D ca A (w u) t) A
def Qxr (D : va_G) (ca : Nat → ClassId) (w : RR → va_W) (adr : RR → Nat → Nat) (z : Ex (Nat × RR)) (A : Nat → Prop) : Array Value → State → Outcome → State → Prop := va_Qr (fun (u : Nat × RR) => z = .inl u) (fun u a t => a = adr u.2 u.1 ∧ Aw D ca A (w u.2) t) A
def Xx {α : Type} (D : va_G) (ca : Nat → ClassId) (w : RR → va_W) (z : Ex α) (A : Nat → Prop) : String → State → State → Prop := vx_X (fun u : Nat × RR => z = .inr u) (fun E u t => E = exn u.1 ∧ Aw D ca A (w u.2) t) A
def Cxi (l : Launch) (D : va_G) (ca : Nat → ClassId) (y : MethodName) (wy : List Cond) (rm : Room) (av : List Value) (w : RR → va_W) (σ : RR) (sz : Nat) (z : Ex (Int32 × RR)) (mc ms : Nat) : Prop := vx_Met l y wy rm (va_Pc av (Px D ca (w σ) sz)) (Qxi D ca w z (va_A (w σ) sz)) (Xx D ca w z (va_A (w σ) sz)) mc ms (va_A (w σ) sz)
def Cxv (l : Launch) (D : va_G) (ca : Nat → ClassId) (y : MethodName) (wy : List Cond) (rm : Room) (av : List Value) (w : RR → va_W) (σ : RR) (sz : Nat) (z : Ex RR) (mc ms : Nat) : Prop := vx_Met l y wy rm (va_Pc av (Px D ca (w σ) sz)) (Qxv D ca w z (va_A (w σ) sz)) (Xx D ca w z (va_A (w σ) sz)) mc ms (va_A (w σ) sz)
def Cxr (l : Launch) (D : va_G) (ca : Nat → ClassId) (y : MethodName) (wy : List Cond) (rm : Room) (av : List Value) (w : RR → va_W) (adr : RR → Nat → Nat) (σ : RR) (sz : Nat) (z : Ex (Nat × RR)) (mc ms : Nat) : Prop := vx_Met l y wy rm (va_Pc av (Px D ca (w σ) sz)) (Qxr D ca w adr z (va_A (w σ) sz)) (Xx D ca w z (va_A (w σ) sz)) mc ms (va_A (w σ) sz)
theorem bodyx_of {l : Launch} {D : va_G} {ca : Nat → ClassId} {y : MethodName} {wy wy' : List Cond} {rm : Room} {av : List Value} {ws : va_W} {sz mc ms : Nat} {cc : ByteArray} {maxL : Nat} {ret : Option FieldType} (Qc : (Nat → Prop) → Array Value → State → Outcome → State → Prop) (XC : (Nat → Prop) → String → State → State → Prop)
    (hy : plainName y.cls = true) (hw : wy = Cond.code y cc maxL ret :: wy') (hlen : (lg_sl av).length ≤ maxL)
    (body : ∀ (p : Program) (e : Env) (s : State) (m : MethodId) (below : List Frame) (meth : Method) (c : Code) (A : Nat → Prop) (ls : Array Slot), p.tables.exec = Jvm.exec → c.code = cc → meth.sig.returnType = ret → c.maxLocals = maxL → (∀ w ∈ wy, w.before av.toArray s = true) → s.vm.findClass y.cls = some m.cls → meth.locks = false → (∀ q : Nat, s.heap.size ≤ q → A q) → va_K D vwCl (vt ca) s → va_P D vwCl ws s.heap → va_D A ws → va_S A s.heap s.heap [] → lv_has ls maxL (lv_args 0 av) → NX s → HX A s s.heap → (∀ x ∈ c.exceptionTable.toList, False) →
      W p l e rm s m av.toArray below meth c s.heap [] 0 0 (vx_MQ below (Qc A) (XC A) av.toArray s mc ms A) (F0 m 0 ls [])) : vx_Met l y wy rm (va_Pc av (Px D ca ws sz)) (Qc (va_A ws sz)) (XC (va_A ws sz)) mc ms (va_A ws sz) := by
  refine vx_ofW (cc := cc) (maxL := maxL) (ret := ret) hy hw ?_
  intro p e s m args below meth c s₁ B hml hxt hv
  obtain ⟨rfl, ⟨hsz, hP, hK, hD0, hN⟩, hX⟩ := hv
  subst hsz
  have hD := hD0.self (sz := s.heap.size)
  rw [lg_entry_eq]
  exact body p e s m below meth c (va_A ws s.heap.size) _ B.exec B.bytes B.returns hml (atoms_spec (ws := wy) B.pre) (findClass_of_methodNamed B.named) B.notSynchronized (fun q h => Or.inr h) hK hP hD va_S.rf (lv_entry av hlen) hN hX hxt
section RX
variable {p : Program} {l : Launch} {e : Env} {R : Room} {s : State} {m : MethodId} {args : Array Value} {below : List Frame} {meth : Method} {c : Code} {H : Heap} {locs : List Loc} {cells slots mc ms : Nat} {D : va_G} {ca : Nat → ClassId} {A : Nat → Prop} {w : RR → va_W} {cc : ByteArray} {pc : Nat} {ls : Array Slot} {XC : String → State → State → Prop}
theorem retx_i {r : Int32} {u : RR} {z : Ex (Int32 × RR)} {ty : FieldType} (hx : p.tables.exec = Jvm.exec) (hb : c.code = cc) (hr : meth.sig.returnType = some ty) (hn : narrow ty (.int r) = .int r) (hlocks : meth.locks = false) (hK : va_K D vwCl (vt ca) s) (hc : cells ≤ mc) (hs : slots ≤ ms) (hz : z = .inl (r, u)) (hP : va_P D vwCl (w u) H) (hD : va_D A (w u)) (hS : va_S A s.heap H locs) (hdg : decode cc pc = .ok (.ireturn, 1)) : W p l e R s m args below meth c H locs cells slots (vx_MQ below (Qxi D ca w z A) XC args s mc ms A) (F0 m pc ls [.int r]) :=
  vx_ret (W.widen hc hs (W.zret hx hb hr hn (fun t ht hW => ⟨⟨r, u, rfl, hz, by rw [ht]; exact hP, va_K.moved hW.alike hK, hD⟩, hS.F ht⟩) hS.2.2 hdg))
theorem retx_v {u : RR} {z : Ex RR} (hx : p.tables.exec = Jvm.exec) (hb : c.code = cc) (hr : meth.sig.returnType = none) (hlocks : meth.locks = false) (hK : va_K D vwCl (vt ca) s) (hc : cells ≤ mc) (hs : slots ≤ ms) (hz : z = .inl u) (hP : va_P D vwCl (w u) H) (hD : va_D A (w u)) (hS : va_S A s.heap H locs) (hdg : decode cc pc = .ok (.return_, 1)) : W p l e R s m args below meth c H locs cells slots (vx_MQ below (Qxv D ca w z A) XC args s mc ms A) (F0 m pc ls []) :=
  vx_ret (W.widen hc hs (W.vret hx hb hr (fun t ht hW => ⟨⟨u, rfl, hz, by rw [ht]; exact hP, va_K.moved hW.alike hK, hD⟩, hS.F ht⟩) hS.2.2 hdg))
theorem retx_r {k a : Nat} {u : RR} {z : Ex (Nat × RR)} {adr : RR → Nat → Nat} {rt : FieldType} (hx : p.tables.exec = Jvm.exec) (hb : c.code = cc) (hr : meth.sig.returnType = some rt) (hrt : ∃ n, rt = .object n) (hlocks : meth.locks = false) (hK : va_K D vwCl (vt ca) s) (hc : cells ≤ mc) (hs : slots ≤ ms) (hz : z = .inl (k, u)) (ha : a = adr u k) (hP : va_P D vwCl (w u) H) (hD : va_D A (w u)) (hS : va_S A s.heap H locs) (hdg : decode cc pc = .ok (.areturn, 1)) : W p l e R s m args below meth c H locs cells slots (vx_MQ below (Qxr D ca w adr z A) XC args s mc ms A) (F0 m pc ls [.ref a]) :=
  vx_ret (W.widen hc hs (W.aret hx hb hr (Or.inl hrt) (Or.inr ⟨a, rfl⟩) (fun t ht hW => ⟨⟨(k, u), a, rfl, hz, ha, by rw [ht]; exact hP, va_K.moved hW.alike hK, hD⟩, hS.F ht⟩) hS.2.2 hdg))
theorem thr_S {α : Type} {Qc : Array Value → State → Outcome → State → Prop} {z : Ex α} {k ik is ic : Nat} {cls text : String} {names : List String} {u : RR} {rest : List Value} {Ts : List Cond} (hx : p.tables.exec = Jvm.exec) (hb : c.code = cc) (hl : l.stackTraces = false) (hts : ∀ w ∈ Ts, w.before args s = true) (hown : s.vm.findClass RX4 = some m.cls) (hlocks : meth.locks = false) (hxt : ∀ x ∈ c.exceptionTable.toList, False) (hN : NX s) (hX : HX A s s.heap) (hK : va_K D vwCl (vt ca) s) (hml : c.maxLocals = ls.size)
    (hcls : Bundle.fit cls = true) (hnames : ∀ n ∈ names, Bundle.fit n = true) (hk : Cond.classLink RX4 ik cls ∈ Ts) (hini : Cond.initialized cls ∈ Ts) (hstr : (is, text) ∈ nxs) (hgd : ∀ w ∈ (vx_atS RX4 ic cls names).filter goodWord, w ∈ Ts) (hbd : ∀ w ∈ (vx_atS RX4 ic cls names).filter (fun w => !goodWord w), w ∈ [Cond.castable cls cls, .declares (Bundle.initS "java/lang/RuntimeException"), .declares (Bundle.initS "java/lang/Exception"), .declares (Bundle.initS Bundle.tN)]) (hca : cls ∈ nxc)
    (hgood : ∀ w ∈ Cond.classLink RX4 ik cls :: Cond.initialized cls :: vx_atS RX4 ic cls names, vx_ot w = true)
    (hS : va_S A s.heap H locs) (hP : va_P D vwCl (w u) H) (hD : va_D A (w u)) (he : exn k = cls) (hz : z = .inr (k, u))
    (d0 : decode cc pc = .ok (.new ik, 3)) (d3 : decode cc (pc + 3) = .ok (.dup, 1)) (d4 : decode cc (pc + 4) = .ok (.ldc is, 2)) (d6 : decode cc (pc + 6) = .ok (.invokespecial ic, 3)) (d9 : decode cc (pc + 9) = .ok (.athrow, 1))
    (hRframes : names.length + 3 < R.frames) (hRlocals : (rest.map fun v => v.category).sum + (13 * (names.length + 1) + 43) ≤ R.locals) (hRcells : cells + 1 ≤ R.cells) (hRslots : slots + 6 ≤ R.slots) (hc : cells + 1 ≤ mc) (hs : slots + 6 ≤ ms) :
    W p l e R s m args below meth c H locs cells slots (vx_MQ below Qc (Xx D ca w z A) args s mc ms A) (F0 m pc ls rest) := by
  obtain ⟨sa, hsa⟩ := hN.2.2.2.1 (is, text) hstr
  refine vx_throwS (cls := cls) (text := text) (names := names) (sa := sa) hx hb hl hown hcls hnames (hts _ hk) (hts _ hini) hsa (vx_hat (fun w hw => hts w (hgd w hw)) hbd (vx_c (va_Nw.use rfl (hN.2.2.1 cls hca)) (vx_c (va_Nw.use rfl (hN.2.2.2.2.1 _ (by simp [nxd]))) (vx_c (va_Nw.use rfl (hN.2.2.2.2.1 _ (by simp [nxd]))) (vx_c (va_Nw.use rfl (hN.2.2.2.2.1 _ (by simp [nxd]))) vx_n))))) hgood hX.1 hX.2 hS hml.symm d0 d3 d4 d6 d9 (fun x hx9 => absurd (hxt x hx9) id) hRframes hRlocals hRcells hRslots hlocks ?_ hS.2.2 hc hs
  intro t hvm hz1 hq
  exact ⟨(k, u), hz, ⟨he.symm, hP.kept (fun k q hk9 => hq q.1 (vx_lt hP hk9)), va_K.moved hvm hK, hD⟩, ⟨Nat.le_trans hS.1 hz1, fun q h1 h2 => (hq q (Nat.lt_of_lt_of_le h1 hS.1)).trans (hS.2.1 q h1 h2)⟩⟩
theorem out_x {α : Type} {Qc : Array Value → State → Outcome → State → Prop} {z : Ex α} {k : Nat} {u : RR} {rest : List Value} {ce : Cell} {q : Addr} (hxt : ∀ x ∈ c.exceptionTable.toList, False) (hlocks : meth.locks = false) (hK : va_K D vwCl (vt ca) s) (hz : z = .inr (k, u)) (hP : va_P D vwCl (w u) H) (hD : va_D A (w u)) (hS : va_S A s.heap H locs) (hcell : H[q]? = some ce) (hv : ce.vm = .none) (hcl : s.vm.findClass (exn k) = some ce.cls) (hc : cells ≤ mc) (hs : slots ≤ ms) :
    vx_W p l e R s m args below meth c H locs cells slots (vx_MQ below Qc (Xx D ca w z A) args s mc ms A) (F0 m pc ls rest) q :=
  vx_out (fun x hx9 => absurd (hxt x hx9) id) hlocks hcell hv hcl (fun t ht hvm => ⟨(k, u), hz, ⟨rfl, by rw [ht]; exact hP, va_K.moved hvm hK, hD⟩, hS.F ht⟩) hS.2.2 hc hs
end RX
section CX
variable {p : Program} {l : Launch} {e : Env} {R : Room} {s : State} {m : MethodId} {args : Array Value} {below : List Frame} {meth : Method} {c : Code} {H : Heap} {locs : List Loc} {cells slots : Nat} {Q : State → Prop}
variable {mc ms : Nat} {free : Addr → Prop} {A0 A1 : Nat → Prop} {H0 : Heap} {a : Array Value} {pc : Nat} {ls : Array Slot} {st0 rest : List Value}
theorem vx_callr {S SX : Type} {post : S → Prop} {px : SX → Prop} {B : S → Nat → State → Prop} {BX : String → SX → State → Prop} {AX : Nat → Prop} (hr : vx_Run p l e R s m args below meth c H locs cells slots mc ms (F0 m pc ls st0) rest (va_Qr post B A1 a) (vx_X px BX AX) free) (hS : va_S A0 H0 H locs) (hA : ∀ q, q < H.size → A1 q → A0 q) (hf : ∀ q, free q → A0 q) (hAX : ∀ q, q < H.size → AX q → A0 q)
    (kx : ∀ (E : String) (ce : Cell) (q9 : Addr) (u : SX) (t : State) (H1 : Heap) (locs1 : List Loc), t.heap = H1 → s.vm.Alike t.vm → px u → BX E u t → H.size ≤ H1.size → (∀ q : Nat, q < H.size → ¬ AX q → H1[q]? = H[q]?) → va_S A0 H0 H1 locs1 → H1[q9]? = some ce → ce.vm = .none → s.vm.findClass E = some ce.cls → vx_W p l e R s m args below meth c H1 locs1 (cells + mc) (slots + ms) Q (F0 m pc ls rest) q9)
    (kk : ∀ (u : S) (r : Nat) (t : State) (H1 : Heap) (locs1 : List Loc), t.heap = H1 → s.vm.Alike t.vm → post u → B u r t → H.size ≤ H1.size → (∀ q : Nat, q < H.size → ¬ A1 q → H1[q]? = H[q]?) → va_S A0 H0 H1 locs1 → W p l e R s m args below meth c H1 locs1 (cells + mc) (slots + ms) Q (F0 m (pc + 3) ls (.ref r :: rest))) : W p l e R s m args below meth c H locs cells slots Q (F0 m pc ls st0) := by
  intro T hT X
  rcases hr T hT X with ⟨v, st₀, t, T', L, h0, X', hL, e1, e2, ⟨⟨u, r, hv, hp, hb⟩, hF⟩, st⟩ | ⟨q, st₀, t, T', L, E, ce, h0, X', hL, e1, e2, ⟨u, hp, hb, hF⟩, hce, hcv, hcl, st⟩
  · cases hv
    obtain ⟨k1, k2, k3⟩ := vx_keep h0 e1 hS hA hf hL hF
    obtain ⟨t2, a1, b1⟩ := kk u r t T'.heap (locs ++ L) e1.symm (by rw [← e2]; exact X'.warmed.alike) hp hb k1 k2 k3 T' rfl X'
    exact ⟨t2, st t2 a1, b1⟩
  · obtain ⟨k1, k2, k3⟩ := vx_keep h0 e1 hS hAX hf hL hF
    obtain ⟨t2, a1, b1⟩ := kx E ce q u t T'.heap (locs ++ L) e1.symm (by rw [← e2]; exact X'.warmed.alike) hp hb k1 k2 k3 (by rw [e1]; exact hce) hcv hcl T' rfl X'
    exact ⟨t2, st.trans a1, b1⟩
end CX
section CY
variable {p : Program} {l : Launch} {e : Env} {R : Room} {s : State} {m : MethodId} {args : Array Value} {below : List Frame} {meth : Method} {c : Code} {H : Heap} {locs : List Loc} {cells slots mc ms : Nat} {Q : State → Prop} {D : va_G} {ca : Nat → ClassId} {A : Nat → Prop} {w : RR → va_W} {σ : RR} {cc bytes : ByteArray} {pc nL maxL index n : Nat} {ls : Array Slot} {st0 rest As : List Value} {Ts wy : List Cond} {own C : String} {y : MethodName} {ret : Option FieldType} {rm : Room} {b ci : Nat} {fs : List Value} {T3 : u_T} {N3 : Nat}
theorem pre_X {ws wc : va_W} (hN : NX s) (hX : HX A s s.heap) (hK : va_K D vwCl (vt ca) s) (hS : va_S A s.heap H locs) (hPc : va_P D vwCl wc H) (hDc : va_D A wc) (hFc : ∀ q, va_A wc H.size q → A q) (hq : wc[0]? = some (b, .inr (ci, fs))) (hci : vwCl[ci]? = some (C, T3, N3)) : PreV s H C b (va_Pc (.ref b :: As) (Px D ca wc H.size)) As :=
  ⟨Px_blind, va_recv hK hPc hci hq, fun U hU hW => ⟨rfl, ⟨by rw [hU], by rw [hU]; exact hPc, va_K.moved hW.alike hK, hDc.weaken (fun _ _ _ _ => trivial), hN.warm hW⟩, by rw [hU]; exact HX.moved hW.alike ((hX.kept hS.2.1).narrow hFc)⟩⟩
theorem idF {ws : va_W} (hP : va_P D vwCl ws H) (hD : va_D A ws) (hS : va_S A s.heap H locs) (hA : ∀ q : Nat, s.heap.size ≤ q → A q) : ∀ q, va_A ws H.size q → A q := va_free hD hS hA (List.range ws.length) (rg_map ws)
theorem callx_i {z : Ex (Int32 × RR)} (S : CallFix p m c cc nL s args Ts own) (hM : Cxi l D ca y wy rm (.ref b :: As) w σ H.size z mc ms) (cw : CallW R s args own C index y bytes maxL ret wy rm mc ms n) (hN : NX s) (hX : HX A s s.heap) (hK : va_K D vwCl (vt ca) s) (hP : va_P D vwCl (w σ) H) (hD : va_D A (w σ)) (hA : ∀ q : Nat, s.heap.size ≤ q → A q) (hS : va_S A s.heap H locs) (hq : (w σ)[0]? = some (b, .inr (ci, fs))) (hci : vwCl[ci]? = some (C, T3, N3)) (hn : As.length = n) (hsize : ls.size = nL) (hst : st0 = As.reverse ++ .ref b :: rest) (hW : 2 * (F0 m pc ls st0).monitorRoom + (rest.map fun v => v.category).sum ≤ 8) (hdg : decode cc pc = .ok (.invokevirtual index, 3)) (hf : cells + mc ≤ R.cells ∧ slots + ms ≤ R.slots)
    (kx : ∀ (k : Nat) (u : RR) (ce : Cell) (q : Addr) (H1 : Heap) (locs1 : List Loc), z = .inr (k, u) → va_P D vwCl (w u) H1 → va_D A (w u) → va_S A s.heap H1 locs1 → H1[q]? = some ce → ce.vm = .none → s.vm.findClass (exn k) = some ce.cls → vx_W p l e R s m args below meth c H1 locs1 (cells + mc) (slots + ms) Q (F0 m pc ls rest) q)
    (kk : ∀ (r : Int32) (u : RR) (H1 : Heap) (locs1 : List Loc), z = .inl (r, u) → va_P D vwCl (w u) H1 → va_D A (w u) → va_S A s.heap H1 locs1 → W p l e R s m args below meth c H1 locs1 (cells + mc) (slots + ms) Q (F0 m (pc + 3) ls (.int r :: rest))) : W p l e R s m args below meth c H locs cells slots Q (F0 m pc ls st0) := by
  have hFc := idF hP hD hS hA
  refine vx_calli (vx_runV (As := As) (rest := rest) S hM cw (pre_X (ws := w σ) hN hX hK hS hP hD hFc hq hci) rfl hn hsize hst hW hdg hf) hS (fun q _ h => hFc q h) hFc (fun q _ h => hFc q h) (fun E ce q9 u t H1 locs1 ht hvm hw hB hz1 hk1 hS1 hce hcv hcl => ?_) (fun r u t H1 locs1 ht hvm hw hB hz1 hk1 hS1 => ?_)
  · obtain ⟨hE, hP1, hK1, hD1⟩ := hB
    rw [ht] at hP1
    rw [hE] at hcl
    exact kx u.1 u.2 ce q9 H1 locs1 hw hP1 (hD1.weaken (fun _ _ _ h => hFc _ h)) hS1 hce hcv hcl
  · obtain ⟨hP1, hK1, hD1⟩ := hB
    rw [ht] at hP1
    exact kk r u H1 locs1 hw hP1 (hD1.weaken (fun _ _ _ h => hFc _ h)) hS1
theorem callx_r {z : Ex (Nat × RR)} {adr : RR → Nat → Nat} (S : CallFix p m c cc nL s args Ts own) (hM : Cxr l D ca y wy rm (.ref b :: As) w adr σ H.size z mc ms) (cw : CallW R s args own C index y bytes maxL ret wy rm mc ms n) (hN : NX s) (hX : HX A s s.heap) (hK : va_K D vwCl (vt ca) s) (hP : va_P D vwCl (w σ) H) (hD : va_D A (w σ)) (hA : ∀ q : Nat, s.heap.size ≤ q → A q) (hS : va_S A s.heap H locs) (hq : (w σ)[0]? = some (b, .inr (ci, fs))) (hci : vwCl[ci]? = some (C, T3, N3)) (hn : As.length = n) (hsize : ls.size = nL) (hst : st0 = As.reverse ++ .ref b :: rest) (hW : 2 * (F0 m pc ls st0).monitorRoom + (rest.map fun v => v.category).sum ≤ 8) (hdg : decode cc pc = .ok (.invokevirtual index, 3)) (hf : cells + mc ≤ R.cells ∧ slots + ms ≤ R.slots)
    (kx : ∀ (k : Nat) (u : RR) (ce : Cell) (q : Addr) (H1 : Heap) (locs1 : List Loc), z = .inr (k, u) → va_P D vwCl (w u) H1 → va_D A (w u) → va_S A s.heap H1 locs1 → H1[q]? = some ce → ce.vm = .none → s.vm.findClass (exn k) = some ce.cls → vx_W p l e R s m args below meth c H1 locs1 (cells + mc) (slots + ms) Q (F0 m pc ls rest) q)
    (kk : ∀ (k : Nat) (u : RR) (H1 : Heap) (locs1 : List Loc), z = .inl (k, u) → va_P D vwCl (w u) H1 → va_D A (w u) → va_S A s.heap H1 locs1 → W p l e R s m args below meth c H1 locs1 (cells + mc) (slots + ms) Q (F0 m (pc + 3) ls (.ref (adr u k) :: rest))) : W p l e R s m args below meth c H locs cells slots Q (F0 m pc ls st0) := by
  have hFc := idF hP hD hS hA
  refine vx_callr (vx_runV (As := As) (rest := rest) S hM cw (pre_X (ws := w σ) hN hX hK hS hP hD hFc hq hci) rfl hn hsize hst hW hdg hf) hS (fun q _ h => hFc q h) hFc (fun q _ h => hFc q h) (fun E ce q9 u t H1 locs1 ht hvm hw hB hz1 hk1 hS1 hce hcv hcl => ?_) (fun u r t H1 locs1 ht hvm hw hB hz1 hk1 hS1 => ?_)
  · obtain ⟨hE, hP1, hK1, hD1⟩ := hB
    rw [ht] at hP1
    rw [hE] at hcl
    exact kx u.1 u.2 ce q9 H1 locs1 hw hP1 (hD1.weaken (fun _ _ _ h => hFc _ h)) hS1 hce hcv hcl
  · obtain ⟨ha, hP1, hK1, hD1⟩ := hB
    rw [ht] at hP1
    rw [ha]
    exact kk u.1 u.2 H1 locs1 hw hP1 (hD1.weaken (fun _ _ _ h => hFc _ h)) hS1
end CY
/-! the sweeps' cells by their number -/
def adrT (σ : RR) (k : Nat) : Nat := if k = 0 then rr_ap σ else rr_ao σ
theorem swf_at {B : Nat → Nat} : ∀ {k : Nat}, k < 4 → swf B k = some (B (2 + k))
  | 0, _ => rfl
  | 1, _ => rfl
  | 2, _ => rfl
  | 3, _ => rfl
theorem sw_at {ca : Nat → ClassId} {B : Nat → Nat} {ar : Nat → Nat → Nat} {σ : RR} : ∀ {k : Nat}, k < 4 → (wRR ca B ar σ)[2 + k]? = some (B (2 + k), .inr (2, [.int (sw_open (rr_sws σ k)), .int (sw_may (rr_sws σ k)), .int (sw_met (rr_sws σ k)), .int (sw_key (rr_sws σ k)), .long (sw_rank (rr_sws σ k))]))
  | 0, _ => rfl
  | 1, _ => rfl
  | 2, _ => rfl
  | 3, _ => rfl
theorem sw_set {ca : Nat → ClassId} {B : Nat → Nat} {ar : Nat → Nat → Nat} {σ : RR} (v : Sw) : ∀ {k : Nat}, k < 4 → (wRR ca B ar σ).set (2 + k) (B (2 + k), .inr (2, [.int (sw_open v), .int (sw_may v), .int (sw_met v), .int (sw_key v), .long (sw_rank v)])) = wRR ca B ar (rr_sws' σ (va_up (rr_sws σ) k v))
  | 0, _ => rfl
  | 1, _ => rfl
  | 2, _ => rfl
  | 3, _ => rfl
theorem fr_RW (ca : Nat → ClassId) (B : Nat → Nat) (ar : Nat → Nat → Nat) (σ : RR) (v : Sw) : ∀ {k : Nat}, k < 4 → Fr (wRR ca B ar σ) (wSw (B (2 + k)) (rr_sws σ k)) (wSw (B (2 + k)) v) (wRR ca B ar (rr_sws' σ (va_up (rr_sws σ) k v)))
  | 0, _ => ⟨[2], [0, 1, 3, 4, 5, 6, 7, 8, 9, 10, 11, 12, 13, 14, 15, 16, 17, 18, 19], [0, 1, 19, 2, 3, 4, 5, 6, 7, 8, 9, 10, 11, 12, 13, 14, 15, 16, 17, 18], [0, 1, 3, 4, 5, 6, 7, 8, 9, 10, 11, 12, 13, 14, 15, 16, 17, 18, 19].filterMap (fun i => (wRR ca B ar σ)[i]?), rfl, rfl, rfl, rfl, by decide, rfl, rfl⟩
  | 1, _ => ⟨[3], [0, 1, 2, 4, 5, 6, 7, 8, 9, 10, 11, 12, 13, 14, 15, 16, 17, 18, 19], [0, 1, 2, 19, 3, 4, 5, 6, 7, 8, 9, 10, 11, 12, 13, 14, 15, 16, 17, 18], [0, 1, 2, 4, 5, 6, 7, 8, 9, 10, 11, 12, 13, 14, 15, 16, 17, 18, 19].filterMap (fun i => (wRR ca B ar σ)[i]?), rfl, rfl, rfl, rfl, by decide, rfl, rfl⟩
  | 2, _ => ⟨[4], [0, 1, 2, 3, 5, 6, 7, 8, 9, 10, 11, 12, 13, 14, 15, 16, 17, 18, 19], [0, 1, 2, 3, 19, 4, 5, 6, 7, 8, 9, 10, 11, 12, 13, 14, 15, 16, 17, 18], [0, 1, 2, 3, 5, 6, 7, 8, 9, 10, 11, 12, 13, 14, 15, 16, 17, 18, 19].filterMap (fun i => (wRR ca B ar σ)[i]?), rfl, rfl, rfl, rfl, by decide, rfl, rfl⟩
  | 3, _ => ⟨[5], [0, 1, 2, 3, 4, 6, 7, 8, 9, 10, 11, 12, 13, 14, 15, 16, 17, 18, 19], [0, 1, 2, 3, 4, 19, 5, 6, 7, 8, 9, 10, 11, 12, 13, 14, 15, 16, 17, 18], [0, 1, 2, 3, 4, 6, 7, 8, 9, 10, 11, 12, 13, 14, 15, 16, 17, 18, 19].filterMap (fun i => (wRR ca B ar σ)[i]?), rfl, rfl, rfl, rfl, by decide, rfl, rfl⟩
