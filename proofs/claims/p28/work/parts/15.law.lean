/-! a script's number, or what stands for it behind its end -/
def jj_drawn (xs : Nat → Int32) (L : Nat) (k : Int32) : Option Int32 :=
  if (Int32.ofNat L) ≤ k then some ((29989 * (k + 3)) * (k + 17)) else gd k L (some (xs k.toNatClampNeg))
def Cd (l : Launch) (D : va_G) (ca : Nat → ClassId) (y : MethodName) (wy : List Cond) (rm : Room) (av : List Value) (b L : Nat) (xs : Nat → Int32) (sz : Nat) (r : Int32) : Prop := Met l y wy rm (va_Pc av (fun U => Pw D ca [] sz U ∧ va_X b L xs U U.heap ∧ b < sz)) (Qi D ca r [] (va_A [] sz)) 0 0 (va_A [] sz)
theorem Pd_blind {D : va_G} {ca : Nat → ClassId} {sz b L : Nat} {xs : Nat → Int32} {av : List Value} : FrameBlind (va_Pc av (fun U => Pw D ca [] sz U ∧ va_X b L xs U U.heap ∧ b < sz)) := by
  intro a U g mk q
  obtain ⟨q0, q1, qX, qb⟩ := q
  have h := Pw_blind (av := av) a U g mk ⟨q0, q1⟩
  exact ⟨h.1, h.2, va_X.moved (u := U) (U := U.calling g mk a) (Vm.Alike.refl U.vm) qX, qb⟩
set_option maxHeartbeats 4000000 in
set_option maxRecDepth 100000 in
theorem tL_drawn (l : Launch) (D : va_G) (ca : Nat → ClassId) (b L : Nat) (xs : Nat → Int32) (sz : Nat) (a1 r : Int32) (hf : jj_drawn xs L a1 = some r) : Cd l D ca yL_drawn wsL_drawn { frames := 0, cells := 0, slots := 0, locals := 0 } [.ref b, .int a1] b L xs sz r := by
  refine Met.ofW (cc := cL_drawn) (maxL := 2) (ret := some .int) (by decide) rfl ?_
  intro p e s m args below meth c s₁ B hml hv
  obtain ⟨rfl, ⟨hsz, hP, hK, hD0, hN⟩, hXs, hbl⟩ := hv
  subst hsz
  have hD := hD0.self (sz := s.heap.size)
  rw [lg_entry_eq]
  have hA : ∀ q : Nat, s.heap.size ≤ q → va_A [] s.heap.size q := fun q h => Or.inr h
  have hbA : ¬ va_A [] s.heap.size b := by
    rintro (⟨k, e9, h⟩ | h)
    · simp at h
    · exact absurd hbl (Nat.not_lt.mpr h)
  have hx := B.exec
  have hb := B.bytes
  have hr := B.returns
  have hlocks := B.notSynchronized
  have hS : va_S (va_A [] s.heap.size) s.heap s.heap [] := va_S.rf
  have hl := lv_entry ([.ref b, .int a1]) (n := 2) (Nat.le_of_ble_eq_true rfl)
  generalize (lg_sl ([.ref b, .int a1]) ++ List.replicate (2 - (lg_sl ([.ref b, .int a1])).length) Slot.unset).toArray = ls at hl ⊢
  have hl : lv_has ls 2 [(0, .ref b), (1, .int a1)] := hl
  have hret : ∀ (pc : Nat) (ls : Array Slot), decode cL_drawn pc = .ok (.ireturn, 1) → W p l e ({ frames := 0, cells := 0, slots := 0, locals := 0 } : Room) s m ([.ref b, .int a1] : List Value).toArray below meth c s.heap [] 0 0 (MQ below (Qi D ca r [] (va_A [] s.heap.size)) ([.ref b, .int a1] : List Value).toArray s 0 0 (va_A [] s.heap.size)) (F0 m pc ls [.int r]) := fun pc ls hd => ret_i hx hb hr hlocks hK hP hD hS hd
  unfold jj_drawn at hf
  refine lv_iload_n hx hb dL_drawn_0 rfl (lv_at hl 1 rfl) ?_
  refine lv_aload_n hx hb dL_drawn_1 rfl (lv_at hl 0 rfl) ?_
  refine va_slen hx hb hXs hbl hbA hS dL_drawn_2 ?_
  refine lv_icmp_ge (tgt := 12) hx hb dL_drawn_3 (by decide) (fun c1 => ?_) (fun c1 => ?_)
  · replace hf := it_p c1 hf
    obtain rfl := so1 hf
    refine lv_sipush (v := 29989) hx hb dL_drawn_12 (by decide) ?_
    refine lv_iload_n hx hb dL_drawn_15 rfl (lv_at hl 1 rfl) ?_
    refine lv_iconst (v := 3) hx hb dL_drawn_16 (by decide) ?_
    refine lv_iadd hx hb dL_drawn_17 ?_
    refine lv_imul hx hb dL_drawn_18 ?_
    refine lv_iload_n hx hb dL_drawn_19 rfl (lv_at hl 1 rfl) ?_
    refine lv_bipush (v := 17) hx hb dL_drawn_20 (by decide) ?_
    refine lv_iadd hx hb dL_drawn_22 ?_
    refine lv_imul hx hb dL_drawn_23 ?_
    exact hret _ _ dL_drawn_24
  · replace hf := it_n c1 hf
    obtain ⟨g1, hf⟩ := gd_ob hf
    obtain rfl := so1 hf
    refine lv_aload_n hx hb dL_drawn_6 rfl (lv_at hl 0 rfl) ?_
    refine lv_iload_n hx hb dL_drawn_7 rfl (lv_at hl 1 rfl) ?_
    refine va_sld hx hb hXs hbl hbA hS g1 dL_drawn_8 ?_
    refine lv_goto (tgt := 24) hx hb dL_drawn_9 (by decide) ?_
    exact hret _ _ dL_drawn_24
section CD
variable {p : Program} {l : Launch} {e : Env} {R : Room} {s : State} {m : MethodId} {args : Array Value} {below : List Frame} {meth : Method} {c : Code} {H : Heap} {locs : List Loc} {cells slots : Nat} {Q : State → Prop} {D : va_G} {ca : Nat → ClassId} {A : Nat → Prop} {ws : va_W} {cc bytes : ByteArray} {pc nL maxL index n : Nat} {ls : Array Slot} {st0 rest As : List Value} {Ts wy : List Cond} {own : String} {y : MethodName} {ret : Option FieldType} {rm : Room}
theorem call_d {r : Int32} {b L : Nat} {xs : Nat → Int32} (hXs : va_X b L xs s s.heap) (hbl : b < s.heap.size) (hbA : ¬ A b) (S : CallFix p m c cc nL s args Ts own) (hM : Cd l D ca y wy rm As b L xs H.size r) (cw : CallB R s args own index y bytes maxL ret wy rm 0 0 n ∧ (Cond.static y).before args s = true) (hN : NX s) (hK : va_K D vwCl (vt ca) s) (hP : va_P D vwCl ws H) (hD : va_D A ws) (hA : ∀ q : Nat, s.heap.size ≤ q → A q) (hS : va_S A s.heap H locs) (hn : As.length = n) (hsize : ls.size = nL) (hst : st0 = As.reverse ++ rest) (hW : 2 * (F0 m pc ls st0).monitorRoom + (rest.map fun v => v.category).sum ≤ 8) (hdg : decode cc pc = .ok (.invokestatic index, 3)) (hf : cells + 0 ≤ R.cells ∧ slots + 0 ≤ R.slots)
    (kk : ∀ (H1 : Heap) (locs1 : List Loc), va_P D vwCl ws H1 → va_D A ws → va_S A s.heap H1 locs1 → W p l e R s m args below meth c H1 locs1 cells slots Q (F0 m (pc + 3) ls (.int r :: rest))) : W p l e R s m args below meth c H locs cells slots Q (F0 m pc ls st0) := by
  obtain ⟨hPc, hDc, hFc, hback⟩ := (fr_no ws).use hP hD hS hA
  have hX1 : va_X b L xs s H := hXs.kept (hS.2.1 b hbl hbA)
  have hb1 : b < H.size := Nat.lt_of_lt_of_le hbl hS.1
  have hpre : PreS s H (va_Pc As (fun U => Pw D ca [] H.size U ∧ va_X b L xs U U.heap ∧ b < H.size)) As :=
    ⟨Pd_blind, fun U hU hW => ⟨rfl, ⟨by rw [hU], by rw [hU]; exact hPc, va_K.moved hW.alike hK, hDc.weaken (fun _ _ _ _ => trivial), hN.warm hW⟩, by rw [hU]; exact va_X.moved hW.alike hX1, hb1⟩⟩
  refine va_calli (va_runS (As := As) (rest := rest) S hM cw hpre rfl hn hsize hst hW hdg hf) hS (fun q _ h => hFc q h) hFc (fun r1 u t H1 locs1 ht hvm hw hB hz1 hk1 hS1 => ?_)
  obtain ⟨hP1, hK1, hD1⟩ := hB
  rw [ht] at hP1
  obtain ⟨a1, a2⟩ := hback H1 hk1 hP1 hD1
  obtain rfl : r1 = r := hw
  exact kk H1 locs1 a1 a2 hS1
end CD
def zz_law_278 (xs : Nat → Int32) (L : Nat) (k43 : HS → Int32 → Option Int32) (σ : HS) (l5 : Int32) (l7 : Int32) (l8 : Int32) : Option Int32 :=
  if l8 = 0 then
    some 0
  else
    gd 0 1 <|
    bd2 (hh_isSo σ (hs_n σ (0 : Int32).toNatClampNeg) l7) fun v36 s37 =>
    if v36 = 0 then
      some 0
    else
      nm (l5 + 1) fun v39 =>
      k43 s37 v39
def zz_law_276 (xs : Nat → Int32) (L : Nat) (k43 : HS → Int32 → Option Int32) (σ : HS) (l5 : Int32) (l7 : Int32) (t0 : Int32) : Option Int32 :=
  zz_law_278 xs L k43 σ l5 l7 t0
def zz_law_268 (xs : Nat → Int32) (L : Nat) (k43 : HS → Int32 → Option Int32) (σ : HS) (l5 : Int32) (l7 : Int32) (t0 : Int32) (t1 : Int32) : Option Int32 :=
  if t0 = t1 then
    zz_law_276 xs L k43 σ l5 l7 1
  else
    zz_law_276 xs L k43 σ l5 l7 0
def zz_law_255 (xs : Nat → Int32) (L : Nat) (k43 : HS → Int32 → Option Int32) (σ : HS) (l5 : Int32) (l7 : Int32) (t0 : Int32) : Option Int32 :=
  bd (rr_keysIn (hs_x σ) 1) fun v45 =>
  if v45 = 0 then
    zz_law_268 xs L k43 σ l5 l7 t0 1
  else
    zz_law_268 xs L k43 σ l5 l7 t0 0
def zz_law_226 (xs : Nat → Int32) (L : Nat) (k43 : HS → Int32 → Option Int32) (σ : HS) (l5 : Int32) (l7 : Int32) (l9 : Int32) (l10 : Int32) (t0 : Int32) (t1 : Int32) : Option Int32 :=
  if t0 = t1 then
    bd (rr_keysIn (hs_x σ) 1) fun v41 =>
    if v41 = (l9 - l10) then
      bd (rr_slots (hs_x σ) 1) fun v43 =>
      if v43 = 0 then
        zz_law_255 xs L k43 σ l5 l7 1
      else
        zz_law_255 xs L k43 σ l5 l7 0
    else
      zz_law_276 xs L k43 σ l5 l7 0
  else
    zz_law_276 xs L k43 σ l5 l7 0
def zz_law_172 (xs : Nat → Int32) (L : Nat) (k43 : HS → Int32 → Option Int32) (σ : HS) (l5 : Int32) (l6 : Int32) (l7 : Int32) : Option Int32 :=
  if (l6 &&& 14) = 12 then
    gd 0 1 <|
    bd2 (hh_isRemoved σ (hs_n σ (0 : Int32).toNatClampNeg) l7) fun v32 s33 =>
    zz_law_278 xs L k43 s33 l5 l7 v32
  else
    bd (rr_keysIn (hs_x σ) 1) fun v26 =>
    bd2 (rr_move (hs_x σ)) fun v27 s28 =>
    nm (hs_x' σ s28) fun s29 =>
    if 4 ≤ v26 then
      zz_law_226 xs L k43 s29 l5 l7 v26 v27 v27 4
    else
      zz_law_226 xs L k43 s29 l5 l7 v26 v27 v27 v26
def zz_law_88 (xs : Nat → Int32) (L : Nat) (k43 : HS → Int32 → Option Int32) (σ : HS) (l5 : Int32) (l6 : Int32) (t0 : Int32) : Option Int32 :=
  if 10 ≤ (l6 &&& 14) then
    if (l6 &&& 14) = 10 then
      gd 0 1 <|
      if (hs_n σ (0 : Int32).toNatClampNeg) ≤ 0 then
        zz_law_172 xs L k43 σ l5 l6 t0
      else
        gd 0 1 <|
        gd 0 1 <|
        bd (jj_low (l6 >>> (4 &&& 31)) (hs_n σ (0 : Int32).toNatClampNeg)) fun v18 =>
        gd v18 64 <|
        bd2 (hh_isRemoved σ (hs_n σ (0 : Int32).toNatClampNeg) (hs_k σ v18.toNatClampNeg)) fun v20 s21 =>
        zz_law_278 xs L k43 s21 l5 t0 v20
    else
      zz_law_172 xs L k43 σ l5 l6 t0
  else
    bd (jj_low (l6 >>> (4 &&& 31)) 1000000) fun v22 =>
    bd2 (hh_isPut σ t0 v22) fun v23 s24 =>
    zz_law_278 xs L k43 s24 l5 t0 v23
def zz_law_43 (xs : Nat → Int32) (L : Nat) (k43 : HS → Int32 → Option Int32) (σ : HS) (l5 : Int32) : Option Int32 :=
  if 60 ≤ l5 then
    some 1
  else
    bd (jj_drawn xs L l5) fun v8 =>
    if (v8 &&& 1) = 0 then
      bd (jj_low (v8 >>> (1 &&& 31)) 40) fun v11 =>
      zz_law_88 xs L k43 σ l5 v8 (v11 - 8)
    else
      bd (jj_drawn xs L (l5 + 5)) fun v10 =>
      zz_law_88 xs L k43 σ l5 v8 v10
def zz_law_lp43 (xs : Nat → Int32) (L : Nat) : Nat → HS → Int32 → Option Int32 := itF (fun _ _ => none) (fun k => zz_law_43 xs L k)
def zz_law_40 (xs : Nat → Int32) (L : Nat)  (σ : HS)  : Option Int32 :=
  zz_law_lp43 xs L FU σ 1
def zz_law (xs : Nat → Int32) (L : Nat) (σ : HS) : Option Int32 :=
  bd (jj_drawn xs L 0) fun v1 =>
  bd (jj_low v1 3) fun v2 =>
  if v2 = 0 then
    bd (rr_clear (hs_x σ) 0) fun s5 =>
    nm (hs_x' σ s5) fun s6 =>
    zz_law_40 xs L s6
  else
    zz_law_40 xs L σ
set_option maxHeartbeats 8000000 in
set_option maxRecDepth 100000 in
theorem law_main {p : Program} {l : Launch} {e : Env} {s : State} {m : MethodId} {below : List Frame} {meth : Method} {c : Code} {b L : Nat} {xs : Nat → Int32} {D : va_G} {ca : Nat → ClassId} {B : Nat → Nat} {ar : Nat → Nat → Nat} {E : Nat → Nat} {A : Nat → Prop} {cells slots : Nat} (C0 : lw_At p s m meth c b L xs) (hN : NX s) (hbA : ¬ A b) (hA : ∀ q : Nat, s.heap.size ≤ q → A q) (hAe : ∀ q : Nat, A q → s.heap.size ≤ q) (hK : va_K D vwCl (vt ca) s) (hc9 : cells ≤ 600172) (hs9 : slots ≤ 7300668) : ∀ (H : Heap) (locs : List Loc) (ls : Array Slot) (σ : HS), zz_law xs L σ = some 1 → va_P D vwCl (wH ca B ar E σ) H → va_D A (wH ca B ar E σ) → va_S A s.heap H locs → lv_has ls 11 [(4, .ref (E 2)), (3, .ref (E 1)), (2, .ref (E 0)), (1, .ref (B 0)), (0, .ref b)] → W p l e room_1 s m #[Value.ref b] below meth c H locs cells slots (lw_Z below #[Value.ref b] s) (F0 m 23 ls []) := by
  obtain ⟨hx, hb, hr, hml, hown, hts0, hXs, hbl, hlocks, hgv⟩ := id C0
  have hts : ∀ w ∈ wsL_law, w.before #[Value.ref b] s = true := fun w h => hts0 w (wsL_law_in w h)
  have J43 : ∀ (n43 : Nat) (H : Heap) (locs : List Loc) (ls : Array Slot) (σ : HS) (l5 : Int32), zz_law_lp43 xs L  n43 σ l5 = some 1 → va_P D vwCl (wH ca B ar E σ) H → va_D A (wH ca B ar E σ) → va_S A s.heap H locs → lv_has ls 11 [(0, .ref b), (1, .ref (B 0)), (2, .ref (E 0)), (3, .ref (E 1)), (4, .ref (E 2)), (5, .int l5)] → W p l e room_1 s m #[Value.ref b] below meth c H locs cells slots (lw_Z below #[Value.ref b] s) (F0 m 43 ls []) := by
    intro n43
    induction n43 with
    | zero =>
      intro H locs ls σ l5 hf hP hD hS hl
      exact absurd hf (fun h => by cases h)
    | succ n43 ih43 =>
      have J278 : ∀ (H : Heap) (locs : List Loc) (ls : Array Slot) (σ : HS) (l5 : Int32) (l7 : Int32) (l8 : Int32), zz_law_278 xs L (zz_law_lp43 xs L  n43) σ l5 l7 l8 = some 1 → va_P D vwCl (wH ca B ar E σ) H → va_D A (wH ca B ar E σ) → va_S A s.heap H locs → lv_has ls 11 [(0, .ref b), (1, .ref (B 0)), (2, .ref (E 0)), (3, .ref (E 1)), (4, .ref (E 2)), (5, .int l5), (7, .int l7), (8, .int l8)] → W p l e room_1 s m #[Value.ref b] below meth c H locs cells slots (lw_Z below #[Value.ref b] s) (F0 m 278 ls []) := by
        intro H locs ls σ l5 l7 l8 hf hP hD hS hl
        unfold zz_law_278 at hf
        refine lv_iload hx hb dL_law_278 (lv_at hl 7 rfl) ?_
        refine lv_if_eq (tgt := 298) hx hb dL_law_280 (by decide) (fun c34 => ?_) (fun c34 => ?_)
        · replace hf := it_p c34 hf
          refine lv_iconst (v := 0) hx hb dL_law_298 (by decide) ?_
          exact absurd (so1 hf) (by decide)
        · replace hf := it_n c34 hf
          refine lv_aload_n hx hb dL_law_283 rfl (lv_at hl 1 rfl) ?_
          refine lv_aload_n hx hb dL_law_284 rfl (lv_at hl 2 rfl) ?_
          refine lv_aload_n hx hb dL_law_285 rfl (lv_at hl 3 rfl) ?_
          refine lv_aload hx hb dL_law_286 (lv_at hl 4 rfl) ?_
          refine lv_iconst (v := 0) hx hb dL_law_288 (by decide) ?_
          obtain ⟨g35, hf⟩ := gd_ob hf
          refine va_iald hx hb hK hP 22 0 rfl rfl g35 dL_law_289 ?_
          refine lv_iload hx hb dL_law_290 (lv_at hl 6 rfl) ?_
          obtain ⟨v36, s37, ev36, hf⟩ := bd2_ob hf
          refine call_si (As := [.ref (B 0), .ref (E 0), .ref (E 1), .int (hs_n σ (0 : Int32).toNatClampNeg), .int l7]) (rest := []) ⟨hx, hb, hml, hown, hts⟩ (tL_isSo l D ca B ar E _ σ (hs_n σ (0 : Int32).toNatClampNeg) l7 v36 s37 ev36) (va_cwS 5 hts gL_law_L_isSo rfl rfl rfl (by decide +kernel) ⟨Nat.le_of_ble_eq_true rfl, Nat.le_of_ble_eq_true rfl⟩) hN hK hP hD hA hS (fr_id _ _) rfl hl.1 rfl (lv_room (Nat.le_of_ble_eq_true rfl)) dL_law_292 ⟨(show cells + 0 ≤ 600172 by omega), (show slots + 0 ≤ 7300668 by omega)⟩ (fun H locs hP hD hS => ?_)
          refine lv_if_ne (tgt := 300) hx hb dL_law_295 (by decide) (fun c38 => ?_) (fun c38 => ?_)
          · replace hf := it_n c38 hf
            obtain ⟨v39, ev39, hf⟩ := nm_ob hf
            refine lv_iinc (v := v39) (lv' := [(5, .int v39), (0, .ref b), (1, .ref (B 0)), (2, .ref (E 0)), (3, .ref (E 1)), (4, .ref (E 2)), (7, .int l7), (8, .int l8)]) hx hb dL_law_300 hl (k := 5) rfl (by rw [← ev39]; rfl) (by decide) rfl (fun ls hl => ?_)
            refine lv_goto (tgt := 43) hx hb dL_law_303 (by decide) ?_
            exact ih43 _ _ _ _ _ hf hP hD hS (lv_sub hl [1, 2, 3, 4, 5, 0] rfl)
          · replace hf := it_p c38 hf
            refine lv_iconst (v := 0) hx hb dL_law_298 (by decide) ?_
            exact absurd (so1 hf) (by decide)
      have J276 : ∀ (H : Heap) (locs : List Loc) (ls : Array Slot) (σ : HS) (l5 : Int32) (l7 : Int32) (t0 : Int32), zz_law_276 xs L (zz_law_lp43 xs L  n43) σ l5 l7 t0 = some 1 → va_P D vwCl (wH ca B ar E σ) H → va_D A (wH ca B ar E σ) → va_S A s.heap H locs → lv_has ls 11 [(0, .ref b), (1, .ref (B 0)), (2, .ref (E 0)), (3, .ref (E 1)), (4, .ref (E 2)), (5, .int l5), (7, .int l7)] → W p l e room_1 s m #[Value.ref b] below meth c H locs cells slots (lw_Z below #[Value.ref b] s) (F0 m 276 ls [.int t0]) := by
        intro H locs ls σ l5 l7 t0 hf hP hD hS hl
        unfold zz_law_276 at hf
        refine lv_istore (lv' := [(8, .int t0), (0, .ref b), (1, .ref (B 0)), (2, .ref (E 0)), (3, .ref (E 1)), (4, .ref (E 2)), (5, .int l5), (7, .int l7)]) hx hb dL_law_276 hl (by decide) rfl (fun ls hl => ?_)
        exact J278 _ _ _ _ _ _ _ hf hP hD hS (lv_sub hl [1, 2, 3, 4, 5, 6, 7, 0] rfl)
      have J268 : ∀ (H : Heap) (locs : List Loc) (ls : Array Slot) (σ : HS) (l5 : Int32) (l7 : Int32) (t0 : Int32) (t1 : Int32), zz_law_268 xs L (zz_law_lp43 xs L  n43) σ l5 l7 t0 t1 = some 1 → va_P D vwCl (wH ca B ar E σ) H → va_D A (wH ca B ar E σ) → va_S A s.heap H locs → lv_has ls 11 [(0, .ref b), (1, .ref (B 0)), (2, .ref (E 0)), (3, .ref (E 1)), (4, .ref (E 2)), (5, .int l5), (7, .int l7)] → W p l e room_1 s m #[Value.ref b] below meth c H locs cells slots (lw_Z below #[Value.ref b] s) (F0 m 268 ls [.int t1, .int t0]) := by
        intro H locs ls σ l5 l7 t0 t1 hf hP hD hS hl
        unfold zz_law_268 at hf
        refine lv_icmp_ne (tgt := 275) hx hb dL_law_268 (by decide) (fun c47 => ?_) (fun c47 => ?_)
        · replace hf := it_n c47 hf
          refine lv_iconst (v := 0) hx hb dL_law_275 (by decide) ?_
          exact J276 _ _ _ _ _ _ _ hf hP hD hS (lv_sub hl [0, 1, 2, 3, 4, 5, 6] rfl)
        · replace hf := it_p c47 hf
          refine lv_iconst (v := 1) hx hb dL_law_271 (by decide) ?_
          refine lv_goto (tgt := 276) hx hb dL_law_272 (by decide) ?_
          exact J276 _ _ _ _ _ _ _ hf hP hD hS (lv_sub hl [0, 1, 2, 3, 4, 5, 6] rfl)
      have J255 : ∀ (H : Heap) (locs : List Loc) (ls : Array Slot) (σ : HS) (l5 : Int32) (l7 : Int32) (t0 : Int32), zz_law_255 xs L (zz_law_lp43 xs L  n43) σ l5 l7 t0 = some 1 → va_P D vwCl (wH ca B ar E σ) H → va_D A (wH ca B ar E σ) → va_S A s.heap H locs → lv_has ls 11 [(0, .ref b), (1, .ref (B 0)), (2, .ref (E 0)), (3, .ref (E 1)), (4, .ref (E 2)), (5, .int l5), (7, .int l7)] → W p l e room_1 s m #[Value.ref b] below meth c H locs cells slots (lw_Z below #[Value.ref b] s) (F0 m 255 ls [.int t0]) := by
        intro H locs ls σ l5 l7 t0 hf hP hD hS hl
        unfold zz_law_255 at hf
        refine lv_aload_n hx hb dL_law_255 rfl (lv_at hl 1 rfl) ?_
        refine lv_iconst (v := 1) hx hb dL_law_256 (by decide) ?_
        obtain ⟨v45, ev45, hf⟩ := bd_ob hf
        refine call_i (As := [.int 1]) (rest := [.int t0]) ⟨hx, hb, hml, hown, hts⟩ (tX4_keysIn l D ca B ar _ (hs_x σ) 1 v45 ev45) (cwV 1 hts gL_law_X4_keysIn rfl rfl rfl (by decide +kernel) ⟨Nat.le_of_ble_eq_true rfl, Nat.le_of_ble_eq_true rfl⟩) hN hK hP hD hA hS (fr_HRp ca B ar E σ) rfl rfl rfl hl.1 rfl (lv_room (Nat.le_of_ble_eq_true rfl)) dL_law_257 ⟨(show cells + 0 ≤ 600172 by omega), (show slots + 0 ≤ 7300668 by omega)⟩ (fun H locs hP hD hS => ?_)
        refine lv_if_ne (tgt := 267) hx hb dL_law_260 (by decide) (fun c46 => ?_) (fun c46 => ?_)
        · replace hf := it_n c46 hf
          refine lv_iconst (v := 0) hx hb dL_law_267 (by decide) ?_
          exact J268 _ _ _ _ _ _ _ _ hf hP hD hS (lv_sub hl [0, 1, 2, 3, 4, 5, 6] rfl)
        · replace hf := it_p c46 hf
          refine lv_iconst (v := 1) hx hb dL_law_263 (by decide) ?_
          refine lv_goto (tgt := 268) hx hb dL_law_264 (by decide) ?_
          exact J268 _ _ _ _ _ _ _ _ hf hP hD hS (lv_sub hl [0, 1, 2, 3, 4, 5, 6] rfl)
      have J226 : ∀ (H : Heap) (locs : List Loc) (ls : Array Slot) (σ : HS) (l5 : Int32) (l7 : Int32) (l9 : Int32) (l10 : Int32) (t0 : Int32) (t1 : Int32), zz_law_226 xs L (zz_law_lp43 xs L  n43) σ l5 l7 l9 l10 t0 t1 = some 1 → va_P D vwCl (wH ca B ar E σ) H → va_D A (wH ca B ar E σ) → va_S A s.heap H locs → lv_has ls 11 [(0, .ref b), (1, .ref (B 0)), (2, .ref (E 0)), (3, .ref (E 1)), (4, .ref (E 2)), (5, .int l5), (7, .int l7), (9, .int l9), (10, .int l10)] → W p l e room_1 s m #[Value.ref b] below meth c H locs cells slots (lw_Z below #[Value.ref b] s) (F0 m 226 ls [.int t1, .int t0]) := by
        intro H locs ls σ l5 l7 l9 l10 t0 t1 hf hP hD hS hl
        unfold zz_law_226 at hf
        refine lv_icmp_ne (tgt := 275) hx hb dL_law_226 (by decide) (fun c40 => ?_) (fun c40 => ?_)
        · replace hf := it_n c40 hf
          refine lv_iconst (v := 0) hx hb dL_law_275 (by decide) ?_
          exact J276 _ _ _ _ _ _ _ hf hP hD hS (lv_sub hl [0, 1, 2, 3, 4, 5, 6] rfl)
        · replace hf := it_p c40 hf
          refine lv_aload_n hx hb dL_law_229 rfl (lv_at hl 1 rfl) ?_
          refine lv_iconst (v := 1) hx hb dL_law_230 (by decide) ?_
          obtain ⟨v41, ev41, hf⟩ := bd_ob hf
          refine call_i (As := [.int 1]) (rest := []) ⟨hx, hb, hml, hown, hts⟩ (tX4_keysIn l D ca B ar _ (hs_x σ) 1 v41 ev41) (cwV 1 hts gL_law_X4_keysIn rfl rfl rfl (by decide +kernel) ⟨Nat.le_of_ble_eq_true rfl, Nat.le_of_ble_eq_true rfl⟩) hN hK hP hD hA hS (fr_HRp ca B ar E σ) rfl rfl rfl hl.1 rfl (lv_room (Nat.le_of_ble_eq_true rfl)) dL_law_231 ⟨(show cells + 0 ≤ 600172 by omega), (show slots + 0 ≤ 7300668 by omega)⟩ (fun H locs hP hD hS => ?_)
          refine lv_iload hx hb dL_law_234 (lv_at hl 7 rfl) ?_
          refine lv_iload hx hb dL_law_236 (lv_at hl 8 rfl) ?_
          refine lv_isub hx hb dL_law_238 ?_
          refine lv_icmp_ne (tgt := 275) hx hb dL_law_239 (by decide) (fun c42 => ?_) (fun c42 => ?_)
          · replace hf := it_n c42 hf
            refine lv_iconst (v := 0) hx hb dL_law_275 (by decide) ?_
            exact J276 _ _ _ _ _ _ _ hf hP hD hS (lv_sub hl [0, 1, 2, 3, 4, 5, 6] rfl)
          · replace hf := it_p c42 hf
            refine lv_aload_n hx hb dL_law_242 rfl (lv_at hl 1 rfl) ?_
            refine lv_iconst (v := 1) hx hb dL_law_243 (by decide) ?_
            obtain ⟨v43, ev43, hf⟩ := bd_ob hf
            refine call_i (As := [.int 1]) (rest := []) ⟨hx, hb, hml, hown, hts⟩ (tX4_slots l D ca B ar _ (hs_x σ) 1 v43 ev43) (cwV 1 hts gL_law_X4_slots rfl rfl rfl (by decide +kernel) ⟨Nat.le_of_ble_eq_true rfl, Nat.le_of_ble_eq_true rfl⟩) hN hK hP hD hA hS (fr_HRp ca B ar E σ) rfl rfl rfl hl.1 rfl (lv_room (Nat.le_of_ble_eq_true rfl)) dL_law_244 ⟨(show cells + 0 ≤ 600172 by omega), (show slots + 0 ≤ 7300668 by omega)⟩ (fun H locs hP hD hS => ?_)
            refine lv_if_ne (tgt := 254) hx hb dL_law_247 (by decide) (fun c44 => ?_) (fun c44 => ?_)
            · replace hf := it_n c44 hf
              refine lv_iconst (v := 0) hx hb dL_law_254 (by decide) ?_
              exact J255 _ _ _ _ _ _ _ hf hP hD hS (lv_sub hl [0, 1, 2, 3, 4, 5, 6] rfl)
            · replace hf := it_p c44 hf
              refine lv_iconst (v := 1) hx hb dL_law_250 (by decide) ?_
              refine lv_goto (tgt := 255) hx hb dL_law_251 (by decide) ?_
              exact J255 _ _ _ _ _ _ _ hf hP hD hS (lv_sub hl [0, 1, 2, 3, 4, 5, 6] rfl)
      have J172 : ∀ (H : Heap) (locs : List Loc) (ls : Array Slot) (σ : HS) (l5 : Int32) (l6 : Int32) (l7 : Int32), zz_law_172 xs L (zz_law_lp43 xs L  n43) σ l5 l6 l7 = some 1 → va_P D vwCl (wH ca B ar E σ) H → va_D A (wH ca B ar E σ) → va_S A s.heap H locs → lv_has ls 11 [(0, .ref b), (1, .ref (B 0)), (2, .ref (E 0)), (3, .ref (E 1)), (4, .ref (E 2)), (5, .int l5), (6, .int l6), (7, .int l7)] → W p l e room_1 s m #[Value.ref b] below meth c H locs cells slots (lw_Z below #[Value.ref b] s) (F0 m 172 ls []) := by
        intro H locs ls σ l5 l6 l7 hf hP hD hS hl
        unfold zz_law_172 at hf
        refine lv_iload hx hb dL_law_172 (lv_at hl 6 rfl) ?_
        refine lv_bipush (v := 14) hx hb dL_law_174 (by decide) ?_
        refine lv_iand hx hb dL_law_176 ?_
        refine lv_bipush (v := 12) hx hb dL_law_177 (by decide) ?_
        refine lv_icmp_ne (tgt := 199) hx hb dL_law_179 (by decide) (fun c25 => ?_) (fun c25 => ?_)
        · replace hf := it_n c25 hf
          refine lv_aload_n hx hb dL_law_199 rfl (lv_at hl 1 rfl) ?_
          refine lv_iconst (v := 1) hx hb dL_law_200 (by decide) ?_
          obtain ⟨v26, ev26, hf⟩ := bd_ob hf
          refine call_i (As := [.int 1]) (rest := []) ⟨hx, hb, hml, hown, hts⟩ (tX4_keysIn l D ca B ar _ (hs_x σ) 1 v26 ev26) (cwV 1 hts gL_law_X4_keysIn rfl rfl rfl (by decide +kernel) ⟨Nat.le_of_ble_eq_true rfl, Nat.le_of_ble_eq_true rfl⟩) hN hK hP hD hA hS (fr_HRp ca B ar E σ) rfl rfl rfl hl.1 rfl (lv_room (Nat.le_of_ble_eq_true rfl)) dL_law_201 ⟨(show cells + 0 ≤ 600172 by omega), (show slots + 0 ≤ 7300668 by omega)⟩ (fun H locs hP hD hS => ?_)
          refine lv_istore (lv' := [(9, .int v26), (0, .ref b), (1, .ref (B 0)), (2, .ref (E 0)), (3, .ref (E 1)), (4, .ref (E 2)), (5, .int l5), (6, .int l6), (7, .int l7)]) hx hb dL_law_204 hl (by decide) rfl (fun ls hl => ?_)
          refine lv_aload_n hx hb dL_law_206 rfl (lv_at hl 2 rfl) ?_
          obtain ⟨v27, s28, ev27, hf⟩ := bd2_ob hf
          refine call_i (As := []) (rest := []) ⟨hx, hb, hml, hown, hts⟩ (tX4_move l D ca B ar _ (hs_x σ) v27 s28 ev27) (cwV 0 hts gL_law_X4_move rfl rfl rfl (by decide +kernel) ⟨Nat.le_of_ble_eq_true rfl, Nat.le_of_ble_eq_true rfl⟩) hN hK hP hD hA hS (fr_HR ca B ar E σ s28) rfl rfl rfl hl.1 rfl (lv_room (Nat.le_of_ble_eq_true rfl)) dL_law_207 ⟨(show cells + 0 ≤ 600172 by omega), (show slots + 0 ≤ 7300668 by omega)⟩ (fun H locs hP hD hS => ?_)
          obtain ⟨s29, es29, hf⟩ := nm_ob hf
          have hP : va_P D vwCl (wH ca B ar E s29) H := by rw [← es29]; exact hP
          have hD : va_D A (wH ca B ar E s29) := by rw [← es29]; exact hD
          refine lv_istore (lv' := [(10, .int v27), (9, .int v26), (0, .ref b), (1, .ref (B 0)), (2, .ref (E 0)), (3, .ref (E 1)), (4, .ref (E 2)), (5, .int l5), (6, .int l6), (7, .int l7)]) hx hb dL_law_210 hl (by decide) rfl (fun ls hl => ?_)
          refine lv_iload hx hb dL_law_212 (lv_at hl 0 rfl) ?_
          refine lv_iload hx hb dL_law_214 (lv_at hl 1 rfl) ?_
          refine lv_iconst (v := 4) hx hb dL_law_216 (by decide) ?_
          refine lv_icmp_ge (tgt := 225) hx hb dL_law_217 (by decide) (fun c30 => ?_) (fun c30 => ?_)
          · replace hf := it_p c30 hf
            refine lv_iconst (v := 4) hx hb dL_law_225 (by decide) ?_
            exact J226 _ _ _ _ _ _ _ _ _ _ hf hP hD hS (lv_sub hl [2, 3, 4, 5, 6, 7, 9, 1, 0] rfl)
          · replace hf := it_n c30 hf
            refine lv_iload hx hb dL_law_220 (lv_at hl 1 rfl) ?_
            refine lv_goto (tgt := 226) hx hb dL_law_222 (by decide) ?_
            exact J226 _ _ _ _ _ _ _ _ _ _ hf hP hD hS (lv_sub hl [2, 3, 4, 5, 6, 7, 9, 1, 0] rfl)
        · replace hf := it_p c25 hf
          refine lv_aload_n hx hb dL_law_182 rfl (lv_at hl 1 rfl) ?_
          refine lv_aload_n hx hb dL_law_183 rfl (lv_at hl 2 rfl) ?_
          refine lv_aload_n hx hb dL_law_184 rfl (lv_at hl 3 rfl) ?_
          refine lv_aload hx hb dL_law_185 (lv_at hl 4 rfl) ?_
          refine lv_iconst (v := 0) hx hb dL_law_187 (by decide) ?_
          obtain ⟨g31, hf⟩ := gd_ob hf
          refine va_iald hx hb hK hP 22 0 rfl rfl g31 dL_law_188 ?_
          refine lv_iload hx hb dL_law_189 (lv_at hl 7 rfl) ?_
          obtain ⟨v32, s33, ev32, hf⟩ := bd2_ob hf
          refine call_si (As := [.ref (B 0), .ref (E 0), .ref (E 1), .int (hs_n σ (0 : Int32).toNatClampNeg), .int l7]) (rest := []) ⟨hx, hb, hml, hown, hts⟩ (tL_isRemoved l D ca B ar E _ σ (hs_n σ (0 : Int32).toNatClampNeg) l7 v32 s33 ev32) (va_cwS 5 hts gL_law_L_isRemoved rfl rfl rfl (by decide +kernel) ⟨Nat.le_of_ble_eq_true rfl, Nat.le_of_ble_eq_true rfl⟩) hN hK hP hD hA hS (fr_id _ _) rfl hl.1 rfl (lv_room (Nat.le_of_ble_eq_true rfl)) dL_law_191 ⟨(show cells + 0 ≤ 600172 by omega), (show slots + 0 ≤ 7300668 by omega)⟩ (fun H locs hP hD hS => ?_)
          refine lv_istore (lv' := [(8, .int v32), (0, .ref b), (1, .ref (B 0)), (2, .ref (E 0)), (3, .ref (E 1)), (4, .ref (E 2)), (5, .int l5), (6, .int l6), (7, .int l7)]) hx hb dL_law_194 hl (by decide) rfl (fun ls hl => ?_)
          refine lv_goto (tgt := 278) hx hb dL_law_196 (by decide) ?_
          exact J278 _ _ _ _ _ _ _ hf hP hD hS (lv_sub hl [1, 2, 3, 4, 5, 6, 8, 0] rfl)
      have J88 : ∀ (H : Heap) (locs : List Loc) (ls : Array Slot) (σ : HS) (l5 : Int32) (l6 : Int32) (t0 : Int32), zz_law_88 xs L (zz_law_lp43 xs L  n43) σ l5 l6 t0 = some 1 → va_P D vwCl (wH ca B ar E σ) H → va_D A (wH ca B ar E σ) → va_S A s.heap H locs → lv_has ls 11 [(0, .ref b), (1, .ref (B 0)), (2, .ref (E 0)), (3, .ref (E 1)), (4, .ref (E 2)), (5, .int l5), (6, .int l6)] → W p l e room_1 s m #[Value.ref b] below meth c H locs cells slots (lw_Z below #[Value.ref b] s) (F0 m 88 ls [.int t0]) := by
        intro H locs ls σ l5 l6 t0 hf hP hD hS hl
        unfold zz_law_88 at hf
        refine lv_istore (lv' := [(7, .int t0), (0, .ref b), (1, .ref (B 0)), (2, .ref (E 0)), (3, .ref (E 1)), (4, .ref (E 2)), (5, .int l5), (6, .int l6)]) hx hb dL_law_88 hl (by decide) rfl (fun ls hl => ?_)
        refine lv_iconst (v := 1) hx hb dL_law_90 (by decide) ?_
        refine lv_istore (lv' := [(8, .int 1), (7, .int t0), (0, .ref b), (1, .ref (B 0)), (2, .ref (E 0)), (3, .ref (E 1)), (4, .ref (E 2)), (5, .int l5), (6, .int l6)]) hx hb dL_law_91 hl (by decide) rfl (fun ls hl => ?_)
        refine lv_iload hx hb dL_law_93 (lv_at hl 8 rfl) ?_
        refine lv_bipush (v := 14) hx hb dL_law_95 (by decide) ?_
        refine lv_iand hx hb dL_law_97 ?_
        refine lv_bipush (v := 10) hx hb dL_law_98 (by decide) ?_
        refine lv_icmp_ge (tgt := 127) hx hb dL_law_100 (by decide) (fun c12 => ?_) (fun c12 => ?_)
        · replace hf := it_p c12 hf
          refine lv_iload hx hb dL_law_127 (lv_at hl 8 rfl) ?_
          refine lv_bipush (v := 14) hx hb dL_law_129 (by decide) ?_
          refine lv_iand hx hb dL_law_131 ?_
          refine lv_bipush (v := 10) hx hb dL_law_132 (by decide) ?_
          refine lv_icmp_ne (tgt := 172) hx hb dL_law_134 (by decide) (fun c13 => ?_) (fun c13 => ?_)
          · replace hf := it_n c13 hf
            exact J172 _ _ _ _ _ _ _ hf hP hD hS (lv_sub hl [2, 3, 4, 5, 6, 7, 8, 1] rfl)
          · replace hf := it_p c13 hf
            refine lv_aload hx hb dL_law_137 (lv_at hl 6 rfl) ?_
            refine lv_iconst (v := 0) hx hb dL_law_139 (by decide) ?_
            obtain ⟨g14, hf⟩ := gd_ob hf
            refine va_iald hx hb hK hP 22 0 rfl rfl g14 dL_law_140 ?_
            refine lv_if_le (tgt := 172) hx hb dL_law_141 (by decide) (fun c15 => ?_) (fun c15 => ?_)
            · replace hf := it_p c15 hf
              exact J172 _ _ _ _ _ _ _ hf hP hD hS (lv_sub hl [2, 3, 4, 5, 6, 7, 8, 1] rfl)
            · replace hf := it_n c15 hf
              refine lv_aload_n hx hb dL_law_144 rfl (lv_at hl 3 rfl) ?_
              refine lv_aload_n hx hb dL_law_145 rfl (lv_at hl 4 rfl) ?_
              refine lv_aload_n hx hb dL_law_146 rfl (lv_at hl 5 rfl) ?_
              refine lv_aload hx hb dL_law_147 (lv_at hl 6 rfl) ?_
              refine lv_iconst (v := 0) hx hb dL_law_149 (by decide) ?_
              obtain ⟨g16, hf⟩ := gd_ob hf
              refine va_iald hx hb hK hP 22 0 rfl rfl g16 dL_law_150 ?_
              refine lv_aload_n hx hb dL_law_151 rfl (lv_at hl 4 rfl) ?_
              refine lv_iload hx hb dL_law_152 (lv_at hl 8 rfl) ?_
              refine lv_iconst (v := 4) hx hb dL_law_154 (by decide) ?_
              refine lv_ishr hx hb dL_law_155 ?_
              refine lv_aload hx hb dL_law_156 (lv_at hl 6 rfl) ?_
              refine lv_iconst (v := 0) hx hb dL_law_158 (by decide) ?_
              obtain ⟨g17, hf⟩ := gd_ob hf
              refine va_iald hx hb hK hP 22 0 rfl rfl g17 dL_law_159 ?_
              obtain ⟨v18, ev18, hf⟩ := bd_ob hf
              refine call_si (As := [.int (l6 >>> (4 &&& 31)), .int (hs_n σ (0 : Int32).toNatClampNeg)]) (rest := [.ref (E 0), .int (hs_n σ (0 : Int32).toNatClampNeg), .ref (E 1), .ref (E 0), .ref (B 0)]) ⟨hx, hb, hml, hown, hts⟩ (tL_low l D ca _ (l6 >>> (4 &&& 31)) (hs_n σ (0 : Int32).toNatClampNeg) v18 ev18) (va_cwS 2 hts gL_law_L_low rfl rfl rfl (by decide +kernel) ⟨Nat.le_of_ble_eq_true rfl, Nat.le_of_ble_eq_true rfl⟩) hN hK hP hD hA hS (fr_no _) rfl hl.1 rfl (lv_room (Nat.le_of_ble_eq_true rfl)) dL_law_160 ⟨(show cells + 0 ≤ 600172 by omega), (show slots + 0 ≤ 7300668 by omega)⟩ (fun H locs hP hD hS => ?_)
              obtain ⟨g19, hf⟩ := gd_ob hf
              refine va_iald hx hb hK hP 20 0 rfl rfl g19 dL_law_163 ?_
              obtain ⟨v20, s21, ev20, hf⟩ := bd2_ob hf
              refine call_si (As := [.ref (B 0), .ref (E 0), .ref (E 1), .int (hs_n σ (0 : Int32).toNatClampNeg), .int (hs_k σ v18.toNatClampNeg)]) (rest := []) ⟨hx, hb, hml, hown, hts⟩ (tL_isRemoved l D ca B ar E _ σ (hs_n σ (0 : Int32).toNatClampNeg) (hs_k σ v18.toNatClampNeg) v20 s21 ev20) (va_cwS 5 hts gL_law_L_isRemoved rfl rfl rfl (by decide +kernel) ⟨Nat.le_of_ble_eq_true rfl, Nat.le_of_ble_eq_true rfl⟩) hN hK hP hD hA hS (fr_id _ _) rfl hl.1 rfl (lv_room (Nat.le_of_ble_eq_true rfl)) dL_law_164 ⟨(show cells + 0 ≤ 600172 by omega), (show slots + 0 ≤ 7300668 by omega)⟩ (fun H locs hP hD hS => ?_)
              refine lv_istore (lv' := [(8, .int v20), (7, .int t0), (0, .ref b), (1, .ref (B 0)), (2, .ref (E 0)), (3, .ref (E 1)), (4, .ref (E 2)), (5, .int l5), (6, .int l6)]) hx hb dL_law_167 hl (by decide) rfl (fun ls hl => ?_)
              refine lv_goto (tgt := 278) hx hb dL_law_169 (by decide) ?_
              exact J278 _ _ _ _ _ _ _ hf hP hD hS (lv_sub hl [2, 3, 4, 5, 6, 7, 1, 0] rfl)
        · replace hf := it_n c12 hf
          refine lv_aload_n hx hb dL_law_103 rfl (lv_at hl 3 rfl) ?_
          refine lv_aload_n hx hb dL_law_104 rfl (lv_at hl 4 rfl) ?_
          refine lv_aload_n hx hb dL_law_105 rfl (lv_at hl 5 rfl) ?_
          refine lv_aload hx hb dL_law_106 (lv_at hl 6 rfl) ?_
          refine lv_iload hx hb dL_law_108 (lv_at hl 1 rfl) ?_
          refine lv_iload hx hb dL_law_110 (lv_at hl 8 rfl) ?_
          refine lv_iconst (v := 4) hx hb dL_law_112 (by decide) ?_
          refine lv_ishr hx hb dL_law_113 ?_
          refine lv_ldc (v := 1000000) hx hb hown (hts (.constant RL 86 (1000000)) (by decide +kernel)) dL_law_114 ?_
          obtain ⟨v22, ev22, hf⟩ := bd_ob hf
          refine call_si (As := [.int (l6 >>> (4 &&& 31)), .int 1000000]) (rest := [.int t0, .ref (E 2), .ref (E 1), .ref (E 0), .ref (B 0)]) ⟨hx, hb, hml, hown, hts⟩ (tL_low l D ca _ (l6 >>> (4 &&& 31)) 1000000 v22 ev22) (va_cwS 2 hts gL_law_L_low rfl rfl rfl (by decide +kernel) ⟨Nat.le_of_ble_eq_true rfl, Nat.le_of_ble_eq_true rfl⟩) hN hK hP hD hA hS (fr_no _) rfl hl.1 rfl (lv_room (Nat.le_of_ble_eq_true rfl)) dL_law_116 ⟨(show cells + 0 ≤ 600172 by omega), (show slots + 0 ≤ 7300668 by omega)⟩ (fun H locs hP hD hS => ?_)
          obtain ⟨v23, s24, ev23, hf⟩ := bd2_ob hf
          refine call_si (As := [.ref (B 0), .ref (E 0), .ref (E 1), .ref (E 2), .int t0, .int v22]) (rest := []) ⟨hx, hb, hml, hown, hts⟩ (tL_isPut l D ca B ar E _ σ t0 v22 v23 s24 ev23) (va_cwS 6 hts gL_law_L_isPut rfl rfl rfl (by decide +kernel) ⟨Nat.le_of_ble_eq_true rfl, Nat.le_of_ble_eq_true rfl⟩) hN hK hP hD hA hS (fr_id _ _) rfl hl.1 rfl (lv_room (Nat.le_of_ble_eq_true rfl)) dL_law_119 ⟨(show cells + 0 ≤ 600172 by omega), (show slots + 0 ≤ 7300668 by omega)⟩ (fun H locs hP hD hS => ?_)
          refine lv_istore (lv' := [(8, .int v23), (7, .int t0), (0, .ref b), (1, .ref (B 0)), (2, .ref (E 0)), (3, .ref (E 1)), (4, .ref (E 2)), (5, .int l5), (6, .int l6)]) hx hb dL_law_122 hl (by decide) rfl (fun ls hl => ?_)
          refine lv_goto (tgt := 278) hx hb dL_law_124 (by decide) ?_
          exact J278 _ _ _ _ _ _ _ hf hP hD hS (lv_sub hl [2, 3, 4, 5, 6, 7, 1, 0] rfl)
      intro H locs ls σ l5 hf hP hD hS hl
      replace hf : zz_law_43 xs L  (zz_law_lp43 xs L  n43) σ l5 = some 1 := hf
      unfold zz_law_43 at hf
      refine lv_iload hx hb dL_law_43 (lv_at hl 5 rfl) ?_
      refine lv_bipush (v := 60) hx hb dL_law_45 (by decide) ?_
      refine lv_icmp_ge (tgt := 306) hx hb dL_law_47 (by decide) (fun c7 => ?_) (fun c7 => ?_)
      · replace hf := it_p c7 hf
        refine lv_iconst (v := 1) hx hb dL_law_306 (by decide) ?_
        refine va_forget (fun q hq => hAe _ (hS.2.2 q hq)) ?_
        refine W.widen (k := 600172) (n := 7300668) (by omega) (by omega) ?_
        exact lw_ret hx hb hr hlocks dL_law_307
      · replace hf := it_n c7 hf
        refine lv_aload_n hx hb dL_law_50 rfl (lv_at hl 0 rfl) ?_
        refine lv_iload hx hb dL_law_51 (lv_at hl 5 rfl) ?_
        obtain ⟨v8, ev8, hf⟩ := bd_ob hf
        refine call_d (As := [.ref b, .int l5]) (rest := []) hXs hbl hbA ⟨hx, hb, hml, hown, hts⟩ (tL_drawn l D ca b L xs _ l5 v8 ev8) (va_cwS 2 hts gL_law_L_drawn rfl rfl rfl (by decide +kernel) ⟨Nat.le_of_ble_eq_true rfl, Nat.le_of_ble_eq_true rfl⟩) hN hK hP hD hA hS rfl hl.1 rfl (lv_room (Nat.le_of_ble_eq_true rfl)) dL_law_53 ⟨(show cells + 0 ≤ 600172 by omega), (show slots + 0 ≤ 7300668 by omega)⟩ (fun H locs hP hD hS => ?_)
        refine lv_istore (lv' := [(6, .int v8), (0, .ref b), (1, .ref (B 0)), (2, .ref (E 0)), (3, .ref (E 1)), (4, .ref (E 2)), (5, .int l5)]) hx hb dL_law_56 hl (by decide) rfl (fun ls hl => ?_)
        refine lv_iload hx hb dL_law_58 (lv_at hl 0 rfl) ?_
        refine lv_iconst (v := 1) hx hb dL_law_60 (by decide) ?_
        refine lv_iand hx hb dL_law_61 ?_
        refine lv_if_ne (tgt := 80) hx hb dL_law_62 (by decide) (fun c9 => ?_) (fun c9 => ?_)
        · replace hf := it_n c9 hf
          refine lv_aload_n hx hb dL_law_80 rfl (lv_at hl 1 rfl) ?_
          refine lv_iload hx hb dL_law_81 (lv_at hl 6 rfl) ?_
          refine lv_iconst (v := 5) hx hb dL_law_83 (by decide) ?_
          refine lv_iadd hx hb dL_law_84 ?_
          obtain ⟨v10, ev10, hf⟩ := bd_ob hf
          refine call_d (As := [.ref b, .int (l5 + 5)]) (rest := []) hXs hbl hbA ⟨hx, hb, hml, hown, hts⟩ (tL_drawn l D ca b L xs _ (l5 + 5) v10 ev10) (va_cwS 2 hts gL_law_L_drawn rfl rfl rfl (by decide +kernel) ⟨Nat.le_of_ble_eq_true rfl, Nat.le_of_ble_eq_true rfl⟩) hN hK hP hD hA hS rfl hl.1 rfl (lv_room (Nat.le_of_ble_eq_true rfl)) dL_law_85 ⟨(show cells + 0 ≤ 600172 by omega), (show slots + 0 ≤ 7300668 by omega)⟩ (fun H locs hP hD hS => ?_)
          exact J88 _ _ _ _ _ _ _ hf hP hD hS (lv_sub hl [1, 2, 3, 4, 5, 6, 0] rfl)
        · replace hf := it_p c9 hf
          refine lv_iload hx hb dL_law_65 (lv_at hl 0 rfl) ?_
          refine lv_iconst (v := 1) hx hb dL_law_67 (by decide) ?_
          refine lv_ishr hx hb dL_law_68 ?_
          refine lv_bipush (v := 40) hx hb dL_law_69 (by decide) ?_
          obtain ⟨v11, ev11, hf⟩ := bd_ob hf
          refine call_si (As := [.int (v8 >>> (1 &&& 31)), .int 40]) (rest := []) ⟨hx, hb, hml, hown, hts⟩ (tL_low l D ca _ (v8 >>> (1 &&& 31)) 40 v11 ev11) (va_cwS 2 hts gL_law_L_low rfl rfl rfl (by decide +kernel) ⟨Nat.le_of_ble_eq_true rfl, Nat.le_of_ble_eq_true rfl⟩) hN hK hP hD hA hS (fr_no _) rfl hl.1 rfl (lv_room (Nat.le_of_ble_eq_true rfl)) dL_law_71 ⟨(show cells + 0 ≤ 600172 by omega), (show slots + 0 ≤ 7300668 by omega)⟩ (fun H locs hP hD hS => ?_)
          refine lv_bipush (v := 8) hx hb dL_law_74 (by decide) ?_
          refine lv_isub hx hb dL_law_76 ?_
          refine lv_goto (tgt := 88) hx hb dL_law_77 (by decide) ?_
          exact J88 _ _ _ _ _ _ _ hf hP hD hS (lv_sub hl [1, 2, 3, 4, 5, 6, 0] rfl)
  have J40 : ∀ (H : Heap) (locs : List Loc) (ls : Array Slot) (σ : HS) , zz_law_40 xs L  σ = some 1 → va_P D vwCl (wH ca B ar E σ) H → va_D A (wH ca B ar E σ) → va_S A s.heap H locs → lv_has ls 11 [(0, .ref b), (1, .ref (B 0)), (2, .ref (E 0)), (3, .ref (E 1)), (4, .ref (E 2))] → W p l e room_1 s m #[Value.ref b] below meth c H locs cells slots (lw_Z below #[Value.ref b] s) (F0 m 40 ls []) := by
    intro H locs ls σ hf hP hD hS hl
    unfold zz_law_40 at hf
    refine lv_iconst (v := 1) hx hb dL_law_40 (by decide) ?_
    refine lv_istore (lv' := [(5, .int 1), (0, .ref b), (1, .ref (B 0)), (2, .ref (E 0)), (3, .ref (E 1)), (4, .ref (E 2))]) hx hb dL_law_41 hl (by decide) rfl (fun ls hl => ?_)
    exact J43 FU _ _ _ _ _ hf hP hD hS (lv_sub hl [1, 2, 3, 4, 5, 0] rfl)
  intro H locs ls σ hf hP hD hS hl
  unfold zz_law at hf
  refine lv_aload_n hx hb dL_law_23 rfl (lv_at hl 4 rfl) ?_
  refine lv_iconst (v := 0) hx hb dL_law_24 (by decide) ?_
  obtain ⟨v1, ev1, hf⟩ := bd_ob hf
  refine call_d (As := [.ref b, .int 0]) (rest := []) hXs hbl hbA ⟨hx, hb, hml, hown, hts⟩ (tL_drawn l D ca b L xs _ 0 v1 ev1) (va_cwS 2 hts gL_law_L_drawn rfl rfl rfl (by decide +kernel) ⟨Nat.le_of_ble_eq_true rfl, Nat.le_of_ble_eq_true rfl⟩) hN hK hP hD hA hS rfl hl.1 rfl (lv_room (Nat.le_of_ble_eq_true rfl)) dL_law_25 ⟨(show cells + 0 ≤ 600172 by omega), (show slots + 0 ≤ 7300668 by omega)⟩ (fun H locs hP hD hS => ?_)
  refine lv_iconst (v := 3) hx hb dL_law_28 (by decide) ?_
  obtain ⟨v2, ev2, hf⟩ := bd_ob hf
  refine call_si (As := [.int v1, .int 3]) (rest := []) ⟨hx, hb, hml, hown, hts⟩ (tL_low l D ca _ v1 3 v2 ev2) (va_cwS 2 hts gL_law_L_low rfl rfl rfl (by decide +kernel) ⟨Nat.le_of_ble_eq_true rfl, Nat.le_of_ble_eq_true rfl⟩) hN hK hP hD hA hS (fr_no _) rfl hl.1 rfl (lv_room (Nat.le_of_ble_eq_true rfl)) dL_law_29 ⟨(show cells + 0 ≤ 600172 by omega), (show slots + 0 ≤ 7300668 by omega)⟩ (fun H locs hP hD hS => ?_)
  refine lv_if_ne (tgt := 40) hx hb dL_law_32 (by decide) (fun c3 => ?_) (fun c3 => ?_)
  · replace hf := it_n c3 hf
    exact J40 _ _ _ _ hf hP hD hS (lv_sub hl [4, 3, 2, 1, 0] rfl)
  · replace hf := it_p c3 hf
    refine lv_aload_n hx hb dL_law_35 rfl (lv_at hl 3 rfl) ?_
    refine lv_iconst (v := 0) hx hb dL_law_36 (by decide) ?_
    obtain ⟨s5, es5, hf⟩ := bd_ob hf
    refine call_v (As := [.int 0]) (rest := []) ⟨hx, hb, hml, hown, hts⟩ (tX4_clear l D ca B ar _ (hs_x σ) 0 s5 es5) (cwV 1 hts gL_law_X4_clear rfl rfl rfl (by decide +kernel) ⟨Nat.le_of_ble_eq_true rfl, Nat.le_of_ble_eq_true rfl⟩) hN hK hP hD hA hS (fr_HR ca B ar E σ s5) rfl rfl rfl hl.1 rfl (lv_room (Nat.le_of_ble_eq_true rfl)) dL_law_37 ⟨(show cells + 0 ≤ 600172 by omega), (show slots + 0 ≤ 7300668 by omega)⟩ (fun H locs hP hD hS => ?_)
    obtain ⟨s6, es6, hf⟩ := nm_ob hf
    have hP : va_P D vwCl (wH ca B ar E s6) H := by rw [← es6]; exact hP
    have hD : va_D A (wH ca B ar E s6) := by rw [← es6]; exact hD
    exact J40 _ _ _ _ hf hP hD hS (lv_sub hl [4, 3, 2, 1, 0] rfl)
