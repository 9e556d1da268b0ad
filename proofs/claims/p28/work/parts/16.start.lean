set_option maxRecDepth 100000 in
theorem st_m1 : ∀ q ∈ nxf, Cond.fieldLinkNest q.1 q.2.1 q.2.2.1 q.2.2.2.1 q.2.2.2.2 RX4 ∈ lw_tbl := by decide +kernel
set_option maxRecDepth 100000 in
theorem st_m2 : ∀ q ∈ nxm, Cond.methodLinkNest RX4 q.1 q.2 RX4 ∈ lw_tbl := by decide +kernel
set_option maxRecDepth 100000 in
theorem st_m3 : ∀ q ∈ nxc, Cond.castable q q ∈ lw_tbl := by decide +kernel
set_option maxRecDepth 100000 in
theorem st_m4 : ∀ q ∈ nxs, Cond.stringRef RX4 q.1 q.2 ∈ lw_tbl := by decide +kernel
set_option maxRecDepth 100000 in
theorem st_m4b : ∀ q ∈ nxs, Cond.exactly (.string RX4 q.1) "java/lang/String" ∈ flatC (Jvm.Cond.and given_1 narrow_1) := by decide +kernel
set_option maxRecDepth 100000 in
theorem st_m5 : ∀ q ∈ nxd, Cond.declares q ∈ lw_tbl := by decide +kernel
theorem st_nx {args : Array Value} {s : State} (hts0 : ∀ w ∈ lw_tbl, w.before args s = true) (hgv : (Jvm.Cond.and given_1 narrow_1).before args s = true) : NX s := by
  have hs := flat_of_before _ hgv
  refine ⟨fun q hq => va_Nw.of rfl (hts0 _ (st_m1 q hq)), fun q hq => va_Nw.of rfl (hts0 _ (st_m2 q hq)), fun q hq => va_Nw.of rfl (hts0 _ (st_m3 q hq)), fun q hq => ?_, fun q hq => va_Nw.of rfl (hts0 _ (st_m5 q hq)), va_AO.of (hts0 (.arrayOver (.object RX2)) (by decide +kernel))⟩
  obtain ⟨a, _, _, _, he, -⟩ := Cond.exactly_spec (hs _ (st_m4b q hq))
  exact ⟨a, vk_R.of (hts0 _ (st_m4 q hq)) he⟩
theorem st_ar {args : Array Value} {s : State} {ty : FieldType} (hp : ∀ C, ty ≠ .object C) (h : (Cond.arrayClass ty).before args s = true) : ∃ cA : ClassId, ArrOfT s cA ty ∧ va_RA s cA ty := by
  obtain ⟨cA, kA, comp, h1, h2, h3⟩ := Cond.arrayClass_spec h
  refine ⟨cA, fun n z => ⟨(fun k h => by cases h), kA, h2, comp, h3⟩, ?_⟩
  cases ty with
  | object C => exact absurd rfl (hp C)
  | _ => exact h1
theorem st_ao {args : Array Value} {s : State} {C : String} (h : (Cond.arrayOver (.object C)).before args s = true) : ∃ cA : ClassId, ArrOfT s cA (.object C) ∧ va_RA s cA (.object C) := by
  obtain ⟨comp, cA, kA, h1, -, h3, h4, h2⟩ := Cond.arrayOver_spec h
  exact ⟨cA, fun n z => ⟨(fun k h => by cases h), kA, h3, comp, h4⟩, kA, comp, h3, h4, h1, h2⟩
set_option maxHeartbeats 4000000 in
set_option maxRecDepth 100000 in
theorem st_k {args : Array Value} {s : State} (hts0 : ∀ w ∈ lw_tbl, w.before args s = true) : ∃ (D : va_G) (ca : Nat → ClassId), va_K D vwCl (vt ca) s := by
  obtain ⟨c0, i0, k0⟩ := u_known (C := RX0) (T := TX0) (N := 4) (n := 4) hts0 inX0 (hts0 (.instantiable RX0 4) (by decide +kernel))
  obtain ⟨c1, i1, k1⟩ := u_known (C := RX1) (T := TX1) (N := 4) (n := 4) hts0 inX1 (hts0 (.instantiable RX1 4) (by decide +kernel))
  obtain ⟨c2, i2, k2⟩ := u_known (C := RX2) (T := TX2) (N := 5) (n := 5) hts0 inX2 (hts0 (.instantiable RX2 5) (by decide +kernel))
  obtain ⟨c3, i3, k3⟩ := u_known (C := RX3) (T := TX3) (N := 6) (n := 6) hts0 inX3 (hts0 (.instantiable RX3 6) (by decide +kernel))
  obtain ⟨c4, i4, k4⟩ := u_known (C := RX4) (T := TX4) (N := 7) (n := 7) hts0 inX4 (hts0 (.instantiable RX4 7) (by decide +kernel))
  obtain ⟨a0, b0⟩ := st_ar (ty := .int) (fun _ h => by cases h) (hts0 (.arrayClass .int) (by decide +kernel))
  obtain ⟨a1, b1⟩ := st_ar (ty := .byte) (fun _ h => by cases h) (hts0 (.arrayClass .byte) (by decide +kernel))
  obtain ⟨a2, b2⟩ := st_ar (ty := .boolean) (fun _ h => by cases h) (hts0 (.arrayClass .boolean) (by decide +kernel))
  obtain ⟨a4, b4⟩ := st_ao (C := RX2) (hts0 (.arrayOver (.object RX2)) (by decide +kernel))
  refine ⟨(fun k => [c0, c1, c2, c3, c4].getD k c0, fun k => [i0, i1, i2, i3, i4].getD k i0), fun k => [a0, a1, a2, a0, a4].getD k a0, ?_, ?_⟩
  · intro k q hq
    match k, hq with
    | 0, hq => cases hq; exact k0
    | 1, hq => cases hq; exact k1
    | 2, hq => cases hq; exact k2
    | 3, hq => cases hq; exact k3
    | 4, hq => cases hq; exact k4
    | k + 5, hq => simp [vwCl] at hq
  · intro k q hq
    match k, hq with
    | 0, hq => cases hq; exact b0
    | 1, hq => cases hq; exact b1
    | 2, hq => cases hq; exact b2
    | 3, hq => cases hq; exact b0
    | 4, hq => cases hq; exact b4
    | k + 5, hq => simp [vt] at hq
set_option maxHeartbeats 4000000 in
set_option maxRecDepth 100000 in
/-- the walk of the law's body, over what its functions answer -/
theorem whole_open {p : Program} {e : Env} {s : State} {m : MethodId} {below : List Frame} {meth : Method} {c : Code} (l : Launch) (hflags : l.flags = flags0) {b L : Nat} {xs : Nat → Int32} (C0 : lw_At p s m meth c b L xs) (hmath : ∃ τ8 τ0 : Tb, tt_emptyWith tb0 8 = some τ8 ∧ tt_emptyWith tb0 0 = some τ0 ∧ ∀ p o : Nat, p ≠ o → zz_law xs L (rr0 p o τ8 τ0, (fun _ => 0), (fun _ => 0), (fun _ => 0)) = some 1) : W p l e room_1 s m #[Value.ref b] below meth c s.heap [] 0 0 (lw_Z below #[Value.ref b] s) (entryFrame m ([Value.ref b] : List Value).toArray 11) := by
  obtain ⟨τ8, τ0, hf8, hf0, hmath⟩ := hmath
  obtain ⟨hx, hb, hr, hml, hown, hts0, hXs, hbl, hlocks, hgv⟩ := id C0
  have hN : NX s := st_nx hts0 hgv
  obtain ⟨D, ca, hK⟩ := st_k hts0
  have hA : ∀ q : Nat, s.heap.size ≤ q → (fun q : Nat => s.heap.size ≤ q) q := fun _ h => h
  have hbA : ¬ (fun q : Nat => s.heap.size ≤ q) b := Nat.not_le.mpr hbl
  have hts : ∀ w ∈ wsL_law, w.before #[Value.ref b] s = true := fun w h => hts0 w (wsL_law_in w h)
  have hS : va_S (fun q : Nat => s.heap.size ≤ q) s.heap s.heap [] := va_S.rf
  have hP : va_P D vwCl [] s.heap := fun k q h => by simp at h
  have hD : va_D (fun q : Nat => s.heap.size ≤ q) [] := ⟨fun i j p q h => by simp at h, fun k q h => by simp at h⟩
  have hl := lv_entry ([.ref b]) (n := 11) (Nat.le_of_ble_eq_true rfl)
  rw [lg_entry_eq]
  generalize (lg_sl ([.ref b]) ++ List.replicate (11 - (lg_sl ([.ref b])).length) Slot.unset).toArray = ls at hl ⊢
  have hl : lv_has ls 11 [(0, .ref b)] := hl
  refine va_new (ci := 4) (fs := [.null, .null, .null, .null, .null, .int 0, .int 0]) (C := RX4) (T := TX4) (N := 7) hx hb hts0 inX4 tyX4 tyX4_ok hown (hts0 (.classLink RL 15 RX4) (by decide +kernel)) (hts0 (.instantiable RX4 7) (by decide +kernel)) (hts0 (.initialized RX4) (by decide +kernel)) hK hP hD hS hA rfl (fun j hj => by rcases (show j = 0 ∨ j = 1 ∨ j = 2 ∨ j = 3 ∨ j = 4 ∨ j = 5 ∨ j = 6 by omega) with rfl | rfl | rfl | rfl | rfl | rfl | rfl <;> rfl) (Nat.le_of_ble_eq_true rfl) (Nat.le_of_ble_eq_true rfl) dL_law_0 (fun qx H hP hD hS => ?_)
  refine lv_dup hx hb dL_law_3 rfl ?_
  replace hP : va_P D vwCl (([] : va_W) ++ [(qx, .inr (4, [.null, .null, .null, .null, .null, .int 0, .int 0]))]) H := hP
  replace hD : va_D (fun q : Nat => s.heap.size ≤ q) (([] : va_W) ++ [(qx, .inr (4, [.null, .null, .null, .null, .null, .int 0, .int 0]))]) := hD
  refine call_n (As := []) (rest := [.ref qx]) ⟨hx, hb, hml, hown, hts⟩ (tX4_init l D ca qx _ τ8 τ0 hf8 hf0) (cwI 0 hts gL_law_X4_init rfl rfl rfl (hts0 (.initialized RX4) (by decide +kernel)) (hts0 (.methodLink RL 75 yX4_init) (by decide +kernel)) (hts0 (.instanceMethod yX4_init) (by decide +kernel)) rfl (by decide +kernel) ⟨Nat.le_of_ble_eq_true rfl, Nat.le_of_ble_eq_true rfl⟩) hN hK hP hD hA hS (fun _ => fr_last (([] : va_W)) _ _) rfl hl.1 rfl (lv_room (Nat.le_of_ble_eq_true rfl)) dL_law_4 ⟨Nat.le_of_ble_eq_true rfl, Nat.le_of_ble_eq_true rfl⟩ ⟨(fun i => i, fun i j => i, 0, 0)⟩ (fun x1 H locs hP hD hS => ?_)
  obtain ⟨B9, ar, tp, to⟩ := x1
  obtain ⟨B, hBe⟩ : ∃ B, atH qx B9 = B := ⟨_, rfl⟩
  refine W.widen (k := 20) (n := 2611) (Nat.le_of_ble_eq_true rfl) (Nat.le_of_ble_eq_true rfl) ?_
  replace hP : va_P D vwCl (wRR ca B ar (rr0 tp to τ8 τ0)) H := by rw [← hBe]; exact hP
  replace hD : va_D (fun q : Nat => s.heap.size ≤ q) (wRR ca B ar (rr0 tp to τ8 τ0)) := by rw [← hBe]; exact hD
  rw [show qx = B 0 by rw [← hBe]; rfl]
  refine lv_astore_n (lv' := [(1, .ref (B 0)), (0, .ref b)]) hx hb dL_law_7 rfl hl (by decide) rfl (fun ls hl => ?_)
  refine lv_bipush (v := 64) hx hb dL_law_8 (by decide) ?_
  refine va_newa (atype := .int) (ty := .int) (a0 := (64, .inl (fun _ => 0))) hx hb (hts0 (.arrayClass .int) (by decide +kernel)) rfl hK hP hD hS hA (fun _ => rfl) (by decide) (N' := 64) rfl (Nat.le_of_ble_eq_true rfl) (Nat.le_of_ble_eq_true rfl) (Nat.le_of_ble_eq_true rfl) dL_law_10 (fun e0 cA H hK9 hP hD hS => ?_)
  obtain rfl : cA = ca 0 := ca_same hK9 (k := 0) rfl
  clear hK9
  refine W.widen (k := 21) (n := 2675) (Nat.le_of_ble_eq_true rfl) (Nat.le_of_ble_eq_true rfl) ?_
  refine lv_astore_n (lv' := [(2, .ref e0), (1, .ref (B 0)), (0, .ref b)]) hx hb dL_law_12 rfl hl (by decide) rfl (fun ls hl => ?_)
  refine lv_bipush (v := 64) hx hb dL_law_13 (by decide) ?_
  refine va_newa (atype := .int) (ty := .int) (a0 := (64, .inl (fun _ => 0))) hx hb (hts0 (.arrayClass .int) (by decide +kernel)) rfl hK hP hD hS hA (fun _ => rfl) (by decide) (N' := 64) rfl (Nat.le_of_ble_eq_true rfl) (Nat.le_of_ble_eq_true rfl) (Nat.le_of_ble_eq_true rfl) dL_law_15 (fun e1 cA H hK9 hP hD hS => ?_)
  obtain rfl : cA = ca 0 := ca_same hK9 (k := 0) rfl
  clear hK9
  refine W.widen (k := 22) (n := 2739) (Nat.le_of_ble_eq_true rfl) (Nat.le_of_ble_eq_true rfl) ?_
  refine lv_astore_n (lv' := [(3, .ref e1), (2, .ref e0), (1, .ref (B 0)), (0, .ref b)]) hx hb dL_law_17 rfl hl (by decide) rfl (fun ls hl => ?_)
  refine lv_iconst (v := 1) hx hb dL_law_18 (by decide) ?_
  refine va_newa (atype := .int) (ty := .int) (a0 := (1, .inl (fun _ => 0))) hx hb (hts0 (.arrayClass .int) (by decide +kernel)) rfl hK hP hD hS hA (fun _ => rfl) (by decide) (N' := 1) rfl (Nat.le_of_ble_eq_true rfl) (Nat.le_of_ble_eq_true rfl) (Nat.le_of_ble_eq_true rfl) dL_law_19 (fun e2 cA H hK9 hP hD hS => ?_)
  obtain rfl : cA = ca 0 := ca_same hK9 (k := 0) rfl
  clear hK9
  refine W.widen (k := 23) (n := 2740) (Nat.le_of_ble_eq_true rfl) (Nat.le_of_ble_eq_true rfl) ?_
  refine lv_astore (lv' := [(4, .ref e2), (3, .ref e1), (2, .ref e0), (1, .ref (B 0)), (0, .ref b)]) hx hb dL_law_21 hl (by decide) rfl (fun ls hl => ?_)
  have hne : tp ≠ to := fun z => absurd (hD.1 10 15 _ _ rfl rfl z) (by decide)
  obtain ⟨E, hE0, hE1, hE2⟩ : ∃ E : Nat → Nat, E 0 = e0 ∧ E 1 = e1 ∧ E 2 = e2 := ⟨fun i => if i = 0 then e0 else if i = 1 then e1 else e2, rfl, rfl, rfl⟩
  subst hE0
  subst hE1
  subst hE2
  have hP : va_P D vwCl (wH ca B ar E (rr0 tp to τ8 τ0, (fun _ => 0), (fun _ => 0), (fun _ => 0))) H := hP.sub [0, 1, 2, 3, 4, 5, 6, 7, 8, 9, 10, 11, 12, 13, 14, 15, 16, 17, 18, 19, 20, 21, 22] rfl
  have hD : va_D (fun q : Nat => s.heap.size ≤ q) (wH ca B ar E (rr0 tp to τ8 τ0, (fun _ => 0), (fun _ => 0), (fun _ => 0))) := hD.sub [0, 1, 2, 3, 4, 5, 6, 7, 8, 9, 10, 11, 12, 13, 14, 15, 16, 17, 18, 19, 20, 21, 22] (by decide) rfl
  exact law_main C0 hN hbA hA (fun _ h => h) hK (by omega) (by omega) _ _ _ _ (hmath tp to hne) hP hD hS hl
