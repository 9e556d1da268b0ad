def rr_size  (σ : RR)  : Option Int32 :=
  some ((tb_ct (rr_P σ)) + (tb_ct (rr_O σ)))
set_option maxHeartbeats 4000000 in
set_option maxRecDepth 100000 in
theorem tX4_size (l : Launch) (D : va_G) (ca : Nat → ClassId) (B : Nat → Nat) (ar : Nat → Nat → Nat) (sz : Nat)  (σ : RR)  (r : Int32) (hf : rr_size σ = some r) : Ci l D ca yX4_size wsX4_size { frames := 0, cells := 0, slots := 0, locals := 0 } [.ref (B 0)] (wRR ca B ar σ) sz r (wRR ca B ar σ) := by
  refine body_of (cc := cX4_size) (maxL := 1) (ret := (some .int)) (fun A => Qi D ca r (wRR ca B ar σ) A) (by decide) rfl (Nat.le_of_ble_eq_true rfl) ?_
  intro p e s m below meth c A ls hx hb hr hml hts hown hlocks hA hK hP hD hS hl hN
  have hl : lv_has ls 1 [(0, .ref (B 0))] := hl
  have hret : ∀ (pc : Nat) (ls : Array Slot) (H : Heap) (locs : List Loc), decode cX4_size pc = .ok (.ireturn, 1) → va_P D vwCl (wRR ca B ar σ) H → va_D A (wRR ca B ar σ) → va_S A s.heap H locs → W p l e { frames := 0, cells := 0, slots := 0, locals := 0 } s m ([.ref (B 0)] : List Value).toArray below meth c H locs 0 0 (MQ below (Qi D ca r (wRR ca B ar σ) A) ([.ref (B 0)] : List Value).toArray s 0 0 A) (F0 m pc ls [.int r]) := fun pc ls H locs hd hP hD hS => ret_i hx hb hr hlocks hK hP hD hS hd
  generalize MQ below (Qi D ca r (wRR ca B ar σ) A) ([.ref (B 0)] : List Value).toArray s 0 0 A = Q at hret ⊢
  generalize ([.ref (B 0)] : List Value).toArray = args at hts hret ⊢
  have f110 : (Cond.fieldLinkNest RX4 110 "RobinRow$Table" "count" "I" RX4).before args s = true := va_Nw.use rfl (hN.1 (RX4, 110, "RobinRow$Table", "count", "I") (by decide +kernel))
  have f34 := hts (.fieldLink RX4 34 "RobinRow" "present" "LRobinRow$Table;") (by decide +kernel)
  have f38 := hts (.fieldLink RX4 38 "RobinRow" "old" "LRobinRow$Table;") (by decide +kernel)
  have in3 : ∀ w ∈ u_ws RX3 TX3 6, w ∈ wsX4_size := by decide +kernel
  have in4 : ∀ w ∈ u_ws RX4 TX4 7, w ∈ wsX4_size := by decide +kernel
  unfold rr_size at hf
  refine lv_aload_n hx hb dX4_size_0 rfl (lv_at hl 0 rfl) ?_
  refine va_get (D := D) (ci := 4) (v := .ref (rr_ap σ)) (C := RX4) (T := TX4) (N := 7) hx hb hts in4 hown hK hP 0 rfl rfl 3 (by decide) f34 (fun _ h9 => h9) rfl dX4_size_1 ?_
  refine va_getN (D := D) (ci := 3) (v := .int (tb_ct (rr_P σ))) (C := RX3) (T := TX3) (N := 6) hx hb hts in3 hown hK hP 10 rfl rfl 5 (by decide) f110 (fun _ h9 => h9) rfl dX4_size_4 ?_
  refine lv_aload_n hx hb dX4_size_7 rfl (lv_at hl 0 rfl) ?_
  refine va_get (D := D) (ci := 4) (v := .ref (rr_ao σ)) (C := RX4) (T := TX4) (N := 7) hx hb hts in4 hown hK hP 0 rfl rfl 4 (by decide) f38 (fun _ h9 => h9) rfl dX4_size_8 ?_
  refine va_getN (D := D) (ci := 3) (v := .int (tb_ct (rr_O σ))) (C := RX3) (T := TX3) (N := 6) hx hb hts in3 hown hK hP 15 rfl rfl 5 (by decide) f110 (fun _ h9 => h9) rfl dX4_size_11 ?_
  refine lv_iadd hx hb dX4_size_14 ?_
  obtain rfl := so1 hf
  exact hret _ _ _ _ dX4_size_15 hP hD hS

def rr_hash  (σ : RR) (a0 : Int32) : Option Int32 :=
  if (rr_way σ) = 0 then
    some a0
  else
    nm (a0 * (-1640531535)) fun v2 =>
    some (v2 ^^^ (ushr v2 15))
set_option maxHeartbeats 4000000 in
set_option maxRecDepth 100000 in
theorem tX4_hash (l : Launch) (D : va_G) (ca : Nat → ClassId) (B : Nat → Nat) (ar : Nat → Nat → Nat) (sz : Nat)  (σ : RR) (a0 : Int32) (r : Int32) (hf : rr_hash σ a0 = some r) : Ci l D ca yX4_hash wsX4_hash { frames := 0, cells := 0, slots := 0, locals := 0 } [.ref (B 0), .int a0] (wRR ca B ar σ) sz r (wRR ca B ar σ) := by
  refine body_of (cc := cX4_hash) (maxL := 3) (ret := (some .int)) (fun A => Qi D ca r (wRR ca B ar σ) A) (by decide) rfl (Nat.le_of_ble_eq_true rfl) ?_
  intro p e s m below meth c A ls hx hb hr hml hts hown hlocks hA hK hP hD hS hl hN
  have hl : lv_has ls 3 [(0, .ref (B 0)), (1, .int a0)] := hl
  have hret : ∀ (pc : Nat) (ls : Array Slot) (H : Heap) (locs : List Loc), decode cX4_hash pc = .ok (.ireturn, 1) → va_P D vwCl (wRR ca B ar σ) H → va_D A (wRR ca B ar σ) → va_S A s.heap H locs → W p l e { frames := 0, cells := 0, slots := 0, locals := 0 } s m ([.ref (B 0), .int a0] : List Value).toArray below meth c H locs 0 0 (MQ below (Qi D ca r (wRR ca B ar σ) A) ([.ref (B 0), .int a0] : List Value).toArray s 0 0 A) (F0 m pc ls [.int r]) := fun pc ls H locs hd hP hD hS => ret_i hx hb hr hlocks hK hP hD hS hd
  generalize MQ below (Qi D ca r (wRR ca B ar σ) A) ([.ref (B 0), .int a0] : List Value).toArray s 0 0 A = Q at hret ⊢
  generalize ([.ref (B 0), .int a0] : List Value).toArray = args at hts hret ⊢
  have f42 := hts (.fieldLink RX4 42 "RobinRow" "way" "I") (by decide +kernel)
  have in4 : ∀ w ∈ u_ws RX4 TX4 7, w ∈ wsX4_hash := by decide +kernel
  unfold rr_hash at hf
  refine lv_aload_n hx hb dX4_hash_0 rfl (lv_at hl 0 rfl) ?_
  refine va_get (D := D) (ci := 4) (v := .int (rr_way σ)) (C := RX4) (T := TX4) (N := 7) hx hb hts in4 hown hK hP 0 rfl rfl 5 (by decide) f42 (fun _ h9 => h9) rfl dX4_hash_1 ?_
  refine lv_if_ne (tgt := 9) hx hb dX4_hash_4 (by decide) (fun c1 => ?_) (fun c1 => ?_)
  · replace hf := it_n c1 hf
    refine lv_iload_n hx hb dX4_hash_9 rfl (lv_at hl 1 rfl) ?_
    refine lv_ldc (v := (-1640531535)) hx hb hown (hts (.constant RX4 163 (-1640531535)) (by decide +kernel)) dX4_hash_10 ?_
    refine lv_imul hx hb dX4_hash_12 ?_
    obtain ⟨v2, ev2, hf⟩ := nm_ob hf
    refine tp_i ev2 ?_
    refine lv_istore_n (lv' := [(2, .int v2), (0, .ref (B 0)), (1, .int a0)]) hx hb dX4_hash_13 rfl hl (by decide) rfl (fun ls hl => ?_)
    refine lv_iload_n hx hb dX4_hash_14 rfl (lv_at hl 0 rfl) ?_
    refine lv_iload_n hx hb dX4_hash_15 rfl (lv_at hl 0 rfl) ?_
    refine lv_bipush (v := 15) hx hb dX4_hash_16 (by decide) ?_
    refine lv_iushr (v := (ushr v2 15)) hx hb dX4_hash_18 rfl ?_
    refine lv_ixor hx hb dX4_hash_19 ?_
    obtain rfl := so1 hf
    exact hret _ _ _ _ dX4_hash_20 hP hD hS
  · replace hf := it_p c1 hf
    refine lv_iload_n hx hb dX4_hash_7 rfl (lv_at hl 1 rfl) ?_
    obtain rfl := so1 hf
    exact hret _ _ _ _ dX4_hash_8 hP hD hS

def rr_lookUp  (σ : RR) (a0 : Int32) : Option RR :=
  bd (rr_hash σ a0) fun v1 =>
  bd (ss_begin (rr_se σ)) fun s3 =>
  nm (rr_se' σ s3) fun s4 =>
  bd (ss_lookIn (rr_ap s4) (rr_P s4) (rr_se s4) a0 v1) fun s6 =>
  nm (rr_se' s4 s6) fun s7 =>
  bd (ss_hasFound (rr_se s7)) fun v8 =>
  if v8 = 0 then
    bd (ss_lookIn (rr_ao s7) (rr_O s7) (rr_se s7) a0 v1) fun s11 =>
    nm (rr_se' s7 s11) fun s12 =>
    some s12
  else
    some s7
set_option maxHeartbeats 4000000 in
set_option maxRecDepth 100000 in
theorem tX4_lookUp (l : Launch) (D : va_G) (ca : Nat → ClassId) (B : Nat → Nat) (ar : Nat → Nat → Nat) (sz : Nat)  (σ : RR) (a0 : Int32) (σ9 : RR) (hf : rr_lookUp σ a0 = some σ9) : Cv l D ca yX4_lookUp wsX4_lookUp { frames := 3, cells := 0, slots := 0, locals := 74 } [.ref (B 0), .int a0] (wRR ca B ar σ) sz (wRR ca B ar σ9) := by
  refine body_of (cc := cX4_lookUp) (maxL := 3) (ret := none) (fun A => Qv D ca (wRR ca B ar σ9) A) (by decide) rfl (Nat.le_of_ble_eq_true rfl) ?_
  intro p e s m below meth c A ls hx hb hr hml hts hown hlocks hA hK hP hD hS hl hN
  have hl : lv_has ls 3 [(0, .ref (B 0)), (1, .int a0)] := hl
  have hret : ∀ (pc : Nat) (ls : Array Slot) (H : Heap) (locs : List Loc), decode cX4_lookUp pc = .ok (.return_, 1) → va_P D vwCl (wRR ca B ar σ9) H → va_D A (wRR ca B ar σ9) → va_S A s.heap H locs → W p l e { frames := 3, cells := 0, slots := 0, locals := 74 } s m ([.ref (B 0), .int a0] : List Value).toArray below meth c H locs 0 0 (MQ below (Qv D ca (wRR ca B ar σ9) A) ([.ref (B 0), .int a0] : List Value).toArray s 0 0 A) (F0 m pc ls []) := fun pc ls H locs hd hP hD hS => ret_v hx hb hr hlocks hK hP hD hS hd
  generalize MQ below (Qv D ca (wRR ca B ar σ9) A) ([.ref (B 0), .int a0] : List Value).toArray s 0 0 A = Q at hret ⊢
  generalize ([.ref (B 0), .int a0] : List Value).toArray = args at hts hret ⊢
  have f18 := hts (.fieldLink RX4 18 "RobinRow" "search" "LRobinRow$Search;") (by decide +kernel)
  have f34 := hts (.fieldLink RX4 34 "RobinRow" "present" "LRobinRow$Table;") (by decide +kernel)
  have f38 := hts (.fieldLink RX4 38 "RobinRow" "old" "LRobinRow$Table;") (by decide +kernel)
  have in4 : ∀ w ∈ u_ws RX4 TX4 7, w ∈ wsX4_lookUp := by decide +kernel
  unfold rr_lookUp at hf
  refine lv_aload_n hx hb dX4_lookUp_0 rfl (lv_at hl 0 rfl) ?_
  refine lv_iload_n hx hb dX4_lookUp_1 rfl (lv_at hl 1 rfl) ?_
  obtain ⟨v1, ev1, hf⟩ := bd_ob hf
  refine call_i (As := [.int a0]) (rest := []) ⟨hx, hb, hml, hown, hts⟩ (tX4_hash l D ca B ar _ σ a0 v1 ev1) (cwV 1 hts gX4_lookUp_X4_hash rfl rfl rfl (by decide +kernel) ⟨Nat.le_of_ble_eq_true rfl, Nat.le_of_ble_eq_true rfl⟩) hN hK hP hD hA hS (fr_id _ _) rfl rfl rfl hl.1 rfl (lv_room (Nat.le_of_ble_eq_true rfl)) dX4_lookUp_2 ⟨Nat.le_refl _, Nat.le_refl _⟩ (fun H locs hP hD hS => ?_)
  refine lv_istore_n (lv' := [(2, .int v1), (0, .ref (B 0)), (1, .int a0)]) hx hb dX4_lookUp_5 rfl hl (by decide) rfl (fun ls hl => ?_)
  refine lv_aload_n hx hb dX4_lookUp_6 rfl (lv_at hl 1 rfl) ?_
  refine va_get (D := D) (ci := 4) (v := .ref (B 6)) (C := RX4) (T := TX4) (N := 7) hx hb hts in4 hown hK hP 0 rfl rfl 1 (by decide) f18 (fun _ h9 => h9) rfl dX4_lookUp_7 ?_
  obtain ⟨s3, es3, hf⟩ := bd_ob hf
  refine call_v (As := []) (rest := []) ⟨hx, hb, hml, hown, hts⟩ (tX1_begin l D ca (B 6) _ (rr_se σ) s3 es3) (cwV 0 hts gX4_lookUp_X1_begin rfl rfl rfl (by decide +kernel) ⟨Nat.le_of_ble_eq_true rfl, Nat.le_of_ble_eq_true rfl⟩) hN hK hP hD hA hS (fr_RS ca B ar σ s3) rfl rfl rfl hl.1 rfl (lv_room (Nat.le_of_ble_eq_true rfl)) dX4_lookUp_10 ⟨Nat.le_refl _, Nat.le_refl _⟩ (fun H locs hP hD hS => ?_)
  obtain ⟨s4, es4, hf⟩ := nm_ob hf
  have hP : va_P D vwCl (wRR ca B ar s4) H := by rw [← es4]; exact hP
  have hD : va_D A (wRR ca B ar s4) := by rw [← es4]; exact hD
  refine lv_aload_n hx hb dX4_lookUp_13 rfl (lv_at hl 1 rfl) ?_
  refine va_get (D := D) (ci := 4) (v := .ref (B 6)) (C := RX4) (T := TX4) (N := 7) hx hb hts in4 hown hK hP 0 rfl rfl 1 (by decide) f18 (fun _ h9 => h9) rfl dX4_lookUp_14 ?_
  refine lv_aload_n hx hb dX4_lookUp_17 rfl (lv_at hl 1 rfl) ?_
  refine va_get (D := D) (ci := 4) (v := .ref (rr_ap s4)) (C := RX4) (T := TX4) (N := 7) hx hb hts in4 hown hK hP 0 rfl rfl 3 (by decide) f34 (fun _ h9 => h9) rfl dX4_lookUp_18 ?_
  refine lv_iload_n hx hb dX4_lookUp_21 rfl (lv_at hl 2 rfl) ?_
  refine lv_iload_n hx hb dX4_lookUp_22 rfl (lv_at hl 0 rfl) ?_
  obtain ⟨s6, es6, hf⟩ := bd_ob hf
  refine call_v (As := [.ref (rr_ap s4), .int a0, .int v1]) (rest := []) ⟨hx, hb, hml, hown, hts⟩ (tX1_lookIn l D ca (B 6) (ar (rr_ap s4)) _ (rr_ap s4) (rr_P s4) (rr_se s4) a0 v1 s6 es6) (cwV 3 hts gX4_lookUp_X1_lookIn rfl rfl rfl (by decide +kernel) ⟨Nat.le_of_ble_eq_true rfl, Nat.le_of_ble_eq_true rfl⟩) hN hK hP hD hA hS (fr_RLP ca B ar s4 s6) rfl rfl rfl hl.1 rfl (lv_room (Nat.le_of_ble_eq_true rfl)) dX4_lookUp_23 ⟨Nat.le_refl _, Nat.le_refl _⟩ (fun H locs hP hD hS => ?_)
  obtain ⟨s7, es7, hf⟩ := nm_ob hf
  have hP : va_P D vwCl (wRR ca B ar s7) H := by rw [← es7]; exact hP
  have hD : va_D A (wRR ca B ar s7) := by rw [← es7]; exact hD
  refine lv_aload_n hx hb dX4_lookUp_26 rfl (lv_at hl 1 rfl) ?_
  refine va_get (D := D) (ci := 4) (v := .ref (B 6)) (C := RX4) (T := TX4) (N := 7) hx hb hts in4 hown hK hP 0 rfl rfl 1 (by decide) f18 (fun _ h9 => h9) rfl dX4_lookUp_27 ?_
  obtain ⟨v8, ev8, hf⟩ := bd_ob hf
  refine call_i (As := []) (rest := []) ⟨hx, hb, hml, hown, hts⟩ (tX1_hasFound l D ca (B 6) _ (rr_se s7) v8 ev8) (cwV 0 hts gX4_lookUp_X1_hasFound rfl rfl rfl (by decide +kernel) ⟨Nat.le_of_ble_eq_true rfl, Nat.le_of_ble_eq_true rfl⟩) hN hK hP hD hA hS (fr_RSp ca B ar s7) rfl rfl rfl hl.1 rfl (lv_room (Nat.le_of_ble_eq_true rfl)) dX4_lookUp_30 ⟨Nat.le_refl _, Nat.le_refl _⟩ (fun H locs hP hD hS => ?_)
  refine lv_if_ne (tgt := 49) hx hb dX4_lookUp_33 (by decide) (fun c9 => ?_) (fun c9 => ?_)
  · replace hf := it_n c9 hf
    obtain rfl := so1 hf
    exact hret _ _ _ _ dX4_lookUp_49 hP hD hS
  · replace hf := it_p c9 hf
    refine lv_aload_n hx hb dX4_lookUp_36 rfl (lv_at hl 1 rfl) ?_
    refine va_get (D := D) (ci := 4) (v := .ref (B 6)) (C := RX4) (T := TX4) (N := 7) hx hb hts in4 hown hK hP 0 rfl rfl 1 (by decide) f18 (fun _ h9 => h9) rfl dX4_lookUp_37 ?_
    refine lv_aload_n hx hb dX4_lookUp_40 rfl (lv_at hl 1 rfl) ?_
    refine va_get (D := D) (ci := 4) (v := .ref (rr_ao s7)) (C := RX4) (T := TX4) (N := 7) hx hb hts in4 hown hK hP 0 rfl rfl 4 (by decide) f38 (fun _ h9 => h9) rfl dX4_lookUp_41 ?_
    refine lv_iload_n hx hb dX4_lookUp_44 rfl (lv_at hl 2 rfl) ?_
    refine lv_iload_n hx hb dX4_lookUp_45 rfl (lv_at hl 0 rfl) ?_
    obtain ⟨s11, es11, hf⟩ := bd_ob hf
    refine call_v (As := [.ref (rr_ao s7), .int a0, .int v1]) (rest := []) ⟨hx, hb, hml, hown, hts⟩ (tX1_lookIn l D ca (B 6) (ar (rr_ao s7)) _ (rr_ao s7) (rr_O s7) (rr_se s7) a0 v1 s11 es11) (cwV 3 hts gX4_lookUp_X1_lookIn rfl rfl rfl (by decide +kernel) ⟨Nat.le_of_ble_eq_true rfl, Nat.le_of_ble_eq_true rfl⟩) hN hK hP hD hA hS (fr_RLO ca B ar s7 s11) rfl rfl rfl hl.1 rfl (lv_room (Nat.le_of_ble_eq_true rfl)) dX4_lookUp_46 ⟨Nat.le_refl _, Nat.le_refl _⟩ (fun H locs hP hD hS => ?_)
    obtain ⟨s12, es12, hf⟩ := nm_ob hf
    have hP : va_P D vwCl (wRR ca B ar s12) H := by rw [← es12]; exact hP
    have hD : va_D A (wRR ca B ar s12) := by rw [← es12]; exact hD
    obtain rfl := so1 hf
    exact hret _ _ _ _ dX4_lookUp_49 hP hD hS

def rr_get  (σ : RR) (a0 : Int32) : Option (Int32 × RR) :=
  bd (rr_lookUp σ a0) fun s2 =>
  bd (ss_hasFound (rr_se s2)) fun v3 =>
  if v3 = 0 then
    some ((-1), s2)
  else
    dsp (se_tb (rr_se s2)) (rr_ap s2) (rr_ao s2) (
      bd (tt_valueIn (rr_P s2) (se_slot (rr_se s2))) fun v6 =>
      some (v6, s2)) (
      bd (tt_valueIn (rr_O s2) (se_slot (rr_se s2))) fun v7 =>
      some (v7, s2))
set_option maxHeartbeats 4000000 in
set_option maxRecDepth 100000 in
theorem tX4_get (l : Launch) (D : va_G) (ca : Nat → ClassId) (B : Nat → Nat) (ar : Nat → Nat → Nat) (sz : Nat)  (σ : RR) (a0 : Int32) (r : Int32) (σ9 : RR) (hf : rr_get σ a0 = some (r, σ9)) : Ci l D ca yX4_get wsX4_get { frames := 4, cells := 0, slots := 0, locals := 96 } [.ref (B 0), .int a0] (wRR ca B ar σ) sz r (wRR ca B ar σ9) := by
  refine body_of (cc := cX4_get) (maxL := 2) (ret := (some .int)) (fun A => Qi D ca r (wRR ca B ar σ9) A) (by decide) rfl (Nat.le_of_ble_eq_true rfl) ?_
  intro p e s m below meth c A ls hx hb hr hml hts hown hlocks hA hK hP hD hS hl hN
  have hl : lv_has ls 2 [(0, .ref (B 0)), (1, .int a0)] := hl
  have hret : ∀ (pc : Nat) (ls : Array Slot) (H : Heap) (locs : List Loc), decode cX4_get pc = .ok (.ireturn, 1) → va_P D vwCl (wRR ca B ar σ9) H → va_D A (wRR ca B ar σ9) → va_S A s.heap H locs → W p l e { frames := 4, cells := 0, slots := 0, locals := 96 } s m ([.ref (B 0), .int a0] : List Value).toArray below meth c H locs 0 0 (MQ below (Qi D ca r (wRR ca B ar σ9) A) ([.ref (B 0), .int a0] : List Value).toArray s 0 0 A) (F0 m pc ls [.int r]) := fun pc ls H locs hd hP hD hS => ret_i hx hb hr hlocks hK hP hD hS hd
  generalize MQ below (Qi D ca r (wRR ca B ar σ9) A) ([.ref (B 0), .int a0] : List Value).toArray s 0 0 A = Q at hret ⊢
  generalize ([.ref (B 0), .int a0] : List Value).toArray = args at hts hret ⊢
  have f18 := hts (.fieldLink RX4 18 "RobinRow" "search" "LRobinRow$Search;") (by decide +kernel)
  have f87 : (Cond.fieldLinkNest RX4 87 "RobinRow$Search" "table" "LRobinRow$Table;" RX4).before args s = true := va_Nw.use rfl (hN.1 (RX4, 87, "RobinRow$Search", "table", "LRobinRow$Table;") (by decide +kernel))
  have f90 : (Cond.fieldLinkNest RX4 90 "RobinRow$Search" "slot" "I" RX4).before args s = true := va_Nw.use rfl (hN.1 (RX4, 90, "RobinRow$Search", "slot", "I") (by decide +kernel))
  have in1 : ∀ w ∈ u_ws RX1 TX1 4, w ∈ wsX4_get := by decide +kernel
  have in4 : ∀ w ∈ u_ws RX4 TX4 7, w ∈ wsX4_get := by decide +kernel
  unfold rr_get at hf
  refine lv_aload_n hx hb dX4_get_0 rfl (lv_at hl 0 rfl) ?_
  refine lv_iload_n hx hb dX4_get_1 rfl (lv_at hl 1 rfl) ?_
  obtain ⟨s2, es2, hf⟩ := bd_ob hf
  refine call_v (As := [.int a0]) (rest := []) ⟨hx, hb, hml, hown, hts⟩ (tX4_lookUp l D ca B ar _ σ a0 s2 es2) (cwV 1 hts gX4_get_X4_lookUp rfl rfl rfl (by decide +kernel) ⟨Nat.le_of_ble_eq_true rfl, Nat.le_of_ble_eq_true rfl⟩) hN hK hP hD hA hS (fr_id _ _) rfl rfl rfl hl.1 rfl (lv_room (Nat.le_of_ble_eq_true rfl)) dX4_get_2 ⟨Nat.le_refl _, Nat.le_refl _⟩ (fun H locs hP hD hS => ?_)
  refine lv_aload_n hx hb dX4_get_5 rfl (lv_at hl 0 rfl) ?_
  refine va_get (D := D) (ci := 4) (v := .ref (B 6)) (C := RX4) (T := TX4) (N := 7) hx hb hts in4 hown hK hP 0 rfl rfl 1 (by decide) f18 (fun _ h9 => h9) rfl dX4_get_6 ?_
  obtain ⟨v3, ev3, hf⟩ := bd_ob hf
  refine call_i (As := []) (rest := []) ⟨hx, hb, hml, hown, hts⟩ (tX1_hasFound l D ca (B 6) _ (rr_se s2) v3 ev3) (cwV 0 hts gX4_get_X1_hasFound rfl rfl rfl (by decide +kernel) ⟨Nat.le_of_ble_eq_true rfl, Nat.le_of_ble_eq_true rfl⟩) hN hK hP hD hA hS (fr_RSp ca B ar s2) rfl rfl rfl hl.1 rfl (lv_room (Nat.le_of_ble_eq_true rfl)) dX4_get_9 ⟨Nat.le_refl _, Nat.le_refl _⟩ (fun H locs hP hD hS => ?_)
  refine lv_if_eq (tgt := 35) hx hb dX4_get_12 (by decide) (fun c4 => ?_) (fun c4 => ?_)
  · replace hf := it_p c4 hf
    refine lv_iconst (v := (-1)) hx hb dX4_get_35 (by decide) ?_
    obtain ⟨rfl, rfl⟩ := so2 hf
    exact hret _ _ _ _ dX4_get_36 hP hD hS
  · replace hf := it_n c4 hf
    refine lv_aload_n hx hb dX4_get_15 rfl (lv_at hl 0 rfl) ?_
    refine va_get (D := D) (ci := 4) (v := .ref (B 6)) (C := RX4) (T := TX4) (N := 7) hx hb hts in4 hown hK hP 0 rfl rfl 1 (by decide) f18 (fun _ h9 => h9) rfl dX4_get_16 ?_
    refine va_getN (D := D) (ci := 1) (v := va_rf (se_tb (rr_se s2))) (C := RX1) (T := TX1) (N := 4) hx hb hts in1 hown hK hP 6 rfl rfl 0 (by decide) f87 (fun _ h9 => h9) rfl dX4_get_19 ?_
    refine lv_aload_n hx hb dX4_get_22 rfl (lv_at hl 0 rfl) ?_
    refine va_get (D := D) (ci := 4) (v := .ref (B 6)) (C := RX4) (T := TX4) (N := 7) hx hb hts in4 hown hK hP 0 rfl rfl 1 (by decide) f18 (fun _ h9 => h9) rfl dX4_get_23 ?_
    refine va_getN (D := D) (ci := 1) (v := .int (se_slot (rr_se s2))) (C := RX1) (T := TX1) (N := 4) hx hb hts in1 hown hK hP 6 rfl rfl 1 (by decide) f90 (fun _ h9 => h9) rfl dX4_get_26 ?_
    rcases dsp_ob hf with ⟨c5, hf⟩ | ⟨c5, hf⟩
    · refine W.eq (g2 := F0 m 29 ls [.int (se_slot (rr_se s2)), .ref (rr_ap s2)]) (by rw [c5]; rfl) ?_
      obtain ⟨v6, ev6, hf⟩ := bd_ob hf
      refine call_i (As := [.int (se_slot (rr_se s2))]) (rest := []) ⟨hx, hb, hml, hown, hts⟩ (tX3_valueIn l D ca (rr_ap s2) (ar (rr_ap s2)) _ (rr_P s2) (se_slot (rr_se s2)) v6 ev6) (cwV 1 hts gX4_get_X3_valueIn rfl rfl rfl (by decide +kernel) ⟨Nat.le_of_ble_eq_true rfl, Nat.le_of_ble_eq_true rfl⟩) hN hK hP hD hA hS (fr_RPp ca B ar s2) rfl rfl rfl hl.1 rfl (lv_room (Nat.le_of_ble_eq_true rfl)) dX4_get_29 ⟨Nat.le_refl _, Nat.le_refl _⟩ (fun H locs hP hD hS => ?_)
      refine lv_goto (tgt := 36) hx hb dX4_get_32 (by decide) ?_
      obtain ⟨rfl, rfl⟩ := so2 hf
      exact hret _ _ _ _ dX4_get_36 hP hD hS
    · refine W.eq (g2 := F0 m 29 ls [.int (se_slot (rr_se s2)), .ref (rr_ao s2)]) (by rw [c5]; rfl) ?_
      obtain ⟨v7, ev7, hf⟩ := bd_ob hf
      refine call_i (As := [.int (se_slot (rr_se s2))]) (rest := []) ⟨hx, hb, hml, hown, hts⟩ (tX3_valueIn l D ca (rr_ao s2) (ar (rr_ao s2)) _ (rr_O s2) (se_slot (rr_se s2)) v7 ev7) (cwV 1 hts gX4_get_X3_valueIn rfl rfl rfl (by decide +kernel) ⟨Nat.le_of_ble_eq_true rfl, Nat.le_of_ble_eq_true rfl⟩) hN hK hP hD hA hS (fr_ROp ca B ar s2) rfl rfl rfl hl.1 rfl (lv_room (Nat.le_of_ble_eq_true rfl)) dX4_get_29 ⟨Nat.le_refl _, Nat.le_refl _⟩ (fun H locs hP hD hS => ?_)
      refine lv_goto (tgt := 36) hx hb dX4_get_32 (by decide) ?_
      obtain ⟨rfl, rfl⟩ := so2 hf
      exact hret _ _ _ _ dX4_get_36 hP hD hS

def rr_endMoveIfOldIsEmpty  (σ : RR)  : Option RR :=
  if (tb_ct (rr_O σ)) = 0 then
    bd (tt_emptyWith (rr_O σ) 0) fun s3 =>
    nm (rr_O' σ s3) fun s4 =>
    some s4
  else
    some σ
set_option maxHeartbeats 4000000 in
set_option maxRecDepth 100000 in
theorem tX4_endMoveIfOldIsEmpty (l : Launch) (D : va_G) (ca : Nat → ClassId) (B : Nat → Nat) (ar : Nat → Nat → Nat) (sz : Nat)  (σ : RR)  (σ9 : RR) (hf : rr_endMoveIfOldIsEmpty σ = some σ9) : Cv l D ca yX4_endMoveIfOldIsEmpty wsX4_endMoveIfOldIsEmpty { frames := 2, cells := 0, slots := 0, locals := 43 } [.ref (B 0)] (wRR ca B ar σ) sz (wRR ca B ar σ9) := by
  refine body_of (cc := cX4_endMoveIfOldIsEmpty) (maxL := 1) (ret := none) (fun A => Qv D ca (wRR ca B ar σ9) A) (by decide) rfl (Nat.le_of_ble_eq_true rfl) ?_
  intro p e s m below meth c A ls hx hb hr hml hts hown hlocks hA hK hP hD hS hl hN
  have hl : lv_has ls 1 [(0, .ref (B 0))] := hl
  have hret : ∀ (pc : Nat) (ls : Array Slot) (H : Heap) (locs : List Loc), decode cX4_endMoveIfOldIsEmpty pc = .ok (.return_, 1) → va_P D vwCl (wRR ca B ar σ9) H → va_D A (wRR ca B ar σ9) → va_S A s.heap H locs → W p l e { frames := 2, cells := 0, slots := 0, locals := 43 } s m ([.ref (B 0)] : List Value).toArray below meth c H locs 0 0 (MQ below (Qv D ca (wRR ca B ar σ9) A) ([.ref (B 0)] : List Value).toArray s 0 0 A) (F0 m pc ls []) := fun pc ls H locs hd hP hD hS => ret_v hx hb hr hlocks hK hP hD hS hd
  generalize MQ below (Qv D ca (wRR ca B ar σ9) A) ([.ref (B 0)] : List Value).toArray s 0 0 A = Q at hret ⊢
  generalize ([.ref (B 0)] : List Value).toArray = args at hts hret ⊢
  have f110 : (Cond.fieldLinkNest RX4 110 "RobinRow$Table" "count" "I" RX4).before args s = true := va_Nw.use rfl (hN.1 (RX4, 110, "RobinRow$Table", "count", "I") (by decide +kernel))
  have f38 := hts (.fieldLink RX4 38 "RobinRow" "old" "LRobinRow$Table;") (by decide +kernel)
  have in3 : ∀ w ∈ u_ws RX3 TX3 6, w ∈ wsX4_endMoveIfOldIsEmpty := by decide +kernel
  have in4 : ∀ w ∈ u_ws RX4 TX4 7, w ∈ wsX4_endMoveIfOldIsEmpty := by decide +kernel
  unfold rr_endMoveIfOldIsEmpty at hf
  refine lv_aload_n hx hb dX4_endMoveIfOldIsEmpty_0 rfl (lv_at hl 0 rfl) ?_
  refine va_get (D := D) (ci := 4) (v := .ref (rr_ao σ)) (C := RX4) (T := TX4) (N := 7) hx hb hts in4 hown hK hP 0 rfl rfl 4 (by decide) f38 (fun _ h9 => h9) rfl dX4_endMoveIfOldIsEmpty_1 ?_
  refine va_getN (D := D) (ci := 3) (v := .int (tb_ct (rr_O σ))) (C := RX3) (T := TX3) (N := 6) hx hb hts in3 hown hK hP 15 rfl rfl 5 (by decide) f110 (fun _ h9 => h9) rfl dX4_endMoveIfOldIsEmpty_4 ?_
  refine lv_if_ne (tgt := 18) hx hb dX4_endMoveIfOldIsEmpty_7 (by decide) (fun c1 => ?_) (fun c1 => ?_)
  · replace hf := it_n c1 hf
    obtain rfl := so1 hf
    exact hret _ _ _ _ dX4_endMoveIfOldIsEmpty_18 hP hD hS
  · replace hf := it_p c1 hf
    refine lv_aload_n hx hb dX4_endMoveIfOldIsEmpty_10 rfl (lv_at hl 0 rfl) ?_
    refine va_get (D := D) (ci := 4) (v := .ref (rr_ao σ)) (C := RX4) (T := TX4) (N := 7) hx hb hts in4 hown hK hP 0 rfl rfl 4 (by decide) f38 (fun _ h9 => h9) rfl dX4_endMoveIfOldIsEmpty_11 ?_
    refine lv_iconst (v := 0) hx hb dX4_endMoveIfOldIsEmpty_14 (by decide) ?_
    obtain ⟨s3, es3, hf⟩ := bd_ob hf
    refine call_v (As := [.int 0]) (rest := []) ⟨hx, hb, hml, hown, hts⟩ (tX3_emptyWith l D ca (rr_ao σ) (ar (rr_ao σ)) _ (rr_O σ) 0 s3 es3) (cwV 1 hts gX4_endMoveIfOldIsEmpty_X3_emptyWith rfl rfl rfl (by decide +kernel) ⟨Nat.le_of_ble_eq_true rfl, Nat.le_of_ble_eq_true rfl⟩) hN hK hP hD hA hS (fr_RO ca B ar σ s3) rfl rfl rfl hl.1 rfl (lv_room (Nat.le_of_ble_eq_true rfl)) dX4_endMoveIfOldIsEmpty_15 ⟨Nat.le_refl _, Nat.le_refl _⟩ (fun H locs hP hD hS => ?_)
    obtain ⟨s4, es4, hf⟩ := nm_ob hf
    have hP : va_P D vwCl (wRR ca B ar s4) H := by rw [← es4]; exact hP
    have hD : va_D A (wRR ca B ar s4) := by rw [← es4]; exact hD
    obtain rfl := so1 hf
    exact hret _ _ _ _ dX4_endMoveIfOldIsEmpty_18 hP hD hS

def rr_moveSlice_70   (σ : RR) (l1 : Int32) : Option (Int32 × RR) :=
  bd (rr_endMoveIfOldIsEmpty σ) fun s15 =>
  some (l1, s15)
def rr_moveSlice_2  (k2 : RR → Int32 → Option (Int32 × RR)) (σ : RR) (l1 : Int32) : Option (Int32 × RR) :=
  if 4 ≤ l1 then
    rr_moveSlice_70 σ l1
  else
    if (tb_ct (rr_O σ)) ≤ 0 then
      rr_moveSlice_70 σ l1
    else
      bd (tt_lowestSlotWithKey (rr_O σ)) fun v3 =>
      bd (tt_keyIn (rr_O σ) v3) fun v4 =>
      bd (tt_valueIn (rr_O σ) v3) fun v5 =>
      bd (tt_hashIn (rr_O σ) v3) fun v6 =>
      bd (tt_carryIn (rr_P σ) v4 v5 v6) fun s8 =>
      nm (rr_P' σ s8) fun s9 =>
      bd (tt_takeOut (rr_O s9) v3) fun s11 =>
      nm (rr_O' s9 s11) fun s12 =>
      nm (l1 + 1) fun v13 =>
      k2 s12 v13
def rr_moveSlice_lp2   : Nat → RR → Int32 → Option (Int32 × RR) := itF (fun _ _ => none) (fun k => rr_moveSlice_2   k)
def rr_moveSlice  (σ : RR)  : Option (Int32 × RR) :=
  rr_moveSlice_lp2 FU σ 0
set_option maxHeartbeats 4000000 in
set_option maxRecDepth 100000 in
theorem tX4_moveSlice (l : Launch) (D : va_G) (ca : Nat → ClassId) (B : Nat → Nat) (ar : Nat → Nat → Nat) (sz : Nat)  (σ : RR)  (r : Int32) (σ9 : RR) (hf : rr_moveSlice σ = some (r, σ9)) : Ci l D ca yX4_moveSlice wsX4_moveSlice { frames := 3, cells := 0, slots := 0, locals := 75 } [.ref (B 0)] (wRR ca B ar σ) sz r (wRR ca B ar σ9) := by
  refine body_of (cc := cX4_moveSlice) (maxL := 3) (ret := (some .int)) (fun A => Qi D ca r (wRR ca B ar σ9) A) (by decide) rfl (Nat.le_of_ble_eq_true rfl) ?_
  intro p e s m below meth c A ls hx hb hr hml hts hown hlocks hA hK hP hD hS hl hN
  have hl : lv_has ls 3 [(0, .ref (B 0))] := hl
  have hret : ∀ (pc : Nat) (ls : Array Slot) (H : Heap) (locs : List Loc), decode cX4_moveSlice pc = .ok (.ireturn, 1) → va_P D vwCl (wRR ca B ar σ9) H → va_D A (wRR ca B ar σ9) → va_S A s.heap H locs → W p l e { frames := 3, cells := 0, slots := 0, locals := 75 } s m ([.ref (B 0)] : List Value).toArray below meth c H locs 0 0 (MQ below (Qi D ca r (wRR ca B ar σ9) A) ([.ref (B 0)] : List Value).toArray s 0 0 A) (F0 m pc ls [.int r]) := fun pc ls H locs hd hP hD hS => ret_i hx hb hr hlocks hK hP hD hS hd
  generalize MQ below (Qi D ca r (wRR ca B ar σ9) A) ([.ref (B 0)] : List Value).toArray s 0 0 A = Q at hret ⊢
  generalize ([.ref (B 0)] : List Value).toArray = args at hts hret ⊢
  have f110 : (Cond.fieldLinkNest RX4 110 "RobinRow$Table" "count" "I" RX4).before args s = true := va_Nw.use rfl (hN.1 (RX4, 110, "RobinRow$Table", "count", "I") (by decide +kernel))
  have f34 := hts (.fieldLink RX4 34 "RobinRow" "present" "LRobinRow$Table;") (by decide +kernel)
  have f38 := hts (.fieldLink RX4 38 "RobinRow" "old" "LRobinRow$Table;") (by decide +kernel)
  have in3 : ∀ w ∈ u_ws RX3 TX3 6, w ∈ wsX4_moveSlice := by decide +kernel
  have in4 : ∀ w ∈ u_ws RX4 TX4 7, w ∈ wsX4_moveSlice := by decide +kernel
  have J70 : ∀ (H : Heap) (locs : List Loc) (ls : Array Slot) (σ : RR) (l1 : Int32), rr_moveSlice_70  σ l1 = some (r, σ9) → va_P D vwCl (wRR ca B ar σ) H → va_D A (wRR ca B ar σ) → va_S A s.heap H locs → lv_has ls 3 [(0, .ref (B 0)), (1, .int l1)] → W p l e { frames := 3, cells := 0, slots := 0, locals := 75 } s m args below meth c H locs 0 0 Q (F0 m 70 ls []) := by
    intro H locs ls σ l1 hf hP hD hS hl
    unfold rr_moveSlice_70 at hf
    refine lv_aload_n hx hb dX4_moveSlice_70 rfl (lv_at hl 0 rfl) ?_
    obtain ⟨s15, es15, hf⟩ := bd_ob hf
    refine call_v (As := []) (rest := []) ⟨hx, hb, hml, hown, hts⟩ (tX4_endMoveIfOldIsEmpty l D ca B ar _ σ s15 es15) (cwV 0 hts gX4_moveSlice_X4_endMoveIfOldIsEmpty rfl rfl rfl (by decide +kernel) ⟨Nat.le_of_ble_eq_true rfl, Nat.le_of_ble_eq_true rfl⟩) hN hK hP hD hA hS (fr_id _ _) rfl rfl rfl hl.1 rfl (lv_room (Nat.le_of_ble_eq_true rfl)) dX4_moveSlice_71 ⟨Nat.le_refl _, Nat.le_refl _⟩ (fun H locs hP hD hS => ?_)
    refine lv_iload_n hx hb dX4_moveSlice_74 rfl (lv_at hl 1 rfl) ?_
    obtain ⟨rfl, rfl⟩ := so2 hf
    exact hret _ _ _ _ dX4_moveSlice_75 hP hD hS
  have J2 : ∀ (n2 : Nat) (H : Heap) (locs : List Loc) (ls : Array Slot) (σ : RR) (l1 : Int32), rr_moveSlice_lp2  n2 σ l1 = some (r, σ9) → va_P D vwCl (wRR ca B ar σ) H → va_D A (wRR ca B ar σ) → va_S A s.heap H locs → lv_has ls 3 [(0, .ref (B 0)), (1, .int l1)] → W p l e { frames := 3, cells := 0, slots := 0, locals := 75 } s m args below meth c H locs 0 0 Q (F0 m 2 ls []) := by
    intro n2
    induction n2 with
    | zero =>
      intro H locs ls σ l1 hf hP hD hS hl
      exact absurd hf (fun h => by cases h)
    | succ n2 ih2 =>
      intro H locs ls σ l1 hf hP hD hS hl
      replace hf : rr_moveSlice_2  (rr_moveSlice_lp2  n2) σ l1 = some (r, σ9) := hf
      unfold rr_moveSlice_2 at hf
      refine lv_iload_n hx hb dX4_moveSlice_2 rfl (lv_at hl 1 rfl) ?_
      refine lv_iconst (v := 4) hx hb dX4_moveSlice_3 (by decide) ?_
      refine lv_icmp_ge (tgt := 70) hx hb dX4_moveSlice_4 (by decide) (fun c1 => ?_) (fun c1 => ?_)
      · replace hf := it_p c1 hf
        exact J70 _ _ _ _ _ hf hP hD hS (lv_sub hl [0, 1] rfl)
      · replace hf := it_n c1 hf
        refine lv_aload_n hx hb dX4_moveSlice_7 rfl (lv_at hl 0 rfl) ?_
        refine va_get (D := D) (ci := 4) (v := .ref (rr_ao σ)) (C := RX4) (T := TX4) (N := 7) hx hb hts in4 hown hK hP 0 rfl rfl 4 (by decide) f38 (fun _ h9 => h9) rfl dX4_moveSlice_8 ?_
        refine va_getN (D := D) (ci := 3) (v := .int (tb_ct (rr_O σ))) (C := RX3) (T := TX3) (N := 6) hx hb hts in3 hown hK hP 15 rfl rfl 5 (by decide) f110 (fun _ h9 => h9) rfl dX4_moveSlice_11 ?_
        refine lv_if_le (tgt := 70) hx hb dX4_moveSlice_14 (by decide) (fun c2 => ?_) (fun c2 => ?_)
        · replace hf := it_p c2 hf
          exact J70 _ _ _ _ _ hf hP hD hS (lv_sub hl [0, 1] rfl)
        · replace hf := it_n c2 hf
          refine lv_aload_n hx hb dX4_moveSlice_17 rfl (lv_at hl 0 rfl) ?_
          refine va_get (D := D) (ci := 4) (v := .ref (rr_ao σ)) (C := RX4) (T := TX4) (N := 7) hx hb hts in4 hown hK hP 0 rfl rfl 4 (by decide) f38 (fun _ h9 => h9) rfl dX4_moveSlice_18 ?_
          obtain ⟨v3, ev3, hf⟩ := bd_ob hf
          refine call_i (As := []) (rest := []) ⟨hx, hb, hml, hown, hts⟩ (tX3_lowestSlotWithKey l D ca (rr_ao σ) (ar (rr_ao σ)) _ (rr_O σ) v3 ev3) (cwV 0 hts gX4_moveSlice_X3_lowestSlotWithKey rfl rfl rfl (by decide +kernel) ⟨Nat.le_of_ble_eq_true rfl, Nat.le_of_ble_eq_true rfl⟩) hN hK hP hD hA hS (fr_ROp ca B ar σ) rfl rfl rfl hl.1 rfl (lv_room (Nat.le_of_ble_eq_true rfl)) dX4_moveSlice_21 ⟨Nat.le_refl _, Nat.le_refl _⟩ (fun H locs hP hD hS => ?_)
          refine lv_istore_n (lv' := [(2, .int v3), (0, .ref (B 0)), (1, .int l1)]) hx hb dX4_moveSlice_24 rfl hl (by decide) rfl (fun ls hl => ?_)
          refine lv_aload_n hx hb dX4_moveSlice_25 rfl (lv_at hl 1 rfl) ?_
          refine va_get (D := D) (ci := 4) (v := .ref (rr_ap σ)) (C := RX4) (T := TX4) (N := 7) hx hb hts in4 hown hK hP 0 rfl rfl 3 (by decide) f34 (fun _ h9 => h9) rfl dX4_moveSlice_26 ?_
          refine lv_aload_n hx hb dX4_moveSlice_29 rfl (lv_at hl 1 rfl) ?_
          refine va_get (D := D) (ci := 4) (v := .ref (rr_ao σ)) (C := RX4) (T := TX4) (N := 7) hx hb hts in4 hown hK hP 0 rfl rfl 4 (by decide) f38 (fun _ h9 => h9) rfl dX4_moveSlice_30 ?_
          refine lv_iload_n hx hb dX4_moveSlice_33 rfl (lv_at hl 0 rfl) ?_
          obtain ⟨v4, ev4, hf⟩ := bd_ob hf
          refine call_i (As := [.int v3]) (rest := [.ref (rr_ap σ)]) ⟨hx, hb, hml, hown, hts⟩ (tX3_keyIn l D ca (rr_ao σ) (ar (rr_ao σ)) _ (rr_O σ) v3 v4 ev4) (cwV 1 hts gX4_moveSlice_X3_keyIn rfl rfl rfl (by decide +kernel) ⟨Nat.le_of_ble_eq_true rfl, Nat.le_of_ble_eq_true rfl⟩) hN hK hP hD hA hS (fr_ROp ca B ar σ) rfl rfl rfl hl.1 rfl (lv_room (Nat.le_of_ble_eq_true rfl)) dX4_moveSlice_34 ⟨Nat.le_refl _, Nat.le_refl _⟩ (fun H locs hP hD hS => ?_)
          refine lv_aload_n hx hb dX4_moveSlice_37 rfl (lv_at hl 1 rfl) ?_
          refine va_get (D := D) (ci := 4) (v := .ref (rr_ao σ)) (C := RX4) (T := TX4) (N := 7) hx hb hts in4 hown hK hP 0 rfl rfl 4 (by decide) f38 (fun _ h9 => h9) rfl dX4_moveSlice_38 ?_
          refine lv_iload_n hx hb dX4_moveSlice_41 rfl (lv_at hl 0 rfl) ?_
          obtain ⟨v5, ev5, hf⟩ := bd_ob hf
          refine call_i (As := [.int v3]) (rest := [.int v4, .ref (rr_ap σ)]) ⟨hx, hb, hml, hown, hts⟩ (tX3_valueIn l D ca (rr_ao σ) (ar (rr_ao σ)) _ (rr_O σ) v3 v5 ev5) (cwV 1 hts gX4_moveSlice_X3_valueIn rfl rfl rfl (by decide +kernel) ⟨Nat.le_of_ble_eq_true rfl, Nat.le_of_ble_eq_true rfl⟩) hN hK hP hD hA hS (fr_ROp ca B ar σ) rfl rfl rfl hl.1 rfl (lv_room (Nat.le_of_ble_eq_true rfl)) dX4_moveSlice_42 ⟨Nat.le_refl _, Nat.le_refl _⟩ (fun H locs hP hD hS => ?_)
          refine lv_aload_n hx hb dX4_moveSlice_45 rfl (lv_at hl 1 rfl) ?_
          refine va_get (D := D) (ci := 4) (v := .ref (rr_ao σ)) (C := RX4) (T := TX4) (N := 7) hx hb hts in4 hown hK hP 0 rfl rfl 4 (by decide) f38 (fun _ h9 => h9) rfl dX4_moveSlice_46 ?_
          refine lv_iload_n hx hb dX4_moveSlice_49 rfl (lv_at hl 0 rfl) ?_
          obtain ⟨v6, ev6, hf⟩ := bd_ob hf
          refine call_i (As := [.int v3]) (rest := [.int v5, .int v4, .ref (rr_ap σ)]) ⟨hx, hb, hml, hown, hts⟩ (tX3_hashIn l D ca (rr_ao σ) (ar (rr_ao σ)) _ (rr_O σ) v3 v6 ev6) (cwV 1 hts gX4_moveSlice_X3_hashIn rfl rfl rfl (by decide +kernel) ⟨Nat.le_of_ble_eq_true rfl, Nat.le_of_ble_eq_true rfl⟩) hN hK hP hD hA hS (fr_ROp ca B ar σ) rfl rfl rfl hl.1 rfl (lv_room (Nat.le_of_ble_eq_true rfl)) dX4_moveSlice_50 ⟨Nat.le_refl _, Nat.le_refl _⟩ (fun H locs hP hD hS => ?_)
          obtain ⟨s8, es8, hf⟩ := bd_ob hf
          refine call_v (As := [.int v4, .int v5, .int v6]) (rest := []) ⟨hx, hb, hml, hown, hts⟩ (tX3_carryIn l D ca (rr_ap σ) (ar (rr_ap σ)) _ (rr_P σ) v4 v5 v6 s8 es8) (cwV 3 hts gX4_moveSlice_X3_carryIn rfl rfl rfl (by decide +kernel) ⟨Nat.le_of_ble_eq_true rfl, Nat.le_of_ble_eq_true rfl⟩) hN hK hP hD hA hS (fr_RP ca B ar σ s8) rfl rfl rfl hl.1 rfl (lv_room (Nat.le_of_ble_eq_true rfl)) dX4_moveSlice_53 ⟨Nat.le_refl _, Nat.le_refl _⟩ (fun H locs hP hD hS => ?_)
          obtain ⟨s9, es9, hf⟩ := nm_ob hf
          have hP : va_P D vwCl (wRR ca B ar s9) H := by rw [← es9]; exact hP
          have hD : va_D A (wRR ca B ar s9) := by rw [← es9]; exact hD
          refine lv_aload_n hx hb dX4_moveSlice_56 rfl (lv_at hl 1 rfl) ?_
          refine va_get (D := D) (ci := 4) (v := .ref (rr_ao s9)) (C := RX4) (T := TX4) (N := 7) hx hb hts in4 hown hK hP 0 rfl rfl 4 (by decide) f38 (fun _ h9 => h9) rfl dX4_moveSlice_57 ?_
          refine lv_iload_n hx hb dX4_moveSlice_60 rfl (lv_at hl 0 rfl) ?_
          obtain ⟨s11, es11, hf⟩ := bd_ob hf
          refine call_v (As := [.int v3]) (rest := []) ⟨hx, hb, hml, hown, hts⟩ (tX3_takeOut l D ca (rr_ao s9) (ar (rr_ao s9)) _ (rr_O s9) v3 s11 es11) (cwV 1 hts gX4_moveSlice_X3_takeOut rfl rfl rfl (by decide +kernel) ⟨Nat.le_of_ble_eq_true rfl, Nat.le_of_ble_eq_true rfl⟩) hN hK hP hD hA hS (fr_RO ca B ar s9 s11) rfl rfl rfl hl.1 rfl (lv_room (Nat.le_of_ble_eq_true rfl)) dX4_moveSlice_61 ⟨Nat.le_refl _, Nat.le_refl _⟩ (fun H locs hP hD hS => ?_)
          obtain ⟨s12, es12, hf⟩ := nm_ob hf
          have hP : va_P D vwCl (wRR ca B ar s12) H := by rw [← es12]; exact hP
          have hD : va_D A (wRR ca B ar s12) := by rw [← es12]; exact hD
          obtain ⟨v13, ev13, hf⟩ := nm_ob hf
          refine lv_iinc (v := v13) (lv' := [(1, .int v13), (2, .int v3), (0, .ref (B 0))]) hx hb dX4_moveSlice_64 hl (k := 2) rfl (by rw [← ev13]; rfl) (by decide) rfl (fun ls hl => ?_)
          refine lv_goto (tgt := 2) hx hb dX4_moveSlice_67 (by decide) ?_
          exact ih2 _ _ _ _ _ hf hP hD hS (lv_sub hl [2, 0] rfl)
  unfold rr_moveSlice at hf
  refine lv_iconst (v := 0) hx hb dX4_moveSlice_0 (by decide) ?_
  refine lv_istore_n (lv' := [(1, .int 0), (0, .ref (B 0))]) hx hb dX4_moveSlice_1 rfl hl (by decide) rfl (fun ls hl => ?_)
  exact J2 FU _ _ _ _ _ hf hP hD hS (lv_sub hl [1, 0] rfl)

def rr_remove  (σ : RR) (a0 : Int32) : Option (Int32 × RR) :=
  bd2 (rr_moveSlice σ) fun v1 s2 =>
  bd (rr_lookUp s2 a0) fun s4 =>
  bd (ss_hasFound (rr_se s4)) fun v5 =>
  if v5 = 0 then
    some ((-1), s4)
  else
    dsp (se_tb (rr_se s4)) (rr_ap s4) (rr_ao s4) (
      bd (tt_valueIn (rr_P s4) (se_slot (rr_se s4))) fun v8 =>
      dsp (se_tb (rr_se s4)) (rr_ap s4) (rr_ao s4) (
        bd (tt_takeOut (rr_P s4) (se_slot (rr_se s4))) fun s11 =>
        nm (rr_P' s4 s11) fun s12 =>
        bd (rr_endMoveIfOldIsEmpty s12) fun s14 =>
        some (v8, s14)) (
        bd (tt_takeOut (rr_O s4) (se_slot (rr_se s4))) fun s16 =>
        nm (rr_O' s4 s16) fun s17 =>
        bd (rr_endMoveIfOldIsEmpty s17) fun s19 =>
        some (v8, s19))) (
      bd (tt_valueIn (rr_O s4) (se_slot (rr_se s4))) fun v20 =>
      dsp (se_tb (rr_se s4)) (rr_ap s4) (rr_ao s4) (
        bd (tt_takeOut (rr_P s4) (se_slot (rr_se s4))) fun s23 =>
        nm (rr_P' s4 s23) fun s24 =>
        bd (rr_endMoveIfOldIsEmpty s24) fun s26 =>
        some (v20, s26)) (
        bd (tt_takeOut (rr_O s4) (se_slot (rr_se s4))) fun s28 =>
        nm (rr_O' s4 s28) fun s29 =>
        bd (rr_endMoveIfOldIsEmpty s29) fun s31 =>
        some (v20, s31)))
set_option maxHeartbeats 4000000 in
set_option maxRecDepth 100000 in
theorem tX4_remove (l : Launch) (D : va_G) (ca : Nat → ClassId) (B : Nat → Nat) (ar : Nat → Nat → Nat) (sz : Nat)  (σ : RR) (a0 : Int32) (r : Int32) (σ9 : RR) (hf : rr_remove σ a0 = some (r, σ9)) : Ci l D ca yX4_remove wsX4_remove { frames := 4, cells := 0, slots := 0, locals := 97 } [.ref (B 0), .int a0] (wRR ca B ar σ) sz r (wRR ca B ar σ9) := by
  refine body_of (cc := cX4_remove) (maxL := 3) (ret := (some .int)) (fun A => Qi D ca r (wRR ca B ar σ9) A) (by decide) rfl (Nat.le_of_ble_eq_true rfl) ?_
  intro p e s m below meth c A ls hx hb hr hml hts hown hlocks hA hK hP hD hS hl hN
  have hl : lv_has ls 3 [(0, .ref (B 0)), (1, .int a0)] := hl
  have hret : ∀ (pc : Nat) (ls : Array Slot) (H : Heap) (locs : List Loc), decode cX4_remove pc = .ok (.ireturn, 1) → va_P D vwCl (wRR ca B ar σ9) H → va_D A (wRR ca B ar σ9) → va_S A s.heap H locs → W p l e { frames := 4, cells := 0, slots := 0, locals := 97 } s m ([.ref (B 0), .int a0] : List Value).toArray below meth c H locs 0 0 (MQ below (Qi D ca r (wRR ca B ar σ9) A) ([.ref (B 0), .int a0] : List Value).toArray s 0 0 A) (F0 m pc ls [.int r]) := fun pc ls H locs hd hP hD hS => ret_i hx hb hr hlocks hK hP hD hS hd
  generalize MQ below (Qi D ca r (wRR ca B ar σ9) A) ([.ref (B 0), .int a0] : List Value).toArray s 0 0 A = Q at hret ⊢
  generalize ([.ref (B 0), .int a0] : List Value).toArray = args at hts hret ⊢
  have f18 := hts (.fieldLink RX4 18 "RobinRow" "search" "LRobinRow$Search;") (by decide +kernel)
  have f87 : (Cond.fieldLinkNest RX4 87 "RobinRow$Search" "table" "LRobinRow$Table;" RX4).before args s = true := va_Nw.use rfl (hN.1 (RX4, 87, "RobinRow$Search", "table", "LRobinRow$Table;") (by decide +kernel))
  have f90 : (Cond.fieldLinkNest RX4 90 "RobinRow$Search" "slot" "I" RX4).before args s = true := va_Nw.use rfl (hN.1 (RX4, 90, "RobinRow$Search", "slot", "I") (by decide +kernel))
  have in1 : ∀ w ∈ u_ws RX1 TX1 4, w ∈ wsX4_remove := by decide +kernel
  have in4 : ∀ w ∈ u_ws RX4 TX4 7, w ∈ wsX4_remove := by decide +kernel
  unfold rr_remove at hf
  refine lv_aload_n hx hb dX4_remove_0 rfl (lv_at hl 0 rfl) ?_
  obtain ⟨v1, s2, ev1, hf⟩ := bd2_ob hf
  refine call_i (As := []) (rest := []) ⟨hx, hb, hml, hown, hts⟩ (tX4_moveSlice l D ca B ar _ σ v1 s2 ev1) (cwV 0 hts gX4_remove_X4_moveSlice rfl rfl rfl (by decide +kernel) ⟨Nat.le_of_ble_eq_true rfl, Nat.le_of_ble_eq_true rfl⟩) hN hK hP hD hA hS (fr_id _ _) rfl rfl rfl hl.1 rfl (lv_room (Nat.le_of_ble_eq_true rfl)) dX4_remove_1 ⟨Nat.le_refl _, Nat.le_refl _⟩ (fun H locs hP hD hS => ?_)
  refine lv_pop hx hb dX4_remove_4 rfl ?_
  refine lv_aload_n hx hb dX4_remove_5 rfl (lv_at hl 0 rfl) ?_
  refine lv_iload_n hx hb dX4_remove_6 rfl (lv_at hl 1 rfl) ?_
  obtain ⟨s4, es4, hf⟩ := bd_ob hf
  refine call_v (As := [.int a0]) (rest := []) ⟨hx, hb, hml, hown, hts⟩ (tX4_lookUp l D ca B ar _ s2 a0 s4 es4) (cwV 1 hts gX4_remove_X4_lookUp rfl rfl rfl (by decide +kernel) ⟨Nat.le_of_ble_eq_true rfl, Nat.le_of_ble_eq_true rfl⟩) hN hK hP hD hA hS (fr_id _ _) rfl rfl rfl hl.1 rfl (lv_room (Nat.le_of_ble_eq_true rfl)) dX4_remove_7 ⟨Nat.le_refl _, Nat.le_refl _⟩ (fun H locs hP hD hS => ?_)
  refine lv_aload_n hx hb dX4_remove_10 rfl (lv_at hl 0 rfl) ?_
  refine va_get (D := D) (ci := 4) (v := .ref (B 6)) (C := RX4) (T := TX4) (N := 7) hx hb hts in4 hown hK hP 0 rfl rfl 1 (by decide) f18 (fun _ h9 => h9) rfl dX4_remove_11 ?_
  obtain ⟨v5, ev5, hf⟩ := bd_ob hf
  refine call_i (As := []) (rest := []) ⟨hx, hb, hml, hown, hts⟩ (tX1_hasFound l D ca (B 6) _ (rr_se s4) v5 ev5) (cwV 0 hts gX4_remove_X1_hasFound rfl rfl rfl (by decide +kernel) ⟨Nat.le_of_ble_eq_true rfl, Nat.le_of_ble_eq_true rfl⟩) hN hK hP hD hA hS (fr_RSp ca B ar s4) rfl rfl rfl hl.1 rfl (lv_room (Nat.le_of_ble_eq_true rfl)) dX4_remove_14 ⟨Nat.le_refl _, Nat.le_refl _⟩ (fun H locs hP hD hS => ?_)
  refine lv_if_ne (tgt := 22) hx hb dX4_remove_17 (by decide) (fun c6 => ?_) (fun c6 => ?_)
  · replace hf := it_n c6 hf
    refine lv_aload_n hx hb dX4_remove_22 rfl (lv_at hl 0 rfl) ?_
    refine va_get (D := D) (ci := 4) (v := .ref (B 6)) (C := RX4) (T := TX4) (N := 7) hx hb hts in4 hown hK hP 0 rfl rfl 1 (by decide) f18 (fun _ h9 => h9) rfl dX4_remove_23 ?_
    refine va_getN (D := D) (ci := 1) (v := va_rf (se_tb (rr_se s4))) (C := RX1) (T := TX1) (N := 4) hx hb hts in1 hown hK hP 6 rfl rfl 0 (by decide) f87 (fun _ h9 => h9) rfl dX4_remove_26 ?_
    refine lv_aload_n hx hb dX4_remove_29 rfl (lv_at hl 0 rfl) ?_
    refine va_get (D := D) (ci := 4) (v := .ref (B 6)) (C := RX4) (T := TX4) (N := 7) hx hb hts in4 hown hK hP 0 rfl rfl 1 (by decide) f18 (fun _ h9 => h9) rfl dX4_remove_30 ?_
    refine va_getN (D := D) (ci := 1) (v := .int (se_slot (rr_se s4))) (C := RX1) (T := TX1) (N := 4) hx hb hts in1 hown hK hP 6 rfl rfl 1 (by decide) f90 (fun _ h9 => h9) rfl dX4_remove_33 ?_
    rcases dsp_ob hf with ⟨c7, hf⟩ | ⟨c7, hf⟩
    · refine W.eq (g2 := F0 m 36 ls [.int (se_slot (rr_se s4)), .ref (rr_ap s4)]) (by rw [c7]; rfl) ?_
      obtain ⟨v8, ev8, hf⟩ := bd_ob hf
      refine call_i (As := [.int (se_slot (rr_se s4))]) (rest := []) ⟨hx, hb, hml, hown, hts⟩ (tX3_valueIn l D ca (rr_ap s4) (ar (rr_ap s4)) _ (rr_P s4) (se_slot (rr_se s4)) v8 ev8) (cwV 1 hts gX4_remove_X3_valueIn rfl rfl rfl (by decide +kernel) ⟨Nat.le_of_ble_eq_true rfl, Nat.le_of_ble_eq_true rfl⟩) hN hK hP hD hA hS (fr_RPp ca B ar s4) rfl rfl rfl hl.1 rfl (lv_room (Nat.le_of_ble_eq_true rfl)) dX4_remove_36 ⟨Nat.le_refl _, Nat.le_refl _⟩ (fun H locs hP hD hS => ?_)
      refine lv_istore_n (lv' := [(2, .int v8), (0, .ref (B 0)), (1, .int a0)]) hx hb dX4_remove_39 rfl hl (by decide) rfl (fun ls hl => ?_)
      refine lv_aload_n hx hb dX4_remove_40 rfl (lv_at hl 1 rfl) ?_
      refine va_get (D := D) (ci := 4) (v := .ref (B 6)) (C := RX4) (T := TX4) (N := 7) hx hb hts in4 hown hK hP 0 rfl rfl 1 (by decide) f18 (fun _ h9 => h9) rfl dX4_remove_41 ?_
      refine va_getN (D := D) (ci := 1) (v := va_rf (se_tb (rr_se s4))) (C := RX1) (T := TX1) (N := 4) hx hb hts in1 hown hK hP 6 rfl rfl 0 (by decide) f87 (fun _ h9 => h9) rfl dX4_remove_44 ?_
      refine lv_aload_n hx hb dX4_remove_47 rfl (lv_at hl 1 rfl) ?_
      refine va_get (D := D) (ci := 4) (v := .ref (B 6)) (C := RX4) (T := TX4) (N := 7) hx hb hts in4 hown hK hP 0 rfl rfl 1 (by decide) f18 (fun _ h9 => h9) rfl dX4_remove_48 ?_
      refine va_getN (D := D) (ci := 1) (v := .int (se_slot (rr_se s4))) (C := RX1) (T := TX1) (N := 4) hx hb hts in1 hown hK hP 6 rfl rfl 1 (by decide) f90 (fun _ h9 => h9) rfl dX4_remove_51 ?_
      rcases dsp_ob hf with ⟨c9, hf⟩ | ⟨c9, hf⟩
      · refine W.eq (g2 := F0 m 54 ls [.int (se_slot (rr_se s4)), .ref (rr_ap s4)]) (by rw [c9]; rfl) ?_
        obtain ⟨s11, es11, hf⟩ := bd_ob hf
        refine call_v (As := [.int (se_slot (rr_se s4))]) (rest := []) ⟨hx, hb, hml, hown, hts⟩ (tX3_takeOut l D ca (rr_ap s4) (ar (rr_ap s4)) _ (rr_P s4) (se_slot (rr_se s4)) s11 es11) (cwV 1 hts gX4_remove_X3_takeOut rfl rfl rfl (by decide +kernel) ⟨Nat.le_of_ble_eq_true rfl, Nat.le_of_ble_eq_true rfl⟩) hN hK hP hD hA hS (fr_RP ca B ar s4 s11) rfl rfl rfl hl.1 rfl (lv_room (Nat.le_of_ble_eq_true rfl)) dX4_remove_54 ⟨Nat.le_refl _, Nat.le_refl _⟩ (fun H locs hP hD hS => ?_)
        obtain ⟨s12, es12, hf⟩ := nm_ob hf
        have hP : va_P D vwCl (wRR ca B ar s12) H := by rw [← es12]; exact hP
        have hD : va_D A (wRR ca B ar s12) := by rw [← es12]; exact hD
        refine lv_aload_n hx hb dX4_remove_57 rfl (lv_at hl 1 rfl) ?_
        obtain ⟨s14, es14, hf⟩ := bd_ob hf
        refine call_v (As := []) (rest := []) ⟨hx, hb, hml, hown, hts⟩ (tX4_endMoveIfOldIsEmpty l D ca B ar _ s12 s14 es14) (cwV 0 hts gX4_remove_X4_endMoveIfOldIsEmpty rfl rfl rfl (by decide +kernel) ⟨Nat.le_of_ble_eq_true rfl, Nat.le_of_ble_eq_true rfl⟩) hN hK hP hD hA hS (fr_id _ _) rfl rfl rfl hl.1 rfl (lv_room (Nat.le_of_ble_eq_true rfl)) dX4_remove_58 ⟨Nat.le_refl _, Nat.le_refl _⟩ (fun H locs hP hD hS => ?_)
        refine lv_iload_n hx hb dX4_remove_61 rfl (lv_at hl 0 rfl) ?_
        obtain ⟨rfl, rfl⟩ := so2 hf
        exact hret _ _ _ _ dX4_remove_62 hP hD hS
      · refine W.eq (g2 := F0 m 54 ls [.int (se_slot (rr_se s4)), .ref (rr_ao s4)]) (by rw [c9]; rfl) ?_
        obtain ⟨s16, es16, hf⟩ := bd_ob hf
        refine call_v (As := [.int (se_slot (rr_se s4))]) (rest := []) ⟨hx, hb, hml, hown, hts⟩ (tX3_takeOut l D ca (rr_ao s4) (ar (rr_ao s4)) _ (rr_O s4) (se_slot (rr_se s4)) s16 es16) (cwV 1 hts gX4_remove_X3_takeOut rfl rfl rfl (by decide +kernel) ⟨Nat.le_of_ble_eq_true rfl, Nat.le_of_ble_eq_true rfl⟩) hN hK hP hD hA hS (fr_RO ca B ar s4 s16) rfl rfl rfl hl.1 rfl (lv_room (Nat.le_of_ble_eq_true rfl)) dX4_remove_54 ⟨Nat.le_refl _, Nat.le_refl _⟩ (fun H locs hP hD hS => ?_)
        obtain ⟨s17, es17, hf⟩ := nm_ob hf
        have hP : va_P D vwCl (wRR ca B ar s17) H := by rw [← es17]; exact hP
        have hD : va_D A (wRR ca B ar s17) := by rw [← es17]; exact hD
        refine lv_aload_n hx hb dX4_remove_57 rfl (lv_at hl 1 rfl) ?_
        obtain ⟨s19, es19, hf⟩ := bd_ob hf
        refine call_v (As := []) (rest := []) ⟨hx, hb, hml, hown, hts⟩ (tX4_endMoveIfOldIsEmpty l D ca B ar _ s17 s19 es19) (cwV 0 hts gX4_remove_X4_endMoveIfOldIsEmpty rfl rfl rfl (by decide +kernel) ⟨Nat.le_of_ble_eq_true rfl, Nat.le_of_ble_eq_true rfl⟩) hN hK hP hD hA hS (fr_id _ _) rfl rfl rfl hl.1 rfl (lv_room (Nat.le_of_ble_eq_true rfl)) dX4_remove_58 ⟨Nat.le_refl _, Nat.le_refl _⟩ (fun H locs hP hD hS => ?_)
        refine lv_iload_n hx hb dX4_remove_61 rfl (lv_at hl 0 rfl) ?_
        obtain ⟨rfl, rfl⟩ := so2 hf
        exact hret _ _ _ _ dX4_remove_62 hP hD hS
    · refine W.eq (g2 := F0 m 36 ls [.int (se_slot (rr_se s4)), .ref (rr_ao s4)]) (by rw [c7]; rfl) ?_
      obtain ⟨v20, ev20, hf⟩ := bd_ob hf
      refine call_i (As := [.int (se_slot (rr_se s4))]) (rest := []) ⟨hx, hb, hml, hown, hts⟩ (tX3_valueIn l D ca (rr_ao s4) (ar (rr_ao s4)) _ (rr_O s4) (se_slot (rr_se s4)) v20 ev20) (cwV 1 hts gX4_remove_X3_valueIn rfl rfl rfl (by decide +kernel) ⟨Nat.le_of_ble_eq_true rfl, Nat.le_of_ble_eq_true rfl⟩) hN hK hP hD hA hS (fr_ROp ca B ar s4) rfl rfl rfl hl.1 rfl (lv_room (Nat.le_of_ble_eq_true rfl)) dX4_remove_36 ⟨Nat.le_refl _, Nat.le_refl _⟩ (fun H locs hP hD hS => ?_)
      refine lv_istore_n (lv' := [(2, .int v20), (0, .ref (B 0)), (1, .int a0)]) hx hb dX4_remove_39 rfl hl (by decide) rfl (fun ls hl => ?_)
      refine lv_aload_n hx hb dX4_remove_40 rfl (lv_at hl 1 rfl) ?_
      refine va_get (D := D) (ci := 4) (v := .ref (B 6)) (C := RX4) (T := TX4) (N := 7) hx hb hts in4 hown hK hP 0 rfl rfl 1 (by decide) f18 (fun _ h9 => h9) rfl dX4_remove_41 ?_
      refine va_getN (D := D) (ci := 1) (v := va_rf (se_tb (rr_se s4))) (C := RX1) (T := TX1) (N := 4) hx hb hts in1 hown hK hP 6 rfl rfl 0 (by decide) f87 (fun _ h9 => h9) rfl dX4_remove_44 ?_
      refine lv_aload_n hx hb dX4_remove_47 rfl (lv_at hl 1 rfl) ?_
      refine va_get (D := D) (ci := 4) (v := .ref (B 6)) (C := RX4) (T := TX4) (N := 7) hx hb hts in4 hown hK hP 0 rfl rfl 1 (by decide) f18 (fun _ h9 => h9) rfl dX4_remove_48 ?_
      refine va_getN (D := D) (ci := 1) (v := .int (se_slot (rr_se s4))) (C := RX1) (T := TX1) (N := 4) hx hb hts in1 hown hK hP 6 rfl rfl 1 (by decide) f90 (fun _ h9 => h9) rfl dX4_remove_51 ?_
      rcases dsp_ob hf with ⟨c21, hf⟩ | ⟨c21, hf⟩
      · refine W.eq (g2 := F0 m 54 ls [.int (se_slot (rr_se s4)), .ref (rr_ap s4)]) (by rw [c21]; rfl) ?_
        obtain ⟨s23, es23, hf⟩ := bd_ob hf
        refine call_v (As := [.int (se_slot (rr_se s4))]) (rest := []) ⟨hx, hb, hml, hown, hts⟩ (tX3_takeOut l D ca (rr_ap s4) (ar (rr_ap s4)) _ (rr_P s4) (se_slot (rr_se s4)) s23 es23) (cwV 1 hts gX4_remove_X3_takeOut rfl rfl rfl (by decide +kernel) ⟨Nat.le_of_ble_eq_true rfl, Nat.le_of_ble_eq_true rfl⟩) hN hK hP hD hA hS (fr_RP ca B ar s4 s23) rfl rfl rfl hl.1 rfl (lv_room (Nat.le_of_ble_eq_true rfl)) dX4_remove_54 ⟨Nat.le_refl _, Nat.le_refl _⟩ (fun H locs hP hD hS => ?_)
        obtain ⟨s24, es24, hf⟩ := nm_ob hf
        have hP : va_P D vwCl (wRR ca B ar s24) H := by rw [← es24]; exact hP
        have hD : va_D A (wRR ca B ar s24) := by rw [← es24]; exact hD
        refine lv_aload_n hx hb dX4_remove_57 rfl (lv_at hl 1 rfl) ?_
        obtain ⟨s26, es26, hf⟩ := bd_ob hf
        refine call_v (As := []) (rest := []) ⟨hx, hb, hml, hown, hts⟩ (tX4_endMoveIfOldIsEmpty l D ca B ar _ s24 s26 es26) (cwV 0 hts gX4_remove_X4_endMoveIfOldIsEmpty rfl rfl rfl (by decide +kernel) ⟨Nat.le_of_ble_eq_true rfl, Nat.le_of_ble_eq_true rfl⟩) hN hK hP hD hA hS (fr_id _ _) rfl rfl rfl hl.1 rfl (lv_room (Nat.le_of_ble_eq_true rfl)) dX4_remove_58 ⟨Nat.le_refl _, Nat.le_refl _⟩ (fun H locs hP hD hS => ?_)
        refine lv_iload_n hx hb dX4_remove_61 rfl (lv_at hl 0 rfl) ?_
        obtain ⟨rfl, rfl⟩ := so2 hf
        exact hret _ _ _ _ dX4_remove_62 hP hD hS
      · refine W.eq (g2 := F0 m 54 ls [.int (se_slot (rr_se s4)), .ref (rr_ao s4)]) (by rw [c21]; rfl) ?_
        obtain ⟨s28, es28, hf⟩ := bd_ob hf
        refine call_v (As := [.int (se_slot (rr_se s4))]) (rest := []) ⟨hx, hb, hml, hown, hts⟩ (tX3_takeOut l D ca (rr_ao s4) (ar (rr_ao s4)) _ (rr_O s4) (se_slot (rr_se s4)) s28 es28) (cwV 1 hts gX4_remove_X3_takeOut rfl rfl rfl (by decide +kernel) ⟨Nat.le_of_ble_eq_true rfl, Nat.le_of_ble_eq_true rfl⟩) hN hK hP hD hA hS (fr_RO ca B ar s4 s28) rfl rfl rfl hl.1 rfl (lv_room (Nat.le_of_ble_eq_true rfl)) dX4_remove_54 ⟨Nat.le_refl _, Nat.le_refl _⟩ (fun H locs hP hD hS => ?_)
        obtain ⟨s29, es29, hf⟩ := nm_ob hf
        have hP : va_P D vwCl (wRR ca B ar s29) H := by rw [← es29]; exact hP
        have hD : va_D A (wRR ca B ar s29) := by rw [← es29]; exact hD
        refine lv_aload_n hx hb dX4_remove_57 rfl (lv_at hl 1 rfl) ?_
        obtain ⟨s31, es31, hf⟩ := bd_ob hf
        refine call_v (As := []) (rest := []) ⟨hx, hb, hml, hown, hts⟩ (tX4_endMoveIfOldIsEmpty l D ca B ar _ s29 s31 es31) (cwV 0 hts gX4_remove_X4_endMoveIfOldIsEmpty rfl rfl rfl (by decide +kernel) ⟨Nat.le_of_ble_eq_true rfl, Nat.le_of_ble_eq_true rfl⟩) hN hK hP hD hA hS (fr_id _ _) rfl rfl rfl hl.1 rfl (lv_room (Nat.le_of_ble_eq_true rfl)) dX4_remove_58 ⟨Nat.le_refl _, Nat.le_refl _⟩ (fun H locs hP hD hS => ?_)
        refine lv_iload_n hx hb dX4_remove_61 rfl (lv_at hl 0 rfl) ?_
        obtain ⟨rfl, rfl⟩ := so2 hf
        exact hret _ _ _ _ dX4_remove_62 hP hD hS
  · replace hf := it_p c6 hf
    refine lv_iconst (v := (-1)) hx hb dX4_remove_20 (by decide) ?_
    obtain ⟨rfl, rfl⟩ := so2 hf
    exact hret _ _ _ _ dX4_remove_21 hP hD hS

def rr_move  (σ : RR)  : Option (Int32 × RR) :=
  bd2 (rr_moveSlice σ) fun v1 s2 =>
  some (v1, s2)
set_option maxHeartbeats 4000000 in
set_option maxRecDepth 100000 in
theorem tX4_move (l : Launch) (D : va_G) (ca : Nat → ClassId) (B : Nat → Nat) (ar : Nat → Nat → Nat) (sz : Nat)  (σ : RR)  (r : Int32) (σ9 : RR) (hf : rr_move σ = some (r, σ9)) : Ci l D ca yX4_move wsX4_move { frames := 4, cells := 0, slots := 0, locals := 97 } [.ref (B 0)] (wRR ca B ar σ) sz r (wRR ca B ar σ9) := by
  refine body_of (cc := cX4_move) (maxL := 1) (ret := (some .int)) (fun A => Qi D ca r (wRR ca B ar σ9) A) (by decide) rfl (Nat.le_of_ble_eq_true rfl) ?_
  intro p e s m below meth c A ls hx hb hr hml hts hown hlocks hA hK hP hD hS hl hN
  have hl : lv_has ls 1 [(0, .ref (B 0))] := hl
  have hret : ∀ (pc : Nat) (ls : Array Slot) (H : Heap) (locs : List Loc), decode cX4_move pc = .ok (.ireturn, 1) → va_P D vwCl (wRR ca B ar σ9) H → va_D A (wRR ca B ar σ9) → va_S A s.heap H locs → W p l e { frames := 4, cells := 0, slots := 0, locals := 97 } s m ([.ref (B 0)] : List Value).toArray below meth c H locs 0 0 (MQ below (Qi D ca r (wRR ca B ar σ9) A) ([.ref (B 0)] : List Value).toArray s 0 0 A) (F0 m pc ls [.int r]) := fun pc ls H locs hd hP hD hS => ret_i hx hb hr hlocks hK hP hD hS hd
  generalize MQ below (Qi D ca r (wRR ca B ar σ9) A) ([.ref (B 0)] : List Value).toArray s 0 0 A = Q at hret ⊢
  generalize ([.ref (B 0)] : List Value).toArray = args at hts hret ⊢
  unfold rr_move at hf
  refine lv_aload_n hx hb dX4_move_0 rfl (lv_at hl 0 rfl) ?_
  obtain ⟨v1, s2, ev1, hf⟩ := bd2_ob hf
  refine call_i (As := []) (rest := []) ⟨hx, hb, hml, hown, hts⟩ (tX4_moveSlice l D ca B ar _ σ v1 s2 ev1) (cwV 0 hts gX4_move_X4_moveSlice rfl rfl rfl (by decide +kernel) ⟨Nat.le_of_ble_eq_true rfl, Nat.le_of_ble_eq_true rfl⟩) hN hK hP hD hA hS (fr_id _ _) rfl rfl rfl hl.1 rfl (lv_room (Nat.le_of_ble_eq_true rfl)) dX4_move_1 ⟨Nat.le_refl _, Nat.le_refl _⟩ (fun H locs hP hD hS => ?_)
  obtain ⟨rfl, rfl⟩ := so2 hf
  exact hret _ _ _ _ dX4_move_4 hP hD hS

def rr_beginMove  (σ : RR)  : Option RR :=
  nm (rr_swap σ) fun s2 =>
  bd (tt_emptyWith (rr_P s2) (2 * (tb_sl (rr_O s2)))) fun s4 =>
  nm (rr_P' s2 s4) fun s5 =>
  nm (rr_begun' s5 ((rr_begun s5) + 1)) fun s6 =>
  some s6
set_option maxHeartbeats 4000000 in
set_option maxRecDepth 100000 in
theorem tX4_beginMove (l : Launch) (D : va_G) (ca : Nat → ClassId) (B : Nat → Nat) (ar : Nat → Nat → Nat) (sz : Nat)  (σ : RR)  (σ9 : RR) (hf : rr_beginMove σ = some σ9) : Cv l D ca yX4_beginMove wsX4_beginMove { frames := 2, cells := 0, slots := 0, locals := 43 } [.ref (B 0)] (wRR ca B ar σ) sz (wRR ca B ar σ9) := by
  refine body_of (cc := cX4_beginMove) (maxL := 2) (ret := none) (fun A => Qv D ca (wRR ca B ar σ9) A) (by decide) rfl (Nat.le_of_ble_eq_true rfl) ?_
  intro p e s m below meth c A ls hx hb hr hml hts hown hlocks hA hK hP hD hS hl hN
  have hl : lv_has ls 2 [(0, .ref (B 0))] := hl
  have hret : ∀ (pc : Nat) (ls : Array Slot) (H : Heap) (locs : List Loc), decode cX4_beginMove pc = .ok (.return_, 1) → va_P D vwCl (wRR ca B ar σ9) H → va_D A (wRR ca B ar σ9) → va_S A s.heap H locs → W p l e { frames := 2, cells := 0, slots := 0, locals := 43 } s m ([.ref (B 0)] : List Value).toArray below meth c H locs 0 0 (MQ below (Qv D ca (wRR ca B ar σ9) A) ([.ref (B 0)] : List Value).toArray s 0 0 A) (F0 m pc ls []) := fun pc ls H locs hd hP hD hS => ret_v hx hb hr hlocks hK hP hD hS hd
  generalize MQ below (Qv D ca (wRR ca B ar σ9) A) ([.ref (B 0)] : List Value).toArray s 0 0 A = Q at hret ⊢
  generalize ([.ref (B 0)] : List Value).toArray = args at hts hret ⊢
  have f168 : (Cond.fieldLinkNest RX4 168 "RobinRow$Table" "slots" "I" RX4).before args s = true := va_Nw.use rfl (hN.1 (RX4, 168, "RobinRow$Table", "slots", "I") (by decide +kernel))
  have f34 := hts (.fieldLink RX4 34 "RobinRow" "present" "LRobinRow$Table;") (by decide +kernel)
  have f38 := hts (.fieldLink RX4 38 "RobinRow" "old" "LRobinRow$Table;") (by decide +kernel)
  have f56 := hts (.fieldLink RX4 56 "RobinRow" "begunMoves" "I") (by decide +kernel)
  have in3 : ∀ w ∈ u_ws RX3 TX3 6, w ∈ wsX4_beginMove := by decide +kernel
  have in4 : ∀ w ∈ u_ws RX4 TX4 7, w ∈ wsX4_beginMove := by decide +kernel
  unfold rr_beginMove at hf
  refine lv_aload_n hx hb dX4_beginMove_0 rfl (lv_at hl 0 rfl) ?_
  refine va_get (D := D) (ci := 4) (v := .ref (rr_ao σ)) (C := RX4) (T := TX4) (N := 7) hx hb hts in4 hown hK hP 0 rfl rfl 4 (by decide) f38 (fun _ h9 => h9) rfl dX4_beginMove_1 ?_
  refine lv_astore_n (lv' := [(1, .ref (rr_ao σ)), (0, .ref (B 0))]) hx hb dX4_beginMove_4 rfl hl (by decide) rfl (fun ls hl => ?_)
  refine lv_aload_n hx hb dX4_beginMove_5 rfl (lv_at hl 1 rfl) ?_
  refine lv_aload_n hx hb dX4_beginMove_6 rfl (lv_at hl 1 rfl) ?_
  refine va_get (D := D) (ci := 4) (v := .ref (rr_ap σ)) (C := RX4) (T := TX4) (N := 7) hx hb hts in4 hown hK hP 0 rfl rfl 3 (by decide) f34 (fun _ h9 => h9) rfl dX4_beginMove_7 ?_
  refine va_put (D := D) (ci := 4) (v := .ref (rr_ap σ)) (ty := .object "RobinRow$Table") (C := RX4) (T := TX4) (N := 7) hx hb hts in4 tyX4 tyX4_ok nmX4 hown hK hP hD hS 0 rfl rfl 4 (by decide) f38 (fun _ h9 => h9) rfl (by decide +kernel) rfl rfl (Nat.le_of_ble_eq_true rfl) dX4_beginMove_10 (fun H locs hP hD hS => ?_)
  refine lv_aload_n hx hb dX4_beginMove_13 rfl (lv_at hl 1 rfl) ?_
  refine lv_aload_n hx hb dX4_beginMove_14 rfl (lv_at hl 0 rfl) ?_
  obtain ⟨s2, es2, hf⟩ := nm_ob hf
  refine va_put (D := D) (ci := 4) (v := .ref (rr_ao σ)) (ty := .object "RobinRow$Table") (C := RX4) (T := TX4) (N := 7) hx hb hts in4 tyX4 tyX4_ok nmX4 hown hK hP hD hS 0 rfl rfl 3 (by decide) f34 (fun _ h9 => h9) rfl (by decide +kernel) rfl rfl (Nat.le_of_ble_eq_true rfl) dX4_beginMove_15 (fun H locs hP hD hS => ?_)
  have hP : va_P D vwCl (wRR ca B ar s2) H := by rw [← es2]; exact hP.sub [0, 1, 2, 3, 4, 5, 6, 7, 8, 9, 15, 16, 17, 18, 19, 10, 11, 12, 13, 14] rfl
  have hD : va_D A (wRR ca B ar s2) := by rw [← es2]; exact hD.sub [0, 1, 2, 3, 4, 5, 6, 7, 8, 9, 15, 16, 17, 18, 19, 10, 11, 12, 13, 14] (by decide) rfl
  refine lv_aload_n hx hb dX4_beginMove_18 rfl (lv_at hl 1 rfl) ?_
  refine va_get (D := D) (ci := 4) (v := .ref (rr_ap s2)) (C := RX4) (T := TX4) (N := 7) hx hb hts in4 hown hK hP 0 rfl rfl 3 (by decide) f34 (fun _ h9 => h9) rfl dX4_beginMove_19 ?_
  refine lv_iconst (v := 2) hx hb dX4_beginMove_22 (by decide) ?_
  refine lv_aload_n hx hb dX4_beginMove_23 rfl (lv_at hl 1 rfl) ?_
  refine va_get (D := D) (ci := 4) (v := .ref (rr_ao s2)) (C := RX4) (T := TX4) (N := 7) hx hb hts in4 hown hK hP 0 rfl rfl 4 (by decide) f38 (fun _ h9 => h9) rfl dX4_beginMove_24 ?_
  refine va_getN (D := D) (ci := 3) (v := .int (tb_sl (rr_O s2))) (C := RX3) (T := TX3) (N := 6) hx hb hts in3 hown hK hP 15 rfl rfl 4 (by decide) f168 (fun _ h9 => h9) rfl dX4_beginMove_27 ?_
  refine lv_imul hx hb dX4_beginMove_30 ?_
  obtain ⟨s4, es4, hf⟩ := bd_ob hf
  refine call_v (As := [.int (2 * (tb_sl (rr_O s2)))]) (rest := []) ⟨hx, hb, hml, hown, hts⟩ (tX3_emptyWith l D ca (rr_ap s2) (ar (rr_ap s2)) _ (rr_P s2) (2 * (tb_sl (rr_O s2))) s4 es4) (cwV 1 hts gX4_beginMove_X3_emptyWith rfl rfl rfl (by decide +kernel) ⟨Nat.le_of_ble_eq_true rfl, Nat.le_of_ble_eq_true rfl⟩) hN hK hP hD hA hS (fr_RP ca B ar s2 s4) rfl rfl rfl hl.1 rfl (lv_room (Nat.le_of_ble_eq_true rfl)) dX4_beginMove_31 ⟨Nat.le_refl _, Nat.le_refl _⟩ (fun H locs hP hD hS => ?_)
  obtain ⟨s5, es5, hf⟩ := nm_ob hf
  have hP : va_P D vwCl (wRR ca B ar s5) H := by rw [← es5]; exact hP
  have hD : va_D A (wRR ca B ar s5) := by rw [← es5]; exact hD
  refine lv_aload_n hx hb dX4_beginMove_34 rfl (lv_at hl 1 rfl) ?_
  refine lv_dup hx hb dX4_beginMove_35 rfl ?_
  refine va_get (D := D) (ci := 4) (v := .int (rr_begun s5)) (C := RX4) (T := TX4) (N := 7) hx hb hts in4 hown hK hP 0 rfl rfl 6 (by decide) f56 (fun _ h9 => h9) rfl dX4_beginMove_36 ?_
  refine lv_iconst (v := 1) hx hb dX4_beginMove_39 (by decide) ?_
  refine lv_iadd hx hb dX4_beginMove_40 ?_
  obtain ⟨s6, es6, hf⟩ := nm_ob hf
  refine va_put (D := D) (ci := 4) (v := .int ((rr_begun s5) + 1)) (ty := .int) (C := RX4) (T := TX4) (N := 7) hx hb hts in4 tyX4 tyX4_ok nmX4 hown hK hP hD hS 0 rfl rfl 6 (by decide) f56 (fun _ h9 => h9) rfl (by decide +kernel) rfl rfl (Nat.le_of_ble_eq_true rfl) dX4_beginMove_41 (fun H locs hP hD hS => ?_)
  have hP : va_P D vwCl (wRR ca B ar s6) H := by rw [← es6]; exact hP
  have hD : va_D A (wRR ca B ar s6) := by rw [← es6]; exact hD
  obtain rfl := so1 hf
  exact hret _ _ _ _ dX4_beginMove_44 hP hD hS

def rr_putNew_26   (σ : RR) (l1 : Int32) (l2 : Int32) : Option RR :=
  bd (rr_hash σ l1) fun v5 =>
  bd (tt_carryIn (rr_P σ) l1 l2 v5) fun s7 =>
  nm (rr_P' σ s7) fun s8 =>
  some s8
def rr_putNew  (σ : RR) (a0 : Int32) (a1 : Int32) : Option RR :=
  bd (rr_size σ) fun v1 =>
  if (8 * (v1 + 1)) ≤ (7 * (tb_sl (rr_P σ))) then
    rr_putNew_26 σ a0 a1
  else
    bd (rr_beginMove σ) fun s4 =>
    rr_putNew_26 s4 a0 a1
set_option maxHeartbeats 4000000 in
set_option maxRecDepth 100000 in
theorem tX4_putNew (l : Launch) (D : va_G) (ca : Nat → ClassId) (B : Nat → Nat) (ar : Nat → Nat → Nat) (sz : Nat)  (σ : RR) (a0 : Int32) (a1 : Int32) (σ9 : RR) (hf : rr_putNew σ a0 a1 = some σ9) : Cv l D ca yX4_putNew wsX4_putNew { frames := 3, cells := 0, slots := 0, locals := 75 } [.ref (B 0), .int a0, .int a1] (wRR ca B ar σ) sz (wRR ca B ar σ9) := by
  refine body_of (cc := cX4_putNew) (maxL := 3) (ret := none) (fun A => Qv D ca (wRR ca B ar σ9) A) (by decide) rfl (Nat.le_of_ble_eq_true rfl) ?_
  intro p e s m below meth c A ls hx hb hr hml hts hown hlocks hA hK hP hD hS hl hN
  have hl : lv_has ls 3 [(0, .ref (B 0)), (1, .int a0), (2, .int a1)] := hl
  have hret : ∀ (pc : Nat) (ls : Array Slot) (H : Heap) (locs : List Loc), decode cX4_putNew pc = .ok (.return_, 1) → va_P D vwCl (wRR ca B ar σ9) H → va_D A (wRR ca B ar σ9) → va_S A s.heap H locs → W p l e { frames := 3, cells := 0, slots := 0, locals := 75 } s m ([.ref (B 0), .int a0, .int a1] : List Value).toArray below meth c H locs 0 0 (MQ below (Qv D ca (wRR ca B ar σ9) A) ([.ref (B 0), .int a0, .int a1] : List Value).toArray s 0 0 A) (F0 m pc ls []) := fun pc ls H locs hd hP hD hS => ret_v hx hb hr hlocks hK hP hD hS hd
  generalize MQ below (Qv D ca (wRR ca B ar σ9) A) ([.ref (B 0), .int a0, .int a1] : List Value).toArray s 0 0 A = Q at hret ⊢
  generalize ([.ref (B 0), .int a0, .int a1] : List Value).toArray = args at hts hret ⊢
  have f168 : (Cond.fieldLinkNest RX4 168 "RobinRow$Table" "slots" "I" RX4).before args s = true := va_Nw.use rfl (hN.1 (RX4, 168, "RobinRow$Table", "slots", "I") (by decide +kernel))
  have f34 := hts (.fieldLink RX4 34 "RobinRow" "present" "LRobinRow$Table;") (by decide +kernel)
  have in3 : ∀ w ∈ u_ws RX3 TX3 6, w ∈ wsX4_putNew := by decide +kernel
  have in4 : ∀ w ∈ u_ws RX4 TX4 7, w ∈ wsX4_putNew := by decide +kernel
  have J26 : ∀ (H : Heap) (locs : List Loc) (ls : Array Slot) (σ : RR) (l1 : Int32) (l2 : Int32), rr_putNew_26  σ l1 l2 = some σ9 → va_P D vwCl (wRR ca B ar σ) H → va_D A (wRR ca B ar σ) → va_S A s.heap H locs → lv_has ls 3 [(0, .ref (B 0)), (1, .int l1), (2, .int l2)] → W p l e { frames := 3, cells := 0, slots := 0, locals := 75 } s m args below meth c H locs 0 0 Q (F0 m 26 ls []) := by
    intro H locs ls σ l1 l2 hf hP hD hS hl
    unfold rr_putNew_26 at hf
    refine lv_aload_n hx hb dX4_putNew_26 rfl (lv_at hl 0 rfl) ?_
    refine va_get (D := D) (ci := 4) (v := .ref (rr_ap σ)) (C := RX4) (T := TX4) (N := 7) hx hb hts in4 hown hK hP 0 rfl rfl 3 (by decide) f34 (fun _ h9 => h9) rfl dX4_putNew_27 ?_
    refine lv_iload_n hx hb dX4_putNew_30 rfl (lv_at hl 1 rfl) ?_
    refine lv_iload_n hx hb dX4_putNew_31 rfl (lv_at hl 2 rfl) ?_
    refine lv_aload_n hx hb dX4_putNew_32 rfl (lv_at hl 0 rfl) ?_
    refine lv_iload_n hx hb dX4_putNew_33 rfl (lv_at hl 1 rfl) ?_
    obtain ⟨v5, ev5, hf⟩ := bd_ob hf
    refine call_i (As := [.int l1]) (rest := [.int l2, .int l1, .ref (rr_ap σ)]) ⟨hx, hb, hml, hown, hts⟩ (tX4_hash l D ca B ar _ σ l1 v5 ev5) (cwV 1 hts gX4_putNew_X4_hash rfl rfl rfl (by decide +kernel) ⟨Nat.le_of_ble_eq_true rfl, Nat.le_of_ble_eq_true rfl⟩) hN hK hP hD hA hS (fr_id _ _) rfl rfl rfl hl.1 rfl (lv_room (Nat.le_of_ble_eq_true rfl)) dX4_putNew_34 ⟨Nat.le_refl _, Nat.le_refl _⟩ (fun H locs hP hD hS => ?_)
    obtain ⟨s7, es7, hf⟩ := bd_ob hf
    refine call_v (As := [.int l1, .int l2, .int v5]) (rest := []) ⟨hx, hb, hml, hown, hts⟩ (tX3_carryIn l D ca (rr_ap σ) (ar (rr_ap σ)) _ (rr_P σ) l1 l2 v5 s7 es7) (cwV 3 hts gX4_putNew_X3_carryIn rfl rfl rfl (by decide +kernel) ⟨Nat.le_of_ble_eq_true rfl, Nat.le_of_ble_eq_true rfl⟩) hN hK hP hD hA hS (fr_RP ca B ar σ s7) rfl rfl rfl hl.1 rfl (lv_room (Nat.le_of_ble_eq_true rfl)) dX4_putNew_37 ⟨Nat.le_refl _, Nat.le_refl _⟩ (fun H locs hP hD hS => ?_)
    obtain ⟨s8, es8, hf⟩ := nm_ob hf
    have hP : va_P D vwCl (wRR ca B ar s8) H := by rw [← es8]; exact hP
    have hD : va_D A (wRR ca B ar s8) := by rw [← es8]; exact hD
    obtain rfl := so1 hf
    exact hret _ _ _ _ dX4_putNew_40 hP hD hS
  unfold rr_putNew at hf
  refine lv_bipush (v := 8) hx hb dX4_putNew_0 (by decide) ?_
  refine lv_aload_n hx hb dX4_putNew_2 rfl (lv_at hl 0 rfl) ?_
  obtain ⟨v1, ev1, hf⟩ := bd_ob hf
  refine call_i (As := []) (rest := [.int 8]) ⟨hx, hb, hml, hown, hts⟩ (tX4_size l D ca B ar _ σ v1 ev1) (cwV 0 hts gX4_putNew_X4_size rfl rfl rfl (by decide +kernel) ⟨Nat.le_of_ble_eq_true rfl, Nat.le_of_ble_eq_true rfl⟩) hN hK hP hD hA hS (fr_id _ _) rfl rfl rfl hl.1 rfl (lv_room (Nat.le_of_ble_eq_true rfl)) dX4_putNew_3 ⟨Nat.le_refl _, Nat.le_refl _⟩ (fun H locs hP hD hS => ?_)
  refine lv_iconst (v := 1) hx hb dX4_putNew_6 (by decide) ?_
  refine lv_iadd hx hb dX4_putNew_7 ?_
  refine lv_imul hx hb dX4_putNew_8 ?_
  refine lv_bipush (v := 7) hx hb dX4_putNew_9 (by decide) ?_
  refine lv_aload_n hx hb dX4_putNew_11 rfl (lv_at hl 0 rfl) ?_
  refine va_get (D := D) (ci := 4) (v := .ref (rr_ap σ)) (C := RX4) (T := TX4) (N := 7) hx hb hts in4 hown hK hP 0 rfl rfl 3 (by decide) f34 (fun _ h9 => h9) rfl dX4_putNew_12 ?_
  refine va_getN (D := D) (ci := 3) (v := .int (tb_sl (rr_P σ))) (C := RX3) (T := TX3) (N := 6) hx hb hts in3 hown hK hP 10 rfl rfl 4 (by decide) f168 (fun _ h9 => h9) rfl dX4_putNew_15 ?_
  refine lv_imul hx hb dX4_putNew_18 ?_
  refine lv_icmp_le (tgt := 26) hx hb dX4_putNew_19 (by decide) (fun c2 => ?_) (fun c2 => ?_)
  · replace hf := it_p c2 hf
    exact J26 _ _ _ _ _ _ hf hP hD hS (lv_sub hl [0, 1, 2] rfl)
  · replace hf := it_n c2 hf
    refine lv_aload_n hx hb dX4_putNew_22 rfl (lv_at hl 0 rfl) ?_
    obtain ⟨s4, es4, hf⟩ := bd_ob hf
    refine call_v (As := []) (rest := []) ⟨hx, hb, hml, hown, hts⟩ (tX4_beginMove l D ca B ar _ σ s4 es4) (cwV 0 hts gX4_putNew_X4_beginMove rfl rfl rfl (by decide +kernel) ⟨Nat.le_of_ble_eq_true rfl, Nat.le_of_ble_eq_true rfl⟩) hN hK hP hD hA hS (fr_id _ _) rfl rfl rfl hl.1 rfl (lv_room (Nat.le_of_ble_eq_true rfl)) dX4_putNew_23 ⟨Nat.le_refl _, Nat.le_refl _⟩ (fun H locs hP hD hS => ?_)
    exact J26 _ _ _ _ _ _ hf hP hD hS (lv_sub hl [0, 1, 2] rfl)

def rr_put_43   (σ : RR) (l1 : Int32) (l2 : Int32) : Option (Int32 × RR) :=
  bd2 (rr_moveSlice σ) fun v7 s8 =>
  bd (rr_lookUp s8 l1) fun s10 =>
  bd (ss_hasFound (rr_se s10)) fun v11 =>
  if v11 = 0 then
    bd (rr_putNew s10 l1 l2) fun s14 =>
    some ((-1), s14)
  else
    dsp (se_tb (rr_se s10)) (rr_ap s10) (rr_ao s10) (
      bd2 (tt_exchangeValue (rr_P s10) (se_slot (rr_se s10)) l2) fun v16 s17 =>
      nm (rr_P' s10 s17) fun s18 =>
      some (v16, s18)) (
      bd2 (tt_exchangeValue (rr_O s10) (se_slot (rr_se s10)) l2) fun v19 s20 =>
      nm (rr_O' s10 s20) fun s21 =>
      some (v19, s21))
def rr_put  (σ : RR) (a0 : Int32) (a1 : Int32) : Option (Int32 × RR) :=
  if 0 ≤ a1 then
    bd (rr_size σ) fun v2 =>
    if v2 < 200 then
      rr_put_43 σ a0 a1
    else
      bd2 (rr_get σ a0) fun v4 s5 =>
      if v4 = (-1) then
        none
      else
        rr_put_43 s5 a0 a1
  else
    none
set_option maxHeartbeats 4000000 in
set_option maxRecDepth 100000 in
theorem tX4_put (l : Launch) (D : va_G) (ca : Nat → ClassId) (B : Nat → Nat) (ar : Nat → Nat → Nat) (sz : Nat)  (σ : RR) (a0 : Int32) (a1 : Int32) (r : Int32) (σ9 : RR) (hf : rr_put σ a0 a1 = some (r, σ9)) : Ci l D ca yX4_put wsX4_put { frames := 5, cells := 0, slots := 0, locals := 117 } [.ref (B 0), .int a0, .int a1] (wRR ca B ar σ) sz r (wRR ca B ar σ9) := by
  refine body_of (cc := cX4_put) (maxL := 3) (ret := (some .int)) (fun A => Qi D ca r (wRR ca B ar σ9) A) (by decide) rfl (Nat.le_of_ble_eq_true rfl) ?_
  intro p e s m below meth c A ls hx hb hr hml hts hown hlocks hA hK hP hD hS hl hN
  have hl : lv_has ls 3 [(0, .ref (B 0)), (1, .int a0), (2, .int a1)] := hl
  have hret : ∀ (pc : Nat) (ls : Array Slot) (H : Heap) (locs : List Loc), decode cX4_put pc = .ok (.ireturn, 1) → va_P D vwCl (wRR ca B ar σ9) H → va_D A (wRR ca B ar σ9) → va_S A s.heap H locs → W p l e { frames := 5, cells := 0, slots := 0, locals := 117 } s m ([.ref (B 0), .int a0, .int a1] : List Value).toArray below meth c H locs 0 0 (MQ below (Qi D ca r (wRR ca B ar σ9) A) ([.ref (B 0), .int a0, .int a1] : List Value).toArray s 0 0 A) (F0 m pc ls [.int r]) := fun pc ls H locs hd hP hD hS => ret_i hx hb hr hlocks hK hP hD hS hd
  generalize MQ below (Qi D ca r (wRR ca B ar σ9) A) ([.ref (B 0), .int a0, .int a1] : List Value).toArray s 0 0 A = Q at hret ⊢
  generalize ([.ref (B 0), .int a0, .int a1] : List Value).toArray = args at hts hret ⊢
  have f18 := hts (.fieldLink RX4 18 "RobinRow" "search" "LRobinRow$Search;") (by decide +kernel)
  have f87 : (Cond.fieldLinkNest RX4 87 "RobinRow$Search" "table" "LRobinRow$Table;" RX4).before args s = true := va_Nw.use rfl (hN.1 (RX4, 87, "RobinRow$Search", "table", "LRobinRow$Table;") (by decide +kernel))
  have f90 : (Cond.fieldLinkNest RX4 90 "RobinRow$Search" "slot" "I" RX4).before args s = true := va_Nw.use rfl (hN.1 (RX4, 90, "RobinRow$Search", "slot", "I") (by decide +kernel))
  have in1 : ∀ w ∈ u_ws RX1 TX1 4, w ∈ wsX4_put := by decide +kernel
  have in4 : ∀ w ∈ u_ws RX4 TX4 7, w ∈ wsX4_put := by decide +kernel
  have J43 : ∀ (H : Heap) (locs : List Loc) (ls : Array Slot) (σ : RR) (l1 : Int32) (l2 : Int32), rr_put_43  σ l1 l2 = some (r, σ9) → va_P D vwCl (wRR ca B ar σ) H → va_D A (wRR ca B ar σ) → va_S A s.heap H locs → lv_has ls 3 [(0, .ref (B 0)), (1, .int l1), (2, .int l2)] → W p l e { frames := 5, cells := 0, slots := 0, locals := 117 } s m args below meth c H locs 0 0 Q (F0 m 43 ls []) := by
    intro H locs ls σ l1 l2 hf hP hD hS hl
    unfold rr_put_43 at hf
    refine lv_aload_n hx hb dX4_put_43 rfl (lv_at hl 0 rfl) ?_
    obtain ⟨v7, s8, ev7, hf⟩ := bd2_ob hf
    refine call_i (As := []) (rest := []) ⟨hx, hb, hml, hown, hts⟩ (tX4_moveSlice l D ca B ar _ σ v7 s8 ev7) (cwV 0 hts gX4_put_X4_moveSlice rfl rfl rfl (by decide +kernel) ⟨Nat.le_of_ble_eq_true rfl, Nat.le_of_ble_eq_true rfl⟩) hN hK hP hD hA hS (fr_id _ _) rfl rfl rfl hl.1 rfl (lv_room (Nat.le_of_ble_eq_true rfl)) dX4_put_44 ⟨Nat.le_refl _, Nat.le_refl _⟩ (fun H locs hP hD hS => ?_)
    refine lv_pop hx hb dX4_put_47 rfl ?_
    refine lv_aload_n hx hb dX4_put_48 rfl (lv_at hl 0 rfl) ?_
    refine lv_iload_n hx hb dX4_put_49 rfl (lv_at hl 1 rfl) ?_
    obtain ⟨s10, es10, hf⟩ := bd_ob hf
    refine call_v (As := [.int l1]) (rest := []) ⟨hx, hb, hml, hown, hts⟩ (tX4_lookUp l D ca B ar _ s8 l1 s10 es10) (cwV 1 hts gX4_put_X4_lookUp rfl rfl rfl (by decide +kernel) ⟨Nat.le_of_ble_eq_true rfl, Nat.le_of_ble_eq_true rfl⟩) hN hK hP hD hA hS (fr_id _ _) rfl rfl rfl hl.1 rfl (lv_room (Nat.le_of_ble_eq_true rfl)) dX4_put_50 ⟨Nat.le_refl _, Nat.le_refl _⟩ (fun H locs hP hD hS => ?_)
    refine lv_aload_n hx hb dX4_put_53 rfl (lv_at hl 0 rfl) ?_
    refine va_get (D := D) (ci := 4) (v := .ref (B 6)) (C := RX4) (T := TX4) (N := 7) hx hb hts in4 hown hK hP 0 rfl rfl 1 (by decide) f18 (fun _ h9 => h9) rfl dX4_put_54 ?_
    obtain ⟨v11, ev11, hf⟩ := bd_ob hf
    refine call_i (As := []) (rest := []) ⟨hx, hb, hml, hown, hts⟩ (tX1_hasFound l D ca (B 6) _ (rr_se s10) v11 ev11) (cwV 0 hts gX4_put_X1_hasFound rfl rfl rfl (by decide +kernel) ⟨Nat.le_of_ble_eq_true rfl, Nat.le_of_ble_eq_true rfl⟩) hN hK hP hD hA hS (fr_RSp ca B ar s10) rfl rfl rfl hl.1 rfl (lv_room (Nat.le_of_ble_eq_true rfl)) dX4_put_57 ⟨Nat.le_refl _, Nat.le_refl _⟩ (fun H locs hP hD hS => ?_)
    refine lv_if_eq (tgt := 82) hx hb dX4_put_60 (by decide) (fun c12 => ?_) (fun c12 => ?_)
    · replace hf := it_p c12 hf
      refine lv_aload_n hx hb dX4_put_82 rfl (lv_at hl 0 rfl) ?_
      refine lv_iload_n hx hb dX4_put_83 rfl (lv_at hl 1 rfl) ?_
      refine lv_iload_n hx hb dX4_put_84 rfl (lv_at hl 2 rfl) ?_
      obtain ⟨s14, es14, hf⟩ := bd_ob hf
      refine call_v (As := [.int l1, .int l2]) (rest := []) ⟨hx, hb, hml, hown, hts⟩ (tX4_putNew l D ca B ar _ s10 l1 l2 s14 es14) (cwV 2 hts gX4_put_X4_putNew rfl rfl rfl (by decide +kernel) ⟨Nat.le_of_ble_eq_true rfl, Nat.le_of_ble_eq_true rfl⟩) hN hK hP hD hA hS (fr_id _ _) rfl rfl rfl hl.1 rfl (lv_room (Nat.le_of_ble_eq_true rfl)) dX4_put_85 ⟨Nat.le_refl _, Nat.le_refl _⟩ (fun H locs hP hD hS => ?_)
      refine lv_iconst (v := (-1)) hx hb dX4_put_88 (by decide) ?_
      obtain ⟨rfl, rfl⟩ := so2 hf
      exact hret _ _ _ _ dX4_put_89 hP hD hS
    · replace hf := it_n c12 hf
      refine lv_aload_n hx hb dX4_put_63 rfl (lv_at hl 0 rfl) ?_
      refine va_get (D := D) (ci := 4) (v := .ref (B 6)) (C := RX4) (T := TX4) (N := 7) hx hb hts in4 hown hK hP 0 rfl rfl 1 (by decide) f18 (fun _ h9 => h9) rfl dX4_put_64 ?_
      refine va_getN (D := D) (ci := 1) (v := va_rf (se_tb (rr_se s10))) (C := RX1) (T := TX1) (N := 4) hx hb hts in1 hown hK hP 6 rfl rfl 0 (by decide) f87 (fun _ h9 => h9) rfl dX4_put_67 ?_
      refine lv_aload_n hx hb dX4_put_70 rfl (lv_at hl 0 rfl) ?_
      refine va_get (D := D) (ci := 4) (v := .ref (B 6)) (C := RX4) (T := TX4) (N := 7) hx hb hts in4 hown hK hP 0 rfl rfl 1 (by decide) f18 (fun _ h9 => h9) rfl dX4_put_71 ?_
      refine va_getN (D := D) (ci := 1) (v := .int (se_slot (rr_se s10))) (C := RX1) (T := TX1) (N := 4) hx hb hts in1 hown hK hP 6 rfl rfl 1 (by decide) f90 (fun _ h9 => h9) rfl dX4_put_74 ?_
      refine lv_iload_n hx hb dX4_put_77 rfl (lv_at hl 2 rfl) ?_
      rcases dsp_ob hf with ⟨c15, hf⟩ | ⟨c15, hf⟩
      · refine W.eq (g2 := F0 m 78 ls [.int l2, .int (se_slot (rr_se s10)), .ref (rr_ap s10)]) (by rw [c15]; rfl) ?_
        obtain ⟨v16, s17, ev16, hf⟩ := bd2_ob hf
        refine call_i (As := [.int (se_slot (rr_se s10)), .int l2]) (rest := []) ⟨hx, hb, hml, hown, hts⟩ (tX3_exchangeValue l D ca (rr_ap s10) (ar (rr_ap s10)) _ (rr_P s10) (se_slot (rr_se s10)) l2 v16 s17 ev16) (cwV 2 hts gX4_put_X3_exchangeValue rfl rfl rfl (by decide +kernel) ⟨Nat.le_of_ble_eq_true rfl, Nat.le_of_ble_eq_true rfl⟩) hN hK hP hD hA hS (fr_RP ca B ar s10 s17) rfl rfl rfl hl.1 rfl (lv_room (Nat.le_of_ble_eq_true rfl)) dX4_put_78 ⟨Nat.le_refl _, Nat.le_refl _⟩ (fun H locs hP hD hS => ?_)
        obtain ⟨s18, es18, hf⟩ := nm_ob hf
        have hP : va_P D vwCl (wRR ca B ar s18) H := by rw [← es18]; exact hP
        have hD : va_D A (wRR ca B ar s18) := by rw [← es18]; exact hD
        obtain ⟨rfl, rfl⟩ := so2 hf
        exact hret _ _ _ _ dX4_put_81 hP hD hS
      · refine W.eq (g2 := F0 m 78 ls [.int l2, .int (se_slot (rr_se s10)), .ref (rr_ao s10)]) (by rw [c15]; rfl) ?_
        obtain ⟨v19, s20, ev19, hf⟩ := bd2_ob hf
        refine call_i (As := [.int (se_slot (rr_se s10)), .int l2]) (rest := []) ⟨hx, hb, hml, hown, hts⟩ (tX3_exchangeValue l D ca (rr_ao s10) (ar (rr_ao s10)) _ (rr_O s10) (se_slot (rr_se s10)) l2 v19 s20 ev19) (cwV 2 hts gX4_put_X3_exchangeValue rfl rfl rfl (by decide +kernel) ⟨Nat.le_of_ble_eq_true rfl, Nat.le_of_ble_eq_true rfl⟩) hN hK hP hD hA hS (fr_RO ca B ar s10 s20) rfl rfl rfl hl.1 rfl (lv_room (Nat.le_of_ble_eq_true rfl)) dX4_put_78 ⟨Nat.le_refl _, Nat.le_refl _⟩ (fun H locs hP hD hS => ?_)
        obtain ⟨s21, es21, hf⟩ := nm_ob hf
        have hP : va_P D vwCl (wRR ca B ar s21) H := by rw [← es21]; exact hP
        have hD : va_D A (wRR ca B ar s21) := by rw [← es21]; exact hD
        obtain ⟨rfl, rfl⟩ := so2 hf
        exact hret _ _ _ _ dX4_put_81 hP hD hS
  unfold rr_put at hf
  refine lv_iload_n hx hb dX4_put_0 rfl (lv_at hl 2 rfl) ?_
  refine lv_if_ge (tgt := 14) hx hb dX4_put_1 (by decide) (fun c1 => ?_) (fun c1 => ?_)
  · replace hf := it_p c1 hf
    refine lv_aload_n hx hb dX4_put_14 rfl (lv_at hl 0 rfl) ?_
    obtain ⟨v2, ev2, hf⟩ := bd_ob hf
    refine call_i (As := []) (rest := []) ⟨hx, hb, hml, hown, hts⟩ (tX4_size l D ca B ar _ σ v2 ev2) (cwV 0 hts gX4_put_X4_size rfl rfl rfl (by decide +kernel) ⟨Nat.le_of_ble_eq_true rfl, Nat.le_of_ble_eq_true rfl⟩) hN hK hP hD hA hS (fr_id _ _) rfl rfl rfl hl.1 rfl (lv_room (Nat.le_of_ble_eq_true rfl)) dX4_put_15 ⟨Nat.le_refl _, Nat.le_refl _⟩ (fun H locs hP hD hS => ?_)
    refine lv_sipush (v := 200) hx hb dX4_put_18 (by decide) ?_
    refine lv_icmp_lt (tgt := 43) hx hb dX4_put_21 (by decide) (fun c3 => ?_) (fun c3 => ?_)
    · replace hf := it_p c3 hf
      exact J43 _ _ _ _ _ _ hf hP hD hS (lv_sub hl [0, 1, 2] rfl)
    · replace hf := it_n c3 hf
      refine lv_aload_n hx hb dX4_put_24 rfl (lv_at hl 0 rfl) ?_
      refine lv_iload_n hx hb dX4_put_25 rfl (lv_at hl 1 rfl) ?_
      obtain ⟨v4, s5, ev4, hf⟩ := bd2_ob hf
      refine call_i (As := [.int a0]) (rest := []) ⟨hx, hb, hml, hown, hts⟩ (tX4_get l D ca B ar _ σ a0 v4 s5 ev4) (cwV 1 hts gX4_put_X4_get rfl rfl rfl (by decide +kernel) ⟨Nat.le_of_ble_eq_true rfl, Nat.le_of_ble_eq_true rfl⟩) hN hK hP hD hA hS (fr_id _ _) rfl rfl rfl hl.1 rfl (lv_room (Nat.le_of_ble_eq_true rfl)) dX4_put_26 ⟨Nat.le_refl _, Nat.le_refl _⟩ (fun H locs hP hD hS => ?_)
      refine lv_iconst (v := (-1)) hx hb dX4_put_29 (by decide) ?_
      refine lv_icmp_ne (tgt := 43) hx hb dX4_put_30 (by decide) (fun c6 => ?_) (fun c6 => ?_)
      · replace hf := it_n c6 hf
        exact J43 _ _ _ _ _ _ hf hP hD hS (lv_sub hl [0, 1, 2] rfl)
      · replace hf := it_p c6 hf
        exact absurd hf (fun h => by cases h)
  · replace hf := it_n c1 hf
    exact absurd hf (fun h => by cases h)

def rr_longest_4  (σ : RR) (k4 : Int32 → Int32 → Option Int32)  (l1 : Int32) (l2 : Int32) : Option Int32 :=
  if (tb_sl (rr_P σ)) ≤ l2 then
    some l1
  else
    bd (tt_distanceIn (rr_P σ) l2) fun v2 =>
    nm (if l1 < v2 then v2 else l1) fun v3 =>
    nm (l2 + 1) fun v4 =>
    k4 v3 v4
def rr_longest_lp4  (σ : RR)  : Nat → Int32 → Int32 → Option Int32 := itF (fun _ _ => none) (fun k => rr_longest_4 σ  k)
def rr_longest  (σ : RR)  : Option Int32 :=
  rr_longest_lp4 σ FU (-1) 0
set_option maxHeartbeats 4000000 in
set_option maxRecDepth 100000 in
theorem tX4_longest (l : Launch) (D : va_G) (ca : Nat → ClassId) (B : Nat → Nat) (ar : Nat → Nat → Nat) (sz : Nat)  (σ : RR)  (r : Int32) (hf : rr_longest σ = some r) : Ci l D ca yX4_longest wsX4_longest { frames := 2, cells := 0, slots := 0, locals := 42 } [.ref (B 0)] (wRR ca B ar σ) sz r (wRR ca B ar σ) := by
  refine body_of (cc := cX4_longest) (maxL := 3) (ret := (some .int)) (fun A => Qi D ca r (wRR ca B ar σ) A) (by decide) rfl (Nat.le_of_ble_eq_true rfl) ?_
  intro p e s m below meth c A ls hx hb hr hml hts hown hlocks hA hK hP hD hS hl hN
  have hl : lv_has ls 3 [(0, .ref (B 0))] := hl
  have hret : ∀ (pc : Nat) (ls : Array Slot) (H : Heap) (locs : List Loc), decode cX4_longest pc = .ok (.ireturn, 1) → va_P D vwCl (wRR ca B ar σ) H → va_D A (wRR ca B ar σ) → va_S A s.heap H locs → W p l e { frames := 2, cells := 0, slots := 0, locals := 42 } s m ([.ref (B 0)] : List Value).toArray below meth c H locs 0 0 (MQ below (Qi D ca r (wRR ca B ar σ) A) ([.ref (B 0)] : List Value).toArray s 0 0 A) (F0 m pc ls [.int r]) := fun pc ls H locs hd hP hD hS => ret_i hx hb hr hlocks hK hP hD hS hd
  generalize MQ below (Qi D ca r (wRR ca B ar σ) A) ([.ref (B 0)] : List Value).toArray s 0 0 A = Q at hret ⊢
  generalize ([.ref (B 0)] : List Value).toArray = args at hts hret ⊢
  have f168 : (Cond.fieldLinkNest RX4 168 "RobinRow$Table" "slots" "I" RX4).before args s = true := va_Nw.use rfl (hN.1 (RX4, 168, "RobinRow$Table", "slots", "I") (by decide +kernel))
  have f34 := hts (.fieldLink RX4 34 "RobinRow" "present" "LRobinRow$Table;") (by decide +kernel)
  have in3 : ∀ w ∈ u_ws RX3 TX3 6, w ∈ wsX4_longest := by decide +kernel
  have in4 : ∀ w ∈ u_ws RX4 TX4 7, w ∈ wsX4_longest := by decide +kernel
  have J4 : ∀ (n4 : Nat) (H : Heap) (locs : List Loc) (ls : Array Slot)  (l1 : Int32) (l2 : Int32), rr_longest_lp4 σ  n4 l1 l2 = some r → va_P D vwCl (wRR ca B ar σ) H → va_D A (wRR ca B ar σ) → va_S A s.heap H locs → lv_has ls 3 [(0, .ref (B 0)), (1, .int l1), (2, .int l2)] → W p l e { frames := 2, cells := 0, slots := 0, locals := 42 } s m args below meth c H locs 0 0 Q (F0 m 4 ls []) := by
    intro n4
    induction n4 with
    | zero =>
      intro H locs ls l1 l2 hf hP hD hS hl
      exact absurd hf (fun h => by cases h)
    | succ n4 ih4 =>
      intro H locs ls l1 l2 hf hP hD hS hl
      replace hf : rr_longest_4 σ  (rr_longest_lp4 σ  n4) l1 l2 = some r := hf
      unfold rr_longest_4 at hf
      refine lv_iload_n hx hb dX4_longest_4 rfl (lv_at hl 2 rfl) ?_
      refine lv_aload_n hx hb dX4_longest_5 rfl (lv_at hl 0 rfl) ?_
      refine va_get (D := D) (ci := 4) (v := .ref (rr_ap σ)) (C := RX4) (T := TX4) (N := 7) hx hb hts in4 hown hK hP 0 rfl rfl 3 (by decide) f34 (fun _ h9 => h9) rfl dX4_longest_6 ?_
      refine va_getN (D := D) (ci := 3) (v := .int (tb_sl (rr_P σ))) (C := RX3) (T := TX3) (N := 6) hx hb hts in3 hown hK hP 10 rfl rfl 4 (by decide) f168 (fun _ h9 => h9) rfl dX4_longest_9 ?_
      refine lv_icmp_ge (tgt := 34) hx hb dX4_longest_12 (by decide) (fun c1 => ?_) (fun c1 => ?_)
      · replace hf := it_p c1 hf
        refine lv_iload_n hx hb dX4_longest_34 rfl (lv_at hl 1 rfl) ?_
        obtain rfl := so1 hf
        exact hret _ _ _ _ dX4_longest_35 hP hD hS
      · replace hf := it_n c1 hf
        refine lv_iload_n hx hb dX4_longest_15 rfl (lv_at hl 1 rfl) ?_
        refine lv_aload_n hx hb dX4_longest_16 rfl (lv_at hl 0 rfl) ?_
        refine va_get (D := D) (ci := 4) (v := .ref (rr_ap σ)) (C := RX4) (T := TX4) (N := 7) hx hb hts in4 hown hK hP 0 rfl rfl 3 (by decide) f34 (fun _ h9 => h9) rfl dX4_longest_17 ?_
        refine lv_iload_n hx hb dX4_longest_20 rfl (lv_at hl 2 rfl) ?_
        obtain ⟨v2, ev2, hf⟩ := bd_ob hf
        refine call_i (As := [.int l2]) (rest := [.int l1]) ⟨hx, hb, hml, hown, hts⟩ (tX3_distanceIn l D ca (rr_ap σ) (ar (rr_ap σ)) _ (rr_P σ) l2 v2 ev2) (cwV 1 hts gX4_longest_X3_distanceIn rfl rfl rfl (by decide +kernel) ⟨Nat.le_of_ble_eq_true rfl, Nat.le_of_ble_eq_true rfl⟩) hN hK hP hD hA hS (fr_RPp ca B ar σ) rfl rfl rfl hl.1 rfl (lv_room (Nat.le_of_ble_eq_true rfl)) dX4_longest_21 ⟨Nat.le_refl _, Nat.le_refl _⟩ (fun H locs hP hD hS => ?_)
        refine va_mmax hx hb (hml.trans hl.1.symm) hown (hts (.methodLink RX4 188 Lib.Math.max.name) (by decide +kernel)) (hts (.static Lib.Math.max.name) (by decide +kernel)) (hts (.initialized "java/lang/Math") (by decide +kernel)) (hts (.code Lib.Math.max.name Lib.Math.max.code 2 (some .int)) (by decide +kernel)) (Nat.le_of_ble_eq_true rfl) (Nat.le_of_ble_eq_true rfl) (Nat.zero_le _) (Nat.zero_le _) dX4_longest_24 ?_
        obtain ⟨v3, ev3, hf⟩ := nm_ob hf
        refine tp_i ev3 ?_
        refine lv_istore_n (lv' := [(1, .int v3), (0, .ref (B 0)), (2, .int l2)]) hx hb dX4_longest_27 rfl hl (by decide) rfl (fun ls hl => ?_)
        obtain ⟨v4, ev4, hf⟩ := nm_ob hf
        refine lv_iinc (v := v4) (lv' := [(2, .int v4), (1, .int v3), (0, .ref (B 0))]) hx hb dX4_longest_28 hl (k := 2) rfl (by rw [← ev4]; rfl) (by decide) rfl (fun ls hl => ?_)
        refine lv_goto (tgt := 4) hx hb dX4_longest_31 (by decide) ?_
        exact ih4 _ _ _ _ _ hf hP hD hS (lv_sub hl [2, 1, 0] rfl)
  unfold rr_longest at hf
  refine lv_iconst (v := (-1)) hx hb dX4_longest_0 (by decide) ?_
  refine lv_istore_n (lv' := [(1, .int (-1)), (0, .ref (B 0))]) hx hb dX4_longest_1 rfl hl (by decide) rfl (fun ls hl => ?_)
  refine lv_iconst (v := 0) hx hb dX4_longest_2 (by decide) ?_
  refine lv_istore_n (lv' := [(2, .int 0), (1, .int (-1)), (0, .ref (B 0))]) hx hb dX4_longest_3 rfl hl (by decide) rfl (fun ls hl => ?_)
  exact J4 FU _ _ _ _ _ hf hP hD hS (lv_sub hl [2, 1, 0] rfl)

def rr_total_4  (σ : RR) (k4 : Int32 → Int32 → Option Int32)  (l1 : Int32) (l2 : Int32) : Option Int32 :=
  if (tb_sl (rr_P σ)) ≤ l2 then
    some l1
  else
    bd (tt_distanceIn (rr_P σ) l2) fun v2 =>
    nm (l1 + (if 0 < v2 then v2 else 0)) fun v3 =>
    nm (l2 + 1) fun v4 =>
    k4 v3 v4
def rr_total_lp4  (σ : RR)  : Nat → Int32 → Int32 → Option Int32 := itF (fun _ _ => none) (fun k => rr_total_4 σ  k)
def rr_total  (σ : RR)  : Option Int32 :=
  rr_total_lp4 σ FU 0 0
set_option maxHeartbeats 4000000 in
set_option maxRecDepth 100000 in
theorem tX4_total (l : Launch) (D : va_G) (ca : Nat → ClassId) (B : Nat → Nat) (ar : Nat → Nat → Nat) (sz : Nat)  (σ : RR)  (r : Int32) (hf : rr_total σ = some r) : Ci l D ca yX4_total wsX4_total { frames := 2, cells := 0, slots := 0, locals := 42 } [.ref (B 0)] (wRR ca B ar σ) sz r (wRR ca B ar σ) := by
  refine body_of (cc := cX4_total) (maxL := 3) (ret := (some .int)) (fun A => Qi D ca r (wRR ca B ar σ) A) (by decide) rfl (Nat.le_of_ble_eq_true rfl) ?_
  intro p e s m below meth c A ls hx hb hr hml hts hown hlocks hA hK hP hD hS hl hN
  have hl : lv_has ls 3 [(0, .ref (B 0))] := hl
  have hret : ∀ (pc : Nat) (ls : Array Slot) (H : Heap) (locs : List Loc), decode cX4_total pc = .ok (.ireturn, 1) → va_P D vwCl (wRR ca B ar σ) H → va_D A (wRR ca B ar σ) → va_S A s.heap H locs → W p l e { frames := 2, cells := 0, slots := 0, locals := 42 } s m ([.ref (B 0)] : List Value).toArray below meth c H locs 0 0 (MQ below (Qi D ca r (wRR ca B ar σ) A) ([.ref (B 0)] : List Value).toArray s 0 0 A) (F0 m pc ls [.int r]) := fun pc ls H locs hd hP hD hS => ret_i hx hb hr hlocks hK hP hD hS hd
  generalize MQ below (Qi D ca r (wRR ca B ar σ) A) ([.ref (B 0)] : List Value).toArray s 0 0 A = Q at hret ⊢
  generalize ([.ref (B 0)] : List Value).toArray = args at hts hret ⊢
  have f168 : (Cond.fieldLinkNest RX4 168 "RobinRow$Table" "slots" "I" RX4).before args s = true := va_Nw.use rfl (hN.1 (RX4, 168, "RobinRow$Table", "slots", "I") (by decide +kernel))
  have f34 := hts (.fieldLink RX4 34 "RobinRow" "present" "LRobinRow$Table;") (by decide +kernel)
  have in3 : ∀ w ∈ u_ws RX3 TX3 6, w ∈ wsX4_total := by decide +kernel
  have in4 : ∀ w ∈ u_ws RX4 TX4 7, w ∈ wsX4_total := by decide +kernel
  have J4 : ∀ (n4 : Nat) (H : Heap) (locs : List Loc) (ls : Array Slot)  (l1 : Int32) (l2 : Int32), rr_total_lp4 σ  n4 l1 l2 = some r → va_P D vwCl (wRR ca B ar σ) H → va_D A (wRR ca B ar σ) → va_S A s.heap H locs → lv_has ls 3 [(0, .ref (B 0)), (1, .int l1), (2, .int l2)] → W p l e { frames := 2, cells := 0, slots := 0, locals := 42 } s m args below meth c H locs 0 0 Q (F0 m 4 ls []) := by
    intro n4
    induction n4 with
    | zero =>
      intro H locs ls l1 l2 hf hP hD hS hl
      exact absurd hf (fun h => by cases h)
    | succ n4 ih4 =>
      intro H locs ls l1 l2 hf hP hD hS hl
      replace hf : rr_total_4 σ  (rr_total_lp4 σ  n4) l1 l2 = some r := hf
      unfold rr_total_4 at hf
      refine lv_iload_n hx hb dX4_total_4 rfl (lv_at hl 2 rfl) ?_
      refine lv_aload_n hx hb dX4_total_5 rfl (lv_at hl 0 rfl) ?_
      refine va_get (D := D) (ci := 4) (v := .ref (rr_ap σ)) (C := RX4) (T := TX4) (N := 7) hx hb hts in4 hown hK hP 0 rfl rfl 3 (by decide) f34 (fun _ h9 => h9) rfl dX4_total_6 ?_
      refine va_getN (D := D) (ci := 3) (v := .int (tb_sl (rr_P σ))) (C := RX3) (T := TX3) (N := 6) hx hb hts in3 hown hK hP 10 rfl rfl 4 (by decide) f168 (fun _ h9 => h9) rfl dX4_total_9 ?_
      refine lv_icmp_ge (tgt := 36) hx hb dX4_total_12 (by decide) (fun c1 => ?_) (fun c1 => ?_)
      · replace hf := it_p c1 hf
        refine lv_iload_n hx hb dX4_total_36 rfl (lv_at hl 1 rfl) ?_
        obtain rfl := so1 hf
        exact hret _ _ _ _ dX4_total_37 hP hD hS
      · replace hf := it_n c1 hf
        refine lv_iload_n hx hb dX4_total_15 rfl (lv_at hl 1 rfl) ?_
        refine lv_iconst (v := 0) hx hb dX4_total_16 (by decide) ?_
        refine lv_aload_n hx hb dX4_total_17 rfl (lv_at hl 0 rfl) ?_
        refine va_get (D := D) (ci := 4) (v := .ref (rr_ap σ)) (C := RX4) (T := TX4) (N := 7) hx hb hts in4 hown hK hP 0 rfl rfl 3 (by decide) f34 (fun _ h9 => h9) rfl dX4_total_18 ?_
        refine lv_iload_n hx hb dX4_total_21 rfl (lv_at hl 2 rfl) ?_
        obtain ⟨v2, ev2, hf⟩ := bd_ob hf
        refine call_i (As := [.int l2]) (rest := [.int 0, .int l1]) ⟨hx, hb, hml, hown, hts⟩ (tX3_distanceIn l D ca (rr_ap σ) (ar (rr_ap σ)) _ (rr_P σ) l2 v2 ev2) (cwV 1 hts gX4_total_X3_distanceIn rfl rfl rfl (by decide +kernel) ⟨Nat.le_of_ble_eq_true rfl, Nat.le_of_ble_eq_true rfl⟩) hN hK hP hD hA hS (fr_RPp ca B ar σ) rfl rfl rfl hl.1 rfl (lv_room (Nat.le_of_ble_eq_true rfl)) dX4_total_22 ⟨Nat.le_refl _, Nat.le_refl _⟩ (fun H locs hP hD hS => ?_)
        refine va_mmax hx hb (hml.trans hl.1.symm) hown (hts (.methodLink RX4 188 Lib.Math.max.name) (by decide +kernel)) (hts (.static Lib.Math.max.name) (by decide +kernel)) (hts (.initialized "java/lang/Math") (by decide +kernel)) (hts (.code Lib.Math.max.name Lib.Math.max.code 2 (some .int)) (by decide +kernel)) (Nat.le_of_ble_eq_true rfl) (Nat.le_of_ble_eq_true rfl) (Nat.zero_le _) (Nat.zero_le _) dX4_total_25 ?_
        refine lv_iadd hx hb dX4_total_28 ?_
        obtain ⟨v3, ev3, hf⟩ := nm_ob hf
        refine tp_i ev3 ?_
        refine lv_istore_n (lv' := [(1, .int v3), (0, .ref (B 0)), (2, .int l2)]) hx hb dX4_total_29 rfl hl (by decide) rfl (fun ls hl => ?_)
        obtain ⟨v4, ev4, hf⟩ := nm_ob hf
        refine lv_iinc (v := v4) (lv' := [(2, .int v4), (1, .int v3), (0, .ref (B 0))]) hx hb dX4_total_30 hl (k := 2) rfl (by rw [← ev4]; rfl) (by decide) rfl (fun ls hl => ?_)
        refine lv_goto (tgt := 4) hx hb dX4_total_33 (by decide) ?_
        exact ih4 _ _ _ _ _ hf hP hD hS (lv_sub hl [2, 1, 0] rfl)
  unfold rr_total at hf
  refine lv_iconst (v := 0) hx hb dX4_total_0 (by decide) ?_
  refine lv_istore_n (lv' := [(1, .int 0), (0, .ref (B 0))]) hx hb dX4_total_1 rfl hl (by decide) rfl (fun ls hl => ?_)
  refine lv_iconst (v := 0) hx hb dX4_total_2 (by decide) ?_
  refine lv_istore_n (lv' := [(2, .int 0), (1, .int 0), (0, .ref (B 0))]) hx hb dX4_total_3 rfl hl (by decide) rfl (fun ls hl => ?_)
  exact J4 FU _ _ _ _ _ hf hP hD hS (lv_sub hl [2, 1, 0] rfl)

def rr_groups  (σ : RR) (a0 : Int32) : Option (Int32 × RR) :=
  bd (rr_lookUp σ a0) fun s2 =>
  some ((se_groups (rr_se s2)), s2)
set_option maxHeartbeats 4000000 in
set_option maxRecDepth 100000 in
theorem tX4_groups (l : Launch) (D : va_G) (ca : Nat → ClassId) (B : Nat → Nat) (ar : Nat → Nat → Nat) (sz : Nat)  (σ : RR) (a0 : Int32) (r : Int32) (σ9 : RR) (hf : rr_groups σ a0 = some (r, σ9)) : Ci l D ca yX4_groups wsX4_groups { frames := 4, cells := 0, slots := 0, locals := 96 } [.ref (B 0), .int a0] (wRR ca B ar σ) sz r (wRR ca B ar σ9) := by
  refine body_of (cc := cX4_groups) (maxL := 2) (ret := (some .int)) (fun A => Qi D ca r (wRR ca B ar σ9) A) (by decide) rfl (Nat.le_of_ble_eq_true rfl) ?_
  intro p e s m below meth c A ls hx hb hr hml hts hown hlocks hA hK hP hD hS hl hN
  have hl : lv_has ls 2 [(0, .ref (B 0)), (1, .int a0)] := hl
  have hret : ∀ (pc : Nat) (ls : Array Slot) (H : Heap) (locs : List Loc), decode cX4_groups pc = .ok (.ireturn, 1) → va_P D vwCl (wRR ca B ar σ9) H → va_D A (wRR ca B ar σ9) → va_S A s.heap H locs → W p l e { frames := 4, cells := 0, slots := 0, locals := 96 } s m ([.ref (B 0), .int a0] : List Value).toArray below meth c H locs 0 0 (MQ below (Qi D ca r (wRR ca B ar σ9) A) ([.ref (B 0), .int a0] : List Value).toArray s 0 0 A) (F0 m pc ls [.int r]) := fun pc ls H locs hd hP hD hS => ret_i hx hb hr hlocks hK hP hD hS hd
  generalize MQ below (Qi D ca r (wRR ca B ar σ9) A) ([.ref (B 0), .int a0] : List Value).toArray s 0 0 A = Q at hret ⊢
  generalize ([.ref (B 0), .int a0] : List Value).toArray = args at hts hret ⊢
  have f18 := hts (.fieldLink RX4 18 "RobinRow" "search" "LRobinRow$Search;") (by decide +kernel)
  have f193 : (Cond.fieldLinkNest RX4 193 "RobinRow$Search" "groups" "I" RX4).before args s = true := va_Nw.use rfl (hN.1 (RX4, 193, "RobinRow$Search", "groups", "I") (by decide +kernel))
  have in1 : ∀ w ∈ u_ws RX1 TX1 4, w ∈ wsX4_groups := by decide +kernel
  have in4 : ∀ w ∈ u_ws RX4 TX4 7, w ∈ wsX4_groups := by decide +kernel
  unfold rr_groups at hf
  refine lv_aload_n hx hb dX4_groups_0 rfl (lv_at hl 0 rfl) ?_
  refine lv_iload_n hx hb dX4_groups_1 rfl (lv_at hl 1 rfl) ?_
  obtain ⟨s2, es2, hf⟩ := bd_ob hf
  refine call_v (As := [.int a0]) (rest := []) ⟨hx, hb, hml, hown, hts⟩ (tX4_lookUp l D ca B ar _ σ a0 s2 es2) (cwV 1 hts gX4_groups_X4_lookUp rfl rfl rfl (by decide +kernel) ⟨Nat.le_of_ble_eq_true rfl, Nat.le_of_ble_eq_true rfl⟩) hN hK hP hD hA hS (fr_id _ _) rfl rfl rfl hl.1 rfl (lv_room (Nat.le_of_ble_eq_true rfl)) dX4_groups_2 ⟨Nat.le_refl _, Nat.le_refl _⟩ (fun H locs hP hD hS => ?_)
  refine lv_aload_n hx hb dX4_groups_5 rfl (lv_at hl 0 rfl) ?_
  refine va_get (D := D) (ci := 4) (v := .ref (B 6)) (C := RX4) (T := TX4) (N := 7) hx hb hts in4 hown hK hP 0 rfl rfl 1 (by decide) f18 (fun _ h9 => h9) rfl dX4_groups_6 ?_
  refine va_getN (D := D) (ci := 1) (v := .int (se_groups (rr_se s2))) (C := RX1) (T := TX1) (N := 4) hx hb hts in1 hown hK hP 6 rfl rfl 2 (by decide) f193 (fun _ h9 => h9) rfl dX4_groups_9 ?_
  obtain ⟨rfl, rfl⟩ := so2 hf
  exact hret _ _ _ _ dX4_groups_12 hP hD hS

def rr_comparisons  (σ : RR) (a0 : Int32) : Option (Int32 × RR) :=
  bd (rr_lookUp σ a0) fun s2 =>
  some ((se_comps (rr_se s2)), s2)
set_option maxHeartbeats 4000000 in
set_option maxRecDepth 100000 in
theorem tX4_comparisons (l : Launch) (D : va_G) (ca : Nat → ClassId) (B : Nat → Nat) (ar : Nat → Nat → Nat) (sz : Nat)  (σ : RR) (a0 : Int32) (r : Int32) (σ9 : RR) (hf : rr_comparisons σ a0 = some (r, σ9)) : Ci l D ca yX4_comparisons wsX4_comparisons { frames := 4, cells := 0, slots := 0, locals := 96 } [.ref (B 0), .int a0] (wRR ca B ar σ) sz r (wRR ca B ar σ9) := by
  refine body_of (cc := cX4_comparisons) (maxL := 2) (ret := (some .int)) (fun A => Qi D ca r (wRR ca B ar σ9) A) (by decide) rfl (Nat.le_of_ble_eq_true rfl) ?_
  intro p e s m below meth c A ls hx hb hr hml hts hown hlocks hA hK hP hD hS hl hN
  have hl : lv_has ls 2 [(0, .ref (B 0)), (1, .int a0)] := hl
  have hret : ∀ (pc : Nat) (ls : Array Slot) (H : Heap) (locs : List Loc), decode cX4_comparisons pc = .ok (.ireturn, 1) → va_P D vwCl (wRR ca B ar σ9) H → va_D A (wRR ca B ar σ9) → va_S A s.heap H locs → W p l e { frames := 4, cells := 0, slots := 0, locals := 96 } s m ([.ref (B 0), .int a0] : List Value).toArray below meth c H locs 0 0 (MQ below (Qi D ca r (wRR ca B ar σ9) A) ([.ref (B 0), .int a0] : List Value).toArray s 0 0 A) (F0 m pc ls [.int r]) := fun pc ls H locs hd hP hD hS => ret_i hx hb hr hlocks hK hP hD hS hd
  generalize MQ below (Qi D ca r (wRR ca B ar σ9) A) ([.ref (B 0), .int a0] : List Value).toArray s 0 0 A = Q at hret ⊢
  generalize ([.ref (B 0), .int a0] : List Value).toArray = args at hts hret ⊢
  have f18 := hts (.fieldLink RX4 18 "RobinRow" "search" "LRobinRow$Search;") (by decide +kernel)
  have f196 : (Cond.fieldLinkNest RX4 196 "RobinRow$Search" "comparisons" "I" RX4).before args s = true := va_Nw.use rfl (hN.1 (RX4, 196, "RobinRow$Search", "comparisons", "I") (by decide +kernel))
  have in1 : ∀ w ∈ u_ws RX1 TX1 4, w ∈ wsX4_comparisons := by decide +kernel
  have in4 : ∀ w ∈ u_ws RX4 TX4 7, w ∈ wsX4_comparisons := by decide +kernel
  unfold rr_comparisons at hf
  refine lv_aload_n hx hb dX4_comparisons_0 rfl (lv_at hl 0 rfl) ?_
  refine lv_iload_n hx hb dX4_comparisons_1 rfl (lv_at hl 1 rfl) ?_
  obtain ⟨s2, es2, hf⟩ := bd_ob hf
  refine call_v (As := [.int a0]) (rest := []) ⟨hx, hb, hml, hown, hts⟩ (tX4_lookUp l D ca B ar _ σ a0 s2 es2) (cwV 1 hts gX4_comparisons_X4_lookUp rfl rfl rfl (by decide +kernel) ⟨Nat.le_of_ble_eq_true rfl, Nat.le_of_ble_eq_true rfl⟩) hN hK hP hD hA hS (fr_id _ _) rfl rfl rfl hl.1 rfl (lv_room (Nat.le_of_ble_eq_true rfl)) dX4_comparisons_2 ⟨Nat.le_refl _, Nat.le_refl _⟩ (fun H locs hP hD hS => ?_)
  refine lv_aload_n hx hb dX4_comparisons_5 rfl (lv_at hl 0 rfl) ?_
  refine va_get (D := D) (ci := 4) (v := .ref (B 6)) (C := RX4) (T := TX4) (N := 7) hx hb hts in4 hown hK hP 0 rfl rfl 1 (by decide) f18 (fun _ h9 => h9) rfl dX4_comparisons_6 ?_
  refine va_getN (D := D) (ci := 1) (v := .int (se_comps (rr_se s2))) (C := RX1) (T := TX1) (N := 4) hx hb hts in1 hown hK hP 6 rfl rfl 3 (by decide) f196 (fun _ h9 => h9) rfl dX4_comparisons_9 ?_
  obtain ⟨rfl, rfl⟩ := so2 hf
  exact hret _ _ _ _ dX4_comparisons_12 hP hD hS

def rr_plainTotal  (σ : RR)  : Option (Int32 × RR) :=
  bd (pp_fillFrom (rr_P σ) (rr_pl σ)) fun s2 =>
  nm (rr_pl' σ s2) fun s3 =>
  some ((pl_total (rr_pl s3)), s3)
set_option maxHeartbeats 4000000 in
set_option maxRecDepth 100000 in
theorem tX4_plainTotal (l : Launch) (D : va_G) (ca : Nat → ClassId) (B : Nat → Nat) (ar : Nat → Nat → Nat) (sz : Nat)  (σ : RR)  (r : Int32) (σ9 : RR) (hf : rr_plainTotal σ = some (r, σ9)) : Ci l D ca yX4_plainTotal wsX4_plainTotal { frames := 3, cells := 0, slots := 0, locals := 69 } [.ref (B 0)] (wRR ca B ar σ) sz r (wRR ca B ar σ9) := by
  refine body_of (cc := cX4_plainTotal) (maxL := 1) (ret := (some .int)) (fun A => Qi D ca r (wRR ca B ar σ9) A) (by decide) rfl (Nat.le_of_ble_eq_true rfl) ?_
  intro p e s m below meth c A ls hx hb hr hml hts hown hlocks hA hK hP hD hS hl hN
  have hl : lv_has ls 1 [(0, .ref (B 0))] := hl
  have hret : ∀ (pc : Nat) (ls : Array Slot) (H : Heap) (locs : List Loc), decode cX4_plainTotal pc = .ok (.ireturn, 1) → va_P D vwCl (wRR ca B ar σ9) H → va_D A (wRR ca B ar σ9) → va_S A s.heap H locs → W p l e { frames := 3, cells := 0, slots := 0, locals := 69 } s m ([.ref (B 0)] : List Value).toArray below meth c H locs 0 0 (MQ below (Qi D ca r (wRR ca B ar σ9) A) ([.ref (B 0)] : List Value).toArray s 0 0 A) (F0 m pc ls [.int r]) := fun pc ls H locs hd hP hD hS => ret_i hx hb hr hlocks hK hP hD hS hd
  generalize MQ below (Qi D ca r (wRR ca B ar σ9) A) ([.ref (B 0)] : List Value).toArray s 0 0 A = Q at hret ⊢
  generalize ([.ref (B 0)] : List Value).toArray = args at hts hret ⊢
  have f216 : (Cond.fieldLinkNest RX4 216 "RobinRow$PlainRow" "total" "I" RX4).before args s = true := va_Nw.use rfl (hN.1 (RX4, 216, "RobinRow$PlainRow", "total", "I") (by decide +kernel))
  have f25 := hts (.fieldLink RX4 25 "RobinRow" "plainRow" "LRobinRow$PlainRow;") (by decide +kernel)
  have f34 := hts (.fieldLink RX4 34 "RobinRow" "present" "LRobinRow$Table;") (by decide +kernel)
  have in0 : ∀ w ∈ u_ws RX0 TX0 4, w ∈ wsX4_plainTotal := by decide +kernel
  have in4 : ∀ w ∈ u_ws RX4 TX4 7, w ∈ wsX4_plainTotal := by decide +kernel
  unfold rr_plainTotal at hf
  refine lv_aload_n hx hb dX4_plainTotal_0 rfl (lv_at hl 0 rfl) ?_
  refine va_get (D := D) (ci := 4) (v := .ref (B 7)) (C := RX4) (T := TX4) (N := 7) hx hb hts in4 hown hK hP 0 rfl rfl 2 (by decide) f25 (fun _ h9 => h9) rfl dX4_plainTotal_1 ?_
  refine lv_aload_n hx hb dX4_plainTotal_4 rfl (lv_at hl 0 rfl) ?_
  refine va_get (D := D) (ci := 4) (v := .ref (rr_ap σ)) (C := RX4) (T := TX4) (N := 7) hx hb hts in4 hown hK hP 0 rfl rfl 3 (by decide) f34 (fun _ h9 => h9) rfl dX4_plainTotal_5 ?_
  obtain ⟨s2, es2, hf⟩ := bd_ob hf
  refine call_v (As := [.ref (rr_ap σ)]) (rest := []) ⟨hx, hb, hml, hown, hts⟩ (tX0_fillFrom l D ca (B 7) (fun i => B (8 + i)) (rr_ap σ) (ar (rr_ap σ)) _ (rr_P σ) (rr_pl σ) s2 es2) (cwV 1 hts gX4_plainTotal_X0_fillFrom rfl rfl rfl (by decide +kernel) ⟨Nat.le_of_ble_eq_true rfl, Nat.le_of_ble_eq_true rfl⟩) hN hK hP hD hA hS (fr_RPP ca B ar σ s2) rfl rfl rfl hl.1 rfl (lv_room (Nat.le_of_ble_eq_true rfl)) dX4_plainTotal_8 ⟨Nat.le_refl _, Nat.le_refl _⟩ (fun H locs hP hD hS => ?_)
  obtain ⟨s3, es3, hf⟩ := nm_ob hf
  have hP : va_P D vwCl (wRR ca B ar s3) H := by rw [← es3]; exact hP
  have hD : va_D A (wRR ca B ar s3) := by rw [← es3]; exact hD
  refine lv_aload_n hx hb dX4_plainTotal_11 rfl (lv_at hl 0 rfl) ?_
  refine va_get (D := D) (ci := 4) (v := .ref (B 7)) (C := RX4) (T := TX4) (N := 7) hx hb hts in4 hown hK hP 0 rfl rfl 2 (by decide) f25 (fun _ h9 => h9) rfl dX4_plainTotal_12 ?_
  refine va_getN (D := D) (ci := 0) (v := .int (pl_total (rr_pl s3))) (C := RX0) (T := TX0) (N := 4) hx hb hts in0 hown hK hP 7 rfl rfl 2 (by decide) f216 (fun _ h9 => h9) rfl dX4_plainTotal_15 ?_
  obtain ⟨rfl, rfl⟩ := so2 hf
  exact hret _ _ _ _ dX4_plainTotal_18 hP hD hS

def rr_plainLongest  (σ : RR)  : Option (Int32 × RR) :=
  bd (pp_fillFrom (rr_P σ) (rr_pl σ)) fun s2 =>
  nm (rr_pl' σ s2) fun s3 =>
  some ((pl_longest (rr_pl s3)), s3)
set_option maxHeartbeats 4000000 in
set_option maxRecDepth 100000 in
theorem tX4_plainLongest (l : Launch) (D : va_G) (ca : Nat → ClassId) (B : Nat → Nat) (ar : Nat → Nat → Nat) (sz : Nat)  (σ : RR)  (r : Int32) (σ9 : RR) (hf : rr_plainLongest σ = some (r, σ9)) : Ci l D ca yX4_plainLongest wsX4_plainLongest { frames := 3, cells := 0, slots := 0, locals := 69 } [.ref (B 0)] (wRR ca B ar σ) sz r (wRR ca B ar σ9) := by
  refine body_of (cc := cX4_plainLongest) (maxL := 1) (ret := (some .int)) (fun A => Qi D ca r (wRR ca B ar σ9) A) (by decide) rfl (Nat.le_of_ble_eq_true rfl) ?_
  intro p e s m below meth c A ls hx hb hr hml hts hown hlocks hA hK hP hD hS hl hN
  have hl : lv_has ls 1 [(0, .ref (B 0))] := hl
  have hret : ∀ (pc : Nat) (ls : Array Slot) (H : Heap) (locs : List Loc), decode cX4_plainLongest pc = .ok (.ireturn, 1) → va_P D vwCl (wRR ca B ar σ9) H → va_D A (wRR ca B ar σ9) → va_S A s.heap H locs → W p l e { frames := 3, cells := 0, slots := 0, locals := 69 } s m ([.ref (B 0)] : List Value).toArray below meth c H locs 0 0 (MQ below (Qi D ca r (wRR ca B ar σ9) A) ([.ref (B 0)] : List Value).toArray s 0 0 A) (F0 m pc ls [.int r]) := fun pc ls H locs hd hP hD hS => ret_i hx hb hr hlocks hK hP hD hS hd
  generalize MQ below (Qi D ca r (wRR ca B ar σ9) A) ([.ref (B 0)] : List Value).toArray s 0 0 A = Q at hret ⊢
  generalize ([.ref (B 0)] : List Value).toArray = args at hts hret ⊢
  have f219 : (Cond.fieldLinkNest RX4 219 "RobinRow$PlainRow" "longest" "I" RX4).before args s = true := va_Nw.use rfl (hN.1 (RX4, 219, "RobinRow$PlainRow", "longest", "I") (by decide +kernel))
  have f25 := hts (.fieldLink RX4 25 "RobinRow" "plainRow" "LRobinRow$PlainRow;") (by decide +kernel)
  have f34 := hts (.fieldLink RX4 34 "RobinRow" "present" "LRobinRow$Table;") (by decide +kernel)
  have in0 : ∀ w ∈ u_ws RX0 TX0 4, w ∈ wsX4_plainLongest := by decide +kernel
  have in4 : ∀ w ∈ u_ws RX4 TX4 7, w ∈ wsX4_plainLongest := by decide +kernel
  unfold rr_plainLongest at hf
  refine lv_aload_n hx hb dX4_plainLongest_0 rfl (lv_at hl 0 rfl) ?_
  refine va_get (D := D) (ci := 4) (v := .ref (B 7)) (C := RX4) (T := TX4) (N := 7) hx hb hts in4 hown hK hP 0 rfl rfl 2 (by decide) f25 (fun _ h9 => h9) rfl dX4_plainLongest_1 ?_
  refine lv_aload_n hx hb dX4_plainLongest_4 rfl (lv_at hl 0 rfl) ?_
  refine va_get (D := D) (ci := 4) (v := .ref (rr_ap σ)) (C := RX4) (T := TX4) (N := 7) hx hb hts in4 hown hK hP 0 rfl rfl 3 (by decide) f34 (fun _ h9 => h9) rfl dX4_plainLongest_5 ?_
  obtain ⟨s2, es2, hf⟩ := bd_ob hf
  refine call_v (As := [.ref (rr_ap σ)]) (rest := []) ⟨hx, hb, hml, hown, hts⟩ (tX0_fillFrom l D ca (B 7) (fun i => B (8 + i)) (rr_ap σ) (ar (rr_ap σ)) _ (rr_P σ) (rr_pl σ) s2 es2) (cwV 1 hts gX4_plainLongest_X0_fillFrom rfl rfl rfl (by decide +kernel) ⟨Nat.le_of_ble_eq_true rfl, Nat.le_of_ble_eq_true rfl⟩) hN hK hP hD hA hS (fr_RPP ca B ar σ s2) rfl rfl rfl hl.1 rfl (lv_room (Nat.le_of_ble_eq_true rfl)) dX4_plainLongest_8 ⟨Nat.le_refl _, Nat.le_refl _⟩ (fun H locs hP hD hS => ?_)
  obtain ⟨s3, es3, hf⟩ := nm_ob hf
  have hP : va_P D vwCl (wRR ca B ar s3) H := by rw [← es3]; exact hP
  have hD : va_D A (wRR ca B ar s3) := by rw [← es3]; exact hD
  refine lv_aload_n hx hb dX4_plainLongest_11 rfl (lv_at hl 0 rfl) ?_
  refine va_get (D := D) (ci := 4) (v := .ref (B 7)) (C := RX4) (T := TX4) (N := 7) hx hb hts in4 hown hK hP 0 rfl rfl 2 (by decide) f25 (fun _ h9 => h9) rfl dX4_plainLongest_12 ?_
  refine va_getN (D := D) (ci := 0) (v := .int (pl_longest (rr_pl s3))) (C := RX0) (T := TX0) (N := 4) hx hb hts in0 hown hK hP 7 rfl rfl 3 (by decide) f219 (fun _ h9 => h9) rfl dX4_plainLongest_15 ?_
  obtain ⟨rfl, rfl⟩ := so2 hf
  exact hret _ _ _ _ dX4_plainLongest_18 hP hD hS

def rr_tableOf_19  (σ : RR)   (l1 : Int32) : Option Nat :=
  if l1 = 0 then
    some 0
  else
    some 1
def rr_tableOf  (σ : RR) (a0 : Int32) : Option Nat :=
  if a0 = 0 then
    rr_tableOf_19 σ a0
  else
    if a0 = 1 then
      rr_tableOf_19 σ a0
    else
      none
set_option maxHeartbeats 4000000 in
set_option maxRecDepth 100000 in
theorem tX4_tableOf (l : Launch) (D : va_G) (ca : Nat → ClassId) (B : Nat → Nat) (ar : Nat → Nat → Nat) (sz : Nat)  (σ : RR) (a0 : Int32) (r : Nat) (hf : rr_tableOf σ a0 = some r) : Cr l D ca yX4_tableOf wsX4_tableOf { frames := 0, cells := 0, slots := 0, locals := 0 } [.ref (B 0), .int a0] (wRR ca B ar σ) sz (adrT σ r) (wRR ca B ar σ) := by
  refine body_of (cc := cX4_tableOf) (maxL := 2) (ret := (some (.object "RobinRow$Table"))) (fun A => Qr D ca (adrT σ r) (wRR ca B ar σ) A) (by decide) rfl (Nat.le_of_ble_eq_true rfl) ?_
  intro p e s m below meth c A ls hx hb hr hml hts hown hlocks hA hK hP hD hS hl hN
  have hl : lv_has ls 2 [(0, .ref (B 0)), (1, .int a0)] := hl
  have hret : ∀ (pc : Nat) (ls : Array Slot) (H : Heap) (locs : List Loc), decode cX4_tableOf pc = .ok (.areturn, 1) → va_P D vwCl (wRR ca B ar σ) H → va_D A (wRR ca B ar σ) → va_S A s.heap H locs → W p l e { frames := 0, cells := 0, slots := 0, locals := 0 } s m ([.ref (B 0), .int a0] : List Value).toArray below meth c H locs 0 0 (MQ below (Qr D ca (adrT σ r) (wRR ca B ar σ) A) ([.ref (B 0), .int a0] : List Value).toArray s 0 0 A) (F0 m pc ls [.ref (adrT σ r)]) := fun pc ls H locs hd hP hD hS => ret_r hx hb hr ⟨_, rfl⟩ hlocks hK hP hD hS hd
  generalize MQ below (Qr D ca (adrT σ r) (wRR ca B ar σ) A) ([.ref (B 0), .int a0] : List Value).toArray s 0 0 A = Q at hret ⊢
  generalize ([.ref (B 0), .int a0] : List Value).toArray = args at hts hret ⊢
  have f34 := hts (.fieldLink RX4 34 "RobinRow" "present" "LRobinRow$Table;") (by decide +kernel)
  have f38 := hts (.fieldLink RX4 38 "RobinRow" "old" "LRobinRow$Table;") (by decide +kernel)
  have in4 : ∀ w ∈ u_ws RX4 TX4 7, w ∈ wsX4_tableOf := by decide +kernel
  have J19 : ∀ (H : Heap) (locs : List Loc) (ls : Array Slot)  (l1 : Int32), rr_tableOf_19 σ  l1 = some r → va_P D vwCl (wRR ca B ar σ) H → va_D A (wRR ca B ar σ) → va_S A s.heap H locs → lv_has ls 2 [(0, .ref (B 0)), (1, .int l1)] → W p l e { frames := 0, cells := 0, slots := 0, locals := 0 } s m args below meth c H locs 0 0 Q (F0 m 19 ls []) := by
    intro H locs ls l1 hf hP hD hS hl
    unfold rr_tableOf_19 at hf
    refine lv_iload_n hx hb dX4_tableOf_19 rfl (lv_at hl 1 rfl) ?_
    refine lv_if_ne (tgt := 30) hx hb dX4_tableOf_20 (by decide) (fun c3 => ?_) (fun c3 => ?_)
    · replace hf := it_n c3 hf
      refine lv_aload_n hx hb dX4_tableOf_30 rfl (lv_at hl 0 rfl) ?_
      refine va_get (D := D) (ci := 4) (v := .ref (rr_ao σ)) (C := RX4) (T := TX4) (N := 7) hx hb hts in4 hown hK hP 0 rfl rfl 4 (by decide) f38 (fun _ h9 => h9) rfl dX4_tableOf_31 ?_
      obtain rfl := so1 hf
      exact hret _ _ _ _ dX4_tableOf_34 hP hD hS
    · replace hf := it_p c3 hf
      refine lv_aload_n hx hb dX4_tableOf_23 rfl (lv_at hl 0 rfl) ?_
      refine va_get (D := D) (ci := 4) (v := .ref (rr_ap σ)) (C := RX4) (T := TX4) (N := 7) hx hb hts in4 hown hK hP 0 rfl rfl 3 (by decide) f34 (fun _ h9 => h9) rfl dX4_tableOf_24 ?_
      refine lv_goto (tgt := 34) hx hb dX4_tableOf_27 (by decide) ?_
      obtain rfl := so1 hf
      exact hret _ _ _ _ dX4_tableOf_34 hP hD hS
  unfold rr_tableOf at hf
  refine lv_iload_n hx hb dX4_tableOf_0 rfl (lv_at hl 1 rfl) ?_
  refine lv_if_eq (tgt := 19) hx hb dX4_tableOf_1 (by decide) (fun c1 => ?_) (fun c1 => ?_)
  · replace hf := it_p c1 hf
    exact J19 _ _ _ _ hf hP hD hS (lv_sub hl [0, 1] rfl)
  · replace hf := it_n c1 hf
    refine lv_iload_n hx hb dX4_tableOf_4 rfl (lv_at hl 1 rfl) ?_
    refine lv_iconst (v := 1) hx hb dX4_tableOf_5 (by decide) ?_
    refine lv_icmp_eq (tgt := 19) hx hb dX4_tableOf_6 (by decide) (fun c2 => ?_) (fun c2 => ?_)
    · replace hf := it_p c2 hf
      exact J19 _ _ _ _ hf hP hD hS (lv_sub hl [0, 1] rfl)
    · replace hf := it_n c2 hf
      exact absurd hf (fun h => by cases h)

def rr_tableWithSlot  (σ : RR) (a0 : Int32) (a1 : Int32) : Option Nat :=
  bd (rr_tableOf σ a0) fun v1 =>
  if v1 = 0 then
    if a1 < 0 then
      none
    else
      if a1 < (tb_sl (rr_P σ)) then
        some 0
      else
        none
  else
    if a1 < 0 then
      none
    else
      if a1 < (tb_sl (rr_O σ)) then
        some 1
      else
        none
set_option maxHeartbeats 4000000 in
set_option maxRecDepth 100000 in
theorem tX4_tableWithSlot (l : Launch) (D : va_G) (ca : Nat → ClassId) (B : Nat → Nat) (ar : Nat → Nat → Nat) (sz : Nat)  (σ : RR) (a0 : Int32) (a1 : Int32) (r : Nat) (hf : rr_tableWithSlot σ a0 a1 = some r) : Cr l D ca yX4_tableWithSlot wsX4_tableWithSlot { frames := 1, cells := 0, slots := 0, locals := 21 } [.ref (B 0), .int a0, .int a1] (wRR ca B ar σ) sz (adrT σ r) (wRR ca B ar σ) := by
  refine body_of (cc := cX4_tableWithSlot) (maxL := 4) (ret := (some (.object "RobinRow$Table"))) (fun A => Qr D ca (adrT σ r) (wRR ca B ar σ) A) (by decide) rfl (Nat.le_of_ble_eq_true rfl) ?_
  intro p e s m below meth c A ls hx hb hr hml hts hown hlocks hA hK hP hD hS hl hN
  have hl : lv_has ls 4 [(0, .ref (B 0)), (1, .int a0), (2, .int a1)] := hl
  have hret : ∀ (pc : Nat) (ls : Array Slot) (H : Heap) (locs : List Loc), decode cX4_tableWithSlot pc = .ok (.areturn, 1) → va_P D vwCl (wRR ca B ar σ) H → va_D A (wRR ca B ar σ) → va_S A s.heap H locs → W p l e { frames := 1, cells := 0, slots := 0, locals := 21 } s m ([.ref (B 0), .int a0, .int a1] : List Value).toArray below meth c H locs 0 0 (MQ below (Qr D ca (adrT σ r) (wRR ca B ar σ) A) ([.ref (B 0), .int a0, .int a1] : List Value).toArray s 0 0 A) (F0 m pc ls [.ref (adrT σ r)]) := fun pc ls H locs hd hP hD hS => ret_r hx hb hr ⟨_, rfl⟩ hlocks hK hP hD hS hd
  generalize MQ below (Qr D ca (adrT σ r) (wRR ca B ar σ) A) ([.ref (B 0), .int a0, .int a1] : List Value).toArray s 0 0 A = Q at hret ⊢
  generalize ([.ref (B 0), .int a0, .int a1] : List Value).toArray = args at hts hret ⊢
  have f168 : (Cond.fieldLinkNest RX4 168 "RobinRow$Table" "slots" "I" RX4).before args s = true := va_Nw.use rfl (hN.1 (RX4, 168, "RobinRow$Table", "slots", "I") (by decide +kernel))
  have in3 : ∀ w ∈ u_ws RX3 TX3 6, w ∈ wsX4_tableWithSlot := by decide +kernel
  unfold rr_tableWithSlot at hf
  refine lv_aload_n hx hb dX4_tableWithSlot_0 rfl (lv_at hl 0 rfl) ?_
  refine lv_iload_n hx hb dX4_tableWithSlot_1 rfl (lv_at hl 1 rfl) ?_
  obtain ⟨v1, ev1, hf⟩ := bd_ob hf
  refine call_r (As := [.int a0]) (rest := []) ⟨hx, hb, hml, hown, hts⟩ (tX4_tableOf l D ca B ar _ σ a0 v1 ev1) (cwV 1 hts gX4_tableWithSlot_X4_tableOf rfl rfl rfl (by decide +kernel) ⟨Nat.le_of_ble_eq_true rfl, Nat.le_of_ble_eq_true rfl⟩) hN hK hP hD hA hS (fr_id _ _) rfl rfl rfl hl.1 rfl (lv_room (Nat.le_of_ble_eq_true rfl)) dX4_tableWithSlot_2 ⟨Nat.le_refl _, Nat.le_refl _⟩ (fun H locs hP hD hS => ?_)
  by_cases c2 : v1 = 0
  · replace hf := it_p c2 hf
    refine W.eq (g2 := F0 m 5 ls [.ref (rr_ap σ)]) (by rw [adrT, if_pos c2]) ?_
    refine lv_astore_n (lv' := [(3, .ref (rr_ap σ)), (0, .ref (B 0)), (1, .int a0), (2, .int a1)]) hx hb dX4_tableWithSlot_5 rfl hl (by decide) rfl (fun ls hl => ?_)
    refine lv_iload_n hx hb dX4_tableWithSlot_6 rfl (lv_at hl 3 rfl) ?_
    refine lv_if_lt (tgt := 18) hx hb dX4_tableWithSlot_7 (by decide) (fun c3 => ?_) (fun c3 => ?_)
    · replace hf := it_p c3 hf
      exact absurd hf (fun h => by cases h)
    · replace hf := it_n c3 hf
      refine lv_iload_n hx hb dX4_tableWithSlot_10 rfl (lv_at hl 3 rfl) ?_
      refine lv_aload_n hx hb dX4_tableWithSlot_11 rfl (lv_at hl 0 rfl) ?_
      refine va_getN (D := D) (ci := 3) (v := .int (tb_sl (rr_P σ))) (C := RX3) (T := TX3) (N := 6) hx hb hts in3 hown hK hP 10 rfl rfl 4 (by decide) f168 (fun _ h9 => h9) rfl dX4_tableWithSlot_12 ?_
      refine lv_icmp_lt (tgt := 28) hx hb dX4_tableWithSlot_15 (by decide) (fun c4 => ?_) (fun c4 => ?_)
      · replace hf := it_p c4 hf
        refine lv_aload_n hx hb dX4_tableWithSlot_28 rfl (lv_at hl 0 rfl) ?_
        obtain rfl := so1 hf
        exact hret _ _ _ _ dX4_tableWithSlot_29 hP hD hS
      · replace hf := it_n c4 hf
        exact absurd hf (fun h => by cases h)
  · replace hf := it_n c2 hf
    refine W.eq (g2 := F0 m 5 ls [.ref (rr_ao σ)]) (by rw [adrT, if_neg c2]) ?_
    refine lv_astore_n (lv' := [(3, .ref (rr_ao σ)), (0, .ref (B 0)), (1, .int a0), (2, .int a1)]) hx hb dX4_tableWithSlot_5 rfl hl (by decide) rfl (fun ls hl => ?_)
    refine lv_iload_n hx hb dX4_tableWithSlot_6 rfl (lv_at hl 3 rfl) ?_
    refine lv_if_lt (tgt := 18) hx hb dX4_tableWithSlot_7 (by decide) (fun c5 => ?_) (fun c5 => ?_)
    · replace hf := it_p c5 hf
      exact absurd hf (fun h => by cases h)
    · replace hf := it_n c5 hf
      refine lv_iload_n hx hb dX4_tableWithSlot_10 rfl (lv_at hl 3 rfl) ?_
      refine lv_aload_n hx hb dX4_tableWithSlot_11 rfl (lv_at hl 0 rfl) ?_
      refine va_getN (D := D) (ci := 3) (v := .int (tb_sl (rr_O σ))) (C := RX3) (T := TX3) (N := 6) hx hb hts in3 hown hK hP 15 rfl rfl 4 (by decide) f168 (fun _ h9 => h9) rfl dX4_tableWithSlot_12 ?_
      refine lv_icmp_lt (tgt := 28) hx hb dX4_tableWithSlot_15 (by decide) (fun c6 => ?_) (fun c6 => ?_)
      · replace hf := it_p c6 hf
        refine lv_aload_n hx hb dX4_tableWithSlot_28 rfl (lv_at hl 0 rfl) ?_
        obtain rfl := so1 hf
        exact hret _ _ _ _ dX4_tableWithSlot_29 hP hD hS
      · replace hf := it_n c6 hf
        exact absurd hf (fun h => by cases h)

def rr_slots  (σ : RR) (a0 : Int32) : Option Int32 :=
  bd (rr_tableOf σ a0) fun v1 =>
  if v1 = 0 then
    some (tb_sl (rr_P σ))
  else
    some (tb_sl (rr_O σ))
set_option maxHeartbeats 4000000 in
set_option maxRecDepth 100000 in
theorem tX4_slots (l : Launch) (D : va_G) (ca : Nat → ClassId) (B : Nat → Nat) (ar : Nat → Nat → Nat) (sz : Nat)  (σ : RR) (a0 : Int32) (r : Int32) (hf : rr_slots σ a0 = some r) : Ci l D ca yX4_slots wsX4_slots { frames := 1, cells := 0, slots := 0, locals := 21 } [.ref (B 0), .int a0] (wRR ca B ar σ) sz r (wRR ca B ar σ) := by
  refine body_of (cc := cX4_slots) (maxL := 2) (ret := (some .int)) (fun A => Qi D ca r (wRR ca B ar σ) A) (by decide) rfl (Nat.le_of_ble_eq_true rfl) ?_
  intro p e s m below meth c A ls hx hb hr hml hts hown hlocks hA hK hP hD hS hl hN
  have hl : lv_has ls 2 [(0, .ref (B 0)), (1, .int a0)] := hl
  have hret : ∀ (pc : Nat) (ls : Array Slot) (H : Heap) (locs : List Loc), decode cX4_slots pc = .ok (.ireturn, 1) → va_P D vwCl (wRR ca B ar σ) H → va_D A (wRR ca B ar σ) → va_S A s.heap H locs → W p l e { frames := 1, cells := 0, slots := 0, locals := 21 } s m ([.ref (B 0), .int a0] : List Value).toArray below meth c H locs 0 0 (MQ below (Qi D ca r (wRR ca B ar σ) A) ([.ref (B 0), .int a0] : List Value).toArray s 0 0 A) (F0 m pc ls [.int r]) := fun pc ls H locs hd hP hD hS => ret_i hx hb hr hlocks hK hP hD hS hd
  generalize MQ below (Qi D ca r (wRR ca B ar σ) A) ([.ref (B 0), .int a0] : List Value).toArray s 0 0 A = Q at hret ⊢
  generalize ([.ref (B 0), .int a0] : List Value).toArray = args at hts hret ⊢
  have f168 : (Cond.fieldLinkNest RX4 168 "RobinRow$Table" "slots" "I" RX4).before args s = true := va_Nw.use rfl (hN.1 (RX4, 168, "RobinRow$Table", "slots", "I") (by decide +kernel))
  have in3 : ∀ w ∈ u_ws RX3 TX3 6, w ∈ wsX4_slots := by decide +kernel
  unfold rr_slots at hf
  refine lv_aload_n hx hb dX4_slots_0 rfl (lv_at hl 0 rfl) ?_
  refine lv_iload_n hx hb dX4_slots_1 rfl (lv_at hl 1 rfl) ?_
  obtain ⟨v1, ev1, hf⟩ := bd_ob hf
  refine call_r (As := [.int a0]) (rest := []) ⟨hx, hb, hml, hown, hts⟩ (tX4_tableOf l D ca B ar _ σ a0 v1 ev1) (cwV 1 hts gX4_slots_X4_tableOf rfl rfl rfl (by decide +kernel) ⟨Nat.le_of_ble_eq_true rfl, Nat.le_of_ble_eq_true rfl⟩) hN hK hP hD hA hS (fr_id _ _) rfl rfl rfl hl.1 rfl (lv_room (Nat.le_of_ble_eq_true rfl)) dX4_slots_2 ⟨Nat.le_refl _, Nat.le_refl _⟩ (fun H locs hP hD hS => ?_)
  by_cases c2 : v1 = 0
  · replace hf := it_p c2 hf
    refine W.eq (g2 := F0 m 5 ls [.ref (rr_ap σ)]) (by rw [adrT, if_pos c2]) ?_
    refine va_getN (D := D) (ci := 3) (v := .int (tb_sl (rr_P σ))) (C := RX3) (T := TX3) (N := 6) hx hb hts in3 hown hK hP 10 rfl rfl 4 (by decide) f168 (fun _ h9 => h9) rfl dX4_slots_5 ?_
    obtain rfl := so1 hf
    exact hret _ _ _ _ dX4_slots_8 hP hD hS
  · replace hf := it_n c2 hf
    refine W.eq (g2 := F0 m 5 ls [.ref (rr_ao σ)]) (by rw [adrT, if_neg c2]) ?_
    refine va_getN (D := D) (ci := 3) (v := .int (tb_sl (rr_O σ))) (C := RX3) (T := TX3) (N := 6) hx hb hts in3 hown hK hP 15 rfl rfl 4 (by decide) f168 (fun _ h9 => h9) rfl dX4_slots_5 ?_
    obtain rfl := so1 hf
    exact hret _ _ _ _ dX4_slots_8 hP hD hS

def rr_keysIn  (σ : RR) (a0 : Int32) : Option Int32 :=
  bd (rr_tableOf σ a0) fun v1 =>
  if v1 = 0 then
    some (tb_ct (rr_P σ))
  else
    some (tb_ct (rr_O σ))
set_option maxHeartbeats 4000000 in
set_option maxRecDepth 100000 in
theorem tX4_keysIn (l : Launch) (D : va_G) (ca : Nat → ClassId) (B : Nat → Nat) (ar : Nat → Nat → Nat) (sz : Nat)  (σ : RR) (a0 : Int32) (r : Int32) (hf : rr_keysIn σ a0 = some r) : Ci l D ca yX4_keysIn wsX4_keysIn { frames := 1, cells := 0, slots := 0, locals := 21 } [.ref (B 0), .int a0] (wRR ca B ar σ) sz r (wRR ca B ar σ) := by
  refine body_of (cc := cX4_keysIn) (maxL := 2) (ret := (some .int)) (fun A => Qi D ca r (wRR ca B ar σ) A) (by decide) rfl (Nat.le_of_ble_eq_true rfl) ?_
  intro p e s m below meth c A ls hx hb hr hml hts hown hlocks hA hK hP hD hS hl hN
  have hl : lv_has ls 2 [(0, .ref (B 0)), (1, .int a0)] := hl
  have hret : ∀ (pc : Nat) (ls : Array Slot) (H : Heap) (locs : List Loc), decode cX4_keysIn pc = .ok (.ireturn, 1) → va_P D vwCl (wRR ca B ar σ) H → va_D A (wRR ca B ar σ) → va_S A s.heap H locs → W p l e { frames := 1, cells := 0, slots := 0, locals := 21 } s m ([.ref (B 0), .int a0] : List Value).toArray below meth c H locs 0 0 (MQ below (Qi D ca r (wRR ca B ar σ) A) ([.ref (B 0), .int a0] : List Value).toArray s 0 0 A) (F0 m pc ls [.int r]) := fun pc ls H locs hd hP hD hS => ret_i hx hb hr hlocks hK hP hD hS hd
  generalize MQ below (Qi D ca r (wRR ca B ar σ) A) ([.ref (B 0), .int a0] : List Value).toArray s 0 0 A = Q at hret ⊢
  generalize ([.ref (B 0), .int a0] : List Value).toArray = args at hts hret ⊢
  have f110 : (Cond.fieldLinkNest RX4 110 "RobinRow$Table" "count" "I" RX4).before args s = true := va_Nw.use rfl (hN.1 (RX4, 110, "RobinRow$Table", "count", "I") (by decide +kernel))
  have in3 : ∀ w ∈ u_ws RX3 TX3 6, w ∈ wsX4_keysIn := by decide +kernel
  unfold rr_keysIn at hf
  refine lv_aload_n hx hb dX4_keysIn_0 rfl (lv_at hl 0 rfl) ?_
  refine lv_iload_n hx hb dX4_keysIn_1 rfl (lv_at hl 1 rfl) ?_
  obtain ⟨v1, ev1, hf⟩ := bd_ob hf
  refine call_r (As := [.int a0]) (rest := []) ⟨hx, hb, hml, hown, hts⟩ (tX4_tableOf l D ca B ar _ σ a0 v1 ev1) (cwV 1 hts gX4_keysIn_X4_tableOf rfl rfl rfl (by decide +kernel) ⟨Nat.le_of_ble_eq_true rfl, Nat.le_of_ble_eq_true rfl⟩) hN hK hP hD hA hS (fr_id _ _) rfl rfl rfl hl.1 rfl (lv_room (Nat.le_of_ble_eq_true rfl)) dX4_keysIn_2 ⟨Nat.le_refl _, Nat.le_refl _⟩ (fun H locs hP hD hS => ?_)
  by_cases c2 : v1 = 0
  · replace hf := it_p c2 hf
    refine W.eq (g2 := F0 m 5 ls [.ref (rr_ap σ)]) (by rw [adrT, if_pos c2]) ?_
    refine va_getN (D := D) (ci := 3) (v := .int (tb_ct (rr_P σ))) (C := RX3) (T := TX3) (N := 6) hx hb hts in3 hown hK hP 10 rfl rfl 5 (by decide) f110 (fun _ h9 => h9) rfl dX4_keysIn_5 ?_
    obtain rfl := so1 hf
    exact hret _ _ _ _ dX4_keysIn_8 hP hD hS
  · replace hf := it_n c2 hf
    refine W.eq (g2 := F0 m 5 ls [.ref (rr_ao σ)]) (by rw [adrT, if_neg c2]) ?_
    refine va_getN (D := D) (ci := 3) (v := .int (tb_ct (rr_O σ))) (C := RX3) (T := TX3) (N := 6) hx hb hts in3 hown hK hP 15 rfl rfl 5 (by decide) f110 (fun _ h9 => h9) rfl dX4_keysIn_5 ?_
    obtain rfl := so1 hf
    exact hret _ _ _ _ dX4_keysIn_8 hP hD hS

def rr_control  (σ : RR) (a0 : Int32) (a1 : Int32) : Option Int32 :=
  bd (rr_tableWithSlot σ a0 a1) fun v1 =>
  if v1 = 0 then
    bd (tt_controlIn (rr_P σ) a1) fun v3 =>
    gn .byte v3 <|
    some v3
  else
    bd (tt_controlIn (rr_O σ) a1) fun v5 =>
    gn .byte v5 <|
    some v5
set_option maxHeartbeats 4000000 in
set_option maxRecDepth 100000 in
theorem tX4_control (l : Launch) (D : va_G) (ca : Nat → ClassId) (B : Nat → Nat) (ar : Nat → Nat → Nat) (sz : Nat)  (σ : RR) (a0 : Int32) (a1 : Int32) (r : Int32) (hf : rr_control σ a0 a1 = some r) : Ci l D ca yX4_control wsX4_control { frames := 2, cells := 0, slots := 0, locals := 44 } [.ref (B 0), .int a0, .int a1] (wRR ca B ar σ) sz r (wRR ca B ar σ) := by
  refine body_of (cc := cX4_control) (maxL := 3) (ret := (some .byte)) (fun A => Qi D ca r (wRR ca B ar σ) A) (by decide) rfl (Nat.le_of_ble_eq_true rfl) ?_
  intro p e s m below meth c A ls hx hb hr hml hts hown hlocks hA hK hP hD hS hl hN
  have hl : lv_has ls 3 [(0, .ref (B 0)), (1, .int a0), (2, .int a1)] := hl
  have hret : ∀ (pc : Nat) (ls : Array Slot) (H : Heap) (locs : List Loc), decode cX4_control pc = .ok (.ireturn, 1) → narrow .byte (.int r) = .int r → va_P D vwCl (wRR ca B ar σ) H → va_D A (wRR ca B ar σ) → va_S A s.heap H locs → W p l e { frames := 2, cells := 0, slots := 0, locals := 44 } s m ([.ref (B 0), .int a0, .int a1] : List Value).toArray below meth c H locs 0 0 (MQ below (Qi D ca r (wRR ca B ar σ) A) ([.ref (B 0), .int a0, .int a1] : List Value).toArray s 0 0 A) (F0 m pc ls [.int r]) := fun pc ls H locs hd hn hP hD hS => ret_z hx hb hr hn hlocks hK hP hD hS hd
  generalize MQ below (Qi D ca r (wRR ca B ar σ) A) ([.ref (B 0), .int a0, .int a1] : List Value).toArray s 0 0 A = Q at hret ⊢
  generalize ([.ref (B 0), .int a0, .int a1] : List Value).toArray = args at hts hret ⊢
  unfold rr_control at hf
  refine lv_aload_n hx hb dX4_control_0 rfl (lv_at hl 0 rfl) ?_
  refine lv_iload_n hx hb dX4_control_1 rfl (lv_at hl 1 rfl) ?_
  refine lv_iload_n hx hb dX4_control_2 rfl (lv_at hl 2 rfl) ?_
  obtain ⟨v1, ev1, hf⟩ := bd_ob hf
  refine call_r (As := [.int a0, .int a1]) (rest := []) ⟨hx, hb, hml, hown, hts⟩ (tX4_tableWithSlot l D ca B ar _ σ a0 a1 v1 ev1) (cwV 2 hts gX4_control_X4_tableWithSlot rfl rfl rfl (by decide +kernel) ⟨Nat.le_of_ble_eq_true rfl, Nat.le_of_ble_eq_true rfl⟩) hN hK hP hD hA hS (fr_id _ _) rfl rfl rfl hl.1 rfl (lv_room (Nat.le_of_ble_eq_true rfl)) dX4_control_3 ⟨Nat.le_refl _, Nat.le_refl _⟩ (fun H locs hP hD hS => ?_)
  by_cases c2 : v1 = 0
  · replace hf := it_p c2 hf
    refine W.eq (g2 := F0 m 6 ls [.ref (rr_ap σ)]) (by rw [adrT, if_pos c2]) ?_
    refine lv_iload_n hx hb dX4_control_6 rfl (lv_at hl 2 rfl) ?_
    obtain ⟨v3, ev3, hf⟩ := bd_ob hf
    refine call_i (As := [.int a1]) (rest := []) ⟨hx, hb, hml, hown, hts⟩ (tX3_controlIn l D ca (rr_ap σ) (ar (rr_ap σ)) _ (rr_P σ) a1 v3 ev3) (cwV 1 hts gX4_control_X3_controlIn rfl rfl rfl (by decide +kernel) ⟨Nat.le_of_ble_eq_true rfl, Nat.le_of_ble_eq_true rfl⟩) hN hK hP hD hA hS (fr_RPp ca B ar σ) rfl rfl rfl hl.1 rfl (lv_room (Nat.le_of_ble_eq_true rfl)) dX4_control_7 ⟨Nat.le_refl _, Nat.le_refl _⟩ (fun H locs hP hD hS => ?_)
    obtain ⟨g4, hf⟩ := gn_ob hf
    obtain rfl := so1 hf
    exact hret _ _ _ _ dX4_control_10 (nr_b g4) hP hD hS
  · replace hf := it_n c2 hf
    refine W.eq (g2 := F0 m 6 ls [.ref (rr_ao σ)]) (by rw [adrT, if_neg c2]) ?_
    refine lv_iload_n hx hb dX4_control_6 rfl (lv_at hl 2 rfl) ?_
    obtain ⟨v5, ev5, hf⟩ := bd_ob hf
    refine call_i (As := [.int a1]) (rest := []) ⟨hx, hb, hml, hown, hts⟩ (tX3_controlIn l D ca (rr_ao σ) (ar (rr_ao σ)) _ (rr_O σ) a1 v5 ev5) (cwV 1 hts gX4_control_X3_controlIn rfl rfl rfl (by decide +kernel) ⟨Nat.le_of_ble_eq_true rfl, Nat.le_of_ble_eq_true rfl⟩) hN hK hP hD hA hS (fr_ROp ca B ar σ) rfl rfl rfl hl.1 rfl (lv_room (Nat.le_of_ble_eq_true rfl)) dX4_control_7 ⟨Nat.le_refl _, Nat.le_refl _⟩ (fun H locs hP hD hS => ?_)
    obtain ⟨g6, hf⟩ := gn_ob hf
    obtain rfl := so1 hf
    exact hret _ _ _ _ dX4_control_10 (nr_b g6) hP hD hS

def rr_keyAt  (σ : RR) (a0 : Int32) (a1 : Int32) : Option Int32 :=
  bd (rr_tableWithSlot σ a0 a1) fun v1 =>
  if v1 = 0 then
    bd (tt_isEmptyIn (rr_P σ) a1) fun v3 =>
    if v3 = 0 then
      bd (tt_keyIn (rr_P σ) a1) fun v5 =>
      some v5
    else
      none
  else
    bd (tt_isEmptyIn (rr_O σ) a1) fun v6 =>
    if v6 = 0 then
      bd (tt_keyIn (rr_O σ) a1) fun v8 =>
      some v8
    else
      none
set_option maxHeartbeats 4000000 in
set_option maxRecDepth 100000 in
theorem tX4_keyAt (l : Launch) (D : va_G) (ca : Nat → ClassId) (B : Nat → Nat) (ar : Nat → Nat → Nat) (sz : Nat)  (σ : RR) (a0 : Int32) (a1 : Int32) (r : Int32) (hf : rr_keyAt σ a0 a1 = some r) : Ci l D ca yX4_keyAt wsX4_keyAt { frames := 2, cells := 0, slots := 0, locals := 44 } [.ref (B 0), .int a0, .int a1] (wRR ca B ar σ) sz r (wRR ca B ar σ) := by
  refine body_of (cc := cX4_keyAt) (maxL := 4) (ret := (some .int)) (fun A => Qi D ca r (wRR ca B ar σ) A) (by decide) rfl (Nat.le_of_ble_eq_true rfl) ?_
  intro p e s m below meth c A ls hx hb hr hml hts hown hlocks hA hK hP hD hS hl hN
  have hl : lv_has ls 4 [(0, .ref (B 0)), (1, .int a0), (2, .int a1)] := hl
  have hret : ∀ (pc : Nat) (ls : Array Slot) (H : Heap) (locs : List Loc), decode cX4_keyAt pc = .ok (.ireturn, 1) → va_P D vwCl (wRR ca B ar σ) H → va_D A (wRR ca B ar σ) → va_S A s.heap H locs → W p l e { frames := 2, cells := 0, slots := 0, locals := 44 } s m ([.ref (B 0), .int a0, .int a1] : List Value).toArray below meth c H locs 0 0 (MQ below (Qi D ca r (wRR ca B ar σ) A) ([.ref (B 0), .int a0, .int a1] : List Value).toArray s 0 0 A) (F0 m pc ls [.int r]) := fun pc ls H locs hd hP hD hS => ret_i hx hb hr hlocks hK hP hD hS hd
  generalize MQ below (Qi D ca r (wRR ca B ar σ) A) ([.ref (B 0), .int a0, .int a1] : List Value).toArray s 0 0 A = Q at hret ⊢
  generalize ([.ref (B 0), .int a0, .int a1] : List Value).toArray = args at hts hret ⊢
  unfold rr_keyAt at hf
  refine lv_aload_n hx hb dX4_keyAt_0 rfl (lv_at hl 0 rfl) ?_
  refine lv_iload_n hx hb dX4_keyAt_1 rfl (lv_at hl 1 rfl) ?_
  refine lv_iload_n hx hb dX4_keyAt_2 rfl (lv_at hl 2 rfl) ?_
  obtain ⟨v1, ev1, hf⟩ := bd_ob hf
  refine call_r (As := [.int a0, .int a1]) (rest := []) ⟨hx, hb, hml, hown, hts⟩ (tX4_tableWithSlot l D ca B ar _ σ a0 a1 v1 ev1) (cwV 2 hts gX4_keyAt_X4_tableWithSlot rfl rfl rfl (by decide +kernel) ⟨Nat.le_of_ble_eq_true rfl, Nat.le_of_ble_eq_true rfl⟩) hN hK hP hD hA hS (fr_id _ _) rfl rfl rfl hl.1 rfl (lv_room (Nat.le_of_ble_eq_true rfl)) dX4_keyAt_3 ⟨Nat.le_refl _, Nat.le_refl _⟩ (fun H locs hP hD hS => ?_)
  by_cases c2 : v1 = 0
  · replace hf := it_p c2 hf
    refine W.eq (g2 := F0 m 6 ls [.ref (rr_ap σ)]) (by rw [adrT, if_pos c2]) ?_
    refine lv_astore_n (lv' := [(3, .ref (rr_ap σ)), (0, .ref (B 0)), (1, .int a0), (2, .int a1)]) hx hb dX4_keyAt_6 rfl hl (by decide) rfl (fun ls hl => ?_)
    refine lv_aload_n hx hb dX4_keyAt_7 rfl (lv_at hl 0 rfl) ?_
    refine lv_iload_n hx hb dX4_keyAt_8 rfl (lv_at hl 3 rfl) ?_
    obtain ⟨v3, ev3, hf⟩ := bd_ob hf
    refine call_i (As := [.int a1]) (rest := []) ⟨hx, hb, hml, hown, hts⟩ (tX3_isEmptyIn l D ca (rr_ap σ) (ar (rr_ap σ)) _ (rr_P σ) a1 v3 ev3) (cwV 1 hts gX4_keyAt_X3_isEmptyIn rfl rfl rfl (by decide +kernel) ⟨Nat.le_of_ble_eq_true rfl, Nat.le_of_ble_eq_true rfl⟩) hN hK hP hD hA hS (fr_RPp ca B ar σ) rfl rfl rfl hl.1 rfl (lv_room (Nat.le_of_ble_eq_true rfl)) dX4_keyAt_9 ⟨Nat.le_refl _, Nat.le_refl _⟩ (fun H locs hP hD hS => ?_)
    refine lv_if_eq (tgt := 25) hx hb dX4_keyAt_12 (by decide) (fun c4 => ?_) (fun c4 => ?_)
    · replace hf := it_p c4 hf
      refine lv_aload_n hx hb dX4_keyAt_25 rfl (lv_at hl 0 rfl) ?_
      refine lv_iload_n hx hb dX4_keyAt_26 rfl (lv_at hl 3 rfl) ?_
      obtain ⟨v5, ev5, hf⟩ := bd_ob hf
      refine call_i (As := [.int a1]) (rest := []) ⟨hx, hb, hml, hown, hts⟩ (tX3_keyIn l D ca (rr_ap σ) (ar (rr_ap σ)) _ (rr_P σ) a1 v5 ev5) (cwV 1 hts gX4_keyAt_X3_keyIn rfl rfl rfl (by decide +kernel) ⟨Nat.le_of_ble_eq_true rfl, Nat.le_of_ble_eq_true rfl⟩) hN hK hP hD hA hS (fr_RPp ca B ar σ) rfl rfl rfl hl.1 rfl (lv_room (Nat.le_of_ble_eq_true rfl)) dX4_keyAt_27 ⟨Nat.le_refl _, Nat.le_refl _⟩ (fun H locs hP hD hS => ?_)
      obtain rfl := so1 hf
      exact hret _ _ _ _ dX4_keyAt_30 hP hD hS
    · replace hf := it_n c4 hf
      exact absurd hf (fun h => by cases h)
  · replace hf := it_n c2 hf
    refine W.eq (g2 := F0 m 6 ls [.ref (rr_ao σ)]) (by rw [adrT, if_neg c2]) ?_
    refine lv_astore_n (lv' := [(3, .ref (rr_ao σ)), (0, .ref (B 0)), (1, .int a0), (2, .int a1)]) hx hb dX4_keyAt_6 rfl hl (by decide) rfl (fun ls hl => ?_)
    refine lv_aload_n hx hb dX4_keyAt_7 rfl (lv_at hl 0 rfl) ?_
    refine lv_iload_n hx hb dX4_keyAt_8 rfl (lv_at hl 3 rfl) ?_
    obtain ⟨v6, ev6, hf⟩ := bd_ob hf
    refine call_i (As := [.int a1]) (rest := []) ⟨hx, hb, hml, hown, hts⟩ (tX3_isEmptyIn l D ca (rr_ao σ) (ar (rr_ao σ)) _ (rr_O σ) a1 v6 ev6) (cwV 1 hts gX4_keyAt_X3_isEmptyIn rfl rfl rfl (by decide +kernel) ⟨Nat.le_of_ble_eq_true rfl, Nat.le_of_ble_eq_true rfl⟩) hN hK hP hD hA hS (fr_ROp ca B ar σ) rfl rfl rfl hl.1 rfl (lv_room (Nat.le_of_ble_eq_true rfl)) dX4_keyAt_9 ⟨Nat.le_refl _, Nat.le_refl _⟩ (fun H locs hP hD hS => ?_)
    refine lv_if_eq (tgt := 25) hx hb dX4_keyAt_12 (by decide) (fun c7 => ?_) (fun c7 => ?_)
    · replace hf := it_p c7 hf
      refine lv_aload_n hx hb dX4_keyAt_25 rfl (lv_at hl 0 rfl) ?_
      refine lv_iload_n hx hb dX4_keyAt_26 rfl (lv_at hl 3 rfl) ?_
      obtain ⟨v8, ev8, hf⟩ := bd_ob hf
      refine call_i (As := [.int a1]) (rest := []) ⟨hx, hb, hml, hown, hts⟩ (tX3_keyIn l D ca (rr_ao σ) (ar (rr_ao σ)) _ (rr_O σ) a1 v8 ev8) (cwV 1 hts gX4_keyAt_X3_keyIn rfl rfl rfl (by decide +kernel) ⟨Nat.le_of_ble_eq_true rfl, Nat.le_of_ble_eq_true rfl⟩) hN hK hP hD hA hS (fr_ROp ca B ar σ) rfl rfl rfl hl.1 rfl (lv_room (Nat.le_of_ble_eq_true rfl)) dX4_keyAt_27 ⟨Nat.le_refl _, Nat.le_refl _⟩ (fun H locs hP hD hS => ?_)
      obtain rfl := so1 hf
      exact hret _ _ _ _ dX4_keyAt_30 hP hD hS
    · replace hf := it_n c7 hf
      exact absurd hf (fun h => by cases h)

def rr_distanceAt  (σ : RR) (a0 : Int32) (a1 : Int32) : Option Int32 :=
  bd (rr_tableWithSlot σ a0 a1) fun v1 =>
  if v1 = 0 then
    bd (tt_distanceIn (rr_P σ) a1) fun v3 =>
    some v3
  else
    bd (tt_distanceIn (rr_O σ) a1) fun v4 =>
    some v4
set_option maxHeartbeats 4000000 in
set_option maxRecDepth 100000 in
theorem tX4_distanceAt (l : Launch) (D : va_G) (ca : Nat → ClassId) (B : Nat → Nat) (ar : Nat → Nat → Nat) (sz : Nat)  (σ : RR) (a0 : Int32) (a1 : Int32) (r : Int32) (hf : rr_distanceAt σ a0 a1 = some r) : Ci l D ca yX4_distanceAt wsX4_distanceAt { frames := 2, cells := 0, slots := 0, locals := 44 } [.ref (B 0), .int a0, .int a1] (wRR ca B ar σ) sz r (wRR ca B ar σ) := by
  refine body_of (cc := cX4_distanceAt) (maxL := 3) (ret := (some .int)) (fun A => Qi D ca r (wRR ca B ar σ) A) (by decide) rfl (Nat.le_of_ble_eq_true rfl) ?_
  intro p e s m below meth c A ls hx hb hr hml hts hown hlocks hA hK hP hD hS hl hN
  have hl : lv_has ls 3 [(0, .ref (B 0)), (1, .int a0), (2, .int a1)] := hl
  have hret : ∀ (pc : Nat) (ls : Array Slot) (H : Heap) (locs : List Loc), decode cX4_distanceAt pc = .ok (.ireturn, 1) → va_P D vwCl (wRR ca B ar σ) H → va_D A (wRR ca B ar σ) → va_S A s.heap H locs → W p l e { frames := 2, cells := 0, slots := 0, locals := 44 } s m ([.ref (B 0), .int a0, .int a1] : List Value).toArray below meth c H locs 0 0 (MQ below (Qi D ca r (wRR ca B ar σ) A) ([.ref (B 0), .int a0, .int a1] : List Value).toArray s 0 0 A) (F0 m pc ls [.int r]) := fun pc ls H locs hd hP hD hS => ret_i hx hb hr hlocks hK hP hD hS hd
  generalize MQ below (Qi D ca r (wRR ca B ar σ) A) ([.ref (B 0), .int a0, .int a1] : List Value).toArray s 0 0 A = Q at hret ⊢
  generalize ([.ref (B 0), .int a0, .int a1] : List Value).toArray = args at hts hret ⊢
  unfold rr_distanceAt at hf
  refine lv_aload_n hx hb dX4_distanceAt_0 rfl (lv_at hl 0 rfl) ?_
  refine lv_iload_n hx hb dX4_distanceAt_1 rfl (lv_at hl 1 rfl) ?_
  refine lv_iload_n hx hb dX4_distanceAt_2 rfl (lv_at hl 2 rfl) ?_
  obtain ⟨v1, ev1, hf⟩ := bd_ob hf
  refine call_r (As := [.int a0, .int a1]) (rest := []) ⟨hx, hb, hml, hown, hts⟩ (tX4_tableWithSlot l D ca B ar _ σ a0 a1 v1 ev1) (cwV 2 hts gX4_distanceAt_X4_tableWithSlot rfl rfl rfl (by decide +kernel) ⟨Nat.le_of_ble_eq_true rfl, Nat.le_of_ble_eq_true rfl⟩) hN hK hP hD hA hS (fr_id _ _) rfl rfl rfl hl.1 rfl (lv_room (Nat.le_of_ble_eq_true rfl)) dX4_distanceAt_3 ⟨Nat.le_refl _, Nat.le_refl _⟩ (fun H locs hP hD hS => ?_)
  by_cases c2 : v1 = 0
  · replace hf := it_p c2 hf
    refine W.eq (g2 := F0 m 6 ls [.ref (rr_ap σ)]) (by rw [adrT, if_pos c2]) ?_
    refine lv_iload_n hx hb dX4_distanceAt_6 rfl (lv_at hl 2 rfl) ?_
    obtain ⟨v3, ev3, hf⟩ := bd_ob hf
    refine call_i (As := [.int a1]) (rest := []) ⟨hx, hb, hml, hown, hts⟩ (tX3_distanceIn l D ca (rr_ap σ) (ar (rr_ap σ)) _ (rr_P σ) a1 v3 ev3) (cwV 1 hts gX4_distanceAt_X3_distanceIn rfl rfl rfl (by decide +kernel) ⟨Nat.le_of_ble_eq_true rfl, Nat.le_of_ble_eq_true rfl⟩) hN hK hP hD hA hS (fr_RPp ca B ar σ) rfl rfl rfl hl.1 rfl (lv_room (Nat.le_of_ble_eq_true rfl)) dX4_distanceAt_7 ⟨Nat.le_refl _, Nat.le_refl _⟩ (fun H locs hP hD hS => ?_)
    obtain rfl := so1 hf
    exact hret _ _ _ _ dX4_distanceAt_10 hP hD hS
  · replace hf := it_n c2 hf
    refine W.eq (g2 := F0 m 6 ls [.ref (rr_ao σ)]) (by rw [adrT, if_neg c2]) ?_
    refine lv_iload_n hx hb dX4_distanceAt_6 rfl (lv_at hl 2 rfl) ?_
    obtain ⟨v4, ev4, hf⟩ := bd_ob hf
    refine call_i (As := [.int a1]) (rest := []) ⟨hx, hb, hml, hown, hts⟩ (tX3_distanceIn l D ca (rr_ao σ) (ar (rr_ao σ)) _ (rr_O σ) a1 v4 ev4) (cwV 1 hts gX4_distanceAt_X3_distanceIn rfl rfl rfl (by decide +kernel) ⟨Nat.le_of_ble_eq_true rfl, Nat.le_of_ble_eq_true rfl⟩) hN hK hP hD hA hS (fr_ROp ca B ar σ) rfl rfl rfl hl.1 rfl (lv_room (Nat.le_of_ble_eq_true rfl)) dX4_distanceAt_7 ⟨Nat.le_refl _, Nat.le_refl _⟩ (fun H locs hP hD hS => ?_)
    obtain rfl := so1 hf
    exact hret _ _ _ _ dX4_distanceAt_10 hP hD hS

def rr_clear  (σ : RR) (a0 : Int32) : Option RR :=
  if a0 = 0 then
    nm (rr_way' σ a0) fun s2 =>
    bd (tt_emptyWith (rr_P s2) 8) fun s4 =>
    nm (rr_P' s2 s4) fun s5 =>
    bd (tt_emptyWith (rr_O s5) 0) fun s7 =>
    nm (rr_O' s5 s7) fun s8 =>
    nm (rr_begun' s8 0) fun s9 =>
    bd (ww_end (rr_sws s9 0)) fun s12 =>
    nm (rr_sws' s9 (va_up (rr_sws s9) 0 s12)) fun s13 =>
    bd (ww_end (rr_sws s13 1)) fun s16 =>
    nm (rr_sws' s13 (va_up (rr_sws s13) 1 s16)) fun s17 =>
    bd (ww_end (rr_sws s17 2)) fun s20 =>
    nm (rr_sws' s17 (va_up (rr_sws s17) 2 s20)) fun s21 =>
    bd (ww_end (rr_sws s21 3)) fun s24 =>
    nm (rr_sws' s21 (va_up (rr_sws s21) 3 s24)) fun s25 =>
    some s25
  else
    if a0 = 1 then
      nm (rr_way' σ a0) fun s28 =>
      bd (tt_emptyWith (rr_P s28) 8) fun s30 =>
      nm (rr_P' s28 s30) fun s31 =>
      bd (tt_emptyWith (rr_O s31) 0) fun s33 =>
      nm (rr_O' s31 s33) fun s34 =>
      nm (rr_begun' s34 0) fun s35 =>
      bd (ww_end (rr_sws s35 0)) fun s38 =>
      nm (rr_sws' s35 (va_up (rr_sws s35) 0 s38)) fun s39 =>
      bd (ww_end (rr_sws s39 1)) fun s42 =>
      nm (rr_sws' s39 (va_up (rr_sws s39) 1 s42)) fun s43 =>
      bd (ww_end (rr_sws s43 2)) fun s46 =>
      nm (rr_sws' s43 (va_up (rr_sws s43) 2 s46)) fun s47 =>
      bd (ww_end (rr_sws s47 3)) fun s50 =>
      nm (rr_sws' s47 (va_up (rr_sws s47) 3 s50)) fun s51 =>
      some s51
    else
      none
set_option maxHeartbeats 4000000 in
set_option maxRecDepth 100000 in
theorem tX4_clear (l : Launch) (D : va_G) (ca : Nat → ClassId) (B : Nat → Nat) (ar : Nat → Nat → Nat) (sz : Nat)  (σ : RR) (a0 : Int32) (σ9 : RR) (hf : rr_clear σ a0 = some σ9) : Cv l D ca yX4_clear wsX4_clear { frames := 2, cells := 0, slots := 0, locals := 43 } [.ref (B 0), .int a0] (wRR ca B ar σ) sz (wRR ca B ar σ9) := by
  refine body_of (cc := cX4_clear) (maxL := 3) (ret := none) (fun A => Qv D ca (wRR ca B ar σ9) A) (by decide) rfl (Nat.le_of_ble_eq_true rfl) ?_
  intro p e s m below meth c A ls hx hb hr hml hts hown hlocks hA hK hP hD hS hl hN
  have hl : lv_has ls 3 [(0, .ref (B 0)), (1, .int a0)] := hl
  have hret : ∀ (pc : Nat) (ls : Array Slot) (H : Heap) (locs : List Loc), decode cX4_clear pc = .ok (.return_, 1) → va_P D vwCl (wRR ca B ar σ9) H → va_D A (wRR ca B ar σ9) → va_S A s.heap H locs → W p l e { frames := 2, cells := 0, slots := 0, locals := 43 } s m ([.ref (B 0), .int a0] : List Value).toArray below meth c H locs 0 0 (MQ below (Qv D ca (wRR ca B ar σ9) A) ([.ref (B 0), .int a0] : List Value).toArray s 0 0 A) (F0 m pc ls []) := fun pc ls H locs hd hP hD hS => ret_v hx hb hr hlocks hK hP hD hS hd
  generalize MQ below (Qv D ca (wRR ca B ar σ9) A) ([.ref (B 0), .int a0] : List Value).toArray s 0 0 A = Q at hret ⊢
  generalize ([.ref (B 0), .int a0] : List Value).toArray = args at hts hret ⊢
  have f11 := hts (.fieldLink RX4 11 "RobinRow" "sweeps" "[LRobinRow$Sweep;") (by decide +kernel)
  have f34 := hts (.fieldLink RX4 34 "RobinRow" "present" "LRobinRow$Table;") (by decide +kernel)
  have f38 := hts (.fieldLink RX4 38 "RobinRow" "old" "LRobinRow$Table;") (by decide +kernel)
  have f42 := hts (.fieldLink RX4 42 "RobinRow" "way" "I") (by decide +kernel)
  have f56 := hts (.fieldLink RX4 56 "RobinRow" "begunMoves" "I") (by decide +kernel)
  have in4 : ∀ w ∈ u_ws RX4 TX4 7, w ∈ wsX4_clear := by decide +kernel
  unfold rr_clear at hf
  refine lv_iload_n hx hb dX4_clear_0 rfl (lv_at hl 1 rfl) ?_
  refine lv_if_eq (tgt := 19) hx hb dX4_clear_1 (by decide) (fun c1 => ?_) (fun c1 => ?_)
  · replace hf := it_p c1 hf
    refine lv_aload_n hx hb dX4_clear_19 rfl (lv_at hl 0 rfl) ?_
    refine lv_iload_n hx hb dX4_clear_20 rfl (lv_at hl 1 rfl) ?_
    obtain ⟨s2, es2, hf⟩ := nm_ob hf
    refine va_put (D := D) (ci := 4) (v := .int a0) (ty := .int) (C := RX4) (T := TX4) (N := 7) hx hb hts in4 tyX4 tyX4_ok nmX4 hown hK hP hD hS 0 rfl rfl 5 (by decide) f42 (fun _ h9 => h9) rfl (by decide +kernel) rfl rfl (Nat.le_of_ble_eq_true rfl) dX4_clear_21 (fun H locs hP hD hS => ?_)
    have hP : va_P D vwCl (wRR ca B ar s2) H := by rw [← es2]; exact hP
    have hD : va_D A (wRR ca B ar s2) := by rw [← es2]; exact hD
    refine lv_aload_n hx hb dX4_clear_24 rfl (lv_at hl 0 rfl) ?_
    refine va_get (D := D) (ci := 4) (v := .ref (rr_ap s2)) (C := RX4) (T := TX4) (N := 7) hx hb hts in4 hown hK hP 0 rfl rfl 3 (by decide) f34 (fun _ h9 => h9) rfl dX4_clear_25 ?_
    refine lv_bipush (v := 8) hx hb dX4_clear_28 (by decide) ?_
    obtain ⟨s4, es4, hf⟩ := bd_ob hf
    refine call_v (As := [.int 8]) (rest := []) ⟨hx, hb, hml, hown, hts⟩ (tX3_emptyWith l D ca (rr_ap s2) (ar (rr_ap s2)) _ (rr_P s2) 8 s4 es4) (cwV 1 hts gX4_clear_X3_emptyWith rfl rfl rfl (by decide +kernel) ⟨Nat.le_of_ble_eq_true rfl, Nat.le_of_ble_eq_true rfl⟩) hN hK hP hD hA hS (fr_RP ca B ar s2 s4) rfl rfl rfl hl.1 rfl (lv_room (Nat.le_of_ble_eq_true rfl)) dX4_clear_30 ⟨Nat.le_refl _, Nat.le_refl _⟩ (fun H locs hP hD hS => ?_)
    obtain ⟨s5, es5, hf⟩ := nm_ob hf
    have hP : va_P D vwCl (wRR ca B ar s5) H := by rw [← es5]; exact hP
    have hD : va_D A (wRR ca B ar s5) := by rw [← es5]; exact hD
    refine lv_aload_n hx hb dX4_clear_33 rfl (lv_at hl 0 rfl) ?_
    refine va_get (D := D) (ci := 4) (v := .ref (rr_ao s5)) (C := RX4) (T := TX4) (N := 7) hx hb hts in4 hown hK hP 0 rfl rfl 4 (by decide) f38 (fun _ h9 => h9) rfl dX4_clear_34 ?_
    refine lv_iconst (v := 0) hx hb dX4_clear_37 (by decide) ?_
    obtain ⟨s7, es7, hf⟩ := bd_ob hf
    refine call_v (As := [.int 0]) (rest := []) ⟨hx, hb, hml, hown, hts⟩ (tX3_emptyWith l D ca (rr_ao s5) (ar (rr_ao s5)) _ (rr_O s5) 0 s7 es7) (cwV 1 hts gX4_clear_X3_emptyWith rfl rfl rfl (by decide +kernel) ⟨Nat.le_of_ble_eq_true rfl, Nat.le_of_ble_eq_true rfl⟩) hN hK hP hD hA hS (fr_RO ca B ar s5 s7) rfl rfl rfl hl.1 rfl (lv_room (Nat.le_of_ble_eq_true rfl)) dX4_clear_38 ⟨Nat.le_refl _, Nat.le_refl _⟩ (fun H locs hP hD hS => ?_)
    obtain ⟨s8, es8, hf⟩ := nm_ob hf
    have hP : va_P D vwCl (wRR ca B ar s8) H := by rw [← es8]; exact hP
    have hD : va_D A (wRR ca B ar s8) := by rw [← es8]; exact hD
    refine lv_aload_n hx hb dX4_clear_41 rfl (lv_at hl 0 rfl) ?_
    refine lv_iconst (v := 0) hx hb dX4_clear_42 (by decide) ?_
    obtain ⟨s9, es9, hf⟩ := nm_ob hf
    refine va_put (D := D) (ci := 4) (v := .int 0) (ty := .int) (C := RX4) (T := TX4) (N := 7) hx hb hts in4 tyX4 tyX4_ok nmX4 hown hK hP hD hS 0 rfl rfl 6 (by decide) f56 (fun _ h9 => h9) rfl (by decide +kernel) rfl rfl (Nat.le_of_ble_eq_true rfl) dX4_clear_43 (fun H locs hP hD hS => ?_)
    have hP : va_P D vwCl (wRR ca B ar s9) H := by rw [← es9]; exact hP
    have hD : va_D A (wRR ca B ar s9) := by rw [← es9]; exact hD
    refine lv_iconst (v := 0) hx hb dX4_clear_46 (by decide) ?_
    refine lv_istore_n (lv' := [(2, .int 0), (0, .ref (B 0)), (1, .int a0)]) hx hb dX4_clear_47 rfl hl (by decide) rfl (fun ls hl => ?_)
    refine lv_iload_n hx hb dX4_clear_48 rfl (lv_at hl 0 rfl) ?_
    refine lv_iconst (v := 4) hx hb dX4_clear_49 (by decide) ?_
    refine lv_icmp_ge (tgt := 68) hx hb dX4_clear_50 (by decide) (fun c => absurd c (by decide)) (fun _ => ?_)
    refine lv_aload_n hx hb dX4_clear_53 rfl (lv_at hl 1 rfl) ?_
    refine va_get (D := D) (ci := 4) (v := .ref (B 1)) (C := RX4) (T := TX4) (N := 7) hx hb hts in4 hown hK hP 0 rfl rfl 0 (by decide) f11 (fun _ h9 => h9) rfl dX4_clear_54 ?_
    refine lv_iload_n hx hb dX4_clear_57 rfl (lv_at hl 0 rfl) ?_
    refine va_aldq hx hb hK hP 1 4 rfl rfl (show ¬ ((0 : Int32) < 0 ∨ 4 ≤ (0 : Int32).toNatClampNeg) by decide) dX4_clear_58 ?_
    refine W.eq (g2 := F0 m 59 ls [.ref (B (2 + 0))]) rfl ?_
    obtain ⟨s12, es12, hf⟩ := bd_ob hf
    refine call_v (As := []) (rest := []) ⟨hx, hb, hml, hown, hts⟩ (tX2_end l D ca (B (2 + 0)) _ (rr_sws s9 0) s12 es12) (cwV 0 hts gX4_clear_X2_end rfl rfl rfl (by decide +kernel) ⟨Nat.le_of_ble_eq_true rfl, Nat.le_of_ble_eq_true rfl⟩) hN hK hP hD hA hS (fr_RW ca B ar s9 s12 (show 0 < 4 by decide)) rfl rfl rfl hl.1 rfl (lv_room (Nat.le_of_ble_eq_true rfl)) dX4_clear_59 ⟨Nat.le_refl _, Nat.le_refl _⟩ (fun H locs hP hD hS => ?_)
    obtain ⟨s13, es13, hf⟩ := nm_ob hf
    have hP : va_P D vwCl (wRR ca B ar s13) H := by rw [← es13]; exact hP
    have hD : va_D A (wRR ca B ar s13) := by rw [← es13]; exact hD
    refine lv_iinc (v := 1) (lv' := [(2, .int 1), (0, .ref (B 0)), (1, .int a0)]) hx hb dX4_clear_62 hl (k := 0) rfl (by decide) (by decide) rfl (fun ls hl => ?_)
    refine lv_goto (tgt := 48) hx hb dX4_clear_65 (by decide) ?_
    refine lv_iload_n hx hb dX4_clear_48 rfl (lv_at hl 0 rfl) ?_
    refine lv_iconst (v := 4) hx hb dX4_clear_49 (by decide) ?_
    refine lv_icmp_ge (tgt := 68) hx hb dX4_clear_50 (by decide) (fun c => absurd c (by decide)) (fun _ => ?_)
    refine lv_aload_n hx hb dX4_clear_53 rfl (lv_at hl 1 rfl) ?_
    refine va_get (D := D) (ci := 4) (v := .ref (B 1)) (C := RX4) (T := TX4) (N := 7) hx hb hts in4 hown hK hP 0 rfl rfl 0 (by decide) f11 (fun _ h9 => h9) rfl dX4_clear_54 ?_
    refine lv_iload_n hx hb dX4_clear_57 rfl (lv_at hl 0 rfl) ?_
    refine va_aldq hx hb hK hP 1 4 rfl rfl (show ¬ ((1 : Int32) < 0 ∨ 4 ≤ (1 : Int32).toNatClampNeg) by decide) dX4_clear_58 ?_
    refine W.eq (g2 := F0 m 59 ls [.ref (B (2 + 1))]) rfl ?_
    obtain ⟨s16, es16, hf⟩ := bd_ob hf
    refine call_v (As := []) (rest := []) ⟨hx, hb, hml, hown, hts⟩ (tX2_end l D ca (B (2 + 1)) _ (rr_sws s13 1) s16 es16) (cwV 0 hts gX4_clear_X2_end rfl rfl rfl (by decide +kernel) ⟨Nat.le_of_ble_eq_true rfl, Nat.le_of_ble_eq_true rfl⟩) hN hK hP hD hA hS (fr_RW ca B ar s13 s16 (show 1 < 4 by decide)) rfl rfl rfl hl.1 rfl (lv_room (Nat.le_of_ble_eq_true rfl)) dX4_clear_59 ⟨Nat.le_refl _, Nat.le_refl _⟩ (fun H locs hP hD hS => ?_)
    obtain ⟨s17, es17, hf⟩ := nm_ob hf
    have hP : va_P D vwCl (wRR ca B ar s17) H := by rw [← es17]; exact hP
    have hD : va_D A (wRR ca B ar s17) := by rw [← es17]; exact hD
    refine lv_iinc (v := 2) (lv' := [(2, .int 2), (0, .ref (B 0)), (1, .int a0)]) hx hb dX4_clear_62 hl (k := 0) rfl (by decide) (by decide) rfl (fun ls hl => ?_)
    refine lv_goto (tgt := 48) hx hb dX4_clear_65 (by decide) ?_
    refine lv_iload_n hx hb dX4_clear_48 rfl (lv_at hl 0 rfl) ?_
    refine lv_iconst (v := 4) hx hb dX4_clear_49 (by decide) ?_
    refine lv_icmp_ge (tgt := 68) hx hb dX4_clear_50 (by decide) (fun c => absurd c (by decide)) (fun _ => ?_)
    refine lv_aload_n hx hb dX4_clear_53 rfl (lv_at hl 1 rfl) ?_
    refine va_get (D := D) (ci := 4) (v := .ref (B 1)) (C := RX4) (T := TX4) (N := 7) hx hb hts in4 hown hK hP 0 rfl rfl 0 (by decide) f11 (fun _ h9 => h9) rfl dX4_clear_54 ?_
    refine lv_iload_n hx hb dX4_clear_57 rfl (lv_at hl 0 rfl) ?_
    refine va_aldq hx hb hK hP 1 4 rfl rfl (show ¬ ((2 : Int32) < 0 ∨ 4 ≤ (2 : Int32).toNatClampNeg) by decide) dX4_clear_58 ?_
    refine W.eq (g2 := F0 m 59 ls [.ref (B (2 + 2))]) rfl ?_
    obtain ⟨s20, es20, hf⟩ := bd_ob hf
    refine call_v (As := []) (rest := []) ⟨hx, hb, hml, hown, hts⟩ (tX2_end l D ca (B (2 + 2)) _ (rr_sws s17 2) s20 es20) (cwV 0 hts gX4_clear_X2_end rfl rfl rfl (by decide +kernel) ⟨Nat.le_of_ble_eq_true rfl, Nat.le_of_ble_eq_true rfl⟩) hN hK hP hD hA hS (fr_RW ca B ar s17 s20 (show 2 < 4 by decide)) rfl rfl rfl hl.1 rfl (lv_room (Nat.le_of_ble_eq_true rfl)) dX4_clear_59 ⟨Nat.le_refl _, Nat.le_refl _⟩ (fun H locs hP hD hS => ?_)
    obtain ⟨s21, es21, hf⟩ := nm_ob hf
    have hP : va_P D vwCl (wRR ca B ar s21) H := by rw [← es21]; exact hP
    have hD : va_D A (wRR ca B ar s21) := by rw [← es21]; exact hD
    refine lv_iinc (v := 3) (lv' := [(2, .int 3), (0, .ref (B 0)), (1, .int a0)]) hx hb dX4_clear_62 hl (k := 0) rfl (by decide) (by decide) rfl (fun ls hl => ?_)
    refine lv_goto (tgt := 48) hx hb dX4_clear_65 (by decide) ?_
    refine lv_iload_n hx hb dX4_clear_48 rfl (lv_at hl 0 rfl) ?_
    refine lv_iconst (v := 4) hx hb dX4_clear_49 (by decide) ?_
    refine lv_icmp_ge (tgt := 68) hx hb dX4_clear_50 (by decide) (fun c => absurd c (by decide)) (fun _ => ?_)
    refine lv_aload_n hx hb dX4_clear_53 rfl (lv_at hl 1 rfl) ?_
    refine va_get (D := D) (ci := 4) (v := .ref (B 1)) (C := RX4) (T := TX4) (N := 7) hx hb hts in4 hown hK hP 0 rfl rfl 0 (by decide) f11 (fun _ h9 => h9) rfl dX4_clear_54 ?_
    refine lv_iload_n hx hb dX4_clear_57 rfl (lv_at hl 0 rfl) ?_
    refine va_aldq hx hb hK hP 1 4 rfl rfl (show ¬ ((3 : Int32) < 0 ∨ 4 ≤ (3 : Int32).toNatClampNeg) by decide) dX4_clear_58 ?_
    refine W.eq (g2 := F0 m 59 ls [.ref (B (2 + 3))]) rfl ?_
    obtain ⟨s24, es24, hf⟩ := bd_ob hf
    refine call_v (As := []) (rest := []) ⟨hx, hb, hml, hown, hts⟩ (tX2_end l D ca (B (2 + 3)) _ (rr_sws s21 3) s24 es24) (cwV 0 hts gX4_clear_X2_end rfl rfl rfl (by decide +kernel) ⟨Nat.le_of_ble_eq_true rfl, Nat.le_of_ble_eq_true rfl⟩) hN hK hP hD hA hS (fr_RW ca B ar s21 s24 (show 3 < 4 by decide)) rfl rfl rfl hl.1 rfl (lv_room (Nat.le_of_ble_eq_true rfl)) dX4_clear_59 ⟨Nat.le_refl _, Nat.le_refl _⟩ (fun H locs hP hD hS => ?_)
    obtain ⟨s25, es25, hf⟩ := nm_ob hf
    have hP : va_P D vwCl (wRR ca B ar s25) H := by rw [← es25]; exact hP
    have hD : va_D A (wRR ca B ar s25) := by rw [← es25]; exact hD
    refine lv_iinc (v := 4) (lv' := [(2, .int 4), (0, .ref (B 0)), (1, .int a0)]) hx hb dX4_clear_62 hl (k := 0) rfl (by decide) (by decide) rfl (fun ls hl => ?_)
    refine lv_goto (tgt := 48) hx hb dX4_clear_65 (by decide) ?_
    refine lv_iload_n hx hb dX4_clear_48 rfl (lv_at hl 0 rfl) ?_
    refine lv_iconst (v := 4) hx hb dX4_clear_49 (by decide) ?_
    refine lv_icmp_ge (tgt := 68) hx hb dX4_clear_50 (by decide) (fun _ => ?_) (fun c => absurd c (by decide))
    obtain rfl := so1 hf
    exact hret _ _ _ _ dX4_clear_68 hP hD hS
  · replace hf := it_n c1 hf
    refine lv_iload_n hx hb dX4_clear_4 rfl (lv_at hl 1 rfl) ?_
    refine lv_iconst (v := 1) hx hb dX4_clear_5 (by decide) ?_
    refine lv_icmp_eq (tgt := 19) hx hb dX4_clear_6 (by decide) (fun c27 => ?_) (fun c27 => ?_)
    · replace hf := it_p c27 hf
      refine lv_aload_n hx hb dX4_clear_19 rfl (lv_at hl 0 rfl) ?_
      refine lv_iload_n hx hb dX4_clear_20 rfl (lv_at hl 1 rfl) ?_
      obtain ⟨s28, es28, hf⟩ := nm_ob hf
      refine va_put (D := D) (ci := 4) (v := .int a0) (ty := .int) (C := RX4) (T := TX4) (N := 7) hx hb hts in4 tyX4 tyX4_ok nmX4 hown hK hP hD hS 0 rfl rfl 5 (by decide) f42 (fun _ h9 => h9) rfl (by decide +kernel) rfl rfl (Nat.le_of_ble_eq_true rfl) dX4_clear_21 (fun H locs hP hD hS => ?_)
      have hP : va_P D vwCl (wRR ca B ar s28) H := by rw [← es28]; exact hP
      have hD : va_D A (wRR ca B ar s28) := by rw [← es28]; exact hD
      refine lv_aload_n hx hb dX4_clear_24 rfl (lv_at hl 0 rfl) ?_
      refine va_get (D := D) (ci := 4) (v := .ref (rr_ap s28)) (C := RX4) (T := TX4) (N := 7) hx hb hts in4 hown hK hP 0 rfl rfl 3 (by decide) f34 (fun _ h9 => h9) rfl dX4_clear_25 ?_
      refine lv_bipush (v := 8) hx hb dX4_clear_28 (by decide) ?_
      obtain ⟨s30, es30, hf⟩ := bd_ob hf
      refine call_v (As := [.int 8]) (rest := []) ⟨hx, hb, hml, hown, hts⟩ (tX3_emptyWith l D ca (rr_ap s28) (ar (rr_ap s28)) _ (rr_P s28) 8 s30 es30) (cwV 1 hts gX4_clear_X3_emptyWith rfl rfl rfl (by decide +kernel) ⟨Nat.le_of_ble_eq_true rfl, Nat.le_of_ble_eq_true rfl⟩) hN hK hP hD hA hS (fr_RP ca B ar s28 s30) rfl rfl rfl hl.1 rfl (lv_room (Nat.le_of_ble_eq_true rfl)) dX4_clear_30 ⟨Nat.le_refl _, Nat.le_refl _⟩ (fun H locs hP hD hS => ?_)
      obtain ⟨s31, es31, hf⟩ := nm_ob hf
      have hP : va_P D vwCl (wRR ca B ar s31) H := by rw [← es31]; exact hP
      have hD : va_D A (wRR ca B ar s31) := by rw [← es31]; exact hD
      refine lv_aload_n hx hb dX4_clear_33 rfl (lv_at hl 0 rfl) ?_
      refine va_get (D := D) (ci := 4) (v := .ref (rr_ao s31)) (C := RX4) (T := TX4) (N := 7) hx hb hts in4 hown hK hP 0 rfl rfl 4 (by decide) f38 (fun _ h9 => h9) rfl dX4_clear_34 ?_
      refine lv_iconst (v := 0) hx hb dX4_clear_37 (by decide) ?_
      obtain ⟨s33, es33, hf⟩ := bd_ob hf
      refine call_v (As := [.int 0]) (rest := []) ⟨hx, hb, hml, hown, hts⟩ (tX3_emptyWith l D ca (rr_ao s31) (ar (rr_ao s31)) _ (rr_O s31) 0 s33 es33) (cwV 1 hts gX4_clear_X3_emptyWith rfl rfl rfl (by decide +kernel) ⟨Nat.le_of_ble_eq_true rfl, Nat.le_of_ble_eq_true rfl⟩) hN hK hP hD hA hS (fr_RO ca B ar s31 s33) rfl rfl rfl hl.1 rfl (lv_room (Nat.le_of_ble_eq_true rfl)) dX4_clear_38 ⟨Nat.le_refl _, Nat.le_refl _⟩ (fun H locs hP hD hS => ?_)
      obtain ⟨s34, es34, hf⟩ := nm_ob hf
      have hP : va_P D vwCl (wRR ca B ar s34) H := by rw [← es34]; exact hP
      have hD : va_D A (wRR ca B ar s34) := by rw [← es34]; exact hD
      refine lv_aload_n hx hb dX4_clear_41 rfl (lv_at hl 0 rfl) ?_
      refine lv_iconst (v := 0) hx hb dX4_clear_42 (by decide) ?_
      obtain ⟨s35, es35, hf⟩ := nm_ob hf
      refine va_put (D := D) (ci := 4) (v := .int 0) (ty := .int) (C := RX4) (T := TX4) (N := 7) hx hb hts in4 tyX4 tyX4_ok nmX4 hown hK hP hD hS 0 rfl rfl 6 (by decide) f56 (fun _ h9 => h9) rfl (by decide +kernel) rfl rfl (Nat.le_of_ble_eq_true rfl) dX4_clear_43 (fun H locs hP hD hS => ?_)
      have hP : va_P D vwCl (wRR ca B ar s35) H := by rw [← es35]; exact hP
      have hD : va_D A (wRR ca B ar s35) := by rw [← es35]; exact hD
      refine lv_iconst (v := 0) hx hb dX4_clear_46 (by decide) ?_
      refine lv_istore_n (lv' := [(2, .int 0), (0, .ref (B 0)), (1, .int a0)]) hx hb dX4_clear_47 rfl hl (by decide) rfl (fun ls hl => ?_)
      refine lv_iload_n hx hb dX4_clear_48 rfl (lv_at hl 0 rfl) ?_
      refine lv_iconst (v := 4) hx hb dX4_clear_49 (by decide) ?_
      refine lv_icmp_ge (tgt := 68) hx hb dX4_clear_50 (by decide) (fun c => absurd c (by decide)) (fun _ => ?_)
      refine lv_aload_n hx hb dX4_clear_53 rfl (lv_at hl 1 rfl) ?_
      refine va_get (D := D) (ci := 4) (v := .ref (B 1)) (C := RX4) (T := TX4) (N := 7) hx hb hts in4 hown hK hP 0 rfl rfl 0 (by decide) f11 (fun _ h9 => h9) rfl dX4_clear_54 ?_
      refine lv_iload_n hx hb dX4_clear_57 rfl (lv_at hl 0 rfl) ?_
      refine va_aldq hx hb hK hP 1 4 rfl rfl (show ¬ ((0 : Int32) < 0 ∨ 4 ≤ (0 : Int32).toNatClampNeg) by decide) dX4_clear_58 ?_
      refine W.eq (g2 := F0 m 59 ls [.ref (B (2 + 0))]) rfl ?_
      obtain ⟨s38, es38, hf⟩ := bd_ob hf
      refine call_v (As := []) (rest := []) ⟨hx, hb, hml, hown, hts⟩ (tX2_end l D ca (B (2 + 0)) _ (rr_sws s35 0) s38 es38) (cwV 0 hts gX4_clear_X2_end rfl rfl rfl (by decide +kernel) ⟨Nat.le_of_ble_eq_true rfl, Nat.le_of_ble_eq_true rfl⟩) hN hK hP hD hA hS (fr_RW ca B ar s35 s38 (show 0 < 4 by decide)) rfl rfl rfl hl.1 rfl (lv_room (Nat.le_of_ble_eq_true rfl)) dX4_clear_59 ⟨Nat.le_refl _, Nat.le_refl _⟩ (fun H locs hP hD hS => ?_)
      obtain ⟨s39, es39, hf⟩ := nm_ob hf
      have hP : va_P D vwCl (wRR ca B ar s39) H := by rw [← es39]; exact hP
      have hD : va_D A (wRR ca B ar s39) := by rw [← es39]; exact hD
      refine lv_iinc (v := 1) (lv' := [(2, .int 1), (0, .ref (B 0)), (1, .int a0)]) hx hb dX4_clear_62 hl (k := 0) rfl (by decide) (by decide) rfl (fun ls hl => ?_)
      refine lv_goto (tgt := 48) hx hb dX4_clear_65 (by decide) ?_
      refine lv_iload_n hx hb dX4_clear_48 rfl (lv_at hl 0 rfl) ?_
      refine lv_iconst (v := 4) hx hb dX4_clear_49 (by decide) ?_
      refine lv_icmp_ge (tgt := 68) hx hb dX4_clear_50 (by decide) (fun c => absurd c (by decide)) (fun _ => ?_)
      refine lv_aload_n hx hb dX4_clear_53 rfl (lv_at hl 1 rfl) ?_
      refine va_get (D := D) (ci := 4) (v := .ref (B 1)) (C := RX4) (T := TX4) (N := 7) hx hb hts in4 hown hK hP 0 rfl rfl 0 (by decide) f11 (fun _ h9 => h9) rfl dX4_clear_54 ?_
      refine lv_iload_n hx hb dX4_clear_57 rfl (lv_at hl 0 rfl) ?_
      refine va_aldq hx hb hK hP 1 4 rfl rfl (show ¬ ((1 : Int32) < 0 ∨ 4 ≤ (1 : Int32).toNatClampNeg) by decide) dX4_clear_58 ?_
      refine W.eq (g2 := F0 m 59 ls [.ref (B (2 + 1))]) rfl ?_
      obtain ⟨s42, es42, hf⟩ := bd_ob hf
      refine call_v (As := []) (rest := []) ⟨hx, hb, hml, hown, hts⟩ (tX2_end l D ca (B (2 + 1)) _ (rr_sws s39 1) s42 es42) (cwV 0 hts gX4_clear_X2_end rfl rfl rfl (by decide +kernel) ⟨Nat.le_of_ble_eq_true rfl, Nat.le_of_ble_eq_true rfl⟩) hN hK hP hD hA hS (fr_RW ca B ar s39 s42 (show 1 < 4 by decide)) rfl rfl rfl hl.1 rfl (lv_room (Nat.le_of_ble_eq_true rfl)) dX4_clear_59 ⟨Nat.le_refl _, Nat.le_refl _⟩ (fun H locs hP hD hS => ?_)
      obtain ⟨s43, es43, hf⟩ := nm_ob hf
      have hP : va_P D vwCl (wRR ca B ar s43) H := by rw [← es43]; exact hP
      have hD : va_D A (wRR ca B ar s43) := by rw [← es43]; exact hD
      refine lv_iinc (v := 2) (lv' := [(2, .int 2), (0, .ref (B 0)), (1, .int a0)]) hx hb dX4_clear_62 hl (k := 0) rfl (by decide) (by decide) rfl (fun ls hl => ?_)
      refine lv_goto (tgt := 48) hx hb dX4_clear_65 (by decide) ?_
      refine lv_iload_n hx hb dX4_clear_48 rfl (lv_at hl 0 rfl) ?_
      refine lv_iconst (v := 4) hx hb dX4_clear_49 (by decide) ?_
      refine lv_icmp_ge (tgt := 68) hx hb dX4_clear_50 (by decide) (fun c => absurd c (by decide)) (fun _ => ?_)
      refine lv_aload_n hx hb dX4_clear_53 rfl (lv_at hl 1 rfl) ?_
      refine va_get (D := D) (ci := 4) (v := .ref (B 1)) (C := RX4) (T := TX4) (N := 7) hx hb hts in4 hown hK hP 0 rfl rfl 0 (by decide) f11 (fun _ h9 => h9) rfl dX4_clear_54 ?_
      refine lv_iload_n hx hb dX4_clear_57 rfl (lv_at hl 0 rfl) ?_
      refine va_aldq hx hb hK hP 1 4 rfl rfl (show ¬ ((2 : Int32) < 0 ∨ 4 ≤ (2 : Int32).toNatClampNeg) by decide) dX4_clear_58 ?_
      refine W.eq (g2 := F0 m 59 ls [.ref (B (2 + 2))]) rfl ?_
      obtain ⟨s46, es46, hf⟩ := bd_ob hf
      refine call_v (As := []) (rest := []) ⟨hx, hb, hml, hown, hts⟩ (tX2_end l D ca (B (2 + 2)) _ (rr_sws s43 2) s46 es46) (cwV 0 hts gX4_clear_X2_end rfl rfl rfl (by decide +kernel) ⟨Nat.le_of_ble_eq_true rfl, Nat.le_of_ble_eq_true rfl⟩) hN hK hP hD hA hS (fr_RW ca B ar s43 s46 (show 2 < 4 by decide)) rfl rfl rfl hl.1 rfl (lv_room (Nat.le_of_ble_eq_true rfl)) dX4_clear_59 ⟨Nat.le_refl _, Nat.le_refl _⟩ (fun H locs hP hD hS => ?_)
      obtain ⟨s47, es47, hf⟩ := nm_ob hf
      have hP : va_P D vwCl (wRR ca B ar s47) H := by rw [← es47]; exact hP
      have hD : va_D A (wRR ca B ar s47) := by rw [← es47]; exact hD
      refine lv_iinc (v := 3) (lv' := [(2, .int 3), (0, .ref (B 0)), (1, .int a0)]) hx hb dX4_clear_62 hl (k := 0) rfl (by decide) (by decide) rfl (fun ls hl => ?_)
      refine lv_goto (tgt := 48) hx hb dX4_clear_65 (by decide) ?_
      refine lv_iload_n hx hb dX4_clear_48 rfl (lv_at hl 0 rfl) ?_
      refine lv_iconst (v := 4) hx hb dX4_clear_49 (by decide) ?_
      refine lv_icmp_ge (tgt := 68) hx hb dX4_clear_50 (by decide) (fun c => absurd c (by decide)) (fun _ => ?_)
      refine lv_aload_n hx hb dX4_clear_53 rfl (lv_at hl 1 rfl) ?_
      refine va_get (D := D) (ci := 4) (v := .ref (B 1)) (C := RX4) (T := TX4) (N := 7) hx hb hts in4 hown hK hP 0 rfl rfl 0 (by decide) f11 (fun _ h9 => h9) rfl dX4_clear_54 ?_
      refine lv_iload_n hx hb dX4_clear_57 rfl (lv_at hl 0 rfl) ?_
      refine va_aldq hx hb hK hP 1 4 rfl rfl (show ¬ ((3 : Int32) < 0 ∨ 4 ≤ (3 : Int32).toNatClampNeg) by decide) dX4_clear_58 ?_
      refine W.eq (g2 := F0 m 59 ls [.ref (B (2 + 3))]) rfl ?_
      obtain ⟨s50, es50, hf⟩ := bd_ob hf
      refine call_v (As := []) (rest := []) ⟨hx, hb, hml, hown, hts⟩ (tX2_end l D ca (B (2 + 3)) _ (rr_sws s47 3) s50 es50) (cwV 0 hts gX4_clear_X2_end rfl rfl rfl (by decide +kernel) ⟨Nat.le_of_ble_eq_true rfl, Nat.le_of_ble_eq_true rfl⟩) hN hK hP hD hA hS (fr_RW ca B ar s47 s50 (show 3 < 4 by decide)) rfl rfl rfl hl.1 rfl (lv_room (Nat.le_of_ble_eq_true rfl)) dX4_clear_59 ⟨Nat.le_refl _, Nat.le_refl _⟩ (fun H locs hP hD hS => ?_)
      obtain ⟨s51, es51, hf⟩ := nm_ob hf
      have hP : va_P D vwCl (wRR ca B ar s51) H := by rw [← es51]; exact hP
      have hD : va_D A (wRR ca B ar s51) := by rw [← es51]; exact hD
      refine lv_iinc (v := 4) (lv' := [(2, .int 4), (0, .ref (B 0)), (1, .int a0)]) hx hb dX4_clear_62 hl (k := 0) rfl (by decide) (by decide) rfl (fun ls hl => ?_)
      refine lv_goto (tgt := 48) hx hb dX4_clear_65 (by decide) ?_
      refine lv_iload_n hx hb dX4_clear_48 rfl (lv_at hl 0 rfl) ?_
      refine lv_iconst (v := 4) hx hb dX4_clear_49 (by decide) ?_
      refine lv_icmp_ge (tgt := 68) hx hb dX4_clear_50 (by decide) (fun _ => ?_) (fun c => absurd c (by decide))
      obtain rfl := so1 hf
      exact hret _ _ _ _ dX4_clear_68 hP hD hS
    · replace hf := it_n c27 hf
      exact absurd hf (fun h => by cases h)
