def tt_around  (τ : Tb) (a0 : Int32) : Option Int32 :=
  if (tb_sl τ) ≤ 0 then
    some 0
  else
    some (a0 &&& ((tb_sl τ) - 1))
set_option maxHeartbeats 4000000 in
set_option maxRecDepth 100000 in
theorem tX3_around (l : Launch) (D : va_G) (ca : Nat → ClassId) (h : Nat) (ar : Nat → Nat) (sz : Nat)  (τ : Tb) (a0 : Int32) (r : Int32) (hf : tt_around τ a0 = some r) : Ci l D ca yX3_around wsX3_around { frames := 0, cells := 0, slots := 0, locals := 0 } [.ref h, .int a0] (wTab ca h ar τ) sz r (wTab ca h ar τ) := by
  refine body_of (cc := cX3_around) (maxL := 2) (ret := (some .int)) (fun A => Qi D ca r (wTab ca h ar τ) A) (by decide) rfl (Nat.le_of_ble_eq_true rfl) ?_
  intro p e s m below meth c A ls hx hb hr hml hts hown hlocks hA hK hP hD hS hl hN
  have hl : lv_has ls 2 [(0, .ref h), (1, .int a0)] := hl
  have hret : ∀ (pc : Nat) (ls : Array Slot) (H : Heap) (locs : List Loc), decode cX3_around pc = .ok (.ireturn, 1) → va_P D vwCl (wTab ca h ar τ) H → va_D A (wTab ca h ar τ) → va_S A s.heap H locs → W p l e { frames := 0, cells := 0, slots := 0, locals := 0 } s m ([.ref h, .int a0] : List Value).toArray below meth c H locs 0 0 (MQ below (Qi D ca r (wTab ca h ar τ) A) ([.ref h, .int a0] : List Value).toArray s 0 0 A) (F0 m pc ls [.int r]) := fun pc ls H locs hd hP hD hS => ret_i hx hb hr hlocks hK hP hD hS hd
  generalize MQ below (Qi D ca r (wTab ca h ar τ) A) ([.ref h, .int a0] : List Value).toArray s 0 0 A = Q at hret ⊢
  generalize ([.ref h, .int a0] : List Value).toArray = args at hts hret ⊢
  have f35 := hts (.fieldLink RX3 35 "RobinRow$Table" "slots" "I") (by decide +kernel)
  have in3 : ∀ w ∈ u_ws RX3 TX3 6, w ∈ wsX3_around := by decide +kernel
  unfold tt_around at hf
  refine lv_aload_n hx hb dX3_around_0 rfl (lv_at hl 0 rfl) ?_
  refine va_get (D := D) (ci := 3) (v := .int (tb_sl τ)) (C := RX3) (T := TX3) (N := 6) hx hb hts in3 hown hK hP 0 rfl rfl 4 (by decide) f35 (fun _ h9 => h9) rfl dX3_around_1 ?_
  refine lv_if_le (tgt := 18) hx hb dX3_around_4 (by decide) (fun c1 => ?_) (fun c1 => ?_)
  · replace hf := it_p c1 hf
    refine lv_iconst (v := 0) hx hb dX3_around_18 (by decide) ?_
    obtain rfl := so1 hf
    exact hret _ _ _ _ dX3_around_19 hP hD hS
  · replace hf := it_n c1 hf
    refine lv_iload_n hx hb dX3_around_7 rfl (lv_at hl 1 rfl) ?_
    refine lv_aload_n hx hb dX3_around_8 rfl (lv_at hl 0 rfl) ?_
    refine va_get (D := D) (ci := 3) (v := .int (tb_sl τ)) (C := RX3) (T := TX3) (N := 6) hx hb hts in3 hown hK hP 0 rfl rfl 4 (by decide) f35 (fun _ h9 => h9) rfl dX3_around_9 ?_
    refine lv_iconst (v := 1) hx hb dX3_around_12 (by decide) ?_
    refine lv_isub hx hb dX3_around_13 ?_
    refine lv_iand hx hb dX3_around_14 ?_
    refine lv_goto (tgt := 19) hx hb dX3_around_15 (by decide) ?_
    obtain rfl := so1 hf
    exact hret _ _ _ _ dX3_around_19 hP hD hS

def tt_isEmptyIn  (τ : Tb) (a0 : Int32) : Option Int32 :=
  gd a0 256 <|
  if (tb_ctl τ a0.toNatClampNeg) = (-128) then
    some 1
  else
    some 0
set_option maxHeartbeats 4000000 in
set_option maxRecDepth 100000 in
theorem tX3_isEmptyIn (l : Launch) (D : va_G) (ca : Nat → ClassId) (h : Nat) (ar : Nat → Nat) (sz : Nat)  (τ : Tb) (a0 : Int32) (r : Int32) (hf : tt_isEmptyIn τ a0 = some r) : Ci l D ca yX3_isEmptyIn wsX3_isEmptyIn { frames := 0, cells := 0, slots := 0, locals := 0 } [.ref h, .int a0] (wTab ca h ar τ) sz r (wTab ca h ar τ) := by
  refine body_of (cc := cX3_isEmptyIn) (maxL := 2) (ret := (some .boolean)) (fun A => Qi D ca r (wTab ca h ar τ) A) (by decide) rfl (Nat.le_of_ble_eq_true rfl) ?_
  intro p e s m below meth c A ls hx hb hr hml hts hown hlocks hA hK hP hD hS hl hN
  have hl : lv_has ls 2 [(0, .ref h), (1, .int a0)] := hl
  have hret : ∀ (pc : Nat) (ls : Array Slot) (H : Heap) (locs : List Loc), decode cX3_isEmptyIn pc = .ok (.ireturn, 1) → narrow .boolean (.int r) = .int r → va_P D vwCl (wTab ca h ar τ) H → va_D A (wTab ca h ar τ) → va_S A s.heap H locs → W p l e { frames := 0, cells := 0, slots := 0, locals := 0 } s m ([.ref h, .int a0] : List Value).toArray below meth c H locs 0 0 (MQ below (Qi D ca r (wTab ca h ar τ) A) ([.ref h, .int a0] : List Value).toArray s 0 0 A) (F0 m pc ls [.int r]) := fun pc ls H locs hd hn hP hD hS => ret_z hx hb hr hn hlocks hK hP hD hS hd
  generalize MQ below (Qi D ca r (wTab ca h ar τ) A) ([.ref h, .int a0] : List Value).toArray s 0 0 A = Q at hret ⊢
  generalize ([.ref h, .int a0] : List Value).toArray = args at hts hret ⊢
  have f9 := hts (.fieldLink RX3 9 "RobinRow$Table" "controls" "[B") (by decide +kernel)
  have in3 : ∀ w ∈ u_ws RX3 TX3 6, w ∈ wsX3_isEmptyIn := by decide +kernel
  unfold tt_isEmptyIn at hf
  refine lv_aload_n hx hb dX3_isEmptyIn_0 rfl (lv_at hl 0 rfl) ?_
  refine va_get (D := D) (ci := 3) (v := .ref (ar 0)) (C := RX3) (T := TX3) (N := 6) hx hb hts in3 hown hK hP 0 rfl rfl 0 (by decide) f9 (fun _ h9 => h9) rfl dX3_isEmptyIn_1 ?_
  refine lv_iload_n hx hb dX3_isEmptyIn_4 rfl (lv_at hl 1 rfl) ?_
  obtain ⟨g1, hf⟩ := gd_ob hf
  refine va_bald hx hb hK hP 1 1 rfl rfl g1 dX3_isEmptyIn_5 ?_
  refine lv_bipush (v := (-128)) hx hb dX3_isEmptyIn_6 (by decide) ?_
  refine lv_icmp_ne (tgt := 15) hx hb dX3_isEmptyIn_8 (by decide) (fun c2 => ?_) (fun c2 => ?_)
  · replace hf := it_n c2 hf
    refine lv_iconst (v := 0) hx hb dX3_isEmptyIn_15 (by decide) ?_
    obtain rfl := so1 hf
    exact hret _ _ _ _ dX3_isEmptyIn_16 rfl hP hD hS
  · replace hf := it_p c2 hf
    refine lv_iconst (v := 1) hx hb dX3_isEmptyIn_11 (by decide) ?_
    refine lv_goto (tgt := 16) hx hb dX3_isEmptyIn_12 (by decide) ?_
    obtain rfl := so1 hf
    exact hret _ _ _ _ dX3_isEmptyIn_16 rfl hP hD hS

def tt_controlIn  (τ : Tb) (a0 : Int32) : Option Int32 :=
  gd a0 256 <|
  gn .byte (tb_ctl τ a0.toNatClampNeg) <|
  some (tb_ctl τ a0.toNatClampNeg)
set_option maxHeartbeats 4000000 in
set_option maxRecDepth 100000 in
theorem tX3_controlIn (l : Launch) (D : va_G) (ca : Nat → ClassId) (h : Nat) (ar : Nat → Nat) (sz : Nat)  (τ : Tb) (a0 : Int32) (r : Int32) (hf : tt_controlIn τ a0 = some r) : Ci l D ca yX3_controlIn wsX3_controlIn { frames := 0, cells := 0, slots := 0, locals := 0 } [.ref h, .int a0] (wTab ca h ar τ) sz r (wTab ca h ar τ) := by
  refine body_of (cc := cX3_controlIn) (maxL := 2) (ret := (some .byte)) (fun A => Qi D ca r (wTab ca h ar τ) A) (by decide) rfl (Nat.le_of_ble_eq_true rfl) ?_
  intro p e s m below meth c A ls hx hb hr hml hts hown hlocks hA hK hP hD hS hl hN
  have hl : lv_has ls 2 [(0, .ref h), (1, .int a0)] := hl
  have hret : ∀ (pc : Nat) (ls : Array Slot) (H : Heap) (locs : List Loc), decode cX3_controlIn pc = .ok (.ireturn, 1) → narrow .byte (.int r) = .int r → va_P D vwCl (wTab ca h ar τ) H → va_D A (wTab ca h ar τ) → va_S A s.heap H locs → W p l e { frames := 0, cells := 0, slots := 0, locals := 0 } s m ([.ref h, .int a0] : List Value).toArray below meth c H locs 0 0 (MQ below (Qi D ca r (wTab ca h ar τ) A) ([.ref h, .int a0] : List Value).toArray s 0 0 A) (F0 m pc ls [.int r]) := fun pc ls H locs hd hn hP hD hS => ret_z hx hb hr hn hlocks hK hP hD hS hd
  generalize MQ below (Qi D ca r (wTab ca h ar τ) A) ([.ref h, .int a0] : List Value).toArray s 0 0 A = Q at hret ⊢
  generalize ([.ref h, .int a0] : List Value).toArray = args at hts hret ⊢
  have f9 := hts (.fieldLink RX3 9 "RobinRow$Table" "controls" "[B") (by decide +kernel)
  have in3 : ∀ w ∈ u_ws RX3 TX3 6, w ∈ wsX3_controlIn := by decide +kernel
  unfold tt_controlIn at hf
  refine lv_aload_n hx hb dX3_controlIn_0 rfl (lv_at hl 0 rfl) ?_
  refine va_get (D := D) (ci := 3) (v := .ref (ar 0)) (C := RX3) (T := TX3) (N := 6) hx hb hts in3 hown hK hP 0 rfl rfl 0 (by decide) f9 (fun _ h9 => h9) rfl dX3_controlIn_1 ?_
  refine lv_iload_n hx hb dX3_controlIn_4 rfl (lv_at hl 1 rfl) ?_
  obtain ⟨g1, hf⟩ := gd_ob hf
  refine va_bald hx hb hK hP 1 1 rfl rfl g1 dX3_controlIn_5 ?_
  obtain ⟨g2, hf⟩ := gn_ob hf
  obtain rfl := so1 hf
  exact hret _ _ _ _ dX3_controlIn_6 (nr_b g2) hP hD hS

def tt_hashIn  (τ : Tb) (a0 : Int32) : Option Int32 :=
  gd a0 256 <|
  some (tb_hs τ a0.toNatClampNeg)
set_option maxHeartbeats 4000000 in
set_option maxRecDepth 100000 in
theorem tX3_hashIn (l : Launch) (D : va_G) (ca : Nat → ClassId) (h : Nat) (ar : Nat → Nat) (sz : Nat)  (τ : Tb) (a0 : Int32) (r : Int32) (hf : tt_hashIn τ a0 = some r) : Ci l D ca yX3_hashIn wsX3_hashIn { frames := 0, cells := 0, slots := 0, locals := 0 } [.ref h, .int a0] (wTab ca h ar τ) sz r (wTab ca h ar τ) := by
  refine body_of (cc := cX3_hashIn) (maxL := 2) (ret := (some .int)) (fun A => Qi D ca r (wTab ca h ar τ) A) (by decide) rfl (Nat.le_of_ble_eq_true rfl) ?_
  intro p e s m below meth c A ls hx hb hr hml hts hown hlocks hA hK hP hD hS hl hN
  have hl : lv_has ls 2 [(0, .ref h), (1, .int a0)] := hl
  have hret : ∀ (pc : Nat) (ls : Array Slot) (H : Heap) (locs : List Loc), decode cX3_hashIn pc = .ok (.ireturn, 1) → va_P D vwCl (wTab ca h ar τ) H → va_D A (wTab ca h ar τ) → va_S A s.heap H locs → W p l e { frames := 0, cells := 0, slots := 0, locals := 0 } s m ([.ref h, .int a0] : List Value).toArray below meth c H locs 0 0 (MQ below (Qi D ca r (wTab ca h ar τ) A) ([.ref h, .int a0] : List Value).toArray s 0 0 A) (F0 m pc ls [.int r]) := fun pc ls H locs hd hP hD hS => ret_i hx hb hr hlocks hK hP hD hS hd
  generalize MQ below (Qi D ca r (wTab ca h ar τ) A) ([.ref h, .int a0] : List Value).toArray s 0 0 A = Q at hret ⊢
  generalize ([.ref h, .int a0] : List Value).toArray = args at hts hret ⊢
  have f15 := hts (.fieldLink RX3 15 "RobinRow$Table" "hashes" "[I") (by decide +kernel)
  have in3 : ∀ w ∈ u_ws RX3 TX3 6, w ∈ wsX3_hashIn := by decide +kernel
  unfold tt_hashIn at hf
  refine lv_aload_n hx hb dX3_hashIn_0 rfl (lv_at hl 0 rfl) ?_
  refine va_get (D := D) (ci := 3) (v := .ref (ar 1)) (C := RX3) (T := TX3) (N := 6) hx hb hts in3 hown hK hP 0 rfl rfl 1 (by decide) f15 (fun _ h9 => h9) rfl dX3_hashIn_1 ?_
  refine lv_iload_n hx hb dX3_hashIn_4 rfl (lv_at hl 1 rfl) ?_
  obtain ⟨g1, hf⟩ := gd_ob hf
  refine va_iald hx hb hK hP 2 0 rfl rfl g1 dX3_hashIn_5 ?_
  obtain rfl := so1 hf
  exact hret _ _ _ _ dX3_hashIn_6 hP hD hS

def tt_keyIn  (τ : Tb) (a0 : Int32) : Option Int32 :=
  gd a0 256 <|
  some (tb_ks τ a0.toNatClampNeg)
set_option maxHeartbeats 4000000 in
set_option maxRecDepth 100000 in
theorem tX3_keyIn (l : Launch) (D : va_G) (ca : Nat → ClassId) (h : Nat) (ar : Nat → Nat) (sz : Nat)  (τ : Tb) (a0 : Int32) (r : Int32) (hf : tt_keyIn τ a0 = some r) : Ci l D ca yX3_keyIn wsX3_keyIn { frames := 0, cells := 0, slots := 0, locals := 0 } [.ref h, .int a0] (wTab ca h ar τ) sz r (wTab ca h ar τ) := by
  refine body_of (cc := cX3_keyIn) (maxL := 2) (ret := (some .int)) (fun A => Qi D ca r (wTab ca h ar τ) A) (by decide) rfl (Nat.le_of_ble_eq_true rfl) ?_
  intro p e s m below meth c A ls hx hb hr hml hts hown hlocks hA hK hP hD hS hl hN
  have hl : lv_has ls 2 [(0, .ref h), (1, .int a0)] := hl
  have hret : ∀ (pc : Nat) (ls : Array Slot) (H : Heap) (locs : List Loc), decode cX3_keyIn pc = .ok (.ireturn, 1) → va_P D vwCl (wTab ca h ar τ) H → va_D A (wTab ca h ar τ) → va_S A s.heap H locs → W p l e { frames := 0, cells := 0, slots := 0, locals := 0 } s m ([.ref h, .int a0] : List Value).toArray below meth c H locs 0 0 (MQ below (Qi D ca r (wTab ca h ar τ) A) ([.ref h, .int a0] : List Value).toArray s 0 0 A) (F0 m pc ls [.int r]) := fun pc ls H locs hd hP hD hS => ret_i hx hb hr hlocks hK hP hD hS hd
  generalize MQ below (Qi D ca r (wTab ca h ar τ) A) ([.ref h, .int a0] : List Value).toArray s 0 0 A = Q at hret ⊢
  generalize ([.ref h, .int a0] : List Value).toArray = args at hts hret ⊢
  have f19 := hts (.fieldLink RX3 19 "RobinRow$Table" "keys" "[I") (by decide +kernel)
  have in3 : ∀ w ∈ u_ws RX3 TX3 6, w ∈ wsX3_keyIn := by decide +kernel
  unfold tt_keyIn at hf
  refine lv_aload_n hx hb dX3_keyIn_0 rfl (lv_at hl 0 rfl) ?_
  refine va_get (D := D) (ci := 3) (v := .ref (ar 2)) (C := RX3) (T := TX3) (N := 6) hx hb hts in3 hown hK hP 0 rfl rfl 2 (by decide) f19 (fun _ h9 => h9) rfl dX3_keyIn_1 ?_
  refine lv_iload_n hx hb dX3_keyIn_4 rfl (lv_at hl 1 rfl) ?_
  obtain ⟨g1, hf⟩ := gd_ob hf
  refine va_iald hx hb hK hP 3 0 rfl rfl g1 dX3_keyIn_5 ?_
  obtain rfl := so1 hf
  exact hret _ _ _ _ dX3_keyIn_6 hP hD hS

def tt_valueIn  (τ : Tb) (a0 : Int32) : Option Int32 :=
  gd a0 256 <|
  some (tb_vs τ a0.toNatClampNeg)
set_option maxHeartbeats 4000000 in
set_option maxRecDepth 100000 in
theorem tX3_valueIn (l : Launch) (D : va_G) (ca : Nat → ClassId) (h : Nat) (ar : Nat → Nat) (sz : Nat)  (τ : Tb) (a0 : Int32) (r : Int32) (hf : tt_valueIn τ a0 = some r) : Ci l D ca yX3_valueIn wsX3_valueIn { frames := 0, cells := 0, slots := 0, locals := 0 } [.ref h, .int a0] (wTab ca h ar τ) sz r (wTab ca h ar τ) := by
  refine body_of (cc := cX3_valueIn) (maxL := 2) (ret := (some .int)) (fun A => Qi D ca r (wTab ca h ar τ) A) (by decide) rfl (Nat.le_of_ble_eq_true rfl) ?_
  intro p e s m below meth c A ls hx hb hr hml hts hown hlocks hA hK hP hD hS hl hN
  have hl : lv_has ls 2 [(0, .ref h), (1, .int a0)] := hl
  have hret : ∀ (pc : Nat) (ls : Array Slot) (H : Heap) (locs : List Loc), decode cX3_valueIn pc = .ok (.ireturn, 1) → va_P D vwCl (wTab ca h ar τ) H → va_D A (wTab ca h ar τ) → va_S A s.heap H locs → W p l e { frames := 0, cells := 0, slots := 0, locals := 0 } s m ([.ref h, .int a0] : List Value).toArray below meth c H locs 0 0 (MQ below (Qi D ca r (wTab ca h ar τ) A) ([.ref h, .int a0] : List Value).toArray s 0 0 A) (F0 m pc ls [.int r]) := fun pc ls H locs hd hP hD hS => ret_i hx hb hr hlocks hK hP hD hS hd
  generalize MQ below (Qi D ca r (wTab ca h ar τ) A) ([.ref h, .int a0] : List Value).toArray s 0 0 A = Q at hret ⊢
  generalize ([.ref h, .int a0] : List Value).toArray = args at hts hret ⊢
  have f22 := hts (.fieldLink RX3 22 "RobinRow$Table" "values" "[I") (by decide +kernel)
  have in3 : ∀ w ∈ u_ws RX3 TX3 6, w ∈ wsX3_valueIn := by decide +kernel
  unfold tt_valueIn at hf
  refine lv_aload_n hx hb dX3_valueIn_0 rfl (lv_at hl 0 rfl) ?_
  refine va_get (D := D) (ci := 3) (v := .ref (ar 3)) (C := RX3) (T := TX3) (N := 6) hx hb hts in3 hown hK hP 0 rfl rfl 3 (by decide) f22 (fun _ h9 => h9) rfl dX3_valueIn_1 ?_
  refine lv_iload_n hx hb dX3_valueIn_4 rfl (lv_at hl 1 rfl) ?_
  obtain ⟨g1, hf⟩ := gd_ob hf
  refine va_iald hx hb hK hP 4 0 rfl rfl g1 dX3_valueIn_5 ?_
  obtain rfl := so1 hf
  exact hret _ _ _ _ dX3_valueIn_6 hP hD hS

def tt_distanceIn  (τ : Tb) (a0 : Int32) : Option Int32 :=
  bd (tt_isEmptyIn τ a0) fun v1 =>
  if v1 = 0 then
    gd a0 256 <|
    bd (tt_around τ (a0 - (tb_hs τ a0.toNatClampNeg))) fun v4 =>
    some v4
  else
    some (-1)
set_option maxHeartbeats 4000000 in
set_option maxRecDepth 100000 in
theorem tX3_distanceIn (l : Launch) (D : va_G) (ca : Nat → ClassId) (h : Nat) (ar : Nat → Nat) (sz : Nat)  (τ : Tb) (a0 : Int32) (r : Int32) (hf : tt_distanceIn τ a0 = some r) : Ci l D ca yX3_distanceIn wsX3_distanceIn { frames := 1, cells := 0, slots := 0, locals := 21 } [.ref h, .int a0] (wTab ca h ar τ) sz r (wTab ca h ar τ) := by
  refine body_of (cc := cX3_distanceIn) (maxL := 2) (ret := (some .int)) (fun A => Qi D ca r (wTab ca h ar τ) A) (by decide) rfl (Nat.le_of_ble_eq_true rfl) ?_
  intro p e s m below meth c A ls hx hb hr hml hts hown hlocks hA hK hP hD hS hl hN
  have hl : lv_has ls 2 [(0, .ref h), (1, .int a0)] := hl
  have hret : ∀ (pc : Nat) (ls : Array Slot) (H : Heap) (locs : List Loc), decode cX3_distanceIn pc = .ok (.ireturn, 1) → va_P D vwCl (wTab ca h ar τ) H → va_D A (wTab ca h ar τ) → va_S A s.heap H locs → W p l e { frames := 1, cells := 0, slots := 0, locals := 21 } s m ([.ref h, .int a0] : List Value).toArray below meth c H locs 0 0 (MQ below (Qi D ca r (wTab ca h ar τ) A) ([.ref h, .int a0] : List Value).toArray s 0 0 A) (F0 m pc ls [.int r]) := fun pc ls H locs hd hP hD hS => ret_i hx hb hr hlocks hK hP hD hS hd
  generalize MQ below (Qi D ca r (wTab ca h ar τ) A) ([.ref h, .int a0] : List Value).toArray s 0 0 A = Q at hret ⊢
  generalize ([.ref h, .int a0] : List Value).toArray = args at hts hret ⊢
  have f15 := hts (.fieldLink RX3 15 "RobinRow$Table" "hashes" "[I") (by decide +kernel)
  have in3 : ∀ w ∈ u_ws RX3 TX3 6, w ∈ wsX3_distanceIn := by decide +kernel
  unfold tt_distanceIn at hf
  refine lv_aload_n hx hb dX3_distanceIn_0 rfl (lv_at hl 0 rfl) ?_
  refine lv_iload_n hx hb dX3_distanceIn_1 rfl (lv_at hl 1 rfl) ?_
  obtain ⟨v1, ev1, hf⟩ := bd_ob hf
  refine call_i (As := [.int a0]) (rest := []) ⟨hx, hb, hml, hown, hts⟩ (tX3_isEmptyIn l D ca h ar _ τ a0 v1 ev1) (cwV 1 hts gX3_distanceIn_X3_isEmptyIn rfl rfl rfl (by decide +kernel) ⟨Nat.le_of_ble_eq_true rfl, Nat.le_of_ble_eq_true rfl⟩) hN hK hP hD hA hS (fr_id _ _) rfl rfl rfl hl.1 rfl (lv_room (Nat.le_of_ble_eq_true rfl)) dX3_distanceIn_2 ⟨Nat.le_refl _, Nat.le_refl _⟩ (fun H locs hP hD hS => ?_)
  refine lv_if_eq (tgt := 12) hx hb dX3_distanceIn_5 (by decide) (fun c2 => ?_) (fun c2 => ?_)
  · replace hf := it_p c2 hf
    refine lv_aload_n hx hb dX3_distanceIn_12 rfl (lv_at hl 0 rfl) ?_
    refine lv_iload_n hx hb dX3_distanceIn_13 rfl (lv_at hl 1 rfl) ?_
    refine lv_aload_n hx hb dX3_distanceIn_14 rfl (lv_at hl 0 rfl) ?_
    refine va_get (D := D) (ci := 3) (v := .ref (ar 1)) (C := RX3) (T := TX3) (N := 6) hx hb hts in3 hown hK hP 0 rfl rfl 1 (by decide) f15 (fun _ h9 => h9) rfl dX3_distanceIn_15 ?_
    refine lv_iload_n hx hb dX3_distanceIn_18 rfl (lv_at hl 1 rfl) ?_
    obtain ⟨g3, hf⟩ := gd_ob hf
    refine va_iald hx hb hK hP 2 0 rfl rfl g3 dX3_distanceIn_19 ?_
    refine lv_isub hx hb dX3_distanceIn_20 ?_
    obtain ⟨v4, ev4, hf⟩ := bd_ob hf
    refine call_i (As := [.int (a0 - (tb_hs τ a0.toNatClampNeg))]) (rest := []) ⟨hx, hb, hml, hown, hts⟩ (tX3_around l D ca h ar _ τ (a0 - (tb_hs τ a0.toNatClampNeg)) v4 ev4) (cwV 1 hts gX3_distanceIn_X3_around rfl rfl rfl (by decide +kernel) ⟨Nat.le_of_ble_eq_true rfl, Nat.le_of_ble_eq_true rfl⟩) hN hK hP hD hA hS (fr_id _ _) rfl rfl rfl hl.1 rfl (lv_room (Nat.le_of_ble_eq_true rfl)) dX3_distanceIn_21 ⟨Nat.le_refl _, Nat.le_refl _⟩ (fun H locs hP hD hS => ?_)
    obtain rfl := so1 hf
    exact hret _ _ _ _ dX3_distanceIn_24 hP hD hS
  · replace hf := it_n c2 hf
    refine lv_iconst (v := (-1)) hx hb dX3_distanceIn_8 (by decide) ?_
    refine lv_goto (tgt := 24) hx hb dX3_distanceIn_9 (by decide) ?_
    obtain rfl := so1 hf
    exact hret _ _ _ _ dX3_distanceIn_24 hP hD hS

def tt_exchangeValue  (τ : Tb) (a0 : Int32) (a1 : Int32) : Option (Int32 × Tb) :=
  gd a0 256 <|
  nm (tb_vs τ a0.toNatClampNeg) fun v2 =>
  gd a0 256 <|
  nm (tb_vs' τ (upd (tb_vs τ) a0.toNatClampNeg a1)) fun s4 =>
  some (v2, s4)
set_option maxHeartbeats 4000000 in
set_option maxRecDepth 100000 in
theorem tX3_exchangeValue (l : Launch) (D : va_G) (ca : Nat → ClassId) (h : Nat) (ar : Nat → Nat) (sz : Nat)  (τ : Tb) (a0 : Int32) (a1 : Int32) (r : Int32) (τ9 : Tb) (hf : tt_exchangeValue τ a0 a1 = some (r, τ9)) : Ci l D ca yX3_exchangeValue wsX3_exchangeValue { frames := 0, cells := 0, slots := 0, locals := 0 } [.ref h, .int a0, .int a1] (wTab ca h ar τ) sz r (wTab ca h ar τ9) := by
  refine body_of (cc := cX3_exchangeValue) (maxL := 4) (ret := (some .int)) (fun A => Qi D ca r (wTab ca h ar τ9) A) (by decide) rfl (Nat.le_of_ble_eq_true rfl) ?_
  intro p e s m below meth c A ls hx hb hr hml hts hown hlocks hA hK hP hD hS hl hN
  have hl : lv_has ls 4 [(0, .ref h), (1, .int a0), (2, .int a1)] := hl
  have hret : ∀ (pc : Nat) (ls : Array Slot) (H : Heap) (locs : List Loc), decode cX3_exchangeValue pc = .ok (.ireturn, 1) → va_P D vwCl (wTab ca h ar τ9) H → va_D A (wTab ca h ar τ9) → va_S A s.heap H locs → W p l e { frames := 0, cells := 0, slots := 0, locals := 0 } s m ([.ref h, .int a0, .int a1] : List Value).toArray below meth c H locs 0 0 (MQ below (Qi D ca r (wTab ca h ar τ9) A) ([.ref h, .int a0, .int a1] : List Value).toArray s 0 0 A) (F0 m pc ls [.int r]) := fun pc ls H locs hd hP hD hS => ret_i hx hb hr hlocks hK hP hD hS hd
  generalize MQ below (Qi D ca r (wTab ca h ar τ9) A) ([.ref h, .int a0, .int a1] : List Value).toArray s 0 0 A = Q at hret ⊢
  generalize ([.ref h, .int a0, .int a1] : List Value).toArray = args at hts hret ⊢
  have f22 := hts (.fieldLink RX3 22 "RobinRow$Table" "values" "[I") (by decide +kernel)
  have in3 : ∀ w ∈ u_ws RX3 TX3 6, w ∈ wsX3_exchangeValue := by decide +kernel
  unfold tt_exchangeValue at hf
  refine lv_aload_n hx hb dX3_exchangeValue_0 rfl (lv_at hl 0 rfl) ?_
  refine va_get (D := D) (ci := 3) (v := .ref (ar 3)) (C := RX3) (T := TX3) (N := 6) hx hb hts in3 hown hK hP 0 rfl rfl 3 (by decide) f22 (fun _ h9 => h9) rfl dX3_exchangeValue_1 ?_
  refine lv_iload_n hx hb dX3_exchangeValue_4 rfl (lv_at hl 1 rfl) ?_
  obtain ⟨g1, hf⟩ := gd_ob hf
  refine va_iald hx hb hK hP 4 0 rfl rfl g1 dX3_exchangeValue_5 ?_
  obtain ⟨v2, ev2, hf⟩ := nm_ob hf
  refine tp_i ev2 ?_
  refine lv_istore_n (lv' := [(3, .int v2), (0, .ref h), (1, .int a0), (2, .int a1)]) hx hb dX3_exchangeValue_6 rfl hl (by decide) rfl (fun ls hl => ?_)
  refine lv_aload_n hx hb dX3_exchangeValue_7 rfl (lv_at hl 1 rfl) ?_
  refine va_get (D := D) (ci := 3) (v := .ref (ar 3)) (C := RX3) (T := TX3) (N := 6) hx hb hts in3 hown hK hP 0 rfl rfl 3 (by decide) f22 (fun _ h9 => h9) rfl dX3_exchangeValue_8 ?_
  refine lv_iload_n hx hb dX3_exchangeValue_11 rfl (lv_at hl 2 rfl) ?_
  refine lv_iload_n hx hb dX3_exchangeValue_12 rfl (lv_at hl 3 rfl) ?_
  obtain ⟨g3, hf⟩ := gd_ob hf
  obtain ⟨s4, es4, hf⟩ := nm_ob hf
  refine va_iast hx hb hK hP hD hS 4 0 rfl rfl g3 dX3_exchangeValue_13 (fun H locs hP hD hS => ?_)
  have hP : va_P D vwCl (wTab ca h ar s4) H := by rw [← es4]; exact hP
  have hD : va_D A (wTab ca h ar s4) := by rw [← es4]; exact hD
  refine lv_iload_n hx hb dX3_exchangeValue_14 rfl (lv_at hl 0 rfl) ?_
  obtain ⟨rfl, rfl⟩ := so2 hf
  exact hret _ _ _ _ dX3_exchangeValue_15 hP hD hS

def tt_lowestSlotWithKey_2  (τ : Tb) (k2 : Int32 → Option Int32)  (l1 : Int32) : Option Int32 :=
  if (tb_sl τ) ≤ l1 then
    some 0
  else
    bd (tt_isEmptyIn τ l1) fun v2 =>
    if v2 = 0 then
      some l1
    else
      nm (l1 + 1) fun v4 =>
      k2 v4
def tt_lowestSlotWithKey_lp2  (τ : Tb)  : Nat → Int32 → Option Int32 := itF (fun _ => none) (fun k => tt_lowestSlotWithKey_2 τ  k)
def tt_lowestSlotWithKey  (τ : Tb)  : Option Int32 :=
  tt_lowestSlotWithKey_lp2 τ FU 0
set_option maxHeartbeats 4000000 in
set_option maxRecDepth 100000 in
theorem tX3_lowestSlotWithKey (l : Launch) (D : va_G) (ca : Nat → ClassId) (h : Nat) (ar : Nat → Nat) (sz : Nat)  (τ : Tb)  (r : Int32) (hf : tt_lowestSlotWithKey τ = some r) : Ci l D ca yX3_lowestSlotWithKey wsX3_lowestSlotWithKey { frames := 1, cells := 0, slots := 0, locals := 21 } [.ref h] (wTab ca h ar τ) sz r (wTab ca h ar τ) := by
  refine body_of (cc := cX3_lowestSlotWithKey) (maxL := 2) (ret := (some .int)) (fun A => Qi D ca r (wTab ca h ar τ) A) (by decide) rfl (Nat.le_of_ble_eq_true rfl) ?_
  intro p e s m below meth c A ls hx hb hr hml hts hown hlocks hA hK hP hD hS hl hN
  have hl : lv_has ls 2 [(0, .ref h)] := hl
  have hret : ∀ (pc : Nat) (ls : Array Slot) (H : Heap) (locs : List Loc), decode cX3_lowestSlotWithKey pc = .ok (.ireturn, 1) → va_P D vwCl (wTab ca h ar τ) H → va_D A (wTab ca h ar τ) → va_S A s.heap H locs → W p l e { frames := 1, cells := 0, slots := 0, locals := 21 } s m ([.ref h] : List Value).toArray below meth c H locs 0 0 (MQ below (Qi D ca r (wTab ca h ar τ) A) ([.ref h] : List Value).toArray s 0 0 A) (F0 m pc ls [.int r]) := fun pc ls H locs hd hP hD hS => ret_i hx hb hr hlocks hK hP hD hS hd
  generalize MQ below (Qi D ca r (wTab ca h ar τ) A) ([.ref h] : List Value).toArray s 0 0 A = Q at hret ⊢
  generalize ([.ref h] : List Value).toArray = args at hts hret ⊢
  have f35 := hts (.fieldLink RX3 35 "RobinRow$Table" "slots" "I") (by decide +kernel)
  have in3 : ∀ w ∈ u_ws RX3 TX3 6, w ∈ wsX3_lowestSlotWithKey := by decide +kernel
  have J2 : ∀ (n2 : Nat) (H : Heap) (locs : List Loc) (ls : Array Slot)  (l1 : Int32), tt_lowestSlotWithKey_lp2 τ  n2 l1 = some r → va_P D vwCl (wTab ca h ar τ) H → va_D A (wTab ca h ar τ) → va_S A s.heap H locs → lv_has ls 2 [(0, .ref h), (1, .int l1)] → W p l e { frames := 1, cells := 0, slots := 0, locals := 21 } s m args below meth c H locs 0 0 Q (F0 m 2 ls []) := by
    intro n2
    induction n2 with
    | zero =>
      intro H locs ls l1 hf hP hD hS hl
      exact absurd hf (fun h => by cases h)
    | succ n2 ih2 =>
      intro H locs ls l1 hf hP hD hS hl
      replace hf : tt_lowestSlotWithKey_2 τ  (tt_lowestSlotWithKey_lp2 τ  n2) l1 = some r := hf
      unfold tt_lowestSlotWithKey_2 at hf
      refine lv_iload_n hx hb dX3_lowestSlotWithKey_2 rfl (lv_at hl 1 rfl) ?_
      refine lv_aload_n hx hb dX3_lowestSlotWithKey_3 rfl (lv_at hl 0 rfl) ?_
      refine va_get (D := D) (ci := 3) (v := .int (tb_sl τ)) (C := RX3) (T := TX3) (N := 6) hx hb hts in3 hown hK hP 0 rfl rfl 4 (by decide) f35 (fun _ h9 => h9) rfl dX3_lowestSlotWithKey_4 ?_
      refine lv_icmp_ge (tgt := 26) hx hb dX3_lowestSlotWithKey_7 (by decide) (fun c1 => ?_) (fun c1 => ?_)
      · replace hf := it_p c1 hf
        refine lv_iconst (v := 0) hx hb dX3_lowestSlotWithKey_26 (by decide) ?_
        obtain rfl := so1 hf
        exact hret _ _ _ _ dX3_lowestSlotWithKey_27 hP hD hS
      · replace hf := it_n c1 hf
        refine lv_aload_n hx hb dX3_lowestSlotWithKey_10 rfl (lv_at hl 0 rfl) ?_
        refine lv_iload_n hx hb dX3_lowestSlotWithKey_11 rfl (lv_at hl 1 rfl) ?_
        obtain ⟨v2, ev2, hf⟩ := bd_ob hf
        refine call_i (As := [.int l1]) (rest := []) ⟨hx, hb, hml, hown, hts⟩ (tX3_isEmptyIn l D ca h ar _ τ l1 v2 ev2) (cwV 1 hts gX3_lowestSlotWithKey_X3_isEmptyIn rfl rfl rfl (by decide +kernel) ⟨Nat.le_of_ble_eq_true rfl, Nat.le_of_ble_eq_true rfl⟩) hN hK hP hD hA hS (fr_id _ _) rfl rfl rfl hl.1 rfl (lv_room (Nat.le_of_ble_eq_true rfl)) dX3_lowestSlotWithKey_12 ⟨Nat.le_refl _, Nat.le_refl _⟩ (fun H locs hP hD hS => ?_)
        refine lv_if_ne (tgt := 20) hx hb dX3_lowestSlotWithKey_15 (by decide) (fun c3 => ?_) (fun c3 => ?_)
        · replace hf := it_n c3 hf
          obtain ⟨v4, ev4, hf⟩ := nm_ob hf
          refine lv_iinc (v := v4) (lv' := [(1, .int v4), (0, .ref h)]) hx hb dX3_lowestSlotWithKey_20 hl (k := 1) rfl (by rw [← ev4]; rfl) (by decide) rfl (fun ls hl => ?_)
          refine lv_goto (tgt := 2) hx hb dX3_lowestSlotWithKey_23 (by decide) ?_
          exact ih2 _ _ _ _ hf hP hD hS (lv_sub hl [1, 0] rfl)
        · replace hf := it_p c3 hf
          refine lv_iload_n hx hb dX3_lowestSlotWithKey_18 rfl (lv_at hl 1 rfl) ?_
          obtain rfl := so1 hf
          exact hret _ _ _ _ dX3_lowestSlotWithKey_19 hP hD hS
  unfold tt_lowestSlotWithKey at hf
  refine lv_iconst (v := 0) hx hb dX3_lowestSlotWithKey_0 (by decide) ?_
  refine lv_istore_n (lv' := [(1, .int 0), (0, .ref h)]) hx hb dX3_lowestSlotWithKey_1 rfl hl (by decide) rfl (fun ls hl => ?_)
  exact J2 FU _ _ _ _ hf hP hD hS (lv_sub hl [1, 0] rfl)

def tt_emptyWith_18  (k18 : Tb → Int32 → Option Tb) (τ : Tb) (l2 : Int32) : Option Tb :=
  if (tb_sl τ) ≤ l2 then
    some τ
  else
    gd l2 256 <|
    nm (tb_ctl' τ (upd (tb_ctl τ) l2.toNatClampNeg (-128))) fun s5 =>
    nm (l2 + 1) fun v6 =>
    k18 s5 v6
def tt_emptyWith_lp18   : Nat → Tb → Int32 → Option Tb := itF (fun _ _ => none) (fun k => tt_emptyWith_18   k)
def tt_emptyWith  (τ : Tb) (a0 : Int32) : Option Tb :=
  nm (tb_sl' τ (if 256 < a0 then 256 else a0)) fun s1 =>
  nm (tb_ct' s1 0) fun s2 =>
  tt_emptyWith_lp18 FU s2 0
set_option maxHeartbeats 4000000 in
set_option maxRecDepth 100000 in
theorem tX3_emptyWith (l : Launch) (D : va_G) (ca : Nat → ClassId) (h : Nat) (ar : Nat → Nat) (sz : Nat)  (τ : Tb) (a0 : Int32) (τ9 : Tb) (hf : tt_emptyWith τ a0 = some τ9) : Cv l D ca yX3_emptyWith wsX3_emptyWith { frames := 1, cells := 0, slots := 0, locals := 21 } [.ref h, .int a0] (wTab ca h ar τ) sz (wTab ca h ar τ9) := by
  refine body_of (cc := cX3_emptyWith) (maxL := 3) (ret := none) (fun A => Qv D ca (wTab ca h ar τ9) A) (by decide) rfl (Nat.le_of_ble_eq_true rfl) ?_
  intro p e s m below meth c A ls hx hb hr hml hts hown hlocks hA hK hP hD hS hl hN
  have hl : lv_has ls 3 [(0, .ref h), (1, .int a0)] := hl
  have hret : ∀ (pc : Nat) (ls : Array Slot) (H : Heap) (locs : List Loc), decode cX3_emptyWith pc = .ok (.return_, 1) → va_P D vwCl (wTab ca h ar τ9) H → va_D A (wTab ca h ar τ9) → va_S A s.heap H locs → W p l e { frames := 1, cells := 0, slots := 0, locals := 21 } s m ([.ref h, .int a0] : List Value).toArray below meth c H locs 0 0 (MQ below (Qv D ca (wTab ca h ar τ9) A) ([.ref h, .int a0] : List Value).toArray s 0 0 A) (F0 m pc ls []) := fun pc ls H locs hd hP hD hS => ret_v hx hb hr hlocks hK hP hD hS hd
  generalize MQ below (Qv D ca (wTab ca h ar τ9) A) ([.ref h, .int a0] : List Value).toArray s 0 0 A = Q at hret ⊢
  generalize ([.ref h, .int a0] : List Value).toArray = args at hts hret ⊢
  have f35 := hts (.fieldLink RX3 35 "RobinRow$Table" "slots" "I") (by decide +kernel)
  have f39 := hts (.fieldLink RX3 39 "RobinRow$Table" "count" "I") (by decide +kernel)
  have f9 := hts (.fieldLink RX3 9 "RobinRow$Table" "controls" "[B") (by decide +kernel)
  have in3 : ∀ w ∈ u_ws RX3 TX3 6, w ∈ wsX3_emptyWith := by decide +kernel
  have J18 : ∀ (n18 : Nat) (H : Heap) (locs : List Loc) (ls : Array Slot) (τ : Tb) (l2 : Int32), tt_emptyWith_lp18  n18 τ l2 = some τ9 → va_P D vwCl (wTab ca h ar τ) H → va_D A (wTab ca h ar τ) → va_S A s.heap H locs → lv_has ls 3 [(0, .ref h), (2, .int l2)] → W p l e { frames := 1, cells := 0, slots := 0, locals := 21 } s m args below meth c H locs 0 0 Q (F0 m 18 ls []) := by
    intro n18
    induction n18 with
    | zero =>
      intro H locs ls τ l2 hf hP hD hS hl
      exact absurd hf (fun h => by cases h)
    | succ n18 ih18 =>
      intro H locs ls τ l2 hf hP hD hS hl
      replace hf : tt_emptyWith_18  (tt_emptyWith_lp18  n18) τ l2 = some τ9 := hf
      unfold tt_emptyWith_18 at hf
      refine lv_iload_n hx hb dX3_emptyWith_18 rfl (lv_at hl 1 rfl) ?_
      refine lv_aload_n hx hb dX3_emptyWith_19 rfl (lv_at hl 0 rfl) ?_
      refine va_get (D := D) (ci := 3) (v := .int (tb_sl τ)) (C := RX3) (T := TX3) (N := 6) hx hb hts in3 hown hK hP 0 rfl rfl 4 (by decide) f35 (fun _ h9 => h9) rfl dX3_emptyWith_20 ?_
      refine lv_icmp_ge (tgt := 40) hx hb dX3_emptyWith_23 (by decide) (fun c3 => ?_) (fun c3 => ?_)
      · replace hf := it_p c3 hf
        obtain rfl := so1 hf
        exact hret _ _ _ _ dX3_emptyWith_40 hP hD hS
      · replace hf := it_n c3 hf
        refine lv_aload_n hx hb dX3_emptyWith_26 rfl (lv_at hl 0 rfl) ?_
        refine va_get (D := D) (ci := 3) (v := .ref (ar 0)) (C := RX3) (T := TX3) (N := 6) hx hb hts in3 hown hK hP 0 rfl rfl 0 (by decide) f9 (fun _ h9 => h9) rfl dX3_emptyWith_27 ?_
        refine lv_iload_n hx hb dX3_emptyWith_30 rfl (lv_at hl 1 rfl) ?_
        refine lv_bipush (v := (-128)) hx hb dX3_emptyWith_31 (by decide) ?_
        obtain ⟨g4, hf⟩ := gd_ob hf
        obtain ⟨s5, es5, hf⟩ := nm_ob hf
        refine va_bast hx hb hK hP hD hS 1 1 rfl rfl g4 dX3_emptyWith_33 (fun H locs hP hD hS => ?_)
        have hP : va_P D vwCl (wTab ca h ar s5) H := by rw [← es5]; exact hP
        have hD : va_D A (wTab ca h ar s5) := by rw [← es5]; exact hD
        obtain ⟨v6, ev6, hf⟩ := nm_ob hf
        refine lv_iinc (v := v6) (lv' := [(2, .int v6), (0, .ref h)]) hx hb dX3_emptyWith_34 hl (k := 1) rfl (by rw [← ev6]; rfl) (by decide) rfl (fun ls hl => ?_)
        refine lv_goto (tgt := 18) hx hb dX3_emptyWith_37 (by decide) ?_
        exact ih18 _ _ _ _ _ hf hP hD hS (lv_sub hl [1, 0] rfl)
  unfold tt_emptyWith at hf
  refine lv_aload_n hx hb dX3_emptyWith_0 rfl (lv_at hl 0 rfl) ?_
  refine lv_iload_n hx hb dX3_emptyWith_1 rfl (lv_at hl 1 rfl) ?_
  refine lv_sipush (v := 256) hx hb dX3_emptyWith_2 (by decide) ?_
  refine va_mmin hx hb (hml.trans hl.1.symm) hown (hts (.methodLink RX3 29 Lib.Math.min.name) (by decide +kernel)) (hts (.static Lib.Math.min.name) (by decide +kernel)) (hts (.initialized "java/lang/Math") (by decide +kernel)) (hts (.code Lib.Math.min.name Lib.Math.min.code 2 (some .int)) (by decide +kernel)) (Nat.le_of_ble_eq_true rfl) (Nat.le_of_ble_eq_true rfl) (Nat.zero_le _) (Nat.zero_le _) dX3_emptyWith_5 ?_
  obtain ⟨s1, es1, hf⟩ := nm_ob hf
  refine va_put (D := D) (ci := 3) (v := .int (if 256 < a0 then 256 else a0)) (ty := .int) (C := RX3) (T := TX3) (N := 6) hx hb hts in3 tyX3 tyX3_ok nmX3 hown hK hP hD hS 0 rfl rfl 4 (by decide) f35 (fun _ h9 => h9) rfl (by decide +kernel) rfl rfl (Nat.le_of_ble_eq_true rfl) dX3_emptyWith_8 (fun H locs hP hD hS => ?_)
  have hP : va_P D vwCl (wTab ca h ar s1) H := by rw [← es1]; exact hP
  have hD : va_D A (wTab ca h ar s1) := by rw [← es1]; exact hD
  refine lv_aload_n hx hb dX3_emptyWith_11 rfl (lv_at hl 0 rfl) ?_
  refine lv_iconst (v := 0) hx hb dX3_emptyWith_12 (by decide) ?_
  obtain ⟨s2, es2, hf⟩ := nm_ob hf
  refine va_put (D := D) (ci := 3) (v := .int 0) (ty := .int) (C := RX3) (T := TX3) (N := 6) hx hb hts in3 tyX3 tyX3_ok nmX3 hown hK hP hD hS 0 rfl rfl 5 (by decide) f39 (fun _ h9 => h9) rfl (by decide +kernel) rfl rfl (Nat.le_of_ble_eq_true rfl) dX3_emptyWith_13 (fun H locs hP hD hS => ?_)
  have hP : va_P D vwCl (wTab ca h ar s2) H := by rw [← es2]; exact hP
  have hD : va_D A (wTab ca h ar s2) := by rw [← es2]; exact hD
  refine lv_iconst (v := 0) hx hb dX3_emptyWith_16 (by decide) ?_
  refine lv_istore_n (lv' := [(2, .int 0), (0, .ref h), (1, .int a0)]) hx hb dX3_emptyWith_17 rfl hl (by decide) rfl (fun ls hl => ?_)
  exact J18 FU _ _ _ _ _ hf hP hD hS (lv_sub hl [1, 0] rfl)

def tt_fill  (τ : Tb) (a0 : Int32) (a1 : Int32) (a2 : Int32) (a3 : Int32) : Option Tb :=
  gd a0 256 <|
  nm (tb_ctl' τ (upd (tb_ctl τ) a0.toNatClampNeg (vp_nar .byte (i2b (ushr a3 25))))) fun s2 =>
  gd a0 256 <|
  nm (tb_hs' s2 (upd (tb_hs s2) a0.toNatClampNeg a3)) fun s4 =>
  gd a0 256 <|
  nm (tb_ks' s4 (upd (tb_ks s4) a0.toNatClampNeg a1)) fun s6 =>
  gd a0 256 <|
  nm (tb_vs' s6 (upd (tb_vs s6) a0.toNatClampNeg a2)) fun s8 =>
  some s8
set_option maxHeartbeats 4000000 in
set_option maxRecDepth 100000 in
theorem tX3_fill (l : Launch) (D : va_G) (ca : Nat → ClassId) (h : Nat) (ar : Nat → Nat) (sz : Nat)  (τ : Tb) (a0 : Int32) (a1 : Int32) (a2 : Int32) (a3 : Int32) (τ9 : Tb) (hf : tt_fill τ a0 a1 a2 a3 = some τ9) : Cv l D ca yX3_fill wsX3_fill { frames := 0, cells := 0, slots := 0, locals := 0 } [.ref h, .int a0, .int a1, .int a2, .int a3] (wTab ca h ar τ) sz (wTab ca h ar τ9) := by
  refine body_of (cc := cX3_fill) (maxL := 5) (ret := none) (fun A => Qv D ca (wTab ca h ar τ9) A) (by decide) rfl (Nat.le_of_ble_eq_true rfl) ?_
  intro p e s m below meth c A ls hx hb hr hml hts hown hlocks hA hK hP hD hS hl hN
  have hl : lv_has ls 5 [(0, .ref h), (1, .int a0), (2, .int a1), (3, .int a2), (4, .int a3)] := hl
  have hret : ∀ (pc : Nat) (ls : Array Slot) (H : Heap) (locs : List Loc), decode cX3_fill pc = .ok (.return_, 1) → va_P D vwCl (wTab ca h ar τ9) H → va_D A (wTab ca h ar τ9) → va_S A s.heap H locs → W p l e { frames := 0, cells := 0, slots := 0, locals := 0 } s m ([.ref h, .int a0, .int a1, .int a2, .int a3] : List Value).toArray below meth c H locs 0 0 (MQ below (Qv D ca (wTab ca h ar τ9) A) ([.ref h, .int a0, .int a1, .int a2, .int a3] : List Value).toArray s 0 0 A) (F0 m pc ls []) := fun pc ls H locs hd hP hD hS => ret_v hx hb hr hlocks hK hP hD hS hd
  generalize MQ below (Qv D ca (wTab ca h ar τ9) A) ([.ref h, .int a0, .int a1, .int a2, .int a3] : List Value).toArray s 0 0 A = Q at hret ⊢
  generalize ([.ref h, .int a0, .int a1, .int a2, .int a3] : List Value).toArray = args at hts hret ⊢
  have f15 := hts (.fieldLink RX3 15 "RobinRow$Table" "hashes" "[I") (by decide +kernel)
  have f19 := hts (.fieldLink RX3 19 "RobinRow$Table" "keys" "[I") (by decide +kernel)
  have f22 := hts (.fieldLink RX3 22 "RobinRow$Table" "values" "[I") (by decide +kernel)
  have f9 := hts (.fieldLink RX3 9 "RobinRow$Table" "controls" "[B") (by decide +kernel)
  have in3 : ∀ w ∈ u_ws RX3 TX3 6, w ∈ wsX3_fill := by decide +kernel
  unfold tt_fill at hf
  refine lv_aload_n hx hb dX3_fill_0 rfl (lv_at hl 0 rfl) ?_
  refine va_get (D := D) (ci := 3) (v := .ref (ar 0)) (C := RX3) (T := TX3) (N := 6) hx hb hts in3 hown hK hP 0 rfl rfl 0 (by decide) f9 (fun _ h9 => h9) rfl dX3_fill_1 ?_
  refine lv_iload_n hx hb dX3_fill_4 rfl (lv_at hl 1 rfl) ?_
  refine lv_iload hx hb dX3_fill_5 (lv_at hl 4 rfl) ?_
  refine lv_bipush (v := 25) hx hb dX3_fill_7 (by decide) ?_
  refine lv_iushr (v := (ushr a3 25)) hx hb dX3_fill_9 rfl ?_
  refine lv_i2b (v := (i2b (ushr a3 25))) hx hb dX3_fill_10 rfl ?_
  obtain ⟨g1, hf⟩ := gd_ob hf
  obtain ⟨s2, es2, hf⟩ := nm_ob hf
  refine va_bast hx hb hK hP hD hS 1 1 rfl rfl g1 dX3_fill_11 (fun H locs hP hD hS => ?_)
  have hP : va_P D vwCl (wTab ca h ar s2) H := by rw [← es2]; exact hP
  have hD : va_D A (wTab ca h ar s2) := by rw [← es2]; exact hD
  refine lv_aload_n hx hb dX3_fill_12 rfl (lv_at hl 0 rfl) ?_
  refine va_get (D := D) (ci := 3) (v := .ref (ar 1)) (C := RX3) (T := TX3) (N := 6) hx hb hts in3 hown hK hP 0 rfl rfl 1 (by decide) f15 (fun _ h9 => h9) rfl dX3_fill_13 ?_
  refine lv_iload_n hx hb dX3_fill_16 rfl (lv_at hl 1 rfl) ?_
  refine lv_iload hx hb dX3_fill_17 (lv_at hl 4 rfl) ?_
  obtain ⟨g3, hf⟩ := gd_ob hf
  obtain ⟨s4, es4, hf⟩ := nm_ob hf
  refine va_iast hx hb hK hP hD hS 2 0 rfl rfl g3 dX3_fill_19 (fun H locs hP hD hS => ?_)
  have hP : va_P D vwCl (wTab ca h ar s4) H := by rw [← es4]; exact hP
  have hD : va_D A (wTab ca h ar s4) := by rw [← es4]; exact hD
  refine lv_aload_n hx hb dX3_fill_20 rfl (lv_at hl 0 rfl) ?_
  refine va_get (D := D) (ci := 3) (v := .ref (ar 2)) (C := RX3) (T := TX3) (N := 6) hx hb hts in3 hown hK hP 0 rfl rfl 2 (by decide) f19 (fun _ h9 => h9) rfl dX3_fill_21 ?_
  refine lv_iload_n hx hb dX3_fill_24 rfl (lv_at hl 1 rfl) ?_
  refine lv_iload_n hx hb dX3_fill_25 rfl (lv_at hl 2 rfl) ?_
  obtain ⟨g5, hf⟩ := gd_ob hf
  obtain ⟨s6, es6, hf⟩ := nm_ob hf
  refine va_iast hx hb hK hP hD hS 3 0 rfl rfl g5 dX3_fill_26 (fun H locs hP hD hS => ?_)
  have hP : va_P D vwCl (wTab ca h ar s6) H := by rw [← es6]; exact hP
  have hD : va_D A (wTab ca h ar s6) := by rw [← es6]; exact hD
  refine lv_aload_n hx hb dX3_fill_27 rfl (lv_at hl 0 rfl) ?_
  refine va_get (D := D) (ci := 3) (v := .ref (ar 3)) (C := RX3) (T := TX3) (N := 6) hx hb hts in3 hown hK hP 0 rfl rfl 3 (by decide) f22 (fun _ h9 => h9) rfl dX3_fill_28 ?_
  refine lv_iload_n hx hb dX3_fill_31 rfl (lv_at hl 1 rfl) ?_
  refine lv_iload_n hx hb dX3_fill_32 rfl (lv_at hl 3 rfl) ?_
  obtain ⟨g7, hf⟩ := gd_ob hf
  obtain ⟨s8, es8, hf⟩ := nm_ob hf
  refine va_iast hx hb hK hP hD hS 4 0 rfl rfl g7 dX3_fill_33 (fun H locs hP hD hS => ?_)
  have hP : va_P D vwCl (wTab ca h ar s8) H := by rw [← es8]; exact hP
  have hD : va_D A (wTab ca h ar s8) := by rw [← es8]; exact hD
  obtain rfl := so1 hf
  exact hret _ _ _ _ dX3_fill_34 hP hD hS

def tt_carryIn_131  (k23 : Tb → Int32 → Int32 → Int32 → Int32 → Int32 → Int32 → Option Tb) (τ : Tb) (l4 : Int32) (l5 : Int32) (l6 : Int32) (l7 : Int32) (l8 : Int32) (l9 : Int32) : Option Tb :=
  bd (tt_around τ (l8 + 1)) fun v17 =>
  nm (l7 + 1) fun v18 =>
  nm (l9 + 1) fun v19 =>
  k23 τ l4 l5 l6 v18 v17 v19
def tt_carryIn_23  (k23 : Tb → Int32 → Int32 → Int32 → Int32 → Int32 → Int32 → Option Tb) (τ : Tb) (l4 : Int32) (l5 : Int32) (l6 : Int32) (l7 : Int32) (l8 : Int32) (l9 : Int32) : Option Tb :=
  if (tb_sl τ) ≤ l9 then
    some τ
  else
    bd (tt_distanceIn τ l8) fun v3 =>
    if v3 = (-1) then
      bd (tt_fill τ l8 l4 l5 l6) fun s15 =>
      nm (tb_ct' s15 ((tb_ct s15) + 1)) fun s16 =>
      some s16
    else
      if l7 ≤ v3 then
        tt_carryIn_131 k23 τ l4 l5 l6 l7 l8 l9
      else
        gd l8 256 <|
        nm (tb_ks τ l8.toNatClampNeg) fun v7 =>
        gd l8 256 <|
        nm (tb_vs τ l8.toNatClampNeg) fun v9 =>
        gd l8 256 <|
        nm (tb_hs τ l8.toNatClampNeg) fun v11 =>
        bd (tt_fill τ l8 l4 l5 l6) fun s13 =>
        tt_carryIn_131 k23 s13 v7 v9 v11 v3 l8 l9
def tt_carryIn_lp23   : Nat → Tb → Int32 → Int32 → Int32 → Int32 → Int32 → Int32 → Option Tb := itF (fun _ _ _ _ _ _ _ => none) (fun k => tt_carryIn_23   k)
def tt_carryIn  (τ : Tb) (a0 : Int32) (a1 : Int32) (a2 : Int32) : Option Tb :=
  bd (tt_around τ a2) fun v1 =>
  tt_carryIn_lp23 FU τ a0 a1 a2 0 v1 0
set_option maxHeartbeats 4000000 in
set_option maxRecDepth 100000 in
theorem tX3_carryIn (l : Launch) (D : va_G) (ca : Nat → ClassId) (h : Nat) (ar : Nat → Nat) (sz : Nat)  (τ : Tb) (a0 : Int32) (a1 : Int32) (a2 : Int32) (τ9 : Tb) (hf : tt_carryIn τ a0 a1 a2 = some τ9) : Cv l D ca yX3_carryIn wsX3_carryIn { frames := 2, cells := 0, slots := 0, locals := 42 } [.ref h, .int a0, .int a1, .int a2] (wTab ca h ar τ) sz (wTab ca h ar τ9) := by
  refine body_of (cc := cX3_carryIn) (maxL := 14) (ret := none) (fun A => Qv D ca (wTab ca h ar τ9) A) (by decide) rfl (Nat.le_of_ble_eq_true rfl) ?_
  intro p e s m below meth c A ls hx hb hr hml hts hown hlocks hA hK hP hD hS hl hN
  have hl : lv_has ls 14 [(0, .ref h), (1, .int a0), (2, .int a1), (3, .int a2)] := hl
  have hret : ∀ (pc : Nat) (ls : Array Slot) (H : Heap) (locs : List Loc), decode cX3_carryIn pc = .ok (.return_, 1) → va_P D vwCl (wTab ca h ar τ9) H → va_D A (wTab ca h ar τ9) → va_S A s.heap H locs → W p l e { frames := 2, cells := 0, slots := 0, locals := 42 } s m ([.ref h, .int a0, .int a1, .int a2] : List Value).toArray below meth c H locs 0 0 (MQ below (Qv D ca (wTab ca h ar τ9) A) ([.ref h, .int a0, .int a1, .int a2] : List Value).toArray s 0 0 A) (F0 m pc ls []) := fun pc ls H locs hd hP hD hS => ret_v hx hb hr hlocks hK hP hD hS hd
  generalize MQ below (Qv D ca (wTab ca h ar τ9) A) ([.ref h, .int a0, .int a1, .int a2] : List Value).toArray s 0 0 A = Q at hret ⊢
  generalize ([.ref h, .int a0, .int a1, .int a2] : List Value).toArray = args at hts hret ⊢
  have f15 := hts (.fieldLink RX3 15 "RobinRow$Table" "hashes" "[I") (by decide +kernel)
  have f19 := hts (.fieldLink RX3 19 "RobinRow$Table" "keys" "[I") (by decide +kernel)
  have f22 := hts (.fieldLink RX3 22 "RobinRow$Table" "values" "[I") (by decide +kernel)
  have f35 := hts (.fieldLink RX3 35 "RobinRow$Table" "slots" "I") (by decide +kernel)
  have f39 := hts (.fieldLink RX3 39 "RobinRow$Table" "count" "I") (by decide +kernel)
  have in3 : ∀ w ∈ u_ws RX3 TX3 6, w ∈ wsX3_carryIn := by decide +kernel
  have J23 : ∀ (n23 : Nat) (H : Heap) (locs : List Loc) (ls : Array Slot) (τ : Tb) (l4 : Int32) (l5 : Int32) (l6 : Int32) (l7 : Int32) (l8 : Int32) (l9 : Int32), tt_carryIn_lp23  n23 τ l4 l5 l6 l7 l8 l9 = some τ9 → va_P D vwCl (wTab ca h ar τ) H → va_D A (wTab ca h ar τ) → va_S A s.heap H locs → lv_has ls 14 [(0, .ref h), (4, .int l4), (5, .int l5), (6, .int l6), (7, .int l7), (8, .int l8), (9, .int l9)] → W p l e { frames := 2, cells := 0, slots := 0, locals := 42 } s m args below meth c H locs 0 0 Q (F0 m 23 ls []) := by
    intro n23
    induction n23 with
    | zero =>
      intro H locs ls τ l4 l5 l6 l7 l8 l9 hf hP hD hS hl
      exact absurd hf (fun h => by cases h)
    | succ n23 ih23 =>
      have J131 : ∀ (H : Heap) (locs : List Loc) (ls : Array Slot) (τ : Tb) (l4 : Int32) (l5 : Int32) (l6 : Int32) (l7 : Int32) (l8 : Int32) (l9 : Int32), tt_carryIn_131 (tt_carryIn_lp23  n23) τ l4 l5 l6 l7 l8 l9 = some τ9 → va_P D vwCl (wTab ca h ar τ) H → va_D A (wTab ca h ar τ) → va_S A s.heap H locs → lv_has ls 14 [(0, .ref h), (4, .int l4), (5, .int l5), (6, .int l6), (7, .int l7), (8, .int l8), (9, .int l9)] → W p l e { frames := 2, cells := 0, slots := 0, locals := 42 } s m args below meth c H locs 0 0 Q (F0 m 131 ls []) := by
        intro H locs ls τ l4 l5 l6 l7 l8 l9 hf hP hD hS hl
        unfold tt_carryIn_131 at hf
        refine lv_aload_n hx hb dX3_carryIn_131 rfl (lv_at hl 0 rfl) ?_
        refine lv_iload hx hb dX3_carryIn_132 (lv_at hl 5 rfl) ?_
        refine lv_iconst (v := 1) hx hb dX3_carryIn_134 (by decide) ?_
        refine lv_iadd hx hb dX3_carryIn_135 ?_
        obtain ⟨v17, ev17, hf⟩ := bd_ob hf
        refine call_i (As := [.int (l8 + 1)]) (rest := []) ⟨hx, hb, hml, hown, hts⟩ (tX3_around l D ca h ar _ τ (l8 + 1) v17 ev17) (cwV 1 hts gX3_carryIn_X3_around rfl rfl rfl (by decide +kernel) ⟨Nat.le_of_ble_eq_true rfl, Nat.le_of_ble_eq_true rfl⟩) hN hK hP hD hA hS (fr_id _ _) rfl rfl rfl hl.1 rfl (lv_room (Nat.le_of_ble_eq_true rfl)) dX3_carryIn_136 ⟨Nat.le_refl _, Nat.le_refl _⟩ (fun H locs hP hD hS => ?_)
        refine lv_istore (lv' := [(8, .int v17), (0, .ref h), (4, .int l4), (5, .int l5), (6, .int l6), (7, .int l7), (9, .int l9)]) hx hb dX3_carryIn_139 hl (by decide) rfl (fun ls hl => ?_)
        obtain ⟨v18, ev18, hf⟩ := nm_ob hf
        refine lv_iinc (v := v18) (lv' := [(7, .int v18), (8, .int v17), (0, .ref h), (4, .int l4), (5, .int l5), (6, .int l6), (9, .int l9)]) hx hb dX3_carryIn_141 hl (k := 5) rfl (by rw [← ev18]; rfl) (by decide) rfl (fun ls hl => ?_)
        obtain ⟨v19, ev19, hf⟩ := nm_ob hf
        refine lv_iinc (v := v19) (lv' := [(9, .int v19), (7, .int v18), (8, .int v17), (0, .ref h), (4, .int l4), (5, .int l5), (6, .int l6)]) hx hb dX3_carryIn_144 hl (k := 6) rfl (by rw [← ev19]; rfl) (by decide) rfl (fun ls hl => ?_)
        refine lv_goto (tgt := 23) hx hb dX3_carryIn_147 (by decide) ?_
        exact ih23 _ _ _ _ _ _ _ _ _ _ hf hP hD hS (lv_sub hl [3, 4, 5, 6, 1, 2, 0] rfl)
      intro H locs ls τ l4 l5 l6 l7 l8 l9 hf hP hD hS hl
      replace hf : tt_carryIn_23  (tt_carryIn_lp23  n23) τ l4 l5 l6 l7 l8 l9 = some τ9 := hf
      unfold tt_carryIn_23 at hf
      refine lv_iload hx hb dX3_carryIn_23 (lv_at hl 6 rfl) ?_
      refine lv_aload_n hx hb dX3_carryIn_25 rfl (lv_at hl 0 rfl) ?_
      refine va_get (D := D) (ci := 3) (v := .int (tb_sl τ)) (C := RX3) (T := TX3) (N := 6) hx hb hts in3 hown hK hP 0 rfl rfl 4 (by decide) f35 (fun _ h9 => h9) rfl dX3_carryIn_26 ?_
      refine lv_icmp_ge (tgt := 150) hx hb dX3_carryIn_29 (by decide) (fun c2 => ?_) (fun c2 => ?_)
      · replace hf := it_p c2 hf
        obtain rfl := so1 hf
        exact hret _ _ _ _ dX3_carryIn_150 hP hD hS
      · replace hf := it_n c2 hf
        refine lv_aload_n hx hb dX3_carryIn_32 rfl (lv_at hl 0 rfl) ?_
        refine lv_iload hx hb dX3_carryIn_33 (lv_at hl 5 rfl) ?_
        obtain ⟨v3, ev3, hf⟩ := bd_ob hf
        refine call_i (As := [.int l8]) (rest := []) ⟨hx, hb, hml, hown, hts⟩ (tX3_distanceIn l D ca h ar _ τ l8 v3 ev3) (cwV 1 hts gX3_carryIn_X3_distanceIn rfl rfl rfl (by decide +kernel) ⟨Nat.le_of_ble_eq_true rfl, Nat.le_of_ble_eq_true rfl⟩) hN hK hP hD hA hS (fr_id _ _) rfl rfl rfl hl.1 rfl (lv_room (Nat.le_of_ble_eq_true rfl)) dX3_carryIn_35 ⟨Nat.le_refl _, Nat.le_refl _⟩ (fun H locs hP hD hS => ?_)
        refine lv_istore (lv' := [(10, .int v3), (0, .ref h), (4, .int l4), (5, .int l5), (6, .int l6), (7, .int l7), (8, .int l8), (9, .int l9)]) hx hb dX3_carryIn_38 hl (by decide) rfl (fun ls hl => ?_)
        refine lv_iload hx hb dX3_carryIn_40 (lv_at hl 0 rfl) ?_
        refine lv_iconst (v := (-1)) hx hb dX3_carryIn_42 (by decide) ?_
        refine lv_icmp_ne (tgt := 69) hx hb dX3_carryIn_43 (by decide) (fun c4 => ?_) (fun c4 => ?_)
        · replace hf := it_n c4 hf
          refine lv_iload hx hb dX3_carryIn_69 (lv_at hl 0 rfl) ?_
          refine lv_iload hx hb dX3_carryIn_71 (lv_at hl 5 rfl) ?_
          refine lv_icmp_ge (tgt := 131) hx hb dX3_carryIn_73 (by decide) (fun c5 => ?_) (fun c5 => ?_)
          · replace hf := it_p c5 hf
            exact J131 _ _ _ _ _ _ _ _ _ _ hf hP hD hS (lv_sub hl [1, 2, 3, 4, 5, 6, 7] rfl)
          · replace hf := it_n c5 hf
            refine lv_aload_n hx hb dX3_carryIn_76 rfl (lv_at hl 1 rfl) ?_
            refine va_get (D := D) (ci := 3) (v := .ref (ar 2)) (C := RX3) (T := TX3) (N := 6) hx hb hts in3 hown hK hP 0 rfl rfl 2 (by decide) f19 (fun _ h9 => h9) rfl dX3_carryIn_77 ?_
            refine lv_iload hx hb dX3_carryIn_80 (lv_at hl 6 rfl) ?_
            obtain ⟨g6, hf⟩ := gd_ob hf
            refine va_iald hx hb hK hP 3 0 rfl rfl g6 dX3_carryIn_82 ?_
            obtain ⟨v7, ev7, hf⟩ := nm_ob hf
            refine tp_i ev7 ?_
            refine lv_istore (lv' := [(11, .int v7), (10, .int v3), (0, .ref h), (4, .int l4), (5, .int l5), (6, .int l6), (7, .int l7), (8, .int l8), (9, .int l9)]) hx hb dX3_carryIn_83 hl (by decide) rfl (fun ls hl => ?_)
            refine lv_aload_n hx hb dX3_carryIn_85 rfl (lv_at hl 2 rfl) ?_
            refine va_get (D := D) (ci := 3) (v := .ref (ar 3)) (C := RX3) (T := TX3) (N := 6) hx hb hts in3 hown hK hP 0 rfl rfl 3 (by decide) f22 (fun _ h9 => h9) rfl dX3_carryIn_86 ?_
            refine lv_iload hx hb dX3_carryIn_89 (lv_at hl 7 rfl) ?_
            obtain ⟨g8, hf⟩ := gd_ob hf
            refine va_iald hx hb hK hP 4 0 rfl rfl g8 dX3_carryIn_91 ?_
            obtain ⟨v9, ev9, hf⟩ := nm_ob hf
            refine tp_i ev9 ?_
            refine lv_istore (lv' := [(12, .int v9), (11, .int v7), (10, .int v3), (0, .ref h), (4, .int l4), (5, .int l5), (6, .int l6), (7, .int l7), (8, .int l8), (9, .int l9)]) hx hb dX3_carryIn_92 hl (by decide) rfl (fun ls hl => ?_)
            refine lv_aload_n hx hb dX3_carryIn_94 rfl (lv_at hl 3 rfl) ?_
            refine va_get (D := D) (ci := 3) (v := .ref (ar 1)) (C := RX3) (T := TX3) (N := 6) hx hb hts in3 hown hK hP 0 rfl rfl 1 (by decide) f15 (fun _ h9 => h9) rfl dX3_carryIn_95 ?_
            refine lv_iload hx hb dX3_carryIn_98 (lv_at hl 8 rfl) ?_
            obtain ⟨g10, hf⟩ := gd_ob hf
            refine va_iald hx hb hK hP 2 0 rfl rfl g10 dX3_carryIn_100 ?_
            obtain ⟨v11, ev11, hf⟩ := nm_ob hf
            refine tp_i ev11 ?_
            refine lv_istore (lv' := [(13, .int v11), (12, .int v9), (11, .int v7), (10, .int v3), (0, .ref h), (4, .int l4), (5, .int l5), (6, .int l6), (7, .int l7), (8, .int l8), (9, .int l9)]) hx hb dX3_carryIn_101 hl (by decide) rfl (fun ls hl => ?_)
            refine lv_aload_n hx hb dX3_carryIn_103 rfl (lv_at hl 4 rfl) ?_
            refine lv_iload hx hb dX3_carryIn_104 (lv_at hl 9 rfl) ?_
            refine lv_iload hx hb dX3_carryIn_106 (lv_at hl 5 rfl) ?_
            refine lv_iload hx hb dX3_carryIn_108 (lv_at hl 6 rfl) ?_
            refine lv_iload hx hb dX3_carryIn_110 (lv_at hl 7 rfl) ?_
            obtain ⟨s13, es13, hf⟩ := bd_ob hf
            refine call_v (As := [.int l8, .int l4, .int l5, .int l6]) (rest := []) ⟨hx, hb, hml, hown, hts⟩ (tX3_fill l D ca h ar _ τ l8 l4 l5 l6 s13 es13) (cwV 4 hts gX3_carryIn_X3_fill rfl rfl rfl (by decide +kernel) ⟨Nat.le_of_ble_eq_true rfl, Nat.le_of_ble_eq_true rfl⟩) hN hK hP hD hA hS (fr_id _ _) rfl rfl rfl hl.1 rfl (lv_room (Nat.le_of_ble_eq_true rfl)) dX3_carryIn_112 ⟨Nat.le_refl _, Nat.le_refl _⟩ (fun H locs hP hD hS => ?_)
            refine lv_iload hx hb dX3_carryIn_115 (lv_at hl 2 rfl) ?_
            refine lv_istore (lv' := [(4, .int v7), (13, .int v11), (12, .int v9), (11, .int v7), (10, .int v3), (0, .ref h), (5, .int l5), (6, .int l6), (7, .int l7), (8, .int l8), (9, .int l9)]) hx hb dX3_carryIn_117 hl (by decide) rfl (fun ls hl => ?_)
            refine lv_iload hx hb dX3_carryIn_119 (lv_at hl 2 rfl) ?_
            refine lv_istore (lv' := [(5, .int v9), (4, .int v7), (13, .int v11), (12, .int v9), (11, .int v7), (10, .int v3), (0, .ref h), (6, .int l6), (7, .int l7), (8, .int l8), (9, .int l9)]) hx hb dX3_carryIn_121 hl (by decide) rfl (fun ls hl => ?_)
            refine lv_iload hx hb dX3_carryIn_123 (lv_at hl 2 rfl) ?_
            refine lv_istore (lv' := [(6, .int v11), (5, .int v9), (4, .int v7), (13, .int v11), (12, .int v9), (11, .int v7), (10, .int v3), (0, .ref h), (7, .int l7), (8, .int l8), (9, .int l9)]) hx hb dX3_carryIn_125 hl (by decide) rfl (fun ls hl => ?_)
            refine lv_iload hx hb dX3_carryIn_127 (lv_at hl 6 rfl) ?_
            refine lv_istore (lv' := [(7, .int v3), (6, .int v11), (5, .int v9), (4, .int v7), (13, .int v11), (12, .int v9), (11, .int v7), (10, .int v3), (0, .ref h), (8, .int l8), (9, .int l9)]) hx hb dX3_carryIn_129 hl (by decide) rfl (fun ls hl => ?_)
            exact J131 _ _ _ _ _ _ _ _ _ _ hf hP hD hS (lv_sub hl [8, 3, 2, 1, 0, 9, 10] rfl)
        · replace hf := it_p c4 hf
          refine lv_aload_n hx hb dX3_carryIn_46 rfl (lv_at hl 1 rfl) ?_
          refine lv_iload hx hb dX3_carryIn_47 (lv_at hl 6 rfl) ?_
          refine lv_iload hx hb dX3_carryIn_49 (lv_at hl 2 rfl) ?_
          refine lv_iload hx hb dX3_carryIn_51 (lv_at hl 3 rfl) ?_
          refine lv_iload hx hb dX3_carryIn_53 (lv_at hl 4 rfl) ?_
          obtain ⟨s15, es15, hf⟩ := bd_ob hf
          refine call_v (As := [.int l8, .int l4, .int l5, .int l6]) (rest := []) ⟨hx, hb, hml, hown, hts⟩ (tX3_fill l D ca h ar _ τ l8 l4 l5 l6 s15 es15) (cwV 4 hts gX3_carryIn_X3_fill rfl rfl rfl (by decide +kernel) ⟨Nat.le_of_ble_eq_true rfl, Nat.le_of_ble_eq_true rfl⟩) hN hK hP hD hA hS (fr_id _ _) rfl rfl rfl hl.1 rfl (lv_room (Nat.le_of_ble_eq_true rfl)) dX3_carryIn_55 ⟨Nat.le_refl _, Nat.le_refl _⟩ (fun H locs hP hD hS => ?_)
          refine lv_aload_n hx hb dX3_carryIn_58 rfl (lv_at hl 1 rfl) ?_
          refine lv_dup hx hb dX3_carryIn_59 rfl ?_
          refine va_get (D := D) (ci := 3) (v := .int (tb_ct s15)) (C := RX3) (T := TX3) (N := 6) hx hb hts in3 hown hK hP 0 rfl rfl 5 (by decide) f39 (fun _ h9 => h9) rfl dX3_carryIn_60 ?_
          refine lv_iconst (v := 1) hx hb dX3_carryIn_63 (by decide) ?_
          refine lv_iadd hx hb dX3_carryIn_64 ?_
          obtain ⟨s16, es16, hf⟩ := nm_ob hf
          refine va_put (D := D) (ci := 3) (v := .int ((tb_ct s15) + 1)) (ty := .int) (C := RX3) (T := TX3) (N := 6) hx hb hts in3 tyX3 tyX3_ok nmX3 hown hK hP hD hS 0 rfl rfl 5 (by decide) f39 (fun _ h9 => h9) rfl (by decide +kernel) rfl rfl (Nat.le_of_ble_eq_true rfl) dX3_carryIn_65 (fun H locs hP hD hS => ?_)
          have hP : va_P D vwCl (wTab ca h ar s16) H := by rw [← es16]; exact hP
          have hD : va_D A (wTab ca h ar s16) := by rw [← es16]; exact hD
          obtain rfl := so1 hf
          exact hret _ _ _ _ dX3_carryIn_68 hP hD hS
  unfold tt_carryIn at hf
  refine lv_iload_n hx hb dX3_carryIn_0 rfl (lv_at hl 1 rfl) ?_
  refine lv_istore (lv' := [(4, .int a0), (0, .ref h), (1, .int a0), (2, .int a1), (3, .int a2)]) hx hb dX3_carryIn_1 hl (by decide) rfl (fun ls hl => ?_)
  refine lv_iload_n hx hb dX3_carryIn_3 rfl (lv_at hl 3 rfl) ?_
  refine lv_istore (lv' := [(5, .int a1), (4, .int a0), (0, .ref h), (1, .int a0), (2, .int a1), (3, .int a2)]) hx hb dX3_carryIn_4 hl (by decide) rfl (fun ls hl => ?_)
  refine lv_iload_n hx hb dX3_carryIn_6 rfl (lv_at hl 5 rfl) ?_
  refine lv_istore (lv' := [(6, .int a2), (5, .int a1), (4, .int a0), (0, .ref h), (1, .int a0), (2, .int a1), (3, .int a2)]) hx hb dX3_carryIn_7 hl (by decide) rfl (fun ls hl => ?_)
  refine lv_iconst (v := 0) hx hb dX3_carryIn_9 (by decide) ?_
  refine lv_istore (lv' := [(7, .int 0), (6, .int a2), (5, .int a1), (4, .int a0), (0, .ref h), (1, .int a0), (2, .int a1), (3, .int a2)]) hx hb dX3_carryIn_10 hl (by decide) rfl (fun ls hl => ?_)
  refine lv_aload_n hx hb dX3_carryIn_12 rfl (lv_at hl 4 rfl) ?_
  refine lv_iload hx hb dX3_carryIn_13 (lv_at hl 1 rfl) ?_
  obtain ⟨v1, ev1, hf⟩ := bd_ob hf
  refine call_i (As := [.int a2]) (rest := []) ⟨hx, hb, hml, hown, hts⟩ (tX3_around l D ca h ar _ τ a2 v1 ev1) (cwV 1 hts gX3_carryIn_X3_around rfl rfl rfl (by decide +kernel) ⟨Nat.le_of_ble_eq_true rfl, Nat.le_of_ble_eq_true rfl⟩) hN hK hP hD hA hS (fr_id _ _) rfl rfl rfl hl.1 rfl (lv_room (Nat.le_of_ble_eq_true rfl)) dX3_carryIn_15 ⟨Nat.le_refl _, Nat.le_refl _⟩ (fun H locs hP hD hS => ?_)
  refine lv_istore (lv' := [(8, .int v1), (7, .int 0), (6, .int a2), (5, .int a1), (4, .int a0), (0, .ref h), (1, .int a0), (2, .int a1), (3, .int a2)]) hx hb dX3_carryIn_18 hl (by decide) rfl (fun ls hl => ?_)
  refine lv_iconst (v := 0) hx hb dX3_carryIn_20 (by decide) ?_
  refine lv_istore (lv' := [(9, .int 0), (8, .int v1), (7, .int 0), (6, .int a2), (5, .int a1), (4, .int a0), (0, .ref h), (1, .int a0), (2, .int a1), (3, .int a2)]) hx hb dX3_carryIn_21 hl (by decide) rfl (fun ls hl => ?_)
  exact J23 FU _ _ _ _ _ _ _ _ _ _ hf hP hD hS (lv_sub hl [6, 5, 4, 3, 2, 1, 0] rfl)

def tt_takeOut_69   (τ : Tb) (l2 : Int32) : Option Tb :=
  gd l2 256 <|
  nm (tb_ctl' τ (upd (tb_ctl τ) l2.toNatClampNeg (-128))) fun s13 =>
  nm (tb_ct' s13 ((tb_ct s13) - 1)) fun s14 =>
  some s14
def tt_takeOut_13  (k13 : Tb → Int32 → Int32 → Int32 → Option Tb) (τ : Tb) (l2 : Int32) (l3 : Int32) (l4 : Int32) : Option Tb :=
  if (tb_sl τ) ≤ l4 then
    tt_takeOut_69 τ l2
  else
    bd (tt_distanceIn τ l3) fun v3 =>
    if v3 ≤ 0 then
      tt_takeOut_69 τ l2
    else
      gd l3 256 <|
      gd l3 256 <|
      gd l3 256 <|
      bd (tt_fill τ l2 (tb_ks τ l3.toNatClampNeg) (tb_vs τ l3.toNatClampNeg) (tb_hs τ l3.toNatClampNeg)) fun s9 =>
      bd (tt_around s9 (l3 + 1)) fun v10 =>
      nm (l4 + 1) fun v11 =>
      k13 s9 l3 v10 v11
def tt_takeOut_lp13   : Nat → Tb → Int32 → Int32 → Int32 → Option Tb := itF (fun _ _ _ _ => none) (fun k => tt_takeOut_13   k)
def tt_takeOut  (τ : Tb) (a0 : Int32) : Option Tb :=
  bd (tt_around τ (a0 + 1)) fun v1 =>
  tt_takeOut_lp13 FU τ a0 v1 1
set_option maxHeartbeats 4000000 in
set_option maxRecDepth 100000 in
theorem tX3_takeOut (l : Launch) (D : va_G) (ca : Nat → ClassId) (h : Nat) (ar : Nat → Nat) (sz : Nat)  (τ : Tb) (a0 : Int32) (τ9 : Tb) (hf : tt_takeOut τ a0 = some τ9) : Cv l D ca yX3_takeOut wsX3_takeOut { frames := 2, cells := 0, slots := 0, locals := 42 } [.ref h, .int a0] (wTab ca h ar τ) sz (wTab ca h ar τ9) := by
  refine body_of (cc := cX3_takeOut) (maxL := 5) (ret := none) (fun A => Qv D ca (wTab ca h ar τ9) A) (by decide) rfl (Nat.le_of_ble_eq_true rfl) ?_
  intro p e s m below meth c A ls hx hb hr hml hts hown hlocks hA hK hP hD hS hl hN
  have hl : lv_has ls 5 [(0, .ref h), (1, .int a0)] := hl
  have hret : ∀ (pc : Nat) (ls : Array Slot) (H : Heap) (locs : List Loc), decode cX3_takeOut pc = .ok (.return_, 1) → va_P D vwCl (wTab ca h ar τ9) H → va_D A (wTab ca h ar τ9) → va_S A s.heap H locs → W p l e { frames := 2, cells := 0, slots := 0, locals := 42 } s m ([.ref h, .int a0] : List Value).toArray below meth c H locs 0 0 (MQ below (Qv D ca (wTab ca h ar τ9) A) ([.ref h, .int a0] : List Value).toArray s 0 0 A) (F0 m pc ls []) := fun pc ls H locs hd hP hD hS => ret_v hx hb hr hlocks hK hP hD hS hd
  generalize MQ below (Qv D ca (wTab ca h ar τ9) A) ([.ref h, .int a0] : List Value).toArray s 0 0 A = Q at hret ⊢
  generalize ([.ref h, .int a0] : List Value).toArray = args at hts hret ⊢
  have f15 := hts (.fieldLink RX3 15 "RobinRow$Table" "hashes" "[I") (by decide +kernel)
  have f19 := hts (.fieldLink RX3 19 "RobinRow$Table" "keys" "[I") (by decide +kernel)
  have f22 := hts (.fieldLink RX3 22 "RobinRow$Table" "values" "[I") (by decide +kernel)
  have f35 := hts (.fieldLink RX3 35 "RobinRow$Table" "slots" "I") (by decide +kernel)
  have f39 := hts (.fieldLink RX3 39 "RobinRow$Table" "count" "I") (by decide +kernel)
  have f9 := hts (.fieldLink RX3 9 "RobinRow$Table" "controls" "[B") (by decide +kernel)
  have in3 : ∀ w ∈ u_ws RX3 TX3 6, w ∈ wsX3_takeOut := by decide +kernel
  have J69 : ∀ (H : Heap) (locs : List Loc) (ls : Array Slot) (τ : Tb) (l2 : Int32), tt_takeOut_69  τ l2 = some τ9 → va_P D vwCl (wTab ca h ar τ) H → va_D A (wTab ca h ar τ) → va_S A s.heap H locs → lv_has ls 5 [(0, .ref h), (2, .int l2)] → W p l e { frames := 2, cells := 0, slots := 0, locals := 42 } s m args below meth c H locs 0 0 Q (F0 m 69 ls []) := by
    intro H locs ls τ l2 hf hP hD hS hl
    unfold tt_takeOut_69 at hf
    refine lv_aload_n hx hb dX3_takeOut_69 rfl (lv_at hl 0 rfl) ?_
    refine va_get (D := D) (ci := 3) (v := .ref (ar 0)) (C := RX3) (T := TX3) (N := 6) hx hb hts in3 hown hK hP 0 rfl rfl 0 (by decide) f9 (fun _ h9 => h9) rfl dX3_takeOut_70 ?_
    refine lv_iload_n hx hb dX3_takeOut_73 rfl (lv_at hl 1 rfl) ?_
    refine lv_bipush (v := (-128)) hx hb dX3_takeOut_74 (by decide) ?_
    obtain ⟨g12, hf⟩ := gd_ob hf
    obtain ⟨s13, es13, hf⟩ := nm_ob hf
    refine va_bast hx hb hK hP hD hS 1 1 rfl rfl g12 dX3_takeOut_76 (fun H locs hP hD hS => ?_)
    have hP : va_P D vwCl (wTab ca h ar s13) H := by rw [← es13]; exact hP
    have hD : va_D A (wTab ca h ar s13) := by rw [← es13]; exact hD
    refine lv_aload_n hx hb dX3_takeOut_77 rfl (lv_at hl 0 rfl) ?_
    refine lv_dup hx hb dX3_takeOut_78 rfl ?_
    refine va_get (D := D) (ci := 3) (v := .int (tb_ct s13)) (C := RX3) (T := TX3) (N := 6) hx hb hts in3 hown hK hP 0 rfl rfl 5 (by decide) f39 (fun _ h9 => h9) rfl dX3_takeOut_79 ?_
    refine lv_iconst (v := 1) hx hb dX3_takeOut_82 (by decide) ?_
    refine lv_isub hx hb dX3_takeOut_83 ?_
    obtain ⟨s14, es14, hf⟩ := nm_ob hf
    refine va_put (D := D) (ci := 3) (v := .int ((tb_ct s13) - 1)) (ty := .int) (C := RX3) (T := TX3) (N := 6) hx hb hts in3 tyX3 tyX3_ok nmX3 hown hK hP hD hS 0 rfl rfl 5 (by decide) f39 (fun _ h9 => h9) rfl (by decide +kernel) rfl rfl (Nat.le_of_ble_eq_true rfl) dX3_takeOut_84 (fun H locs hP hD hS => ?_)
    have hP : va_P D vwCl (wTab ca h ar s14) H := by rw [← es14]; exact hP
    have hD : va_D A (wTab ca h ar s14) := by rw [← es14]; exact hD
    obtain rfl := so1 hf
    exact hret _ _ _ _ dX3_takeOut_87 hP hD hS
  have J13 : ∀ (n13 : Nat) (H : Heap) (locs : List Loc) (ls : Array Slot) (τ : Tb) (l2 : Int32) (l3 : Int32) (l4 : Int32), tt_takeOut_lp13  n13 τ l2 l3 l4 = some τ9 → va_P D vwCl (wTab ca h ar τ) H → va_D A (wTab ca h ar τ) → va_S A s.heap H locs → lv_has ls 5 [(0, .ref h), (2, .int l2), (3, .int l3), (4, .int l4)] → W p l e { frames := 2, cells := 0, slots := 0, locals := 42 } s m args below meth c H locs 0 0 Q (F0 m 13 ls []) := by
    intro n13
    induction n13 with
    | zero =>
      intro H locs ls τ l2 l3 l4 hf hP hD hS hl
      exact absurd hf (fun h => by cases h)
    | succ n13 ih13 =>
      intro H locs ls τ l2 l3 l4 hf hP hD hS hl
      replace hf : tt_takeOut_13  (tt_takeOut_lp13  n13) τ l2 l3 l4 = some τ9 := hf
      unfold tt_takeOut_13 at hf
      refine lv_iload hx hb dX3_takeOut_13 (lv_at hl 3 rfl) ?_
      refine lv_aload_n hx hb dX3_takeOut_15 rfl (lv_at hl 0 rfl) ?_
      refine va_get (D := D) (ci := 3) (v := .int (tb_sl τ)) (C := RX3) (T := TX3) (N := 6) hx hb hts in3 hown hK hP 0 rfl rfl 4 (by decide) f35 (fun _ h9 => h9) rfl dX3_takeOut_16 ?_
      refine lv_icmp_ge (tgt := 69) hx hb dX3_takeOut_19 (by decide) (fun c2 => ?_) (fun c2 => ?_)
      · replace hf := it_p c2 hf
        exact J69 _ _ _ _ _ hf hP hD hS (lv_sub hl [0, 1] rfl)
      · replace hf := it_n c2 hf
        refine lv_aload_n hx hb dX3_takeOut_22 rfl (lv_at hl 0 rfl) ?_
        refine lv_iload_n hx hb dX3_takeOut_23 rfl (lv_at hl 2 rfl) ?_
        obtain ⟨v3, ev3, hf⟩ := bd_ob hf
        refine call_i (As := [.int l3]) (rest := []) ⟨hx, hb, hml, hown, hts⟩ (tX3_distanceIn l D ca h ar _ τ l3 v3 ev3) (cwV 1 hts gX3_takeOut_X3_distanceIn rfl rfl rfl (by decide +kernel) ⟨Nat.le_of_ble_eq_true rfl, Nat.le_of_ble_eq_true rfl⟩) hN hK hP hD hA hS (fr_id _ _) rfl rfl rfl hl.1 rfl (lv_room (Nat.le_of_ble_eq_true rfl)) dX3_takeOut_24 ⟨Nat.le_refl _, Nat.le_refl _⟩ (fun H locs hP hD hS => ?_)
        refine lv_if_le (tgt := 69) hx hb dX3_takeOut_27 (by decide) (fun c4 => ?_) (fun c4 => ?_)
        · replace hf := it_p c4 hf
          exact J69 _ _ _ _ _ hf hP hD hS (lv_sub hl [0, 1] rfl)
        · replace hf := it_n c4 hf
          refine lv_aload_n hx hb dX3_takeOut_30 rfl (lv_at hl 0 rfl) ?_
          refine lv_iload_n hx hb dX3_takeOut_31 rfl (lv_at hl 1 rfl) ?_
          refine lv_aload_n hx hb dX3_takeOut_32 rfl (lv_at hl 0 rfl) ?_
          refine va_get (D := D) (ci := 3) (v := .ref (ar 2)) (C := RX3) (T := TX3) (N := 6) hx hb hts in3 hown hK hP 0 rfl rfl 2 (by decide) f19 (fun _ h9 => h9) rfl dX3_takeOut_33 ?_
          refine lv_iload_n hx hb dX3_takeOut_36 rfl (lv_at hl 2 rfl) ?_
          obtain ⟨g5, hf⟩ := gd_ob hf
          refine va_iald hx hb hK hP 3 0 rfl rfl g5 dX3_takeOut_37 ?_
          refine lv_aload_n hx hb dX3_takeOut_38 rfl (lv_at hl 0 rfl) ?_
          refine va_get (D := D) (ci := 3) (v := .ref (ar 3)) (C := RX3) (T := TX3) (N := 6) hx hb hts in3 hown hK hP 0 rfl rfl 3 (by decide) f22 (fun _ h9 => h9) rfl dX3_takeOut_39 ?_
          refine lv_iload_n hx hb dX3_takeOut_42 rfl (lv_at hl 2 rfl) ?_
          obtain ⟨g6, hf⟩ := gd_ob hf
          refine va_iald hx hb hK hP 4 0 rfl rfl g6 dX3_takeOut_43 ?_
          refine lv_aload_n hx hb dX3_takeOut_44 rfl (lv_at hl 0 rfl) ?_
          refine va_get (D := D) (ci := 3) (v := .ref (ar 1)) (C := RX3) (T := TX3) (N := 6) hx hb hts in3 hown hK hP 0 rfl rfl 1 (by decide) f15 (fun _ h9 => h9) rfl dX3_takeOut_45 ?_
          refine lv_iload_n hx hb dX3_takeOut_48 rfl (lv_at hl 2 rfl) ?_
          obtain ⟨g7, hf⟩ := gd_ob hf
          refine va_iald hx hb hK hP 2 0 rfl rfl g7 dX3_takeOut_49 ?_
          obtain ⟨s9, es9, hf⟩ := bd_ob hf
          refine call_v (As := [.int l2, .int (tb_ks τ l3.toNatClampNeg), .int (tb_vs τ l3.toNatClampNeg), .int (tb_hs τ l3.toNatClampNeg)]) (rest := []) ⟨hx, hb, hml, hown, hts⟩ (tX3_fill l D ca h ar _ τ l2 (tb_ks τ l3.toNatClampNeg) (tb_vs τ l3.toNatClampNeg) (tb_hs τ l3.toNatClampNeg) s9 es9) (cwV 4 hts gX3_takeOut_X3_fill rfl rfl rfl (by decide +kernel) ⟨Nat.le_of_ble_eq_true rfl, Nat.le_of_ble_eq_true rfl⟩) hN hK hP hD hA hS (fr_id _ _) rfl rfl rfl hl.1 rfl (lv_room (Nat.le_of_ble_eq_true rfl)) dX3_takeOut_50 ⟨Nat.le_refl _, Nat.le_refl _⟩ (fun H locs hP hD hS => ?_)
          refine lv_iload_n hx hb dX3_takeOut_53 rfl (lv_at hl 2 rfl) ?_
          refine lv_istore_n (lv' := [(2, .int l3), (0, .ref h), (3, .int l3), (4, .int l4)]) hx hb dX3_takeOut_54 rfl hl (by decide) rfl (fun ls hl => ?_)
          refine lv_aload_n hx hb dX3_takeOut_55 rfl (lv_at hl 1 rfl) ?_
          refine lv_iload_n hx hb dX3_takeOut_56 rfl (lv_at hl 0 rfl) ?_
          refine lv_iconst (v := 1) hx hb dX3_takeOut_57 (by decide) ?_
          refine lv_iadd hx hb dX3_takeOut_58 ?_
          obtain ⟨v10, ev10, hf⟩ := bd_ob hf
          refine call_i (As := [.int (l3 + 1)]) (rest := []) ⟨hx, hb, hml, hown, hts⟩ (tX3_around l D ca h ar _ s9 (l3 + 1) v10 ev10) (cwV 1 hts gX3_takeOut_X3_around rfl rfl rfl (by decide +kernel) ⟨Nat.le_of_ble_eq_true rfl, Nat.le_of_ble_eq_true rfl⟩) hN hK hP hD hA hS (fr_id _ _) rfl rfl rfl hl.1 rfl (lv_room (Nat.le_of_ble_eq_true rfl)) dX3_takeOut_59 ⟨Nat.le_refl _, Nat.le_refl _⟩ (fun H locs hP hD hS => ?_)
          refine lv_istore_n (lv' := [(3, .int v10), (2, .int l3), (0, .ref h), (4, .int l4)]) hx hb dX3_takeOut_62 rfl hl (by decide) rfl (fun ls hl => ?_)
          obtain ⟨v11, ev11, hf⟩ := nm_ob hf
          refine lv_iinc (v := v11) (lv' := [(4, .int v11), (3, .int v10), (2, .int l3), (0, .ref h)]) hx hb dX3_takeOut_63 hl (k := 3) rfl (by rw [← ev11]; rfl) (by decide) rfl (fun ls hl => ?_)
          refine lv_goto (tgt := 13) hx hb dX3_takeOut_66 (by decide) ?_
          exact ih13 _ _ _ _ _ _ _ hf hP hD hS (lv_sub hl [3, 2, 1, 0] rfl)
  unfold tt_takeOut at hf
  refine lv_iload_n hx hb dX3_takeOut_0 rfl (lv_at hl 1 rfl) ?_
  refine lv_istore_n (lv' := [(2, .int a0), (0, .ref h), (1, .int a0)]) hx hb dX3_takeOut_1 rfl hl (by decide) rfl (fun ls hl => ?_)
  refine lv_aload_n hx hb dX3_takeOut_2 rfl (lv_at hl 1 rfl) ?_
  refine lv_iload_n hx hb dX3_takeOut_3 rfl (lv_at hl 0 rfl) ?_
  refine lv_iconst (v := 1) hx hb dX3_takeOut_4 (by decide) ?_
  refine lv_iadd hx hb dX3_takeOut_5 ?_
  obtain ⟨v1, ev1, hf⟩ := bd_ob hf
  refine call_i (As := [.int (a0 + 1)]) (rest := []) ⟨hx, hb, hml, hown, hts⟩ (tX3_around l D ca h ar _ τ (a0 + 1) v1 ev1) (cwV 1 hts gX3_takeOut_X3_around rfl rfl rfl (by decide +kernel) ⟨Nat.le_of_ble_eq_true rfl, Nat.le_of_ble_eq_true rfl⟩) hN hK hP hD hA hS (fr_id _ _) rfl rfl rfl hl.1 rfl (lv_room (Nat.le_of_ble_eq_true rfl)) dX3_takeOut_6 ⟨Nat.le_refl _, Nat.le_refl _⟩ (fun H locs hP hD hS => ?_)
  refine lv_istore_n (lv' := [(3, .int v1), (2, .int a0), (0, .ref h), (1, .int a0)]) hx hb dX3_takeOut_9 rfl hl (by decide) rfl (fun ls hl => ?_)
  refine lv_iconst (v := 1) hx hb dX3_takeOut_10 (by decide) ?_
  refine lv_istore (lv' := [(4, .int 1), (3, .int v1), (2, .int a0), (0, .ref h), (1, .int a0)]) hx hb dX3_takeOut_11 hl (by decide) rfl (fun ls hl => ?_)
  exact J13 FU _ _ _ _ _ _ _ hf hP hD hS (lv_sub hl [3, 2, 1, 0] rfl)

def ww_end  (τ : Sw)  : Option Sw :=
  nm (sw_open' τ 0) fun s1 =>
  some s1
set_option maxHeartbeats 4000000 in
set_option maxRecDepth 100000 in
theorem tX2_end (l : Launch) (D : va_G) (ca : Nat → ClassId) (h : Nat) (sz : Nat)  (τ : Sw)  (τ9 : Sw) (hf : ww_end τ = some τ9) : Cv l D ca yX2_end wsX2_end { frames := 0, cells := 0, slots := 0, locals := 0 } [.ref h] (wSw h τ) sz (wSw h τ9) := by
  refine body_of (cc := cX2_end) (maxL := 1) (ret := none) (fun A => Qv D ca (wSw h τ9) A) (by decide) rfl (Nat.le_of_ble_eq_true rfl) ?_
  intro p e s m below meth c A ls hx hb hr hml hts hown hlocks hA hK hP hD hS hl hN
  have hl : lv_has ls 1 [(0, .ref h)] := hl
  have hret : ∀ (pc : Nat) (ls : Array Slot) (H : Heap) (locs : List Loc), decode cX2_end pc = .ok (.return_, 1) → va_P D vwCl (wSw h τ9) H → va_D A (wSw h τ9) → va_S A s.heap H locs → W p l e { frames := 0, cells := 0, slots := 0, locals := 0 } s m ([.ref h] : List Value).toArray below meth c H locs 0 0 (MQ below (Qv D ca (wSw h τ9) A) ([.ref h] : List Value).toArray s 0 0 A) (F0 m pc ls []) := fun pc ls H locs hd hP hD hS => ret_v hx hb hr hlocks hK hP hD hS hd
  generalize MQ below (Qv D ca (wSw h τ9) A) ([.ref h] : List Value).toArray s 0 0 A = Q at hret ⊢
  generalize ([.ref h] : List Value).toArray = args at hts hret ⊢
  have f9 := hts (.fieldLink RX2 9 "RobinRow$Sweep" "isOpen" "Z") (by decide +kernel)
  have in2 : ∀ w ∈ u_ws RX2 TX2 5, w ∈ wsX2_end := by decide +kernel
  unfold ww_end at hf
  refine lv_aload_n hx hb dX2_end_0 rfl (lv_at hl 0 rfl) ?_
  refine lv_iconst (v := 0) hx hb dX2_end_1 (by decide) ?_
  obtain ⟨s1, es1, hf⟩ := nm_ob hf
  refine va_put (D := D) (ci := 2) (v := .int 0) (ty := .boolean) (C := RX2) (T := TX2) (N := 5) hx hb hts in2 tyX2 tyX2_ok nmX2 hown hK hP hD hS 0 rfl rfl 0 (by decide) f9 (fun _ h9 => h9) rfl (by decide +kernel) rfl rfl (Nat.le_of_ble_eq_true rfl) dX2_end_2 (fun H locs hP hD hS => ?_)
  have hP : va_P D vwCl (wSw h s1) H := by rw [← es1]; exact hP
  have hD : va_D A (wSw h s1) := by rw [← es1]; exact hD
  obtain rfl := so1 hf
  exact hret _ _ _ _ dX2_end_5 hP hD hS

def ss_begin  (τ : Se)  : Option Se :=
  nm (se_tb' τ none) fun s1 =>
  nm (se_groups' s1 0) fun s2 =>
  nm (se_comps' s2 0) fun s3 =>
  some s3
set_option maxHeartbeats 4000000 in
set_option maxRecDepth 100000 in
theorem tX1_begin (l : Launch) (D : va_G) (ca : Nat → ClassId) (h : Nat) (sz : Nat)  (τ : Se)  (τ9 : Se) (hf : ss_begin τ = some τ9) : Cv l D ca yX1_begin wsX1_begin { frames := 0, cells := 0, slots := 0, locals := 0 } [.ref h] (wSe h τ) sz (wSe h τ9) := by
  refine body_of (cc := cX1_begin) (maxL := 1) (ret := none) (fun A => Qv D ca (wSe h τ9) A) (by decide) rfl (Nat.le_of_ble_eq_true rfl) ?_
  intro p e s m below meth c A ls hx hb hr hml hts hown hlocks hA hK hP hD hS hl hN
  have hl : lv_has ls 1 [(0, .ref h)] := hl
  have hret : ∀ (pc : Nat) (ls : Array Slot) (H : Heap) (locs : List Loc), decode cX1_begin pc = .ok (.return_, 1) → va_P D vwCl (wSe h τ9) H → va_D A (wSe h τ9) → va_S A s.heap H locs → W p l e { frames := 0, cells := 0, slots := 0, locals := 0 } s m ([.ref h] : List Value).toArray below meth c H locs 0 0 (MQ below (Qv D ca (wSe h τ9) A) ([.ref h] : List Value).toArray s 0 0 A) (F0 m pc ls []) := fun pc ls H locs hd hP hD hS => ret_v hx hb hr hlocks hK hP hD hS hd
  generalize MQ below (Qv D ca (wSe h τ9) A) ([.ref h] : List Value).toArray s 0 0 A = Q at hret ⊢
  generalize ([.ref h] : List Value).toArray = args at hts hret ⊢
  have f15 := hts (.fieldLink RX1 15 "RobinRow$Search" "groups" "I") (by decide +kernel)
  have f19 := hts (.fieldLink RX1 19 "RobinRow$Search" "comparisons" "I") (by decide +kernel)
  have f9 := hts (.fieldLink RX1 9 "RobinRow$Search" "table" "LRobinRow$Table;") (by decide +kernel)
  have in1 : ∀ w ∈ u_ws RX1 TX1 4, w ∈ wsX1_begin := by decide +kernel
  unfold ss_begin at hf
  refine lv_aload_n hx hb dX1_begin_0 rfl (lv_at hl 0 rfl) ?_
  refine lv_null hx hb dX1_begin_1 ?_
  obtain ⟨s1, es1, hf⟩ := nm_ob hf
  refine va_put (D := D) (ci := 1) (v := .null) (ty := (.object "RobinRow$Table")) (C := RX1) (T := TX1) (N := 4) hx hb hts in1 tyX1 tyX1_ok nmX1 hown hK hP hD hS 0 rfl rfl 0 (by decide) f9 (fun _ h9 => h9) rfl (by decide +kernel) rfl rfl (Nat.le_of_ble_eq_true rfl) dX1_begin_2 (fun H locs hP hD hS => ?_)
  have hP : va_P D vwCl (wSe h s1) H := by rw [← es1]; exact hP
  have hD : va_D A (wSe h s1) := by rw [← es1]; exact hD
  refine lv_aload_n hx hb dX1_begin_5 rfl (lv_at hl 0 rfl) ?_
  refine lv_iconst (v := 0) hx hb dX1_begin_6 (by decide) ?_
  obtain ⟨s2, es2, hf⟩ := nm_ob hf
  refine va_put (D := D) (ci := 1) (v := .int 0) (ty := .int) (C := RX1) (T := TX1) (N := 4) hx hb hts in1 tyX1 tyX1_ok nmX1 hown hK hP hD hS 0 rfl rfl 2 (by decide) f15 (fun _ h9 => h9) rfl (by decide +kernel) rfl rfl (Nat.le_of_ble_eq_true rfl) dX1_begin_7 (fun H locs hP hD hS => ?_)
  have hP : va_P D vwCl (wSe h s2) H := by rw [← es2]; exact hP
  have hD : va_D A (wSe h s2) := by rw [← es2]; exact hD
  refine lv_aload_n hx hb dX1_begin_10 rfl (lv_at hl 0 rfl) ?_
  refine lv_iconst (v := 0) hx hb dX1_begin_11 (by decide) ?_
  obtain ⟨s3, es3, hf⟩ := nm_ob hf
  refine va_put (D := D) (ci := 1) (v := .int 0) (ty := .int) (C := RX1) (T := TX1) (N := 4) hx hb hts in1 tyX1 tyX1_ok nmX1 hown hK hP hD hS 0 rfl rfl 3 (by decide) f19 (fun _ h9 => h9) rfl (by decide +kernel) rfl rfl (Nat.le_of_ble_eq_true rfl) dX1_begin_12 (fun H locs hP hD hS => ?_)
  have hP : va_P D vwCl (wSe h s3) H := by rw [← es3]; exact hP
  have hD : va_D A (wSe h s3) := by rw [← es3]; exact hD
  obtain rfl := so1 hf
  exact hret _ _ _ _ dX1_begin_15 hP hD hS

def ss_hasFound  (τ : Se)  : Option Int32 :=
  if se_tb τ = none then
    some 0
  else
    some 1
set_option maxHeartbeats 4000000 in
set_option maxRecDepth 100000 in
theorem tX1_hasFound (l : Launch) (D : va_G) (ca : Nat → ClassId) (h : Nat) (sz : Nat)  (τ : Se)  (r : Int32) (hf : ss_hasFound τ = some r) : Ci l D ca yX1_hasFound wsX1_hasFound { frames := 0, cells := 0, slots := 0, locals := 0 } [.ref h] (wSe h τ) sz r (wSe h τ) := by
  refine body_of (cc := cX1_hasFound) (maxL := 1) (ret := (some .boolean)) (fun A => Qi D ca r (wSe h τ) A) (by decide) rfl (Nat.le_of_ble_eq_true rfl) ?_
  intro p e s m below meth c A ls hx hb hr hml hts hown hlocks hA hK hP hD hS hl hN
  have hl : lv_has ls 1 [(0, .ref h)] := hl
  have hret : ∀ (pc : Nat) (ls : Array Slot) (H : Heap) (locs : List Loc), decode cX1_hasFound pc = .ok (.ireturn, 1) → narrow .boolean (.int r) = .int r → va_P D vwCl (wSe h τ) H → va_D A (wSe h τ) → va_S A s.heap H locs → W p l e { frames := 0, cells := 0, slots := 0, locals := 0 } s m ([.ref h] : List Value).toArray below meth c H locs 0 0 (MQ below (Qi D ca r (wSe h τ) A) ([.ref h] : List Value).toArray s 0 0 A) (F0 m pc ls [.int r]) := fun pc ls H locs hd hn hP hD hS => ret_z hx hb hr hn hlocks hK hP hD hS hd
  generalize MQ below (Qi D ca r (wSe h τ) A) ([.ref h] : List Value).toArray s 0 0 A = Q at hret ⊢
  generalize ([.ref h] : List Value).toArray = args at hts hret ⊢
  have f9 := hts (.fieldLink RX1 9 "RobinRow$Search" "table" "LRobinRow$Table;") (by decide +kernel)
  have in1 : ∀ w ∈ u_ws RX1 TX1 4, w ∈ wsX1_hasFound := by decide +kernel
  unfold ss_hasFound at hf
  refine lv_aload_n hx hb dX1_hasFound_0 rfl (lv_at hl 0 rfl) ?_
  refine va_get (D := D) (ci := 1) (v := va_rf (se_tb τ)) (C := RX1) (T := TX1) (N := 4) hx hb hts in1 hown hK hP 0 rfl rfl 0 (by decide) f9 (fun _ h9 => h9) rfl dX1_hasFound_1 ?_
  rcases c1 : se_tb τ with _ | q2
  · replace hf := it_p c1 hf
    refine W.eq (g2 := F0 m 4 ls (.null :: [])) (by first | rfl | (rw [c1]; rfl)) ?_
    refine lv_ifnullN (tgt := 11) hx hb dX1_hasFound_4 (by decide) ?_
    refine lv_iconst (v := 0) hx hb dX1_hasFound_11 (by decide) ?_
    obtain rfl := so1 hf
    exact hret _ _ _ _ dX1_hasFound_12 rfl hP hD hS
  · replace hf := it_n (fun z => by first | cases z | (rw [c1] at z; cases z)) hf
    refine W.eq (g2 := F0 m 4 ls (.ref q2 :: [])) (by first | rfl | (rw [c1]; rfl)) ?_
    refine lv_ifnull hx hb dX1_hasFound_4 ?_
    refine lv_iconst (v := 1) hx hb dX1_hasFound_7 (by decide) ?_
    refine lv_goto (tgt := 12) hx hb dX1_hasFound_8 (by decide) ?_
    obtain rfl := so1 hf
    exact hret _ _ _ _ dX1_hasFound_12 rfl hP hD hS

def ss_lookAtGroup_93 (wh : Nat) (t : Tb) (k6 : Se → Int32 → Int32 → Int32 → Int32 → Int32 → Option (Int32 × Se)) (τ : Se) (l2 : Int32) (l3 : Int32) (l4 : Int32) (l5 : Int32) (l6 : Int32) : Option (Int32 × Se) :=
  nm (l6 + 1) fun v17 =>
  k6 τ l2 l3 l4 l5 v17
def ss_lookAtGroup_49 (wh : Nat) (t : Tb) (k6 : Se → Int32 → Int32 → Int32 → Int32 → Int32 → Option (Int32 × Se)) (τ : Se) (l2 : Int32) (l3 : Int32) (l4 : Int32) (l6 : Int32) (l7 : Int32) (t0 : Int32) : Option (Int32 × Se) :=
  bd (tt_controlIn t l7) fun v10 =>
  if v10 = l4 then
    nm (se_comps' τ ((se_comps τ) + 1)) fun s12 =>
    bd (tt_keyIn t l7) fun v13 =>
    if v13 = l3 then
      nm (se_tb' s12 (some wh)) fun s15 =>
      nm (se_slot' s15 l7) fun s16 =>
      ss_lookAtGroup_93 wh t k6 s16 l2 l3 l4 t0 l6
    else
      ss_lookAtGroup_93 wh t k6 s12 l2 l3 l4 t0 l6
  else
    ss_lookAtGroup_93 wh t k6 τ l2 l3 l4 t0 l6
def ss_lookAtGroup_6 (wh : Nat) (t : Tb) (k6 : Se → Int32 → Int32 → Int32 → Int32 → Int32 → Option (Int32 × Se)) (τ : Se) (l2 : Int32) (l3 : Int32) (l4 : Int32) (l5 : Int32) (l6 : Int32) : Option (Int32 × Se) :=
  if 8 ≤ l6 then
    gn .boolean l5 <|
    some (l5, τ)
  else
    bd (ss_hasFound τ) fun v3 =>
    if v3 = 0 then
      bd (tt_around t (l2 + l6)) fun v6 =>
      if l5 = 0 then
        bd (tt_isEmptyIn t v6) fun v8 =>
        if v8 = 0 then
          ss_lookAtGroup_49 wh t k6 τ l2 l3 l4 l6 v6 0
        else
          ss_lookAtGroup_49 wh t k6 τ l2 l3 l4 l6 v6 1
      else
        ss_lookAtGroup_49 wh t k6 τ l2 l3 l4 l6 v6 1
    else
      gn .boolean l5 <|
      some (l5, τ)
def ss_lookAtGroup_lp6 (wh : Nat) (t : Tb)  : Nat → Se → Int32 → Int32 → Int32 → Int32 → Int32 → Option (Int32 × Se) := itF (fun _ _ _ _ _ _ => none) (fun k => ss_lookAtGroup_6 wh t  k)
def ss_lookAtGroup (wh : Nat) (t : Tb) (τ : Se) (a1 : Int32) (a2 : Int32) (a3 : Int32) : Option (Int32 × Se) :=
  ss_lookAtGroup_lp6 wh t FU τ a1 a2 a3 0 0
set_option maxHeartbeats 4000000 in
set_option maxRecDepth 100000 in
theorem tX1_lookAtGroup (l : Launch) (D : va_G) (ca : Nat → ClassId) (h : Nat) (ar : Nat → Nat) (sz : Nat) (wh : Nat) (t : Tb) (τ : Se) (a1 : Int32) (a2 : Int32) (a3 : Int32) (r : Int32) (τ9 : Se) (hf : ss_lookAtGroup wh t τ a1 a2 a3 = some (r, τ9)) : Ci l D ca yX1_lookAtGroup wsX1_lookAtGroup { frames := 1, cells := 0, slots := 0, locals := 21 } [.ref h, .ref wh, .int a1, .int a2, .int a3] (wLk ca h wh ar t τ) sz r (wLk ca h wh ar t τ9) := by
  refine body_of (cc := cX1_lookAtGroup) (maxL := 8) (ret := (some .boolean)) (fun A => Qi D ca r (wLk ca h wh ar t τ9) A) (by decide) rfl (Nat.le_of_ble_eq_true rfl) ?_
  intro p e s m below meth c A ls hx hb hr hml hts hown hlocks hA hK hP hD hS hl hN
  have hl : lv_has ls 8 [(0, .ref h), (1, .ref wh), (2, .int a1), (3, .int a2), (4, .int a3)] := hl
  have hret : ∀ (pc : Nat) (ls : Array Slot) (H : Heap) (locs : List Loc), decode cX1_lookAtGroup pc = .ok (.ireturn, 1) → narrow .boolean (.int r) = .int r → va_P D vwCl (wLk ca h wh ar t τ9) H → va_D A (wLk ca h wh ar t τ9) → va_S A s.heap H locs → W p l e { frames := 1, cells := 0, slots := 0, locals := 21 } s m ([.ref h, .ref wh, .int a1, .int a2, .int a3] : List Value).toArray below meth c H locs 0 0 (MQ below (Qi D ca r (wLk ca h wh ar t τ9) A) ([.ref h, .ref wh, .int a1, .int a2, .int a3] : List Value).toArray s 0 0 A) (F0 m pc ls [.int r]) := fun pc ls H locs hd hn hP hD hS => ret_z hx hb hr hn hlocks hK hP hD hS hd
  generalize MQ below (Qi D ca r (wLk ca h wh ar t τ9) A) ([.ref h, .ref wh, .int a1, .int a2, .int a3] : List Value).toArray s 0 0 A = Q at hret ⊢
  generalize ([.ref h, .ref wh, .int a1, .int a2, .int a3] : List Value).toArray = args at hts hret ⊢
  have f19 := hts (.fieldLink RX1 19 "RobinRow$Search" "comparisons" "I") (by decide +kernel)
  have f50 := hts (.fieldLink RX1 50 "RobinRow$Search" "slot" "I") (by decide +kernel)
  have f9 := hts (.fieldLink RX1 9 "RobinRow$Search" "table" "LRobinRow$Table;") (by decide +kernel)
  have in1 : ∀ w ∈ u_ws RX1 TX1 4, w ∈ wsX1_lookAtGroup := by decide +kernel
  have J6 : ∀ (n6 : Nat) (H : Heap) (locs : List Loc) (ls : Array Slot) (τ : Se) (l2 : Int32) (l3 : Int32) (l4 : Int32) (l5 : Int32) (l6 : Int32), ss_lookAtGroup_lp6 wh t  n6 τ l2 l3 l4 l5 l6 = some (r, τ9) → va_P D vwCl (wLk ca h wh ar t τ) H → va_D A (wLk ca h wh ar t τ) → va_S A s.heap H locs → lv_has ls 8 [(0, .ref h), (1, .ref wh), (2, .int l2), (3, .int l3), (4, .int l4), (5, .int l5), (6, .int l6)] → W p l e { frames := 1, cells := 0, slots := 0, locals := 21 } s m args below meth c H locs 0 0 Q (F0 m 6 ls []) := by
    intro n6
    induction n6 with
    | zero =>
      intro H locs ls τ l2 l3 l4 l5 l6 hf hP hD hS hl
      exact absurd hf (fun h => by cases h)
    | succ n6 ih6 =>
      have J93 : ∀ (H : Heap) (locs : List Loc) (ls : Array Slot) (τ : Se) (l2 : Int32) (l3 : Int32) (l4 : Int32) (l5 : Int32) (l6 : Int32), ss_lookAtGroup_93 wh t (ss_lookAtGroup_lp6 wh t  n6) τ l2 l3 l4 l5 l6 = some (r, τ9) → va_P D vwCl (wLk ca h wh ar t τ) H → va_D A (wLk ca h wh ar t τ) → va_S A s.heap H locs → lv_has ls 8 [(0, .ref h), (1, .ref wh), (2, .int l2), (3, .int l3), (4, .int l4), (5, .int l5), (6, .int l6)] → W p l e { frames := 1, cells := 0, slots := 0, locals := 21 } s m args below meth c H locs 0 0 Q (F0 m 93 ls []) := by
        intro H locs ls τ l2 l3 l4 l5 l6 hf hP hD hS hl
        unfold ss_lookAtGroup_93 at hf
        obtain ⟨v17, ev17, hf⟩ := nm_ob hf
        refine lv_iinc (v := v17) (lv' := [(6, .int v17), (0, .ref h), (1, .ref wh), (2, .int l2), (3, .int l3), (4, .int l4), (5, .int l5)]) hx hb dX1_lookAtGroup_93 hl (k := 6) rfl (by rw [← ev17]; rfl) (by decide) rfl (fun ls hl => ?_)
        refine lv_goto (tgt := 6) hx hb dX1_lookAtGroup_96 (by decide) ?_
        exact ih6 _ _ _ _ _ _ _ _ _ hf hP hD hS (lv_sub hl [1, 2, 3, 4, 5, 6, 0] rfl)
      have J49 : ∀ (H : Heap) (locs : List Loc) (ls : Array Slot) (τ : Se) (l2 : Int32) (l3 : Int32) (l4 : Int32) (l6 : Int32) (l7 : Int32) (t0 : Int32), ss_lookAtGroup_49 wh t (ss_lookAtGroup_lp6 wh t  n6) τ l2 l3 l4 l6 l7 t0 = some (r, τ9) → va_P D vwCl (wLk ca h wh ar t τ) H → va_D A (wLk ca h wh ar t τ) → va_S A s.heap H locs → lv_has ls 8 [(0, .ref h), (1, .ref wh), (2, .int l2), (3, .int l3), (4, .int l4), (6, .int l6), (7, .int l7)] → W p l e { frames := 1, cells := 0, slots := 0, locals := 21 } s m args below meth c H locs 0 0 Q (F0 m 49 ls [.int t0]) := by
        intro H locs ls τ l2 l3 l4 l6 l7 t0 hf hP hD hS hl
        unfold ss_lookAtGroup_49 at hf
        refine lv_istore (lv' := [(5, .int t0), (0, .ref h), (1, .ref wh), (2, .int l2), (3, .int l3), (4, .int l4), (6, .int l6), (7, .int l7)]) hx hb dX1_lookAtGroup_49 hl (by decide) rfl (fun ls hl => ?_)
        refine lv_aload_n hx hb dX1_lookAtGroup_51 rfl (lv_at hl 2 rfl) ?_
        refine lv_iload hx hb dX1_lookAtGroup_52 (lv_at hl 7 rfl) ?_
        obtain ⟨v10, ev10, hf⟩ := bd_ob hf
        refine call_i (As := [.int l7]) (rest := []) ⟨hx, hb, hml, hown, hts⟩ (tX3_controlIn l D ca wh ar _ t l7 v10 ev10) (cwV 1 hts gX1_lookAtGroup_X3_controlIn rfl rfl rfl (by decide +kernel) ⟨Nat.le_of_ble_eq_true rfl, Nat.le_of_ble_eq_true rfl⟩) hN hK hP hD hA hS (fr_LT ca h wh ar t _) rfl rfl rfl hl.1 rfl (lv_room (Nat.le_of_ble_eq_true rfl)) dX1_lookAtGroup_54 ⟨Nat.le_refl _, Nat.le_refl _⟩ (fun H locs hP hD hS => ?_)
        refine lv_iload hx hb dX1_lookAtGroup_57 (lv_at hl 5 rfl) ?_
        refine lv_icmp_ne (tgt := 93) hx hb dX1_lookAtGroup_59 (by decide) (fun c11 => ?_) (fun c11 => ?_)
        · replace hf := it_n c11 hf
          exact J93 _ _ _ _ _ _ _ _ _ hf hP hD hS (lv_sub hl [1, 2, 3, 4, 5, 0, 6] rfl)
        · replace hf := it_p c11 hf
          refine lv_aload_n hx hb dX1_lookAtGroup_62 rfl (lv_at hl 1 rfl) ?_
          refine lv_dup hx hb dX1_lookAtGroup_63 rfl ?_
          refine va_get (D := D) (ci := 1) (v := .int (se_comps τ)) (C := RX1) (T := TX1) (N := 4) hx hb hts in1 hown hK hP 0 rfl rfl 3 (by decide) f19 (fun _ h9 => h9) rfl dX1_lookAtGroup_64 ?_
          refine lv_iconst (v := 1) hx hb dX1_lookAtGroup_67 (by decide) ?_
          refine lv_iadd hx hb dX1_lookAtGroup_68 ?_
          obtain ⟨s12, es12, hf⟩ := nm_ob hf
          refine va_put (D := D) (ci := 1) (v := .int ((se_comps τ) + 1)) (ty := .int) (C := RX1) (T := TX1) (N := 4) hx hb hts in1 tyX1 tyX1_ok nmX1 hown hK hP hD hS 0 rfl rfl 3 (by decide) f19 (fun _ h9 => h9) rfl (by decide +kernel) rfl rfl (Nat.le_of_ble_eq_true rfl) dX1_lookAtGroup_69 (fun H locs hP hD hS => ?_)
          have hP : va_P D vwCl (wLk ca h wh ar t s12) H := by rw [← es12]; exact hP
          have hD : va_D A (wLk ca h wh ar t s12) := by rw [← es12]; exact hD
          refine lv_aload_n hx hb dX1_lookAtGroup_72 rfl (lv_at hl 2 rfl) ?_
          refine lv_iload hx hb dX1_lookAtGroup_73 (lv_at hl 7 rfl) ?_
          obtain ⟨v13, ev13, hf⟩ := bd_ob hf
          refine call_i (As := [.int l7]) (rest := []) ⟨hx, hb, hml, hown, hts⟩ (tX3_keyIn l D ca wh ar _ t l7 v13 ev13) (cwV 1 hts gX1_lookAtGroup_X3_keyIn rfl rfl rfl (by decide +kernel) ⟨Nat.le_of_ble_eq_true rfl, Nat.le_of_ble_eq_true rfl⟩) hN hK hP hD hA hS (fr_LT ca h wh ar t _) rfl rfl rfl hl.1 rfl (lv_room (Nat.le_of_ble_eq_true rfl)) dX1_lookAtGroup_75 ⟨Nat.le_refl _, Nat.le_refl _⟩ (fun H locs hP hD hS => ?_)
          refine lv_iload_n hx hb dX1_lookAtGroup_78 rfl (lv_at hl 4 rfl) ?_
          refine lv_icmp_ne (tgt := 93) hx hb dX1_lookAtGroup_79 (by decide) (fun c14 => ?_) (fun c14 => ?_)
          · replace hf := it_n c14 hf
            exact J93 _ _ _ _ _ _ _ _ _ hf hP hD hS (lv_sub hl [1, 2, 3, 4, 5, 0, 6] rfl)
          · replace hf := it_p c14 hf
            refine lv_aload_n hx hb dX1_lookAtGroup_82 rfl (lv_at hl 1 rfl) ?_
            refine lv_aload_n hx hb dX1_lookAtGroup_83 rfl (lv_at hl 2 rfl) ?_
            obtain ⟨s15, es15, hf⟩ := nm_ob hf
            refine va_put (D := D) (ci := 1) (v := .ref wh) (ty := (.object "RobinRow$Table")) (C := RX1) (T := TX1) (N := 4) hx hb hts in1 tyX1 tyX1_ok nmX1 hown hK hP hD hS 0 rfl rfl 0 (by decide) f9 (fun _ h9 => h9) rfl (by decide +kernel) rfl rfl (Nat.le_of_ble_eq_true rfl) dX1_lookAtGroup_84 (fun H locs hP hD hS => ?_)
            have hP : va_P D vwCl (wLk ca h wh ar t s15) H := by rw [← es15]; exact hP
            have hD : va_D A (wLk ca h wh ar t s15) := by rw [← es15]; exact hD
            refine lv_aload_n hx hb dX1_lookAtGroup_87 rfl (lv_at hl 1 rfl) ?_
            refine lv_iload hx hb dX1_lookAtGroup_88 (lv_at hl 7 rfl) ?_
            obtain ⟨s16, es16, hf⟩ := nm_ob hf
            refine va_put (D := D) (ci := 1) (v := .int l7) (ty := .int) (C := RX1) (T := TX1) (N := 4) hx hb hts in1 tyX1 tyX1_ok nmX1 hown hK hP hD hS 0 rfl rfl 1 (by decide) f50 (fun _ h9 => h9) rfl (by decide +kernel) rfl rfl (Nat.le_of_ble_eq_true rfl) dX1_lookAtGroup_90 (fun H locs hP hD hS => ?_)
            have hP : va_P D vwCl (wLk ca h wh ar t s16) H := by rw [← es16]; exact hP
            have hD : va_D A (wLk ca h wh ar t s16) := by rw [← es16]; exact hD
            exact J93 _ _ _ _ _ _ _ _ _ hf hP hD hS (lv_sub hl [1, 2, 3, 4, 5, 0, 6] rfl)
      intro H locs ls τ l2 l3 l4 l5 l6 hf hP hD hS hl
      replace hf : ss_lookAtGroup_6 wh t  (ss_lookAtGroup_lp6 wh t  n6) τ l2 l3 l4 l5 l6 = some (r, τ9) := hf
      unfold ss_lookAtGroup_6 at hf
      refine lv_iload hx hb dX1_lookAtGroup_6 (lv_at hl 6 rfl) ?_
      refine lv_bipush (v := 8) hx hb dX1_lookAtGroup_8 (by decide) ?_
      refine lv_icmp_ge (tgt := 99) hx hb dX1_lookAtGroup_10 (by decide) (fun c1 => ?_) (fun c1 => ?_)
      · replace hf := it_p c1 hf
        refine lv_iload hx hb dX1_lookAtGroup_99 (lv_at hl 5 rfl) ?_
        obtain ⟨g2, hf⟩ := gn_ob hf
        obtain ⟨rfl, rfl⟩ := so2 hf
        exact hret _ _ _ _ dX1_lookAtGroup_101 (nr_z g2) hP hD hS
      · replace hf := it_n c1 hf
        refine lv_aload_n hx hb dX1_lookAtGroup_13 rfl (lv_at hl 0 rfl) ?_
        obtain ⟨v3, ev3, hf⟩ := bd_ob hf
        refine call_i (As := []) (rest := []) ⟨hx, hb, hml, hown, hts⟩ (tX1_hasFound l D ca h _ τ v3 ev3) (cwV 0 hts gX1_lookAtGroup_X1_hasFound rfl rfl rfl (by decide +kernel) ⟨Nat.le_of_ble_eq_true rfl, Nat.le_of_ble_eq_true rfl⟩) hN hK hP hD hA hS (fr_LS ca h wh ar t _ _) rfl rfl rfl hl.1 rfl (lv_room (Nat.le_of_ble_eq_true rfl)) dX1_lookAtGroup_14 ⟨Nat.le_refl _, Nat.le_refl _⟩ (fun H locs hP hD hS => ?_)
        refine lv_if_ne (tgt := 99) hx hb dX1_lookAtGroup_17 (by decide) (fun c4 => ?_) (fun c4 => ?_)
        · replace hf := it_n c4 hf
          refine lv_iload hx hb dX1_lookAtGroup_99 (lv_at hl 5 rfl) ?_
          obtain ⟨g5, hf⟩ := gn_ob hf
          obtain ⟨rfl, rfl⟩ := so2 hf
          exact hret _ _ _ _ dX1_lookAtGroup_101 (nr_z g5) hP hD hS
        · replace hf := it_p c4 hf
          refine lv_aload_n hx hb dX1_lookAtGroup_20 rfl (lv_at hl 1 rfl) ?_
          refine lv_iload_n hx hb dX1_lookAtGroup_21 rfl (lv_at hl 2 rfl) ?_
          refine lv_iload hx hb dX1_lookAtGroup_22 (lv_at hl 6 rfl) ?_
          refine lv_iadd hx hb dX1_lookAtGroup_24 ?_
          obtain ⟨v6, ev6, hf⟩ := bd_ob hf
          refine call_i (As := [.int (l2 + l6)]) (rest := []) ⟨hx, hb, hml, hown, hts⟩ (tX3_around l D ca wh ar _ t (l2 + l6) v6 ev6) (cwV 1 hts gX1_lookAtGroup_X3_around rfl rfl rfl (by decide +kernel) ⟨Nat.le_of_ble_eq_true rfl, Nat.le_of_ble_eq_true rfl⟩) hN hK hP hD hA hS (fr_LT ca h wh ar t _) rfl rfl rfl hl.1 rfl (lv_room (Nat.le_of_ble_eq_true rfl)) dX1_lookAtGroup_25 ⟨Nat.le_refl _, Nat.le_refl _⟩ (fun H locs hP hD hS => ?_)
          refine lv_istore (lv' := [(7, .int v6), (0, .ref h), (1, .ref wh), (2, .int l2), (3, .int l3), (4, .int l4), (5, .int l5), (6, .int l6)]) hx hb dX1_lookAtGroup_28 hl (by decide) rfl (fun ls hl => ?_)
          refine lv_iload hx hb dX1_lookAtGroup_30 (lv_at hl 6 rfl) ?_
          refine lv_if_ne (tgt := 44) hx hb dX1_lookAtGroup_32 (by decide) (fun c7 => ?_) (fun c7 => ?_)
          · replace hf := it_n c7 hf
            refine lv_iconst (v := 1) hx hb dX1_lookAtGroup_44 (by decide) ?_
            refine lv_goto (tgt := 49) hx hb dX1_lookAtGroup_45 (by decide) ?_
            exact J49 _ _ _ _ _ _ _ _ _ _ hf hP hD hS (lv_sub hl [1, 2, 3, 4, 5, 7, 0] rfl)
          · replace hf := it_p c7 hf
            refine lv_aload_n hx hb dX1_lookAtGroup_35 rfl (lv_at hl 2 rfl) ?_
            refine lv_iload hx hb dX1_lookAtGroup_36 (lv_at hl 0 rfl) ?_
            obtain ⟨v8, ev8, hf⟩ := bd_ob hf
            refine call_i (As := [.int v6]) (rest := []) ⟨hx, hb, hml, hown, hts⟩ (tX3_isEmptyIn l D ca wh ar _ t v6 v8 ev8) (cwV 1 hts gX1_lookAtGroup_X3_isEmptyIn rfl rfl rfl (by decide +kernel) ⟨Nat.le_of_ble_eq_true rfl, Nat.le_of_ble_eq_true rfl⟩) hN hK hP hD hA hS (fr_LT ca h wh ar t _) rfl rfl rfl hl.1 rfl (lv_room (Nat.le_of_ble_eq_true rfl)) dX1_lookAtGroup_38 ⟨Nat.le_refl _, Nat.le_refl _⟩ (fun H locs hP hD hS => ?_)
            refine lv_if_eq (tgt := 48) hx hb dX1_lookAtGroup_41 (by decide) (fun c9 => ?_) (fun c9 => ?_)
            · replace hf := it_p c9 hf
              refine lv_iconst (v := 0) hx hb dX1_lookAtGroup_48 (by decide) ?_
              exact J49 _ _ _ _ _ _ _ _ _ _ hf hP hD hS (lv_sub hl [1, 2, 3, 4, 5, 7, 0] rfl)
            · replace hf := it_n c9 hf
              refine lv_iconst (v := 1) hx hb dX1_lookAtGroup_44 (by decide) ?_
              refine lv_goto (tgt := 49) hx hb dX1_lookAtGroup_45 (by decide) ?_
              exact J49 _ _ _ _ _ _ _ _ _ _ hf hP hD hS (lv_sub hl [1, 2, 3, 4, 5, 7, 0] rfl)
  unfold ss_lookAtGroup at hf
  refine lv_iconst (v := 0) hx hb dX1_lookAtGroup_0 (by decide) ?_
  refine lv_istore (lv' := [(5, .int 0), (0, .ref h), (1, .ref wh), (2, .int a1), (3, .int a2), (4, .int a3)]) hx hb dX1_lookAtGroup_1 hl (by decide) rfl (fun ls hl => ?_)
  refine lv_iconst (v := 0) hx hb dX1_lookAtGroup_3 (by decide) ?_
  refine lv_istore (lv' := [(6, .int 0), (5, .int 0), (0, .ref h), (1, .ref wh), (2, .int a1), (3, .int a2), (4, .int a3)]) hx hb dX1_lookAtGroup_4 hl (by decide) rfl (fun ls hl => ?_)
  exact J6 FU _ _ _ _ _ _ _ _ _ hf hP hD hS (lv_sub hl [2, 3, 4, 5, 6, 1, 0] rfl)

def ss_lookIn_63 (wh : Nat) (t : Tb) (k6 : Se → Int32 → Int32 → Int32 → Int32 → Option Se) (τ : Se) (l2 : Int32) (l3 : Int32) (l5 : Int32) (t0 : Int32) : Option Se :=
  nm (l5 + 8) fun v9 =>
  k6 τ l2 l3 t0 v9
def ss_lookIn_6 (wh : Nat) (t : Tb) (k6 : Se → Int32 → Int32 → Int32 → Int32 → Option Se) (τ : Se) (l2 : Int32) (l3 : Int32) (l4 : Int32) (l5 : Int32) : Option Se :=
  if (tb_sl t) ≤ l5 then
    some τ
  else
    if l4 = 0 then
      nm (se_groups' τ ((se_groups τ) + 1)) fun s3 =>
      bd2 (ss_lookAtGroup wh t s3 (l3 + l5) l2 (ushr l3 25)) fun v4 s5 =>
      if v4 = 0 then
        bd (ss_hasFound s5) fun v7 =>
        if v7 = 0 then
          ss_lookIn_63 wh t k6 s5 l2 l3 l5 0
        else
          ss_lookIn_63 wh t k6 s5 l2 l3 l5 1
      else
        ss_lookIn_63 wh t k6 s5 l2 l3 l5 1
    else
      some τ
def ss_lookIn_lp6 (wh : Nat) (t : Tb)  : Nat → Se → Int32 → Int32 → Int32 → Int32 → Option Se := itF (fun _ _ _ _ _ => none) (fun k => ss_lookIn_6 wh t  k)
def ss_lookIn (wh : Nat) (t : Tb) (τ : Se) (a1 : Int32) (a2 : Int32) : Option Se :=
  ss_lookIn_lp6 wh t FU τ a1 a2 0 0
set_option maxHeartbeats 4000000 in
set_option maxRecDepth 100000 in
theorem tX1_lookIn (l : Launch) (D : va_G) (ca : Nat → ClassId) (h : Nat) (ar : Nat → Nat) (sz : Nat) (wh : Nat) (t : Tb) (τ : Se) (a1 : Int32) (a2 : Int32) (τ9 : Se) (hf : ss_lookIn wh t τ a1 a2 = some τ9) : Cv l D ca yX1_lookIn wsX1_lookIn { frames := 2, cells := 0, slots := 0, locals := 48 } [.ref h, .ref wh, .int a1, .int a2] (wLk ca h wh ar t τ) sz (wLk ca h wh ar t τ9) := by
  refine body_of (cc := cX1_lookIn) (maxL := 7) (ret := none) (fun A => Qv D ca (wLk ca h wh ar t τ9) A) (by decide) rfl (Nat.le_of_ble_eq_true rfl) ?_
  intro p e s m below meth c A ls hx hb hr hml hts hown hlocks hA hK hP hD hS hl hN
  have hl : lv_has ls 7 [(0, .ref h), (1, .ref wh), (2, .int a1), (3, .int a2)] := hl
  have hret : ∀ (pc : Nat) (ls : Array Slot) (H : Heap) (locs : List Loc), decode cX1_lookIn pc = .ok (.return_, 1) → va_P D vwCl (wLk ca h wh ar t τ9) H → va_D A (wLk ca h wh ar t τ9) → va_S A s.heap H locs → W p l e { frames := 2, cells := 0, slots := 0, locals := 48 } s m ([.ref h, .ref wh, .int a1, .int a2] : List Value).toArray below meth c H locs 0 0 (MQ below (Qv D ca (wLk ca h wh ar t τ9) A) ([.ref h, .ref wh, .int a1, .int a2] : List Value).toArray s 0 0 A) (F0 m pc ls []) := fun pc ls H locs hd hP hD hS => ret_v hx hb hr hlocks hK hP hD hS hd
  generalize MQ below (Qv D ca (wLk ca h wh ar t τ9) A) ([.ref h, .ref wh, .int a1, .int a2] : List Value).toArray s 0 0 A = Q at hret ⊢
  generalize ([.ref h, .ref wh, .int a1, .int a2] : List Value).toArray = args at hts hret ⊢
  have f15 := hts (.fieldLink RX1 15 "RobinRow$Search" "groups" "I") (by decide +kernel)
  have f22 : (Cond.fieldLinkNest RX1 22 "RobinRow$Table" "slots" "I" RX4).before args s = true := va_Nw.use rfl (hN.1 (RX1, 22, "RobinRow$Table", "slots", "I") (by decide +kernel))
  have in1 : ∀ w ∈ u_ws RX1 TX1 4, w ∈ wsX1_lookIn := by decide +kernel
  have in3 : ∀ w ∈ u_ws RX3 TX3 6, w ∈ wsX1_lookIn := by decide +kernel
  have J6 : ∀ (n6 : Nat) (H : Heap) (locs : List Loc) (ls : Array Slot) (τ : Se) (l2 : Int32) (l3 : Int32) (l4 : Int32) (l5 : Int32), ss_lookIn_lp6 wh t  n6 τ l2 l3 l4 l5 = some τ9 → va_P D vwCl (wLk ca h wh ar t τ) H → va_D A (wLk ca h wh ar t τ) → va_S A s.heap H locs → lv_has ls 7 [(0, .ref h), (1, .ref wh), (2, .int l2), (3, .int l3), (4, .int l4), (5, .int l5)] → W p l e { frames := 2, cells := 0, slots := 0, locals := 48 } s m args below meth c H locs 0 0 Q (F0 m 6 ls []) := by
    intro n6
    induction n6 with
    | zero =>
      intro H locs ls τ l2 l3 l4 l5 hf hP hD hS hl
      exact absurd hf (fun h => by cases h)
    | succ n6 ih6 =>
      have J63 : ∀ (H : Heap) (locs : List Loc) (ls : Array Slot) (τ : Se) (l2 : Int32) (l3 : Int32) (l5 : Int32) (t0 : Int32), ss_lookIn_63 wh t (ss_lookIn_lp6 wh t  n6) τ l2 l3 l5 t0 = some τ9 → va_P D vwCl (wLk ca h wh ar t τ) H → va_D A (wLk ca h wh ar t τ) → va_S A s.heap H locs → lv_has ls 7 [(0, .ref h), (1, .ref wh), (2, .int l2), (3, .int l3), (5, .int l5)] → W p l e { frames := 2, cells := 0, slots := 0, locals := 48 } s m args below meth c H locs 0 0 Q (F0 m 63 ls [.int t0]) := by
        intro H locs ls τ l2 l3 l5 t0 hf hP hD hS hl
        unfold ss_lookIn_63 at hf
        refine lv_istore (lv' := [(4, .int t0), (0, .ref h), (1, .ref wh), (2, .int l2), (3, .int l3), (5, .int l5)]) hx hb dX1_lookIn_63 hl (by decide) rfl (fun ls hl => ?_)
        obtain ⟨v9, ev9, hf⟩ := nm_ob hf
        refine lv_iinc (v := v9) (lv' := [(5, .int v9), (4, .int t0), (0, .ref h), (1, .ref wh), (2, .int l2), (3, .int l3)]) hx hb dX1_lookIn_65 hl (k := 5) rfl (by rw [← ev9]; rfl) (by decide) rfl (fun ls hl => ?_)
        refine lv_goto (tgt := 6) hx hb dX1_lookIn_68 (by decide) ?_
        exact ih6 _ _ _ _ _ _ _ _ hf hP hD hS (lv_sub hl [2, 3, 4, 5, 1, 0] rfl)
      intro H locs ls τ l2 l3 l4 l5 hf hP hD hS hl
      replace hf : ss_lookIn_6 wh t  (ss_lookIn_lp6 wh t  n6) τ l2 l3 l4 l5 = some τ9 := hf
      unfold ss_lookIn_6 at hf
      refine lv_iload hx hb dX1_lookIn_6 (lv_at hl 5 rfl) ?_
      refine lv_aload_n hx hb dX1_lookIn_8 rfl (lv_at hl 1 rfl) ?_
      refine va_getN (D := D) (ci := 3) (v := .int (tb_sl t)) (C := RX3) (T := TX3) (N := 6) hx hb hts in3 hown hK hP 1 rfl rfl 4 (by decide) f22 (fun _ h9 => h9) rfl dX1_lookIn_9 ?_
      refine lv_icmp_ge (tgt := 71) hx hb dX1_lookIn_12 (by decide) (fun c1 => ?_) (fun c1 => ?_)
      · replace hf := it_p c1 hf
        obtain rfl := so1 hf
        exact hret _ _ _ _ dX1_lookIn_71 hP hD hS
      · replace hf := it_n c1 hf
        refine lv_iload hx hb dX1_lookIn_15 (lv_at hl 4 rfl) ?_
        refine lv_if_ne (tgt := 71) hx hb dX1_lookIn_17 (by decide) (fun c2 => ?_) (fun c2 => ?_)
        · replace hf := it_n c2 hf
          obtain rfl := so1 hf
          exact hret _ _ _ _ dX1_lookIn_71 hP hD hS
        · replace hf := it_p c2 hf
          refine lv_aload_n hx hb dX1_lookIn_20 rfl (lv_at hl 0 rfl) ?_
          refine lv_dup hx hb dX1_lookIn_21 rfl ?_
          refine va_get (D := D) (ci := 1) (v := .int (se_groups τ)) (C := RX1) (T := TX1) (N := 4) hx hb hts in1 hown hK hP 0 rfl rfl 2 (by decide) f15 (fun _ h9 => h9) rfl dX1_lookIn_22 ?_
          refine lv_iconst (v := 1) hx hb dX1_lookIn_25 (by decide) ?_
          refine lv_iadd hx hb dX1_lookIn_26 ?_
          obtain ⟨s3, es3, hf⟩ := nm_ob hf
          refine va_put (D := D) (ci := 1) (v := .int ((se_groups τ) + 1)) (ty := .int) (C := RX1) (T := TX1) (N := 4) hx hb hts in1 tyX1 tyX1_ok nmX1 hown hK hP hD hS 0 rfl rfl 2 (by decide) f15 (fun _ h9 => h9) rfl (by decide +kernel) rfl rfl (Nat.le_of_ble_eq_true rfl) dX1_lookIn_27 (fun H locs hP hD hS => ?_)
          have hP : va_P D vwCl (wLk ca h wh ar t s3) H := by rw [← es3]; exact hP
          have hD : va_D A (wLk ca h wh ar t s3) := by rw [← es3]; exact hD
          refine lv_aload_n hx hb dX1_lookIn_30 rfl (lv_at hl 0 rfl) ?_
          refine lv_aload_n hx hb dX1_lookIn_31 rfl (lv_at hl 1 rfl) ?_
          refine lv_iload_n hx hb dX1_lookIn_32 rfl (lv_at hl 3 rfl) ?_
          refine lv_iload hx hb dX1_lookIn_33 (lv_at hl 5 rfl) ?_
          refine lv_iadd hx hb dX1_lookIn_35 ?_
          refine lv_iload_n hx hb dX1_lookIn_36 rfl (lv_at hl 2 rfl) ?_
          refine lv_iload_n hx hb dX1_lookIn_37 rfl (lv_at hl 3 rfl) ?_
          refine lv_bipush (v := 25) hx hb dX1_lookIn_38 (by decide) ?_
          refine lv_iushr (v := (ushr l3 25)) hx hb dX1_lookIn_40 rfl ?_
          obtain ⟨v4, s5, ev4, hf⟩ := bd2_ob hf
          refine call_i (As := [.ref wh, .int (l3 + l5), .int l2, .int (ushr l3 25)]) (rest := []) ⟨hx, hb, hml, hown, hts⟩ (tX1_lookAtGroup l D ca h ar _ wh t s3 (l3 + l5) l2 (ushr l3 25) v4 s5 ev4) (cwV 4 hts gX1_lookIn_X1_lookAtGroup rfl rfl rfl (by decide +kernel) ⟨Nat.le_of_ble_eq_true rfl, Nat.le_of_ble_eq_true rfl⟩) hN hK hP hD hA hS (fr_id _ _) rfl rfl rfl hl.1 rfl (lv_room (Nat.le_of_ble_eq_true rfl)) dX1_lookIn_41 ⟨Nat.le_refl _, Nat.le_refl _⟩ (fun H locs hP hD hS => ?_)
          refine lv_istore (lv' := [(6, .int v4), (0, .ref h), (1, .ref wh), (2, .int l2), (3, .int l3), (4, .int l4), (5, .int l5)]) hx hb dX1_lookIn_44 hl (by decide) rfl (fun ls hl => ?_)
          refine lv_iload hx hb dX1_lookIn_46 (lv_at hl 0 rfl) ?_
          refine lv_if_ne (tgt := 58) hx hb dX1_lookIn_48 (by decide) (fun c6 => ?_) (fun c6 => ?_)
          · replace hf := it_n c6 hf
            refine lv_iconst (v := 1) hx hb dX1_lookIn_58 (by decide) ?_
            refine lv_goto (tgt := 63) hx hb dX1_lookIn_59 (by decide) ?_
            exact J63 _ _ _ _ _ _ _ _ hf hP hD hS (lv_sub hl [1, 2, 3, 4, 6] rfl)
          · replace hf := it_p c6 hf
            refine lv_aload_n hx hb dX1_lookIn_51 rfl (lv_at hl 1 rfl) ?_
            obtain ⟨v7, ev7, hf⟩ := bd_ob hf
            refine call_i (As := []) (rest := []) ⟨hx, hb, hml, hown, hts⟩ (tX1_hasFound l D ca h _ s5 v7 ev7) (cwV 0 hts gX1_lookIn_X1_hasFound rfl rfl rfl (by decide +kernel) ⟨Nat.le_of_ble_eq_true rfl, Nat.le_of_ble_eq_true rfl⟩) hN hK hP hD hA hS (fr_LS ca h wh ar t _ _) rfl rfl rfl hl.1 rfl (lv_room (Nat.le_of_ble_eq_true rfl)) dX1_lookIn_52 ⟨Nat.le_refl _, Nat.le_refl _⟩ (fun H locs hP hD hS => ?_)
            refine lv_if_eq (tgt := 62) hx hb dX1_lookIn_55 (by decide) (fun c8 => ?_) (fun c8 => ?_)
            · replace hf := it_p c8 hf
              refine lv_iconst (v := 0) hx hb dX1_lookIn_62 (by decide) ?_
              exact J63 _ _ _ _ _ _ _ _ hf hP hD hS (lv_sub hl [1, 2, 3, 4, 6] rfl)
            · replace hf := it_n c8 hf
              refine lv_iconst (v := 1) hx hb dX1_lookIn_58 (by decide) ?_
              refine lv_goto (tgt := 63) hx hb dX1_lookIn_59 (by decide) ?_
              exact J63 _ _ _ _ _ _ _ _ hf hP hD hS (lv_sub hl [1, 2, 3, 4, 6] rfl)
  unfold ss_lookIn at hf
  refine lv_iconst (v := 0) hx hb dX1_lookIn_0 (by decide) ?_
  refine lv_istore (lv' := [(4, .int 0), (0, .ref h), (1, .ref wh), (2, .int a1), (3, .int a2)]) hx hb dX1_lookIn_1 hl (by decide) rfl (fun ls hl => ?_)
  refine lv_iconst (v := 0) hx hb dX1_lookIn_3 (by decide) ?_
  refine lv_istore (lv' := [(5, .int 0), (4, .int 0), (0, .ref h), (1, .ref wh), (2, .int a1), (3, .int a2)]) hx hb dX1_lookIn_4 hl (by decide) rfl (fun ls hl => ?_)
  exact J6 FU _ _ _ _ _ _ _ _ hf hP hD hS (lv_sub hl [2, 3, 4, 5, 1, 0] rfl)

def pp_sortByKeys_82 (t : Tb) (k4 : Pl → Int32 → Int32 → Option (Int32 × Pl)) (τ : Pl) (l2 : Int32) (l3 : Int32) : Option (Int32 × Pl) :=
  nm (l3 + 1) fun v4 =>
  k4 τ l2 v4
def pp_sortByKeys_71 (t : Tb) (k4 : Pl → Int32 → Int32 → Option (Int32 × Pl)) (τ : Pl) (l2 : Int32) (l3 : Int32) (l4 : Int32) : Option (Int32 × Pl) :=
  gd l4 256 <|
  nm (pl_rising' τ (upd (pl_rising τ) l4.toNatClampNeg l3)) fun s15 =>
  nm (l2 + 1) fun v16 =>
  pp_sortByKeys_82 t k4 s15 v16 l3
def pp_sortByKeys_23 (t : Tb) (k4 : Pl → Int32 → Int32 → Option (Int32 × Pl)) (k23 : Pl → Int32 → Int32 → Int32 → Option (Int32 × Pl)) (τ : Pl) (l2 : Int32) (l3 : Int32) (l4 : Int32) : Option (Int32 × Pl) :=
  if l4 ≤ 0 then
    pp_sortByKeys_71 t k4 τ l2 l3 l4
  else
    gd (l4 - 1) 256 <|
    bd (tt_keyIn t (pl_rising τ (l4 - 1).toNatClampNeg)) fun v7 =>
    bd (tt_keyIn t l3) fun v8 =>
    if v7 ≤ v8 then
      pp_sortByKeys_71 t k4 τ l2 l3 l4
    else
      gd (l4 - 1) 256 <|
      gd l4 256 <|
      nm (pl_rising' τ (upd (pl_rising τ) l4.toNatClampNeg (pl_rising τ (l4 - 1).toNatClampNeg))) fun s12 =>
      nm (l4 + (-1)) fun v13 =>
      k23 s12 l2 l3 v13
def pp_sortByKeys_lp23 (t : Tb) (k4 : Pl → Int32 → Int32 → Option (Int32 × Pl)) : Nat → Pl → Int32 → Int32 → Int32 → Option (Int32 × Pl) := itF (fun _ _ _ _ => none) (fun k => pp_sortByKeys_23 t k4 k)
def pp_sortByKeys_4 (t : Tb) (k4 : Pl → Int32 → Int32 → Option (Int32 × Pl)) (τ : Pl) (l2 : Int32) (l3 : Int32) : Option (Int32 × Pl) :=
  if (tb_sl t) ≤ l3 then
    some (l2, τ)
  else
    bd (tt_isEmptyIn t l3) fun v2 =>
    if v2 = 0 then
      pp_sortByKeys_lp23 t k4 FU τ l2 l3 l2
    else
      pp_sortByKeys_82 t k4 τ l2 l3
def pp_sortByKeys_lp4 (t : Tb)  : Nat → Pl → Int32 → Int32 → Option (Int32 × Pl) := itF (fun _ _ _ => none) (fun k => pp_sortByKeys_4 t  k)
def pp_sortByKeys (t : Tb) (τ : Pl)  : Option (Int32 × Pl) :=
  pp_sortByKeys_lp4 t FU τ 0 0
set_option maxHeartbeats 4000000 in
set_option maxRecDepth 100000 in
theorem tX0_sortByKeys (l : Launch) (D : va_G) (ca : Nat → ClassId) (h : Nat) (pr : Nat → Nat) (wh : Nat) (ar : Nat → Nat) (sz : Nat) (t : Tb) (τ : Pl)  (r : Int32) (τ9 : Pl) (hf : pp_sortByKeys t τ = some (r, τ9)) : Ci l D ca yX0_sortByKeys wsX0_sortByKeys { frames := 1, cells := 0, slots := 0, locals := 21 } [.ref h, .ref wh] (wPk ca h pr wh ar t τ) sz r (wPk ca h pr wh ar t τ9) := by
  refine body_of (cc := cX0_sortByKeys) (maxL := 5) (ret := (some .int)) (fun A => Qi D ca r (wPk ca h pr wh ar t τ9) A) (by decide) rfl (Nat.le_of_ble_eq_true rfl) ?_
  intro p e s m below meth c A ls hx hb hr hml hts hown hlocks hA hK hP hD hS hl hN
  have hl : lv_has ls 5 [(0, .ref h), (1, .ref wh)] := hl
  have hret : ∀ (pc : Nat) (ls : Array Slot) (H : Heap) (locs : List Loc), decode cX0_sortByKeys pc = .ok (.ireturn, 1) → va_P D vwCl (wPk ca h pr wh ar t τ9) H → va_D A (wPk ca h pr wh ar t τ9) → va_S A s.heap H locs → W p l e { frames := 1, cells := 0, slots := 0, locals := 21 } s m ([.ref h, .ref wh] : List Value).toArray below meth c H locs 0 0 (MQ below (Qi D ca r (wPk ca h pr wh ar t τ9) A) ([.ref h, .ref wh] : List Value).toArray s 0 0 A) (F0 m pc ls [.int r]) := fun pc ls H locs hd hP hD hS => ret_i hx hb hr hlocks hK hP hD hS hd
  generalize MQ below (Qi D ca r (wPk ca h pr wh ar t τ9) A) ([.ref h, .ref wh] : List Value).toArray s 0 0 A = Q at hret ⊢
  generalize ([.ref h, .ref wh] : List Value).toArray = args at hts hret ⊢
  have f46 : (Cond.fieldLinkNest RX0 46 "RobinRow$Table" "slots" "I" RX4).before args s = true := va_Nw.use rfl (hN.1 (RX0, 46, "RobinRow$Table", "slots", "I") (by decide +kernel))
  have f9 := hts (.fieldLink RX0 9 "RobinRow$PlainRow" "rising" "[I") (by decide +kernel)
  have in0 : ∀ w ∈ u_ws RX0 TX0 4, w ∈ wsX0_sortByKeys := by decide +kernel
  have in3 : ∀ w ∈ u_ws RX3 TX3 6, w ∈ wsX0_sortByKeys := by decide +kernel
  have J4 : ∀ (n4 : Nat) (H : Heap) (locs : List Loc) (ls : Array Slot) (τ : Pl) (l2 : Int32) (l3 : Int32), pp_sortByKeys_lp4 t  n4 τ l2 l3 = some (r, τ9) → va_P D vwCl (wPk ca h pr wh ar t τ) H → va_D A (wPk ca h pr wh ar t τ) → va_S A s.heap H locs → lv_has ls 5 [(0, .ref h), (1, .ref wh), (2, .int l2), (3, .int l3)] → W p l e { frames := 1, cells := 0, slots := 0, locals := 21 } s m args below meth c H locs 0 0 Q (F0 m 4 ls []) := by
    intro n4
    induction n4 with
    | zero =>
      intro H locs ls τ l2 l3 hf hP hD hS hl
      exact absurd hf (fun h => by cases h)
    | succ n4 ih4 =>
      have J82 : ∀ (H : Heap) (locs : List Loc) (ls : Array Slot) (τ : Pl) (l2 : Int32) (l3 : Int32), pp_sortByKeys_82 t (pp_sortByKeys_lp4 t  n4) τ l2 l3 = some (r, τ9) → va_P D vwCl (wPk ca h pr wh ar t τ) H → va_D A (wPk ca h pr wh ar t τ) → va_S A s.heap H locs → lv_has ls 5 [(0, .ref h), (1, .ref wh), (2, .int l2), (3, .int l3)] → W p l e { frames := 1, cells := 0, slots := 0, locals := 21 } s m args below meth c H locs 0 0 Q (F0 m 82 ls []) := by
        intro H locs ls τ l2 l3 hf hP hD hS hl
        unfold pp_sortByKeys_82 at hf
        obtain ⟨v4, ev4, hf⟩ := nm_ob hf
        refine lv_iinc (v := v4) (lv' := [(3, .int v4), (0, .ref h), (1, .ref wh), (2, .int l2)]) hx hb dX0_sortByKeys_82 hl (k := 3) rfl (by rw [← ev4]; rfl) (by decide) rfl (fun ls hl => ?_)
        refine lv_goto (tgt := 4) hx hb dX0_sortByKeys_85 (by decide) ?_
        exact ih4 _ _ _ _ _ _ hf hP hD hS (lv_sub hl [1, 2, 3, 0] rfl)
      have J71 : ∀ (H : Heap) (locs : List Loc) (ls : Array Slot) (τ : Pl) (l2 : Int32) (l3 : Int32) (l4 : Int32), pp_sortByKeys_71 t (pp_sortByKeys_lp4 t  n4) τ l2 l3 l4 = some (r, τ9) → va_P D vwCl (wPk ca h pr wh ar t τ) H → va_D A (wPk ca h pr wh ar t τ) → va_S A s.heap H locs → lv_has ls 5 [(0, .ref h), (1, .ref wh), (2, .int l2), (3, .int l3), (4, .int l4)] → W p l e { frames := 1, cells := 0, slots := 0, locals := 21 } s m args below meth c H locs 0 0 Q (F0 m 71 ls []) := by
        intro H locs ls τ l2 l3 l4 hf hP hD hS hl
        unfold pp_sortByKeys_71 at hf
        refine lv_aload_n hx hb dX0_sortByKeys_71 rfl (lv_at hl 0 rfl) ?_
        refine va_get (D := D) (ci := 0) (v := .ref (pr 0)) (C := RX0) (T := TX0) (N := 4) hx hb hts in0 hown hK hP 0 rfl rfl 0 (by decide) f9 (fun _ h9 => h9) rfl dX0_sortByKeys_72 ?_
        refine lv_iload hx hb dX0_sortByKeys_75 (lv_at hl 4 rfl) ?_
        refine lv_iload_n hx hb dX0_sortByKeys_77 rfl (lv_at hl 3 rfl) ?_
        obtain ⟨g14, hf⟩ := gd_ob hf
        obtain ⟨s15, es15, hf⟩ := nm_ob hf
        refine va_iast hx hb hK hP hD hS 1 0 rfl rfl g14 dX0_sortByKeys_78 (fun H locs hP hD hS => ?_)
        have hP : va_P D vwCl (wPk ca h pr wh ar t s15) H := by rw [← es15]; exact hP
        have hD : va_D A (wPk ca h pr wh ar t s15) := by rw [← es15]; exact hD
        obtain ⟨v16, ev16, hf⟩ := nm_ob hf
        refine lv_iinc (v := v16) (lv' := [(2, .int v16), (0, .ref h), (1, .ref wh), (3, .int l3), (4, .int l4)]) hx hb dX0_sortByKeys_79 hl (k := 2) rfl (by rw [← ev16]; rfl) (by decide) rfl (fun ls hl => ?_)
        exact J82 _ _ _ _ _ _ hf hP hD hS (lv_sub hl [1, 2, 0, 3] rfl)
      have J23 : ∀ (n23 : Nat) (H : Heap) (locs : List Loc) (ls : Array Slot) (τ : Pl) (l2 : Int32) (l3 : Int32) (l4 : Int32), pp_sortByKeys_lp23 t (pp_sortByKeys_lp4 t  n4) n23 τ l2 l3 l4 = some (r, τ9) → va_P D vwCl (wPk ca h pr wh ar t τ) H → va_D A (wPk ca h pr wh ar t τ) → va_S A s.heap H locs → lv_has ls 5 [(0, .ref h), (1, .ref wh), (2, .int l2), (3, .int l3), (4, .int l4)] → W p l e { frames := 1, cells := 0, slots := 0, locals := 21 } s m args below meth c H locs 0 0 Q (F0 m 23 ls []) := by
        intro n23
        induction n23 with
        | zero =>
          intro H locs ls τ l2 l3 l4 hf hP hD hS hl
          exact absurd hf (fun h => by cases h)
        | succ n23 ih23 =>
          intro H locs ls τ l2 l3 l4 hf hP hD hS hl
          replace hf : pp_sortByKeys_23 t (pp_sortByKeys_lp4 t  n4) (pp_sortByKeys_lp23 t (pp_sortByKeys_lp4 t  n4) n23) τ l2 l3 l4 = some (r, τ9) := hf
          unfold pp_sortByKeys_23 at hf
          refine lv_iload hx hb dX0_sortByKeys_23 (lv_at hl 4 rfl) ?_
          refine lv_if_le (tgt := 71) hx hb dX0_sortByKeys_25 (by decide) (fun c5 => ?_) (fun c5 => ?_)
          · replace hf := it_p c5 hf
            exact J71 _ _ _ _ _ _ _ hf hP hD hS (lv_sub hl [0, 1, 2, 3, 4] rfl)
          · replace hf := it_n c5 hf
            refine lv_aload_n hx hb dX0_sortByKeys_28 rfl (lv_at hl 1 rfl) ?_
            refine lv_aload_n hx hb dX0_sortByKeys_29 rfl (lv_at hl 0 rfl) ?_
            refine va_get (D := D) (ci := 0) (v := .ref (pr 0)) (C := RX0) (T := TX0) (N := 4) hx hb hts in0 hown hK hP 0 rfl rfl 0 (by decide) f9 (fun _ h9 => h9) rfl dX0_sortByKeys_30 ?_
            refine lv_iload hx hb dX0_sortByKeys_33 (lv_at hl 4 rfl) ?_
            refine lv_iconst (v := 1) hx hb dX0_sortByKeys_35 (by decide) ?_
            refine lv_isub hx hb dX0_sortByKeys_36 ?_
            obtain ⟨g6, hf⟩ := gd_ob hf
            refine va_iald hx hb hK hP 1 0 rfl rfl g6 dX0_sortByKeys_37 ?_
            obtain ⟨v7, ev7, hf⟩ := bd_ob hf
            refine call_i (As := [.int (pl_rising τ (l4 - 1).toNatClampNeg)]) (rest := []) ⟨hx, hb, hml, hown, hts⟩ (tX3_keyIn l D ca wh ar _ t (pl_rising τ (l4 - 1).toNatClampNeg) v7 ev7) (cwV 1 hts gX0_sortByKeys_X3_keyIn rfl rfl rfl (by decide +kernel) ⟨Nat.le_of_ble_eq_true rfl, Nat.le_of_ble_eq_true rfl⟩) hN hK hP hD hA hS (fr_PT ca h pr wh ar t _) rfl rfl rfl hl.1 rfl (lv_room (Nat.le_of_ble_eq_true rfl)) dX0_sortByKeys_38 ⟨Nat.le_refl _, Nat.le_refl _⟩ (fun H locs hP hD hS => ?_)
            refine lv_aload_n hx hb dX0_sortByKeys_41 rfl (lv_at hl 1 rfl) ?_
            refine lv_iload_n hx hb dX0_sortByKeys_42 rfl (lv_at hl 3 rfl) ?_
            obtain ⟨v8, ev8, hf⟩ := bd_ob hf
            refine call_i (As := [.int l3]) (rest := [.int v7]) ⟨hx, hb, hml, hown, hts⟩ (tX3_keyIn l D ca wh ar _ t l3 v8 ev8) (cwV 1 hts gX0_sortByKeys_X3_keyIn rfl rfl rfl (by decide +kernel) ⟨Nat.le_of_ble_eq_true rfl, Nat.le_of_ble_eq_true rfl⟩) hN hK hP hD hA hS (fr_PT ca h pr wh ar t _) rfl rfl rfl hl.1 rfl (lv_room (Nat.le_of_ble_eq_true rfl)) dX0_sortByKeys_43 ⟨Nat.le_refl _, Nat.le_refl _⟩ (fun H locs hP hD hS => ?_)
            refine lv_icmp_le (tgt := 71) hx hb dX0_sortByKeys_46 (by decide) (fun c9 => ?_) (fun c9 => ?_)
            · replace hf := it_p c9 hf
              exact J71 _ _ _ _ _ _ _ hf hP hD hS (lv_sub hl [0, 1, 2, 3, 4] rfl)
            · replace hf := it_n c9 hf
              refine lv_aload_n hx hb dX0_sortByKeys_49 rfl (lv_at hl 0 rfl) ?_
              refine va_get (D := D) (ci := 0) (v := .ref (pr 0)) (C := RX0) (T := TX0) (N := 4) hx hb hts in0 hown hK hP 0 rfl rfl 0 (by decide) f9 (fun _ h9 => h9) rfl dX0_sortByKeys_50 ?_
              refine lv_iload hx hb dX0_sortByKeys_53 (lv_at hl 4 rfl) ?_
              refine lv_aload_n hx hb dX0_sortByKeys_55 rfl (lv_at hl 0 rfl) ?_
              refine va_get (D := D) (ci := 0) (v := .ref (pr 0)) (C := RX0) (T := TX0) (N := 4) hx hb hts in0 hown hK hP 0 rfl rfl 0 (by decide) f9 (fun _ h9 => h9) rfl dX0_sortByKeys_56 ?_
              refine lv_iload hx hb dX0_sortByKeys_59 (lv_at hl 4 rfl) ?_
              refine lv_iconst (v := 1) hx hb dX0_sortByKeys_61 (by decide) ?_
              refine lv_isub hx hb dX0_sortByKeys_62 ?_
              obtain ⟨g10, hf⟩ := gd_ob hf
              refine va_iald hx hb hK hP 1 0 rfl rfl g10 dX0_sortByKeys_63 ?_
              obtain ⟨g11, hf⟩ := gd_ob hf
              obtain ⟨s12, es12, hf⟩ := nm_ob hf
              refine va_iast hx hb hK hP hD hS 1 0 rfl rfl g11 dX0_sortByKeys_64 (fun H locs hP hD hS => ?_)
              have hP : va_P D vwCl (wPk ca h pr wh ar t s12) H := by rw [← es12]; exact hP
              have hD : va_D A (wPk ca h pr wh ar t s12) := by rw [← es12]; exact hD
              obtain ⟨v13, ev13, hf⟩ := nm_ob hf
              refine lv_iinc (v := v13) (lv' := [(4, .int v13), (0, .ref h), (1, .ref wh), (2, .int l2), (3, .int l3)]) hx hb dX0_sortByKeys_65 hl (k := 4) rfl (by rw [← ev13]; rfl) (by decide) rfl (fun ls hl => ?_)
              refine lv_goto (tgt := 23) hx hb dX0_sortByKeys_68 (by decide) ?_
              exact ih23 _ _ _ _ _ _ _ hf hP hD hS (lv_sub hl [1, 2, 3, 4, 0] rfl)
      intro H locs ls τ l2 l3 hf hP hD hS hl
      replace hf : pp_sortByKeys_4 t  (pp_sortByKeys_lp4 t  n4) τ l2 l3 = some (r, τ9) := hf
      unfold pp_sortByKeys_4 at hf
      refine lv_iload_n hx hb dX0_sortByKeys_4 rfl (lv_at hl 3 rfl) ?_
      refine lv_aload_n hx hb dX0_sortByKeys_5 rfl (lv_at hl 1 rfl) ?_
      refine va_getN (D := D) (ci := 3) (v := .int (tb_sl t)) (C := RX3) (T := TX3) (N := 6) hx hb hts in3 hown hK hP 3 rfl rfl 4 (by decide) f46 (fun _ h9 => h9) rfl dX0_sortByKeys_6 ?_
      refine lv_icmp_ge (tgt := 88) hx hb dX0_sortByKeys_9 (by decide) (fun c1 => ?_) (fun c1 => ?_)
      · replace hf := it_p c1 hf
        refine lv_iload_n hx hb dX0_sortByKeys_88 rfl (lv_at hl 2 rfl) ?_
        obtain ⟨rfl, rfl⟩ := so2 hf
        exact hret _ _ _ _ dX0_sortByKeys_89 hP hD hS
      · replace hf := it_n c1 hf
        refine lv_aload_n hx hb dX0_sortByKeys_12 rfl (lv_at hl 1 rfl) ?_
        refine lv_iload_n hx hb dX0_sortByKeys_13 rfl (lv_at hl 3 rfl) ?_
        obtain ⟨v2, ev2, hf⟩ := bd_ob hf
        refine call_i (As := [.int l3]) (rest := []) ⟨hx, hb, hml, hown, hts⟩ (tX3_isEmptyIn l D ca wh ar _ t l3 v2 ev2) (cwV 1 hts gX0_sortByKeys_X3_isEmptyIn rfl rfl rfl (by decide +kernel) ⟨Nat.le_of_ble_eq_true rfl, Nat.le_of_ble_eq_true rfl⟩) hN hK hP hD hA hS (fr_PT ca h pr wh ar t _) rfl rfl rfl hl.1 rfl (lv_room (Nat.le_of_ble_eq_true rfl)) dX0_sortByKeys_14 ⟨Nat.le_refl _, Nat.le_refl _⟩ (fun H locs hP hD hS => ?_)
        refine lv_if_ne (tgt := 82) hx hb dX0_sortByKeys_17 (by decide) (fun c3 => ?_) (fun c3 => ?_)
        · replace hf := it_n c3 hf
          exact J82 _ _ _ _ _ _ hf hP hD hS (lv_sub hl [0, 1, 2, 3] rfl)
        · replace hf := it_p c3 hf
          refine lv_iload_n hx hb dX0_sortByKeys_20 rfl (lv_at hl 2 rfl) ?_
          refine lv_istore (lv' := [(4, .int l2), (0, .ref h), (1, .ref wh), (2, .int l2), (3, .int l3)]) hx hb dX0_sortByKeys_21 hl (by decide) rfl (fun ls hl => ?_)
          exact J23 FU _ _ _ _ _ _ _ hf hP hD hS (lv_sub hl [1, 2, 3, 4, 0] rfl)
  unfold pp_sortByKeys at hf
  refine lv_iconst (v := 0) hx hb dX0_sortByKeys_0 (by decide) ?_
  refine lv_istore_n (lv' := [(2, .int 0), (0, .ref h), (1, .ref wh)]) hx hb dX0_sortByKeys_1 rfl hl (by decide) rfl (fun ls hl => ?_)
  refine lv_iconst (v := 0) hx hb dX0_sortByKeys_2 (by decide) ?_
  refine lv_istore_n (lv' := [(3, .int 0), (2, .int 0), (0, .ref h), (1, .ref wh)]) hx hb dX0_sortByKeys_3 rfl hl (by decide) rfl (fun ls hl => ?_)
  exact J4 FU _ _ _ _ _ _ hf hP hD hS (lv_sub hl [2, 3, 1, 0] rfl)

def pp_takeFirstFree_31 (t : Tb)  (τ : Pl) (l2 : Int32) (l3 : Int32) : Option (Int32 × Pl) :=
  bd (tt_around t (l2 + l3)) fun v6 =>
  gd v6 256 <|
  nm (pl_taken' τ (upd (pl_taken τ) v6.toNatClampNeg 1)) fun s8 =>
  some (l3, s8)
def pp_takeFirstFree_2 (t : Tb) (k2 : Pl → Int32 → Int32 → Option (Int32 × Pl)) (τ : Pl) (l2 : Int32) (l3 : Int32) : Option (Int32 × Pl) :=
  if (tb_sl t) ≤ l3 then
    pp_takeFirstFree_31 t τ l2 l3
  else
    bd (tt_around t (l2 + l3)) fun v2 =>
    gd v2 256 <|
    if (pl_taken τ v2.toNatClampNeg) = 0 then
      pp_takeFirstFree_31 t τ l2 l3
    else
      nm (l3 + 1) fun v5 =>
      k2 τ l2 v5
def pp_takeFirstFree_lp2 (t : Tb)  : Nat → Pl → Int32 → Int32 → Option (Int32 × Pl) := itF (fun _ _ _ => none) (fun k => pp_takeFirstFree_2 t  k)
def pp_takeFirstFree (t : Tb) (τ : Pl) (a1 : Int32) : Option (Int32 × Pl) :=
  pp_takeFirstFree_lp2 t FU τ a1 0
set_option maxHeartbeats 4000000 in
set_option maxRecDepth 100000 in
theorem tX0_takeFirstFree (l : Launch) (D : va_G) (ca : Nat → ClassId) (h : Nat) (pr : Nat → Nat) (wh : Nat) (ar : Nat → Nat) (sz : Nat) (t : Tb) (τ : Pl) (a1 : Int32) (r : Int32) (τ9 : Pl) (hf : pp_takeFirstFree t τ a1 = some (r, τ9)) : Ci l D ca yX0_takeFirstFree wsX0_takeFirstFree { frames := 1, cells := 0, slots := 0, locals := 21 } [.ref h, .ref wh, .int a1] (wPk ca h pr wh ar t τ) sz r (wPk ca h pr wh ar t τ9) := by
  refine body_of (cc := cX0_takeFirstFree) (maxL := 4) (ret := (some .int)) (fun A => Qi D ca r (wPk ca h pr wh ar t τ9) A) (by decide) rfl (Nat.le_of_ble_eq_true rfl) ?_
  intro p e s m below meth c A ls hx hb hr hml hts hown hlocks hA hK hP hD hS hl hN
  have hl : lv_has ls 4 [(0, .ref h), (1, .ref wh), (2, .int a1)] := hl
  have hret : ∀ (pc : Nat) (ls : Array Slot) (H : Heap) (locs : List Loc), decode cX0_takeFirstFree pc = .ok (.ireturn, 1) → va_P D vwCl (wPk ca h pr wh ar t τ9) H → va_D A (wPk ca h pr wh ar t τ9) → va_S A s.heap H locs → W p l e { frames := 1, cells := 0, slots := 0, locals := 21 } s m ([.ref h, .ref wh, .int a1] : List Value).toArray below meth c H locs 0 0 (MQ below (Qi D ca r (wPk ca h pr wh ar t τ9) A) ([.ref h, .ref wh, .int a1] : List Value).toArray s 0 0 A) (F0 m pc ls [.int r]) := fun pc ls H locs hd hP hD hS => ret_i hx hb hr hlocks hK hP hD hS hd
  generalize MQ below (Qi D ca r (wPk ca h pr wh ar t τ9) A) ([.ref h, .ref wh, .int a1] : List Value).toArray s 0 0 A = Q at hret ⊢
  generalize ([.ref h, .ref wh, .int a1] : List Value).toArray = args at hts hret ⊢
  have f15 := hts (.fieldLink RX0 15 "RobinRow$PlainRow" "taken" "[Z") (by decide +kernel)
  have f46 : (Cond.fieldLinkNest RX0 46 "RobinRow$Table" "slots" "I" RX4).before args s = true := va_Nw.use rfl (hN.1 (RX0, 46, "RobinRow$Table", "slots", "I") (by decide +kernel))
  have in0 : ∀ w ∈ u_ws RX0 TX0 4, w ∈ wsX0_takeFirstFree := by decide +kernel
  have in3 : ∀ w ∈ u_ws RX3 TX3 6, w ∈ wsX0_takeFirstFree := by decide +kernel
  have J31 : ∀ (H : Heap) (locs : List Loc) (ls : Array Slot) (τ : Pl) (l2 : Int32) (l3 : Int32), pp_takeFirstFree_31 t  τ l2 l3 = some (r, τ9) → va_P D vwCl (wPk ca h pr wh ar t τ) H → va_D A (wPk ca h pr wh ar t τ) → va_S A s.heap H locs → lv_has ls 4 [(0, .ref h), (1, .ref wh), (2, .int l2), (3, .int l3)] → W p l e { frames := 1, cells := 0, slots := 0, locals := 21 } s m args below meth c H locs 0 0 Q (F0 m 31 ls []) := by
    intro H locs ls τ l2 l3 hf hP hD hS hl
    unfold pp_takeFirstFree_31 at hf
    refine lv_aload_n hx hb dX0_takeFirstFree_31 rfl (lv_at hl 0 rfl) ?_
    refine va_get (D := D) (ci := 0) (v := .ref (pr 1)) (C := RX0) (T := TX0) (N := 4) hx hb hts in0 hown hK hP 0 rfl rfl 1 (by decide) f15 (fun _ h9 => h9) rfl dX0_takeFirstFree_32 ?_
    refine lv_aload_n hx hb dX0_takeFirstFree_35 rfl (lv_at hl 1 rfl) ?_
    refine lv_iload_n hx hb dX0_takeFirstFree_36 rfl (lv_at hl 2 rfl) ?_
    refine lv_iload_n hx hb dX0_takeFirstFree_37 rfl (lv_at hl 3 rfl) ?_
    refine lv_iadd hx hb dX0_takeFirstFree_38 ?_
    obtain ⟨v6, ev6, hf⟩ := bd_ob hf
    refine call_i (As := [.int (l2 + l3)]) (rest := [.ref (pr 1)]) ⟨hx, hb, hml, hown, hts⟩ (tX3_around l D ca wh ar _ t (l2 + l3) v6 ev6) (cwV 1 hts gX0_takeFirstFree_X3_around rfl rfl rfl (by decide +kernel) ⟨Nat.le_of_ble_eq_true rfl, Nat.le_of_ble_eq_true rfl⟩) hN hK hP hD hA hS (fr_PT ca h pr wh ar t _) rfl rfl rfl hl.1 rfl (lv_room (Nat.le_of_ble_eq_true rfl)) dX0_takeFirstFree_39 ⟨Nat.le_refl _, Nat.le_refl _⟩ (fun H locs hP hD hS => ?_)
    refine lv_iconst (v := 1) hx hb dX0_takeFirstFree_42 (by decide) ?_
    obtain ⟨g7, hf⟩ := gd_ob hf
    obtain ⟨s8, es8, hf⟩ := nm_ob hf
    refine va_zast hx hb hK hP hD hS 2 2 rfl rfl g7 dX0_takeFirstFree_43 (fun H locs hP hD hS => ?_)
    have hP : va_P D vwCl (wPk ca h pr wh ar t s8) H := by rw [← es8]; exact hP
    have hD : va_D A (wPk ca h pr wh ar t s8) := by rw [← es8]; exact hD
    refine lv_iload_n hx hb dX0_takeFirstFree_44 rfl (lv_at hl 3 rfl) ?_
    obtain ⟨rfl, rfl⟩ := so2 hf
    exact hret _ _ _ _ dX0_takeFirstFree_45 hP hD hS
  have J2 : ∀ (n2 : Nat) (H : Heap) (locs : List Loc) (ls : Array Slot) (τ : Pl) (l2 : Int32) (l3 : Int32), pp_takeFirstFree_lp2 t  n2 τ l2 l3 = some (r, τ9) → va_P D vwCl (wPk ca h pr wh ar t τ) H → va_D A (wPk ca h pr wh ar t τ) → va_S A s.heap H locs → lv_has ls 4 [(0, .ref h), (1, .ref wh), (2, .int l2), (3, .int l3)] → W p l e { frames := 1, cells := 0, slots := 0, locals := 21 } s m args below meth c H locs 0 0 Q (F0 m 2 ls []) := by
    intro n2
    induction n2 with
    | zero =>
      intro H locs ls τ l2 l3 hf hP hD hS hl
      exact absurd hf (fun h => by cases h)
    | succ n2 ih2 =>
      intro H locs ls τ l2 l3 hf hP hD hS hl
      replace hf : pp_takeFirstFree_2 t  (pp_takeFirstFree_lp2 t  n2) τ l2 l3 = some (r, τ9) := hf
      unfold pp_takeFirstFree_2 at hf
      refine lv_iload_n hx hb dX0_takeFirstFree_2 rfl (lv_at hl 3 rfl) ?_
      refine lv_aload_n hx hb dX0_takeFirstFree_3 rfl (lv_at hl 1 rfl) ?_
      refine va_getN (D := D) (ci := 3) (v := .int (tb_sl t)) (C := RX3) (T := TX3) (N := 6) hx hb hts in3 hown hK hP 3 rfl rfl 4 (by decide) f46 (fun _ h9 => h9) rfl dX0_takeFirstFree_4 ?_
      refine lv_icmp_ge (tgt := 31) hx hb dX0_takeFirstFree_7 (by decide) (fun c1 => ?_) (fun c1 => ?_)
      · replace hf := it_p c1 hf
        exact J31 _ _ _ _ _ _ hf hP hD hS (lv_sub hl [0, 1, 2, 3] rfl)
      · replace hf := it_n c1 hf
        refine lv_aload_n hx hb dX0_takeFirstFree_10 rfl (lv_at hl 0 rfl) ?_
        refine va_get (D := D) (ci := 0) (v := .ref (pr 1)) (C := RX0) (T := TX0) (N := 4) hx hb hts in0 hown hK hP 0 rfl rfl 1 (by decide) f15 (fun _ h9 => h9) rfl dX0_takeFirstFree_11 ?_
        refine lv_aload_n hx hb dX0_takeFirstFree_14 rfl (lv_at hl 1 rfl) ?_
        refine lv_iload_n hx hb dX0_takeFirstFree_15 rfl (lv_at hl 2 rfl) ?_
        refine lv_iload_n hx hb dX0_takeFirstFree_16 rfl (lv_at hl 3 rfl) ?_
        refine lv_iadd hx hb dX0_takeFirstFree_17 ?_
        obtain ⟨v2, ev2, hf⟩ := bd_ob hf
        refine call_i (As := [.int (l2 + l3)]) (rest := [.ref (pr 1)]) ⟨hx, hb, hml, hown, hts⟩ (tX3_around l D ca wh ar _ t (l2 + l3) v2 ev2) (cwV 1 hts gX0_takeFirstFree_X3_around rfl rfl rfl (by decide +kernel) ⟨Nat.le_of_ble_eq_true rfl, Nat.le_of_ble_eq_true rfl⟩) hN hK hP hD hA hS (fr_PT ca h pr wh ar t _) rfl rfl rfl hl.1 rfl (lv_room (Nat.le_of_ble_eq_true rfl)) dX0_takeFirstFree_18 ⟨Nat.le_refl _, Nat.le_refl _⟩ (fun H locs hP hD hS => ?_)
        obtain ⟨g3, hf⟩ := gd_ob hf
        refine va_zald hx hb hK hP 2 2 rfl rfl g3 dX0_takeFirstFree_21 ?_
        refine lv_if_eq (tgt := 31) hx hb dX0_takeFirstFree_22 (by decide) (fun c4 => ?_) (fun c4 => ?_)
        · replace hf := it_p c4 hf
          exact J31 _ _ _ _ _ _ hf hP hD hS (lv_sub hl [0, 1, 2, 3] rfl)
        · replace hf := it_n c4 hf
          obtain ⟨v5, ev5, hf⟩ := nm_ob hf
          refine lv_iinc (v := v5) (lv' := [(3, .int v5), (0, .ref h), (1, .ref wh), (2, .int l2)]) hx hb dX0_takeFirstFree_25 hl (k := 3) rfl (by rw [← ev5]; rfl) (by decide) rfl (fun ls hl => ?_)
          refine lv_goto (tgt := 2) hx hb dX0_takeFirstFree_28 (by decide) ?_
          exact ih2 _ _ _ _ _ _ hf hP hD hS (lv_sub hl [1, 2, 3, 0] rfl)
  unfold pp_takeFirstFree at hf
  refine lv_iconst (v := 0) hx hb dX0_takeFirstFree_0 (by decide) ?_
  refine lv_istore_n (lv' := [(3, .int 0), (0, .ref h), (1, .ref wh), (2, .int a1)]) hx hb dX0_takeFirstFree_1 rfl hl (by decide) rfl (fun ls hl => ?_)
  exact J2 FU _ _ _ _ _ _ hf hP hD hS (lv_sub hl [1, 2, 3, 0] rfl)

def pp_fillFrom_40 (t : Tb) (k40 : Pl → Int32 → Int32 → Option Pl) (τ : Pl) (l2 : Int32) (l3 : Int32) : Option Pl :=
  if l2 ≤ l3 then
    some τ
  else
    gd l3 256 <|
    bd (tt_hashIn t (pl_rising τ l3.toNatClampNeg)) fun v11 =>
    bd2 (pp_takeFirstFree t τ v11) fun v12 s13 =>
    nm (pl_total' s13 ((pl_total s13) + v12)) fun s14 =>
    nm (pl_longest' s14 (if (pl_longest s14) < v12 then v12 else (pl_longest s14))) fun s15 =>
    nm (l3 + 1) fun v16 =>
    k40 s15 l2 v16
def pp_fillFrom_lp40 (t : Tb)  : Nat → Pl → Int32 → Int32 → Option Pl := itF (fun _ _ _ => none) (fun k => pp_fillFrom_40 t  k)
def pp_fillFrom_12 (t : Tb) (k12 : Pl → Int32 → Option Pl) (τ : Pl) (l2 : Int32) : Option Pl :=
  if 256 ≤ l2 then
    bd2 (pp_sortByKeys t τ) fun v4 s5 =>
    pp_fillFrom_lp40 t FU s5 v4 0
  else
    gd l2 256 <|
    nm (pl_taken' τ (upd (pl_taken τ) l2.toNatClampNeg 0)) fun s7 =>
    nm (l2 + 1) fun v8 =>
    k12 s7 v8
def pp_fillFrom_lp12 (t : Tb)  : Nat → Pl → Int32 → Option Pl := itF (fun _ _ => none) (fun k => pp_fillFrom_12 t  k)
def pp_fillFrom (t : Tb) (τ : Pl)  : Option Pl :=
  nm (pl_total' τ 0) fun s1 =>
  nm (pl_longest' s1 (-1)) fun s2 =>
  pp_fillFrom_lp12 t FU s2 0
set_option maxHeartbeats 4000000 in
set_option maxRecDepth 100000 in
theorem tX0_fillFrom (l : Launch) (D : va_G) (ca : Nat → ClassId) (h : Nat) (pr : Nat → Nat) (wh : Nat) (ar : Nat → Nat) (sz : Nat) (t : Tb) (τ : Pl)  (τ9 : Pl) (hf : pp_fillFrom t τ = some τ9) : Cv l D ca yX0_fillFrom wsX0_fillFrom { frames := 2, cells := 0, slots := 0, locals := 45 } [.ref h, .ref wh] (wPk ca h pr wh ar t τ) sz (wPk ca h pr wh ar t τ9) := by
  refine body_of (cc := cX0_fillFrom) (maxL := 5) (ret := none) (fun A => Qv D ca (wPk ca h pr wh ar t τ9) A) (by decide) rfl (Nat.le_of_ble_eq_true rfl) ?_
  intro p e s m below meth c A ls hx hb hr hml hts hown hlocks hA hK hP hD hS hl hN
  have hl : lv_has ls 5 [(0, .ref h), (1, .ref wh)] := hl
  have hret : ∀ (pc : Nat) (ls : Array Slot) (H : Heap) (locs : List Loc), decode cX0_fillFrom pc = .ok (.return_, 1) → va_P D vwCl (wPk ca h pr wh ar t τ9) H → va_D A (wPk ca h pr wh ar t τ9) → va_S A s.heap H locs → W p l e { frames := 2, cells := 0, slots := 0, locals := 45 } s m ([.ref h, .ref wh] : List Value).toArray below meth c H locs 0 0 (MQ below (Qv D ca (wPk ca h pr wh ar t τ9) A) ([.ref h, .ref wh] : List Value).toArray s 0 0 A) (F0 m pc ls []) := fun pc ls H locs hd hP hD hS => ret_v hx hb hr hlocks hK hP hD hS hd
  generalize MQ below (Qv D ca (wPk ca h pr wh ar t τ9) A) ([.ref h, .ref wh] : List Value).toArray s 0 0 A = Q at hret ⊢
  generalize ([.ref h, .ref wh] : List Value).toArray = args at hts hret ⊢
  have f15 := hts (.fieldLink RX0 15 "RobinRow$PlainRow" "taken" "[Z") (by decide +kernel)
  have f19 := hts (.fieldLink RX0 19 "RobinRow$PlainRow" "total" "I") (by decide +kernel)
  have f23 := hts (.fieldLink RX0 23 "RobinRow$PlainRow" "longest" "I") (by decide +kernel)
  have f9 := hts (.fieldLink RX0 9 "RobinRow$PlainRow" "rising" "[I") (by decide +kernel)
  have in0 : ∀ w ∈ u_ws RX0 TX0 4, w ∈ wsX0_fillFrom := by decide +kernel
  have J40 : ∀ (n40 : Nat) (H : Heap) (locs : List Loc) (ls : Array Slot) (τ : Pl) (l2 : Int32) (l3 : Int32), pp_fillFrom_lp40 t  n40 τ l2 l3 = some τ9 → va_P D vwCl (wPk ca h pr wh ar t τ) H → va_D A (wPk ca h pr wh ar t τ) → va_S A s.heap H locs → lv_has ls 5 [(0, .ref h), (1, .ref wh), (2, .int l2), (3, .int l3)] → W p l e { frames := 2, cells := 0, slots := 0, locals := 45 } s m args below meth c H locs 0 0 Q (F0 m 40 ls []) := by
    intro n40
    induction n40 with
    | zero =>
      intro H locs ls τ l2 l3 hf hP hD hS hl
      exact absurd hf (fun h => by cases h)
    | succ n40 ih40 =>
      intro H locs ls τ l2 l3 hf hP hD hS hl
      replace hf : pp_fillFrom_40 t  (pp_fillFrom_lp40 t  n40) τ l2 l3 = some τ9 := hf
      unfold pp_fillFrom_40 at hf
      refine lv_iload_n hx hb dX0_fillFrom_40 rfl (lv_at hl 3 rfl) ?_
      refine lv_iload_n hx hb dX0_fillFrom_41 rfl (lv_at hl 2 rfl) ?_
      refine lv_icmp_ge (tgt := 92) hx hb dX0_fillFrom_42 (by decide) (fun c9 => ?_) (fun c9 => ?_)
      · replace hf := it_p c9 hf
        obtain rfl := so1 hf
        exact hret _ _ _ _ dX0_fillFrom_92 hP hD hS
      · replace hf := it_n c9 hf
        refine lv_aload_n hx hb dX0_fillFrom_45 rfl (lv_at hl 0 rfl) ?_
        refine lv_aload_n hx hb dX0_fillFrom_46 rfl (lv_at hl 1 rfl) ?_
        refine lv_aload_n hx hb dX0_fillFrom_47 rfl (lv_at hl 1 rfl) ?_
        refine lv_aload_n hx hb dX0_fillFrom_48 rfl (lv_at hl 0 rfl) ?_
        refine va_get (D := D) (ci := 0) (v := .ref (pr 0)) (C := RX0) (T := TX0) (N := 4) hx hb hts in0 hown hK hP 0 rfl rfl 0 (by decide) f9 (fun _ h9 => h9) rfl dX0_fillFrom_49 ?_
        refine lv_iload_n hx hb dX0_fillFrom_52 rfl (lv_at hl 3 rfl) ?_
        obtain ⟨g10, hf⟩ := gd_ob hf
        refine va_iald hx hb hK hP 1 0 rfl rfl g10 dX0_fillFrom_53 ?_
        obtain ⟨v11, ev11, hf⟩ := bd_ob hf
        refine call_i (As := [.int (pl_rising τ l3.toNatClampNeg)]) (rest := [.ref wh, .ref h]) ⟨hx, hb, hml, hown, hts⟩ (tX3_hashIn l D ca wh ar _ t (pl_rising τ l3.toNatClampNeg) v11 ev11) (cwV 1 hts gX0_fillFrom_X3_hashIn rfl rfl rfl (by decide +kernel) ⟨Nat.le_of_ble_eq_true rfl, Nat.le_of_ble_eq_true rfl⟩) hN hK hP hD hA hS (fr_PT ca h pr wh ar t _) rfl rfl rfl hl.1 rfl (lv_room (Nat.le_of_ble_eq_true rfl)) dX0_fillFrom_54 ⟨Nat.le_refl _, Nat.le_refl _⟩ (fun H locs hP hD hS => ?_)
        obtain ⟨v12, s13, ev12, hf⟩ := bd2_ob hf
        refine call_i (As := [.ref wh, .int v11]) (rest := []) ⟨hx, hb, hml, hown, hts⟩ (tX0_takeFirstFree l D ca h pr wh ar _ t τ v11 v12 s13 ev12) (cwV 2 hts gX0_fillFrom_X0_takeFirstFree rfl rfl rfl (by decide +kernel) ⟨Nat.le_of_ble_eq_true rfl, Nat.le_of_ble_eq_true rfl⟩) hN hK hP hD hA hS (fr_id _ _) rfl rfl rfl hl.1 rfl (lv_room (Nat.le_of_ble_eq_true rfl)) dX0_fillFrom_57 ⟨Nat.le_refl _, Nat.le_refl _⟩ (fun H locs hP hD hS => ?_)
        refine lv_istore (lv' := [(4, .int v12), (0, .ref h), (1, .ref wh), (2, .int l2), (3, .int l3)]) hx hb dX0_fillFrom_60 hl (by decide) rfl (fun ls hl => ?_)
        refine lv_aload_n hx hb dX0_fillFrom_62 rfl (lv_at hl 1 rfl) ?_
        refine lv_dup hx hb dX0_fillFrom_63 rfl ?_
        refine va_get (D := D) (ci := 0) (v := .int (pl_total s13)) (C := RX0) (T := TX0) (N := 4) hx hb hts in0 hown hK hP 0 rfl rfl 2 (by decide) f19 (fun _ h9 => h9) rfl dX0_fillFrom_64 ?_
        refine lv_iload hx hb dX0_fillFrom_67 (lv_at hl 0 rfl) ?_
        refine lv_iadd hx hb dX0_fillFrom_69 ?_
        obtain ⟨s14, es14, hf⟩ := nm_ob hf
        refine va_put (D := D) (ci := 0) (v := .int ((pl_total s13) + v12)) (ty := .int) (C := RX0) (T := TX0) (N := 4) hx hb hts in0 tyX0 tyX0_ok nmX0 hown hK hP hD hS 0 rfl rfl 2 (by decide) f19 (fun _ h9 => h9) rfl (by decide +kernel) rfl rfl (Nat.le_of_ble_eq_true rfl) dX0_fillFrom_70 (fun H locs hP hD hS => ?_)
        have hP : va_P D vwCl (wPk ca h pr wh ar t s14) H := by rw [← es14]; exact hP
        have hD : va_D A (wPk ca h pr wh ar t s14) := by rw [← es14]; exact hD
        refine lv_aload_n hx hb dX0_fillFrom_73 rfl (lv_at hl 1 rfl) ?_
        refine lv_aload_n hx hb dX0_fillFrom_74 rfl (lv_at hl 1 rfl) ?_
        refine va_get (D := D) (ci := 0) (v := .int (pl_longest s14)) (C := RX0) (T := TX0) (N := 4) hx hb hts in0 hown hK hP 0 rfl rfl 3 (by decide) f23 (fun _ h9 => h9) rfl dX0_fillFrom_75 ?_
        refine lv_iload hx hb dX0_fillFrom_78 (lv_at hl 0 rfl) ?_
        refine va_mmax hx hb (hml.trans hl.1.symm) hown (hts (.methodLink RX0 40 Lib.Math.max.name) (by decide +kernel)) (hts (.static Lib.Math.max.name) (by decide +kernel)) (hts (.initialized "java/lang/Math") (by decide +kernel)) (hts (.code Lib.Math.max.name Lib.Math.max.code 2 (some .int)) (by decide +kernel)) (Nat.le_of_ble_eq_true rfl) (Nat.le_of_ble_eq_true rfl) (Nat.zero_le _) (Nat.zero_le _) dX0_fillFrom_80 ?_
        obtain ⟨s15, es15, hf⟩ := nm_ob hf
        refine va_put (D := D) (ci := 0) (v := .int (if (pl_longest s14) < v12 then v12 else (pl_longest s14))) (ty := .int) (C := RX0) (T := TX0) (N := 4) hx hb hts in0 tyX0 tyX0_ok nmX0 hown hK hP hD hS 0 rfl rfl 3 (by decide) f23 (fun _ h9 => h9) rfl (by decide +kernel) rfl rfl (Nat.le_of_ble_eq_true rfl) dX0_fillFrom_83 (fun H locs hP hD hS => ?_)
        have hP : va_P D vwCl (wPk ca h pr wh ar t s15) H := by rw [← es15]; exact hP
        have hD : va_D A (wPk ca h pr wh ar t s15) := by rw [← es15]; exact hD
        obtain ⟨v16, ev16, hf⟩ := nm_ob hf
        refine lv_iinc (v := v16) (lv' := [(3, .int v16), (4, .int v12), (0, .ref h), (1, .ref wh), (2, .int l2)]) hx hb dX0_fillFrom_86 hl (k := 4) rfl (by rw [← ev16]; rfl) (by decide) rfl (fun ls hl => ?_)
        refine lv_goto (tgt := 40) hx hb dX0_fillFrom_89 (by decide) ?_
        exact ih40 _ _ _ _ _ _ hf hP hD hS (lv_sub hl [2, 3, 4, 0] rfl)
  have J12 : ∀ (n12 : Nat) (H : Heap) (locs : List Loc) (ls : Array Slot) (τ : Pl) (l2 : Int32), pp_fillFrom_lp12 t  n12 τ l2 = some τ9 → va_P D vwCl (wPk ca h pr wh ar t τ) H → va_D A (wPk ca h pr wh ar t τ) → va_S A s.heap H locs → lv_has ls 5 [(0, .ref h), (1, .ref wh), (2, .int l2)] → W p l e { frames := 2, cells := 0, slots := 0, locals := 45 } s m args below meth c H locs 0 0 Q (F0 m 12 ls []) := by
    intro n12
    induction n12 with
    | zero =>
      intro H locs ls τ l2 hf hP hD hS hl
      exact absurd hf (fun h => by cases h)
    | succ n12 ih12 =>
      intro H locs ls τ l2 hf hP hD hS hl
      replace hf : pp_fillFrom_12 t  (pp_fillFrom_lp12 t  n12) τ l2 = some τ9 := hf
      unfold pp_fillFrom_12 at hf
      refine lv_iload_n hx hb dX0_fillFrom_12 rfl (lv_at hl 2 rfl) ?_
      refine lv_sipush (v := 256) hx hb dX0_fillFrom_13 (by decide) ?_
      refine lv_icmp_ge (tgt := 32) hx hb dX0_fillFrom_16 (by decide) (fun c3 => ?_) (fun c3 => ?_)
      · replace hf := it_p c3 hf
        refine lv_aload_n hx hb dX0_fillFrom_32 rfl (lv_at hl 0 rfl) ?_
        refine lv_aload_n hx hb dX0_fillFrom_33 rfl (lv_at hl 1 rfl) ?_
        obtain ⟨v4, s5, ev4, hf⟩ := bd2_ob hf
        refine call_i (As := [.ref wh]) (rest := []) ⟨hx, hb, hml, hown, hts⟩ (tX0_sortByKeys l D ca h pr wh ar _ t τ v4 s5 ev4) (cwV 1 hts gX0_fillFrom_X0_sortByKeys rfl rfl rfl (by decide +kernel) ⟨Nat.le_of_ble_eq_true rfl, Nat.le_of_ble_eq_true rfl⟩) hN hK hP hD hA hS (fr_id _ _) rfl rfl rfl hl.1 rfl (lv_room (Nat.le_of_ble_eq_true rfl)) dX0_fillFrom_34 ⟨Nat.le_refl _, Nat.le_refl _⟩ (fun H locs hP hD hS => ?_)
        refine lv_istore_n (lv' := [(2, .int v4), (0, .ref h), (1, .ref wh)]) hx hb dX0_fillFrom_37 rfl hl (by decide) rfl (fun ls hl => ?_)
        refine lv_iconst (v := 0) hx hb dX0_fillFrom_38 (by decide) ?_
        refine lv_istore_n (lv' := [(3, .int 0), (2, .int v4), (0, .ref h), (1, .ref wh)]) hx hb dX0_fillFrom_39 rfl hl (by decide) rfl (fun ls hl => ?_)
        exact J40 FU _ _ _ _ _ _ hf hP hD hS (lv_sub hl [2, 3, 1, 0] rfl)
      · replace hf := it_n c3 hf
        refine lv_aload_n hx hb dX0_fillFrom_19 rfl (lv_at hl 0 rfl) ?_
        refine va_get (D := D) (ci := 0) (v := .ref (pr 1)) (C := RX0) (T := TX0) (N := 4) hx hb hts in0 hown hK hP 0 rfl rfl 1 (by decide) f15 (fun _ h9 => h9) rfl dX0_fillFrom_20 ?_
        refine lv_iload_n hx hb dX0_fillFrom_23 rfl (lv_at hl 2 rfl) ?_
        refine lv_iconst (v := 0) hx hb dX0_fillFrom_24 (by decide) ?_
        obtain ⟨g6, hf⟩ := gd_ob hf
        obtain ⟨s7, es7, hf⟩ := nm_ob hf
        refine va_zast hx hb hK hP hD hS 2 2 rfl rfl g6 dX0_fillFrom_25 (fun H locs hP hD hS => ?_)
        have hP : va_P D vwCl (wPk ca h pr wh ar t s7) H := by rw [← es7]; exact hP
        have hD : va_D A (wPk ca h pr wh ar t s7) := by rw [← es7]; exact hD
        obtain ⟨v8, ev8, hf⟩ := nm_ob hf
        refine lv_iinc (v := v8) (lv' := [(2, .int v8), (0, .ref h), (1, .ref wh)]) hx hb dX0_fillFrom_26 hl (k := 2) rfl (by rw [← ev8]; rfl) (by decide) rfl (fun ls hl => ?_)
        refine lv_goto (tgt := 12) hx hb dX0_fillFrom_29 (by decide) ?_
        exact ih12 _ _ _ _ _ hf hP hD hS (lv_sub hl [1, 2, 0] rfl)
  unfold pp_fillFrom at hf
  refine lv_aload_n hx hb dX0_fillFrom_0 rfl (lv_at hl 0 rfl) ?_
  refine lv_iconst (v := 0) hx hb dX0_fillFrom_1 (by decide) ?_
  obtain ⟨s1, es1, hf⟩ := nm_ob hf
  refine va_put (D := D) (ci := 0) (v := .int 0) (ty := .int) (C := RX0) (T := TX0) (N := 4) hx hb hts in0 tyX0 tyX0_ok nmX0 hown hK hP hD hS 0 rfl rfl 2 (by decide) f19 (fun _ h9 => h9) rfl (by decide +kernel) rfl rfl (Nat.le_of_ble_eq_true rfl) dX0_fillFrom_2 (fun H locs hP hD hS => ?_)
  have hP : va_P D vwCl (wPk ca h pr wh ar t s1) H := by rw [← es1]; exact hP
  have hD : va_D A (wPk ca h pr wh ar t s1) := by rw [← es1]; exact hD
  refine lv_aload_n hx hb dX0_fillFrom_5 rfl (lv_at hl 0 rfl) ?_
  refine lv_iconst (v := (-1)) hx hb dX0_fillFrom_6 (by decide) ?_
  obtain ⟨s2, es2, hf⟩ := nm_ob hf
  refine va_put (D := D) (ci := 0) (v := .int (-1)) (ty := .int) (C := RX0) (T := TX0) (N := 4) hx hb hts in0 tyX0 tyX0_ok nmX0 hown hK hP hD hS 0 rfl rfl 3 (by decide) f23 (fun _ h9 => h9) rfl (by decide +kernel) rfl rfl (Nat.le_of_ble_eq_true rfl) dX0_fillFrom_7 (fun H locs hP hD hS => ?_)
  have hP : va_P D vwCl (wPk ca h pr wh ar t s2) H := by rw [← es2]; exact hP
  have hD : va_D A (wPk ca h pr wh ar t s2) := by rw [← es2]; exact hD
  refine lv_iconst (v := 0) hx hb dX0_fillFrom_10 (by decide) ?_
  refine lv_istore_n (lv' := [(2, .int 0), (0, .ref h), (1, .ref wh)]) hx hb dX0_fillFrom_11 rfl hl (by decide) rfl (fun ls hl => ?_)
  exact J12 FU _ _ _ _ _ hf hP hD hS (lv_sub hl [1, 2, 0] rfl)
