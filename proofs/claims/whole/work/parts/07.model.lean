def mm_thrown  (σ : MS)  : Option Int32 :=
  some (m_thrown σ)
set_option maxHeartbeats 4000000 in
set_option maxRecDepth 100000 in
theorem tX5_thrown (l : Launch) (D : va_G) (ca : Nat → ClassId) (Ad : Nat → Nat) (sz : Nat)  (σ : MS)  (r : Int32) (hf : mm_thrown σ = some r) : Ci l D ca yX5_thrown wsX5_thrown { frames := 0, cells := 0, slots := 0, locals := 0 } [.ref (Ad 0)] (wM ca Ad σ) sz r (wM ca Ad σ) := by
  refine body_of (cc := cX5_thrown) (maxL := 1) (ret := (some .int)) (fun A => Qi D ca r (wM ca Ad σ) A) (by decide) rfl (Nat.le_of_ble_eq_true rfl) ?_
  intro p e s m below meth c A ls hx hb hr hml hts hown hlocks hA hK hP hD hS hl hN
  have hl : lv_has ls 1 [(0, .ref (Ad 0))] := hl
  have hret : ∀ (pc : Nat) (ls : Array Slot) (H : Heap) (locs : List Loc), decode cX5_thrown pc = .ok (.ireturn, 1) → va_P D vwCl (wM ca Ad σ) H → va_D A (wM ca Ad σ) → va_S A s.heap H locs → W p l e { frames := 0, cells := 0, slots := 0, locals := 0 } s m ([.ref (Ad 0)] : List Value).toArray below meth c H locs 0 0 (MQ below (Qi D ca r (wM ca Ad σ) A) ([.ref (Ad 0)] : List Value).toArray s 0 0 A) (F0 m pc ls [.int r]) := fun pc ls H locs hd hP hD hS => ret_i hx hb hr hlocks hK hP hD hS hd
  generalize MQ below (Qi D ca r (wM ca Ad σ) A) ([.ref (Ad 0)] : List Value).toArray s 0 0 A = Q at hret ⊢
  generalize ([.ref (Ad 0)] : List Value).toArray = args at hts hret ⊢
  have f49 := hts (.fieldLink RX5 49 "RobinRowModel" "thrown" "I") (by decide +kernel)
  have in5 : ∀ w ∈ u_ws RX5 TX5 17, w ∈ wsX5_thrown := by decide +kernel
  unfold mm_thrown at hf
  refine lv_aload_n hx hb dX5_thrown_0 rfl (lv_at hl 0 rfl) ?_
  refine va_get (D := D) (ci := 5) (v := .int (m_thrown σ)) (C := RX5) (T := TX5) (N := 17) hx hb hts in5 hown hK hP 0 rfl rfl 16 (by decide) f49 (fun _ h9 => h9) rfl dX5_thrown_1 ?_
  obtain rfl := so1 hf
  exact hret _ _ _ _ dX5_thrown_4 hP hD hS

def mm_in   (a0 : Int32) (a1 : Int32) (a2 : Int32) : Option Int32 :=
  if a0 < a1 then
    some 0
  else
    if a2 < a0 then
      some 0
    else
      some 1
set_option maxHeartbeats 4000000 in
set_option maxRecDepth 100000 in
theorem tX5_in (l : Launch) (D : va_G) (ca : Nat → ClassId)  (sz : Nat)   (a0 : Int32) (a1 : Int32) (a2 : Int32) (r : Int32) (hf : mm_in a0 a1 a2 = some r) : Ci l D ca yX5_in wsX5_in { frames := 0, cells := 0, slots := 0, locals := 0 } [.int a0, .int a1, .int a2] ([]) sz r ([]) := by
  refine body_of (cc := cX5_in) (maxL := 3) (ret := (some .boolean)) (fun A => Qi D ca r ([]) A) (by decide) rfl (Nat.le_of_ble_eq_true rfl) ?_
  intro p e s m below meth c A ls hx hb hr hml hts hown hlocks hA hK hP hD hS hl hN
  have hl : lv_has ls 3 [(0, .int a0), (1, .int a1), (2, .int a2)] := hl
  have hret : ∀ (pc : Nat) (ls : Array Slot) (H : Heap) (locs : List Loc), decode cX5_in pc = .ok (.ireturn, 1) → narrow .boolean (.int r) = .int r → va_P D vwCl ([]) H → va_D A ([]) → va_S A s.heap H locs → W p l e { frames := 0, cells := 0, slots := 0, locals := 0 } s m ([.int a0, .int a1, .int a2] : List Value).toArray below meth c H locs 0 0 (MQ below (Qi D ca r ([]) A) ([.int a0, .int a1, .int a2] : List Value).toArray s 0 0 A) (F0 m pc ls [.int r]) := fun pc ls H locs hd hn hP hD hS => ret_z hx hb hr hn hlocks hK hP hD hS hd
  generalize MQ below (Qi D ca r ([]) A) ([.int a0, .int a1, .int a2] : List Value).toArray s 0 0 A = Q at hret ⊢
  generalize ([.int a0, .int a1, .int a2] : List Value).toArray = args at hts hret ⊢
  unfold mm_in at hf
  refine lv_iload_n hx hb dX5_in_0 rfl (lv_at hl 0 rfl) ?_
  refine lv_iload_n hx hb dX5_in_1 rfl (lv_at hl 1 rfl) ?_
  refine lv_icmp_lt (tgt := 14) hx hb dX5_in_2 (by decide) (fun c1 => ?_) (fun c1 => ?_)
  · replace hf := it_p c1 hf
    refine lv_iconst (v := 0) hx hb dX5_in_14 (by decide) ?_
    obtain rfl := so1 hf
    exact hret _ _ _ _ dX5_in_15 rfl hP hD hS
  · replace hf := it_n c1 hf
    refine lv_iload_n hx hb dX5_in_5 rfl (lv_at hl 0 rfl) ?_
    refine lv_iload_n hx hb dX5_in_6 rfl (lv_at hl 2 rfl) ?_
    refine lv_icmp_gt (tgt := 14) hx hb dX5_in_7 (by decide) (fun c2 => ?_) (fun c2 => ?_)
    · replace hf := it_p c2 hf
      refine lv_iconst (v := 0) hx hb dX5_in_14 (by decide) ?_
      obtain rfl := so1 hf
      exact hret _ _ _ _ dX5_in_15 rfl hP hD hS
    · replace hf := it_n c2 hf
      refine lv_iconst (v := 1) hx hb dX5_in_10 (by decide) ?_
      refine lv_goto (tgt := 15) hx hb dX5_in_11 (by decide) ?_
      obtain rfl := so1 hf
      exact hret _ _ _ _ dX5_in_15 rfl hP hD hS

def mm_isFine  (σ : MS) (a0 : Int32) : Option (Int32 × MS) :=
  nm (m_thrown' σ a0) fun s1 =>
  if a0 = 0 then
    some (1, s1)
  else
    some (0, s1)
set_option maxHeartbeats 4000000 in
set_option maxRecDepth 100000 in
theorem tX5_isFine (l : Launch) (D : va_G) (ca : Nat → ClassId) (Ad : Nat → Nat) (sz : Nat)  (σ : MS) (a0 : Int32) (r : Int32) (σ9 : MS) (hf : mm_isFine σ a0 = some (r, σ9)) : Ci l D ca yX5_isFine wsX5_isFine { frames := 0, cells := 0, slots := 0, locals := 0 } [.ref (Ad 0), .int a0] (wM ca Ad σ) sz r (wM ca Ad σ9) := by
  refine body_of (cc := cX5_isFine) (maxL := 2) (ret := (some .boolean)) (fun A => Qi D ca r (wM ca Ad σ9) A) (by decide) rfl (Nat.le_of_ble_eq_true rfl) ?_
  intro p e s m below meth c A ls hx hb hr hml hts hown hlocks hA hK hP hD hS hl hN
  have hl : lv_has ls 2 [(0, .ref (Ad 0)), (1, .int a0)] := hl
  have hret : ∀ (pc : Nat) (ls : Array Slot) (H : Heap) (locs : List Loc), decode cX5_isFine pc = .ok (.ireturn, 1) → narrow .boolean (.int r) = .int r → va_P D vwCl (wM ca Ad σ9) H → va_D A (wM ca Ad σ9) → va_S A s.heap H locs → W p l e { frames := 0, cells := 0, slots := 0, locals := 0 } s m ([.ref (Ad 0), .int a0] : List Value).toArray below meth c H locs 0 0 (MQ below (Qi D ca r (wM ca Ad σ9) A) ([.ref (Ad 0), .int a0] : List Value).toArray s 0 0 A) (F0 m pc ls [.int r]) := fun pc ls H locs hd hn hP hD hS => ret_z hx hb hr hn hlocks hK hP hD hS hd
  generalize MQ below (Qi D ca r (wM ca Ad σ9) A) ([.ref (Ad 0), .int a0] : List Value).toArray s 0 0 A = Q at hret ⊢
  generalize ([.ref (Ad 0), .int a0] : List Value).toArray = args at hts hret ⊢
  have f49 := hts (.fieldLink RX5 49 "RobinRowModel" "thrown" "I") (by decide +kernel)
  have in5 : ∀ w ∈ u_ws RX5 TX5 17, w ∈ wsX5_isFine := by decide +kernel
  unfold mm_isFine at hf
  refine lv_aload_n hx hb dX5_isFine_0 rfl (lv_at hl 0 rfl) ?_
  refine lv_iload_n hx hb dX5_isFine_1 rfl (lv_at hl 1 rfl) ?_
  obtain ⟨s1, es1, hf⟩ := nm_ob hf
  refine va_put (D := D) (ci := 5) (v := .int a0) (ty := .int) (C := RX5) (T := TX5) (N := 17) hx hb hts in5 tyX5 tyX5_ok nmX5 hown hK hP hD hS 0 rfl rfl 16 (by decide) f49 (fun _ h9 => h9) rfl (by decide +kernel) rfl rfl (Nat.le_of_ble_eq_true rfl) dX5_isFine_2 (fun H locs hP hD hS => ?_)
  have hP : va_P D vwCl (wM ca Ad s1) H := by rw [← es1]; exact hP
  have hD : va_D A (wM ca Ad s1) := by rw [← es1]; exact hD
  refine lv_iload_n hx hb dX5_isFine_5 rfl (lv_at hl 1 rfl) ?_
  refine lv_if_ne (tgt := 13) hx hb dX5_isFine_6 (by decide) (fun c2 => ?_) (fun c2 => ?_)
  · replace hf := it_n c2 hf
    refine lv_iconst (v := 0) hx hb dX5_isFine_13 (by decide) ?_
    obtain ⟨rfl, rfl⟩ := so2 hf
    exact hret _ _ _ _ dX5_isFine_14 rfl hP hD hS
  · replace hf := it_p c2 hf
    refine lv_iconst (v := 1) hx hb dX5_isFine_9 (by decide) ?_
    refine lv_goto (tgt := 14) hx hb dX5_isFine_10 (by decide) ?_
    obtain ⟨rfl, rfl⟩ := so2 hf
    exact hret _ _ _ _ dX5_isFine_14 rfl hP hD hS

def mm_hashOf  (σ : MS) (a0 : Int32) : Option Int32 :=
  if (m_way σ) = 1 then
    nm (a0 * (-1640531535)) fun v2 =>
    some (v2 ^^^ (ushr v2 15))
  else
    some a0
set_option maxHeartbeats 4000000 in
set_option maxRecDepth 100000 in
theorem tX5_hashOf (l : Launch) (D : va_G) (ca : Nat → ClassId) (Ad : Nat → Nat) (sz : Nat)  (σ : MS) (a0 : Int32) (r : Int32) (hf : mm_hashOf σ a0 = some r) : Ci l D ca yX5_hashOf wsX5_hashOf { frames := 0, cells := 0, slots := 0, locals := 0 } [.ref (Ad 0), .int a0] (wM ca Ad σ) sz r (wM ca Ad σ) := by
  refine body_of (cc := cX5_hashOf) (maxL := 3) (ret := (some .int)) (fun A => Qi D ca r (wM ca Ad σ) A) (by decide) rfl (Nat.le_of_ble_eq_true rfl) ?_
  intro p e s m below meth c A ls hx hb hr hml hts hown hlocks hA hK hP hD hS hl hN
  have hl : lv_has ls 3 [(0, .ref (Ad 0)), (1, .int a0)] := hl
  have hret : ∀ (pc : Nat) (ls : Array Slot) (H : Heap) (locs : List Loc), decode cX5_hashOf pc = .ok (.ireturn, 1) → va_P D vwCl (wM ca Ad σ) H → va_D A (wM ca Ad σ) → va_S A s.heap H locs → W p l e { frames := 0, cells := 0, slots := 0, locals := 0 } s m ([.ref (Ad 0), .int a0] : List Value).toArray below meth c H locs 0 0 (MQ below (Qi D ca r (wM ca Ad σ) A) ([.ref (Ad 0), .int a0] : List Value).toArray s 0 0 A) (F0 m pc ls [.int r]) := fun pc ls H locs hd hP hD hS => ret_i hx hb hr hlocks hK hP hD hS hd
  generalize MQ below (Qi D ca r (wM ca Ad σ) A) ([.ref (Ad 0), .int a0] : List Value).toArray s 0 0 A = Q at hret ⊢
  generalize ([.ref (Ad 0), .int a0] : List Value).toArray = args at hts hret ⊢
  have f26 := hts (.fieldLink RX5 26 "RobinRowModel" "way" "I") (by decide +kernel)
  have in5 : ∀ w ∈ u_ws RX5 TX5 17, w ∈ wsX5_hashOf := by decide +kernel
  unfold mm_hashOf at hf
  refine lv_aload_n hx hb dX5_hashOf_0 rfl (lv_at hl 0 rfl) ?_
  refine va_get (D := D) (ci := 5) (v := .int (m_way σ)) (C := RX5) (T := TX5) (N := 17) hx hb hts in5 hown hK hP 0 rfl rfl 6 (by decide) f26 (fun _ h9 => h9) rfl dX5_hashOf_1 ?_
  refine lv_iconst (v := 1) hx hb dX5_hashOf_4 (by decide) ?_
  refine lv_icmp_eq (tgt := 10) hx hb dX5_hashOf_5 (by decide) (fun c1 => ?_) (fun c1 => ?_)
  · replace hf := it_p c1 hf
    refine lv_iload_n hx hb dX5_hashOf_10 rfl (lv_at hl 1 rfl) ?_
    refine lv_ldc (v := (-1640531535)) hx hb hown (hts (.constant RX5 52 (-1640531535)) (by decide +kernel)) dX5_hashOf_11 ?_
    refine lv_imul hx hb dX5_hashOf_13 ?_
    obtain ⟨v2, ev2, hf⟩ := nm_ob hf
    refine tp_i ev2 ?_
    refine lv_istore_n (lv' := [(2, .int v2), (0, .ref (Ad 0)), (1, .int a0)]) hx hb dX5_hashOf_14 rfl hl (by decide) rfl (fun ls hl => ?_)
    refine lv_iload_n hx hb dX5_hashOf_15 rfl (lv_at hl 0 rfl) ?_
    refine lv_iload_n hx hb dX5_hashOf_16 rfl (lv_at hl 0 rfl) ?_
    refine lv_bipush (v := 15) hx hb dX5_hashOf_17 (by decide) ?_
    refine lv_iushr (v := (ushr v2 15)) hx hb dX5_hashOf_19 rfl ?_
    refine lv_ixor hx hb dX5_hashOf_20 ?_
    obtain rfl := so1 hf
    exact hret _ _ _ _ dX5_hashOf_21 hP hD hS
  · replace hf := it_n c1 hf
    refine lv_iload_n hx hb dX5_hashOf_8 rfl (lv_at hl 1 rfl) ?_
    obtain rfl := so1 hf
    exact hret _ _ _ _ dX5_hashOf_9 hP hD hS

def mm_home  (σ : MS) (a0 : Int32) (a1 : Int32) : Option Int32 :=
  bd (mm_hashOf σ a1) fun v1 =>
  gd a0 2 <|
  some (v1 &&& ((m_slots σ a0.toNatClampNeg) - 1))
set_option maxHeartbeats 4000000 in
set_option maxRecDepth 100000 in
theorem tX5_home (l : Launch) (D : va_G) (ca : Nat → ClassId) (Ad : Nat → Nat) (sz : Nat)  (σ : MS) (a0 : Int32) (a1 : Int32) (r : Int32) (hf : mm_home σ a0 a1 = some r) : Ci l D ca yX5_home wsX5_home { frames := 1, cells := 0, slots := 0, locals := 22 } [.ref (Ad 0), .int a0, .int a1] (wM ca Ad σ) sz r (wM ca Ad σ) := by
  refine body_of (cc := cX5_home) (maxL := 3) (ret := (some .int)) (fun A => Qi D ca r (wM ca Ad σ) A) (by decide) rfl (Nat.le_of_ble_eq_true rfl) ?_
  intro p e s m below meth c A ls hx hb hr hml hts hown hlocks hA hK hP hD hS hl hN
  have hl : lv_has ls 3 [(0, .ref (Ad 0)), (1, .int a0), (2, .int a1)] := hl
  have hret : ∀ (pc : Nat) (ls : Array Slot) (H : Heap) (locs : List Loc), decode cX5_home pc = .ok (.ireturn, 1) → va_P D vwCl (wM ca Ad σ) H → va_D A (wM ca Ad σ) → va_S A s.heap H locs → W p l e { frames := 1, cells := 0, slots := 0, locals := 22 } s m ([.ref (Ad 0), .int a0, .int a1] : List Value).toArray below meth c H locs 0 0 (MQ below (Qi D ca r (wM ca Ad σ) A) ([.ref (Ad 0), .int a0, .int a1] : List Value).toArray s 0 0 A) (F0 m pc ls [.int r]) := fun pc ls H locs hd hP hD hS => ret_i hx hb hr hlocks hK hP hD hS hd
  generalize MQ below (Qi D ca r (wM ca Ad σ) A) ([.ref (Ad 0), .int a0, .int a1] : List Value).toArray s 0 0 A = Q at hret ⊢
  generalize ([.ref (Ad 0), .int a0, .int a1] : List Value).toArray = args at hts hret ⊢
  have f20 := hts (.fieldLink RX5 20 "RobinRowModel" "slots" "[I") (by decide +kernel)
  have in5 : ∀ w ∈ u_ws RX5 TX5 17, w ∈ wsX5_home := by decide +kernel
  unfold mm_home at hf
  refine lv_aload_n hx hb dX5_home_0 rfl (lv_at hl 0 rfl) ?_
  refine lv_iload_n hx hb dX5_home_1 rfl (lv_at hl 2 rfl) ?_
  obtain ⟨v1, ev1, hf⟩ := bd_ob hf
  refine call_i (As := [.int a1]) (rest := []) ⟨hx, hb, hml, hown, hts⟩ (tX5_hashOf l D ca Ad _ σ a1 v1 ev1) (cwV 1 hts gX5_home_X5_hashOf rfl rfl rfl (by decide +kernel) ⟨Nat.le_of_ble_eq_true rfl, Nat.le_of_ble_eq_true rfl⟩) hN hK hP hD hA hS (fr_id _ _) rfl rfl rfl hl.1 rfl (lv_room (Nat.le_of_ble_eq_true rfl)) dX5_home_2 ⟨Nat.le_refl _, Nat.le_refl _⟩ (fun H locs hP hD hS => ?_)
  refine lv_aload_n hx hb dX5_home_5 rfl (lv_at hl 0 rfl) ?_
  refine va_get (D := D) (ci := 5) (v := .ref (Ad 4)) (C := RX5) (T := TX5) (N := 17) hx hb hts in5 hown hK hP 0 rfl rfl 3 (by decide) f20 (fun _ h9 => h9) rfl dX5_home_6 ?_
  refine lv_iload_n hx hb dX5_home_9 rfl (lv_at hl 1 rfl) ?_
  obtain ⟨g2, hf⟩ := gd_ob hf
  refine va_iald hx hb hK hP 4 0 rfl rfl g2 dX5_home_10 ?_
  refine lv_iconst (v := 1) hx hb dX5_home_11 (by decide) ?_
  refine lv_isub hx hb dX5_home_12 ?_
  refine lv_iand hx hb dX5_home_13 ?_
  obtain rfl := so1 hf
  exact hret _ _ _ _ dX5_home_14 hP hD hS

def mm_distance  (σ : MS) (a0 : Int32) (a1 : Int32) : Option Int32 :=
  gd ((256 * a0) + a1) 512 <|
  bd (mm_home σ a0 (m_keys σ ((256 * a0) + a1).toNatClampNeg)) fun v2 =>
  gd a0 2 <|
  some ((a1 - v2) &&& ((m_slots σ a0.toNatClampNeg) - 1))
set_option maxHeartbeats 4000000 in
set_option maxRecDepth 100000 in
theorem tX5_distance (l : Launch) (D : va_G) (ca : Nat → ClassId) (Ad : Nat → Nat) (sz : Nat)  (σ : MS) (a0 : Int32) (a1 : Int32) (r : Int32) (hf : mm_distance σ a0 a1 = some r) : Ci l D ca yX5_distance wsX5_distance { frames := 2, cells := 0, slots := 0, locals := 44 } [.ref (Ad 0), .int a0, .int a1] (wM ca Ad σ) sz r (wM ca Ad σ) := by
  refine body_of (cc := cX5_distance) (maxL := 3) (ret := (some .int)) (fun A => Qi D ca r (wM ca Ad σ) A) (by decide) rfl (Nat.le_of_ble_eq_true rfl) ?_
  intro p e s m below meth c A ls hx hb hr hml hts hown hlocks hA hK hP hD hS hl hN
  have hl : lv_has ls 3 [(0, .ref (Ad 0)), (1, .int a0), (2, .int a1)] := hl
  have hret : ∀ (pc : Nat) (ls : Array Slot) (H : Heap) (locs : List Loc), decode cX5_distance pc = .ok (.ireturn, 1) → va_P D vwCl (wM ca Ad σ) H → va_D A (wM ca Ad σ) → va_S A s.heap H locs → W p l e { frames := 2, cells := 0, slots := 0, locals := 44 } s m ([.ref (Ad 0), .int a0, .int a1] : List Value).toArray below meth c H locs 0 0 (MQ below (Qi D ca r (wM ca Ad σ) A) ([.ref (Ad 0), .int a0, .int a1] : List Value).toArray s 0 0 A) (F0 m pc ls [.int r]) := fun pc ls H locs hd hP hD hS => ret_i hx hb hr hlocks hK hP hD hS hd
  generalize MQ below (Qi D ca r (wM ca Ad σ) A) ([.ref (Ad 0), .int a0, .int a1] : List Value).toArray s 0 0 A = Q at hret ⊢
  generalize ([.ref (Ad 0), .int a0, .int a1] : List Value).toArray = args at hts hret ⊢
  have f20 := hts (.fieldLink RX5 20 "RobinRowModel" "slots" "[I") (by decide +kernel)
  have f7 := hts (.fieldLink RX5 7 "RobinRowModel" "keys" "[I") (by decide +kernel)
  have in5 : ∀ w ∈ u_ws RX5 TX5 17, w ∈ wsX5_distance := by decide +kernel
  unfold mm_distance at hf
  refine lv_iload_n hx hb dX5_distance_0 rfl (lv_at hl 2 rfl) ?_
  refine lv_aload_n hx hb dX5_distance_1 rfl (lv_at hl 0 rfl) ?_
  refine lv_iload_n hx hb dX5_distance_2 rfl (lv_at hl 1 rfl) ?_
  refine lv_aload_n hx hb dX5_distance_3 rfl (lv_at hl 0 rfl) ?_
  refine va_get (D := D) (ci := 5) (v := .ref (Ad 1)) (C := RX5) (T := TX5) (N := 17) hx hb hts in5 hown hK hP 0 rfl rfl 0 (by decide) f7 (fun _ h9 => h9) rfl dX5_distance_4 ?_
  refine lv_sipush (v := 256) hx hb dX5_distance_7 (by decide) ?_
  refine lv_iload_n hx hb dX5_distance_10 rfl (lv_at hl 1 rfl) ?_
  refine lv_imul hx hb dX5_distance_11 ?_
  refine lv_iload_n hx hb dX5_distance_12 rfl (lv_at hl 2 rfl) ?_
  refine lv_iadd hx hb dX5_distance_13 ?_
  obtain ⟨g1, hf⟩ := gd_ob hf
  refine va_iald hx hb hK hP 1 0 rfl rfl g1 dX5_distance_14 ?_
  obtain ⟨v2, ev2, hf⟩ := bd_ob hf
  refine call_i (As := [.int a0, .int (m_keys σ ((256 * a0) + a1).toNatClampNeg)]) (rest := [.int a1]) ⟨hx, hb, hml, hown, hts⟩ (tX5_home l D ca Ad _ σ a0 (m_keys σ ((256 * a0) + a1).toNatClampNeg) v2 ev2) (cwV 2 hts gX5_distance_X5_home rfl rfl rfl (by decide +kernel) ⟨Nat.le_of_ble_eq_true rfl, Nat.le_of_ble_eq_true rfl⟩) hN hK hP hD hA hS (fr_id _ _) rfl rfl rfl hl.1 rfl (lv_room (Nat.le_of_ble_eq_true rfl)) dX5_distance_15 ⟨Nat.le_refl _, Nat.le_refl _⟩ (fun H locs hP hD hS => ?_)
  refine lv_isub hx hb dX5_distance_18 ?_
  refine lv_aload_n hx hb dX5_distance_19 rfl (lv_at hl 0 rfl) ?_
  refine va_get (D := D) (ci := 5) (v := .ref (Ad 4)) (C := RX5) (T := TX5) (N := 17) hx hb hts in5 hown hK hP 0 rfl rfl 3 (by decide) f20 (fun _ h9 => h9) rfl dX5_distance_20 ?_
  refine lv_iload_n hx hb dX5_distance_23 rfl (lv_at hl 1 rfl) ?_
  obtain ⟨g3, hf⟩ := gd_ob hf
  refine va_iald hx hb hK hP 4 0 rfl rfl g3 dX5_distance_24 ?_
  refine lv_iconst (v := 1) hx hb dX5_distance_25 (by decide) ?_
  refine lv_isub hx hb dX5_distance_26 ?_
  refine lv_iand hx hb dX5_distance_27 ?_
  obtain rfl := so1 hf
  exact hret _ _ _ _ dX5_distance_28 hP hD hS

def mm_slotOf_55  (σ : MS) (k5 : Int32 → Int32 → Int32 → Int32 → Option Int32)  (l1 : Int32) (l2 : Int32) (l4 : Int32) (t0 : Int32) : Option Int32 :=
  nm (l4 + 1) fun v7 =>
  k5 l1 l2 t0 v7
def mm_slotOf_5  (σ : MS) (k5 : Int32 → Int32 → Int32 → Int32 → Option Int32)  (l1 : Int32) (l2 : Int32) (l3 : Int32) (l4 : Int32) : Option Int32 :=
  gd l1 2 <|
  if (m_slots σ l1.toNatClampNeg) ≤ l4 then
    some l3
  else
    gd ((256 * l1) + l4) 512 <|
    if (m_full σ ((256 * l1) + l4).toNatClampNeg) = 0 then
      mm_slotOf_55 σ k5 l1 l2 l4 l3
    else
      gd ((256 * l1) + l4) 512 <|
      if (m_keys σ ((256 * l1) + l4).toNatClampNeg) = l2 then
        mm_slotOf_55 σ k5 l1 l2 l4 l4
      else
        mm_slotOf_55 σ k5 l1 l2 l4 l3
def mm_slotOf_lp5  (σ : MS)  : Nat → Int32 → Int32 → Int32 → Int32 → Option Int32 := itF (fun _ _ _ _ => none) (fun k => mm_slotOf_5 σ  k)
def mm_slotOf  (σ : MS) (a0 : Int32) (a1 : Int32) : Option Int32 :=
  mm_slotOf_lp5 σ FU a0 a1 (-1) 0
set_option maxHeartbeats 4000000 in
set_option maxRecDepth 100000 in
theorem tX5_slotOf (l : Launch) (D : va_G) (ca : Nat → ClassId) (Ad : Nat → Nat) (sz : Nat)  (σ : MS) (a0 : Int32) (a1 : Int32) (r : Int32) (hf : mm_slotOf σ a0 a1 = some r) : Ci l D ca yX5_slotOf wsX5_slotOf { frames := 0, cells := 0, slots := 0, locals := 0 } [.ref (Ad 0), .int a0, .int a1] (wM ca Ad σ) sz r (wM ca Ad σ) := by
  refine body_of (cc := cX5_slotOf) (maxL := 5) (ret := (some .int)) (fun A => Qi D ca r (wM ca Ad σ) A) (by decide) rfl (Nat.le_of_ble_eq_true rfl) ?_
  intro p e s m below meth c A ls hx hb hr hml hts hown hlocks hA hK hP hD hS hl hN
  have hl : lv_has ls 5 [(0, .ref (Ad 0)), (1, .int a0), (2, .int a1)] := hl
  have hret : ∀ (pc : Nat) (ls : Array Slot) (H : Heap) (locs : List Loc), decode cX5_slotOf pc = .ok (.ireturn, 1) → va_P D vwCl (wM ca Ad σ) H → va_D A (wM ca Ad σ) → va_S A s.heap H locs → W p l e { frames := 0, cells := 0, slots := 0, locals := 0 } s m ([.ref (Ad 0), .int a0, .int a1] : List Value).toArray below meth c H locs 0 0 (MQ below (Qi D ca r (wM ca Ad σ) A) ([.ref (Ad 0), .int a0, .int a1] : List Value).toArray s 0 0 A) (F0 m pc ls [.int r]) := fun pc ls H locs hd hP hD hS => ret_i hx hb hr hlocks hK hP hD hS hd
  generalize MQ below (Qi D ca r (wM ca Ad σ) A) ([.ref (Ad 0), .int a0, .int a1] : List Value).toArray s 0 0 A = Q at hret ⊢
  generalize ([.ref (Ad 0), .int a0, .int a1] : List Value).toArray = args at hts hret ⊢
  have f16 := hts (.fieldLink RX5 16 "RobinRowModel" "isFull" "[Z") (by decide +kernel)
  have f20 := hts (.fieldLink RX5 20 "RobinRowModel" "slots" "[I") (by decide +kernel)
  have f7 := hts (.fieldLink RX5 7 "RobinRowModel" "keys" "[I") (by decide +kernel)
  have in5 : ∀ w ∈ u_ws RX5 TX5 17, w ∈ wsX5_slotOf := by decide +kernel
  have J5 : ∀ (n5 : Nat) (H : Heap) (locs : List Loc) (ls : Array Slot)  (l1 : Int32) (l2 : Int32) (l3 : Int32) (l4 : Int32), mm_slotOf_lp5 σ  n5 l1 l2 l3 l4 = some r → va_P D vwCl (wM ca Ad σ) H → va_D A (wM ca Ad σ) → va_S A s.heap H locs → lv_has ls 5 [(0, .ref (Ad 0)), (1, .int l1), (2, .int l2), (3, .int l3), (4, .int l4)] → W p l e { frames := 0, cells := 0, slots := 0, locals := 0 } s m args below meth c H locs 0 0 Q (F0 m 5 ls []) := by
    intro n5
    induction n5 with
    | zero =>
      intro H locs ls l1 l2 l3 l4 hf hP hD hS hl
      exact absurd hf (fun h => by cases h)
    | succ n5 ih5 =>
      have J55 : ∀ (H : Heap) (locs : List Loc) (ls : Array Slot)  (l1 : Int32) (l2 : Int32) (l4 : Int32) (t0 : Int32), mm_slotOf_55 σ (mm_slotOf_lp5 σ  n5) l1 l2 l4 t0 = some r → va_P D vwCl (wM ca Ad σ) H → va_D A (wM ca Ad σ) → va_S A s.heap H locs → lv_has ls 5 [(0, .ref (Ad 0)), (1, .int l1), (2, .int l2), (4, .int l4)] → W p l e { frames := 0, cells := 0, slots := 0, locals := 0 } s m args below meth c H locs 0 0 Q (F0 m 55 ls [.int t0]) := by
        intro H locs ls l1 l2 l4 t0 hf hP hD hS hl
        unfold mm_slotOf_55 at hf
        refine lv_istore_n (lv' := [(3, .int t0), (0, .ref (Ad 0)), (1, .int l1), (2, .int l2), (4, .int l4)]) hx hb dX5_slotOf_55 rfl hl (by decide) rfl (fun ls hl => ?_)
        obtain ⟨v7, ev7, hf⟩ := nm_ob hf
        refine lv_iinc (v := v7) (lv' := [(4, .int v7), (3, .int t0), (0, .ref (Ad 0)), (1, .int l1), (2, .int l2)]) hx hb dX5_slotOf_56 hl (k := 4) rfl (by rw [← ev7]; rfl) (by decide) rfl (fun ls hl => ?_)
        refine lv_goto (tgt := 5) hx hb dX5_slotOf_59 (by decide) ?_
        exact ih5 _ _ _ _ _ _ _ hf hP hD hS (lv_sub hl [2, 3, 4, 1, 0] rfl)
      intro H locs ls l1 l2 l3 l4 hf hP hD hS hl
      replace hf : mm_slotOf_5 σ  (mm_slotOf_lp5 σ  n5) l1 l2 l3 l4 = some r := hf
      unfold mm_slotOf_5 at hf
      refine lv_iload hx hb dX5_slotOf_5 (lv_at hl 4 rfl) ?_
      refine lv_aload_n hx hb dX5_slotOf_7 rfl (lv_at hl 0 rfl) ?_
      refine va_get (D := D) (ci := 5) (v := .ref (Ad 4)) (C := RX5) (T := TX5) (N := 17) hx hb hts in5 hown hK hP 0 rfl rfl 3 (by decide) f20 (fun _ h9 => h9) rfl dX5_slotOf_8 ?_
      refine lv_iload_n hx hb dX5_slotOf_11 rfl (lv_at hl 1 rfl) ?_
      obtain ⟨g1, hf⟩ := gd_ob hf
      refine va_iald hx hb hK hP 4 0 rfl rfl g1 dX5_slotOf_12 ?_
      refine lv_icmp_ge (tgt := 62) hx hb dX5_slotOf_13 (by decide) (fun c2 => ?_) (fun c2 => ?_)
      · replace hf := it_p c2 hf
        refine lv_iload_n hx hb dX5_slotOf_62 rfl (lv_at hl 3 rfl) ?_
        obtain rfl := so1 hf
        exact hret _ _ _ _ dX5_slotOf_63 hP hD hS
      · replace hf := it_n c2 hf
        refine lv_aload_n hx hb dX5_slotOf_16 rfl (lv_at hl 0 rfl) ?_
        refine va_get (D := D) (ci := 5) (v := .ref (Ad 3)) (C := RX5) (T := TX5) (N := 17) hx hb hts in5 hown hK hP 0 rfl rfl 2 (by decide) f16 (fun _ h9 => h9) rfl dX5_slotOf_17 ?_
        refine lv_sipush (v := 256) hx hb dX5_slotOf_20 (by decide) ?_
        refine lv_iload_n hx hb dX5_slotOf_23 rfl (lv_at hl 1 rfl) ?_
        refine lv_imul hx hb dX5_slotOf_24 ?_
        refine lv_iload hx hb dX5_slotOf_25 (lv_at hl 4 rfl) ?_
        refine lv_iadd hx hb dX5_slotOf_27 ?_
        obtain ⟨g3, hf⟩ := gd_ob hf
        refine va_zald hx hb hK hP 3 2 rfl rfl g3 dX5_slotOf_28 ?_
        refine lv_if_eq (tgt := 54) hx hb dX5_slotOf_29 (by decide) (fun c4 => ?_) (fun c4 => ?_)
        · replace hf := it_p c4 hf
          refine lv_iload_n hx hb dX5_slotOf_54 rfl (lv_at hl 3 rfl) ?_
          exact J55 _ _ _ _ _ _ _ hf hP hD hS (lv_sub hl [0, 1, 2, 4] rfl)
        · replace hf := it_n c4 hf
          refine lv_aload_n hx hb dX5_slotOf_32 rfl (lv_at hl 0 rfl) ?_
          refine va_get (D := D) (ci := 5) (v := .ref (Ad 1)) (C := RX5) (T := TX5) (N := 17) hx hb hts in5 hown hK hP 0 rfl rfl 0 (by decide) f7 (fun _ h9 => h9) rfl dX5_slotOf_33 ?_
          refine lv_sipush (v := 256) hx hb dX5_slotOf_36 (by decide) ?_
          refine lv_iload_n hx hb dX5_slotOf_39 rfl (lv_at hl 1 rfl) ?_
          refine lv_imul hx hb dX5_slotOf_40 ?_
          refine lv_iload hx hb dX5_slotOf_41 (lv_at hl 4 rfl) ?_
          refine lv_iadd hx hb dX5_slotOf_43 ?_
          obtain ⟨g5, hf⟩ := gd_ob hf
          refine va_iald hx hb hK hP 1 0 rfl rfl g5 dX5_slotOf_44 ?_
          refine lv_iload_n hx hb dX5_slotOf_45 rfl (lv_at hl 2 rfl) ?_
          refine lv_icmp_ne (tgt := 54) hx hb dX5_slotOf_46 (by decide) (fun c6 => ?_) (fun c6 => ?_)
          · replace hf := it_n c6 hf
            refine lv_iload_n hx hb dX5_slotOf_54 rfl (lv_at hl 3 rfl) ?_
            exact J55 _ _ _ _ _ _ _ hf hP hD hS (lv_sub hl [0, 1, 2, 4] rfl)
          · replace hf := it_p c6 hf
            refine lv_iload hx hb dX5_slotOf_49 (lv_at hl 4 rfl) ?_
            refine lv_goto (tgt := 55) hx hb dX5_slotOf_51 (by decide) ?_
            exact J55 _ _ _ _ _ _ _ hf hP hD hS (lv_sub hl [0, 1, 2, 4] rfl)
  unfold mm_slotOf at hf
  refine lv_iconst (v := (-1)) hx hb dX5_slotOf_0 (by decide) ?_
  refine lv_istore_n (lv' := [(3, .int (-1)), (0, .ref (Ad 0)), (1, .int a0), (2, .int a1)]) hx hb dX5_slotOf_1 rfl hl (by decide) rfl (fun ls hl => ?_)
  refine lv_iconst (v := 0) hx hb dX5_slotOf_2 (by decide) ?_
  refine lv_istore (lv' := [(4, .int 0), (3, .int (-1)), (0, .ref (Ad 0)), (1, .int a0), (2, .int a1)]) hx hb dX5_slotOf_3 hl (by decide) rfl (fun ls hl => ?_)
  exact J5 FU _ _ _ _ _ _ _ hf hP hD hS (lv_sub hl [2, 3, 4, 1, 0] rfl)

def mm_carries_119  (k20 : MS → Int32 → Int32 → Int32 → Int32 → Int32 → Int32 → Int32 → Option (Int32 × MS)) (σ : MS) (l1 : Int32) (l4 : Int32) (l5 : Int32) (l6 : Int32) (l7 : Int32) (l8 : Int32) (l9 : Int32) : Option (Int32 × MS) :=
  gd l1 2 <|
  nm ((l7 + 1) &&& ((m_slots σ l1.toNatClampNeg) - 1)) fun v28 =>
  nm (l9 + 1) fun v29 =>
  k20 σ l1 l4 l5 l6 v28 l8 v29
def mm_carries_108  (k20 : MS → Int32 → Int32 → Int32 → Int32 → Int32 → Int32 → Int32 → Option (Int32 × MS)) (σ : MS) (l1 : Int32) (l4 : Int32) (l7 : Int32) (l8 : Int32) (l9 : Int32) (l11 : Int32) (l12 : Int32) : Option (Int32 × MS) :=
  nm (l8 + 1) fun v30 =>
  mm_carries_119 k20 σ l1 l4 l11 l12 l7 v30 l9
def mm_carries_20  (k20 : MS → Int32 → Int32 → Int32 → Int32 → Int32 → Int32 → Int32 → Option (Int32 × MS)) (σ : MS) (l1 : Int32) (l4 : Int32) (l5 : Int32) (l6 : Int32) (l7 : Int32) (l8 : Int32) (l9 : Int32) : Option (Int32 × MS) :=
  gd ((256 * l1) + l7) 512 <|
  if (m_full σ ((256 * l1) + l7).toNatClampNeg) = 0 then
    if l4 = 0 then
      gd ((256 * l1) + l7) 512 <|
      nm (m_keys' σ (upd (m_keys σ) ((256 * l1) + l7).toNatClampNeg l5)) fun s6 =>
      gd ((256 * l1) + l7) 512 <|
      nm (m_values' s6 (upd (m_values s6) ((256 * l1) + l7).toNatClampNeg l6)) fun s8 =>
      gd ((256 * l1) + l7) 512 <|
      nm (m_full' s8 (upd (m_full s8) ((256 * l1) + l7).toNatClampNeg 1)) fun s10 =>
      gd l1 2 <|
      gd l1 2 <|
      nm (m_many' s10 (upd (m_many s10) l1.toNatClampNeg ((m_many s10 l1.toNatClampNeg) + 1))) fun s13 =>
      some (l8, s13)
    else
      some (l8, σ)
  else
    nm ((256 * l1) + l7) fun v14 =>
    bd (mm_distance σ l1 l7) fun v15 =>
    if l9 ≤ v15 then
      mm_carries_119 k20 σ l1 l4 l5 l6 l7 l8 l9
    else
      gd v14 512 <|
      nm (m_keys σ v14.toNatClampNeg) fun v18 =>
      gd v14 512 <|
      nm (m_values σ v14.toNatClampNeg) fun v20 =>
      bd (mm_distance σ l1 l7) fun v21 =>
      if l4 = 0 then
        gd v14 512 <|
        nm (m_keys' σ (upd (m_keys σ) v14.toNatClampNeg l5)) fun s24 =>
        gd v14 512 <|
        nm (m_values' s24 (upd (m_values s24) v14.toNatClampNeg l6)) fun s26 =>
        mm_carries_108 k20 s26 l1 l4 l7 l8 v21 v18 v20
      else
        mm_carries_108 k20 σ l1 l4 l7 l8 v21 v18 v20
def mm_carries_lp20   : Nat → MS → Int32 → Int32 → Int32 → Int32 → Int32 → Int32 → Int32 → Option (Int32 × MS) := itF (fun _ _ _ _ _ _ _ _ => none) (fun k => mm_carries_20   k)
def mm_carries  (σ : MS) (a0 : Int32) (a1 : Int32) (a2 : Int32) (a3 : Int32) : Option (Int32 × MS) :=
  bd (mm_home σ a0 a1) fun v1 =>
  mm_carries_lp20 FU σ a0 a3 a1 a2 v1 0 0
set_option maxHeartbeats 4000000 in
set_option maxRecDepth 100000 in
theorem tX5_carries (l : Launch) (D : va_G) (ca : Nat → ClassId) (Ad : Nat → Nat) (sz : Nat)  (σ : MS) (a0 : Int32) (a1 : Int32) (a2 : Int32) (a3 : Int32) (r : Int32) (σ9 : MS) (hf : mm_carries σ a0 a1 a2 a3 = some (r, σ9)) : Ci l D ca yX5_carries wsX5_carries { frames := 3, cells := 0, slots := 0, locals := 66 } [.ref (Ad 0), .int a0, .int a1, .int a2, .int a3] (wM ca Ad σ) sz r (wM ca Ad σ9) := by
  refine body_of (cc := cX5_carries) (maxL := 13) (ret := (some .int)) (fun A => Qi D ca r (wM ca Ad σ9) A) (by decide) rfl (Nat.le_of_ble_eq_true rfl) ?_
  intro p e s m below meth c A ls hx hb hr hml hts hown hlocks hA hK hP hD hS hl hN
  have hl : lv_has ls 13 [(0, .ref (Ad 0)), (1, .int a0), (2, .int a1), (3, .int a2), (4, .int a3)] := hl
  have hret : ∀ (pc : Nat) (ls : Array Slot) (H : Heap) (locs : List Loc), decode cX5_carries pc = .ok (.ireturn, 1) → va_P D vwCl (wM ca Ad σ9) H → va_D A (wM ca Ad σ9) → va_S A s.heap H locs → W p l e { frames := 3, cells := 0, slots := 0, locals := 66 } s m ([.ref (Ad 0), .int a0, .int a1, .int a2, .int a3] : List Value).toArray below meth c H locs 0 0 (MQ below (Qi D ca r (wM ca Ad σ9) A) ([.ref (Ad 0), .int a0, .int a1, .int a2, .int a3] : List Value).toArray s 0 0 A) (F0 m pc ls [.int r]) := fun pc ls H locs hd hP hD hS => ret_i hx hb hr hlocks hK hP hD hS hd
  generalize MQ below (Qi D ca r (wM ca Ad σ9) A) ([.ref (Ad 0), .int a0, .int a1, .int a2, .int a3] : List Value).toArray s 0 0 A = Q at hret ⊢
  generalize ([.ref (Ad 0), .int a0, .int a1, .int a2, .int a3] : List Value).toArray = args at hts hret ⊢
  have f13 := hts (.fieldLink RX5 13 "RobinRowModel" "values" "[I") (by decide +kernel)
  have f16 := hts (.fieldLink RX5 16 "RobinRowModel" "isFull" "[Z") (by decide +kernel)
  have f20 := hts (.fieldLink RX5 20 "RobinRowModel" "slots" "[I") (by decide +kernel)
  have f23 := hts (.fieldLink RX5 23 "RobinRowModel" "many" "[I") (by decide +kernel)
  have f7 := hts (.fieldLink RX5 7 "RobinRowModel" "keys" "[I") (by decide +kernel)
  have in5 : ∀ w ∈ u_ws RX5 TX5 17, w ∈ wsX5_carries := by decide +kernel
  have J20 : ∀ (n20 : Nat) (H : Heap) (locs : List Loc) (ls : Array Slot) (σ : MS) (l1 : Int32) (l4 : Int32) (l5 : Int32) (l6 : Int32) (l7 : Int32) (l8 : Int32) (l9 : Int32), mm_carries_lp20  n20 σ l1 l4 l5 l6 l7 l8 l9 = some (r, σ9) → va_P D vwCl (wM ca Ad σ) H → va_D A (wM ca Ad σ) → va_S A s.heap H locs → lv_has ls 13 [(0, .ref (Ad 0)), (1, .int l1), (4, .int l4), (5, .int l5), (6, .int l6), (7, .int l7), (8, .int l8), (9, .int l9)] → W p l e { frames := 3, cells := 0, slots := 0, locals := 66 } s m args below meth c H locs 0 0 Q (F0 m 20 ls []) := by
    intro n20
    induction n20 with
    | zero =>
      intro H locs ls σ l1 l4 l5 l6 l7 l8 l9 hf hP hD hS hl
      exact absurd hf (fun h => by cases h)
    | succ n20 ih20 =>
      have J119 : ∀ (H : Heap) (locs : List Loc) (ls : Array Slot) (σ : MS) (l1 : Int32) (l4 : Int32) (l5 : Int32) (l6 : Int32) (l7 : Int32) (l8 : Int32) (l9 : Int32), mm_carries_119 (mm_carries_lp20  n20) σ l1 l4 l5 l6 l7 l8 l9 = some (r, σ9) → va_P D vwCl (wM ca Ad σ) H → va_D A (wM ca Ad σ) → va_S A s.heap H locs → lv_has ls 13 [(0, .ref (Ad 0)), (1, .int l1), (4, .int l4), (5, .int l5), (6, .int l6), (7, .int l7), (8, .int l8), (9, .int l9)] → W p l e { frames := 3, cells := 0, slots := 0, locals := 66 } s m args below meth c H locs 0 0 Q (F0 m 119 ls []) := by
        intro H locs ls σ l1 l4 l5 l6 l7 l8 l9 hf hP hD hS hl
        unfold mm_carries_119 at hf
        refine lv_iload hx hb dX5_carries_119 (lv_at hl 5 rfl) ?_
        refine lv_iconst (v := 1) hx hb dX5_carries_121 (by decide) ?_
        refine lv_iadd hx hb dX5_carries_122 ?_
        refine lv_aload_n hx hb dX5_carries_123 rfl (lv_at hl 0 rfl) ?_
        refine va_get (D := D) (ci := 5) (v := .ref (Ad 4)) (C := RX5) (T := TX5) (N := 17) hx hb hts in5 hown hK hP 0 rfl rfl 3 (by decide) f20 (fun _ h9 => h9) rfl dX5_carries_124 ?_
        refine lv_iload_n hx hb dX5_carries_127 rfl (lv_at hl 1 rfl) ?_
        obtain ⟨g27, hf⟩ := gd_ob hf
        refine va_iald hx hb hK hP 4 0 rfl rfl g27 dX5_carries_128 ?_
        refine lv_iconst (v := 1) hx hb dX5_carries_129 (by decide) ?_
        refine lv_isub hx hb dX5_carries_130 ?_
        refine lv_iand hx hb dX5_carries_131 ?_
        obtain ⟨v28, ev28, hf⟩ := nm_ob hf
        refine tp_i ev28 ?_
        refine lv_istore (lv' := [(7, .int v28), (0, .ref (Ad 0)), (1, .int l1), (4, .int l4), (5, .int l5), (6, .int l6), (8, .int l8), (9, .int l9)]) hx hb dX5_carries_132 hl (by decide) rfl (fun ls hl => ?_)
        obtain ⟨v29, ev29, hf⟩ := nm_ob hf
        refine lv_iinc (v := v29) (lv' := [(9, .int v29), (7, .int v28), (0, .ref (Ad 0)), (1, .int l1), (4, .int l4), (5, .int l5), (6, .int l6), (8, .int l8)]) hx hb dX5_carries_134 hl (k := 7) rfl (by rw [← ev29]; rfl) (by decide) rfl (fun ls hl => ?_)
        refine lv_goto (tgt := 20) hx hb dX5_carries_137 (by decide) ?_
        exact ih20 _ _ _ _ _ _ _ _ _ _ _ hf hP hD hS (lv_sub hl [2, 3, 4, 5, 6, 1, 7, 0] rfl)
      have J108 : ∀ (H : Heap) (locs : List Loc) (ls : Array Slot) (σ : MS) (l1 : Int32) (l4 : Int32) (l7 : Int32) (l8 : Int32) (l9 : Int32) (l11 : Int32) (l12 : Int32), mm_carries_108 (mm_carries_lp20  n20) σ l1 l4 l7 l8 l9 l11 l12 = some (r, σ9) → va_P D vwCl (wM ca Ad σ) H → va_D A (wM ca Ad σ) → va_S A s.heap H locs → lv_has ls 13 [(0, .ref (Ad 0)), (1, .int l1), (4, .int l4), (7, .int l7), (8, .int l8), (9, .int l9), (11, .int l11), (12, .int l12)] → W p l e { frames := 3, cells := 0, slots := 0, locals := 66 } s m args below meth c H locs 0 0 Q (F0 m 108 ls []) := by
        intro H locs ls σ l1 l4 l7 l8 l9 l11 l12 hf hP hD hS hl
        unfold mm_carries_108 at hf
        refine lv_iload hx hb dX5_carries_108 (lv_at hl 6 rfl) ?_
        refine lv_istore (lv' := [(5, .int l11), (0, .ref (Ad 0)), (1, .int l1), (4, .int l4), (7, .int l7), (8, .int l8), (9, .int l9), (11, .int l11), (12, .int l12)]) hx hb dX5_carries_110 hl (by decide) rfl (fun ls hl => ?_)
        refine lv_iload hx hb dX5_carries_112 (lv_at hl 8 rfl) ?_
        refine lv_istore (lv' := [(6, .int l12), (5, .int l11), (0, .ref (Ad 0)), (1, .int l1), (4, .int l4), (7, .int l7), (8, .int l8), (9, .int l9), (11, .int l11), (12, .int l12)]) hx hb dX5_carries_114 hl (by decide) rfl (fun ls hl => ?_)
        obtain ⟨v30, ev30, hf⟩ := nm_ob hf
        refine lv_iinc (v := v30) (lv' := [(8, .int v30), (6, .int l12), (5, .int l11), (0, .ref (Ad 0)), (1, .int l1), (4, .int l4), (7, .int l7), (9, .int l9), (11, .int l11), (12, .int l12)]) hx hb dX5_carries_116 hl (k := 6) rfl (by rw [← ev30]; rfl) (by decide) rfl (fun ls hl => ?_)
        exact J119 _ _ _ _ _ _ _ _ _ _ _ hf hP hD hS (lv_sub hl [3, 4, 5, 2, 1, 6, 0, 7] rfl)
      intro H locs ls σ l1 l4 l5 l6 l7 l8 l9 hf hP hD hS hl
      replace hf : mm_carries_20  (mm_carries_lp20  n20) σ l1 l4 l5 l6 l7 l8 l9 = some (r, σ9) := hf
      unfold mm_carries_20 at hf
      refine lv_aload_n hx hb dX5_carries_20 rfl (lv_at hl 0 rfl) ?_
      refine va_get (D := D) (ci := 5) (v := .ref (Ad 3)) (C := RX5) (T := TX5) (N := 17) hx hb hts in5 hown hK hP 0 rfl rfl 2 (by decide) f16 (fun _ h9 => h9) rfl dX5_carries_21 ?_
      refine lv_sipush (v := 256) hx hb dX5_carries_24 (by decide) ?_
      refine lv_iload_n hx hb dX5_carries_27 rfl (lv_at hl 1 rfl) ?_
      refine lv_imul hx hb dX5_carries_28 ?_
      refine lv_iload hx hb dX5_carries_29 (lv_at hl 5 rfl) ?_
      refine lv_iadd hx hb dX5_carries_31 ?_
      obtain ⟨g2, hf⟩ := gd_ob hf
      refine va_zald hx hb hK hP 3 2 rfl rfl g2 dX5_carries_32 ?_
      refine lv_if_eq (tgt := 140) hx hb dX5_carries_33 (by decide) (fun c3 => ?_) (fun c3 => ?_)
      · replace hf := it_p c3 hf
        refine lv_iload hx hb dX5_carries_140 (lv_at hl 2 rfl) ?_
        refine lv_if_ne (tgt := 199) hx hb dX5_carries_142 (by decide) (fun c4 => ?_) (fun c4 => ?_)
        · replace hf := it_n c4 hf
          refine lv_iload hx hb dX5_carries_199 (lv_at hl 6 rfl) ?_
          obtain ⟨rfl, rfl⟩ := so2 hf
          exact hret _ _ _ _ dX5_carries_201 hP hD hS
        · replace hf := it_p c4 hf
          refine lv_aload_n hx hb dX5_carries_145 rfl (lv_at hl 0 rfl) ?_
          refine va_get (D := D) (ci := 5) (v := .ref (Ad 1)) (C := RX5) (T := TX5) (N := 17) hx hb hts in5 hown hK hP 0 rfl rfl 0 (by decide) f7 (fun _ h9 => h9) rfl dX5_carries_146 ?_
          refine lv_sipush (v := 256) hx hb dX5_carries_149 (by decide) ?_
          refine lv_iload_n hx hb dX5_carries_152 rfl (lv_at hl 1 rfl) ?_
          refine lv_imul hx hb dX5_carries_153 ?_
          refine lv_iload hx hb dX5_carries_154 (lv_at hl 5 rfl) ?_
          refine lv_iadd hx hb dX5_carries_156 ?_
          refine lv_iload hx hb dX5_carries_157 (lv_at hl 3 rfl) ?_
          obtain ⟨g5, hf⟩ := gd_ob hf
          obtain ⟨s6, es6, hf⟩ := nm_ob hf
          refine va_iast hx hb hK hP hD hS 1 0 rfl rfl g5 dX5_carries_159 (fun H locs hP hD hS => ?_)
          have hP : va_P D vwCl (wM ca Ad s6) H := by rw [← es6]; exact hP
          have hD : va_D A (wM ca Ad s6) := by rw [← es6]; exact hD
          refine lv_aload_n hx hb dX5_carries_160 rfl (lv_at hl 0 rfl) ?_
          refine va_get (D := D) (ci := 5) (v := .ref (Ad 2)) (C := RX5) (T := TX5) (N := 17) hx hb hts in5 hown hK hP 0 rfl rfl 1 (by decide) f13 (fun _ h9 => h9) rfl dX5_carries_161 ?_
          refine lv_sipush (v := 256) hx hb dX5_carries_164 (by decide) ?_
          refine lv_iload_n hx hb dX5_carries_167 rfl (lv_at hl 1 rfl) ?_
          refine lv_imul hx hb dX5_carries_168 ?_
          refine lv_iload hx hb dX5_carries_169 (lv_at hl 5 rfl) ?_
          refine lv_iadd hx hb dX5_carries_171 ?_
          refine lv_iload hx hb dX5_carries_172 (lv_at hl 4 rfl) ?_
          obtain ⟨g7, hf⟩ := gd_ob hf
          obtain ⟨s8, es8, hf⟩ := nm_ob hf
          refine va_iast hx hb hK hP hD hS 2 0 rfl rfl g7 dX5_carries_174 (fun H locs hP hD hS => ?_)
          have hP : va_P D vwCl (wM ca Ad s8) H := by rw [← es8]; exact hP
          have hD : va_D A (wM ca Ad s8) := by rw [← es8]; exact hD
          refine lv_aload_n hx hb dX5_carries_175 rfl (lv_at hl 0 rfl) ?_
          refine va_get (D := D) (ci := 5) (v := .ref (Ad 3)) (C := RX5) (T := TX5) (N := 17) hx hb hts in5 hown hK hP 0 rfl rfl 2 (by decide) f16 (fun _ h9 => h9) rfl dX5_carries_176 ?_
          refine lv_sipush (v := 256) hx hb dX5_carries_179 (by decide) ?_
          refine lv_iload_n hx hb dX5_carries_182 rfl (lv_at hl 1 rfl) ?_
          refine lv_imul hx hb dX5_carries_183 ?_
          refine lv_iload hx hb dX5_carries_184 (lv_at hl 5 rfl) ?_
          refine lv_iadd hx hb dX5_carries_186 ?_
          refine lv_iconst (v := 1) hx hb dX5_carries_187 (by decide) ?_
          obtain ⟨g9, hf⟩ := gd_ob hf
          obtain ⟨s10, es10, hf⟩ := nm_ob hf
          refine va_zast hx hb hK hP hD hS 3 2 rfl rfl g9 dX5_carries_188 (fun H locs hP hD hS => ?_)
          have hP : va_P D vwCl (wM ca Ad s10) H := by rw [← es10]; exact hP
          have hD : va_D A (wM ca Ad s10) := by rw [← es10]; exact hD
          refine lv_aload_n hx hb dX5_carries_189 rfl (lv_at hl 0 rfl) ?_
          refine va_get (D := D) (ci := 5) (v := .ref (Ad 5)) (C := RX5) (T := TX5) (N := 17) hx hb hts in5 hown hK hP 0 rfl rfl 4 (by decide) f23 (fun _ h9 => h9) rfl dX5_carries_190 ?_
          refine lv_iload_n hx hb dX5_carries_193 rfl (lv_at hl 1 rfl) ?_
          refine lv_dup2_11 hx hb dX5_carries_194 rfl rfl ?_
          obtain ⟨g11, hf⟩ := gd_ob hf
          refine va_iald hx hb hK hP 5 0 rfl rfl g11 dX5_carries_195 ?_
          refine lv_iconst (v := 1) hx hb dX5_carries_196 (by decide) ?_
          refine lv_iadd hx hb dX5_carries_197 ?_
          obtain ⟨g12, hf⟩ := gd_ob hf
          obtain ⟨s13, es13, hf⟩ := nm_ob hf
          refine va_iast hx hb hK hP hD hS 5 0 rfl rfl g12 dX5_carries_198 (fun H locs hP hD hS => ?_)
          have hP : va_P D vwCl (wM ca Ad s13) H := by rw [← es13]; exact hP
          have hD : va_D A (wM ca Ad s13) := by rw [← es13]; exact hD
          refine lv_iload hx hb dX5_carries_199 (lv_at hl 6 rfl) ?_
          obtain ⟨rfl, rfl⟩ := so2 hf
          exact hret _ _ _ _ dX5_carries_201 hP hD hS
      · replace hf := it_n c3 hf
        refine lv_sipush (v := 256) hx hb dX5_carries_36 (by decide) ?_
        refine lv_iload_n hx hb dX5_carries_39 rfl (lv_at hl 1 rfl) ?_
        refine lv_imul hx hb dX5_carries_40 ?_
        refine lv_iload hx hb dX5_carries_41 (lv_at hl 5 rfl) ?_
        refine lv_iadd hx hb dX5_carries_43 ?_
        obtain ⟨v14, ev14, hf⟩ := nm_ob hf
        refine tp_i ev14 ?_
        refine lv_istore (lv' := [(10, .int v14), (0, .ref (Ad 0)), (1, .int l1), (4, .int l4), (5, .int l5), (6, .int l6), (7, .int l7), (8, .int l8), (9, .int l9)]) hx hb dX5_carries_44 hl (by decide) rfl (fun ls hl => ?_)
        refine lv_aload_n hx hb dX5_carries_46 rfl (lv_at hl 1 rfl) ?_
        refine lv_iload_n hx hb dX5_carries_47 rfl (lv_at hl 2 rfl) ?_
        refine lv_iload hx hb dX5_carries_48 (lv_at hl 6 rfl) ?_
        obtain ⟨v15, ev15, hf⟩ := bd_ob hf
        refine call_i (As := [.int l1, .int l7]) (rest := []) ⟨hx, hb, hml, hown, hts⟩ (tX5_distance l D ca Ad _ σ l1 l7 v15 ev15) (cwV 2 hts gX5_carries_X5_distance rfl rfl rfl (by decide +kernel) ⟨Nat.le_of_ble_eq_true rfl, Nat.le_of_ble_eq_true rfl⟩) hN hK hP hD hA hS (fr_id _ _) rfl rfl rfl hl.1 rfl (lv_room (Nat.le_of_ble_eq_true rfl)) dX5_carries_50 ⟨Nat.le_refl _, Nat.le_refl _⟩ (fun H locs hP hD hS => ?_)
        refine lv_iload hx hb dX5_carries_53 (lv_at hl 8 rfl) ?_
        refine lv_icmp_ge (tgt := 119) hx hb dX5_carries_55 (by decide) (fun c16 => ?_) (fun c16 => ?_)
        · replace hf := it_p c16 hf
          exact J119 _ _ _ _ _ _ _ _ _ _ _ hf hP hD hS (lv_sub hl [1, 2, 3, 4, 5, 6, 7, 8] rfl)
        · replace hf := it_n c16 hf
          refine lv_aload_n hx hb dX5_carries_58 rfl (lv_at hl 1 rfl) ?_
          refine va_get (D := D) (ci := 5) (v := .ref (Ad 1)) (C := RX5) (T := TX5) (N := 17) hx hb hts in5 hown hK hP 0 rfl rfl 0 (by decide) f7 (fun _ h9 => h9) rfl dX5_carries_59 ?_
          refine lv_iload hx hb dX5_carries_62 (lv_at hl 0 rfl) ?_
          obtain ⟨g17, hf⟩ := gd_ob hf
          refine va_iald hx hb hK hP 1 0 rfl rfl g17 dX5_carries_64 ?_
          obtain ⟨v18, ev18, hf⟩ := nm_ob hf
          refine tp_i ev18 ?_
          refine lv_istore (lv' := [(11, .int v18), (10, .int v14), (0, .ref (Ad 0)), (1, .int l1), (4, .int l4), (5, .int l5), (6, .int l6), (7, .int l7), (8, .int l8), (9, .int l9)]) hx hb dX5_carries_65 hl (by decide) rfl (fun ls hl => ?_)
          refine lv_aload_n hx hb dX5_carries_67 rfl (lv_at hl 2 rfl) ?_
          refine va_get (D := D) (ci := 5) (v := .ref (Ad 2)) (C := RX5) (T := TX5) (N := 17) hx hb hts in5 hown hK hP 0 rfl rfl 1 (by decide) f13 (fun _ h9 => h9) rfl dX5_carries_68 ?_
          refine lv_iload hx hb dX5_carries_71 (lv_at hl 1 rfl) ?_
          obtain ⟨g19, hf⟩ := gd_ob hf
          refine va_iald hx hb hK hP 2 0 rfl rfl g19 dX5_carries_73 ?_
          obtain ⟨v20, ev20, hf⟩ := nm_ob hf
          refine tp_i ev20 ?_
          refine lv_istore (lv' := [(12, .int v20), (11, .int v18), (10, .int v14), (0, .ref (Ad 0)), (1, .int l1), (4, .int l4), (5, .int l5), (6, .int l6), (7, .int l7), (8, .int l8), (9, .int l9)]) hx hb dX5_carries_74 hl (by decide) rfl (fun ls hl => ?_)
          refine lv_aload_n hx hb dX5_carries_76 rfl (lv_at hl 3 rfl) ?_
          refine lv_iload_n hx hb dX5_carries_77 rfl (lv_at hl 4 rfl) ?_
          refine lv_iload hx hb dX5_carries_78 (lv_at hl 8 rfl) ?_
          obtain ⟨v21, ev21, hf⟩ := bd_ob hf
          refine call_i (As := [.int l1, .int l7]) (rest := []) ⟨hx, hb, hml, hown, hts⟩ (tX5_distance l D ca Ad _ σ l1 l7 v21 ev21) (cwV 2 hts gX5_carries_X5_distance rfl rfl rfl (by decide +kernel) ⟨Nat.le_of_ble_eq_true rfl, Nat.le_of_ble_eq_true rfl⟩) hN hK hP hD hA hS (fr_id _ _) rfl rfl rfl hl.1 rfl (lv_room (Nat.le_of_ble_eq_true rfl)) dX5_carries_80 ⟨Nat.le_refl _, Nat.le_refl _⟩ (fun H locs hP hD hS => ?_)
          refine lv_istore (lv' := [(9, .int v21), (12, .int v20), (11, .int v18), (10, .int v14), (0, .ref (Ad 0)), (1, .int l1), (4, .int l4), (5, .int l5), (6, .int l6), (7, .int l7), (8, .int l8)]) hx hb dX5_carries_83 hl (by decide) rfl (fun ls hl => ?_)
          refine lv_iload hx hb dX5_carries_85 (lv_at hl 6 rfl) ?_
          refine lv_if_ne (tgt := 108) hx hb dX5_carries_87 (by decide) (fun c22 => ?_) (fun c22 => ?_)
          · replace hf := it_n c22 hf
            exact J108 _ _ _ _ _ _ _ _ _ _ _ hf hP hD hS (lv_sub hl [4, 5, 6, 9, 10, 0, 2, 1] rfl)
          · replace hf := it_p c22 hf
            refine lv_aload_n hx hb dX5_carries_90 rfl (lv_at hl 4 rfl) ?_
            refine va_get (D := D) (ci := 5) (v := .ref (Ad 1)) (C := RX5) (T := TX5) (N := 17) hx hb hts in5 hown hK hP 0 rfl rfl 0 (by decide) f7 (fun _ h9 => h9) rfl dX5_carries_91 ?_
            refine lv_iload hx hb dX5_carries_94 (lv_at hl 3 rfl) ?_
            refine lv_iload hx hb dX5_carries_96 (lv_at hl 7 rfl) ?_
            obtain ⟨g23, hf⟩ := gd_ob hf
            obtain ⟨s24, es24, hf⟩ := nm_ob hf
            refine va_iast hx hb hK hP hD hS 1 0 rfl rfl g23 dX5_carries_98 (fun H locs hP hD hS => ?_)
            have hP : va_P D vwCl (wM ca Ad s24) H := by rw [← es24]; exact hP
            have hD : va_D A (wM ca Ad s24) := by rw [← es24]; exact hD
            refine lv_aload_n hx hb dX5_carries_99 rfl (lv_at hl 4 rfl) ?_
            refine va_get (D := D) (ci := 5) (v := .ref (Ad 2)) (C := RX5) (T := TX5) (N := 17) hx hb hts in5 hown hK hP 0 rfl rfl 1 (by decide) f13 (fun _ h9 => h9) rfl dX5_carries_100 ?_
            refine lv_iload hx hb dX5_carries_103 (lv_at hl 3 rfl) ?_
            refine lv_iload hx hb dX5_carries_105 (lv_at hl 8 rfl) ?_
            obtain ⟨g25, hf⟩ := gd_ob hf
            obtain ⟨s26, es26, hf⟩ := nm_ob hf
            refine va_iast hx hb hK hP hD hS 2 0 rfl rfl g25 dX5_carries_107 (fun H locs hP hD hS => ?_)
            have hP : va_P D vwCl (wM ca Ad s26) H := by rw [← es26]; exact hP
            have hD : va_D A (wM ca Ad s26) := by rw [← es26]; exact hD
            exact J108 _ _ _ _ _ _ _ _ _ _ _ hf hP hD hS (lv_sub hl [4, 5, 6, 9, 10, 0, 2, 1] rfl)
  unfold mm_carries at hf
  refine lv_iload_n hx hb dX5_carries_0 rfl (lv_at hl 2 rfl) ?_
  refine lv_istore (lv' := [(5, .int a1), (0, .ref (Ad 0)), (1, .int a0), (2, .int a1), (3, .int a2), (4, .int a3)]) hx hb dX5_carries_1 hl (by decide) rfl (fun ls hl => ?_)
  refine lv_iload_n hx hb dX5_carries_3 rfl (lv_at hl 4 rfl) ?_
  refine lv_istore (lv' := [(6, .int a2), (5, .int a1), (0, .ref (Ad 0)), (1, .int a0), (2, .int a1), (3, .int a2), (4, .int a3)]) hx hb dX5_carries_4 hl (by decide) rfl (fun ls hl => ?_)
  refine lv_aload_n hx hb dX5_carries_6 rfl (lv_at hl 2 rfl) ?_
  refine lv_iload_n hx hb dX5_carries_7 rfl (lv_at hl 3 rfl) ?_
  refine lv_iload_n hx hb dX5_carries_8 rfl (lv_at hl 4 rfl) ?_
  obtain ⟨v1, ev1, hf⟩ := bd_ob hf
  refine call_i (As := [.int a0, .int a1]) (rest := []) ⟨hx, hb, hml, hown, hts⟩ (tX5_home l D ca Ad _ σ a0 a1 v1 ev1) (cwV 2 hts gX5_carries_X5_home rfl rfl rfl (by decide +kernel) ⟨Nat.le_of_ble_eq_true rfl, Nat.le_of_ble_eq_true rfl⟩) hN hK hP hD hA hS (fr_id _ _) rfl rfl rfl hl.1 rfl (lv_room (Nat.le_of_ble_eq_true rfl)) dX5_carries_9 ⟨Nat.le_refl _, Nat.le_refl _⟩ (fun H locs hP hD hS => ?_)
  refine lv_istore (lv' := [(7, .int v1), (6, .int a2), (5, .int a1), (0, .ref (Ad 0)), (1, .int a0), (2, .int a1), (3, .int a2), (4, .int a3)]) hx hb dX5_carries_12 hl (by decide) rfl (fun ls hl => ?_)
  refine lv_iconst (v := 0) hx hb dX5_carries_14 (by decide) ?_
  refine lv_istore (lv' := [(8, .int 0), (7, .int v1), (6, .int a2), (5, .int a1), (0, .ref (Ad 0)), (1, .int a0), (2, .int a1), (3, .int a2), (4, .int a3)]) hx hb dX5_carries_15 hl (by decide) rfl (fun ls hl => ?_)
  refine lv_iconst (v := 0) hx hb dX5_carries_17 (by decide) ?_
  refine lv_istore (lv' := [(9, .int 0), (8, .int 0), (7, .int v1), (6, .int a2), (5, .int a1), (0, .ref (Ad 0)), (1, .int a0), (2, .int a1), (3, .int a2), (4, .int a3)]) hx hb dX5_carries_18 hl (by decide) rfl (fun ls hl => ?_)
  exact J20 FU _ _ _ _ _ _ _ _ _ _ _ hf hP hD hS (lv_sub hl [5, 6, 9, 4, 3, 2, 1, 0] rfl)

def mm_takes_152   (σ : MS) (l1 : Int32) : Option MS :=
  gd l1 2 <|
  gd l1 2 <|
  nm (m_many' σ (upd (m_many σ) l1.toNatClampNeg ((m_many σ l1.toNatClampNeg) - 1))) fun s23 =>
  if l1 = (m_present s23) then
    some s23
  else
    gd l1 2 <|
    if (m_many s23 l1.toNatClampNeg) = 0 then
      gd l1 2 <|
      nm (m_slots' s23 (upd (m_slots s23) l1.toNatClampNeg 0)) fun s28 =>
      some s28
    else
      some s23
def mm_takes_29  (k29 : MS → Int32 → Int32 → Int32 → Option MS) (σ : MS) (l1 : Int32) (l3 : Int32) (l4 : Int32) : Option MS :=
  gd ((256 * l1) + l4) 512 <|
  if (m_full σ ((256 * l1) + l4).toNatClampNeg) = 0 then
    mm_takes_152 σ l1
  else
    bd (mm_distance σ l1 l4) fun v7 =>
    if v7 ≤ 0 then
      mm_takes_152 σ l1
    else
      gd ((256 * l1) + l4) 512 <|
      gd ((256 * l1) + l3) 512 <|
      nm (m_keys' σ (upd (m_keys σ) ((256 * l1) + l3).toNatClampNeg (m_keys σ ((256 * l1) + l4).toNatClampNeg))) fun s11 =>
      gd ((256 * l1) + l4) 512 <|
      gd ((256 * l1) + l3) 512 <|
      nm (m_values' s11 (upd (m_values s11) ((256 * l1) + l3).toNatClampNeg (m_values s11 ((256 * l1) + l4).toNatClampNeg))) fun s14 =>
      gd ((256 * l1) + l3) 512 <|
      nm (m_full' s14 (upd (m_full s14) ((256 * l1) + l3).toNatClampNeg 1)) fun s16 =>
      gd ((256 * l1) + l4) 512 <|
      nm (m_full' s16 (upd (m_full s16) ((256 * l1) + l4).toNatClampNeg 0)) fun s18 =>
      gd l1 2 <|
      nm ((l4 + 1) &&& ((m_slots s18 l1.toNatClampNeg) - 1)) fun v20 =>
      k29 s18 l1 l4 v20
def mm_takes_lp29   : Nat → MS → Int32 → Int32 → Int32 → Option MS := itF (fun _ _ _ _ => none) (fun k => mm_takes_29   k)
def mm_takes  (σ : MS) (a0 : Int32) (a1 : Int32) : Option MS :=
  gd a0 2 <|
  nm ((a1 + 1) &&& ((m_slots σ a0.toNatClampNeg) - 1)) fun v2 =>
  gd ((256 * a0) + a1) 512 <|
  nm (m_full' σ (upd (m_full σ) ((256 * a0) + a1).toNatClampNeg 0)) fun s4 =>
  mm_takes_lp29 FU s4 a0 a1 v2
set_option maxHeartbeats 4000000 in
set_option maxRecDepth 100000 in
theorem tX5_takes (l : Launch) (D : va_G) (ca : Nat → ClassId) (Ad : Nat → Nat) (sz : Nat)  (σ : MS) (a0 : Int32) (a1 : Int32) (σ9 : MS) (hf : mm_takes σ a0 a1 = some σ9) : Cv l D ca yX5_takes wsX5_takes { frames := 3, cells := 0, slots := 0, locals := 66 } [.ref (Ad 0), .int a0, .int a1] (wM ca Ad σ) sz (wM ca Ad σ9) := by
  refine body_of (cc := cX5_takes) (maxL := 5) (ret := none) (fun A => Qv D ca (wM ca Ad σ9) A) (by decide) rfl (Nat.le_of_ble_eq_true rfl) ?_
  intro p e s m below meth c A ls hx hb hr hml hts hown hlocks hA hK hP hD hS hl hN
  have hl : lv_has ls 5 [(0, .ref (Ad 0)), (1, .int a0), (2, .int a1)] := hl
  have hret : ∀ (pc : Nat) (ls : Array Slot) (H : Heap) (locs : List Loc), decode cX5_takes pc = .ok (.return_, 1) → va_P D vwCl (wM ca Ad σ9) H → va_D A (wM ca Ad σ9) → va_S A s.heap H locs → W p l e { frames := 3, cells := 0, slots := 0, locals := 66 } s m ([.ref (Ad 0), .int a0, .int a1] : List Value).toArray below meth c H locs 0 0 (MQ below (Qv D ca (wM ca Ad σ9) A) ([.ref (Ad 0), .int a0, .int a1] : List Value).toArray s 0 0 A) (F0 m pc ls []) := fun pc ls H locs hd hP hD hS => ret_v hx hb hr hlocks hK hP hD hS hd
  generalize MQ below (Qv D ca (wM ca Ad σ9) A) ([.ref (Ad 0), .int a0, .int a1] : List Value).toArray s 0 0 A = Q at hret ⊢
  generalize ([.ref (Ad 0), .int a0, .int a1] : List Value).toArray = args at hts hret ⊢
  have f13 := hts (.fieldLink RX5 13 "RobinRowModel" "values" "[I") (by decide +kernel)
  have f16 := hts (.fieldLink RX5 16 "RobinRowModel" "isFull" "[Z") (by decide +kernel)
  have f20 := hts (.fieldLink RX5 20 "RobinRowModel" "slots" "[I") (by decide +kernel)
  have f23 := hts (.fieldLink RX5 23 "RobinRowModel" "many" "[I") (by decide +kernel)
  have f64 := hts (.fieldLink RX5 64 "RobinRowModel" "present" "I") (by decide +kernel)
  have f7 := hts (.fieldLink RX5 7 "RobinRowModel" "keys" "[I") (by decide +kernel)
  have in5 : ∀ w ∈ u_ws RX5 TX5 17, w ∈ wsX5_takes := by decide +kernel
  have J152 : ∀ (H : Heap) (locs : List Loc) (ls : Array Slot) (σ : MS) (l1 : Int32), mm_takes_152  σ l1 = some σ9 → va_P D vwCl (wM ca Ad σ) H → va_D A (wM ca Ad σ) → va_S A s.heap H locs → lv_has ls 5 [(0, .ref (Ad 0)), (1, .int l1)] → W p l e { frames := 3, cells := 0, slots := 0, locals := 66 } s m args below meth c H locs 0 0 Q (F0 m 152 ls []) := by
    intro H locs ls σ l1 hf hP hD hS hl
    unfold mm_takes_152 at hf
    refine lv_aload_n hx hb dX5_takes_152 rfl (lv_at hl 0 rfl) ?_
    refine va_get (D := D) (ci := 5) (v := .ref (Ad 5)) (C := RX5) (T := TX5) (N := 17) hx hb hts in5 hown hK hP 0 rfl rfl 4 (by decide) f23 (fun _ h9 => h9) rfl dX5_takes_153 ?_
    refine lv_iload_n hx hb dX5_takes_156 rfl (lv_at hl 1 rfl) ?_
    refine lv_dup2_11 hx hb dX5_takes_157 rfl rfl ?_
    obtain ⟨g21, hf⟩ := gd_ob hf
    refine va_iald hx hb hK hP 5 0 rfl rfl g21 dX5_takes_158 ?_
    refine lv_iconst (v := 1) hx hb dX5_takes_159 (by decide) ?_
    refine lv_isub hx hb dX5_takes_160 ?_
    obtain ⟨g22, hf⟩ := gd_ob hf
    obtain ⟨s23, es23, hf⟩ := nm_ob hf
    refine va_iast hx hb hK hP hD hS 5 0 rfl rfl g22 dX5_takes_161 (fun H locs hP hD hS => ?_)
    have hP : va_P D vwCl (wM ca Ad s23) H := by rw [← es23]; exact hP
    have hD : va_D A (wM ca Ad s23) := by rw [← es23]; exact hD
    refine lv_iload_n hx hb dX5_takes_162 rfl (lv_at hl 1 rfl) ?_
    refine lv_aload_n hx hb dX5_takes_163 rfl (lv_at hl 0 rfl) ?_
    refine va_get (D := D) (ci := 5) (v := .int (m_present s23)) (C := RX5) (T := TX5) (N := 17) hx hb hts in5 hown hK hP 0 rfl rfl 5 (by decide) f64 (fun _ h9 => h9) rfl dX5_takes_164 ?_
    refine lv_icmp_eq (tgt := 186) hx hb dX5_takes_167 (by decide) (fun c24 => ?_) (fun c24 => ?_)
    · replace hf := it_p c24 hf
      obtain rfl := so1 hf
      exact hret _ _ _ _ dX5_takes_186 hP hD hS
    · replace hf := it_n c24 hf
      refine lv_aload_n hx hb dX5_takes_170 rfl (lv_at hl 0 rfl) ?_
      refine va_get (D := D) (ci := 5) (v := .ref (Ad 5)) (C := RX5) (T := TX5) (N := 17) hx hb hts in5 hown hK hP 0 rfl rfl 4 (by decide) f23 (fun _ h9 => h9) rfl dX5_takes_171 ?_
      refine lv_iload_n hx hb dX5_takes_174 rfl (lv_at hl 1 rfl) ?_
      obtain ⟨g25, hf⟩ := gd_ob hf
      refine va_iald hx hb hK hP 5 0 rfl rfl g25 dX5_takes_175 ?_
      refine lv_if_ne (tgt := 186) hx hb dX5_takes_176 (by decide) (fun c26 => ?_) (fun c26 => ?_)
      · replace hf := it_n c26 hf
        obtain rfl := so1 hf
        exact hret _ _ _ _ dX5_takes_186 hP hD hS
      · replace hf := it_p c26 hf
        refine lv_aload_n hx hb dX5_takes_179 rfl (lv_at hl 0 rfl) ?_
        refine va_get (D := D) (ci := 5) (v := .ref (Ad 4)) (C := RX5) (T := TX5) (N := 17) hx hb hts in5 hown hK hP 0 rfl rfl 3 (by decide) f20 (fun _ h9 => h9) rfl dX5_takes_180 ?_
        refine lv_iload_n hx hb dX5_takes_183 rfl (lv_at hl 1 rfl) ?_
        refine lv_iconst (v := 0) hx hb dX5_takes_184 (by decide) ?_
        obtain ⟨g27, hf⟩ := gd_ob hf
        obtain ⟨s28, es28, hf⟩ := nm_ob hf
        refine va_iast hx hb hK hP hD hS 4 0 rfl rfl g27 dX5_takes_185 (fun H locs hP hD hS => ?_)
        have hP : va_P D vwCl (wM ca Ad s28) H := by rw [← es28]; exact hP
        have hD : va_D A (wM ca Ad s28) := by rw [← es28]; exact hD
        obtain rfl := so1 hf
        exact hret _ _ _ _ dX5_takes_186 hP hD hS
  have J29 : ∀ (n29 : Nat) (H : Heap) (locs : List Loc) (ls : Array Slot) (σ : MS) (l1 : Int32) (l3 : Int32) (l4 : Int32), mm_takes_lp29  n29 σ l1 l3 l4 = some σ9 → va_P D vwCl (wM ca Ad σ) H → va_D A (wM ca Ad σ) → va_S A s.heap H locs → lv_has ls 5 [(0, .ref (Ad 0)), (1, .int l1), (3, .int l3), (4, .int l4)] → W p l e { frames := 3, cells := 0, slots := 0, locals := 66 } s m args below meth c H locs 0 0 Q (F0 m 29 ls []) := by
    intro n29
    induction n29 with
    | zero =>
      intro H locs ls σ l1 l3 l4 hf hP hD hS hl
      exact absurd hf (fun h => by cases h)
    | succ n29 ih29 =>
      intro H locs ls σ l1 l3 l4 hf hP hD hS hl
      replace hf : mm_takes_29  (mm_takes_lp29  n29) σ l1 l3 l4 = some σ9 := hf
      unfold mm_takes_29 at hf
      refine lv_aload_n hx hb dX5_takes_29 rfl (lv_at hl 0 rfl) ?_
      refine va_get (D := D) (ci := 5) (v := .ref (Ad 3)) (C := RX5) (T := TX5) (N := 17) hx hb hts in5 hown hK hP 0 rfl rfl 2 (by decide) f16 (fun _ h9 => h9) rfl dX5_takes_30 ?_
      refine lv_sipush (v := 256) hx hb dX5_takes_33 (by decide) ?_
      refine lv_iload_n hx hb dX5_takes_36 rfl (lv_at hl 1 rfl) ?_
      refine lv_imul hx hb dX5_takes_37 ?_
      refine lv_iload hx hb dX5_takes_38 (lv_at hl 3 rfl) ?_
      refine lv_iadd hx hb dX5_takes_40 ?_
      obtain ⟨g5, hf⟩ := gd_ob hf
      refine va_zald hx hb hK hP 3 2 rfl rfl g5 dX5_takes_41 ?_
      refine lv_if_eq (tgt := 152) hx hb dX5_takes_42 (by decide) (fun c6 => ?_) (fun c6 => ?_)
      · replace hf := it_p c6 hf
        exact J152 _ _ _ _ _ hf hP hD hS (lv_sub hl [0, 1] rfl)
      · replace hf := it_n c6 hf
        refine lv_aload_n hx hb dX5_takes_45 rfl (lv_at hl 0 rfl) ?_
        refine lv_iload_n hx hb dX5_takes_46 rfl (lv_at hl 1 rfl) ?_
        refine lv_iload hx hb dX5_takes_47 (lv_at hl 3 rfl) ?_
        obtain ⟨v7, ev7, hf⟩ := bd_ob hf
        refine call_i (As := [.int l1, .int l4]) (rest := []) ⟨hx, hb, hml, hown, hts⟩ (tX5_distance l D ca Ad _ σ l1 l4 v7 ev7) (cwV 2 hts gX5_takes_X5_distance rfl rfl rfl (by decide +kernel) ⟨Nat.le_of_ble_eq_true rfl, Nat.le_of_ble_eq_true rfl⟩) hN hK hP hD hA hS (fr_id _ _) rfl rfl rfl hl.1 rfl (lv_room (Nat.le_of_ble_eq_true rfl)) dX5_takes_49 ⟨Nat.le_refl _, Nat.le_refl _⟩ (fun H locs hP hD hS => ?_)
        refine lv_if_le (tgt := 152) hx hb dX5_takes_52 (by decide) (fun c8 => ?_) (fun c8 => ?_)
        · replace hf := it_p c8 hf
          exact J152 _ _ _ _ _ hf hP hD hS (lv_sub hl [0, 1] rfl)
        · replace hf := it_n c8 hf
          refine lv_aload_n hx hb dX5_takes_55 rfl (lv_at hl 0 rfl) ?_
          refine va_get (D := D) (ci := 5) (v := .ref (Ad 1)) (C := RX5) (T := TX5) (N := 17) hx hb hts in5 hown hK hP 0 rfl rfl 0 (by decide) f7 (fun _ h9 => h9) rfl dX5_takes_56 ?_
          refine lv_sipush (v := 256) hx hb dX5_takes_59 (by decide) ?_
          refine lv_iload_n hx hb dX5_takes_62 rfl (lv_at hl 1 rfl) ?_
          refine lv_imul hx hb dX5_takes_63 ?_
          refine lv_iload_n hx hb dX5_takes_64 rfl (lv_at hl 2 rfl) ?_
          refine lv_iadd hx hb dX5_takes_65 ?_
          refine lv_aload_n hx hb dX5_takes_66 rfl (lv_at hl 0 rfl) ?_
          refine va_get (D := D) (ci := 5) (v := .ref (Ad 1)) (C := RX5) (T := TX5) (N := 17) hx hb hts in5 hown hK hP 0 rfl rfl 0 (by decide) f7 (fun _ h9 => h9) rfl dX5_takes_67 ?_
          refine lv_sipush (v := 256) hx hb dX5_takes_70 (by decide) ?_
          refine lv_iload_n hx hb dX5_takes_73 rfl (lv_at hl 1 rfl) ?_
          refine lv_imul hx hb dX5_takes_74 ?_
          refine lv_iload hx hb dX5_takes_75 (lv_at hl 3 rfl) ?_
          refine lv_iadd hx hb dX5_takes_77 ?_
          obtain ⟨g9, hf⟩ := gd_ob hf
          refine va_iald hx hb hK hP 1 0 rfl rfl g9 dX5_takes_78 ?_
          obtain ⟨g10, hf⟩ := gd_ob hf
          obtain ⟨s11, es11, hf⟩ := nm_ob hf
          refine va_iast hx hb hK hP hD hS 1 0 rfl rfl g10 dX5_takes_79 (fun H locs hP hD hS => ?_)
          have hP : va_P D vwCl (wM ca Ad s11) H := by rw [← es11]; exact hP
          have hD : va_D A (wM ca Ad s11) := by rw [← es11]; exact hD
          refine lv_aload_n hx hb dX5_takes_80 rfl (lv_at hl 0 rfl) ?_
          refine va_get (D := D) (ci := 5) (v := .ref (Ad 2)) (C := RX5) (T := TX5) (N := 17) hx hb hts in5 hown hK hP 0 rfl rfl 1 (by decide) f13 (fun _ h9 => h9) rfl dX5_takes_81 ?_
          refine lv_sipush (v := 256) hx hb dX5_takes_84 (by decide) ?_
          refine lv_iload_n hx hb dX5_takes_87 rfl (lv_at hl 1 rfl) ?_
          refine lv_imul hx hb dX5_takes_88 ?_
          refine lv_iload_n hx hb dX5_takes_89 rfl (lv_at hl 2 rfl) ?_
          refine lv_iadd hx hb dX5_takes_90 ?_
          refine lv_aload_n hx hb dX5_takes_91 rfl (lv_at hl 0 rfl) ?_
          refine va_get (D := D) (ci := 5) (v := .ref (Ad 2)) (C := RX5) (T := TX5) (N := 17) hx hb hts in5 hown hK hP 0 rfl rfl 1 (by decide) f13 (fun _ h9 => h9) rfl dX5_takes_92 ?_
          refine lv_sipush (v := 256) hx hb dX5_takes_95 (by decide) ?_
          refine lv_iload_n hx hb dX5_takes_98 rfl (lv_at hl 1 rfl) ?_
          refine lv_imul hx hb dX5_takes_99 ?_
          refine lv_iload hx hb dX5_takes_100 (lv_at hl 3 rfl) ?_
          refine lv_iadd hx hb dX5_takes_102 ?_
          obtain ⟨g12, hf⟩ := gd_ob hf
          refine va_iald hx hb hK hP 2 0 rfl rfl g12 dX5_takes_103 ?_
          obtain ⟨g13, hf⟩ := gd_ob hf
          obtain ⟨s14, es14, hf⟩ := nm_ob hf
          refine va_iast hx hb hK hP hD hS 2 0 rfl rfl g13 dX5_takes_104 (fun H locs hP hD hS => ?_)
          have hP : va_P D vwCl (wM ca Ad s14) H := by rw [← es14]; exact hP
          have hD : va_D A (wM ca Ad s14) := by rw [← es14]; exact hD
          refine lv_aload_n hx hb dX5_takes_105 rfl (lv_at hl 0 rfl) ?_
          refine va_get (D := D) (ci := 5) (v := .ref (Ad 3)) (C := RX5) (T := TX5) (N := 17) hx hb hts in5 hown hK hP 0 rfl rfl 2 (by decide) f16 (fun _ h9 => h9) rfl dX5_takes_106 ?_
          refine lv_sipush (v := 256) hx hb dX5_takes_109 (by decide) ?_
          refine lv_iload_n hx hb dX5_takes_112 rfl (lv_at hl 1 rfl) ?_
          refine lv_imul hx hb dX5_takes_113 ?_
          refine lv_iload_n hx hb dX5_takes_114 rfl (lv_at hl 2 rfl) ?_
          refine lv_iadd hx hb dX5_takes_115 ?_
          refine lv_iconst (v := 1) hx hb dX5_takes_116 (by decide) ?_
          obtain ⟨g15, hf⟩ := gd_ob hf
          obtain ⟨s16, es16, hf⟩ := nm_ob hf
          refine va_zast hx hb hK hP hD hS 3 2 rfl rfl g15 dX5_takes_117 (fun H locs hP hD hS => ?_)
          have hP : va_P D vwCl (wM ca Ad s16) H := by rw [← es16]; exact hP
          have hD : va_D A (wM ca Ad s16) := by rw [← es16]; exact hD
          refine lv_aload_n hx hb dX5_takes_118 rfl (lv_at hl 0 rfl) ?_
          refine va_get (D := D) (ci := 5) (v := .ref (Ad 3)) (C := RX5) (T := TX5) (N := 17) hx hb hts in5 hown hK hP 0 rfl rfl 2 (by decide) f16 (fun _ h9 => h9) rfl dX5_takes_119 ?_
          refine lv_sipush (v := 256) hx hb dX5_takes_122 (by decide) ?_
          refine lv_iload_n hx hb dX5_takes_125 rfl (lv_at hl 1 rfl) ?_
          refine lv_imul hx hb dX5_takes_126 ?_
          refine lv_iload hx hb dX5_takes_127 (lv_at hl 3 rfl) ?_
          refine lv_iadd hx hb dX5_takes_129 ?_
          refine lv_iconst (v := 0) hx hb dX5_takes_130 (by decide) ?_
          obtain ⟨g17, hf⟩ := gd_ob hf
          obtain ⟨s18, es18, hf⟩ := nm_ob hf
          refine va_zast hx hb hK hP hD hS 3 2 rfl rfl g17 dX5_takes_131 (fun H locs hP hD hS => ?_)
          have hP : va_P D vwCl (wM ca Ad s18) H := by rw [← es18]; exact hP
          have hD : va_D A (wM ca Ad s18) := by rw [← es18]; exact hD
          refine lv_iload hx hb dX5_takes_132 (lv_at hl 3 rfl) ?_
          refine lv_istore_n (lv' := [(3, .int l4), (0, .ref (Ad 0)), (1, .int l1), (4, .int l4)]) hx hb dX5_takes_134 rfl hl (by decide) rfl (fun ls hl => ?_)
          refine lv_iload_n hx hb dX5_takes_135 rfl (lv_at hl 0 rfl) ?_
          refine lv_iconst (v := 1) hx hb dX5_takes_136 (by decide) ?_
          refine lv_iadd hx hb dX5_takes_137 ?_
          refine lv_aload_n hx hb dX5_takes_138 rfl (lv_at hl 1 rfl) ?_
          refine va_get (D := D) (ci := 5) (v := .ref (Ad 4)) (C := RX5) (T := TX5) (N := 17) hx hb hts in5 hown hK hP 0 rfl rfl 3 (by decide) f20 (fun _ h9 => h9) rfl dX5_takes_139 ?_
          refine lv_iload_n hx hb dX5_takes_142 rfl (lv_at hl 2 rfl) ?_
          obtain ⟨g19, hf⟩ := gd_ob hf
          refine va_iald hx hb hK hP 4 0 rfl rfl g19 dX5_takes_143 ?_
          refine lv_iconst (v := 1) hx hb dX5_takes_144 (by decide) ?_
          refine lv_isub hx hb dX5_takes_145 ?_
          refine lv_iand hx hb dX5_takes_146 ?_
          obtain ⟨v20, ev20, hf⟩ := nm_ob hf
          refine tp_i ev20 ?_
          refine lv_istore (lv' := [(4, .int v20), (3, .int l4), (0, .ref (Ad 0)), (1, .int l1)]) hx hb dX5_takes_147 hl (by decide) rfl (fun ls hl => ?_)
          refine lv_goto (tgt := 29) hx hb dX5_takes_149 (by decide) ?_
          exact ih29 _ _ _ _ _ _ _ hf hP hD hS (lv_sub hl [2, 3, 1, 0] rfl)
  unfold mm_takes at hf
  refine lv_iload_n hx hb dX5_takes_0 rfl (lv_at hl 2 rfl) ?_
  refine lv_istore_n (lv' := [(3, .int a1), (0, .ref (Ad 0)), (1, .int a0), (2, .int a1)]) hx hb dX5_takes_1 rfl hl (by decide) rfl (fun ls hl => ?_)
  refine lv_iload_n hx hb dX5_takes_2 rfl (lv_at hl 0 rfl) ?_
  refine lv_iconst (v := 1) hx hb dX5_takes_3 (by decide) ?_
  refine lv_iadd hx hb dX5_takes_4 ?_
  refine lv_aload_n hx hb dX5_takes_5 rfl (lv_at hl 1 rfl) ?_
  refine va_get (D := D) (ci := 5) (v := .ref (Ad 4)) (C := RX5) (T := TX5) (N := 17) hx hb hts in5 hown hK hP 0 rfl rfl 3 (by decide) f20 (fun _ h9 => h9) rfl dX5_takes_6 ?_
  refine lv_iload_n hx hb dX5_takes_9 rfl (lv_at hl 2 rfl) ?_
  obtain ⟨g1, hf⟩ := gd_ob hf
  refine va_iald hx hb hK hP 4 0 rfl rfl g1 dX5_takes_10 ?_
  refine lv_iconst (v := 1) hx hb dX5_takes_11 (by decide) ?_
  refine lv_isub hx hb dX5_takes_12 ?_
  refine lv_iand hx hb dX5_takes_13 ?_
  obtain ⟨v2, ev2, hf⟩ := nm_ob hf
  refine tp_i ev2 ?_
  refine lv_istore (lv' := [(4, .int v2), (3, .int a1), (0, .ref (Ad 0)), (1, .int a0), (2, .int a1)]) hx hb dX5_takes_14 hl (by decide) rfl (fun ls hl => ?_)
  refine lv_aload_n hx hb dX5_takes_16 rfl (lv_at hl 2 rfl) ?_
  refine va_get (D := D) (ci := 5) (v := .ref (Ad 3)) (C := RX5) (T := TX5) (N := 17) hx hb hts in5 hown hK hP 0 rfl rfl 2 (by decide) f16 (fun _ h9 => h9) rfl dX5_takes_17 ?_
  refine lv_sipush (v := 256) hx hb dX5_takes_20 (by decide) ?_
  refine lv_iload_n hx hb dX5_takes_23 rfl (lv_at hl 3 rfl) ?_
  refine lv_imul hx hb dX5_takes_24 ?_
  refine lv_iload_n hx hb dX5_takes_25 rfl (lv_at hl 1 rfl) ?_
  refine lv_iadd hx hb dX5_takes_26 ?_
  refine lv_iconst (v := 0) hx hb dX5_takes_27 (by decide) ?_
  obtain ⟨g3, hf⟩ := gd_ob hf
  obtain ⟨s4, es4, hf⟩ := nm_ob hf
  refine va_zast hx hb hK hP hD hS 3 2 rfl rfl g3 dX5_takes_28 (fun H locs hP hD hS => ?_)
  have hP : va_P D vwCl (wM ca Ad s4) H := by rw [← es4]; exact hP
  have hD : va_D A (wM ca Ad s4) := by rw [← es4]; exact hD
  exact J29 FU _ _ _ _ _ _ _ hf hP hD hS (lv_sub hl [2, 3, 1, 0] rfl)

def mm_slice_25  (k9 : MS → Int32 → Int32 → Option (Int32 × MS)) (k25 : MS → Int32 → Int32 → Int32 → Option (Int32 × MS)) (σ : MS) (l1 : Int32) (l2 : Int32) (l3 : Int32) : Option (Int32 × MS) :=
  gd ((256 * l1) + l3) 512 <|
  if (m_full σ ((256 * l1) + l3).toNatClampNeg) = 0 then
    nm (l3 + 1) fun v16 =>
    k25 σ l1 l2 v16
  else
    gd ((256 * l1) + l3) 512 <|
    nm (m_keys σ ((256 * l1) + l3).toNatClampNeg) fun v8 =>
    gd ((256 * l1) + l3) 512 <|
    nm (m_values σ ((256 * l1) + l3).toNatClampNeg) fun v10 =>
    bd (mm_takes σ l1 l3) fun s12 =>
    bd2 (mm_carries s12 (m_present s12) v8 v10 0) fun v13 s14 =>
    nm (l2 + 1) fun v15 =>
    k9 s14 l1 v15
def mm_slice_lp25  (k9 : MS → Int32 → Int32 → Option (Int32 × MS)) : Nat → MS → Int32 → Int32 → Int32 → Option (Int32 × MS) := itF (fun _ _ _ _ => none) (fun k => mm_slice_25  k9 k)
def mm_slice_9  (k9 : MS → Int32 → Int32 → Option (Int32 × MS)) (σ : MS) (l1 : Int32) (l2 : Int32) : Option (Int32 × MS) :=
  if 4 ≤ l2 then
    some (l2, σ)
  else
    gd l1 2 <|
    if (m_many σ l1.toNatClampNeg) ≤ 0 then
      some (l2, σ)
    else
      mm_slice_lp25 k9 FU σ l1 l2 0
def mm_slice_lp9   : Nat → MS → Int32 → Int32 → Option (Int32 × MS) := itF (fun _ _ _ => none) (fun k => mm_slice_9   k)
def mm_slice  (σ : MS)  : Option (Int32 × MS) :=
  nm (1 - (m_present σ)) fun v1 =>
  mm_slice_lp9 FU σ v1 0
set_option maxHeartbeats 4000000 in
set_option maxRecDepth 100000 in
theorem tX5_slice (l : Launch) (D : va_G) (ca : Nat → ClassId) (Ad : Nat → Nat) (sz : Nat)  (σ : MS)  (r : Int32) (σ9 : MS) (hf : mm_slice σ = some (r, σ9)) : Ci l D ca yX5_slice wsX5_slice { frames := 4, cells := 0, slots := 0, locals := 98 } [.ref (Ad 0)] (wM ca Ad σ) sz r (wM ca Ad σ9) := by
  refine body_of (cc := cX5_slice) (maxL := 6) (ret := (some .int)) (fun A => Qi D ca r (wM ca Ad σ9) A) (by decide) rfl (Nat.le_of_ble_eq_true rfl) ?_
  intro p e s m below meth c A ls hx hb hr hml hts hown hlocks hA hK hP hD hS hl hN
  have hl : lv_has ls 6 [(0, .ref (Ad 0))] := hl
  have hret : ∀ (pc : Nat) (ls : Array Slot) (H : Heap) (locs : List Loc), decode cX5_slice pc = .ok (.ireturn, 1) → va_P D vwCl (wM ca Ad σ9) H → va_D A (wM ca Ad σ9) → va_S A s.heap H locs → W p l e { frames := 4, cells := 0, slots := 0, locals := 98 } s m ([.ref (Ad 0)] : List Value).toArray below meth c H locs 0 0 (MQ below (Qi D ca r (wM ca Ad σ9) A) ([.ref (Ad 0)] : List Value).toArray s 0 0 A) (F0 m pc ls [.int r]) := fun pc ls H locs hd hP hD hS => ret_i hx hb hr hlocks hK hP hD hS hd
  generalize MQ below (Qi D ca r (wM ca Ad σ9) A) ([.ref (Ad 0)] : List Value).toArray s 0 0 A = Q at hret ⊢
  generalize ([.ref (Ad 0)] : List Value).toArray = args at hts hret ⊢
  have f13 := hts (.fieldLink RX5 13 "RobinRowModel" "values" "[I") (by decide +kernel)
  have f16 := hts (.fieldLink RX5 16 "RobinRowModel" "isFull" "[Z") (by decide +kernel)
  have f23 := hts (.fieldLink RX5 23 "RobinRowModel" "many" "[I") (by decide +kernel)
  have f64 := hts (.fieldLink RX5 64 "RobinRowModel" "present" "I") (by decide +kernel)
  have f7 := hts (.fieldLink RX5 7 "RobinRowModel" "keys" "[I") (by decide +kernel)
  have in5 : ∀ w ∈ u_ws RX5 TX5 17, w ∈ wsX5_slice := by decide +kernel
  have J9 : ∀ (n9 : Nat) (H : Heap) (locs : List Loc) (ls : Array Slot) (σ : MS) (l1 : Int32) (l2 : Int32), mm_slice_lp9  n9 σ l1 l2 = some (r, σ9) → va_P D vwCl (wM ca Ad σ) H → va_D A (wM ca Ad σ) → va_S A s.heap H locs → lv_has ls 6 [(0, .ref (Ad 0)), (1, .int l1), (2, .int l2)] → W p l e { frames := 4, cells := 0, slots := 0, locals := 98 } s m args below meth c H locs 0 0 Q (F0 m 9 ls []) := by
    intro n9
    induction n9 with
    | zero =>
      intro H locs ls σ l1 l2 hf hP hD hS hl
      exact absurd hf (fun h => by cases h)
    | succ n9 ih9 =>
      have J25 : ∀ (n25 : Nat) (H : Heap) (locs : List Loc) (ls : Array Slot) (σ : MS) (l1 : Int32) (l2 : Int32) (l3 : Int32), mm_slice_lp25 (mm_slice_lp9  n9) n25 σ l1 l2 l3 = some (r, σ9) → va_P D vwCl (wM ca Ad σ) H → va_D A (wM ca Ad σ) → va_S A s.heap H locs → lv_has ls 6 [(0, .ref (Ad 0)), (1, .int l1), (2, .int l2), (3, .int l3)] → W p l e { frames := 4, cells := 0, slots := 0, locals := 98 } s m args below meth c H locs 0 0 Q (F0 m 25 ls []) := by
        intro n25
        induction n25 with
        | zero =>
          intro H locs ls σ l1 l2 l3 hf hP hD hS hl
          exact absurd hf (fun h => by cases h)
        | succ n25 ih25 =>
          intro H locs ls σ l1 l2 l3 hf hP hD hS hl
          replace hf : mm_slice_25 (mm_slice_lp9  n9) (mm_slice_lp25 (mm_slice_lp9  n9) n25) σ l1 l2 l3 = some (r, σ9) := hf
          unfold mm_slice_25 at hf
          refine lv_aload_n hx hb dX5_slice_25 rfl (lv_at hl 0 rfl) ?_
          refine va_get (D := D) (ci := 5) (v := .ref (Ad 3)) (C := RX5) (T := TX5) (N := 17) hx hb hts in5 hown hK hP 0 rfl rfl 2 (by decide) f16 (fun _ h9 => h9) rfl dX5_slice_26 ?_
          refine lv_sipush (v := 256) hx hb dX5_slice_29 (by decide) ?_
          refine lv_iload_n hx hb dX5_slice_32 rfl (lv_at hl 1 rfl) ?_
          refine lv_imul hx hb dX5_slice_33 ?_
          refine lv_iload_n hx hb dX5_slice_34 rfl (lv_at hl 3 rfl) ?_
          refine lv_iadd hx hb dX5_slice_35 ?_
          obtain ⟨g5, hf⟩ := gd_ob hf
          refine va_zald hx hb hK hP 3 2 rfl rfl g5 dX5_slice_36 ?_
          refine lv_if_ne (tgt := 46) hx hb dX5_slice_37 (by decide) (fun c6 => ?_) (fun c6 => ?_)
          · replace hf := it_n c6 hf
            refine lv_aload_n hx hb dX5_slice_46 rfl (lv_at hl 0 rfl) ?_
            refine va_get (D := D) (ci := 5) (v := .ref (Ad 1)) (C := RX5) (T := TX5) (N := 17) hx hb hts in5 hown hK hP 0 rfl rfl 0 (by decide) f7 (fun _ h9 => h9) rfl dX5_slice_47 ?_
            refine lv_sipush (v := 256) hx hb dX5_slice_50 (by decide) ?_
            refine lv_iload_n hx hb dX5_slice_53 rfl (lv_at hl 1 rfl) ?_
            refine lv_imul hx hb dX5_slice_54 ?_
            refine lv_iload_n hx hb dX5_slice_55 rfl (lv_at hl 3 rfl) ?_
            refine lv_iadd hx hb dX5_slice_56 ?_
            obtain ⟨g7, hf⟩ := gd_ob hf
            refine va_iald hx hb hK hP 1 0 rfl rfl g7 dX5_slice_57 ?_
            obtain ⟨v8, ev8, hf⟩ := nm_ob hf
            refine tp_i ev8 ?_
            refine lv_istore (lv' := [(4, .int v8), (0, .ref (Ad 0)), (1, .int l1), (2, .int l2), (3, .int l3)]) hx hb dX5_slice_58 hl (by decide) rfl (fun ls hl => ?_)
            refine lv_aload_n hx hb dX5_slice_60 rfl (lv_at hl 1 rfl) ?_
            refine va_get (D := D) (ci := 5) (v := .ref (Ad 2)) (C := RX5) (T := TX5) (N := 17) hx hb hts in5 hown hK hP 0 rfl rfl 1 (by decide) f13 (fun _ h9 => h9) rfl dX5_slice_61 ?_
            refine lv_sipush (v := 256) hx hb dX5_slice_64 (by decide) ?_
            refine lv_iload_n hx hb dX5_slice_67 rfl (lv_at hl 2 rfl) ?_
            refine lv_imul hx hb dX5_slice_68 ?_
            refine lv_iload_n hx hb dX5_slice_69 rfl (lv_at hl 4 rfl) ?_
            refine lv_iadd hx hb dX5_slice_70 ?_
            obtain ⟨g9, hf⟩ := gd_ob hf
            refine va_iald hx hb hK hP 2 0 rfl rfl g9 dX5_slice_71 ?_
            obtain ⟨v10, ev10, hf⟩ := nm_ob hf
            refine tp_i ev10 ?_
            refine lv_istore (lv' := [(5, .int v10), (4, .int v8), (0, .ref (Ad 0)), (1, .int l1), (2, .int l2), (3, .int l3)]) hx hb dX5_slice_72 hl (by decide) rfl (fun ls hl => ?_)
            refine lv_aload_n hx hb dX5_slice_74 rfl (lv_at hl 2 rfl) ?_
            refine lv_iload_n hx hb dX5_slice_75 rfl (lv_at hl 3 rfl) ?_
            refine lv_iload_n hx hb dX5_slice_76 rfl (lv_at hl 5 rfl) ?_
            obtain ⟨s12, es12, hf⟩ := bd_ob hf
            refine call_v (As := [.int l1, .int l3]) (rest := []) ⟨hx, hb, hml, hown, hts⟩ (tX5_takes l D ca Ad _ σ l1 l3 s12 es12) (cwV 2 hts gX5_slice_X5_takes rfl rfl rfl (by decide +kernel) ⟨Nat.le_of_ble_eq_true rfl, Nat.le_of_ble_eq_true rfl⟩) hN hK hP hD hA hS (fr_id _ _) rfl rfl rfl hl.1 rfl (lv_room (Nat.le_of_ble_eq_true rfl)) dX5_slice_77 ⟨Nat.le_refl _, Nat.le_refl _⟩ (fun H locs hP hD hS => ?_)
            refine lv_aload_n hx hb dX5_slice_80 rfl (lv_at hl 2 rfl) ?_
            refine lv_aload_n hx hb dX5_slice_81 rfl (lv_at hl 2 rfl) ?_
            refine va_get (D := D) (ci := 5) (v := .int (m_present s12)) (C := RX5) (T := TX5) (N := 17) hx hb hts in5 hown hK hP 0 rfl rfl 5 (by decide) f64 (fun _ h9 => h9) rfl dX5_slice_82 ?_
            refine lv_iload hx hb dX5_slice_85 (lv_at hl 1 rfl) ?_
            refine lv_iload hx hb dX5_slice_87 (lv_at hl 0 rfl) ?_
            refine lv_iconst (v := 0) hx hb dX5_slice_89 (by decide) ?_
            obtain ⟨v13, s14, ev13, hf⟩ := bd2_ob hf
            refine call_i (As := [.int (m_present s12), .int v8, .int v10, .int 0]) (rest := []) ⟨hx, hb, hml, hown, hts⟩ (tX5_carries l D ca Ad _ s12 (m_present s12) v8 v10 0 v13 s14 ev13) (cwV 4 hts gX5_slice_X5_carries rfl rfl rfl (by decide +kernel) ⟨Nat.le_of_ble_eq_true rfl, Nat.le_of_ble_eq_true rfl⟩) hN hK hP hD hA hS (fr_id _ _) rfl rfl rfl hl.1 rfl (lv_room (Nat.le_of_ble_eq_true rfl)) dX5_slice_90 ⟨Nat.le_refl _, Nat.le_refl _⟩ (fun H locs hP hD hS => ?_)
            refine lv_pop hx hb dX5_slice_93 rfl ?_
            obtain ⟨v15, ev15, hf⟩ := nm_ob hf
            refine lv_iinc (v := v15) (lv' := [(2, .int v15), (5, .int v10), (4, .int v8), (0, .ref (Ad 0)), (1, .int l1), (3, .int l3)]) hx hb dX5_slice_94 hl (k := 4) rfl (by rw [← ev15]; rfl) (by decide) rfl (fun ls hl => ?_)
            refine lv_goto (tgt := 9) hx hb dX5_slice_97 (by decide) ?_
            exact ih9 _ _ _ _ _ _ hf hP hD hS (lv_sub hl [3, 4, 0] rfl)
          · replace hf := it_p c6 hf
            obtain ⟨v16, ev16, hf⟩ := nm_ob hf
            refine lv_iinc (v := v16) (lv' := [(3, .int v16), (0, .ref (Ad 0)), (1, .int l1), (2, .int l2)]) hx hb dX5_slice_40 hl (k := 3) rfl (by rw [← ev16]; rfl) (by decide) rfl (fun ls hl => ?_)
            refine lv_goto (tgt := 25) hx hb dX5_slice_43 (by decide) ?_
            exact ih25 _ _ _ _ _ _ _ hf hP hD hS (lv_sub hl [1, 2, 3, 0] rfl)
      intro H locs ls σ l1 l2 hf hP hD hS hl
      replace hf : mm_slice_9  (mm_slice_lp9  n9) σ l1 l2 = some (r, σ9) := hf
      unfold mm_slice_9 at hf
      refine lv_iload_n hx hb dX5_slice_9 rfl (lv_at hl 2 rfl) ?_
      refine lv_iconst (v := 4) hx hb dX5_slice_10 (by decide) ?_
      refine lv_icmp_ge (tgt := 100) hx hb dX5_slice_11 (by decide) (fun c2 => ?_) (fun c2 => ?_)
      · replace hf := it_p c2 hf
        refine lv_iload_n hx hb dX5_slice_100 rfl (lv_at hl 2 rfl) ?_
        obtain ⟨rfl, rfl⟩ := so2 hf
        exact hret _ _ _ _ dX5_slice_101 hP hD hS
      · replace hf := it_n c2 hf
        refine lv_aload_n hx hb dX5_slice_14 rfl (lv_at hl 0 rfl) ?_
        refine va_get (D := D) (ci := 5) (v := .ref (Ad 5)) (C := RX5) (T := TX5) (N := 17) hx hb hts in5 hown hK hP 0 rfl rfl 4 (by decide) f23 (fun _ h9 => h9) rfl dX5_slice_15 ?_
        refine lv_iload_n hx hb dX5_slice_18 rfl (lv_at hl 1 rfl) ?_
        obtain ⟨g3, hf⟩ := gd_ob hf
        refine va_iald hx hb hK hP 5 0 rfl rfl g3 dX5_slice_19 ?_
        refine lv_if_le (tgt := 100) hx hb dX5_slice_20 (by decide) (fun c4 => ?_) (fun c4 => ?_)
        · replace hf := it_p c4 hf
          refine lv_iload_n hx hb dX5_slice_100 rfl (lv_at hl 2 rfl) ?_
          obtain ⟨rfl, rfl⟩ := so2 hf
          exact hret _ _ _ _ dX5_slice_101 hP hD hS
        · replace hf := it_n c4 hf
          refine lv_iconst (v := 0) hx hb dX5_slice_23 (by decide) ?_
          refine lv_istore_n (lv' := [(3, .int 0), (0, .ref (Ad 0)), (1, .int l1), (2, .int l2)]) hx hb dX5_slice_24 rfl hl (by decide) rfl (fun ls hl => ?_)
          exact J25 FU _ _ _ _ _ _ _ hf hP hD hS (lv_sub hl [1, 2, 3, 0] rfl)
  unfold mm_slice at hf
  refine lv_iconst (v := 1) hx hb dX5_slice_0 (by decide) ?_
  refine lv_aload_n hx hb dX5_slice_1 rfl (lv_at hl 0 rfl) ?_
  refine va_get (D := D) (ci := 5) (v := .int (m_present σ)) (C := RX5) (T := TX5) (N := 17) hx hb hts in5 hown hK hP 0 rfl rfl 5 (by decide) f64 (fun _ h9 => h9) rfl dX5_slice_2 ?_
  refine lv_isub hx hb dX5_slice_5 ?_
  obtain ⟨v1, ev1, hf⟩ := nm_ob hf
  refine tp_i ev1 ?_
  refine lv_istore_n (lv' := [(1, .int v1), (0, .ref (Ad 0))]) hx hb dX5_slice_6 rfl hl (by decide) rfl (fun ls hl => ?_)
  refine lv_iconst (v := 0) hx hb dX5_slice_7 (by decide) ?_
  refine lv_istore_n (lv' := [(2, .int 0), (1, .int v1), (0, .ref (Ad 0))]) hx hb dX5_slice_8 rfl hl (by decide) rfl (fun ls hl => ?_)
  exact J9 FU _ _ _ _ _ _ hf hP hD hS (lv_sub hl [2, 1, 0] rfl)

def mm_isThere  (σ : MS) (a0 : Int32) : Option Int32 :=
  bd (mm_slotOf σ 0 a0) fun v1 =>
  if v1 = (-1) then
    bd (mm_slotOf σ 1 a0) fun v3 =>
    if v3 = (-1) then
      some 0
    else
      some 1
  else
    some 1
set_option maxHeartbeats 4000000 in
set_option maxRecDepth 100000 in
theorem tX5_isThere (l : Launch) (D : va_G) (ca : Nat → ClassId) (Ad : Nat → Nat) (sz : Nat)  (σ : MS) (a0 : Int32) (r : Int32) (hf : mm_isThere σ a0 = some r) : Ci l D ca yX5_isThere wsX5_isThere { frames := 1, cells := 0, slots := 0, locals := 24 } [.ref (Ad 0), .int a0] (wM ca Ad σ) sz r (wM ca Ad σ) := by
  refine body_of (cc := cX5_isThere) (maxL := 2) (ret := (some .boolean)) (fun A => Qi D ca r (wM ca Ad σ) A) (by decide) rfl (Nat.le_of_ble_eq_true rfl) ?_
  intro p e s m below meth c A ls hx hb hr hml hts hown hlocks hA hK hP hD hS hl hN
  have hl : lv_has ls 2 [(0, .ref (Ad 0)), (1, .int a0)] := hl
  have hret : ∀ (pc : Nat) (ls : Array Slot) (H : Heap) (locs : List Loc), decode cX5_isThere pc = .ok (.ireturn, 1) → narrow .boolean (.int r) = .int r → va_P D vwCl (wM ca Ad σ) H → va_D A (wM ca Ad σ) → va_S A s.heap H locs → W p l e { frames := 1, cells := 0, slots := 0, locals := 24 } s m ([.ref (Ad 0), .int a0] : List Value).toArray below meth c H locs 0 0 (MQ below (Qi D ca r (wM ca Ad σ) A) ([.ref (Ad 0), .int a0] : List Value).toArray s 0 0 A) (F0 m pc ls [.int r]) := fun pc ls H locs hd hn hP hD hS => ret_z hx hb hr hn hlocks hK hP hD hS hd
  generalize MQ below (Qi D ca r (wM ca Ad σ) A) ([.ref (Ad 0), .int a0] : List Value).toArray s 0 0 A = Q at hret ⊢
  generalize ([.ref (Ad 0), .int a0] : List Value).toArray = args at hts hret ⊢
  unfold mm_isThere at hf
  refine lv_aload_n hx hb dX5_isThere_0 rfl (lv_at hl 0 rfl) ?_
  refine lv_iconst (v := 0) hx hb dX5_isThere_1 (by decide) ?_
  refine lv_iload_n hx hb dX5_isThere_2 rfl (lv_at hl 1 rfl) ?_
  obtain ⟨v1, ev1, hf⟩ := bd_ob hf
  refine call_i (As := [.int 0, .int a0]) (rest := []) ⟨hx, hb, hml, hown, hts⟩ (tX5_slotOf l D ca Ad _ σ 0 a0 v1 ev1) (cwV 2 hts gX5_isThere_X5_slotOf rfl rfl rfl (by decide +kernel) ⟨Nat.le_of_ble_eq_true rfl, Nat.le_of_ble_eq_true rfl⟩) hN hK hP hD hA hS (fr_id _ _) rfl rfl rfl hl.1 rfl (lv_room (Nat.le_of_ble_eq_true rfl)) dX5_isThere_3 ⟨Nat.le_refl _, Nat.le_refl _⟩ (fun H locs hP hD hS => ?_)
  refine lv_iconst (v := (-1)) hx hb dX5_isThere_6 (by decide) ?_
  refine lv_icmp_ne (tgt := 20) hx hb dX5_isThere_7 (by decide) (fun c2 => ?_) (fun c2 => ?_)
  · replace hf := it_n c2 hf
    refine lv_iconst (v := 1) hx hb dX5_isThere_20 (by decide) ?_
    refine lv_goto (tgt := 25) hx hb dX5_isThere_21 (by decide) ?_
    obtain rfl := so1 hf
    exact hret _ _ _ _ dX5_isThere_25 rfl hP hD hS
  · replace hf := it_p c2 hf
    refine lv_aload_n hx hb dX5_isThere_10 rfl (lv_at hl 0 rfl) ?_
    refine lv_iconst (v := 1) hx hb dX5_isThere_11 (by decide) ?_
    refine lv_iload_n hx hb dX5_isThere_12 rfl (lv_at hl 1 rfl) ?_
    obtain ⟨v3, ev3, hf⟩ := bd_ob hf
    refine call_i (As := [.int 1, .int a0]) (rest := []) ⟨hx, hb, hml, hown, hts⟩ (tX5_slotOf l D ca Ad _ σ 1 a0 v3 ev3) (cwV 2 hts gX5_isThere_X5_slotOf rfl rfl rfl (by decide +kernel) ⟨Nat.le_of_ble_eq_true rfl, Nat.le_of_ble_eq_true rfl⟩) hN hK hP hD hA hS (fr_id _ _) rfl rfl rfl hl.1 rfl (lv_room (Nat.le_of_ble_eq_true rfl)) dX5_isThere_13 ⟨Nat.le_refl _, Nat.le_refl _⟩ (fun H locs hP hD hS => ?_)
    refine lv_iconst (v := (-1)) hx hb dX5_isThere_16 (by decide) ?_
    refine lv_icmp_eq (tgt := 24) hx hb dX5_isThere_17 (by decide) (fun c4 => ?_) (fun c4 => ?_)
    · replace hf := it_p c4 hf
      refine lv_iconst (v := 0) hx hb dX5_isThere_24 (by decide) ?_
      obtain rfl := so1 hf
      exact hret _ _ _ _ dX5_isThere_25 rfl hP hD hS
    · replace hf := it_n c4 hf
      refine lv_iconst (v := 1) hx hb dX5_isThere_20 (by decide) ?_
      refine lv_goto (tgt := 25) hx hb dX5_isThere_21 (by decide) ?_
      obtain rfl := so1 hf
      exact hret _ _ _ _ dX5_isThere_25 rfl hP hD hS

def mm_placeOf_15  (σ : MS)   (l1 : Int32) (t0 : Int32) : Option Int32 :=
  bd (mm_isThere σ l1) fun v3 =>
  if v3 = 0 then
    some (-1)
  else
    bd (mm_slotOf σ t0 l1) fun v5 =>
    some ((256 * t0) + v5)
def mm_placeOf  (σ : MS) (a0 : Int32) : Option Int32 :=
  bd (mm_slotOf σ 0 a0) fun v1 =>
  if v1 = (-1) then
    mm_placeOf_15 σ a0 1
  else
    mm_placeOf_15 σ a0 0
set_option maxHeartbeats 4000000 in
set_option maxRecDepth 100000 in
theorem tX5_placeOf (l : Launch) (D : va_G) (ca : Nat → ClassId) (Ad : Nat → Nat) (sz : Nat)  (σ : MS) (a0 : Int32) (r : Int32) (hf : mm_placeOf σ a0 = some r) : Ci l D ca yX5_placeOf wsX5_placeOf { frames := 2, cells := 0, slots := 0, locals := 45 } [.ref (Ad 0), .int a0] (wM ca Ad σ) sz r (wM ca Ad σ) := by
  refine body_of (cc := cX5_placeOf) (maxL := 3) (ret := (some .int)) (fun A => Qi D ca r (wM ca Ad σ) A) (by decide) rfl (Nat.le_of_ble_eq_true rfl) ?_
  intro p e s m below meth c A ls hx hb hr hml hts hown hlocks hA hK hP hD hS hl hN
  have hl : lv_has ls 3 [(0, .ref (Ad 0)), (1, .int a0)] := hl
  have hret : ∀ (pc : Nat) (ls : Array Slot) (H : Heap) (locs : List Loc), decode cX5_placeOf pc = .ok (.ireturn, 1) → va_P D vwCl (wM ca Ad σ) H → va_D A (wM ca Ad σ) → va_S A s.heap H locs → W p l e { frames := 2, cells := 0, slots := 0, locals := 45 } s m ([.ref (Ad 0), .int a0] : List Value).toArray below meth c H locs 0 0 (MQ below (Qi D ca r (wM ca Ad σ) A) ([.ref (Ad 0), .int a0] : List Value).toArray s 0 0 A) (F0 m pc ls [.int r]) := fun pc ls H locs hd hP hD hS => ret_i hx hb hr hlocks hK hP hD hS hd
  generalize MQ below (Qi D ca r (wM ca Ad σ) A) ([.ref (Ad 0), .int a0] : List Value).toArray s 0 0 A = Q at hret ⊢
  generalize ([.ref (Ad 0), .int a0] : List Value).toArray = args at hts hret ⊢
  have J15 : ∀ (H : Heap) (locs : List Loc) (ls : Array Slot)  (l1 : Int32) (t0 : Int32), mm_placeOf_15 σ  l1 t0 = some r → va_P D vwCl (wM ca Ad σ) H → va_D A (wM ca Ad σ) → va_S A s.heap H locs → lv_has ls 3 [(0, .ref (Ad 0)), (1, .int l1)] → W p l e { frames := 2, cells := 0, slots := 0, locals := 45 } s m args below meth c H locs 0 0 Q (F0 m 15 ls [.int t0]) := by
    intro H locs ls l1 t0 hf hP hD hS hl
    unfold mm_placeOf_15 at hf
    refine lv_istore_n (lv' := [(2, .int t0), (0, .ref (Ad 0)), (1, .int l1)]) hx hb dX5_placeOf_15 rfl hl (by decide) rfl (fun ls hl => ?_)
    refine lv_aload_n hx hb dX5_placeOf_16 rfl (lv_at hl 1 rfl) ?_
    refine lv_iload_n hx hb dX5_placeOf_17 rfl (lv_at hl 2 rfl) ?_
    obtain ⟨v3, ev3, hf⟩ := bd_ob hf
    refine call_i (As := [.int l1]) (rest := []) ⟨hx, hb, hml, hown, hts⟩ (tX5_isThere l D ca Ad _ σ l1 v3 ev3) (cwV 1 hts gX5_placeOf_X5_isThere rfl rfl rfl (by decide +kernel) ⟨Nat.le_of_ble_eq_true rfl, Nat.le_of_ble_eq_true rfl⟩) hN hK hP hD hA hS (fr_id _ _) rfl rfl rfl hl.1 rfl (lv_room (Nat.le_of_ble_eq_true rfl)) dX5_placeOf_18 ⟨Nat.le_refl _, Nat.le_refl _⟩ (fun H locs hP hD hS => ?_)
    refine lv_if_eq (tgt := 39) hx hb dX5_placeOf_21 (by decide) (fun c4 => ?_) (fun c4 => ?_)
    · replace hf := it_p c4 hf
      refine lv_iconst (v := (-1)) hx hb dX5_placeOf_39 (by decide) ?_
      obtain rfl := so1 hf
      exact hret _ _ _ _ dX5_placeOf_40 hP hD hS
    · replace hf := it_n c4 hf
      refine lv_sipush (v := 256) hx hb dX5_placeOf_24 (by decide) ?_
      refine lv_iload_n hx hb dX5_placeOf_27 rfl (lv_at hl 0 rfl) ?_
      refine lv_imul hx hb dX5_placeOf_28 ?_
      refine lv_aload_n hx hb dX5_placeOf_29 rfl (lv_at hl 1 rfl) ?_
      refine lv_iload_n hx hb dX5_placeOf_30 rfl (lv_at hl 0 rfl) ?_
      refine lv_iload_n hx hb dX5_placeOf_31 rfl (lv_at hl 2 rfl) ?_
      obtain ⟨v5, ev5, hf⟩ := bd_ob hf
      refine call_i (As := [.int t0, .int l1]) (rest := [.int (256 * t0)]) ⟨hx, hb, hml, hown, hts⟩ (tX5_slotOf l D ca Ad _ σ t0 l1 v5 ev5) (cwV 2 hts gX5_placeOf_X5_slotOf rfl rfl rfl (by decide +kernel) ⟨Nat.le_of_ble_eq_true rfl, Nat.le_of_ble_eq_true rfl⟩) hN hK hP hD hA hS (fr_id _ _) rfl rfl rfl hl.1 rfl (lv_room (Nat.le_of_ble_eq_true rfl)) dX5_placeOf_32 ⟨Nat.le_refl _, Nat.le_refl _⟩ (fun H locs hP hD hS => ?_)
      refine lv_iadd hx hb dX5_placeOf_35 ?_
      refine lv_goto (tgt := 40) hx hb dX5_placeOf_36 (by decide) ?_
      obtain rfl := so1 hf
      exact hret _ _ _ _ dX5_placeOf_40 hP hD hS
  unfold mm_placeOf at hf
  refine lv_aload_n hx hb dX5_placeOf_0 rfl (lv_at hl 0 rfl) ?_
  refine lv_iconst (v := 0) hx hb dX5_placeOf_1 (by decide) ?_
  refine lv_iload_n hx hb dX5_placeOf_2 rfl (lv_at hl 1 rfl) ?_
  obtain ⟨v1, ev1, hf⟩ := bd_ob hf
  refine call_i (As := [.int 0, .int a0]) (rest := []) ⟨hx, hb, hml, hown, hts⟩ (tX5_slotOf l D ca Ad _ σ 0 a0 v1 ev1) (cwV 2 hts gX5_placeOf_X5_slotOf rfl rfl rfl (by decide +kernel) ⟨Nat.le_of_ble_eq_true rfl, Nat.le_of_ble_eq_true rfl⟩) hN hK hP hD hA hS (fr_id _ _) rfl rfl rfl hl.1 rfl (lv_room (Nat.le_of_ble_eq_true rfl)) dX5_placeOf_3 ⟨Nat.le_refl _, Nat.le_refl _⟩ (fun H locs hP hD hS => ?_)
  refine lv_iconst (v := (-1)) hx hb dX5_placeOf_6 (by decide) ?_
  refine lv_icmp_eq (tgt := 14) hx hb dX5_placeOf_7 (by decide) (fun c2 => ?_) (fun c2 => ?_)
  · replace hf := it_p c2 hf
    refine lv_iconst (v := 1) hx hb dX5_placeOf_14 (by decide) ?_
    exact J15 _ _ _ _ _ hf hP hD hS (lv_sub hl [0, 1] rfl)
  · replace hf := it_n c2 hf
    refine lv_iconst (v := 0) hx hb dX5_placeOf_10 (by decide) ?_
    refine lv_goto (tgt := 15) hx hb dX5_placeOf_11 (by decide) ?_
    exact J15 _ _ _ _ _ hf hP hD hS (lv_sub hl [0, 1] rfl)

def mm_clear_90  (k90 : MS → Int32 → Option MS) (σ : MS) (l2 : Int32) : Option MS :=
  if 4 ≤ l2 then
    some σ
  else
    gd l2 4 <|
    nm (m_open' σ (upd (m_open σ) l2.toNatClampNeg 0)) fun s23 =>
    nm (l2 + 1) fun v24 =>
    k90 s23 v24
def mm_clear_lp90   : Nat → MS → Int32 → Option MS := itF (fun _ _ => none) (fun k => mm_clear_90   k)
def mm_clear_29  (k29 : MS → Int32 → Option MS) (σ : MS) (l2 : Int32) : Option MS :=
  if 512 ≤ l2 then
    nm (m_present' σ 0) fun s8 =>
    gd 0 2 <|
    nm (m_slots' s8 (upd (m_slots s8) (0 : Int32).toNatClampNeg 8)) fun s10 =>
    gd 1 2 <|
    nm (m_slots' s10 (upd (m_slots s10) (1 : Int32).toNatClampNeg 0)) fun s12 =>
    gd 0 2 <|
    nm (m_many' s12 (upd (m_many s12) (0 : Int32).toNatClampNeg 0)) fun s14 =>
    gd 1 2 <|
    nm (m_many' s14 (upd (m_many s14) (1 : Int32).toNatClampNeg 0)) fun s16 =>
    nm (m_moves' s16 0) fun s17 =>
    mm_clear_lp90 FU s17 0
  else
    gd l2 512 <|
    nm (m_full' σ (upd (m_full σ) l2.toNatClampNeg 0)) fun s19 =>
    nm (l2 + 1) fun v20 =>
    k29 s19 v20
def mm_clear_lp29   : Nat → MS → Int32 → Option MS := itF (fun _ _ => none) (fun k => mm_clear_29   k)
def mm_clear_15   (σ : MS) (l1 : Int32) (t1 : Int32) : Option MS :=
  bd2 (mm_isFine σ t1) fun v3 s4 =>
  if v3 = 0 then
    some s4
  else
    nm (m_way' s4 l1) fun s6 =>
    mm_clear_lp29 FU s6 0
def mm_clear  (σ : MS) (a0 : Int32) : Option MS :=
  bd (mm_in a0 0 1) fun v1 =>
  if v1 = 0 then
    mm_clear_15 σ a0 1
  else
    mm_clear_15 σ a0 0
set_option maxHeartbeats 4000000 in
set_option maxRecDepth 100000 in
theorem tX5_clear (l : Launch) (D : va_G) (ca : Nat → ClassId) (Ad : Nat → Nat) (sz : Nat)  (σ : MS) (a0 : Int32) (σ9 : MS) (hf : mm_clear σ a0 = some σ9) : Cv l D ca yX5_clear wsX5_clear { frames := 1, cells := 0, slots := 0, locals := 22 } [.ref (Ad 0), .int a0] (wM ca Ad σ) sz (wM ca Ad σ9) := by
  refine body_of (cc := cX5_clear) (maxL := 3) (ret := none) (fun A => Qv D ca (wM ca Ad σ9) A) (by decide) rfl (Nat.le_of_ble_eq_true rfl) ?_
  intro p e s m below meth c A ls hx hb hr hml hts hown hlocks hA hK hP hD hS hl hN
  have hl : lv_has ls 3 [(0, .ref (Ad 0)), (1, .int a0)] := hl
  have hret : ∀ (pc : Nat) (ls : Array Slot) (H : Heap) (locs : List Loc), decode cX5_clear pc = .ok (.return_, 1) → va_P D vwCl (wM ca Ad σ9) H → va_D A (wM ca Ad σ9) → va_S A s.heap H locs → W p l e { frames := 1, cells := 0, slots := 0, locals := 22 } s m ([.ref (Ad 0), .int a0] : List Value).toArray below meth c H locs 0 0 (MQ below (Qv D ca (wM ca Ad σ9) A) ([.ref (Ad 0), .int a0] : List Value).toArray s 0 0 A) (F0 m pc ls []) := fun pc ls H locs hd hP hD hS => ret_v hx hb hr hlocks hK hP hD hS hd
  generalize MQ below (Qv D ca (wM ca Ad σ9) A) ([.ref (Ad 0), .int a0] : List Value).toArray s 0 0 A = Q at hret ⊢
  generalize ([.ref (Ad 0), .int a0] : List Value).toArray = args at hts hret ⊢
  have f16 := hts (.fieldLink RX5 16 "RobinRowModel" "isFull" "[Z") (by decide +kernel)
  have f20 := hts (.fieldLink RX5 20 "RobinRowModel" "slots" "[I") (by decide +kernel)
  have f23 := hts (.fieldLink RX5 23 "RobinRowModel" "many" "[I") (by decide +kernel)
  have f26 := hts (.fieldLink RX5 26 "RobinRowModel" "way" "I") (by decide +kernel)
  have f30 := hts (.fieldLink RX5 30 "RobinRowModel" "isOpen" "[Z") (by decide +kernel)
  have f64 := hts (.fieldLink RX5 64 "RobinRowModel" "present" "I") (by decide +kernel)
  have f83 := hts (.fieldLink RX5 83 "RobinRowModel" "moves" "I") (by decide +kernel)
  have in5 : ∀ w ∈ u_ws RX5 TX5 17, w ∈ wsX5_clear := by decide +kernel
  have J90 : ∀ (n90 : Nat) (H : Heap) (locs : List Loc) (ls : Array Slot) (σ : MS) (l2 : Int32), mm_clear_lp90  n90 σ l2 = some σ9 → va_P D vwCl (wM ca Ad σ) H → va_D A (wM ca Ad σ) → va_S A s.heap H locs → lv_has ls 3 [(0, .ref (Ad 0)), (2, .int l2)] → W p l e { frames := 1, cells := 0, slots := 0, locals := 22 } s m args below meth c H locs 0 0 Q (F0 m 90 ls []) := by
    intro n90
    induction n90 with
    | zero =>
      intro H locs ls σ l2 hf hP hD hS hl
      exact absurd hf (fun h => by cases h)
    | succ n90 ih90 =>
      intro H locs ls σ l2 hf hP hD hS hl
      replace hf : mm_clear_90  (mm_clear_lp90  n90) σ l2 = some σ9 := hf
      unfold mm_clear_90 at hf
      refine lv_iload_n hx hb dX5_clear_90 rfl (lv_at hl 1 rfl) ?_
      refine lv_iconst (v := 4) hx hb dX5_clear_91 (by decide) ?_
      refine lv_icmp_ge (tgt := 108) hx hb dX5_clear_92 (by decide) (fun c21 => ?_) (fun c21 => ?_)
      · replace hf := it_p c21 hf
        obtain rfl := so1 hf
        exact hret _ _ _ _ dX5_clear_108 hP hD hS
      · replace hf := it_n c21 hf
        refine lv_aload_n hx hb dX5_clear_95 rfl (lv_at hl 0 rfl) ?_
        refine va_get (D := D) (ci := 5) (v := .ref (Ad 6)) (C := RX5) (T := TX5) (N := 17) hx hb hts in5 hown hK hP 0 rfl rfl 8 (by decide) f30 (fun _ h9 => h9) rfl dX5_clear_96 ?_
        refine lv_iload_n hx hb dX5_clear_99 rfl (lv_at hl 1 rfl) ?_
        refine lv_iconst (v := 0) hx hb dX5_clear_100 (by decide) ?_
        obtain ⟨g22, hf⟩ := gd_ob hf
        obtain ⟨s23, es23, hf⟩ := nm_ob hf
        refine va_zast hx hb hK hP hD hS 6 2 rfl rfl g22 dX5_clear_101 (fun H locs hP hD hS => ?_)
        have hP : va_P D vwCl (wM ca Ad s23) H := by rw [← es23]; exact hP
        have hD : va_D A (wM ca Ad s23) := by rw [← es23]; exact hD
        obtain ⟨v24, ev24, hf⟩ := nm_ob hf
        refine lv_iinc (v := v24) (lv' := [(2, .int v24), (0, .ref (Ad 0))]) hx hb dX5_clear_102 hl (k := 1) rfl (by rw [← ev24]; rfl) (by decide) rfl (fun ls hl => ?_)
        refine lv_goto (tgt := 90) hx hb dX5_clear_105 (by decide) ?_
        exact ih90 _ _ _ _ _ hf hP hD hS (lv_sub hl [1, 0] rfl)
  have J29 : ∀ (n29 : Nat) (H : Heap) (locs : List Loc) (ls : Array Slot) (σ : MS) (l2 : Int32), mm_clear_lp29  n29 σ l2 = some σ9 → va_P D vwCl (wM ca Ad σ) H → va_D A (wM ca Ad σ) → va_S A s.heap H locs → lv_has ls 3 [(0, .ref (Ad 0)), (2, .int l2)] → W p l e { frames := 1, cells := 0, slots := 0, locals := 22 } s m args below meth c H locs 0 0 Q (F0 m 29 ls []) := by
    intro n29
    induction n29 with
    | zero =>
      intro H locs ls σ l2 hf hP hD hS hl
      exact absurd hf (fun h => by cases h)
    | succ n29 ih29 =>
      intro H locs ls σ l2 hf hP hD hS hl
      replace hf : mm_clear_29  (mm_clear_lp29  n29) σ l2 = some σ9 := hf
      unfold mm_clear_29 at hf
      refine lv_iload_n hx hb dX5_clear_29 rfl (lv_at hl 1 rfl) ?_
      refine lv_sipush (v := 512) hx hb dX5_clear_30 (by decide) ?_
      refine lv_icmp_ge (tgt := 49) hx hb dX5_clear_33 (by decide) (fun c7 => ?_) (fun c7 => ?_)
      · replace hf := it_p c7 hf
        refine lv_aload_n hx hb dX5_clear_49 rfl (lv_at hl 0 rfl) ?_
        refine lv_iconst (v := 0) hx hb dX5_clear_50 (by decide) ?_
        obtain ⟨s8, es8, hf⟩ := nm_ob hf
        refine va_put (D := D) (ci := 5) (v := .int 0) (ty := .int) (C := RX5) (T := TX5) (N := 17) hx hb hts in5 tyX5 tyX5_ok nmX5 hown hK hP hD hS 0 rfl rfl 5 (by decide) f64 (fun _ h9 => h9) rfl (by decide +kernel) rfl rfl (Nat.le_of_ble_eq_true rfl) dX5_clear_51 (fun H locs hP hD hS => ?_)
        have hP : va_P D vwCl (wM ca Ad s8) H := by rw [← es8]; exact hP
        have hD : va_D A (wM ca Ad s8) := by rw [← es8]; exact hD
        refine lv_aload_n hx hb dX5_clear_54 rfl (lv_at hl 0 rfl) ?_
        refine va_get (D := D) (ci := 5) (v := .ref (Ad 4)) (C := RX5) (T := TX5) (N := 17) hx hb hts in5 hown hK hP 0 rfl rfl 3 (by decide) f20 (fun _ h9 => h9) rfl dX5_clear_55 ?_
        refine lv_iconst (v := 0) hx hb dX5_clear_58 (by decide) ?_
        refine lv_bipush (v := 8) hx hb dX5_clear_59 (by decide) ?_
        obtain ⟨g9, hf⟩ := gd_ob hf
        obtain ⟨s10, es10, hf⟩ := nm_ob hf
        refine va_iast hx hb hK hP hD hS 4 0 rfl rfl g9 dX5_clear_61 (fun H locs hP hD hS => ?_)
        have hP : va_P D vwCl (wM ca Ad s10) H := by rw [← es10]; exact hP
        have hD : va_D A (wM ca Ad s10) := by rw [← es10]; exact hD
        refine lv_aload_n hx hb dX5_clear_62 rfl (lv_at hl 0 rfl) ?_
        refine va_get (D := D) (ci := 5) (v := .ref (Ad 4)) (C := RX5) (T := TX5) (N := 17) hx hb hts in5 hown hK hP 0 rfl rfl 3 (by decide) f20 (fun _ h9 => h9) rfl dX5_clear_63 ?_
        refine lv_iconst (v := 1) hx hb dX5_clear_66 (by decide) ?_
        refine lv_iconst (v := 0) hx hb dX5_clear_67 (by decide) ?_
        obtain ⟨g11, hf⟩ := gd_ob hf
        obtain ⟨s12, es12, hf⟩ := nm_ob hf
        refine va_iast hx hb hK hP hD hS 4 0 rfl rfl g11 dX5_clear_68 (fun H locs hP hD hS => ?_)
        have hP : va_P D vwCl (wM ca Ad s12) H := by rw [← es12]; exact hP
        have hD : va_D A (wM ca Ad s12) := by rw [← es12]; exact hD
        refine lv_aload_n hx hb dX5_clear_69 rfl (lv_at hl 0 rfl) ?_
        refine va_get (D := D) (ci := 5) (v := .ref (Ad 5)) (C := RX5) (T := TX5) (N := 17) hx hb hts in5 hown hK hP 0 rfl rfl 4 (by decide) f23 (fun _ h9 => h9) rfl dX5_clear_70 ?_
        refine lv_iconst (v := 0) hx hb dX5_clear_73 (by decide) ?_
        refine lv_iconst (v := 0) hx hb dX5_clear_74 (by decide) ?_
        obtain ⟨g13, hf⟩ := gd_ob hf
        obtain ⟨s14, es14, hf⟩ := nm_ob hf
        refine va_iast hx hb hK hP hD hS 5 0 rfl rfl g13 dX5_clear_75 (fun H locs hP hD hS => ?_)
        have hP : va_P D vwCl (wM ca Ad s14) H := by rw [← es14]; exact hP
        have hD : va_D A (wM ca Ad s14) := by rw [← es14]; exact hD
        refine lv_aload_n hx hb dX5_clear_76 rfl (lv_at hl 0 rfl) ?_
        refine va_get (D := D) (ci := 5) (v := .ref (Ad 5)) (C := RX5) (T := TX5) (N := 17) hx hb hts in5 hown hK hP 0 rfl rfl 4 (by decide) f23 (fun _ h9 => h9) rfl dX5_clear_77 ?_
        refine lv_iconst (v := 1) hx hb dX5_clear_80 (by decide) ?_
        refine lv_iconst (v := 0) hx hb dX5_clear_81 (by decide) ?_
        obtain ⟨g15, hf⟩ := gd_ob hf
        obtain ⟨s16, es16, hf⟩ := nm_ob hf
        refine va_iast hx hb hK hP hD hS 5 0 rfl rfl g15 dX5_clear_82 (fun H locs hP hD hS => ?_)
        have hP : va_P D vwCl (wM ca Ad s16) H := by rw [← es16]; exact hP
        have hD : va_D A (wM ca Ad s16) := by rw [← es16]; exact hD
        refine lv_aload_n hx hb dX5_clear_83 rfl (lv_at hl 0 rfl) ?_
        refine lv_iconst (v := 0) hx hb dX5_clear_84 (by decide) ?_
        obtain ⟨s17, es17, hf⟩ := nm_ob hf
        refine va_put (D := D) (ci := 5) (v := .int 0) (ty := .int) (C := RX5) (T := TX5) (N := 17) hx hb hts in5 tyX5 tyX5_ok nmX5 hown hK hP hD hS 0 rfl rfl 7 (by decide) f83 (fun _ h9 => h9) rfl (by decide +kernel) rfl rfl (Nat.le_of_ble_eq_true rfl) dX5_clear_85 (fun H locs hP hD hS => ?_)
        have hP : va_P D vwCl (wM ca Ad s17) H := by rw [← es17]; exact hP
        have hD : va_D A (wM ca Ad s17) := by rw [← es17]; exact hD
        refine lv_iconst (v := 0) hx hb dX5_clear_88 (by decide) ?_
        refine lv_istore_n (lv' := [(2, .int 0), (0, .ref (Ad 0))]) hx hb dX5_clear_89 rfl hl (by decide) rfl (fun ls hl => ?_)
        exact J90 FU _ _ _ _ _ hf hP hD hS (lv_sub hl [1, 0] rfl)
      · replace hf := it_n c7 hf
        refine lv_aload_n hx hb dX5_clear_36 rfl (lv_at hl 0 rfl) ?_
        refine va_get (D := D) (ci := 5) (v := .ref (Ad 3)) (C := RX5) (T := TX5) (N := 17) hx hb hts in5 hown hK hP 0 rfl rfl 2 (by decide) f16 (fun _ h9 => h9) rfl dX5_clear_37 ?_
        refine lv_iload_n hx hb dX5_clear_40 rfl (lv_at hl 1 rfl) ?_
        refine lv_iconst (v := 0) hx hb dX5_clear_41 (by decide) ?_
        obtain ⟨g18, hf⟩ := gd_ob hf
        obtain ⟨s19, es19, hf⟩ := nm_ob hf
        refine va_zast hx hb hK hP hD hS 3 2 rfl rfl g18 dX5_clear_42 (fun H locs hP hD hS => ?_)
        have hP : va_P D vwCl (wM ca Ad s19) H := by rw [← es19]; exact hP
        have hD : va_D A (wM ca Ad s19) := by rw [← es19]; exact hD
        obtain ⟨v20, ev20, hf⟩ := nm_ob hf
        refine lv_iinc (v := v20) (lv' := [(2, .int v20), (0, .ref (Ad 0))]) hx hb dX5_clear_43 hl (k := 1) rfl (by rw [← ev20]; rfl) (by decide) rfl (fun ls hl => ?_)
        refine lv_goto (tgt := 29) hx hb dX5_clear_46 (by decide) ?_
        exact ih29 _ _ _ _ _ hf hP hD hS (lv_sub hl [1, 0] rfl)
  have J15 : ∀ (H : Heap) (locs : List Loc) (ls : Array Slot) (σ : MS) (l1 : Int32) (t1 : Int32), mm_clear_15  σ l1 t1 = some σ9 → va_P D vwCl (wM ca Ad σ) H → va_D A (wM ca Ad σ) → va_S A s.heap H locs → lv_has ls 3 [(0, .ref (Ad 0)), (1, .int l1)] → W p l e { frames := 1, cells := 0, slots := 0, locals := 22 } s m args below meth c H locs 0 0 Q (F0 m 15 ls [.int t1, .ref (Ad 0)]) := by
    intro H locs ls σ l1 t1 hf hP hD hS hl
    unfold mm_clear_15 at hf
    obtain ⟨v3, s4, ev3, hf⟩ := bd2_ob hf
    refine call_i (As := [.int t1]) (rest := []) ⟨hx, hb, hml, hown, hts⟩ (tX5_isFine l D ca Ad _ σ t1 v3 s4 ev3) (cwV 1 hts gX5_clear_X5_isFine rfl rfl rfl (by decide +kernel) ⟨Nat.le_of_ble_eq_true rfl, Nat.le_of_ble_eq_true rfl⟩) hN hK hP hD hA hS (fr_id _ _) rfl rfl rfl hl.1 rfl (lv_room (Nat.le_of_ble_eq_true rfl)) dX5_clear_15 ⟨Nat.le_refl _, Nat.le_refl _⟩ (fun H locs hP hD hS => ?_)
    refine lv_if_ne (tgt := 22) hx hb dX5_clear_18 (by decide) (fun c5 => ?_) (fun c5 => ?_)
    · replace hf := it_n c5 hf
      refine lv_aload_n hx hb dX5_clear_22 rfl (lv_at hl 0 rfl) ?_
      refine lv_iload_n hx hb dX5_clear_23 rfl (lv_at hl 1 rfl) ?_
      obtain ⟨s6, es6, hf⟩ := nm_ob hf
      refine va_put (D := D) (ci := 5) (v := .int l1) (ty := .int) (C := RX5) (T := TX5) (N := 17) hx hb hts in5 tyX5 tyX5_ok nmX5 hown hK hP hD hS 0 rfl rfl 6 (by decide) f26 (fun _ h9 => h9) rfl (by decide +kernel) rfl rfl (Nat.le_of_ble_eq_true rfl) dX5_clear_24 (fun H locs hP hD hS => ?_)
      have hP : va_P D vwCl (wM ca Ad s6) H := by rw [← es6]; exact hP
      have hD : va_D A (wM ca Ad s6) := by rw [← es6]; exact hD
      refine lv_iconst (v := 0) hx hb dX5_clear_27 (by decide) ?_
      refine lv_istore_n (lv' := [(2, .int 0), (0, .ref (Ad 0)), (1, .int l1)]) hx hb dX5_clear_28 rfl hl (by decide) rfl (fun ls hl => ?_)
      exact J29 FU _ _ _ _ _ hf hP hD hS (lv_sub hl [1, 0] rfl)
    · replace hf := it_p c5 hf
      obtain rfl := so1 hf
      exact hret _ _ _ _ dX5_clear_21 hP hD hS
  unfold mm_clear at hf
  refine lv_aload_n hx hb dX5_clear_0 rfl (lv_at hl 0 rfl) ?_
  refine lv_iload_n hx hb dX5_clear_1 rfl (lv_at hl 1 rfl) ?_
  refine lv_iconst (v := 0) hx hb dX5_clear_2 (by decide) ?_
  refine lv_iconst (v := 1) hx hb dX5_clear_3 (by decide) ?_
  obtain ⟨v1, ev1, hf⟩ := bd_ob hf
  refine call_si (As := [.int a0, .int 0, .int 1]) (rest := [.ref (Ad 0)]) ⟨hx, hb, hml, hown, hts⟩ (tX5_in l D ca _ a0 0 1 v1 ev1) (va_cwS 3 hts gX5_clear_X5_in rfl rfl rfl (by decide +kernel) ⟨Nat.le_of_ble_eq_true rfl, Nat.le_of_ble_eq_true rfl⟩) hN hK hP hD hA hS (fr_no _) rfl hl.1 rfl (lv_room (Nat.le_of_ble_eq_true rfl)) dX5_clear_4 ⟨Nat.le_refl _, Nat.le_refl _⟩ (fun H locs hP hD hS => ?_)
  refine lv_if_eq (tgt := 14) hx hb dX5_clear_7 (by decide) (fun c2 => ?_) (fun c2 => ?_)
  · replace hf := it_p c2 hf
    refine lv_iconst (v := 1) hx hb dX5_clear_14 (by decide) ?_
    exact J15 _ _ _ _ _ _ hf hP hD hS (lv_sub hl [0, 1] rfl)
  · replace hf := it_n c2 hf
    refine lv_iconst (v := 0) hx hb dX5_clear_10 (by decide) ?_
    refine lv_goto (tgt := 15) hx hb dX5_clear_11 (by decide) ?_
    exact J15 _ _ _ _ _ _ hf hP hD hS (lv_sub hl [0, 1] rfl)

def mm_put_161   (σ : MS) (l1 : Int32) (l2 : Int32) : Option (Int32 × MS) :=
  bd2 (mm_carries σ (m_present σ) l1 l2 0) fun v27 s28 =>
  some ((-1), s28)
def mm_put_44   (σ : MS) (l1 : Int32) (l2 : Int32) (l3 : Int32) (t1 : Int32) : Option (Int32 × MS) :=
  bd2 (mm_isFine σ t1) fun v7 s8 =>
  if v7 = 0 then
    some (0, s8)
  else
    bd2 (mm_slice s8) fun v10 s11 =>
    if l3 = (-1) then
      gd 0 2 <|
      gd 1 2 <|
      gd (m_present s11) 2 <|
      if (8 * (((m_many s11 (0 : Int32).toNatClampNeg) + (m_many s11 (1 : Int32).toNatClampNeg)) + 1)) ≤ (7 * (m_slots s11 (m_present s11).toNatClampNeg)) then
        mm_put_161 s11 l1 l2
      else
        nm (m_present' s11 (1 - (m_present s11))) fun s17 =>
        gd (1 - (m_present s17)) 2 <|
        gd (m_present s17) 2 <|
        nm (m_slots' s17 (upd (m_slots s17) (m_present s17).toNatClampNeg (2 * (m_slots s17 (1 - (m_present s17)).toNatClampNeg)))) fun s20 =>
        nm (m_moves' s20 ((m_moves s20) + 1)) fun s21 =>
        mm_put_161 s21 l1 l2
    else
      bd (mm_placeOf s11 l1) fun v22 =>
      gd v22 512 <|
      nm (m_values s11 v22.toNatClampNeg) fun v24 =>
      gd v22 512 <|
      nm (m_values' s11 (upd (m_values s11) v22.toNatClampNeg l2)) fun s26 =>
      some (v24, s26)
def mm_put  (σ : MS) (a0 : Int32) (a1 : Int32) : Option (Int32 × MS) :=
  bd (mm_placeOf σ a0) fun v1 =>
  if 0 ≤ a1 then
    if v1 = (-1) then
      gd 0 2 <|
      gd 1 2 <|
      if ((m_many σ (0 : Int32).toNatClampNeg) + (m_many σ (1 : Int32).toNatClampNeg)) = 200 then
        mm_put_44 σ a0 a1 v1 2
      else
        mm_put_44 σ a0 a1 v1 0
    else
      mm_put_44 σ a0 a1 v1 0
  else
    mm_put_44 σ a0 a1 v1 1
set_option maxHeartbeats 4000000 in
set_option maxRecDepth 100000 in
theorem tX5_put (l : Launch) (D : va_G) (ca : Nat → ClassId) (Ad : Nat → Nat) (sz : Nat)  (σ : MS) (a0 : Int32) (a1 : Int32) (r : Int32) (σ9 : MS) (hf : mm_put σ a0 a1 = some (r, σ9)) : Ci l D ca yX5_put wsX5_put { frames := 5, cells := 0, slots := 0, locals := 123 } [.ref (Ad 0), .int a0, .int a1] (wM ca Ad σ) sz r (wM ca Ad σ9) := by
  refine body_of (cc := cX5_put) (maxL := 5) (ret := (some .int)) (fun A => Qi D ca r (wM ca Ad σ9) A) (by decide) rfl (Nat.le_of_ble_eq_true rfl) ?_
  intro p e s m below meth c A ls hx hb hr hml hts hown hlocks hA hK hP hD hS hl hN
  have hl : lv_has ls 5 [(0, .ref (Ad 0)), (1, .int a0), (2, .int a1)] := hl
  have hret : ∀ (pc : Nat) (ls : Array Slot) (H : Heap) (locs : List Loc), decode cX5_put pc = .ok (.ireturn, 1) → va_P D vwCl (wM ca Ad σ9) H → va_D A (wM ca Ad σ9) → va_S A s.heap H locs → W p l e { frames := 5, cells := 0, slots := 0, locals := 123 } s m ([.ref (Ad 0), .int a0, .int a1] : List Value).toArray below meth c H locs 0 0 (MQ below (Qi D ca r (wM ca Ad σ9) A) ([.ref (Ad 0), .int a0, .int a1] : List Value).toArray s 0 0 A) (F0 m pc ls [.int r]) := fun pc ls H locs hd hP hD hS => ret_i hx hb hr hlocks hK hP hD hS hd
  generalize MQ below (Qi D ca r (wM ca Ad σ9) A) ([.ref (Ad 0), .int a0, .int a1] : List Value).toArray s 0 0 A = Q at hret ⊢
  generalize ([.ref (Ad 0), .int a0, .int a1] : List Value).toArray = args at hts hret ⊢
  have f13 := hts (.fieldLink RX5 13 "RobinRowModel" "values" "[I") (by decide +kernel)
  have f20 := hts (.fieldLink RX5 20 "RobinRowModel" "slots" "[I") (by decide +kernel)
  have f23 := hts (.fieldLink RX5 23 "RobinRowModel" "many" "[I") (by decide +kernel)
  have f64 := hts (.fieldLink RX5 64 "RobinRowModel" "present" "I") (by decide +kernel)
  have f83 := hts (.fieldLink RX5 83 "RobinRowModel" "moves" "I") (by decide +kernel)
  have in5 : ∀ w ∈ u_ws RX5 TX5 17, w ∈ wsX5_put := by decide +kernel
  have J161 : ∀ (H : Heap) (locs : List Loc) (ls : Array Slot) (σ : MS) (l1 : Int32) (l2 : Int32), mm_put_161  σ l1 l2 = some (r, σ9) → va_P D vwCl (wM ca Ad σ) H → va_D A (wM ca Ad σ) → va_S A s.heap H locs → lv_has ls 5 [(0, .ref (Ad 0)), (1, .int l1), (2, .int l2)] → W p l e { frames := 5, cells := 0, slots := 0, locals := 123 } s m args below meth c H locs 0 0 Q (F0 m 161 ls []) := by
    intro H locs ls σ l1 l2 hf hP hD hS hl
    unfold mm_put_161 at hf
    refine lv_aload_n hx hb dX5_put_161 rfl (lv_at hl 0 rfl) ?_
    refine lv_aload_n hx hb dX5_put_162 rfl (lv_at hl 0 rfl) ?_
    refine va_get (D := D) (ci := 5) (v := .int (m_present σ)) (C := RX5) (T := TX5) (N := 17) hx hb hts in5 hown hK hP 0 rfl rfl 5 (by decide) f64 (fun _ h9 => h9) rfl dX5_put_163 ?_
    refine lv_iload_n hx hb dX5_put_166 rfl (lv_at hl 1 rfl) ?_
    refine lv_iload_n hx hb dX5_put_167 rfl (lv_at hl 2 rfl) ?_
    refine lv_iconst (v := 0) hx hb dX5_put_168 (by decide) ?_
    obtain ⟨v27, s28, ev27, hf⟩ := bd2_ob hf
    refine call_i (As := [.int (m_present σ), .int l1, .int l2, .int 0]) (rest := []) ⟨hx, hb, hml, hown, hts⟩ (tX5_carries l D ca Ad _ σ (m_present σ) l1 l2 0 v27 s28 ev27) (cwV 4 hts gX5_put_X5_carries rfl rfl rfl (by decide +kernel) ⟨Nat.le_of_ble_eq_true rfl, Nat.le_of_ble_eq_true rfl⟩) hN hK hP hD hA hS (fr_id _ _) rfl rfl rfl hl.1 rfl (lv_room (Nat.le_of_ble_eq_true rfl)) dX5_put_169 ⟨Nat.le_refl _, Nat.le_refl _⟩ (fun H locs hP hD hS => ?_)
    refine lv_pop hx hb dX5_put_172 rfl ?_
    refine lv_iconst (v := (-1)) hx hb dX5_put_173 (by decide) ?_
    obtain ⟨rfl, rfl⟩ := so2 hf
    exact hret _ _ _ _ dX5_put_174 hP hD hS
  have J44 : ∀ (H : Heap) (locs : List Loc) (ls : Array Slot) (σ : MS) (l1 : Int32) (l2 : Int32) (l3 : Int32) (t1 : Int32), mm_put_44  σ l1 l2 l3 t1 = some (r, σ9) → va_P D vwCl (wM ca Ad σ) H → va_D A (wM ca Ad σ) → va_S A s.heap H locs → lv_has ls 5 [(0, .ref (Ad 0)), (1, .int l1), (2, .int l2), (3, .int l3)] → W p l e { frames := 5, cells := 0, slots := 0, locals := 123 } s m args below meth c H locs 0 0 Q (F0 m 44 ls [.int t1, .ref (Ad 0)]) := by
    intro H locs ls σ l1 l2 l3 t1 hf hP hD hS hl
    unfold mm_put_44 at hf
    obtain ⟨v7, s8, ev7, hf⟩ := bd2_ob hf
    refine call_i (As := [.int t1]) (rest := []) ⟨hx, hb, hml, hown, hts⟩ (tX5_isFine l D ca Ad _ σ t1 v7 s8 ev7) (cwV 1 hts gX5_put_X5_isFine rfl rfl rfl (by decide +kernel) ⟨Nat.le_of_ble_eq_true rfl, Nat.le_of_ble_eq_true rfl⟩) hN hK hP hD hA hS (fr_id _ _) rfl rfl rfl hl.1 rfl (lv_room (Nat.le_of_ble_eq_true rfl)) dX5_put_44 ⟨Nat.le_refl _, Nat.le_refl _⟩ (fun H locs hP hD hS => ?_)
    refine lv_if_ne (tgt := 52) hx hb dX5_put_47 (by decide) (fun c9 => ?_) (fun c9 => ?_)
    · replace hf := it_n c9 hf
      refine lv_aload_n hx hb dX5_put_52 rfl (lv_at hl 0 rfl) ?_
      obtain ⟨v10, s11, ev10, hf⟩ := bd2_ob hf
      refine call_i (As := []) (rest := []) ⟨hx, hb, hml, hown, hts⟩ (tX5_slice l D ca Ad _ s8 v10 s11 ev10) (cwV 0 hts gX5_put_X5_slice rfl rfl rfl (by decide +kernel) ⟨Nat.le_of_ble_eq_true rfl, Nat.le_of_ble_eq_true rfl⟩) hN hK hP hD hA hS (fr_id _ _) rfl rfl rfl hl.1 rfl (lv_room (Nat.le_of_ble_eq_true rfl)) dX5_put_53 ⟨Nat.le_refl _, Nat.le_refl _⟩ (fun H locs hP hD hS => ?_)
      refine lv_pop hx hb dX5_put_56 rfl ?_
      refine lv_iload_n hx hb dX5_put_57 rfl (lv_at hl 3 rfl) ?_
      refine lv_iconst (v := (-1)) hx hb dX5_put_58 (by decide) ?_
      refine lv_icmp_eq (tgt := 86) hx hb dX5_put_59 (by decide) (fun c12 => ?_) (fun c12 => ?_)
      · replace hf := it_p c12 hf
        refine lv_bipush (v := 8) hx hb dX5_put_86 (by decide) ?_
        refine lv_aload_n hx hb dX5_put_88 rfl (lv_at hl 0 rfl) ?_
        refine va_get (D := D) (ci := 5) (v := .ref (Ad 5)) (C := RX5) (T := TX5) (N := 17) hx hb hts in5 hown hK hP 0 rfl rfl 4 (by decide) f23 (fun _ h9 => h9) rfl dX5_put_89 ?_
        refine lv_iconst (v := 0) hx hb dX5_put_92 (by decide) ?_
        obtain ⟨g13, hf⟩ := gd_ob hf
        refine va_iald hx hb hK hP 5 0 rfl rfl g13 dX5_put_93 ?_
        refine lv_aload_n hx hb dX5_put_94 rfl (lv_at hl 0 rfl) ?_
        refine va_get (D := D) (ci := 5) (v := .ref (Ad 5)) (C := RX5) (T := TX5) (N := 17) hx hb hts in5 hown hK hP 0 rfl rfl 4 (by decide) f23 (fun _ h9 => h9) rfl dX5_put_95 ?_
        refine lv_iconst (v := 1) hx hb dX5_put_98 (by decide) ?_
        obtain ⟨g14, hf⟩ := gd_ob hf
        refine va_iald hx hb hK hP 5 0 rfl rfl g14 dX5_put_99 ?_
        refine lv_iadd hx hb dX5_put_100 ?_
        refine lv_iconst (v := 1) hx hb dX5_put_101 (by decide) ?_
        refine lv_iadd hx hb dX5_put_102 ?_
        refine lv_imul hx hb dX5_put_103 ?_
        refine lv_bipush (v := 7) hx hb dX5_put_104 (by decide) ?_
        refine lv_aload_n hx hb dX5_put_106 rfl (lv_at hl 0 rfl) ?_
        refine va_get (D := D) (ci := 5) (v := .ref (Ad 4)) (C := RX5) (T := TX5) (N := 17) hx hb hts in5 hown hK hP 0 rfl rfl 3 (by decide) f20 (fun _ h9 => h9) rfl dX5_put_107 ?_
        refine lv_aload_n hx hb dX5_put_110 rfl (lv_at hl 0 rfl) ?_
        refine va_get (D := D) (ci := 5) (v := .int (m_present s11)) (C := RX5) (T := TX5) (N := 17) hx hb hts in5 hown hK hP 0 rfl rfl 5 (by decide) f64 (fun _ h9 => h9) rfl dX5_put_111 ?_
        obtain ⟨g15, hf⟩ := gd_ob hf
        refine va_iald hx hb hK hP 4 0 rfl rfl g15 dX5_put_114 ?_
        refine lv_imul hx hb dX5_put_115 ?_
        refine lv_icmp_le (tgt := 161) hx hb dX5_put_116 (by decide) (fun c16 => ?_) (fun c16 => ?_)
        · replace hf := it_p c16 hf
          exact J161 _ _ _ _ _ _ hf hP hD hS (lv_sub hl [0, 1, 2] rfl)
        · replace hf := it_n c16 hf
          refine lv_aload_n hx hb dX5_put_119 rfl (lv_at hl 0 rfl) ?_
          refine lv_iconst (v := 1) hx hb dX5_put_120 (by decide) ?_
          refine lv_aload_n hx hb dX5_put_121 rfl (lv_at hl 0 rfl) ?_
          refine va_get (D := D) (ci := 5) (v := .int (m_present s11)) (C := RX5) (T := TX5) (N := 17) hx hb hts in5 hown hK hP 0 rfl rfl 5 (by decide) f64 (fun _ h9 => h9) rfl dX5_put_122 ?_
          refine lv_isub hx hb dX5_put_125 ?_
          obtain ⟨s17, es17, hf⟩ := nm_ob hf
          refine va_put (D := D) (ci := 5) (v := .int (1 - (m_present s11))) (ty := .int) (C := RX5) (T := TX5) (N := 17) hx hb hts in5 tyX5 tyX5_ok nmX5 hown hK hP hD hS 0 rfl rfl 5 (by decide) f64 (fun _ h9 => h9) rfl (by decide +kernel) rfl rfl (Nat.le_of_ble_eq_true rfl) dX5_put_126 (fun H locs hP hD hS => ?_)
          have hP : va_P D vwCl (wM ca Ad s17) H := by rw [← es17]; exact hP
          have hD : va_D A (wM ca Ad s17) := by rw [← es17]; exact hD
          refine lv_aload_n hx hb dX5_put_129 rfl (lv_at hl 0 rfl) ?_
          refine va_get (D := D) (ci := 5) (v := .ref (Ad 4)) (C := RX5) (T := TX5) (N := 17) hx hb hts in5 hown hK hP 0 rfl rfl 3 (by decide) f20 (fun _ h9 => h9) rfl dX5_put_130 ?_
          refine lv_aload_n hx hb dX5_put_133 rfl (lv_at hl 0 rfl) ?_
          refine va_get (D := D) (ci := 5) (v := .int (m_present s17)) (C := RX5) (T := TX5) (N := 17) hx hb hts in5 hown hK hP 0 rfl rfl 5 (by decide) f64 (fun _ h9 => h9) rfl dX5_put_134 ?_
          refine lv_iconst (v := 2) hx hb dX5_put_137 (by decide) ?_
          refine lv_aload_n hx hb dX5_put_138 rfl (lv_at hl 0 rfl) ?_
          refine va_get (D := D) (ci := 5) (v := .ref (Ad 4)) (C := RX5) (T := TX5) (N := 17) hx hb hts in5 hown hK hP 0 rfl rfl 3 (by decide) f20 (fun _ h9 => h9) rfl dX5_put_139 ?_
          refine lv_iconst (v := 1) hx hb dX5_put_142 (by decide) ?_
          refine lv_aload_n hx hb dX5_put_143 rfl (lv_at hl 0 rfl) ?_
          refine va_get (D := D) (ci := 5) (v := .int (m_present s17)) (C := RX5) (T := TX5) (N := 17) hx hb hts in5 hown hK hP 0 rfl rfl 5 (by decide) f64 (fun _ h9 => h9) rfl dX5_put_144 ?_
          refine lv_isub hx hb dX5_put_147 ?_
          obtain ⟨g18, hf⟩ := gd_ob hf
          refine va_iald hx hb hK hP 4 0 rfl rfl g18 dX5_put_148 ?_
          refine lv_imul hx hb dX5_put_149 ?_
          obtain ⟨g19, hf⟩ := gd_ob hf
          obtain ⟨s20, es20, hf⟩ := nm_ob hf
          refine va_iast hx hb hK hP hD hS 4 0 rfl rfl g19 dX5_put_150 (fun H locs hP hD hS => ?_)
          have hP : va_P D vwCl (wM ca Ad s20) H := by rw [← es20]; exact hP
          have hD : va_D A (wM ca Ad s20) := by rw [← es20]; exact hD
          refine lv_aload_n hx hb dX5_put_151 rfl (lv_at hl 0 rfl) ?_
          refine lv_dup hx hb dX5_put_152 rfl ?_
          refine va_get (D := D) (ci := 5) (v := .int (m_moves s20)) (C := RX5) (T := TX5) (N := 17) hx hb hts in5 hown hK hP 0 rfl rfl 7 (by decide) f83 (fun _ h9 => h9) rfl dX5_put_153 ?_
          refine lv_iconst (v := 1) hx hb dX5_put_156 (by decide) ?_
          refine lv_iadd hx hb dX5_put_157 ?_
          obtain ⟨s21, es21, hf⟩ := nm_ob hf
          refine va_put (D := D) (ci := 5) (v := .int ((m_moves s20) + 1)) (ty := .int) (C := RX5) (T := TX5) (N := 17) hx hb hts in5 tyX5 tyX5_ok nmX5 hown hK hP hD hS 0 rfl rfl 7 (by decide) f83 (fun _ h9 => h9) rfl (by decide +kernel) rfl rfl (Nat.le_of_ble_eq_true rfl) dX5_put_158 (fun H locs hP hD hS => ?_)
          have hP : va_P D vwCl (wM ca Ad s21) H := by rw [← es21]; exact hP
          have hD : va_D A (wM ca Ad s21) := by rw [← es21]; exact hD
          exact J161 _ _ _ _ _ _ hf hP hD hS (lv_sub hl [0, 1, 2] rfl)
      · replace hf := it_n c12 hf
        refine lv_aload_n hx hb dX5_put_62 rfl (lv_at hl 0 rfl) ?_
        refine lv_iload_n hx hb dX5_put_63 rfl (lv_at hl 1 rfl) ?_
        obtain ⟨v22, ev22, hf⟩ := bd_ob hf
        refine call_i (As := [.int l1]) (rest := []) ⟨hx, hb, hml, hown, hts⟩ (tX5_placeOf l D ca Ad _ s11 l1 v22 ev22) (cwV 1 hts gX5_put_X5_placeOf rfl rfl rfl (by decide +kernel) ⟨Nat.le_of_ble_eq_true rfl, Nat.le_of_ble_eq_true rfl⟩) hN hK hP hD hA hS (fr_id _ _) rfl rfl rfl hl.1 rfl (lv_room (Nat.le_of_ble_eq_true rfl)) dX5_put_64 ⟨Nat.le_refl _, Nat.le_refl _⟩ (fun H locs hP hD hS => ?_)
        refine lv_istore_n (lv' := [(3, .int v22), (0, .ref (Ad 0)), (1, .int l1), (2, .int l2)]) hx hb dX5_put_67 rfl hl (by decide) rfl (fun ls hl => ?_)
        refine lv_aload_n hx hb dX5_put_68 rfl (lv_at hl 1 rfl) ?_
        refine va_get (D := D) (ci := 5) (v := .ref (Ad 2)) (C := RX5) (T := TX5) (N := 17) hx hb hts in5 hown hK hP 0 rfl rfl 1 (by decide) f13 (fun _ h9 => h9) rfl dX5_put_69 ?_
        refine lv_iload_n hx hb dX5_put_72 rfl (lv_at hl 0 rfl) ?_
        obtain ⟨g23, hf⟩ := gd_ob hf
        refine va_iald hx hb hK hP 2 0 rfl rfl g23 dX5_put_73 ?_
        obtain ⟨v24, ev24, hf⟩ := nm_ob hf
        refine tp_i ev24 ?_
        refine lv_istore (lv' := [(4, .int v24), (3, .int v22), (0, .ref (Ad 0)), (1, .int l1), (2, .int l2)]) hx hb dX5_put_74 hl (by decide) rfl (fun ls hl => ?_)
        refine lv_aload_n hx hb dX5_put_76 rfl (lv_at hl 2 rfl) ?_
        refine va_get (D := D) (ci := 5) (v := .ref (Ad 2)) (C := RX5) (T := TX5) (N := 17) hx hb hts in5 hown hK hP 0 rfl rfl 1 (by decide) f13 (fun _ h9 => h9) rfl dX5_put_77 ?_
        refine lv_iload_n hx hb dX5_put_80 rfl (lv_at hl 1 rfl) ?_
        refine lv_iload_n hx hb dX5_put_81 rfl (lv_at hl 4 rfl) ?_
        obtain ⟨g25, hf⟩ := gd_ob hf
        obtain ⟨s26, es26, hf⟩ := nm_ob hf
        refine va_iast hx hb hK hP hD hS 2 0 rfl rfl g25 dX5_put_82 (fun H locs hP hD hS => ?_)
        have hP : va_P D vwCl (wM ca Ad s26) H := by rw [← es26]; exact hP
        have hD : va_D A (wM ca Ad s26) := by rw [← es26]; exact hD
        refine lv_iload hx hb dX5_put_83 (lv_at hl 0 rfl) ?_
        obtain ⟨rfl, rfl⟩ := so2 hf
        exact hret _ _ _ _ dX5_put_85 hP hD hS
    · replace hf := it_p c9 hf
      refine lv_iconst (v := 0) hx hb dX5_put_50 (by decide) ?_
      obtain ⟨rfl, rfl⟩ := so2 hf
      exact hret _ _ _ _ dX5_put_51 hP hD hS
  unfold mm_put at hf
  refine lv_aload_n hx hb dX5_put_0 rfl (lv_at hl 0 rfl) ?_
  refine lv_iload_n hx hb dX5_put_1 rfl (lv_at hl 1 rfl) ?_
  obtain ⟨v1, ev1, hf⟩ := bd_ob hf
  refine call_i (As := [.int a0]) (rest := []) ⟨hx, hb, hml, hown, hts⟩ (tX5_placeOf l D ca Ad _ σ a0 v1 ev1) (cwV 1 hts gX5_put_X5_placeOf rfl rfl rfl (by decide +kernel) ⟨Nat.le_of_ble_eq_true rfl, Nat.le_of_ble_eq_true rfl⟩) hN hK hP hD hA hS (fr_id _ _) rfl rfl rfl hl.1 rfl (lv_room (Nat.le_of_ble_eq_true rfl)) dX5_put_2 ⟨Nat.le_refl _, Nat.le_refl _⟩ (fun H locs hP hD hS => ?_)
  refine lv_istore_n (lv' := [(3, .int v1), (0, .ref (Ad 0)), (1, .int a0), (2, .int a1)]) hx hb dX5_put_5 rfl hl (by decide) rfl (fun ls hl => ?_)
  refine lv_aload_n hx hb dX5_put_6 rfl (lv_at hl 1 rfl) ?_
  refine lv_iload_n hx hb dX5_put_7 rfl (lv_at hl 3 rfl) ?_
  refine lv_if_ge (tgt := 15) hx hb dX5_put_8 (by decide) (fun c2 => ?_) (fun c2 => ?_)
  · replace hf := it_p c2 hf
    refine lv_iload_n hx hb dX5_put_15 rfl (lv_at hl 0 rfl) ?_
    refine lv_iconst (v := (-1)) hx hb dX5_put_16 (by decide) ?_
    refine lv_icmp_ne (tgt := 43) hx hb dX5_put_17 (by decide) (fun c3 => ?_) (fun c3 => ?_)
    · replace hf := it_n c3 hf
      refine lv_iconst (v := 0) hx hb dX5_put_43 (by decide) ?_
      exact J44 _ _ _ _ _ _ _ _ hf hP hD hS (lv_sub hl [1, 2, 3, 0] rfl)
    · replace hf := it_p c3 hf
      refine lv_aload_n hx hb dX5_put_20 rfl (lv_at hl 1 rfl) ?_
      refine va_get (D := D) (ci := 5) (v := .ref (Ad 5)) (C := RX5) (T := TX5) (N := 17) hx hb hts in5 hown hK hP 0 rfl rfl 4 (by decide) f23 (fun _ h9 => h9) rfl dX5_put_21 ?_
      refine lv_iconst (v := 0) hx hb dX5_put_24 (by decide) ?_
      obtain ⟨g4, hf⟩ := gd_ob hf
      refine va_iald hx hb hK hP 5 0 rfl rfl g4 dX5_put_25 ?_
      refine lv_aload_n hx hb dX5_put_26 rfl (lv_at hl 1 rfl) ?_
      refine va_get (D := D) (ci := 5) (v := .ref (Ad 5)) (C := RX5) (T := TX5) (N := 17) hx hb hts in5 hown hK hP 0 rfl rfl 4 (by decide) f23 (fun _ h9 => h9) rfl dX5_put_27 ?_
      refine lv_iconst (v := 1) hx hb dX5_put_30 (by decide) ?_
      obtain ⟨g5, hf⟩ := gd_ob hf
      refine va_iald hx hb hK hP 5 0 rfl rfl g5 dX5_put_31 ?_
      refine lv_iadd hx hb dX5_put_32 ?_
      refine lv_sipush (v := 200) hx hb dX5_put_33 (by decide) ?_
      refine lv_icmp_ne (tgt := 43) hx hb dX5_put_36 (by decide) (fun c6 => ?_) (fun c6 => ?_)
      · replace hf := it_n c6 hf
        refine lv_iconst (v := 0) hx hb dX5_put_43 (by decide) ?_
        exact J44 _ _ _ _ _ _ _ _ hf hP hD hS (lv_sub hl [1, 2, 3, 0] rfl)
      · replace hf := it_p c6 hf
        refine lv_iconst (v := 2) hx hb dX5_put_39 (by decide) ?_
        refine lv_goto (tgt := 44) hx hb dX5_put_40 (by decide) ?_
        exact J44 _ _ _ _ _ _ _ _ hf hP hD hS (lv_sub hl [1, 2, 3, 0] rfl)
  · replace hf := it_n c2 hf
    refine lv_iconst (v := 1) hx hb dX5_put_11 (by decide) ?_
    refine lv_goto (tgt := 44) hx hb dX5_put_12 (by decide) ?_
    exact J44 _ _ _ _ _ _ _ _ hf hP hD hS (lv_sub hl [1, 2, 3, 0] rfl)

def mm_get  (σ : MS) (a0 : Int32) : Option (Int32 × MS) :=
  nm (m_thrown' σ 0) fun s1 =>
  bd (mm_placeOf s1 a0) fun v2 =>
  if v2 = (-1) then
    some ((-1), s1)
  else
    gd v2 512 <|
    some ((m_values s1 v2.toNatClampNeg), s1)
set_option maxHeartbeats 4000000 in
set_option maxRecDepth 100000 in
theorem tX5_get (l : Launch) (D : va_G) (ca : Nat → ClassId) (Ad : Nat → Nat) (sz : Nat)  (σ : MS) (a0 : Int32) (r : Int32) (σ9 : MS) (hf : mm_get σ a0 = some (r, σ9)) : Ci l D ca yX5_get wsX5_get { frames := 3, cells := 0, slots := 0, locals := 67 } [.ref (Ad 0), .int a0] (wM ca Ad σ) sz r (wM ca Ad σ9) := by
  refine body_of (cc := cX5_get) (maxL := 3) (ret := (some .int)) (fun A => Qi D ca r (wM ca Ad σ9) A) (by decide) rfl (Nat.le_of_ble_eq_true rfl) ?_
  intro p e s m below meth c A ls hx hb hr hml hts hown hlocks hA hK hP hD hS hl hN
  have hl : lv_has ls 3 [(0, .ref (Ad 0)), (1, .int a0)] := hl
  have hret : ∀ (pc : Nat) (ls : Array Slot) (H : Heap) (locs : List Loc), decode cX5_get pc = .ok (.ireturn, 1) → va_P D vwCl (wM ca Ad σ9) H → va_D A (wM ca Ad σ9) → va_S A s.heap H locs → W p l e { frames := 3, cells := 0, slots := 0, locals := 67 } s m ([.ref (Ad 0), .int a0] : List Value).toArray below meth c H locs 0 0 (MQ below (Qi D ca r (wM ca Ad σ9) A) ([.ref (Ad 0), .int a0] : List Value).toArray s 0 0 A) (F0 m pc ls [.int r]) := fun pc ls H locs hd hP hD hS => ret_i hx hb hr hlocks hK hP hD hS hd
  generalize MQ below (Qi D ca r (wM ca Ad σ9) A) ([.ref (Ad 0), .int a0] : List Value).toArray s 0 0 A = Q at hret ⊢
  generalize ([.ref (Ad 0), .int a0] : List Value).toArray = args at hts hret ⊢
  have f13 := hts (.fieldLink RX5 13 "RobinRowModel" "values" "[I") (by decide +kernel)
  have f49 := hts (.fieldLink RX5 49 "RobinRowModel" "thrown" "I") (by decide +kernel)
  have in5 : ∀ w ∈ u_ws RX5 TX5 17, w ∈ wsX5_get := by decide +kernel
  unfold mm_get at hf
  refine lv_aload_n hx hb dX5_get_0 rfl (lv_at hl 0 rfl) ?_
  refine lv_iconst (v := 0) hx hb dX5_get_1 (by decide) ?_
  obtain ⟨s1, es1, hf⟩ := nm_ob hf
  refine va_put (D := D) (ci := 5) (v := .int 0) (ty := .int) (C := RX5) (T := TX5) (N := 17) hx hb hts in5 tyX5 tyX5_ok nmX5 hown hK hP hD hS 0 rfl rfl 16 (by decide) f49 (fun _ h9 => h9) rfl (by decide +kernel) rfl rfl (Nat.le_of_ble_eq_true rfl) dX5_get_2 (fun H locs hP hD hS => ?_)
  have hP : va_P D vwCl (wM ca Ad s1) H := by rw [← es1]; exact hP
  have hD : va_D A (wM ca Ad s1) := by rw [← es1]; exact hD
  refine lv_aload_n hx hb dX5_get_5 rfl (lv_at hl 0 rfl) ?_
  refine lv_iload_n hx hb dX5_get_6 rfl (lv_at hl 1 rfl) ?_
  obtain ⟨v2, ev2, hf⟩ := bd_ob hf
  refine call_i (As := [.int a0]) (rest := []) ⟨hx, hb, hml, hown, hts⟩ (tX5_placeOf l D ca Ad _ s1 a0 v2 ev2) (cwV 1 hts gX5_get_X5_placeOf rfl rfl rfl (by decide +kernel) ⟨Nat.le_of_ble_eq_true rfl, Nat.le_of_ble_eq_true rfl⟩) hN hK hP hD hA hS (fr_id _ _) rfl rfl rfl hl.1 rfl (lv_room (Nat.le_of_ble_eq_true rfl)) dX5_get_7 ⟨Nat.le_refl _, Nat.le_refl _⟩ (fun H locs hP hD hS => ?_)
  refine lv_istore_n (lv' := [(2, .int v2), (0, .ref (Ad 0)), (1, .int a0)]) hx hb dX5_get_10 rfl hl (by decide) rfl (fun ls hl => ?_)
  refine lv_iload_n hx hb dX5_get_11 rfl (lv_at hl 0 rfl) ?_
  refine lv_iconst (v := (-1)) hx hb dX5_get_12 (by decide) ?_
  refine lv_icmp_ne (tgt := 20) hx hb dX5_get_13 (by decide) (fun c3 => ?_) (fun c3 => ?_)
  · replace hf := it_n c3 hf
    refine lv_aload_n hx hb dX5_get_20 rfl (lv_at hl 1 rfl) ?_
    refine va_get (D := D) (ci := 5) (v := .ref (Ad 2)) (C := RX5) (T := TX5) (N := 17) hx hb hts in5 hown hK hP 0 rfl rfl 1 (by decide) f13 (fun _ h9 => h9) rfl dX5_get_21 ?_
    refine lv_iload_n hx hb dX5_get_24 rfl (lv_at hl 0 rfl) ?_
    obtain ⟨g4, hf⟩ := gd_ob hf
    refine va_iald hx hb hK hP 2 0 rfl rfl g4 dX5_get_25 ?_
    obtain ⟨rfl, rfl⟩ := so2 hf
    exact hret _ _ _ _ dX5_get_26 hP hD hS
  · replace hf := it_p c3 hf
    refine lv_iconst (v := (-1)) hx hb dX5_get_16 (by decide) ?_
    refine lv_goto (tgt := 26) hx hb dX5_get_17 (by decide) ?_
    obtain ⟨rfl, rfl⟩ := so2 hf
    exact hret _ _ _ _ dX5_get_26 hP hD hS

def mm_removes  (σ : MS) (a0 : Int32) : Option (Int32 × MS) :=
  bd2 (mm_slice σ) fun v1 s2 =>
  bd (mm_placeOf s2 a0) fun v3 =>
  if v3 = (-1) then
    some ((-1), s2)
  else
    gd v3 512 <|
    nm (m_values s2 v3.toNatClampNeg) fun v6 =>
    bd (mm_takes s2 (v3 / 256) (v3 - v3 / 256 * 256)) fun s8 =>
    some (v6, s8)
set_option maxHeartbeats 4000000 in
set_option maxRecDepth 100000 in
theorem tX5_removes (l : Launch) (D : va_G) (ca : Nat → ClassId) (Ad : Nat → Nat) (sz : Nat)  (σ : MS) (a0 : Int32) (r : Int32) (σ9 : MS) (hf : mm_removes σ a0 = some (r, σ9)) : Ci l D ca yX5_removes wsX5_removes { frames := 5, cells := 0, slots := 0, locals := 123 } [.ref (Ad 0), .int a0] (wM ca Ad σ) sz r (wM ca Ad σ9) := by
  refine body_of (cc := cX5_removes) (maxL := 4) (ret := (some .int)) (fun A => Qi D ca r (wM ca Ad σ9) A) (by decide) rfl (Nat.le_of_ble_eq_true rfl) ?_
  intro p e s m below meth c A ls hx hb hr hml hts hown hlocks hA hK hP hD hS hl hN
  have hl : lv_has ls 4 [(0, .ref (Ad 0)), (1, .int a0)] := hl
  have hret : ∀ (pc : Nat) (ls : Array Slot) (H : Heap) (locs : List Loc), decode cX5_removes pc = .ok (.ireturn, 1) → va_P D vwCl (wM ca Ad σ9) H → va_D A (wM ca Ad σ9) → va_S A s.heap H locs → W p l e { frames := 5, cells := 0, slots := 0, locals := 123 } s m ([.ref (Ad 0), .int a0] : List Value).toArray below meth c H locs 0 0 (MQ below (Qi D ca r (wM ca Ad σ9) A) ([.ref (Ad 0), .int a0] : List Value).toArray s 0 0 A) (F0 m pc ls [.int r]) := fun pc ls H locs hd hP hD hS => ret_i hx hb hr hlocks hK hP hD hS hd
  generalize MQ below (Qi D ca r (wM ca Ad σ9) A) ([.ref (Ad 0), .int a0] : List Value).toArray s 0 0 A = Q at hret ⊢
  generalize ([.ref (Ad 0), .int a0] : List Value).toArray = args at hts hret ⊢
  have f13 := hts (.fieldLink RX5 13 "RobinRowModel" "values" "[I") (by decide +kernel)
  have in5 : ∀ w ∈ u_ws RX5 TX5 17, w ∈ wsX5_removes := by decide +kernel
  unfold mm_removes at hf
  refine lv_aload_n hx hb dX5_removes_0 rfl (lv_at hl 0 rfl) ?_
  obtain ⟨v1, s2, ev1, hf⟩ := bd2_ob hf
  refine call_i (As := []) (rest := []) ⟨hx, hb, hml, hown, hts⟩ (tX5_slice l D ca Ad _ σ v1 s2 ev1) (cwV 0 hts gX5_removes_X5_slice rfl rfl rfl (by decide +kernel) ⟨Nat.le_of_ble_eq_true rfl, Nat.le_of_ble_eq_true rfl⟩) hN hK hP hD hA hS (fr_id _ _) rfl rfl rfl hl.1 rfl (lv_room (Nat.le_of_ble_eq_true rfl)) dX5_removes_1 ⟨Nat.le_refl _, Nat.le_refl _⟩ (fun H locs hP hD hS => ?_)
  refine lv_pop hx hb dX5_removes_4 rfl ?_
  refine lv_aload_n hx hb dX5_removes_5 rfl (lv_at hl 0 rfl) ?_
  refine lv_iload_n hx hb dX5_removes_6 rfl (lv_at hl 1 rfl) ?_
  obtain ⟨v3, ev3, hf⟩ := bd_ob hf
  refine call_i (As := [.int a0]) (rest := []) ⟨hx, hb, hml, hown, hts⟩ (tX5_placeOf l D ca Ad _ s2 a0 v3 ev3) (cwV 1 hts gX5_removes_X5_placeOf rfl rfl rfl (by decide +kernel) ⟨Nat.le_of_ble_eq_true rfl, Nat.le_of_ble_eq_true rfl⟩) hN hK hP hD hA hS (fr_id _ _) rfl rfl rfl hl.1 rfl (lv_room (Nat.le_of_ble_eq_true rfl)) dX5_removes_7 ⟨Nat.le_refl _, Nat.le_refl _⟩ (fun H locs hP hD hS => ?_)
  refine lv_istore_n (lv' := [(2, .int v3), (0, .ref (Ad 0)), (1, .int a0)]) hx hb dX5_removes_10 rfl hl (by decide) rfl (fun ls hl => ?_)
  refine lv_iload_n hx hb dX5_removes_11 rfl (lv_at hl 0 rfl) ?_
  refine lv_iconst (v := (-1)) hx hb dX5_removes_12 (by decide) ?_
  refine lv_icmp_ne (tgt := 18) hx hb dX5_removes_13 (by decide) (fun c4 => ?_) (fun c4 => ?_)
  · replace hf := it_n c4 hf
    refine lv_aload_n hx hb dX5_removes_18 rfl (lv_at hl 1 rfl) ?_
    refine va_get (D := D) (ci := 5) (v := .ref (Ad 2)) (C := RX5) (T := TX5) (N := 17) hx hb hts in5 hown hK hP 0 rfl rfl 1 (by decide) f13 (fun _ h9 => h9) rfl dX5_removes_19 ?_
    refine lv_iload_n hx hb dX5_removes_22 rfl (lv_at hl 0 rfl) ?_
    obtain ⟨g5, hf⟩ := gd_ob hf
    refine va_iald hx hb hK hP 2 0 rfl rfl g5 dX5_removes_23 ?_
    obtain ⟨v6, ev6, hf⟩ := nm_ob hf
    refine tp_i ev6 ?_
    refine lv_istore_n (lv' := [(3, .int v6), (2, .int v3), (0, .ref (Ad 0)), (1, .int a0)]) hx hb dX5_removes_24 rfl hl (by decide) rfl (fun ls hl => ?_)
    refine lv_aload_n hx hb dX5_removes_25 rfl (lv_at hl 2 rfl) ?_
    refine lv_iload_n hx hb dX5_removes_26 rfl (lv_at hl 1 rfl) ?_
    refine lv_sipush (v := 256) hx hb dX5_removes_27 (by decide) ?_
    refine lv_idiv hx hb dX5_removes_30 (by decide) ?_
    refine lv_iload_n hx hb dX5_removes_31 rfl (lv_at hl 1 rfl) ?_
    refine lv_sipush (v := 256) hx hb dX5_removes_32 (by decide) ?_
    refine lv_irem hx hb dX5_removes_35 (by decide) ?_
    obtain ⟨s8, es8, hf⟩ := bd_ob hf
    refine call_v (As := [.int (v3 / 256), .int (v3 - v3 / 256 * 256)]) (rest := []) ⟨hx, hb, hml, hown, hts⟩ (tX5_takes l D ca Ad _ s2 (v3 / 256) (v3 - v3 / 256 * 256) s8 es8) (cwV 2 hts gX5_removes_X5_takes rfl rfl rfl (by decide +kernel) ⟨Nat.le_of_ble_eq_true rfl, Nat.le_of_ble_eq_true rfl⟩) hN hK hP hD hA hS (fr_id _ _) rfl rfl rfl hl.1 rfl (lv_room (Nat.le_of_ble_eq_true rfl)) dX5_removes_36 ⟨Nat.le_refl _, Nat.le_refl _⟩ (fun H locs hP hD hS => ?_)
    refine lv_iload_n hx hb dX5_removes_39 rfl (lv_at hl 0 rfl) ?_
    obtain ⟨rfl, rfl⟩ := so2 hf
    exact hret _ _ _ _ dX5_removes_40 hP hD hS
  · replace hf := it_p c4 hf
    refine lv_iconst (v := (-1)) hx hb dX5_removes_16 (by decide) ?_
    obtain ⟨rfl, rfl⟩ := so2 hf
    exact hret _ _ _ _ dX5_removes_17 hP hD hS

def mm_remove  (σ : MS) (a0 : Int32) : Option (Int32 × MS) :=
  nm (m_thrown' σ 0) fun s1 =>
  bd2 (mm_removes s1 a0) fun v2 s3 =>
  some (v2, s3)
set_option maxHeartbeats 4000000 in
set_option maxRecDepth 100000 in
theorem tX5_remove (l : Launch) (D : va_G) (ca : Nat → ClassId) (Ad : Nat → Nat) (sz : Nat)  (σ : MS) (a0 : Int32) (r : Int32) (σ9 : MS) (hf : mm_remove σ a0 = some (r, σ9)) : Ci l D ca yX5_remove wsX5_remove { frames := 6, cells := 0, slots := 0, locals := 146 } [.ref (Ad 0), .int a0] (wM ca Ad σ) sz r (wM ca Ad σ9) := by
  refine body_of (cc := cX5_remove) (maxL := 2) (ret := (some .int)) (fun A => Qi D ca r (wM ca Ad σ9) A) (by decide) rfl (Nat.le_of_ble_eq_true rfl) ?_
  intro p e s m below meth c A ls hx hb hr hml hts hown hlocks hA hK hP hD hS hl hN
  have hl : lv_has ls 2 [(0, .ref (Ad 0)), (1, .int a0)] := hl
  have hret : ∀ (pc : Nat) (ls : Array Slot) (H : Heap) (locs : List Loc), decode cX5_remove pc = .ok (.ireturn, 1) → va_P D vwCl (wM ca Ad σ9) H → va_D A (wM ca Ad σ9) → va_S A s.heap H locs → W p l e { frames := 6, cells := 0, slots := 0, locals := 146 } s m ([.ref (Ad 0), .int a0] : List Value).toArray below meth c H locs 0 0 (MQ below (Qi D ca r (wM ca Ad σ9) A) ([.ref (Ad 0), .int a0] : List Value).toArray s 0 0 A) (F0 m pc ls [.int r]) := fun pc ls H locs hd hP hD hS => ret_i hx hb hr hlocks hK hP hD hS hd
  generalize MQ below (Qi D ca r (wM ca Ad σ9) A) ([.ref (Ad 0), .int a0] : List Value).toArray s 0 0 A = Q at hret ⊢
  generalize ([.ref (Ad 0), .int a0] : List Value).toArray = args at hts hret ⊢
  have f49 := hts (.fieldLink RX5 49 "RobinRowModel" "thrown" "I") (by decide +kernel)
  have in5 : ∀ w ∈ u_ws RX5 TX5 17, w ∈ wsX5_remove := by decide +kernel
  unfold mm_remove at hf
  refine lv_aload_n hx hb dX5_remove_0 rfl (lv_at hl 0 rfl) ?_
  refine lv_iconst (v := 0) hx hb dX5_remove_1 (by decide) ?_
  obtain ⟨s1, es1, hf⟩ := nm_ob hf
  refine va_put (D := D) (ci := 5) (v := .int 0) (ty := .int) (C := RX5) (T := TX5) (N := 17) hx hb hts in5 tyX5 tyX5_ok nmX5 hown hK hP hD hS 0 rfl rfl 16 (by decide) f49 (fun _ h9 => h9) rfl (by decide +kernel) rfl rfl (Nat.le_of_ble_eq_true rfl) dX5_remove_2 (fun H locs hP hD hS => ?_)
  have hP : va_P D vwCl (wM ca Ad s1) H := by rw [← es1]; exact hP
  have hD : va_D A (wM ca Ad s1) := by rw [← es1]; exact hD
  refine lv_aload_n hx hb dX5_remove_5 rfl (lv_at hl 0 rfl) ?_
  refine lv_iload_n hx hb dX5_remove_6 rfl (lv_at hl 1 rfl) ?_
  obtain ⟨v2, s3, ev2, hf⟩ := bd2_ob hf
  refine call_i (As := [.int a0]) (rest := []) ⟨hx, hb, hml, hown, hts⟩ (tX5_removes l D ca Ad _ s1 a0 v2 s3 ev2) (cwV 1 hts gX5_remove_X5_removes rfl rfl rfl (by decide +kernel) ⟨Nat.le_of_ble_eq_true rfl, Nat.le_of_ble_eq_true rfl⟩) hN hK hP hD hA hS (fr_id _ _) rfl rfl rfl hl.1 rfl (lv_room (Nat.le_of_ble_eq_true rfl)) dX5_remove_7 ⟨Nat.le_refl _, Nat.le_refl _⟩ (fun H locs hP hD hS => ?_)
  obtain ⟨rfl, rfl⟩ := so2 hf
  exact hret _ _ _ _ dX5_remove_10 hP hD hS

def mm_move  (σ : MS)  : Option (Int32 × MS) :=
  nm (m_thrown' σ 0) fun s1 =>
  bd2 (mm_slice s1) fun v2 s3 =>
  some (v2, s3)
set_option maxHeartbeats 4000000 in
set_option maxRecDepth 100000 in
theorem tX5_move (l : Launch) (D : va_G) (ca : Nat → ClassId) (Ad : Nat → Nat) (sz : Nat)  (σ : MS)  (r : Int32) (σ9 : MS) (hf : mm_move σ = some (r, σ9)) : Ci l D ca yX5_move wsX5_move { frames := 5, cells := 0, slots := 0, locals := 123 } [.ref (Ad 0)] (wM ca Ad σ) sz r (wM ca Ad σ9) := by
  refine body_of (cc := cX5_move) (maxL := 1) (ret := (some .int)) (fun A => Qi D ca r (wM ca Ad σ9) A) (by decide) rfl (Nat.le_of_ble_eq_true rfl) ?_
  intro p e s m below meth c A ls hx hb hr hml hts hown hlocks hA hK hP hD hS hl hN
  have hl : lv_has ls 1 [(0, .ref (Ad 0))] := hl
  have hret : ∀ (pc : Nat) (ls : Array Slot) (H : Heap) (locs : List Loc), decode cX5_move pc = .ok (.ireturn, 1) → va_P D vwCl (wM ca Ad σ9) H → va_D A (wM ca Ad σ9) → va_S A s.heap H locs → W p l e { frames := 5, cells := 0, slots := 0, locals := 123 } s m ([.ref (Ad 0)] : List Value).toArray below meth c H locs 0 0 (MQ below (Qi D ca r (wM ca Ad σ9) A) ([.ref (Ad 0)] : List Value).toArray s 0 0 A) (F0 m pc ls [.int r]) := fun pc ls H locs hd hP hD hS => ret_i hx hb hr hlocks hK hP hD hS hd
  generalize MQ below (Qi D ca r (wM ca Ad σ9) A) ([.ref (Ad 0)] : List Value).toArray s 0 0 A = Q at hret ⊢
  generalize ([.ref (Ad 0)] : List Value).toArray = args at hts hret ⊢
  have f49 := hts (.fieldLink RX5 49 "RobinRowModel" "thrown" "I") (by decide +kernel)
  have in5 : ∀ w ∈ u_ws RX5 TX5 17, w ∈ wsX5_move := by decide +kernel
  unfold mm_move at hf
  refine lv_aload_n hx hb dX5_move_0 rfl (lv_at hl 0 rfl) ?_
  refine lv_iconst (v := 0) hx hb dX5_move_1 (by decide) ?_
  obtain ⟨s1, es1, hf⟩ := nm_ob hf
  refine va_put (D := D) (ci := 5) (v := .int 0) (ty := .int) (C := RX5) (T := TX5) (N := 17) hx hb hts in5 tyX5 tyX5_ok nmX5 hown hK hP hD hS 0 rfl rfl 16 (by decide) f49 (fun _ h9 => h9) rfl (by decide +kernel) rfl rfl (Nat.le_of_ble_eq_true rfl) dX5_move_2 (fun H locs hP hD hS => ?_)
  have hP : va_P D vwCl (wM ca Ad s1) H := by rw [← es1]; exact hP
  have hD : va_D A (wM ca Ad s1) := by rw [← es1]; exact hD
  refine lv_aload_n hx hb dX5_move_5 rfl (lv_at hl 0 rfl) ?_
  obtain ⟨v2, s3, ev2, hf⟩ := bd2_ob hf
  refine call_i (As := []) (rest := []) ⟨hx, hb, hml, hown, hts⟩ (tX5_slice l D ca Ad _ s1 v2 s3 ev2) (cwV 0 hts gX5_move_X5_slice rfl rfl rfl (by decide +kernel) ⟨Nat.le_of_ble_eq_true rfl, Nat.le_of_ble_eq_true rfl⟩) hN hK hP hD hA hS (fr_id _ _) rfl rfl rfl hl.1 rfl (lv_room (Nat.le_of_ble_eq_true rfl)) dX5_move_6 ⟨Nat.le_refl _, Nat.le_refl _⟩ (fun H locs hP hD hS => ?_)
  obtain ⟨rfl, rfl⟩ := so2 hf
  exact hret _ _ _ _ dX5_move_9 hP hD hS

def mm_size  (σ : MS)  : Option (Int32 × MS) :=
  nm (m_thrown' σ 0) fun s1 =>
  gd 0 2 <|
  gd 1 2 <|
  some (((m_many s1 (0 : Int32).toNatClampNeg) + (m_many s1 (1 : Int32).toNatClampNeg)), s1)
set_option maxHeartbeats 4000000 in
set_option maxRecDepth 100000 in
theorem tX5_size (l : Launch) (D : va_G) (ca : Nat → ClassId) (Ad : Nat → Nat) (sz : Nat)  (σ : MS)  (r : Int32) (σ9 : MS) (hf : mm_size σ = some (r, σ9)) : Ci l D ca yX5_size wsX5_size { frames := 0, cells := 0, slots := 0, locals := 0 } [.ref (Ad 0)] (wM ca Ad σ) sz r (wM ca Ad σ9) := by
  refine body_of (cc := cX5_size) (maxL := 1) (ret := (some .int)) (fun A => Qi D ca r (wM ca Ad σ9) A) (by decide) rfl (Nat.le_of_ble_eq_true rfl) ?_
  intro p e s m below meth c A ls hx hb hr hml hts hown hlocks hA hK hP hD hS hl hN
  have hl : lv_has ls 1 [(0, .ref (Ad 0))] := hl
  have hret : ∀ (pc : Nat) (ls : Array Slot) (H : Heap) (locs : List Loc), decode cX5_size pc = .ok (.ireturn, 1) → va_P D vwCl (wM ca Ad σ9) H → va_D A (wM ca Ad σ9) → va_S A s.heap H locs → W p l e { frames := 0, cells := 0, slots := 0, locals := 0 } s m ([.ref (Ad 0)] : List Value).toArray below meth c H locs 0 0 (MQ below (Qi D ca r (wM ca Ad σ9) A) ([.ref (Ad 0)] : List Value).toArray s 0 0 A) (F0 m pc ls [.int r]) := fun pc ls H locs hd hP hD hS => ret_i hx hb hr hlocks hK hP hD hS hd
  generalize MQ below (Qi D ca r (wM ca Ad σ9) A) ([.ref (Ad 0)] : List Value).toArray s 0 0 A = Q at hret ⊢
  generalize ([.ref (Ad 0)] : List Value).toArray = args at hts hret ⊢
  have f23 := hts (.fieldLink RX5 23 "RobinRowModel" "many" "[I") (by decide +kernel)
  have f49 := hts (.fieldLink RX5 49 "RobinRowModel" "thrown" "I") (by decide +kernel)
  have in5 : ∀ w ∈ u_ws RX5 TX5 17, w ∈ wsX5_size := by decide +kernel
  unfold mm_size at hf
  refine lv_aload_n hx hb dX5_size_0 rfl (lv_at hl 0 rfl) ?_
  refine lv_iconst (v := 0) hx hb dX5_size_1 (by decide) ?_
  obtain ⟨s1, es1, hf⟩ := nm_ob hf
  refine va_put (D := D) (ci := 5) (v := .int 0) (ty := .int) (C := RX5) (T := TX5) (N := 17) hx hb hts in5 tyX5 tyX5_ok nmX5 hown hK hP hD hS 0 rfl rfl 16 (by decide) f49 (fun _ h9 => h9) rfl (by decide +kernel) rfl rfl (Nat.le_of_ble_eq_true rfl) dX5_size_2 (fun H locs hP hD hS => ?_)
  have hP : va_P D vwCl (wM ca Ad s1) H := by rw [← es1]; exact hP
  have hD : va_D A (wM ca Ad s1) := by rw [← es1]; exact hD
  refine lv_aload_n hx hb dX5_size_5 rfl (lv_at hl 0 rfl) ?_
  refine va_get (D := D) (ci := 5) (v := .ref (Ad 5)) (C := RX5) (T := TX5) (N := 17) hx hb hts in5 hown hK hP 0 rfl rfl 4 (by decide) f23 (fun _ h9 => h9) rfl dX5_size_6 ?_
  refine lv_iconst (v := 0) hx hb dX5_size_9 (by decide) ?_
  obtain ⟨g2, hf⟩ := gd_ob hf
  refine va_iald hx hb hK hP 5 0 rfl rfl g2 dX5_size_10 ?_
  refine lv_aload_n hx hb dX5_size_11 rfl (lv_at hl 0 rfl) ?_
  refine va_get (D := D) (ci := 5) (v := .ref (Ad 5)) (C := RX5) (T := TX5) (N := 17) hx hb hts in5 hown hK hP 0 rfl rfl 4 (by decide) f23 (fun _ h9 => h9) rfl dX5_size_12 ?_
  refine lv_iconst (v := 1) hx hb dX5_size_15 (by decide) ?_
  obtain ⟨g3, hf⟩ := gd_ob hf
  refine va_iald hx hb hK hP 5 0 rfl rfl g3 dX5_size_16 ?_
  refine lv_iadd hx hb dX5_size_17 ?_
  obtain ⟨rfl, rfl⟩ := so2 hf
  exact hret _ _ _ _ dX5_size_18 hP hD hS

def mm_moves  (σ : MS)  : Option (Int32 × MS) :=
  nm (m_thrown' σ 0) fun s1 =>
  some ((m_moves s1), s1)
set_option maxHeartbeats 4000000 in
set_option maxRecDepth 100000 in
theorem tX5_moves (l : Launch) (D : va_G) (ca : Nat → ClassId) (Ad : Nat → Nat) (sz : Nat)  (σ : MS)  (r : Int32) (σ9 : MS) (hf : mm_moves σ = some (r, σ9)) : Ci l D ca yX5_moves wsX5_moves { frames := 0, cells := 0, slots := 0, locals := 0 } [.ref (Ad 0)] (wM ca Ad σ) sz r (wM ca Ad σ9) := by
  refine body_of (cc := cX5_moves) (maxL := 1) (ret := (some .int)) (fun A => Qi D ca r (wM ca Ad σ9) A) (by decide) rfl (Nat.le_of_ble_eq_true rfl) ?_
  intro p e s m below meth c A ls hx hb hr hml hts hown hlocks hA hK hP hD hS hl hN
  have hl : lv_has ls 1 [(0, .ref (Ad 0))] := hl
  have hret : ∀ (pc : Nat) (ls : Array Slot) (H : Heap) (locs : List Loc), decode cX5_moves pc = .ok (.ireturn, 1) → va_P D vwCl (wM ca Ad σ9) H → va_D A (wM ca Ad σ9) → va_S A s.heap H locs → W p l e { frames := 0, cells := 0, slots := 0, locals := 0 } s m ([.ref (Ad 0)] : List Value).toArray below meth c H locs 0 0 (MQ below (Qi D ca r (wM ca Ad σ9) A) ([.ref (Ad 0)] : List Value).toArray s 0 0 A) (F0 m pc ls [.int r]) := fun pc ls H locs hd hP hD hS => ret_i hx hb hr hlocks hK hP hD hS hd
  generalize MQ below (Qi D ca r (wM ca Ad σ9) A) ([.ref (Ad 0)] : List Value).toArray s 0 0 A = Q at hret ⊢
  generalize ([.ref (Ad 0)] : List Value).toArray = args at hts hret ⊢
  have f49 := hts (.fieldLink RX5 49 "RobinRowModel" "thrown" "I") (by decide +kernel)
  have f83 := hts (.fieldLink RX5 83 "RobinRowModel" "moves" "I") (by decide +kernel)
  have in5 : ∀ w ∈ u_ws RX5 TX5 17, w ∈ wsX5_moves := by decide +kernel
  unfold mm_moves at hf
  refine lv_aload_n hx hb dX5_moves_0 rfl (lv_at hl 0 rfl) ?_
  refine lv_iconst (v := 0) hx hb dX5_moves_1 (by decide) ?_
  obtain ⟨s1, es1, hf⟩ := nm_ob hf
  refine va_put (D := D) (ci := 5) (v := .int 0) (ty := .int) (C := RX5) (T := TX5) (N := 17) hx hb hts in5 tyX5 tyX5_ok nmX5 hown hK hP hD hS 0 rfl rfl 16 (by decide) f49 (fun _ h9 => h9) rfl (by decide +kernel) rfl rfl (Nat.le_of_ble_eq_true rfl) dX5_moves_2 (fun H locs hP hD hS => ?_)
  have hP : va_P D vwCl (wM ca Ad s1) H := by rw [← es1]; exact hP
  have hD : va_D A (wM ca Ad s1) := by rw [← es1]; exact hD
  refine lv_aload_n hx hb dX5_moves_5 rfl (lv_at hl 0 rfl) ?_
  refine va_get (D := D) (ci := 5) (v := .int (m_moves s1)) (C := RX5) (T := TX5) (N := 17) hx hb hts in5 hown hK hP 0 rfl rfl 7 (by decide) f83 (fun _ h9 => h9) rfl dX5_moves_6 ?_
  obtain ⟨rfl, rfl⟩ := so2 hf
  exact hret _ _ _ _ dX5_moves_9 hP hD hS

def mm_orderOf_11  (σ : MS) (k11 : Int32 → Int64 → Int32 → Option Int64)  (l2 : Int32) (l3 : Int64) (l5 : Int32) : Option Int64 :=
  if 32 ≤ l5 then
    some l3
  else
    nm ((2 * l3) + (((ushr l2 l5) &&& 1).toInt64)) fun v3 =>
    nm (l5 + 1) fun v4 =>
    k11 l2 v3 v4
def mm_orderOf_lp11  (σ : MS)  : Nat → Int32 → Int64 → Int32 → Option Int64 := itF (fun _ _ _ => none) (fun k => mm_orderOf_11 σ  k)
def mm_orderOf  (σ : MS) (a0 : Int32) : Option Int64 :=
  bd (mm_hashOf σ a0) fun v1 =>
  mm_orderOf_lp11 σ FU v1 0 0
set_option maxHeartbeats 4000000 in
set_option maxRecDepth 100000 in
theorem tX5_orderOf (l : Launch) (D : va_G) (ca : Nat → ClassId) (Ad : Nat → Nat) (sz : Nat)  (σ : MS) (a0 : Int32) (r : Int64) (hf : mm_orderOf σ a0 = some r) : Cl l D ca yX5_orderOf wsX5_orderOf { frames := 1, cells := 0, slots := 0, locals := 22 } [.ref (Ad 0), .int a0] (wM ca Ad σ) sz r (wM ca Ad σ) := by
  refine body_of (cc := cX5_orderOf) (maxL := 6) (ret := (some .long)) (fun A => Ql D ca r (wM ca Ad σ) A) (by decide) rfl (Nat.le_of_ble_eq_true rfl) ?_
  intro p e s m below meth c A ls hx hb hr hml hts hown hlocks hA hK hP hD hS hl hN
  have hl : lv_has ls 6 [(0, .ref (Ad 0)), (1, .int a0)] := hl
  have hret : ∀ (pc : Nat) (ls : Array Slot) (H : Heap) (locs : List Loc), decode cX5_orderOf pc = .ok (.lreturn, 1) → va_P D vwCl (wM ca Ad σ) H → va_D A (wM ca Ad σ) → va_S A s.heap H locs → W p l e { frames := 1, cells := 0, slots := 0, locals := 22 } s m ([.ref (Ad 0), .int a0] : List Value).toArray below meth c H locs 0 0 (MQ below (Ql D ca r (wM ca Ad σ) A) ([.ref (Ad 0), .int a0] : List Value).toArray s 0 0 A) (F0 m pc ls [.long r]) := fun pc ls H locs hd hP hD hS => ret_l hx hb hr hlocks hK hP hD hS hd
  generalize MQ below (Ql D ca r (wM ca Ad σ) A) ([.ref (Ad 0), .int a0] : List Value).toArray s 0 0 A = Q at hret ⊢
  generalize ([.ref (Ad 0), .int a0] : List Value).toArray = args at hts hret ⊢
  have J11 : ∀ (n11 : Nat) (H : Heap) (locs : List Loc) (ls : Array Slot)  (l2 : Int32) (l3 : Int64) (l5 : Int32), mm_orderOf_lp11 σ  n11 l2 l3 l5 = some r → va_P D vwCl (wM ca Ad σ) H → va_D A (wM ca Ad σ) → va_S A s.heap H locs → lv_has ls 6 [(2, .int l2), (3, .long l3), (5, .int l5)] → W p l e { frames := 1, cells := 0, slots := 0, locals := 22 } s m args below meth c H locs 0 0 Q (F0 m 11 ls []) := by
    intro n11
    induction n11 with
    | zero =>
      intro H locs ls l2 l3 l5 hf hP hD hS hl
      exact absurd hf (fun h => by cases h)
    | succ n11 ih11 =>
      intro H locs ls l2 l3 l5 hf hP hD hS hl
      replace hf : mm_orderOf_11 σ  (mm_orderOf_lp11 σ  n11) l2 l3 l5 = some r := hf
      unfold mm_orderOf_11 at hf
      refine lv_iload hx hb dX5_orderOf_11 (lv_at hl 2 rfl) ?_
      refine lv_bipush (v := 32) hx hb dX5_orderOf_13 (by decide) ?_
      refine lv_icmp_ge (tgt := 38) hx hb dX5_orderOf_15 (by decide) (fun c2 => ?_) (fun c2 => ?_)
      · replace hf := it_p c2 hf
        refine lv_lload_n hx hb dX5_orderOf_38 rfl (lv_at hl 1 rfl) ?_
        obtain rfl := so1 hf
        exact hret _ _ _ _ dX5_orderOf_39 hP hD hS
      · replace hf := it_n c2 hf
        refine lv_ldc2 (v := 2) hx hb hown (hts (.constantLong RX5 102 (2)) (by decide +kernel)) dX5_orderOf_18 ?_
        refine lv_lload_n hx hb dX5_orderOf_21 rfl (lv_at hl 1 rfl) ?_
        refine lv_lmul hx hb dX5_orderOf_22 ?_
        refine lv_iload_n hx hb dX5_orderOf_23 rfl (lv_at hl 0 rfl) ?_
        refine lv_iload hx hb dX5_orderOf_24 (lv_at hl 2 rfl) ?_
        refine lv_iushr (v := (ushr l2 l5)) hx hb dX5_orderOf_26 rfl ?_
        refine lv_iconst (v := 1) hx hb dX5_orderOf_27 (by decide) ?_
        refine lv_iand hx hb dX5_orderOf_28 ?_
        refine lv_i2l (v := (((ushr l2 l5) &&& 1).toInt64)) hx hb dX5_orderOf_29 rfl ?_
        refine lv_ladd hx hb dX5_orderOf_30 ?_
        obtain ⟨v3, ev3, hf⟩ := nm_ob hf
        refine tp_l ev3 ?_
        refine lv_lstore_n (lv' := [(3, .long v3), (2, .int l2), (5, .int l5)]) hx hb dX5_orderOf_31 rfl hl (by decide) rfl (fun ls hl => ?_)
        obtain ⟨v4, ev4, hf⟩ := nm_ob hf
        refine lv_iinc (v := v4) (lv' := [(5, .int v4), (3, .long v3), (2, .int l2)]) hx hb dX5_orderOf_32 hl (k := 2) rfl (by rw [← ev4]; rfl) (by decide) rfl (fun ls hl => ?_)
        refine lv_goto (tgt := 11) hx hb dX5_orderOf_35 (by decide) ?_
        exact ih11 _ _ _ _ _ _ hf hP hD hS (lv_sub hl [2, 1, 0] rfl)
  unfold mm_orderOf at hf
  refine lv_aload_n hx hb dX5_orderOf_0 rfl (lv_at hl 0 rfl) ?_
  refine lv_iload_n hx hb dX5_orderOf_1 rfl (lv_at hl 1 rfl) ?_
  obtain ⟨v1, ev1, hf⟩ := bd_ob hf
  refine call_i (As := [.int a0]) (rest := []) ⟨hx, hb, hml, hown, hts⟩ (tX5_hashOf l D ca Ad _ σ a0 v1 ev1) (cwV 1 hts gX5_orderOf_X5_hashOf rfl rfl rfl (by decide +kernel) ⟨Nat.le_of_ble_eq_true rfl, Nat.le_of_ble_eq_true rfl⟩) hN hK hP hD hA hS (fr_id _ _) rfl rfl rfl hl.1 rfl (lv_room (Nat.le_of_ble_eq_true rfl)) dX5_orderOf_2 ⟨Nat.le_refl _, Nat.le_refl _⟩ (fun H locs hP hD hS => ?_)
  refine lv_istore_n (lv' := [(2, .int v1), (0, .ref (Ad 0)), (1, .int a0)]) hx hb dX5_orderOf_5 rfl hl (by decide) rfl (fun ls hl => ?_)
  refine lv_lconst (v := 0) hx hb dX5_orderOf_6 (by decide) ?_
  refine lv_lstore_n (lv' := [(3, .long 0), (2, .int v1), (0, .ref (Ad 0)), (1, .int a0)]) hx hb dX5_orderOf_7 rfl hl (by decide) rfl (fun ls hl => ?_)
  refine lv_iconst (v := 0) hx hb dX5_orderOf_8 (by decide) ?_
  refine lv_istore (lv' := [(5, .int 0), (3, .long 0), (2, .int v1), (0, .ref (Ad 0)), (1, .int a0)]) hx hb dX5_orderOf_9 hl (by decide) rfl (fun ls hl => ?_)
  exact J11 FU _ _ _ _ _ _ hf hP hD hS (lv_sub hl [2, 1, 0] rfl)

def mm_behind_72  (σ : MS) (k5 : Int64 → Int32 → Int32 → Option Int32)  (l1 : Int64) (l3 : Int32) (l4 : Int32) : Option Int32 :=
  nm (l4 + 1) fun v13 =>
  k5 l1 l3 v13
def mm_behind_69  (σ : MS) (k5 : Int64 → Int32 → Int32 → Option Int32)  (l1 : Int64) (l4 : Int32) : Option Int32 :=
  mm_behind_72 σ k5 l1 l4 l4
def mm_behind_5  (σ : MS) (k5 : Int64 → Int32 → Int32 → Option Int32)  (l1 : Int64) (l3 : Int32) (l4 : Int32) : Option Int32 :=
  if 512 ≤ l4 then
    some l3
  else
    gd l4 512 <|
    if (m_full σ l4.toNatClampNeg) = 0 then
      mm_behind_72 σ k5 l1 l3 l4
    else
      gd l4 512 <|
      bd (mm_orderOf σ (m_keys σ l4.toNatClampNeg)) fun v5 =>
      if (lg_cmp v5 l1) ≤ 0 then
        mm_behind_72 σ k5 l1 l3 l4
      else
        if l3 = (-1) then
          mm_behind_69 σ k5 l1 l4
        else
          gd l4 512 <|
          bd (mm_orderOf σ (m_keys σ l4.toNatClampNeg)) fun v9 =>
          gd l3 512 <|
          bd (mm_orderOf σ (m_keys σ l3.toNatClampNeg)) fun v11 =>
          if 0 ≤ (lg_cmp v9 v11) then
            mm_behind_72 σ k5 l1 l3 l4
          else
            mm_behind_69 σ k5 l1 l4
def mm_behind_lp5  (σ : MS)  : Nat → Int64 → Int32 → Int32 → Option Int32 := itF (fun _ _ _ => none) (fun k => mm_behind_5 σ  k)
def mm_behind  (σ : MS) (a0 : Int64) : Option Int32 :=
  mm_behind_lp5 σ FU a0 (-1) 0
set_option maxHeartbeats 4000000 in
set_option maxRecDepth 100000 in
theorem tX5_behind (l : Launch) (D : va_G) (ca : Nat → ClassId) (Ad : Nat → Nat) (sz : Nat)  (σ : MS) (a0 : Int64) (r : Int32) (hf : mm_behind σ a0 = some r) : Ci l D ca yX5_behind wsX5_behind { frames := 2, cells := 0, slots := 0, locals := 47 } [.ref (Ad 0), .long a0] (wM ca Ad σ) sz r (wM ca Ad σ) := by
  refine body_of (cc := cX5_behind) (maxL := 5) (ret := (some .int)) (fun A => Qi D ca r (wM ca Ad σ) A) (by decide) rfl (Nat.le_of_ble_eq_true rfl) ?_
  intro p e s m below meth c A ls hx hb hr hml hts hown hlocks hA hK hP hD hS hl hN
  have hl : lv_has ls 5 [(0, .ref (Ad 0)), (1, .long a0)] := hl
  have hret : ∀ (pc : Nat) (ls : Array Slot) (H : Heap) (locs : List Loc), decode cX5_behind pc = .ok (.ireturn, 1) → va_P D vwCl (wM ca Ad σ) H → va_D A (wM ca Ad σ) → va_S A s.heap H locs → W p l e { frames := 2, cells := 0, slots := 0, locals := 47 } s m ([.ref (Ad 0), .long a0] : List Value).toArray below meth c H locs 0 0 (MQ below (Qi D ca r (wM ca Ad σ) A) ([.ref (Ad 0), .long a0] : List Value).toArray s 0 0 A) (F0 m pc ls [.int r]) := fun pc ls H locs hd hP hD hS => ret_i hx hb hr hlocks hK hP hD hS hd
  generalize MQ below (Qi D ca r (wM ca Ad σ) A) ([.ref (Ad 0), .long a0] : List Value).toArray s 0 0 A = Q at hret ⊢
  generalize ([.ref (Ad 0), .long a0] : List Value).toArray = args at hts hret ⊢
  have f16 := hts (.fieldLink RX5 16 "RobinRowModel" "isFull" "[Z") (by decide +kernel)
  have f7 := hts (.fieldLink RX5 7 "RobinRowModel" "keys" "[I") (by decide +kernel)
  have in5 : ∀ w ∈ u_ws RX5 TX5 17, w ∈ wsX5_behind := by decide +kernel
  have J5 : ∀ (n5 : Nat) (H : Heap) (locs : List Loc) (ls : Array Slot)  (l1 : Int64) (l3 : Int32) (l4 : Int32), mm_behind_lp5 σ  n5 l1 l3 l4 = some r → va_P D vwCl (wM ca Ad σ) H → va_D A (wM ca Ad σ) → va_S A s.heap H locs → lv_has ls 5 [(0, .ref (Ad 0)), (1, .long l1), (3, .int l3), (4, .int l4)] → W p l e { frames := 2, cells := 0, slots := 0, locals := 47 } s m args below meth c H locs 0 0 Q (F0 m 5 ls []) := by
    intro n5
    induction n5 with
    | zero =>
      intro H locs ls l1 l3 l4 hf hP hD hS hl
      exact absurd hf (fun h => by cases h)
    | succ n5 ih5 =>
      have J72 : ∀ (H : Heap) (locs : List Loc) (ls : Array Slot)  (l1 : Int64) (l3 : Int32) (l4 : Int32), mm_behind_72 σ (mm_behind_lp5 σ  n5) l1 l3 l4 = some r → va_P D vwCl (wM ca Ad σ) H → va_D A (wM ca Ad σ) → va_S A s.heap H locs → lv_has ls 5 [(0, .ref (Ad 0)), (1, .long l1), (3, .int l3), (4, .int l4)] → W p l e { frames := 2, cells := 0, slots := 0, locals := 47 } s m args below meth c H locs 0 0 Q (F0 m 72 ls []) := by
        intro H locs ls l1 l3 l4 hf hP hD hS hl
        unfold mm_behind_72 at hf
        obtain ⟨v13, ev13, hf⟩ := nm_ob hf
        refine lv_iinc (v := v13) (lv' := [(4, .int v13), (0, .ref (Ad 0)), (1, .long l1), (3, .int l3)]) hx hb dX5_behind_72 hl (k := 3) rfl (by rw [← ev13]; rfl) (by decide) rfl (fun ls hl => ?_)
        refine lv_goto (tgt := 5) hx hb dX5_behind_75 (by decide) ?_
        exact ih5 _ _ _ _ _ _ hf hP hD hS (lv_sub hl [1, 2, 3, 0] rfl)
      have J69 : ∀ (H : Heap) (locs : List Loc) (ls : Array Slot)  (l1 : Int64) (l4 : Int32), mm_behind_69 σ (mm_behind_lp5 σ  n5) l1 l4 = some r → va_P D vwCl (wM ca Ad σ) H → va_D A (wM ca Ad σ) → va_S A s.heap H locs → lv_has ls 5 [(0, .ref (Ad 0)), (1, .long l1), (4, .int l4)] → W p l e { frames := 2, cells := 0, slots := 0, locals := 47 } s m args below meth c H locs 0 0 Q (F0 m 69 ls []) := by
        intro H locs ls l1 l4 hf hP hD hS hl
        unfold mm_behind_69 at hf
        refine lv_iload hx hb dX5_behind_69 (lv_at hl 2 rfl) ?_
        refine lv_istore_n (lv' := [(3, .int l4), (0, .ref (Ad 0)), (1, .long l1), (4, .int l4)]) hx hb dX5_behind_71 rfl hl (by decide) rfl (fun ls hl => ?_)
        exact J72 _ _ _ _ _ _ hf hP hD hS (lv_sub hl [1, 2, 0, 3] rfl)
      intro H locs ls l1 l3 l4 hf hP hD hS hl
      replace hf : mm_behind_5 σ  (mm_behind_lp5 σ  n5) l1 l3 l4 = some r := hf
      unfold mm_behind_5 at hf
      refine lv_iload hx hb dX5_behind_5 (lv_at hl 3 rfl) ?_
      refine lv_sipush (v := 512) hx hb dX5_behind_7 (by decide) ?_
      refine lv_icmp_ge (tgt := 78) hx hb dX5_behind_10 (by decide) (fun c1 => ?_) (fun c1 => ?_)
      · replace hf := it_p c1 hf
        refine lv_iload_n hx hb dX5_behind_78 rfl (lv_at hl 2 rfl) ?_
        obtain rfl := so1 hf
        exact hret _ _ _ _ dX5_behind_79 hP hD hS
      · replace hf := it_n c1 hf
        refine lv_aload_n hx hb dX5_behind_13 rfl (lv_at hl 0 rfl) ?_
        refine va_get (D := D) (ci := 5) (v := .ref (Ad 3)) (C := RX5) (T := TX5) (N := 17) hx hb hts in5 hown hK hP 0 rfl rfl 2 (by decide) f16 (fun _ h9 => h9) rfl dX5_behind_14 ?_
        refine lv_iload hx hb dX5_behind_17 (lv_at hl 3 rfl) ?_
        obtain ⟨g2, hf⟩ := gd_ob hf
        refine va_zald hx hb hK hP 3 2 rfl rfl g2 dX5_behind_19 ?_
        refine lv_if_eq (tgt := 72) hx hb dX5_behind_20 (by decide) (fun c3 => ?_) (fun c3 => ?_)
        · replace hf := it_p c3 hf
          exact J72 _ _ _ _ _ _ hf hP hD hS (lv_sub hl [0, 1, 2, 3] rfl)
        · replace hf := it_n c3 hf
          refine lv_aload_n hx hb dX5_behind_23 rfl (lv_at hl 0 rfl) ?_
          refine lv_aload_n hx hb dX5_behind_24 rfl (lv_at hl 0 rfl) ?_
          refine va_get (D := D) (ci := 5) (v := .ref (Ad 1)) (C := RX5) (T := TX5) (N := 17) hx hb hts in5 hown hK hP 0 rfl rfl 0 (by decide) f7 (fun _ h9 => h9) rfl dX5_behind_25 ?_
          refine lv_iload hx hb dX5_behind_28 (lv_at hl 3 rfl) ?_
          obtain ⟨g4, hf⟩ := gd_ob hf
          refine va_iald hx hb hK hP 1 0 rfl rfl g4 dX5_behind_30 ?_
          obtain ⟨v5, ev5, hf⟩ := bd_ob hf
          refine call_l (As := [.int (m_keys σ l4.toNatClampNeg)]) (rest := []) ⟨hx, hb, hml, hown, hts⟩ (tX5_orderOf l D ca Ad _ σ (m_keys σ l4.toNatClampNeg) v5 ev5) (cwV 1 hts gX5_behind_X5_orderOf rfl rfl rfl (by decide +kernel) ⟨Nat.le_of_ble_eq_true rfl, Nat.le_of_ble_eq_true rfl⟩) hN hK hP hD hA hS (fr_id _ _) rfl rfl rfl hl.1 rfl (lv_room (Nat.le_of_ble_eq_true rfl)) dX5_behind_31 ⟨Nat.le_refl _, Nat.le_refl _⟩ (fun H locs hP hD hS => ?_)
          refine lv_lload_n hx hb dX5_behind_34 rfl (lv_at hl 1 rfl) ?_
          refine W.lcmp hx hb dX5_behind_35 ?_
          refine lv_if_le (tgt := 72) hx hb dX5_behind_36 (by decide) (fun c6 => ?_) (fun c6 => ?_)
          · replace hf := it_p c6 hf
            exact J72 _ _ _ _ _ _ hf hP hD hS (lv_sub hl [0, 1, 2, 3] rfl)
          · replace hf := it_n c6 hf
            refine lv_iload_n hx hb dX5_behind_39 rfl (lv_at hl 2 rfl) ?_
            refine lv_iconst (v := (-1)) hx hb dX5_behind_40 (by decide) ?_
            refine lv_icmp_eq (tgt := 69) hx hb dX5_behind_41 (by decide) (fun c7 => ?_) (fun c7 => ?_)
            · replace hf := it_p c7 hf
              exact J69 _ _ _ _ _ hf hP hD hS (lv_sub hl [0, 1, 3] rfl)
            · replace hf := it_n c7 hf
              refine lv_aload_n hx hb dX5_behind_44 rfl (lv_at hl 0 rfl) ?_
              refine lv_aload_n hx hb dX5_behind_45 rfl (lv_at hl 0 rfl) ?_
              refine va_get (D := D) (ci := 5) (v := .ref (Ad 1)) (C := RX5) (T := TX5) (N := 17) hx hb hts in5 hown hK hP 0 rfl rfl 0 (by decide) f7 (fun _ h9 => h9) rfl dX5_behind_46 ?_
              refine lv_iload hx hb dX5_behind_49 (lv_at hl 3 rfl) ?_
              obtain ⟨g8, hf⟩ := gd_ob hf
              refine va_iald hx hb hK hP 1 0 rfl rfl g8 dX5_behind_51 ?_
              obtain ⟨v9, ev9, hf⟩ := bd_ob hf
              refine call_l (As := [.int (m_keys σ l4.toNatClampNeg)]) (rest := []) ⟨hx, hb, hml, hown, hts⟩ (tX5_orderOf l D ca Ad _ σ (m_keys σ l4.toNatClampNeg) v9 ev9) (cwV 1 hts gX5_behind_X5_orderOf rfl rfl rfl (by decide +kernel) ⟨Nat.le_of_ble_eq_true rfl, Nat.le_of_ble_eq_true rfl⟩) hN hK hP hD hA hS (fr_id _ _) rfl rfl rfl hl.1 rfl (lv_room (Nat.le_of_ble_eq_true rfl)) dX5_behind_52 ⟨Nat.le_refl _, Nat.le_refl _⟩ (fun H locs hP hD hS => ?_)
              refine lv_aload_n hx hb dX5_behind_55 rfl (lv_at hl 0 rfl) ?_
              refine lv_aload_n hx hb dX5_behind_56 rfl (lv_at hl 0 rfl) ?_
              refine va_get (D := D) (ci := 5) (v := .ref (Ad 1)) (C := RX5) (T := TX5) (N := 17) hx hb hts in5 hown hK hP 0 rfl rfl 0 (by decide) f7 (fun _ h9 => h9) rfl dX5_behind_57 ?_
              refine lv_iload_n hx hb dX5_behind_60 rfl (lv_at hl 2 rfl) ?_
              obtain ⟨g10, hf⟩ := gd_ob hf
              refine va_iald hx hb hK hP 1 0 rfl rfl g10 dX5_behind_61 ?_
              obtain ⟨v11, ev11, hf⟩ := bd_ob hf
              refine call_l (As := [.int (m_keys σ l3.toNatClampNeg)]) (rest := [.long v9]) ⟨hx, hb, hml, hown, hts⟩ (tX5_orderOf l D ca Ad _ σ (m_keys σ l3.toNatClampNeg) v11 ev11) (cwV 1 hts gX5_behind_X5_orderOf rfl rfl rfl (by decide +kernel) ⟨Nat.le_of_ble_eq_true rfl, Nat.le_of_ble_eq_true rfl⟩) hN hK hP hD hA hS (fr_id _ _) rfl rfl rfl hl.1 rfl (lv_room (Nat.le_of_ble_eq_true rfl)) dX5_behind_62 ⟨Nat.le_refl _, Nat.le_refl _⟩ (fun H locs hP hD hS => ?_)
              refine W.lcmp hx hb dX5_behind_65 ?_
              refine lv_if_ge (tgt := 72) hx hb dX5_behind_66 (by decide) (fun c12 => ?_) (fun c12 => ?_)
              · replace hf := it_p c12 hf
                exact J72 _ _ _ _ _ _ hf hP hD hS (lv_sub hl [0, 1, 2, 3] rfl)
              · replace hf := it_n c12 hf
                exact J69 _ _ _ _ _ hf hP hD hS (lv_sub hl [0, 1, 3] rfl)
  unfold mm_behind at hf
  refine lv_iconst (v := (-1)) hx hb dX5_behind_0 (by decide) ?_
  refine lv_istore_n (lv' := [(3, .int (-1)), (0, .ref (Ad 0)), (1, .long a0)]) hx hb dX5_behind_1 rfl hl (by decide) rfl (fun ls hl => ?_)
  refine lv_iconst (v := 0) hx hb dX5_behind_2 (by decide) ?_
  refine lv_istore (lv' := [(4, .int 0), (3, .int (-1)), (0, .ref (Ad 0)), (1, .long a0)]) hx hb dX5_behind_3 hl (by decide) rfl (fun ls hl => ?_)
  exact J5 FU _ _ _ _ _ _ hf hP hD hS (lv_sub hl [2, 3, 1, 0] rfl)

def mm_openSweep_33   (σ : MS) (l1 : Int32) (t1 : Int32) : Option (Int32 × MS) :=
  bd2 (mm_isFine σ t1) fun v6 s7 =>
  if v6 = 0 then
    some (0, s7)
  else
    gd l1 4 <|
    nm (m_open' s7 (upd (m_open s7) l1.toNatClampNeg 1)) fun s10 =>
    gd l1 4 <|
    nm (m_last' s10 (vp_updL (m_last s10) l1.toNatClampNeg (-1))) fun s12 =>
    gd l1 4 <|
    nm (m_taken' s12 (upd (m_taken s12) l1.toNatClampNeg 0)) fun s14 =>
    gd l1 4 <|
    nm (m_met' s14 (upd (m_met s14) l1.toNatClampNeg 0)) fun s16 =>
    some (l1, s16)
def mm_openSweep_22   (σ : MS) (l1 : Int32) : Option (Int32 × MS) :=
  if l1 = 4 then
    mm_openSweep_33 σ l1 1
  else
    mm_openSweep_33 σ l1 0
def mm_openSweep_2  (k2 : MS → Int32 → Option (Int32 × MS)) (σ : MS) (l1 : Int32) : Option (Int32 × MS) :=
  if 4 ≤ l1 then
    mm_openSweep_22 σ l1
  else
    gd l1 4 <|
    if (m_open σ l1.toNatClampNeg) = 0 then
      mm_openSweep_22 σ l1
    else
      nm (l1 + 1) fun v4 =>
      k2 σ v4
def mm_openSweep_lp2   : Nat → MS → Int32 → Option (Int32 × MS) := itF (fun _ _ => none) (fun k => mm_openSweep_2   k)
def mm_openSweep  (σ : MS)  : Option (Int32 × MS) :=
  mm_openSweep_lp2 FU σ 0
set_option maxHeartbeats 4000000 in
set_option maxRecDepth 100000 in
theorem tX5_openSweep (l : Launch) (D : va_G) (ca : Nat → ClassId) (Ad : Nat → Nat) (sz : Nat)  (σ : MS)  (r : Int32) (σ9 : MS) (hf : mm_openSweep σ = some (r, σ9)) : Ci l D ca yX5_openSweep wsX5_openSweep { frames := 1, cells := 0, slots := 0, locals := 21 } [.ref (Ad 0)] (wM ca Ad σ) sz r (wM ca Ad σ9) := by
  refine body_of (cc := cX5_openSweep) (maxL := 2) (ret := (some .int)) (fun A => Qi D ca r (wM ca Ad σ9) A) (by decide) rfl (Nat.le_of_ble_eq_true rfl) ?_
  intro p e s m below meth c A ls hx hb hr hml hts hown hlocks hA hK hP hD hS hl hN
  have hl : lv_has ls 2 [(0, .ref (Ad 0))] := hl
  have hret : ∀ (pc : Nat) (ls : Array Slot) (H : Heap) (locs : List Loc), decode cX5_openSweep pc = .ok (.ireturn, 1) → va_P D vwCl (wM ca Ad σ9) H → va_D A (wM ca Ad σ9) → va_S A s.heap H locs → W p l e { frames := 1, cells := 0, slots := 0, locals := 21 } s m ([.ref (Ad 0)] : List Value).toArray below meth c H locs 0 0 (MQ below (Qi D ca r (wM ca Ad σ9) A) ([.ref (Ad 0)] : List Value).toArray s 0 0 A) (F0 m pc ls [.int r]) := fun pc ls H locs hd hP hD hS => ret_i hx hb hr hlocks hK hP hD hS hd
  generalize MQ below (Qi D ca r (wM ca Ad σ9) A) ([.ref (Ad 0)] : List Value).toArray s 0 0 A = Q at hret ⊢
  generalize ([.ref (Ad 0)] : List Value).toArray = args at hts hret ⊢
  have f30 := hts (.fieldLink RX5 30 "RobinRowModel" "isOpen" "[Z") (by decide +kernel)
  have f33 := hts (.fieldLink RX5 33 "RobinRowModel" "last" "[J") (by decide +kernel)
  have f40 := hts (.fieldLink RX5 40 "RobinRowModel" "isTaken" "[Z") (by decide +kernel)
  have f43 := hts (.fieldLink RX5 43 "RobinRowModel" "met" "[I") (by decide +kernel)
  have in5 : ∀ w ∈ u_ws RX5 TX5 17, w ∈ wsX5_openSweep := by decide +kernel
  have J33 : ∀ (H : Heap) (locs : List Loc) (ls : Array Slot) (σ : MS) (l1 : Int32) (t1 : Int32), mm_openSweep_33  σ l1 t1 = some (r, σ9) → va_P D vwCl (wM ca Ad σ) H → va_D A (wM ca Ad σ) → va_S A s.heap H locs → lv_has ls 2 [(0, .ref (Ad 0)), (1, .int l1)] → W p l e { frames := 1, cells := 0, slots := 0, locals := 21 } s m args below meth c H locs 0 0 Q (F0 m 33 ls [.int t1, .ref (Ad 0)]) := by
    intro H locs ls σ l1 t1 hf hP hD hS hl
    unfold mm_openSweep_33 at hf
    obtain ⟨v6, s7, ev6, hf⟩ := bd2_ob hf
    refine call_i (As := [.int t1]) (rest := []) ⟨hx, hb, hml, hown, hts⟩ (tX5_isFine l D ca Ad _ σ t1 v6 s7 ev6) (cwV 1 hts gX5_openSweep_X5_isFine rfl rfl rfl (by decide +kernel) ⟨Nat.le_of_ble_eq_true rfl, Nat.le_of_ble_eq_true rfl⟩) hN hK hP hD hA hS (fr_id _ _) rfl rfl rfl hl.1 rfl (lv_room (Nat.le_of_ble_eq_true rfl)) dX5_openSweep_33 ⟨Nat.le_refl _, Nat.le_refl _⟩ (fun H locs hP hD hS => ?_)
    refine lv_if_ne (tgt := 41) hx hb dX5_openSweep_36 (by decide) (fun c8 => ?_) (fun c8 => ?_)
    · replace hf := it_n c8 hf
      refine lv_aload_n hx hb dX5_openSweep_41 rfl (lv_at hl 0 rfl) ?_
      refine va_get (D := D) (ci := 5) (v := .ref (Ad 6)) (C := RX5) (T := TX5) (N := 17) hx hb hts in5 hown hK hP 0 rfl rfl 8 (by decide) f30 (fun _ h9 => h9) rfl dX5_openSweep_42 ?_
      refine lv_iload_n hx hb dX5_openSweep_45 rfl (lv_at hl 1 rfl) ?_
      refine lv_iconst (v := 1) hx hb dX5_openSweep_46 (by decide) ?_
      obtain ⟨g9, hf⟩ := gd_ob hf
      obtain ⟨s10, es10, hf⟩ := nm_ob hf
      refine va_zast hx hb hK hP hD hS 6 2 rfl rfl g9 dX5_openSweep_47 (fun H locs hP hD hS => ?_)
      have hP : va_P D vwCl (wM ca Ad s10) H := by rw [← es10]; exact hP
      have hD : va_D A (wM ca Ad s10) := by rw [← es10]; exact hD
      refine lv_aload_n hx hb dX5_openSweep_48 rfl (lv_at hl 0 rfl) ?_
      refine va_get (D := D) (ci := 5) (v := .ref (Ad 7)) (C := RX5) (T := TX5) (N := 17) hx hb hts in5 hown hK hP 0 rfl rfl 9 (by decide) f33 (fun _ h9 => h9) rfl dX5_openSweep_49 ?_
      refine lv_iload_n hx hb dX5_openSweep_52 rfl (lv_at hl 1 rfl) ?_
      refine lv_ldc2 (v := (-1)) hx hb hown (hts (.constantLong RX5 108 (-1)) (by decide +kernel)) dX5_openSweep_53 ?_
      obtain ⟨g11, hf⟩ := gd_ob hf
      obtain ⟨s12, es12, hf⟩ := nm_ob hf
      refine va_last hx hb hK hP hD hS 7 3 rfl rfl g11 dX5_openSweep_56 (fun H locs hP hD hS => ?_)
      have hP : va_P D vwCl (wM ca Ad s12) H := by rw [← es12]; exact hP
      have hD : va_D A (wM ca Ad s12) := by rw [← es12]; exact hD
      refine lv_aload_n hx hb dX5_openSweep_57 rfl (lv_at hl 0 rfl) ?_
      refine va_get (D := D) (ci := 5) (v := .ref (Ad 9)) (C := RX5) (T := TX5) (N := 17) hx hb hts in5 hown hK hP 0 rfl rfl 11 (by decide) f40 (fun _ h9 => h9) rfl dX5_openSweep_58 ?_
      refine lv_iload_n hx hb dX5_openSweep_61 rfl (lv_at hl 1 rfl) ?_
      refine lv_iconst (v := 0) hx hb dX5_openSweep_62 (by decide) ?_
      obtain ⟨g13, hf⟩ := gd_ob hf
      obtain ⟨s14, es14, hf⟩ := nm_ob hf
      refine va_zast hx hb hK hP hD hS 9 2 rfl rfl g13 dX5_openSweep_63 (fun H locs hP hD hS => ?_)
      have hP : va_P D vwCl (wM ca Ad s14) H := by rw [← es14]; exact hP
      have hD : va_D A (wM ca Ad s14) := by rw [← es14]; exact hD
      refine lv_aload_n hx hb dX5_openSweep_64 rfl (lv_at hl 0 rfl) ?_
      refine va_get (D := D) (ci := 5) (v := .ref (Ad 10)) (C := RX5) (T := TX5) (N := 17) hx hb hts in5 hown hK hP 0 rfl rfl 12 (by decide) f43 (fun _ h9 => h9) rfl dX5_openSweep_65 ?_
      refine lv_iload_n hx hb dX5_openSweep_68 rfl (lv_at hl 1 rfl) ?_
      refine lv_iconst (v := 0) hx hb dX5_openSweep_69 (by decide) ?_
      obtain ⟨g15, hf⟩ := gd_ob hf
      obtain ⟨s16, es16, hf⟩ := nm_ob hf
      refine va_iast hx hb hK hP hD hS 10 0 rfl rfl g15 dX5_openSweep_70 (fun H locs hP hD hS => ?_)
      have hP : va_P D vwCl (wM ca Ad s16) H := by rw [← es16]; exact hP
      have hD : va_D A (wM ca Ad s16) := by rw [← es16]; exact hD
      refine lv_iload_n hx hb dX5_openSweep_71 rfl (lv_at hl 1 rfl) ?_
      obtain ⟨rfl, rfl⟩ := so2 hf
      exact hret _ _ _ _ dX5_openSweep_72 hP hD hS
    · replace hf := it_p c8 hf
      refine lv_iconst (v := 0) hx hb dX5_openSweep_39 (by decide) ?_
      obtain ⟨rfl, rfl⟩ := so2 hf
      exact hret _ _ _ _ dX5_openSweep_40 hP hD hS
  have J22 : ∀ (H : Heap) (locs : List Loc) (ls : Array Slot) (σ : MS) (l1 : Int32), mm_openSweep_22  σ l1 = some (r, σ9) → va_P D vwCl (wM ca Ad σ) H → va_D A (wM ca Ad σ) → va_S A s.heap H locs → lv_has ls 2 [(0, .ref (Ad 0)), (1, .int l1)] → W p l e { frames := 1, cells := 0, slots := 0, locals := 21 } s m args below meth c H locs 0 0 Q (F0 m 22 ls []) := by
    intro H locs ls σ l1 hf hP hD hS hl
    unfold mm_openSweep_22 at hf
    refine lv_aload_n hx hb dX5_openSweep_22 rfl (lv_at hl 0 rfl) ?_
    refine lv_iload_n hx hb dX5_openSweep_23 rfl (lv_at hl 1 rfl) ?_
    refine lv_iconst (v := 4) hx hb dX5_openSweep_24 (by decide) ?_
    refine lv_icmp_ne (tgt := 32) hx hb dX5_openSweep_25 (by decide) (fun c5 => ?_) (fun c5 => ?_)
    · replace hf := it_n c5 hf
      refine lv_iconst (v := 0) hx hb dX5_openSweep_32 (by decide) ?_
      exact J33 _ _ _ _ _ _ hf hP hD hS (lv_sub hl [0, 1] rfl)
    · replace hf := it_p c5 hf
      refine lv_iconst (v := 1) hx hb dX5_openSweep_28 (by decide) ?_
      refine lv_goto (tgt := 33) hx hb dX5_openSweep_29 (by decide) ?_
      exact J33 _ _ _ _ _ _ hf hP hD hS (lv_sub hl [0, 1] rfl)
  have J2 : ∀ (n2 : Nat) (H : Heap) (locs : List Loc) (ls : Array Slot) (σ : MS) (l1 : Int32), mm_openSweep_lp2  n2 σ l1 = some (r, σ9) → va_P D vwCl (wM ca Ad σ) H → va_D A (wM ca Ad σ) → va_S A s.heap H locs → lv_has ls 2 [(0, .ref (Ad 0)), (1, .int l1)] → W p l e { frames := 1, cells := 0, slots := 0, locals := 21 } s m args below meth c H locs 0 0 Q (F0 m 2 ls []) := by
    intro n2
    induction n2 with
    | zero =>
      intro H locs ls σ l1 hf hP hD hS hl
      exact absurd hf (fun h => by cases h)
    | succ n2 ih2 =>
      intro H locs ls σ l1 hf hP hD hS hl
      replace hf : mm_openSweep_2  (mm_openSweep_lp2  n2) σ l1 = some (r, σ9) := hf
      unfold mm_openSweep_2 at hf
      refine lv_iload_n hx hb dX5_openSweep_2 rfl (lv_at hl 1 rfl) ?_
      refine lv_iconst (v := 4) hx hb dX5_openSweep_3 (by decide) ?_
      refine lv_icmp_ge (tgt := 22) hx hb dX5_openSweep_4 (by decide) (fun c1 => ?_) (fun c1 => ?_)
      · replace hf := it_p c1 hf
        exact J22 _ _ _ _ _ hf hP hD hS (lv_sub hl [0, 1] rfl)
      · replace hf := it_n c1 hf
        refine lv_aload_n hx hb dX5_openSweep_7 rfl (lv_at hl 0 rfl) ?_
        refine va_get (D := D) (ci := 5) (v := .ref (Ad 6)) (C := RX5) (T := TX5) (N := 17) hx hb hts in5 hown hK hP 0 rfl rfl 8 (by decide) f30 (fun _ h9 => h9) rfl dX5_openSweep_8 ?_
        refine lv_iload_n hx hb dX5_openSweep_11 rfl (lv_at hl 1 rfl) ?_
        obtain ⟨g2, hf⟩ := gd_ob hf
        refine va_zald hx hb hK hP 6 2 rfl rfl g2 dX5_openSweep_12 ?_
        refine lv_if_eq (tgt := 22) hx hb dX5_openSweep_13 (by decide) (fun c3 => ?_) (fun c3 => ?_)
        · replace hf := it_p c3 hf
          exact J22 _ _ _ _ _ hf hP hD hS (lv_sub hl [0, 1] rfl)
        · replace hf := it_n c3 hf
          obtain ⟨v4, ev4, hf⟩ := nm_ob hf
          refine lv_iinc (v := v4) (lv' := [(1, .int v4), (0, .ref (Ad 0))]) hx hb dX5_openSweep_16 hl (k := 1) rfl (by rw [← ev4]; rfl) (by decide) rfl (fun ls hl => ?_)
          refine lv_goto (tgt := 2) hx hb dX5_openSweep_19 (by decide) ?_
          exact ih2 _ _ _ _ _ hf hP hD hS (lv_sub hl [1, 0] rfl)
  unfold mm_openSweep at hf
  refine lv_iconst (v := 0) hx hb dX5_openSweep_0 (by decide) ?_
  refine lv_istore_n (lv' := [(1, .int 0), (0, .ref (Ad 0))]) hx hb dX5_openSweep_1 rfl hl (by decide) rfl (fun ls hl => ?_)
  exact J2 FU _ _ _ _ _ hf hP hD hS (lv_sub hl [1, 0] rfl)

def mm_isSweep_27  (σ : MS)   (t1 : Int32) : Option Int32 :=
  gd t1 4 <|
  if (m_open σ t1.toNatClampNeg) = 0 then
    some 0
  else
    some 1
def mm_isSweep  (σ : MS) (a0 : Int32) : Option Int32 :=
  bd (mm_in a0 0 3) fun v1 =>
  if v1 = 0 then
    some 0
  else
    bd (mm_in a0 0 3) fun v3 =>
    if v3 = 0 then
      mm_isSweep_27 σ 0
    else
      mm_isSweep_27 σ a0
set_option maxHeartbeats 4000000 in
set_option maxRecDepth 100000 in
theorem tX5_isSweep (l : Launch) (D : va_G) (ca : Nat → ClassId) (Ad : Nat → Nat) (sz : Nat)  (σ : MS) (a0 : Int32) (r : Int32) (hf : mm_isSweep σ a0 = some r) : Ci l D ca yX5_isSweep wsX5_isSweep { frames := 1, cells := 0, slots := 0, locals := 22 } [.ref (Ad 0), .int a0] (wM ca Ad σ) sz r (wM ca Ad σ) := by
  refine body_of (cc := cX5_isSweep) (maxL := 2) (ret := (some .boolean)) (fun A => Qi D ca r (wM ca Ad σ) A) (by decide) rfl (Nat.le_of_ble_eq_true rfl) ?_
  intro p e s m below meth c A ls hx hb hr hml hts hown hlocks hA hK hP hD hS hl hN
  have hl : lv_has ls 2 [(0, .ref (Ad 0)), (1, .int a0)] := hl
  have hret : ∀ (pc : Nat) (ls : Array Slot) (H : Heap) (locs : List Loc), decode cX5_isSweep pc = .ok (.ireturn, 1) → narrow .boolean (.int r) = .int r → va_P D vwCl (wM ca Ad σ) H → va_D A (wM ca Ad σ) → va_S A s.heap H locs → W p l e { frames := 1, cells := 0, slots := 0, locals := 22 } s m ([.ref (Ad 0), .int a0] : List Value).toArray below meth c H locs 0 0 (MQ below (Qi D ca r (wM ca Ad σ) A) ([.ref (Ad 0), .int a0] : List Value).toArray s 0 0 A) (F0 m pc ls [.int r]) := fun pc ls H locs hd hn hP hD hS => ret_z hx hb hr hn hlocks hK hP hD hS hd
  generalize MQ below (Qi D ca r (wM ca Ad σ) A) ([.ref (Ad 0), .int a0] : List Value).toArray s 0 0 A = Q at hret ⊢
  generalize ([.ref (Ad 0), .int a0] : List Value).toArray = args at hts hret ⊢
  have f30 := hts (.fieldLink RX5 30 "RobinRowModel" "isOpen" "[Z") (by decide +kernel)
  have in5 : ∀ w ∈ u_ws RX5 TX5 17, w ∈ wsX5_isSweep := by decide +kernel
  have J27 : ∀ (H : Heap) (locs : List Loc) (ls : Array Slot)  (t1 : Int32), mm_isSweep_27 σ  t1 = some r → va_P D vwCl (wM ca Ad σ) H → va_D A (wM ca Ad σ) → va_S A s.heap H locs → lv_has ls 2 [] → W p l e { frames := 1, cells := 0, slots := 0, locals := 22 } s m args below meth c H locs 0 0 Q (F0 m 27 ls [.int t1, .ref (Ad 6)]) := by
    intro H locs ls t1 hf hP hD hS hl
    unfold mm_isSweep_27 at hf
    obtain ⟨g5, hf⟩ := gd_ob hf
    refine va_zald hx hb hK hP 6 2 rfl rfl g5 dX5_isSweep_27 ?_
    refine lv_if_eq (tgt := 35) hx hb dX5_isSweep_28 (by decide) (fun c6 => ?_) (fun c6 => ?_)
    · replace hf := it_p c6 hf
      refine lv_iconst (v := 0) hx hb dX5_isSweep_35 (by decide) ?_
      obtain rfl := so1 hf
      exact hret _ _ _ _ dX5_isSweep_36 rfl hP hD hS
    · replace hf := it_n c6 hf
      refine lv_iconst (v := 1) hx hb dX5_isSweep_31 (by decide) ?_
      refine lv_goto (tgt := 36) hx hb dX5_isSweep_32 (by decide) ?_
      obtain rfl := so1 hf
      exact hret _ _ _ _ dX5_isSweep_36 rfl hP hD hS
  unfold mm_isSweep at hf
  refine lv_iload_n hx hb dX5_isSweep_0 rfl (lv_at hl 1 rfl) ?_
  refine lv_iconst (v := 0) hx hb dX5_isSweep_1 (by decide) ?_
  refine lv_iconst (v := 3) hx hb dX5_isSweep_2 (by decide) ?_
  obtain ⟨v1, ev1, hf⟩ := bd_ob hf
  refine call_si (As := [.int a0, .int 0, .int 3]) (rest := []) ⟨hx, hb, hml, hown, hts⟩ (tX5_in l D ca _ a0 0 3 v1 ev1) (va_cwS 3 hts gX5_isSweep_X5_in rfl rfl rfl (by decide +kernel) ⟨Nat.le_of_ble_eq_true rfl, Nat.le_of_ble_eq_true rfl⟩) hN hK hP hD hA hS (fr_no _) rfl hl.1 rfl (lv_room (Nat.le_of_ble_eq_true rfl)) dX5_isSweep_3 ⟨Nat.le_refl _, Nat.le_refl _⟩ (fun H locs hP hD hS => ?_)
  refine lv_if_eq (tgt := 35) hx hb dX5_isSweep_6 (by decide) (fun c2 => ?_) (fun c2 => ?_)
  · replace hf := it_p c2 hf
    refine lv_iconst (v := 0) hx hb dX5_isSweep_35 (by decide) ?_
    obtain rfl := so1 hf
    exact hret _ _ _ _ dX5_isSweep_36 rfl hP hD hS
  · replace hf := it_n c2 hf
    refine lv_aload_n hx hb dX5_isSweep_9 rfl (lv_at hl 0 rfl) ?_
    refine va_get (D := D) (ci := 5) (v := .ref (Ad 6)) (C := RX5) (T := TX5) (N := 17) hx hb hts in5 hown hK hP 0 rfl rfl 8 (by decide) f30 (fun _ h9 => h9) rfl dX5_isSweep_10 ?_
    refine lv_iload_n hx hb dX5_isSweep_13 rfl (lv_at hl 1 rfl) ?_
    refine lv_iconst (v := 0) hx hb dX5_isSweep_14 (by decide) ?_
    refine lv_iconst (v := 3) hx hb dX5_isSweep_15 (by decide) ?_
    obtain ⟨v3, ev3, hf⟩ := bd_ob hf
    refine call_si (As := [.int a0, .int 0, .int 3]) (rest := [.ref (Ad 6)]) ⟨hx, hb, hml, hown, hts⟩ (tX5_in l D ca _ a0 0 3 v3 ev3) (va_cwS 3 hts gX5_isSweep_X5_in rfl rfl rfl (by decide +kernel) ⟨Nat.le_of_ble_eq_true rfl, Nat.le_of_ble_eq_true rfl⟩) hN hK hP hD hA hS (fr_no _) rfl hl.1 rfl (lv_room (Nat.le_of_ble_eq_true rfl)) dX5_isSweep_16 ⟨Nat.le_refl _, Nat.le_refl _⟩ (fun H locs hP hD hS => ?_)
    refine lv_if_eq (tgt := 26) hx hb dX5_isSweep_19 (by decide) (fun c4 => ?_) (fun c4 => ?_)
    · replace hf := it_p c4 hf
      refine lv_iconst (v := 0) hx hb dX5_isSweep_26 (by decide) ?_
      exact J27 _ _ _ _ hf hP hD hS (lv_sub hl [] rfl)
    · replace hf := it_n c4 hf
      refine lv_iload_n hx hb dX5_isSweep_22 rfl (lv_at hl 1 rfl) ?_
      refine lv_goto (tgt := 27) hx hb dX5_isSweep_23 (by decide) ?_
      exact J27 _ _ _ _ hf hP hD hS (lv_sub hl [] rfl)

def mm_hasNext_14   (σ : MS) (l1 : Int32) (t1 : Int32) : Option (Int32 × MS) :=
  bd2 (mm_isFine σ t1) fun v3 s4 =>
  if v3 = 0 then
    some (0, s4)
  else
    gd l1 4 <|
    bd (mm_behind s4 (m_last s4 l1.toNatClampNeg)) fun v7 =>
    if v7 = (-1) then
      some (0, s4)
    else
      some (1, s4)
def mm_hasNext  (σ : MS) (a0 : Int32) : Option (Int32 × MS) :=
  bd (mm_isSweep σ a0) fun v1 =>
  if v1 = 0 then
    mm_hasNext_14 σ a0 1
  else
    mm_hasNext_14 σ a0 0
set_option maxHeartbeats 4000000 in
set_option maxRecDepth 100000 in
theorem tX5_hasNext (l : Launch) (D : va_G) (ca : Nat → ClassId) (Ad : Nat → Nat) (sz : Nat)  (σ : MS) (a0 : Int32) (r : Int32) (σ9 : MS) (hf : mm_hasNext σ a0 = some (r, σ9)) : Ci l D ca yX5_hasNext wsX5_hasNext { frames := 3, cells := 0, slots := 0, locals := 71 } [.ref (Ad 0), .int a0] (wM ca Ad σ) sz r (wM ca Ad σ9) := by
  refine body_of (cc := cX5_hasNext) (maxL := 2) (ret := (some .boolean)) (fun A => Qi D ca r (wM ca Ad σ9) A) (by decide) rfl (Nat.le_of_ble_eq_true rfl) ?_
  intro p e s m below meth c A ls hx hb hr hml hts hown hlocks hA hK hP hD hS hl hN
  have hl : lv_has ls 2 [(0, .ref (Ad 0)), (1, .int a0)] := hl
  have hret : ∀ (pc : Nat) (ls : Array Slot) (H : Heap) (locs : List Loc), decode cX5_hasNext pc = .ok (.ireturn, 1) → narrow .boolean (.int r) = .int r → va_P D vwCl (wM ca Ad σ9) H → va_D A (wM ca Ad σ9) → va_S A s.heap H locs → W p l e { frames := 3, cells := 0, slots := 0, locals := 71 } s m ([.ref (Ad 0), .int a0] : List Value).toArray below meth c H locs 0 0 (MQ below (Qi D ca r (wM ca Ad σ9) A) ([.ref (Ad 0), .int a0] : List Value).toArray s 0 0 A) (F0 m pc ls [.int r]) := fun pc ls H locs hd hn hP hD hS => ret_z hx hb hr hn hlocks hK hP hD hS hd
  generalize MQ below (Qi D ca r (wM ca Ad σ9) A) ([.ref (Ad 0), .int a0] : List Value).toArray s 0 0 A = Q at hret ⊢
  generalize ([.ref (Ad 0), .int a0] : List Value).toArray = args at hts hret ⊢
  have f33 := hts (.fieldLink RX5 33 "RobinRowModel" "last" "[J") (by decide +kernel)
  have in5 : ∀ w ∈ u_ws RX5 TX5 17, w ∈ wsX5_hasNext := by decide +kernel
  have J14 : ∀ (H : Heap) (locs : List Loc) (ls : Array Slot) (σ : MS) (l1 : Int32) (t1 : Int32), mm_hasNext_14  σ l1 t1 = some (r, σ9) → va_P D vwCl (wM ca Ad σ) H → va_D A (wM ca Ad σ) → va_S A s.heap H locs → lv_has ls 2 [(0, .ref (Ad 0)), (1, .int l1)] → W p l e { frames := 3, cells := 0, slots := 0, locals := 71 } s m args below meth c H locs 0 0 Q (F0 m 14 ls [.int t1, .ref (Ad 0)]) := by
    intro H locs ls σ l1 t1 hf hP hD hS hl
    unfold mm_hasNext_14 at hf
    obtain ⟨v3, s4, ev3, hf⟩ := bd2_ob hf
    refine call_i (As := [.int t1]) (rest := []) ⟨hx, hb, hml, hown, hts⟩ (tX5_isFine l D ca Ad _ σ t1 v3 s4 ev3) (cwV 1 hts gX5_hasNext_X5_isFine rfl rfl rfl (by decide +kernel) ⟨Nat.le_of_ble_eq_true rfl, Nat.le_of_ble_eq_true rfl⟩) hN hK hP hD hA hS (fr_id _ _) rfl rfl rfl hl.1 rfl (lv_room (Nat.le_of_ble_eq_true rfl)) dX5_hasNext_14 ⟨Nat.le_refl _, Nat.le_refl _⟩ (fun H locs hP hD hS => ?_)
    refine lv_if_eq (tgt := 38) hx hb dX5_hasNext_17 (by decide) (fun c5 => ?_) (fun c5 => ?_)
    · replace hf := it_p c5 hf
      refine lv_iconst (v := 0) hx hb dX5_hasNext_38 (by decide) ?_
      obtain ⟨rfl, rfl⟩ := so2 hf
      exact hret _ _ _ _ dX5_hasNext_39 rfl hP hD hS
    · replace hf := it_n c5 hf
      refine lv_aload_n hx hb dX5_hasNext_20 rfl (lv_at hl 0 rfl) ?_
      refine lv_aload_n hx hb dX5_hasNext_21 rfl (lv_at hl 0 rfl) ?_
      refine va_get (D := D) (ci := 5) (v := .ref (Ad 7)) (C := RX5) (T := TX5) (N := 17) hx hb hts in5 hown hK hP 0 rfl rfl 9 (by decide) f33 (fun _ h9 => h9) rfl dX5_hasNext_22 ?_
      refine lv_iload_n hx hb dX5_hasNext_25 rfl (lv_at hl 1 rfl) ?_
      obtain ⟨g6, hf⟩ := gd_ob hf
      refine va_lald hx hb hK hP 7 3 rfl rfl g6 dX5_hasNext_26 ?_
      obtain ⟨v7, ev7, hf⟩ := bd_ob hf
      refine call_i (As := [.long (m_last s4 l1.toNatClampNeg)]) (rest := []) ⟨hx, hb, hml, hown, hts⟩ (tX5_behind l D ca Ad _ s4 (m_last s4 l1.toNatClampNeg) v7 ev7) (cwV 1 hts gX5_hasNext_X5_behind rfl rfl rfl (by decide +kernel) ⟨Nat.le_of_ble_eq_true rfl, Nat.le_of_ble_eq_true rfl⟩) hN hK hP hD hA hS (fr_id _ _) rfl rfl rfl hl.1 rfl (lv_room (Nat.le_of_ble_eq_true rfl)) dX5_hasNext_27 ⟨Nat.le_refl _, Nat.le_refl _⟩ (fun H locs hP hD hS => ?_)
      refine lv_iconst (v := (-1)) hx hb dX5_hasNext_30 (by decide) ?_
      refine lv_icmp_eq (tgt := 38) hx hb dX5_hasNext_31 (by decide) (fun c8 => ?_) (fun c8 => ?_)
      · replace hf := it_p c8 hf
        refine lv_iconst (v := 0) hx hb dX5_hasNext_38 (by decide) ?_
        obtain ⟨rfl, rfl⟩ := so2 hf
        exact hret _ _ _ _ dX5_hasNext_39 rfl hP hD hS
      · replace hf := it_n c8 hf
        refine lv_iconst (v := 1) hx hb dX5_hasNext_34 (by decide) ?_
        refine lv_goto (tgt := 39) hx hb dX5_hasNext_35 (by decide) ?_
        obtain ⟨rfl, rfl⟩ := so2 hf
        exact hret _ _ _ _ dX5_hasNext_39 rfl hP hD hS
  unfold mm_hasNext at hf
  refine lv_aload_n hx hb dX5_hasNext_0 rfl (lv_at hl 0 rfl) ?_
  refine lv_aload_n hx hb dX5_hasNext_1 rfl (lv_at hl 0 rfl) ?_
  refine lv_iload_n hx hb dX5_hasNext_2 rfl (lv_at hl 1 rfl) ?_
  obtain ⟨v1, ev1, hf⟩ := bd_ob hf
  refine call_i (As := [.int a0]) (rest := [.ref (Ad 0)]) ⟨hx, hb, hml, hown, hts⟩ (tX5_isSweep l D ca Ad _ σ a0 v1 ev1) (cwV 1 hts gX5_hasNext_X5_isSweep rfl rfl rfl (by decide +kernel) ⟨Nat.le_of_ble_eq_true rfl, Nat.le_of_ble_eq_true rfl⟩) hN hK hP hD hA hS (fr_id _ _) rfl rfl rfl hl.1 rfl (lv_room (Nat.le_of_ble_eq_true rfl)) dX5_hasNext_3 ⟨Nat.le_refl _, Nat.le_refl _⟩ (fun H locs hP hD hS => ?_)
  refine lv_if_eq (tgt := 13) hx hb dX5_hasNext_6 (by decide) (fun c2 => ?_) (fun c2 => ?_)
  · replace hf := it_p c2 hf
    refine lv_iconst (v := 1) hx hb dX5_hasNext_13 (by decide) ?_
    exact J14 _ _ _ _ _ _ hf hP hD hS (lv_sub hl [0, 1] rfl)
  · replace hf := it_n c2 hf
    refine lv_iconst (v := 0) hx hb dX5_hasNext_9 (by decide) ?_
    refine lv_goto (tgt := 14) hx hb dX5_hasNext_10 (by decide) ?_
    exact J14 _ _ _ _ _ _ hf hP hD hS (lv_sub hl [0, 1] rfl)

def mm_next_32   (σ : MS) (l1 : Int32) (t1 : Int32) : Option (Int32 × MS) :=
  bd2 (mm_isFine σ t1) fun v6 s7 =>
  if v6 = 0 then
    some (0, s7)
  else
    gd l1 4 <|
    bd (mm_behind s7 (m_last s7 l1.toNatClampNeg)) fun v10 =>
    gd v10 512 <|
    nm (m_keys s7 v10.toNatClampNeg) fun v12 =>
    bd (mm_orderOf s7 v12) fun v13 =>
    gd l1 4 <|
    nm (m_last' s7 (vp_updL (m_last s7) l1.toNatClampNeg v13)) fun s15 =>
    gd l1 4 <|
    nm (m_lastKey' s15 (upd (m_lastKey s15) l1.toNatClampNeg v12)) fun s17 =>
    gd l1 4 <|
    nm (m_taken' s17 (upd (m_taken s17) l1.toNatClampNeg 0)) fun s19 =>
    gd l1 4 <|
    gd l1 4 <|
    nm (m_met' s19 (upd (m_met s19) l1.toNatClampNeg ((m_met s19 l1.toNatClampNeg) + 1))) fun s22 =>
    some (v12, s22)
def mm_next  (σ : MS) (a0 : Int32) : Option (Int32 × MS) :=
  bd (mm_isSweep σ a0) fun v1 =>
  if v1 = 0 then
    mm_next_32 σ a0 1
  else
    gd a0 4 <|
    bd (mm_behind σ (m_last σ a0.toNatClampNeg)) fun v4 =>
    if v4 = (-1) then
      mm_next_32 σ a0 2
    else
      mm_next_32 σ a0 0
set_option maxHeartbeats 4000000 in
set_option maxRecDepth 100000 in
theorem tX5_next (l : Launch) (D : va_G) (ca : Nat → ClassId) (Ad : Nat → Nat) (sz : Nat)  (σ : MS) (a0 : Int32) (r : Int32) (σ9 : MS) (hf : mm_next σ a0 = some (r, σ9)) : Ci l D ca yX5_next wsX5_next { frames := 3, cells := 0, slots := 0, locals := 71 } [.ref (Ad 0), .int a0] (wM ca Ad σ) sz r (wM ca Ad σ9) := by
  refine body_of (cc := cX5_next) (maxL := 3) (ret := (some .int)) (fun A => Qi D ca r (wM ca Ad σ9) A) (by decide) rfl (Nat.le_of_ble_eq_true rfl) ?_
  intro p e s m below meth c A ls hx hb hr hml hts hown hlocks hA hK hP hD hS hl hN
  have hl : lv_has ls 3 [(0, .ref (Ad 0)), (1, .int a0)] := hl
  have hret : ∀ (pc : Nat) (ls : Array Slot) (H : Heap) (locs : List Loc), decode cX5_next pc = .ok (.ireturn, 1) → va_P D vwCl (wM ca Ad σ9) H → va_D A (wM ca Ad σ9) → va_S A s.heap H locs → W p l e { frames := 3, cells := 0, slots := 0, locals := 71 } s m ([.ref (Ad 0), .int a0] : List Value).toArray below meth c H locs 0 0 (MQ below (Qi D ca r (wM ca Ad σ9) A) ([.ref (Ad 0), .int a0] : List Value).toArray s 0 0 A) (F0 m pc ls [.int r]) := fun pc ls H locs hd hP hD hS => ret_i hx hb hr hlocks hK hP hD hS hd
  generalize MQ below (Qi D ca r (wM ca Ad σ9) A) ([.ref (Ad 0), .int a0] : List Value).toArray s 0 0 A = Q at hret ⊢
  generalize ([.ref (Ad 0), .int a0] : List Value).toArray = args at hts hret ⊢
  have f33 := hts (.fieldLink RX5 33 "RobinRowModel" "last" "[J") (by decide +kernel)
  have f37 := hts (.fieldLink RX5 37 "RobinRowModel" "lastKey" "[I") (by decide +kernel)
  have f40 := hts (.fieldLink RX5 40 "RobinRowModel" "isTaken" "[Z") (by decide +kernel)
  have f43 := hts (.fieldLink RX5 43 "RobinRowModel" "met" "[I") (by decide +kernel)
  have f7 := hts (.fieldLink RX5 7 "RobinRowModel" "keys" "[I") (by decide +kernel)
  have in5 : ∀ w ∈ u_ws RX5 TX5 17, w ∈ wsX5_next := by decide +kernel
  have J32 : ∀ (H : Heap) (locs : List Loc) (ls : Array Slot) (σ : MS) (l1 : Int32) (t1 : Int32), mm_next_32  σ l1 t1 = some (r, σ9) → va_P D vwCl (wM ca Ad σ) H → va_D A (wM ca Ad σ) → va_S A s.heap H locs → lv_has ls 3 [(0, .ref (Ad 0)), (1, .int l1)] → W p l e { frames := 3, cells := 0, slots := 0, locals := 71 } s m args below meth c H locs 0 0 Q (F0 m 32 ls [.int t1, .ref (Ad 0)]) := by
    intro H locs ls σ l1 t1 hf hP hD hS hl
    unfold mm_next_32 at hf
    obtain ⟨v6, s7, ev6, hf⟩ := bd2_ob hf
    refine call_i (As := [.int t1]) (rest := []) ⟨hx, hb, hml, hown, hts⟩ (tX5_isFine l D ca Ad _ σ t1 v6 s7 ev6) (cwV 1 hts gX5_next_X5_isFine rfl rfl rfl (by decide +kernel) ⟨Nat.le_of_ble_eq_true rfl, Nat.le_of_ble_eq_true rfl⟩) hN hK hP hD hA hS (fr_id _ _) rfl rfl rfl hl.1 rfl (lv_room (Nat.le_of_ble_eq_true rfl)) dX5_next_32 ⟨Nat.le_refl _, Nat.le_refl _⟩ (fun H locs hP hD hS => ?_)
    refine lv_if_ne (tgt := 40) hx hb dX5_next_35 (by decide) (fun c8 => ?_) (fun c8 => ?_)
    · replace hf := it_n c8 hf
      refine lv_aload_n hx hb dX5_next_40 rfl (lv_at hl 0 rfl) ?_
      refine va_get (D := D) (ci := 5) (v := .ref (Ad 1)) (C := RX5) (T := TX5) (N := 17) hx hb hts in5 hown hK hP 0 rfl rfl 0 (by decide) f7 (fun _ h9 => h9) rfl dX5_next_41 ?_
      refine lv_aload_n hx hb dX5_next_44 rfl (lv_at hl 0 rfl) ?_
      refine lv_aload_n hx hb dX5_next_45 rfl (lv_at hl 0 rfl) ?_
      refine va_get (D := D) (ci := 5) (v := .ref (Ad 7)) (C := RX5) (T := TX5) (N := 17) hx hb hts in5 hown hK hP 0 rfl rfl 9 (by decide) f33 (fun _ h9 => h9) rfl dX5_next_46 ?_
      refine lv_iload_n hx hb dX5_next_49 rfl (lv_at hl 1 rfl) ?_
      obtain ⟨g9, hf⟩ := gd_ob hf
      refine va_lald hx hb hK hP 7 3 rfl rfl g9 dX5_next_50 ?_
      obtain ⟨v10, ev10, hf⟩ := bd_ob hf
      refine call_i (As := [.long (m_last s7 l1.toNatClampNeg)]) (rest := [.ref (Ad 1)]) ⟨hx, hb, hml, hown, hts⟩ (tX5_behind l D ca Ad _ s7 (m_last s7 l1.toNatClampNeg) v10 ev10) (cwV 1 hts gX5_next_X5_behind rfl rfl rfl (by decide +kernel) ⟨Nat.le_of_ble_eq_true rfl, Nat.le_of_ble_eq_true rfl⟩) hN hK hP hD hA hS (fr_id _ _) rfl rfl rfl hl.1 rfl (lv_room (Nat.le_of_ble_eq_true rfl)) dX5_next_51 ⟨Nat.le_refl _, Nat.le_refl _⟩ (fun H locs hP hD hS => ?_)
      obtain ⟨g11, hf⟩ := gd_ob hf
      refine va_iald hx hb hK hP 1 0 rfl rfl g11 dX5_next_54 ?_
      obtain ⟨v12, ev12, hf⟩ := nm_ob hf
      refine tp_i ev12 ?_
      refine lv_istore_n (lv' := [(2, .int v12), (0, .ref (Ad 0)), (1, .int l1)]) hx hb dX5_next_55 rfl hl (by decide) rfl (fun ls hl => ?_)
      refine lv_aload_n hx hb dX5_next_56 rfl (lv_at hl 1 rfl) ?_
      refine va_get (D := D) (ci := 5) (v := .ref (Ad 7)) (C := RX5) (T := TX5) (N := 17) hx hb hts in5 hown hK hP 0 rfl rfl 9 (by decide) f33 (fun _ h9 => h9) rfl dX5_next_57 ?_
      refine lv_iload_n hx hb dX5_next_60 rfl (lv_at hl 2 rfl) ?_
      refine lv_aload_n hx hb dX5_next_61 rfl (lv_at hl 1 rfl) ?_
      refine lv_iload_n hx hb dX5_next_62 rfl (lv_at hl 0 rfl) ?_
      obtain ⟨v13, ev13, hf⟩ := bd_ob hf
      refine call_l (As := [.int v12]) (rest := [.int l1, .ref (Ad 7)]) ⟨hx, hb, hml, hown, hts⟩ (tX5_orderOf l D ca Ad _ s7 v12 v13 ev13) (cwV 1 hts gX5_next_X5_orderOf rfl rfl rfl (by decide +kernel) ⟨Nat.le_of_ble_eq_true rfl, Nat.le_of_ble_eq_true rfl⟩) hN hK hP hD hA hS (fr_id _ _) rfl rfl rfl hl.1 rfl (lv_room (Nat.le_of_ble_eq_true rfl)) dX5_next_63 ⟨Nat.le_refl _, Nat.le_refl _⟩ (fun H locs hP hD hS => ?_)
      obtain ⟨g14, hf⟩ := gd_ob hf
      obtain ⟨s15, es15, hf⟩ := nm_ob hf
      refine va_last hx hb hK hP hD hS 7 3 rfl rfl g14 dX5_next_66 (fun H locs hP hD hS => ?_)
      have hP : va_P D vwCl (wM ca Ad s15) H := by rw [← es15]; exact hP
      have hD : va_D A (wM ca Ad s15) := by rw [← es15]; exact hD
      refine lv_aload_n hx hb dX5_next_67 rfl (lv_at hl 1 rfl) ?_
      refine va_get (D := D) (ci := 5) (v := .ref (Ad 8)) (C := RX5) (T := TX5) (N := 17) hx hb hts in5 hown hK hP 0 rfl rfl 10 (by decide) f37 (fun _ h9 => h9) rfl dX5_next_68 ?_
      refine lv_iload_n hx hb dX5_next_71 rfl (lv_at hl 2 rfl) ?_
      refine lv_iload_n hx hb dX5_next_72 rfl (lv_at hl 0 rfl) ?_
      obtain ⟨g16, hf⟩ := gd_ob hf
      obtain ⟨s17, es17, hf⟩ := nm_ob hf
      refine va_iast hx hb hK hP hD hS 8 0 rfl rfl g16 dX5_next_73 (fun H locs hP hD hS => ?_)
      have hP : va_P D vwCl (wM ca Ad s17) H := by rw [← es17]; exact hP
      have hD : va_D A (wM ca Ad s17) := by rw [← es17]; exact hD
      refine lv_aload_n hx hb dX5_next_74 rfl (lv_at hl 1 rfl) ?_
      refine va_get (D := D) (ci := 5) (v := .ref (Ad 9)) (C := RX5) (T := TX5) (N := 17) hx hb hts in5 hown hK hP 0 rfl rfl 11 (by decide) f40 (fun _ h9 => h9) rfl dX5_next_75 ?_
      refine lv_iload_n hx hb dX5_next_78 rfl (lv_at hl 2 rfl) ?_
      refine lv_iconst (v := 0) hx hb dX5_next_79 (by decide) ?_
      obtain ⟨g18, hf⟩ := gd_ob hf
      obtain ⟨s19, es19, hf⟩ := nm_ob hf
      refine va_zast hx hb hK hP hD hS 9 2 rfl rfl g18 dX5_next_80 (fun H locs hP hD hS => ?_)
      have hP : va_P D vwCl (wM ca Ad s19) H := by rw [← es19]; exact hP
      have hD : va_D A (wM ca Ad s19) := by rw [← es19]; exact hD
      refine lv_aload_n hx hb dX5_next_81 rfl (lv_at hl 1 rfl) ?_
      refine va_get (D := D) (ci := 5) (v := .ref (Ad 10)) (C := RX5) (T := TX5) (N := 17) hx hb hts in5 hown hK hP 0 rfl rfl 12 (by decide) f43 (fun _ h9 => h9) rfl dX5_next_82 ?_
      refine lv_iload_n hx hb dX5_next_85 rfl (lv_at hl 2 rfl) ?_
      refine lv_dup2_11 hx hb dX5_next_86 rfl rfl ?_
      obtain ⟨g20, hf⟩ := gd_ob hf
      refine va_iald hx hb hK hP 10 0 rfl rfl g20 dX5_next_87 ?_
      refine lv_iconst (v := 1) hx hb dX5_next_88 (by decide) ?_
      refine lv_iadd hx hb dX5_next_89 ?_
      obtain ⟨g21, hf⟩ := gd_ob hf
      obtain ⟨s22, es22, hf⟩ := nm_ob hf
      refine va_iast hx hb hK hP hD hS 10 0 rfl rfl g21 dX5_next_90 (fun H locs hP hD hS => ?_)
      have hP : va_P D vwCl (wM ca Ad s22) H := by rw [← es22]; exact hP
      have hD : va_D A (wM ca Ad s22) := by rw [← es22]; exact hD
      refine lv_iload_n hx hb dX5_next_91 rfl (lv_at hl 0 rfl) ?_
      obtain ⟨rfl, rfl⟩ := so2 hf
      exact hret _ _ _ _ dX5_next_92 hP hD hS
    · replace hf := it_p c8 hf
      refine lv_iconst (v := 0) hx hb dX5_next_38 (by decide) ?_
      obtain ⟨rfl, rfl⟩ := so2 hf
      exact hret _ _ _ _ dX5_next_39 hP hD hS
  unfold mm_next at hf
  refine lv_aload_n hx hb dX5_next_0 rfl (lv_at hl 0 rfl) ?_
  refine lv_aload_n hx hb dX5_next_1 rfl (lv_at hl 0 rfl) ?_
  refine lv_iload_n hx hb dX5_next_2 rfl (lv_at hl 1 rfl) ?_
  obtain ⟨v1, ev1, hf⟩ := bd_ob hf
  refine call_i (As := [.int a0]) (rest := [.ref (Ad 0)]) ⟨hx, hb, hml, hown, hts⟩ (tX5_isSweep l D ca Ad _ σ a0 v1 ev1) (cwV 1 hts gX5_next_X5_isSweep rfl rfl rfl (by decide +kernel) ⟨Nat.le_of_ble_eq_true rfl, Nat.le_of_ble_eq_true rfl⟩) hN hK hP hD hA hS (fr_id _ _) rfl rfl rfl hl.1 rfl (lv_room (Nat.le_of_ble_eq_true rfl)) dX5_next_3 ⟨Nat.le_refl _, Nat.le_refl _⟩ (fun H locs hP hD hS => ?_)
  refine lv_if_ne (tgt := 13) hx hb dX5_next_6 (by decide) (fun c2 => ?_) (fun c2 => ?_)
  · replace hf := it_n c2 hf
    refine lv_aload_n hx hb dX5_next_13 rfl (lv_at hl 0 rfl) ?_
    refine lv_aload_n hx hb dX5_next_14 rfl (lv_at hl 0 rfl) ?_
    refine va_get (D := D) (ci := 5) (v := .ref (Ad 7)) (C := RX5) (T := TX5) (N := 17) hx hb hts in5 hown hK hP 0 rfl rfl 9 (by decide) f33 (fun _ h9 => h9) rfl dX5_next_15 ?_
    refine lv_iload_n hx hb dX5_next_18 rfl (lv_at hl 1 rfl) ?_
    obtain ⟨g3, hf⟩ := gd_ob hf
    refine va_lald hx hb hK hP 7 3 rfl rfl g3 dX5_next_19 ?_
    obtain ⟨v4, ev4, hf⟩ := bd_ob hf
    refine call_i (As := [.long (m_last σ a0.toNatClampNeg)]) (rest := [.ref (Ad 0)]) ⟨hx, hb, hml, hown, hts⟩ (tX5_behind l D ca Ad _ σ (m_last σ a0.toNatClampNeg) v4 ev4) (cwV 1 hts gX5_next_X5_behind rfl rfl rfl (by decide +kernel) ⟨Nat.le_of_ble_eq_true rfl, Nat.le_of_ble_eq_true rfl⟩) hN hK hP hD hA hS (fr_id _ _) rfl rfl rfl hl.1 rfl (lv_room (Nat.le_of_ble_eq_true rfl)) dX5_next_20 ⟨Nat.le_refl _, Nat.le_refl _⟩ (fun H locs hP hD hS => ?_)
    refine lv_iconst (v := (-1)) hx hb dX5_next_23 (by decide) ?_
    refine lv_icmp_ne (tgt := 31) hx hb dX5_next_24 (by decide) (fun c5 => ?_) (fun c5 => ?_)
    · replace hf := it_n c5 hf
      refine lv_iconst (v := 0) hx hb dX5_next_31 (by decide) ?_
      exact J32 _ _ _ _ _ _ hf hP hD hS (lv_sub hl [0, 1] rfl)
    · replace hf := it_p c5 hf
      refine lv_iconst (v := 2) hx hb dX5_next_27 (by decide) ?_
      refine lv_goto (tgt := 32) hx hb dX5_next_28 (by decide) ?_
      exact J32 _ _ _ _ _ _ hf hP hD hS (lv_sub hl [0, 1] rfl)
  · replace hf := it_p c2 hf
    refine lv_iconst (v := 1) hx hb dX5_next_9 (by decide) ?_
    refine lv_goto (tgt := 32) hx hb dX5_next_10 (by decide) ?_
    exact J32 _ _ _ _ _ _ hf hP hD hS (lv_sub hl [0, 1] rfl)

def mm_removeMet_49   (σ : MS) (l1 : Int32) (t1 : Int32) : Option (Int32 × MS) :=
  bd2 (mm_isFine σ t1) fun v10 s11 =>
  if v10 = 0 then
    some (0, s11)
  else
    gd l1 4 <|
    nm (m_taken' s11 (upd (m_taken s11) l1.toNatClampNeg 1)) fun s14 =>
    gd l1 4 <|
    bd2 (mm_removes s14 (m_lastKey s14 l1.toNatClampNeg)) fun v16 s17 =>
    some (v16, s17)
def mm_removeMet  (σ : MS) (a0 : Int32) : Option (Int32 × MS) :=
  bd (mm_isSweep σ a0) fun v1 =>
  if v1 = 0 then
    mm_removeMet_49 σ a0 1
  else
    gd a0 4 <|
    if (m_met σ a0.toNatClampNeg) = 0 then
      mm_removeMet_49 σ a0 2
    else
      gd a0 4 <|
      if (m_taken σ a0.toNatClampNeg) = 0 then
        gd a0 4 <|
        bd (mm_isThere σ (m_lastKey σ a0.toNatClampNeg)) fun v8 =>
        if v8 = 0 then
          mm_removeMet_49 σ a0 2
        else
          mm_removeMet_49 σ a0 0
      else
        mm_removeMet_49 σ a0 2
set_option maxHeartbeats 4000000 in
set_option maxRecDepth 100000 in
theorem tX5_removeMet (l : Launch) (D : va_G) (ca : Nat → ClassId) (Ad : Nat → Nat) (sz : Nat)  (σ : MS) (a0 : Int32) (r : Int32) (σ9 : MS) (hf : mm_removeMet σ a0 = some (r, σ9)) : Ci l D ca yX5_removeMet wsX5_removeMet { frames := 6, cells := 0, slots := 0, locals := 146 } [.ref (Ad 0), .int a0] (wM ca Ad σ) sz r (wM ca Ad σ9) := by
  refine body_of (cc := cX5_removeMet) (maxL := 2) (ret := (some .int)) (fun A => Qi D ca r (wM ca Ad σ9) A) (by decide) rfl (Nat.le_of_ble_eq_true rfl) ?_
  intro p e s m below meth c A ls hx hb hr hml hts hown hlocks hA hK hP hD hS hl hN
  have hl : lv_has ls 2 [(0, .ref (Ad 0)), (1, .int a0)] := hl
  have hret : ∀ (pc : Nat) (ls : Array Slot) (H : Heap) (locs : List Loc), decode cX5_removeMet pc = .ok (.ireturn, 1) → va_P D vwCl (wM ca Ad σ9) H → va_D A (wM ca Ad σ9) → va_S A s.heap H locs → W p l e { frames := 6, cells := 0, slots := 0, locals := 146 } s m ([.ref (Ad 0), .int a0] : List Value).toArray below meth c H locs 0 0 (MQ below (Qi D ca r (wM ca Ad σ9) A) ([.ref (Ad 0), .int a0] : List Value).toArray s 0 0 A) (F0 m pc ls [.int r]) := fun pc ls H locs hd hP hD hS => ret_i hx hb hr hlocks hK hP hD hS hd
  generalize MQ below (Qi D ca r (wM ca Ad σ9) A) ([.ref (Ad 0), .int a0] : List Value).toArray s 0 0 A = Q at hret ⊢
  generalize ([.ref (Ad 0), .int a0] : List Value).toArray = args at hts hret ⊢
  have f37 := hts (.fieldLink RX5 37 "RobinRowModel" "lastKey" "[I") (by decide +kernel)
  have f40 := hts (.fieldLink RX5 40 "RobinRowModel" "isTaken" "[Z") (by decide +kernel)
  have f43 := hts (.fieldLink RX5 43 "RobinRowModel" "met" "[I") (by decide +kernel)
  have in5 : ∀ w ∈ u_ws RX5 TX5 17, w ∈ wsX5_removeMet := by decide +kernel
  have J49 : ∀ (H : Heap) (locs : List Loc) (ls : Array Slot) (σ : MS) (l1 : Int32) (t1 : Int32), mm_removeMet_49  σ l1 t1 = some (r, σ9) → va_P D vwCl (wM ca Ad σ) H → va_D A (wM ca Ad σ) → va_S A s.heap H locs → lv_has ls 2 [(0, .ref (Ad 0)), (1, .int l1)] → W p l e { frames := 6, cells := 0, slots := 0, locals := 146 } s m args below meth c H locs 0 0 Q (F0 m 49 ls [.int t1, .ref (Ad 0)]) := by
    intro H locs ls σ l1 t1 hf hP hD hS hl
    unfold mm_removeMet_49 at hf
    obtain ⟨v10, s11, ev10, hf⟩ := bd2_ob hf
    refine call_i (As := [.int t1]) (rest := []) ⟨hx, hb, hml, hown, hts⟩ (tX5_isFine l D ca Ad _ σ t1 v10 s11 ev10) (cwV 1 hts gX5_removeMet_X5_isFine rfl rfl rfl (by decide +kernel) ⟨Nat.le_of_ble_eq_true rfl, Nat.le_of_ble_eq_true rfl⟩) hN hK hP hD hA hS (fr_id _ _) rfl rfl rfl hl.1 rfl (lv_room (Nat.le_of_ble_eq_true rfl)) dX5_removeMet_49 ⟨Nat.le_refl _, Nat.le_refl _⟩ (fun H locs hP hD hS => ?_)
    refine lv_if_ne (tgt := 57) hx hb dX5_removeMet_52 (by decide) (fun c12 => ?_) (fun c12 => ?_)
    · replace hf := it_n c12 hf
      refine lv_aload_n hx hb dX5_removeMet_57 rfl (lv_at hl 0 rfl) ?_
      refine va_get (D := D) (ci := 5) (v := .ref (Ad 9)) (C := RX5) (T := TX5) (N := 17) hx hb hts in5 hown hK hP 0 rfl rfl 11 (by decide) f40 (fun _ h9 => h9) rfl dX5_removeMet_58 ?_
      refine lv_iload_n hx hb dX5_removeMet_61 rfl (lv_at hl 1 rfl) ?_
      refine lv_iconst (v := 1) hx hb dX5_removeMet_62 (by decide) ?_
      obtain ⟨g13, hf⟩ := gd_ob hf
      obtain ⟨s14, es14, hf⟩ := nm_ob hf
      refine va_zast hx hb hK hP hD hS 9 2 rfl rfl g13 dX5_removeMet_63 (fun H locs hP hD hS => ?_)
      have hP : va_P D vwCl (wM ca Ad s14) H := by rw [← es14]; exact hP
      have hD : va_D A (wM ca Ad s14) := by rw [← es14]; exact hD
      refine lv_aload_n hx hb dX5_removeMet_64 rfl (lv_at hl 0 rfl) ?_
      refine lv_aload_n hx hb dX5_removeMet_65 rfl (lv_at hl 0 rfl) ?_
      refine va_get (D := D) (ci := 5) (v := .ref (Ad 8)) (C := RX5) (T := TX5) (N := 17) hx hb hts in5 hown hK hP 0 rfl rfl 10 (by decide) f37 (fun _ h9 => h9) rfl dX5_removeMet_66 ?_
      refine lv_iload_n hx hb dX5_removeMet_69 rfl (lv_at hl 1 rfl) ?_
      obtain ⟨g15, hf⟩ := gd_ob hf
      refine va_iald hx hb hK hP 8 0 rfl rfl g15 dX5_removeMet_70 ?_
      obtain ⟨v16, s17, ev16, hf⟩ := bd2_ob hf
      refine call_i (As := [.int (m_lastKey s14 l1.toNatClampNeg)]) (rest := []) ⟨hx, hb, hml, hown, hts⟩ (tX5_removes l D ca Ad _ s14 (m_lastKey s14 l1.toNatClampNeg) v16 s17 ev16) (cwV 1 hts gX5_removeMet_X5_removes rfl rfl rfl (by decide +kernel) ⟨Nat.le_of_ble_eq_true rfl, Nat.le_of_ble_eq_true rfl⟩) hN hK hP hD hA hS (fr_id _ _) rfl rfl rfl hl.1 rfl (lv_room (Nat.le_of_ble_eq_true rfl)) dX5_removeMet_71 ⟨Nat.le_refl _, Nat.le_refl _⟩ (fun H locs hP hD hS => ?_)
      obtain ⟨rfl, rfl⟩ := so2 hf
      exact hret _ _ _ _ dX5_removeMet_74 hP hD hS
    · replace hf := it_p c12 hf
      refine lv_iconst (v := 0) hx hb dX5_removeMet_55 (by decide) ?_
      obtain ⟨rfl, rfl⟩ := so2 hf
      exact hret _ _ _ _ dX5_removeMet_56 hP hD hS
  unfold mm_removeMet at hf
  refine lv_aload_n hx hb dX5_removeMet_0 rfl (lv_at hl 0 rfl) ?_
  refine lv_aload_n hx hb dX5_removeMet_1 rfl (lv_at hl 0 rfl) ?_
  refine lv_iload_n hx hb dX5_removeMet_2 rfl (lv_at hl 1 rfl) ?_
  obtain ⟨v1, ev1, hf⟩ := bd_ob hf
  refine call_i (As := [.int a0]) (rest := [.ref (Ad 0)]) ⟨hx, hb, hml, hown, hts⟩ (tX5_isSweep l D ca Ad _ σ a0 v1 ev1) (cwV 1 hts gX5_removeMet_X5_isSweep rfl rfl rfl (by decide +kernel) ⟨Nat.le_of_ble_eq_true rfl, Nat.le_of_ble_eq_true rfl⟩) hN hK hP hD hA hS (fr_id _ _) rfl rfl rfl hl.1 rfl (lv_room (Nat.le_of_ble_eq_true rfl)) dX5_removeMet_3 ⟨Nat.le_refl _, Nat.le_refl _⟩ (fun H locs hP hD hS => ?_)
  refine lv_if_ne (tgt := 13) hx hb dX5_removeMet_6 (by decide) (fun c2 => ?_) (fun c2 => ?_)
  · replace hf := it_n c2 hf
    refine lv_aload_n hx hb dX5_removeMet_13 rfl (lv_at hl 0 rfl) ?_
    refine va_get (D := D) (ci := 5) (v := .ref (Ad 10)) (C := RX5) (T := TX5) (N := 17) hx hb hts in5 hown hK hP 0 rfl rfl 12 (by decide) f43 (fun _ h9 => h9) rfl dX5_removeMet_14 ?_
    refine lv_iload_n hx hb dX5_removeMet_17 rfl (lv_at hl 1 rfl) ?_
    obtain ⟨g3, hf⟩ := gd_ob hf
    refine va_iald hx hb hK hP 10 0 rfl rfl g3 dX5_removeMet_18 ?_
    refine lv_if_eq (tgt := 44) hx hb dX5_removeMet_19 (by decide) (fun c4 => ?_) (fun c4 => ?_)
    · replace hf := it_p c4 hf
      refine lv_iconst (v := 2) hx hb dX5_removeMet_44 (by decide) ?_
      refine lv_goto (tgt := 49) hx hb dX5_removeMet_45 (by decide) ?_
      exact J49 _ _ _ _ _ _ hf hP hD hS (lv_sub hl [0, 1] rfl)
    · replace hf := it_n c4 hf
      refine lv_aload_n hx hb dX5_removeMet_22 rfl (lv_at hl 0 rfl) ?_
      refine va_get (D := D) (ci := 5) (v := .ref (Ad 9)) (C := RX5) (T := TX5) (N := 17) hx hb hts in5 hown hK hP 0 rfl rfl 11 (by decide) f40 (fun _ h9 => h9) rfl dX5_removeMet_23 ?_
      refine lv_iload_n hx hb dX5_removeMet_26 rfl (lv_at hl 1 rfl) ?_
      obtain ⟨g5, hf⟩ := gd_ob hf
      refine va_zald hx hb hK hP 9 2 rfl rfl g5 dX5_removeMet_27 ?_
      refine lv_if_ne (tgt := 44) hx hb dX5_removeMet_28 (by decide) (fun c6 => ?_) (fun c6 => ?_)
      · replace hf := it_n c6 hf
        refine lv_iconst (v := 2) hx hb dX5_removeMet_44 (by decide) ?_
        refine lv_goto (tgt := 49) hx hb dX5_removeMet_45 (by decide) ?_
        exact J49 _ _ _ _ _ _ hf hP hD hS (lv_sub hl [0, 1] rfl)
      · replace hf := it_p c6 hf
        refine lv_aload_n hx hb dX5_removeMet_31 rfl (lv_at hl 0 rfl) ?_
        refine lv_aload_n hx hb dX5_removeMet_32 rfl (lv_at hl 0 rfl) ?_
        refine va_get (D := D) (ci := 5) (v := .ref (Ad 8)) (C := RX5) (T := TX5) (N := 17) hx hb hts in5 hown hK hP 0 rfl rfl 10 (by decide) f37 (fun _ h9 => h9) rfl dX5_removeMet_33 ?_
        refine lv_iload_n hx hb dX5_removeMet_36 rfl (lv_at hl 1 rfl) ?_
        obtain ⟨g7, hf⟩ := gd_ob hf
        refine va_iald hx hb hK hP 8 0 rfl rfl g7 dX5_removeMet_37 ?_
        obtain ⟨v8, ev8, hf⟩ := bd_ob hf
        refine call_i (As := [.int (m_lastKey σ a0.toNatClampNeg)]) (rest := [.ref (Ad 0)]) ⟨hx, hb, hml, hown, hts⟩ (tX5_isThere l D ca Ad _ σ (m_lastKey σ a0.toNatClampNeg) v8 ev8) (cwV 1 hts gX5_removeMet_X5_isThere rfl rfl rfl (by decide +kernel) ⟨Nat.le_of_ble_eq_true rfl, Nat.le_of_ble_eq_true rfl⟩) hN hK hP hD hA hS (fr_id _ _) rfl rfl rfl hl.1 rfl (lv_room (Nat.le_of_ble_eq_true rfl)) dX5_removeMet_38 ⟨Nat.le_refl _, Nat.le_refl _⟩ (fun H locs hP hD hS => ?_)
        refine lv_if_ne (tgt := 48) hx hb dX5_removeMet_41 (by decide) (fun c9 => ?_) (fun c9 => ?_)
        · replace hf := it_n c9 hf
          refine lv_iconst (v := 0) hx hb dX5_removeMet_48 (by decide) ?_
          exact J49 _ _ _ _ _ _ hf hP hD hS (lv_sub hl [0, 1] rfl)
        · replace hf := it_p c9 hf
          refine lv_iconst (v := 2) hx hb dX5_removeMet_44 (by decide) ?_
          refine lv_goto (tgt := 49) hx hb dX5_removeMet_45 (by decide) ?_
          exact J49 _ _ _ _ _ _ hf hP hD hS (lv_sub hl [0, 1] rfl)
  · replace hf := it_p c2 hf
    refine lv_iconst (v := 1) hx hb dX5_removeMet_9 (by decide) ?_
    refine lv_goto (tgt := 49) hx hb dX5_removeMet_10 (by decide) ?_
    exact J49 _ _ _ _ _ _ hf hP hD hS (lv_sub hl [0, 1] rfl)

def mm_closeSweep_14   (σ : MS) (l1 : Int32) (t1 : Int32) : Option (Int32 × MS) :=
  bd2 (mm_isFine σ t1) fun v3 s4 =>
  if v3 = 0 then
    some (0, s4)
  else
    gd l1 4 <|
    nm (m_open' s4 (upd (m_open s4) l1.toNatClampNeg 0)) fun s7 =>
    gd l1 4 <|
    some ((m_met s7 l1.toNatClampNeg), s7)
def mm_closeSweep  (σ : MS) (a0 : Int32) : Option (Int32 × MS) :=
  bd (mm_isSweep σ a0) fun v1 =>
  if v1 = 0 then
    mm_closeSweep_14 σ a0 1
  else
    mm_closeSweep_14 σ a0 0
set_option maxHeartbeats 4000000 in
set_option maxRecDepth 100000 in
theorem tX5_closeSweep (l : Launch) (D : va_G) (ca : Nat → ClassId) (Ad : Nat → Nat) (sz : Nat)  (σ : MS) (a0 : Int32) (r : Int32) (σ9 : MS) (hf : mm_closeSweep σ a0 = some (r, σ9)) : Ci l D ca yX5_closeSweep wsX5_closeSweep { frames := 2, cells := 0, slots := 0, locals := 43 } [.ref (Ad 0), .int a0] (wM ca Ad σ) sz r (wM ca Ad σ9) := by
  refine body_of (cc := cX5_closeSweep) (maxL := 2) (ret := (some .int)) (fun A => Qi D ca r (wM ca Ad σ9) A) (by decide) rfl (Nat.le_of_ble_eq_true rfl) ?_
  intro p e s m below meth c A ls hx hb hr hml hts hown hlocks hA hK hP hD hS hl hN
  have hl : lv_has ls 2 [(0, .ref (Ad 0)), (1, .int a0)] := hl
  have hret : ∀ (pc : Nat) (ls : Array Slot) (H : Heap) (locs : List Loc), decode cX5_closeSweep pc = .ok (.ireturn, 1) → va_P D vwCl (wM ca Ad σ9) H → va_D A (wM ca Ad σ9) → va_S A s.heap H locs → W p l e { frames := 2, cells := 0, slots := 0, locals := 43 } s m ([.ref (Ad 0), .int a0] : List Value).toArray below meth c H locs 0 0 (MQ below (Qi D ca r (wM ca Ad σ9) A) ([.ref (Ad 0), .int a0] : List Value).toArray s 0 0 A) (F0 m pc ls [.int r]) := fun pc ls H locs hd hP hD hS => ret_i hx hb hr hlocks hK hP hD hS hd
  generalize MQ below (Qi D ca r (wM ca Ad σ9) A) ([.ref (Ad 0), .int a0] : List Value).toArray s 0 0 A = Q at hret ⊢
  generalize ([.ref (Ad 0), .int a0] : List Value).toArray = args at hts hret ⊢
  have f30 := hts (.fieldLink RX5 30 "RobinRowModel" "isOpen" "[Z") (by decide +kernel)
  have f43 := hts (.fieldLink RX5 43 "RobinRowModel" "met" "[I") (by decide +kernel)
  have in5 : ∀ w ∈ u_ws RX5 TX5 17, w ∈ wsX5_closeSweep := by decide +kernel
  have J14 : ∀ (H : Heap) (locs : List Loc) (ls : Array Slot) (σ : MS) (l1 : Int32) (t1 : Int32), mm_closeSweep_14  σ l1 t1 = some (r, σ9) → va_P D vwCl (wM ca Ad σ) H → va_D A (wM ca Ad σ) → va_S A s.heap H locs → lv_has ls 2 [(0, .ref (Ad 0)), (1, .int l1)] → W p l e { frames := 2, cells := 0, slots := 0, locals := 43 } s m args below meth c H locs 0 0 Q (F0 m 14 ls [.int t1, .ref (Ad 0)]) := by
    intro H locs ls σ l1 t1 hf hP hD hS hl
    unfold mm_closeSweep_14 at hf
    obtain ⟨v3, s4, ev3, hf⟩ := bd2_ob hf
    refine call_i (As := [.int t1]) (rest := []) ⟨hx, hb, hml, hown, hts⟩ (tX5_isFine l D ca Ad _ σ t1 v3 s4 ev3) (cwV 1 hts gX5_closeSweep_X5_isFine rfl rfl rfl (by decide +kernel) ⟨Nat.le_of_ble_eq_true rfl, Nat.le_of_ble_eq_true rfl⟩) hN hK hP hD hA hS (fr_id _ _) rfl rfl rfl hl.1 rfl (lv_room (Nat.le_of_ble_eq_true rfl)) dX5_closeSweep_14 ⟨Nat.le_refl _, Nat.le_refl _⟩ (fun H locs hP hD hS => ?_)
    refine lv_if_ne (tgt := 22) hx hb dX5_closeSweep_17 (by decide) (fun c5 => ?_) (fun c5 => ?_)
    · replace hf := it_n c5 hf
      refine lv_aload_n hx hb dX5_closeSweep_22 rfl (lv_at hl 0 rfl) ?_
      refine va_get (D := D) (ci := 5) (v := .ref (Ad 6)) (C := RX5) (T := TX5) (N := 17) hx hb hts in5 hown hK hP 0 rfl rfl 8 (by decide) f30 (fun _ h9 => h9) rfl dX5_closeSweep_23 ?_
      refine lv_iload_n hx hb dX5_closeSweep_26 rfl (lv_at hl 1 rfl) ?_
      refine lv_iconst (v := 0) hx hb dX5_closeSweep_27 (by decide) ?_
      obtain ⟨g6, hf⟩ := gd_ob hf
      obtain ⟨s7, es7, hf⟩ := nm_ob hf
      refine va_zast hx hb hK hP hD hS 6 2 rfl rfl g6 dX5_closeSweep_28 (fun H locs hP hD hS => ?_)
      have hP : va_P D vwCl (wM ca Ad s7) H := by rw [← es7]; exact hP
      have hD : va_D A (wM ca Ad s7) := by rw [← es7]; exact hD
      refine lv_aload_n hx hb dX5_closeSweep_29 rfl (lv_at hl 0 rfl) ?_
      refine va_get (D := D) (ci := 5) (v := .ref (Ad 10)) (C := RX5) (T := TX5) (N := 17) hx hb hts in5 hown hK hP 0 rfl rfl 12 (by decide) f43 (fun _ h9 => h9) rfl dX5_closeSweep_30 ?_
      refine lv_iload_n hx hb dX5_closeSweep_33 rfl (lv_at hl 1 rfl) ?_
      obtain ⟨g8, hf⟩ := gd_ob hf
      refine va_iald hx hb hK hP 10 0 rfl rfl g8 dX5_closeSweep_34 ?_
      obtain ⟨rfl, rfl⟩ := so2 hf
      exact hret _ _ _ _ dX5_closeSweep_35 hP hD hS
    · replace hf := it_p c5 hf
      refine lv_iconst (v := 0) hx hb dX5_closeSweep_20 (by decide) ?_
      obtain ⟨rfl, rfl⟩ := so2 hf
      exact hret _ _ _ _ dX5_closeSweep_21 hP hD hS
  unfold mm_closeSweep at hf
  refine lv_aload_n hx hb dX5_closeSweep_0 rfl (lv_at hl 0 rfl) ?_
  refine lv_aload_n hx hb dX5_closeSweep_1 rfl (lv_at hl 0 rfl) ?_
  refine lv_iload_n hx hb dX5_closeSweep_2 rfl (lv_at hl 1 rfl) ?_
  obtain ⟨v1, ev1, hf⟩ := bd_ob hf
  refine call_i (As := [.int a0]) (rest := [.ref (Ad 0)]) ⟨hx, hb, hml, hown, hts⟩ (tX5_isSweep l D ca Ad _ σ a0 v1 ev1) (cwV 1 hts gX5_closeSweep_X5_isSweep rfl rfl rfl (by decide +kernel) ⟨Nat.le_of_ble_eq_true rfl, Nat.le_of_ble_eq_true rfl⟩) hN hK hP hD hA hS (fr_id _ _) rfl rfl rfl hl.1 rfl (lv_room (Nat.le_of_ble_eq_true rfl)) dX5_closeSweep_3 ⟨Nat.le_refl _, Nat.le_refl _⟩ (fun H locs hP hD hS => ?_)
  refine lv_if_eq (tgt := 13) hx hb dX5_closeSweep_6 (by decide) (fun c2 => ?_) (fun c2 => ?_)
  · replace hf := it_p c2 hf
    refine lv_iconst (v := 1) hx hb dX5_closeSweep_13 (by decide) ?_
    exact J14 _ _ _ _ _ _ hf hP hD hS (lv_sub hl [0, 1] rfl)
  · replace hf := it_n c2 hf
    refine lv_iconst (v := 0) hx hb dX5_closeSweep_9 (by decide) ?_
    refine lv_goto (tgt := 14) hx hb dX5_closeSweep_10 (by decide) ?_
    exact J14 _ _ _ _ _ _ hf hP hD hS (lv_sub hl [0, 1] rfl)

def mm_hash  (σ : MS) (a0 : Int32) : Option (Int32 × MS) :=
  nm (m_thrown' σ 0) fun s1 =>
  bd (mm_hashOf s1 a0) fun v2 =>
  some (v2, s1)
set_option maxHeartbeats 4000000 in
set_option maxRecDepth 100000 in
theorem tX5_hash (l : Launch) (D : va_G) (ca : Nat → ClassId) (Ad : Nat → Nat) (sz : Nat)  (σ : MS) (a0 : Int32) (r : Int32) (σ9 : MS) (hf : mm_hash σ a0 = some (r, σ9)) : Ci l D ca yX5_hash wsX5_hash { frames := 1, cells := 0, slots := 0, locals := 22 } [.ref (Ad 0), .int a0] (wM ca Ad σ) sz r (wM ca Ad σ9) := by
  refine body_of (cc := cX5_hash) (maxL := 2) (ret := (some .int)) (fun A => Qi D ca r (wM ca Ad σ9) A) (by decide) rfl (Nat.le_of_ble_eq_true rfl) ?_
  intro p e s m below meth c A ls hx hb hr hml hts hown hlocks hA hK hP hD hS hl hN
  have hl : lv_has ls 2 [(0, .ref (Ad 0)), (1, .int a0)] := hl
  have hret : ∀ (pc : Nat) (ls : Array Slot) (H : Heap) (locs : List Loc), decode cX5_hash pc = .ok (.ireturn, 1) → va_P D vwCl (wM ca Ad σ9) H → va_D A (wM ca Ad σ9) → va_S A s.heap H locs → W p l e { frames := 1, cells := 0, slots := 0, locals := 22 } s m ([.ref (Ad 0), .int a0] : List Value).toArray below meth c H locs 0 0 (MQ below (Qi D ca r (wM ca Ad σ9) A) ([.ref (Ad 0), .int a0] : List Value).toArray s 0 0 A) (F0 m pc ls [.int r]) := fun pc ls H locs hd hP hD hS => ret_i hx hb hr hlocks hK hP hD hS hd
  generalize MQ below (Qi D ca r (wM ca Ad σ9) A) ([.ref (Ad 0), .int a0] : List Value).toArray s 0 0 A = Q at hret ⊢
  generalize ([.ref (Ad 0), .int a0] : List Value).toArray = args at hts hret ⊢
  have f49 := hts (.fieldLink RX5 49 "RobinRowModel" "thrown" "I") (by decide +kernel)
  have in5 : ∀ w ∈ u_ws RX5 TX5 17, w ∈ wsX5_hash := by decide +kernel
  unfold mm_hash at hf
  refine lv_aload_n hx hb dX5_hash_0 rfl (lv_at hl 0 rfl) ?_
  refine lv_iconst (v := 0) hx hb dX5_hash_1 (by decide) ?_
  obtain ⟨s1, es1, hf⟩ := nm_ob hf
  refine va_put (D := D) (ci := 5) (v := .int 0) (ty := .int) (C := RX5) (T := TX5) (N := 17) hx hb hts in5 tyX5 tyX5_ok nmX5 hown hK hP hD hS 0 rfl rfl 16 (by decide) f49 (fun _ h9 => h9) rfl (by decide +kernel) rfl rfl (Nat.le_of_ble_eq_true rfl) dX5_hash_2 (fun H locs hP hD hS => ?_)
  have hP : va_P D vwCl (wM ca Ad s1) H := by rw [← es1]; exact hP
  have hD : va_D A (wM ca Ad s1) := by rw [← es1]; exact hD
  refine lv_aload_n hx hb dX5_hash_5 rfl (lv_at hl 0 rfl) ?_
  refine lv_iload_n hx hb dX5_hash_6 rfl (lv_at hl 1 rfl) ?_
  obtain ⟨v2, ev2, hf⟩ := bd_ob hf
  refine call_i (As := [.int a0]) (rest := []) ⟨hx, hb, hml, hown, hts⟩ (tX5_hashOf l D ca Ad _ s1 a0 v2 ev2) (cwV 1 hts gX5_hash_X5_hashOf rfl rfl rfl (by decide +kernel) ⟨Nat.le_of_ble_eq_true rfl, Nat.le_of_ble_eq_true rfl⟩) hN hK hP hD hA hS (fr_id _ _) rfl rfl rfl hl.1 rfl (lv_room (Nat.le_of_ble_eq_true rfl)) dX5_hash_7 ⟨Nat.le_refl _, Nat.le_refl _⟩ (fun H locs hP hD hS => ?_)
  obtain ⟨rfl, rfl⟩ := so2 hf
  exact hret _ _ _ _ dX5_hash_10 hP hD hS

def mm_tableOf  (σ : MS) (a0 : Int32) : Option Int32 :=
  if a0 = 0 then
    some (m_present σ)
  else
    some (1 - (m_present σ))
set_option maxHeartbeats 4000000 in
set_option maxRecDepth 100000 in
theorem tX5_tableOf (l : Launch) (D : va_G) (ca : Nat → ClassId) (Ad : Nat → Nat) (sz : Nat)  (σ : MS) (a0 : Int32) (r : Int32) (hf : mm_tableOf σ a0 = some r) : Ci l D ca yX5_tableOf wsX5_tableOf { frames := 0, cells := 0, slots := 0, locals := 0 } [.ref (Ad 0), .int a0] (wM ca Ad σ) sz r (wM ca Ad σ) := by
  refine body_of (cc := cX5_tableOf) (maxL := 2) (ret := (some .int)) (fun A => Qi D ca r (wM ca Ad σ) A) (by decide) rfl (Nat.le_of_ble_eq_true rfl) ?_
  intro p e s m below meth c A ls hx hb hr hml hts hown hlocks hA hK hP hD hS hl hN
  have hl : lv_has ls 2 [(0, .ref (Ad 0)), (1, .int a0)] := hl
  have hret : ∀ (pc : Nat) (ls : Array Slot) (H : Heap) (locs : List Loc), decode cX5_tableOf pc = .ok (.ireturn, 1) → va_P D vwCl (wM ca Ad σ) H → va_D A (wM ca Ad σ) → va_S A s.heap H locs → W p l e { frames := 0, cells := 0, slots := 0, locals := 0 } s m ([.ref (Ad 0), .int a0] : List Value).toArray below meth c H locs 0 0 (MQ below (Qi D ca r (wM ca Ad σ) A) ([.ref (Ad 0), .int a0] : List Value).toArray s 0 0 A) (F0 m pc ls [.int r]) := fun pc ls H locs hd hP hD hS => ret_i hx hb hr hlocks hK hP hD hS hd
  generalize MQ below (Qi D ca r (wM ca Ad σ) A) ([.ref (Ad 0), .int a0] : List Value).toArray s 0 0 A = Q at hret ⊢
  generalize ([.ref (Ad 0), .int a0] : List Value).toArray = args at hts hret ⊢
  have f64 := hts (.fieldLink RX5 64 "RobinRowModel" "present" "I") (by decide +kernel)
  have in5 : ∀ w ∈ u_ws RX5 TX5 17, w ∈ wsX5_tableOf := by decide +kernel
  unfold mm_tableOf at hf
  refine lv_iload_n hx hb dX5_tableOf_0 rfl (lv_at hl 1 rfl) ?_
  refine lv_if_ne (tgt := 11) hx hb dX5_tableOf_1 (by decide) (fun c1 => ?_) (fun c1 => ?_)
  · replace hf := it_n c1 hf
    refine lv_iconst (v := 1) hx hb dX5_tableOf_11 (by decide) ?_
    refine lv_aload_n hx hb dX5_tableOf_12 rfl (lv_at hl 0 rfl) ?_
    refine va_get (D := D) (ci := 5) (v := .int (m_present σ)) (C := RX5) (T := TX5) (N := 17) hx hb hts in5 hown hK hP 0 rfl rfl 5 (by decide) f64 (fun _ h9 => h9) rfl dX5_tableOf_13 ?_
    refine lv_isub hx hb dX5_tableOf_16 ?_
    obtain rfl := so1 hf
    exact hret _ _ _ _ dX5_tableOf_17 hP hD hS
  · replace hf := it_p c1 hf
    refine lv_aload_n hx hb dX5_tableOf_4 rfl (lv_at hl 0 rfl) ?_
    refine va_get (D := D) (ci := 5) (v := .int (m_present σ)) (C := RX5) (T := TX5) (N := 17) hx hb hts in5 hown hK hP 0 rfl rfl 5 (by decide) f64 (fun _ h9 => h9) rfl dX5_tableOf_5 ?_
    refine lv_goto (tgt := 17) hx hb dX5_tableOf_8 (by decide) ?_
    obtain rfl := so1 hf
    exact hret _ _ _ _ dX5_tableOf_17 hP hD hS

def mm_slots_15   (σ : MS) (l1 : Int32) (t1 : Int32) : Option (Int32 × MS) :=
  bd2 (mm_isFine σ t1) fun v3 s4 =>
  if v3 = 0 then
    some (0, s4)
  else
    bd (mm_tableOf s4 l1) fun v6 =>
    gd v6 2 <|
    some ((m_slots s4 v6.toNatClampNeg), s4)
def mm_slots  (σ : MS) (a0 : Int32) : Option (Int32 × MS) :=
  bd (mm_in a0 0 1) fun v1 =>
  if v1 = 0 then
    mm_slots_15 σ a0 1
  else
    mm_slots_15 σ a0 0
set_option maxHeartbeats 4000000 in
set_option maxRecDepth 100000 in
theorem tX5_slots (l : Launch) (D : va_G) (ca : Nat → ClassId) (Ad : Nat → Nat) (sz : Nat)  (σ : MS) (a0 : Int32) (r : Int32) (σ9 : MS) (hf : mm_slots σ a0 = some (r, σ9)) : Ci l D ca yX5_slots wsX5_slots { frames := 1, cells := 0, slots := 0, locals := 22 } [.ref (Ad 0), .int a0] (wM ca Ad σ) sz r (wM ca Ad σ9) := by
  refine body_of (cc := cX5_slots) (maxL := 2) (ret := (some .int)) (fun A => Qi D ca r (wM ca Ad σ9) A) (by decide) rfl (Nat.le_of_ble_eq_true rfl) ?_
  intro p e s m below meth c A ls hx hb hr hml hts hown hlocks hA hK hP hD hS hl hN
  have hl : lv_has ls 2 [(0, .ref (Ad 0)), (1, .int a0)] := hl
  have hret : ∀ (pc : Nat) (ls : Array Slot) (H : Heap) (locs : List Loc), decode cX5_slots pc = .ok (.ireturn, 1) → va_P D vwCl (wM ca Ad σ9) H → va_D A (wM ca Ad σ9) → va_S A s.heap H locs → W p l e { frames := 1, cells := 0, slots := 0, locals := 22 } s m ([.ref (Ad 0), .int a0] : List Value).toArray below meth c H locs 0 0 (MQ below (Qi D ca r (wM ca Ad σ9) A) ([.ref (Ad 0), .int a0] : List Value).toArray s 0 0 A) (F0 m pc ls [.int r]) := fun pc ls H locs hd hP hD hS => ret_i hx hb hr hlocks hK hP hD hS hd
  generalize MQ below (Qi D ca r (wM ca Ad σ9) A) ([.ref (Ad 0), .int a0] : List Value).toArray s 0 0 A = Q at hret ⊢
  generalize ([.ref (Ad 0), .int a0] : List Value).toArray = args at hts hret ⊢
  have f20 := hts (.fieldLink RX5 20 "RobinRowModel" "slots" "[I") (by decide +kernel)
  have in5 : ∀ w ∈ u_ws RX5 TX5 17, w ∈ wsX5_slots := by decide +kernel
  have J15 : ∀ (H : Heap) (locs : List Loc) (ls : Array Slot) (σ : MS) (l1 : Int32) (t1 : Int32), mm_slots_15  σ l1 t1 = some (r, σ9) → va_P D vwCl (wM ca Ad σ) H → va_D A (wM ca Ad σ) → va_S A s.heap H locs → lv_has ls 2 [(0, .ref (Ad 0)), (1, .int l1)] → W p l e { frames := 1, cells := 0, slots := 0, locals := 22 } s m args below meth c H locs 0 0 Q (F0 m 15 ls [.int t1, .ref (Ad 0)]) := by
    intro H locs ls σ l1 t1 hf hP hD hS hl
    unfold mm_slots_15 at hf
    obtain ⟨v3, s4, ev3, hf⟩ := bd2_ob hf
    refine call_i (As := [.int t1]) (rest := []) ⟨hx, hb, hml, hown, hts⟩ (tX5_isFine l D ca Ad _ σ t1 v3 s4 ev3) (cwV 1 hts gX5_slots_X5_isFine rfl rfl rfl (by decide +kernel) ⟨Nat.le_of_ble_eq_true rfl, Nat.le_of_ble_eq_true rfl⟩) hN hK hP hD hA hS (fr_id _ _) rfl rfl rfl hl.1 rfl (lv_room (Nat.le_of_ble_eq_true rfl)) dX5_slots_15 ⟨Nat.le_refl _, Nat.le_refl _⟩ (fun H locs hP hD hS => ?_)
    refine lv_if_eq (tgt := 34) hx hb dX5_slots_18 (by decide) (fun c5 => ?_) (fun c5 => ?_)
    · replace hf := it_p c5 hf
      refine lv_iconst (v := 0) hx hb dX5_slots_34 (by decide) ?_
      obtain ⟨rfl, rfl⟩ := so2 hf
      exact hret _ _ _ _ dX5_slots_35 hP hD hS
    · replace hf := it_n c5 hf
      refine lv_aload_n hx hb dX5_slots_21 rfl (lv_at hl 0 rfl) ?_
      refine va_get (D := D) (ci := 5) (v := .ref (Ad 4)) (C := RX5) (T := TX5) (N := 17) hx hb hts in5 hown hK hP 0 rfl rfl 3 (by decide) f20 (fun _ h9 => h9) rfl dX5_slots_22 ?_
      refine lv_aload_n hx hb dX5_slots_25 rfl (lv_at hl 0 rfl) ?_
      refine lv_iload_n hx hb dX5_slots_26 rfl (lv_at hl 1 rfl) ?_
      obtain ⟨v6, ev6, hf⟩ := bd_ob hf
      refine call_i (As := [.int l1]) (rest := [.ref (Ad 4)]) ⟨hx, hb, hml, hown, hts⟩ (tX5_tableOf l D ca Ad _ s4 l1 v6 ev6) (cwV 1 hts gX5_slots_X5_tableOf rfl rfl rfl (by decide +kernel) ⟨Nat.le_of_ble_eq_true rfl, Nat.le_of_ble_eq_true rfl⟩) hN hK hP hD hA hS (fr_id _ _) rfl rfl rfl hl.1 rfl (lv_room (Nat.le_of_ble_eq_true rfl)) dX5_slots_27 ⟨Nat.le_refl _, Nat.le_refl _⟩ (fun H locs hP hD hS => ?_)
      obtain ⟨g7, hf⟩ := gd_ob hf
      refine va_iald hx hb hK hP 4 0 rfl rfl g7 dX5_slots_30 ?_
      refine lv_goto (tgt := 35) hx hb dX5_slots_31 (by decide) ?_
      obtain ⟨rfl, rfl⟩ := so2 hf
      exact hret _ _ _ _ dX5_slots_35 hP hD hS
  unfold mm_slots at hf
  refine lv_aload_n hx hb dX5_slots_0 rfl (lv_at hl 0 rfl) ?_
  refine lv_iload_n hx hb dX5_slots_1 rfl (lv_at hl 1 rfl) ?_
  refine lv_iconst (v := 0) hx hb dX5_slots_2 (by decide) ?_
  refine lv_iconst (v := 1) hx hb dX5_slots_3 (by decide) ?_
  obtain ⟨v1, ev1, hf⟩ := bd_ob hf
  refine call_si (As := [.int a0, .int 0, .int 1]) (rest := [.ref (Ad 0)]) ⟨hx, hb, hml, hown, hts⟩ (tX5_in l D ca _ a0 0 1 v1 ev1) (va_cwS 3 hts gX5_slots_X5_in rfl rfl rfl (by decide +kernel) ⟨Nat.le_of_ble_eq_true rfl, Nat.le_of_ble_eq_true rfl⟩) hN hK hP hD hA hS (fr_no _) rfl hl.1 rfl (lv_room (Nat.le_of_ble_eq_true rfl)) dX5_slots_4 ⟨Nat.le_refl _, Nat.le_refl _⟩ (fun H locs hP hD hS => ?_)
  refine lv_if_eq (tgt := 14) hx hb dX5_slots_7 (by decide) (fun c2 => ?_) (fun c2 => ?_)
  · replace hf := it_p c2 hf
    refine lv_iconst (v := 1) hx hb dX5_slots_14 (by decide) ?_
    exact J15 _ _ _ _ _ _ hf hP hD hS (lv_sub hl [0, 1] rfl)
  · replace hf := it_n c2 hf
    refine lv_iconst (v := 0) hx hb dX5_slots_10 (by decide) ?_
    refine lv_goto (tgt := 15) hx hb dX5_slots_11 (by decide) ?_
    exact J15 _ _ _ _ _ _ hf hP hD hS (lv_sub hl [0, 1] rfl)

def mm_keysIn_15   (σ : MS) (l1 : Int32) (t1 : Int32) : Option (Int32 × MS) :=
  bd2 (mm_isFine σ t1) fun v3 s4 =>
  if v3 = 0 then
    some (0, s4)
  else
    bd (mm_tableOf s4 l1) fun v6 =>
    gd v6 2 <|
    some ((m_many s4 v6.toNatClampNeg), s4)
def mm_keysIn  (σ : MS) (a0 : Int32) : Option (Int32 × MS) :=
  bd (mm_in a0 0 1) fun v1 =>
  if v1 = 0 then
    mm_keysIn_15 σ a0 1
  else
    mm_keysIn_15 σ a0 0
set_option maxHeartbeats 4000000 in
set_option maxRecDepth 100000 in
theorem tX5_keysIn (l : Launch) (D : va_G) (ca : Nat → ClassId) (Ad : Nat → Nat) (sz : Nat)  (σ : MS) (a0 : Int32) (r : Int32) (σ9 : MS) (hf : mm_keysIn σ a0 = some (r, σ9)) : Ci l D ca yX5_keysIn wsX5_keysIn { frames := 1, cells := 0, slots := 0, locals := 22 } [.ref (Ad 0), .int a0] (wM ca Ad σ) sz r (wM ca Ad σ9) := by
  refine body_of (cc := cX5_keysIn) (maxL := 2) (ret := (some .int)) (fun A => Qi D ca r (wM ca Ad σ9) A) (by decide) rfl (Nat.le_of_ble_eq_true rfl) ?_
  intro p e s m below meth c A ls hx hb hr hml hts hown hlocks hA hK hP hD hS hl hN
  have hl : lv_has ls 2 [(0, .ref (Ad 0)), (1, .int a0)] := hl
  have hret : ∀ (pc : Nat) (ls : Array Slot) (H : Heap) (locs : List Loc), decode cX5_keysIn pc = .ok (.ireturn, 1) → va_P D vwCl (wM ca Ad σ9) H → va_D A (wM ca Ad σ9) → va_S A s.heap H locs → W p l e { frames := 1, cells := 0, slots := 0, locals := 22 } s m ([.ref (Ad 0), .int a0] : List Value).toArray below meth c H locs 0 0 (MQ below (Qi D ca r (wM ca Ad σ9) A) ([.ref (Ad 0), .int a0] : List Value).toArray s 0 0 A) (F0 m pc ls [.int r]) := fun pc ls H locs hd hP hD hS => ret_i hx hb hr hlocks hK hP hD hS hd
  generalize MQ below (Qi D ca r (wM ca Ad σ9) A) ([.ref (Ad 0), .int a0] : List Value).toArray s 0 0 A = Q at hret ⊢
  generalize ([.ref (Ad 0), .int a0] : List Value).toArray = args at hts hret ⊢
  have f23 := hts (.fieldLink RX5 23 "RobinRowModel" "many" "[I") (by decide +kernel)
  have in5 : ∀ w ∈ u_ws RX5 TX5 17, w ∈ wsX5_keysIn := by decide +kernel
  have J15 : ∀ (H : Heap) (locs : List Loc) (ls : Array Slot) (σ : MS) (l1 : Int32) (t1 : Int32), mm_keysIn_15  σ l1 t1 = some (r, σ9) → va_P D vwCl (wM ca Ad σ) H → va_D A (wM ca Ad σ) → va_S A s.heap H locs → lv_has ls 2 [(0, .ref (Ad 0)), (1, .int l1)] → W p l e { frames := 1, cells := 0, slots := 0, locals := 22 } s m args below meth c H locs 0 0 Q (F0 m 15 ls [.int t1, .ref (Ad 0)]) := by
    intro H locs ls σ l1 t1 hf hP hD hS hl
    unfold mm_keysIn_15 at hf
    obtain ⟨v3, s4, ev3, hf⟩ := bd2_ob hf
    refine call_i (As := [.int t1]) (rest := []) ⟨hx, hb, hml, hown, hts⟩ (tX5_isFine l D ca Ad _ σ t1 v3 s4 ev3) (cwV 1 hts gX5_keysIn_X5_isFine rfl rfl rfl (by decide +kernel) ⟨Nat.le_of_ble_eq_true rfl, Nat.le_of_ble_eq_true rfl⟩) hN hK hP hD hA hS (fr_id _ _) rfl rfl rfl hl.1 rfl (lv_room (Nat.le_of_ble_eq_true rfl)) dX5_keysIn_15 ⟨Nat.le_refl _, Nat.le_refl _⟩ (fun H locs hP hD hS => ?_)
    refine lv_if_eq (tgt := 34) hx hb dX5_keysIn_18 (by decide) (fun c5 => ?_) (fun c5 => ?_)
    · replace hf := it_p c5 hf
      refine lv_iconst (v := 0) hx hb dX5_keysIn_34 (by decide) ?_
      obtain ⟨rfl, rfl⟩ := so2 hf
      exact hret _ _ _ _ dX5_keysIn_35 hP hD hS
    · replace hf := it_n c5 hf
      refine lv_aload_n hx hb dX5_keysIn_21 rfl (lv_at hl 0 rfl) ?_
      refine va_get (D := D) (ci := 5) (v := .ref (Ad 5)) (C := RX5) (T := TX5) (N := 17) hx hb hts in5 hown hK hP 0 rfl rfl 4 (by decide) f23 (fun _ h9 => h9) rfl dX5_keysIn_22 ?_
      refine lv_aload_n hx hb dX5_keysIn_25 rfl (lv_at hl 0 rfl) ?_
      refine lv_iload_n hx hb dX5_keysIn_26 rfl (lv_at hl 1 rfl) ?_
      obtain ⟨v6, ev6, hf⟩ := bd_ob hf
      refine call_i (As := [.int l1]) (rest := [.ref (Ad 5)]) ⟨hx, hb, hml, hown, hts⟩ (tX5_tableOf l D ca Ad _ s4 l1 v6 ev6) (cwV 1 hts gX5_keysIn_X5_tableOf rfl rfl rfl (by decide +kernel) ⟨Nat.le_of_ble_eq_true rfl, Nat.le_of_ble_eq_true rfl⟩) hN hK hP hD hA hS (fr_id _ _) rfl rfl rfl hl.1 rfl (lv_room (Nat.le_of_ble_eq_true rfl)) dX5_keysIn_27 ⟨Nat.le_refl _, Nat.le_refl _⟩ (fun H locs hP hD hS => ?_)
      obtain ⟨g7, hf⟩ := gd_ob hf
      refine va_iald hx hb hK hP 5 0 rfl rfl g7 dX5_keysIn_30 ?_
      refine lv_goto (tgt := 35) hx hb dX5_keysIn_31 (by decide) ?_
      obtain ⟨rfl, rfl⟩ := so2 hf
      exact hret _ _ _ _ dX5_keysIn_35 hP hD hS
  unfold mm_keysIn at hf
  refine lv_aload_n hx hb dX5_keysIn_0 rfl (lv_at hl 0 rfl) ?_
  refine lv_iload_n hx hb dX5_keysIn_1 rfl (lv_at hl 1 rfl) ?_
  refine lv_iconst (v := 0) hx hb dX5_keysIn_2 (by decide) ?_
  refine lv_iconst (v := 1) hx hb dX5_keysIn_3 (by decide) ?_
  obtain ⟨v1, ev1, hf⟩ := bd_ob hf
  refine call_si (As := [.int a0, .int 0, .int 1]) (rest := [.ref (Ad 0)]) ⟨hx, hb, hml, hown, hts⟩ (tX5_in l D ca _ a0 0 1 v1 ev1) (va_cwS 3 hts gX5_keysIn_X5_in rfl rfl rfl (by decide +kernel) ⟨Nat.le_of_ble_eq_true rfl, Nat.le_of_ble_eq_true rfl⟩) hN hK hP hD hA hS (fr_no _) rfl hl.1 rfl (lv_room (Nat.le_of_ble_eq_true rfl)) dX5_keysIn_4 ⟨Nat.le_refl _, Nat.le_refl _⟩ (fun H locs hP hD hS => ?_)
  refine lv_if_eq (tgt := 14) hx hb dX5_keysIn_7 (by decide) (fun c2 => ?_) (fun c2 => ?_)
  · replace hf := it_p c2 hf
    refine lv_iconst (v := 1) hx hb dX5_keysIn_14 (by decide) ?_
    exact J15 _ _ _ _ _ _ hf hP hD hS (lv_sub hl [0, 1] rfl)
  · replace hf := it_n c2 hf
    refine lv_iconst (v := 0) hx hb dX5_keysIn_10 (by decide) ?_
    refine lv_goto (tgt := 15) hx hb dX5_keysIn_11 (by decide) ?_
    exact J15 _ _ _ _ _ _ hf hP hD hS (lv_sub hl [0, 1] rfl)

def mm_isSlot  (σ : MS) (a0 : Int32) (a1 : Int32) : Option Int32 :=
  bd (mm_in a0 0 1) fun v1 =>
  if v1 = 0 then
    some 0
  else
    bd (mm_tableOf σ a0) fun v3 =>
    gd v3 2 <|
    bd (mm_in a1 0 ((m_slots σ v3.toNatClampNeg) - 1)) fun v5 =>
    if v5 = 0 then
      some 0
    else
      some 1
set_option maxHeartbeats 4000000 in
set_option maxRecDepth 100000 in
theorem tX5_isSlot (l : Launch) (D : va_G) (ca : Nat → ClassId) (Ad : Nat → Nat) (sz : Nat)  (σ : MS) (a0 : Int32) (a1 : Int32) (r : Int32) (hf : mm_isSlot σ a0 a1 = some r) : Ci l D ca yX5_isSlot wsX5_isSlot { frames := 1, cells := 0, slots := 0, locals := 22 } [.ref (Ad 0), .int a0, .int a1] (wM ca Ad σ) sz r (wM ca Ad σ) := by
  refine body_of (cc := cX5_isSlot) (maxL := 3) (ret := (some .boolean)) (fun A => Qi D ca r (wM ca Ad σ) A) (by decide) rfl (Nat.le_of_ble_eq_true rfl) ?_
  intro p e s m below meth c A ls hx hb hr hml hts hown hlocks hA hK hP hD hS hl hN
  have hl : lv_has ls 3 [(0, .ref (Ad 0)), (1, .int a0), (2, .int a1)] := hl
  have hret : ∀ (pc : Nat) (ls : Array Slot) (H : Heap) (locs : List Loc), decode cX5_isSlot pc = .ok (.ireturn, 1) → narrow .boolean (.int r) = .int r → va_P D vwCl (wM ca Ad σ) H → va_D A (wM ca Ad σ) → va_S A s.heap H locs → W p l e { frames := 1, cells := 0, slots := 0, locals := 22 } s m ([.ref (Ad 0), .int a0, .int a1] : List Value).toArray below meth c H locs 0 0 (MQ below (Qi D ca r (wM ca Ad σ) A) ([.ref (Ad 0), .int a0, .int a1] : List Value).toArray s 0 0 A) (F0 m pc ls [.int r]) := fun pc ls H locs hd hn hP hD hS => ret_z hx hb hr hn hlocks hK hP hD hS hd
  generalize MQ below (Qi D ca r (wM ca Ad σ) A) ([.ref (Ad 0), .int a0, .int a1] : List Value).toArray s 0 0 A = Q at hret ⊢
  generalize ([.ref (Ad 0), .int a0, .int a1] : List Value).toArray = args at hts hret ⊢
  have f20 := hts (.fieldLink RX5 20 "RobinRowModel" "slots" "[I") (by decide +kernel)
  have in5 : ∀ w ∈ u_ws RX5 TX5 17, w ∈ wsX5_isSlot := by decide +kernel
  unfold mm_isSlot at hf
  refine lv_iload_n hx hb dX5_isSlot_0 rfl (lv_at hl 1 rfl) ?_
  refine lv_iconst (v := 0) hx hb dX5_isSlot_1 (by decide) ?_
  refine lv_iconst (v := 1) hx hb dX5_isSlot_2 (by decide) ?_
  obtain ⟨v1, ev1, hf⟩ := bd_ob hf
  refine call_si (As := [.int a0, .int 0, .int 1]) (rest := []) ⟨hx, hb, hml, hown, hts⟩ (tX5_in l D ca _ a0 0 1 v1 ev1) (va_cwS 3 hts gX5_isSlot_X5_in rfl rfl rfl (by decide +kernel) ⟨Nat.le_of_ble_eq_true rfl, Nat.le_of_ble_eq_true rfl⟩) hN hK hP hD hA hS (fr_no _) rfl hl.1 rfl (lv_room (Nat.le_of_ble_eq_true rfl)) dX5_isSlot_3 ⟨Nat.le_refl _, Nat.le_refl _⟩ (fun H locs hP hD hS => ?_)
  refine lv_if_eq (tgt := 33) hx hb dX5_isSlot_6 (by decide) (fun c2 => ?_) (fun c2 => ?_)
  · replace hf := it_p c2 hf
    refine lv_iconst (v := 0) hx hb dX5_isSlot_33 (by decide) ?_
    obtain rfl := so1 hf
    exact hret _ _ _ _ dX5_isSlot_34 rfl hP hD hS
  · replace hf := it_n c2 hf
    refine lv_iload_n hx hb dX5_isSlot_9 rfl (lv_at hl 2 rfl) ?_
    refine lv_iconst (v := 0) hx hb dX5_isSlot_10 (by decide) ?_
    refine lv_aload_n hx hb dX5_isSlot_11 rfl (lv_at hl 0 rfl) ?_
    refine va_get (D := D) (ci := 5) (v := .ref (Ad 4)) (C := RX5) (T := TX5) (N := 17) hx hb hts in5 hown hK hP 0 rfl rfl 3 (by decide) f20 (fun _ h9 => h9) rfl dX5_isSlot_12 ?_
    refine lv_aload_n hx hb dX5_isSlot_15 rfl (lv_at hl 0 rfl) ?_
    refine lv_iload_n hx hb dX5_isSlot_16 rfl (lv_at hl 1 rfl) ?_
    obtain ⟨v3, ev3, hf⟩ := bd_ob hf
    refine call_i (As := [.int a0]) (rest := [.ref (Ad 4), .int 0, .int a1]) ⟨hx, hb, hml, hown, hts⟩ (tX5_tableOf l D ca Ad _ σ a0 v3 ev3) (cwV 1 hts gX5_isSlot_X5_tableOf rfl rfl rfl (by decide +kernel) ⟨Nat.le_of_ble_eq_true rfl, Nat.le_of_ble_eq_true rfl⟩) hN hK hP hD hA hS (fr_id _ _) rfl rfl rfl hl.1 rfl (lv_room (Nat.le_of_ble_eq_true rfl)) dX5_isSlot_17 ⟨Nat.le_refl _, Nat.le_refl _⟩ (fun H locs hP hD hS => ?_)
    obtain ⟨g4, hf⟩ := gd_ob hf
    refine va_iald hx hb hK hP 4 0 rfl rfl g4 dX5_isSlot_20 ?_
    refine lv_iconst (v := 1) hx hb dX5_isSlot_21 (by decide) ?_
    refine lv_isub hx hb dX5_isSlot_22 ?_
    obtain ⟨v5, ev5, hf⟩ := bd_ob hf
    refine call_si (As := [.int a1, .int 0, .int ((m_slots σ v3.toNatClampNeg) - 1)]) (rest := []) ⟨hx, hb, hml, hown, hts⟩ (tX5_in l D ca _ a1 0 ((m_slots σ v3.toNatClampNeg) - 1) v5 ev5) (va_cwS 3 hts gX5_isSlot_X5_in rfl rfl rfl (by decide +kernel) ⟨Nat.le_of_ble_eq_true rfl, Nat.le_of_ble_eq_true rfl⟩) hN hK hP hD hA hS (fr_no _) rfl hl.1 rfl (lv_room (Nat.le_of_ble_eq_true rfl)) dX5_isSlot_23 ⟨Nat.le_refl _, Nat.le_refl _⟩ (fun H locs hP hD hS => ?_)
    refine lv_if_eq (tgt := 33) hx hb dX5_isSlot_26 (by decide) (fun c6 => ?_) (fun c6 => ?_)
    · replace hf := it_p c6 hf
      refine lv_iconst (v := 0) hx hb dX5_isSlot_33 (by decide) ?_
      obtain rfl := so1 hf
      exact hret _ _ _ _ dX5_isSlot_34 rfl hP hD hS
    · replace hf := it_n c6 hf
      refine lv_iconst (v := 1) hx hb dX5_isSlot_29 (by decide) ?_
      refine lv_goto (tgt := 34) hx hb dX5_isSlot_30 (by decide) ?_
      obtain rfl := so1 hf
      exact hret _ _ _ _ dX5_isSlot_34 rfl hP hD hS

def mm_controlOf  (σ : MS) (a0 : Int32) (a1 : Int32) : Option Int32 :=
  gd ((256 * a0) + a1) 512 <|
  if (m_full σ ((256 * a0) + a1).toNatClampNeg) = 0 then
    some (-128)
  else
    gd ((256 * a0) + a1) 512 <|
    bd (mm_hashOf σ (m_keys σ ((256 * a0) + a1).toNatClampNeg)) fun v4 =>
    some (i2b (ushr v4 25))
set_option maxHeartbeats 4000000 in
set_option maxRecDepth 100000 in
theorem tX5_controlOf (l : Launch) (D : va_G) (ca : Nat → ClassId) (Ad : Nat → Nat) (sz : Nat)  (σ : MS) (a0 : Int32) (a1 : Int32) (r : Int32) (hf : mm_controlOf σ a0 a1 = some r) : Ci l D ca yX5_controlOf wsX5_controlOf { frames := 1, cells := 0, slots := 0, locals := 22 } [.ref (Ad 0), .int a0, .int a1] (wM ca Ad σ) sz r (wM ca Ad σ) := by
  refine body_of (cc := cX5_controlOf) (maxL := 3) (ret := (some .byte)) (fun A => Qi D ca r (wM ca Ad σ) A) (by decide) rfl (Nat.le_of_ble_eq_true rfl) ?_
  intro p e s m below meth c A ls hx hb hr hml hts hown hlocks hA hK hP hD hS hl hN
  have hl : lv_has ls 3 [(0, .ref (Ad 0)), (1, .int a0), (2, .int a1)] := hl
  have hret : ∀ (pc : Nat) (ls : Array Slot) (H : Heap) (locs : List Loc), decode cX5_controlOf pc = .ok (.ireturn, 1) → narrow .byte (.int r) = .int r → va_P D vwCl (wM ca Ad σ) H → va_D A (wM ca Ad σ) → va_S A s.heap H locs → W p l e { frames := 1, cells := 0, slots := 0, locals := 22 } s m ([.ref (Ad 0), .int a0, .int a1] : List Value).toArray below meth c H locs 0 0 (MQ below (Qi D ca r (wM ca Ad σ) A) ([.ref (Ad 0), .int a0, .int a1] : List Value).toArray s 0 0 A) (F0 m pc ls [.int r]) := fun pc ls H locs hd hn hP hD hS => ret_z hx hb hr hn hlocks hK hP hD hS hd
  generalize MQ below (Qi D ca r (wM ca Ad σ) A) ([.ref (Ad 0), .int a0, .int a1] : List Value).toArray s 0 0 A = Q at hret ⊢
  generalize ([.ref (Ad 0), .int a0, .int a1] : List Value).toArray = args at hts hret ⊢
  have f16 := hts (.fieldLink RX5 16 "RobinRowModel" "isFull" "[Z") (by decide +kernel)
  have f7 := hts (.fieldLink RX5 7 "RobinRowModel" "keys" "[I") (by decide +kernel)
  have in5 : ∀ w ∈ u_ws RX5 TX5 17, w ∈ wsX5_controlOf := by decide +kernel
  unfold mm_controlOf at hf
  refine lv_aload_n hx hb dX5_controlOf_0 rfl (lv_at hl 0 rfl) ?_
  refine va_get (D := D) (ci := 5) (v := .ref (Ad 3)) (C := RX5) (T := TX5) (N := 17) hx hb hts in5 hown hK hP 0 rfl rfl 2 (by decide) f16 (fun _ h9 => h9) rfl dX5_controlOf_1 ?_
  refine lv_sipush (v := 256) hx hb dX5_controlOf_4 (by decide) ?_
  refine lv_iload_n hx hb dX5_controlOf_7 rfl (lv_at hl 1 rfl) ?_
  refine lv_imul hx hb dX5_controlOf_8 ?_
  refine lv_iload_n hx hb dX5_controlOf_9 rfl (lv_at hl 2 rfl) ?_
  refine lv_iadd hx hb dX5_controlOf_10 ?_
  obtain ⟨g1, hf⟩ := gd_ob hf
  refine va_zald hx hb hK hP 3 2 rfl rfl g1 dX5_controlOf_11 ?_
  refine lv_if_eq (tgt := 38) hx hb dX5_controlOf_12 (by decide) (fun c2 => ?_) (fun c2 => ?_)
  · replace hf := it_p c2 hf
    refine lv_bipush (v := (-128)) hx hb dX5_controlOf_38 (by decide) ?_
    obtain rfl := so1 hf
    exact hret _ _ _ _ dX5_controlOf_40 rfl hP hD hS
  · replace hf := it_n c2 hf
    refine lv_aload_n hx hb dX5_controlOf_15 rfl (lv_at hl 0 rfl) ?_
    refine lv_aload_n hx hb dX5_controlOf_16 rfl (lv_at hl 0 rfl) ?_
    refine va_get (D := D) (ci := 5) (v := .ref (Ad 1)) (C := RX5) (T := TX5) (N := 17) hx hb hts in5 hown hK hP 0 rfl rfl 0 (by decide) f7 (fun _ h9 => h9) rfl dX5_controlOf_17 ?_
    refine lv_sipush (v := 256) hx hb dX5_controlOf_20 (by decide) ?_
    refine lv_iload_n hx hb dX5_controlOf_23 rfl (lv_at hl 1 rfl) ?_
    refine lv_imul hx hb dX5_controlOf_24 ?_
    refine lv_iload_n hx hb dX5_controlOf_25 rfl (lv_at hl 2 rfl) ?_
    refine lv_iadd hx hb dX5_controlOf_26 ?_
    obtain ⟨g3, hf⟩ := gd_ob hf
    refine va_iald hx hb hK hP 1 0 rfl rfl g3 dX5_controlOf_27 ?_
    obtain ⟨v4, ev4, hf⟩ := bd_ob hf
    refine call_i (As := [.int (m_keys σ ((256 * a0) + a1).toNatClampNeg)]) (rest := []) ⟨hx, hb, hml, hown, hts⟩ (tX5_hashOf l D ca Ad _ σ (m_keys σ ((256 * a0) + a1).toNatClampNeg) v4 ev4) (cwV 1 hts gX5_controlOf_X5_hashOf rfl rfl rfl (by decide +kernel) ⟨Nat.le_of_ble_eq_true rfl, Nat.le_of_ble_eq_true rfl⟩) hN hK hP hD hA hS (fr_id _ _) rfl rfl rfl hl.1 rfl (lv_room (Nat.le_of_ble_eq_true rfl)) dX5_controlOf_28 ⟨Nat.le_refl _, Nat.le_refl _⟩ (fun H locs hP hD hS => ?_)
    refine lv_bipush (v := 25) hx hb dX5_controlOf_31 (by decide) ?_
    refine lv_iushr (v := (ushr v4 25)) hx hb dX5_controlOf_33 rfl ?_
    refine lv_i2b (v := (i2b (ushr v4 25))) hx hb dX5_controlOf_34 rfl ?_
    refine lv_goto (tgt := 40) hx hb dX5_controlOf_35 (by decide) ?_
    obtain rfl := so1 hf
    exact hret _ _ _ _ dX5_controlOf_40 (pk_nb _) hP hD hS

def mm_control_15   (σ : MS) (l1 : Int32) (l2 : Int32) (t1 : Int32) : Option (Int32 × MS) :=
  bd2 (mm_isFine σ t1) fun v3 s4 =>
  if v3 = 0 then
    some (0, s4)
  else
    bd (mm_tableOf s4 l1) fun v6 =>
    bd (mm_controlOf s4 v6 l2) fun v7 =>
    gn .byte v7 <|
    some (v7, s4)
def mm_control  (σ : MS) (a0 : Int32) (a1 : Int32) : Option (Int32 × MS) :=
  bd (mm_isSlot σ a0 a1) fun v1 =>
  if v1 = 0 then
    mm_control_15 σ a0 a1 1
  else
    mm_control_15 σ a0 a1 0
set_option maxHeartbeats 4000000 in
set_option maxRecDepth 100000 in
theorem tX5_control (l : Launch) (D : va_G) (ca : Nat → ClassId) (Ad : Nat → Nat) (sz : Nat)  (σ : MS) (a0 : Int32) (a1 : Int32) (r : Int32) (σ9 : MS) (hf : mm_control σ a0 a1 = some (r, σ9)) : Ci l D ca yX5_control wsX5_control { frames := 2, cells := 0, slots := 0, locals := 44 } [.ref (Ad 0), .int a0, .int a1] (wM ca Ad σ) sz r (wM ca Ad σ9) := by
  refine body_of (cc := cX5_control) (maxL := 3) (ret := (some .byte)) (fun A => Qi D ca r (wM ca Ad σ9) A) (by decide) rfl (Nat.le_of_ble_eq_true rfl) ?_
  intro p e s m below meth c A ls hx hb hr hml hts hown hlocks hA hK hP hD hS hl hN
  have hl : lv_has ls 3 [(0, .ref (Ad 0)), (1, .int a0), (2, .int a1)] := hl
  have hret : ∀ (pc : Nat) (ls : Array Slot) (H : Heap) (locs : List Loc), decode cX5_control pc = .ok (.ireturn, 1) → narrow .byte (.int r) = .int r → va_P D vwCl (wM ca Ad σ9) H → va_D A (wM ca Ad σ9) → va_S A s.heap H locs → W p l e { frames := 2, cells := 0, slots := 0, locals := 44 } s m ([.ref (Ad 0), .int a0, .int a1] : List Value).toArray below meth c H locs 0 0 (MQ below (Qi D ca r (wM ca Ad σ9) A) ([.ref (Ad 0), .int a0, .int a1] : List Value).toArray s 0 0 A) (F0 m pc ls [.int r]) := fun pc ls H locs hd hn hP hD hS => ret_z hx hb hr hn hlocks hK hP hD hS hd
  generalize MQ below (Qi D ca r (wM ca Ad σ9) A) ([.ref (Ad 0), .int a0, .int a1] : List Value).toArray s 0 0 A = Q at hret ⊢
  generalize ([.ref (Ad 0), .int a0, .int a1] : List Value).toArray = args at hts hret ⊢
  have J15 : ∀ (H : Heap) (locs : List Loc) (ls : Array Slot) (σ : MS) (l1 : Int32) (l2 : Int32) (t1 : Int32), mm_control_15  σ l1 l2 t1 = some (r, σ9) → va_P D vwCl (wM ca Ad σ) H → va_D A (wM ca Ad σ) → va_S A s.heap H locs → lv_has ls 3 [(0, .ref (Ad 0)), (1, .int l1), (2, .int l2)] → W p l e { frames := 2, cells := 0, slots := 0, locals := 44 } s m args below meth c H locs 0 0 Q (F0 m 15 ls [.int t1, .ref (Ad 0)]) := by
    intro H locs ls σ l1 l2 t1 hf hP hD hS hl
    unfold mm_control_15 at hf
    obtain ⟨v3, s4, ev3, hf⟩ := bd2_ob hf
    refine call_i (As := [.int t1]) (rest := []) ⟨hx, hb, hml, hown, hts⟩ (tX5_isFine l D ca Ad _ σ t1 v3 s4 ev3) (cwV 1 hts gX5_control_X5_isFine rfl rfl rfl (by decide +kernel) ⟨Nat.le_of_ble_eq_true rfl, Nat.le_of_ble_eq_true rfl⟩) hN hK hP hD hA hS (fr_id _ _) rfl rfl rfl hl.1 rfl (lv_room (Nat.le_of_ble_eq_true rfl)) dX5_control_15 ⟨Nat.le_refl _, Nat.le_refl _⟩ (fun H locs hP hD hS => ?_)
    refine lv_if_eq (tgt := 34) hx hb dX5_control_18 (by decide) (fun c5 => ?_) (fun c5 => ?_)
    · replace hf := it_p c5 hf
      refine lv_iconst (v := 0) hx hb dX5_control_34 (by decide) ?_
      obtain ⟨rfl, rfl⟩ := so2 hf
      exact hret _ _ _ _ dX5_control_35 rfl hP hD hS
    · replace hf := it_n c5 hf
      refine lv_aload_n hx hb dX5_control_21 rfl (lv_at hl 0 rfl) ?_
      refine lv_aload_n hx hb dX5_control_22 rfl (lv_at hl 0 rfl) ?_
      refine lv_iload_n hx hb dX5_control_23 rfl (lv_at hl 1 rfl) ?_
      obtain ⟨v6, ev6, hf⟩ := bd_ob hf
      refine call_i (As := [.int l1]) (rest := [.ref (Ad 0)]) ⟨hx, hb, hml, hown, hts⟩ (tX5_tableOf l D ca Ad _ s4 l1 v6 ev6) (cwV 1 hts gX5_control_X5_tableOf rfl rfl rfl (by decide +kernel) ⟨Nat.le_of_ble_eq_true rfl, Nat.le_of_ble_eq_true rfl⟩) hN hK hP hD hA hS (fr_id _ _) rfl rfl rfl hl.1 rfl (lv_room (Nat.le_of_ble_eq_true rfl)) dX5_control_24 ⟨Nat.le_refl _, Nat.le_refl _⟩ (fun H locs hP hD hS => ?_)
      refine lv_iload_n hx hb dX5_control_27 rfl (lv_at hl 2 rfl) ?_
      obtain ⟨v7, ev7, hf⟩ := bd_ob hf
      refine call_i (As := [.int v6, .int l2]) (rest := []) ⟨hx, hb, hml, hown, hts⟩ (tX5_controlOf l D ca Ad _ s4 v6 l2 v7 ev7) (cwV 2 hts gX5_control_X5_controlOf rfl rfl rfl (by decide +kernel) ⟨Nat.le_of_ble_eq_true rfl, Nat.le_of_ble_eq_true rfl⟩) hN hK hP hD hA hS (fr_id _ _) rfl rfl rfl hl.1 rfl (lv_room (Nat.le_of_ble_eq_true rfl)) dX5_control_28 ⟨Nat.le_refl _, Nat.le_refl _⟩ (fun H locs hP hD hS => ?_)
      refine lv_goto (tgt := 35) hx hb dX5_control_31 (by decide) ?_
      obtain ⟨g8, hf⟩ := gn_ob hf
      obtain ⟨rfl, rfl⟩ := so2 hf
      exact hret _ _ _ _ dX5_control_35 (nr_b g8) hP hD hS
  unfold mm_control at hf
  refine lv_aload_n hx hb dX5_control_0 rfl (lv_at hl 0 rfl) ?_
  refine lv_aload_n hx hb dX5_control_1 rfl (lv_at hl 0 rfl) ?_
  refine lv_iload_n hx hb dX5_control_2 rfl (lv_at hl 1 rfl) ?_
  refine lv_iload_n hx hb dX5_control_3 rfl (lv_at hl 2 rfl) ?_
  obtain ⟨v1, ev1, hf⟩ := bd_ob hf
  refine call_i (As := [.int a0, .int a1]) (rest := [.ref (Ad 0)]) ⟨hx, hb, hml, hown, hts⟩ (tX5_isSlot l D ca Ad _ σ a0 a1 v1 ev1) (cwV 2 hts gX5_control_X5_isSlot rfl rfl rfl (by decide +kernel) ⟨Nat.le_of_ble_eq_true rfl, Nat.le_of_ble_eq_true rfl⟩) hN hK hP hD hA hS (fr_id _ _) rfl rfl rfl hl.1 rfl (lv_room (Nat.le_of_ble_eq_true rfl)) dX5_control_4 ⟨Nat.le_refl _, Nat.le_refl _⟩ (fun H locs hP hD hS => ?_)
  refine lv_if_eq (tgt := 14) hx hb dX5_control_7 (by decide) (fun c2 => ?_) (fun c2 => ?_)
  · replace hf := it_p c2 hf
    refine lv_iconst (v := 1) hx hb dX5_control_14 (by decide) ?_
    exact J15 _ _ _ _ _ _ _ hf hP hD hS (lv_sub hl [0, 1, 2] rfl)
  · replace hf := it_n c2 hf
    refine lv_iconst (v := 0) hx hb dX5_control_10 (by decide) ?_
    refine lv_goto (tgt := 15) hx hb dX5_control_11 (by decide) ?_
    exact J15 _ _ _ _ _ _ _ hf hP hD hS (lv_sub hl [0, 1, 2] rfl)

def mm_keyAt_40   (σ : MS) (l3 : Int32) (t1 : Int32) : Option (Int32 × MS) :=
  bd2 (mm_isFine σ t1) fun v7 s8 =>
  if v7 = 0 then
    some (0, s8)
  else
    gd l3 512 <|
    some ((m_keys s8 l3.toNatClampNeg), s8)
def mm_keyAt  (σ : MS) (a0 : Int32) (a1 : Int32) : Option (Int32 × MS) :=
  bd (mm_tableOf σ a0) fun v1 =>
  nm ((256 * v1) + a1) fun v2 =>
  bd (mm_isSlot σ a0 a1) fun v3 =>
  if v3 = 0 then
    mm_keyAt_40 σ v2 1
  else
    gd v2 512 <|
    if (m_full σ v2.toNatClampNeg) = 0 then
      mm_keyAt_40 σ v2 2
    else
      mm_keyAt_40 σ v2 0
set_option maxHeartbeats 4000000 in
set_option maxRecDepth 100000 in
theorem tX5_keyAt (l : Launch) (D : va_G) (ca : Nat → ClassId) (Ad : Nat → Nat) (sz : Nat)  (σ : MS) (a0 : Int32) (a1 : Int32) (r : Int32) (σ9 : MS) (hf : mm_keyAt σ a0 a1 = some (r, σ9)) : Ci l D ca yX5_keyAt wsX5_keyAt { frames := 2, cells := 0, slots := 0, locals := 44 } [.ref (Ad 0), .int a0, .int a1] (wM ca Ad σ) sz r (wM ca Ad σ9) := by
  refine body_of (cc := cX5_keyAt) (maxL := 4) (ret := (some .int)) (fun A => Qi D ca r (wM ca Ad σ9) A) (by decide) rfl (Nat.le_of_ble_eq_true rfl) ?_
  intro p e s m below meth c A ls hx hb hr hml hts hown hlocks hA hK hP hD hS hl hN
  have hl : lv_has ls 4 [(0, .ref (Ad 0)), (1, .int a0), (2, .int a1)] := hl
  have hret : ∀ (pc : Nat) (ls : Array Slot) (H : Heap) (locs : List Loc), decode cX5_keyAt pc = .ok (.ireturn, 1) → va_P D vwCl (wM ca Ad σ9) H → va_D A (wM ca Ad σ9) → va_S A s.heap H locs → W p l e { frames := 2, cells := 0, slots := 0, locals := 44 } s m ([.ref (Ad 0), .int a0, .int a1] : List Value).toArray below meth c H locs 0 0 (MQ below (Qi D ca r (wM ca Ad σ9) A) ([.ref (Ad 0), .int a0, .int a1] : List Value).toArray s 0 0 A) (F0 m pc ls [.int r]) := fun pc ls H locs hd hP hD hS => ret_i hx hb hr hlocks hK hP hD hS hd
  generalize MQ below (Qi D ca r (wM ca Ad σ9) A) ([.ref (Ad 0), .int a0, .int a1] : List Value).toArray s 0 0 A = Q at hret ⊢
  generalize ([.ref (Ad 0), .int a0, .int a1] : List Value).toArray = args at hts hret ⊢
  have f16 := hts (.fieldLink RX5 16 "RobinRowModel" "isFull" "[Z") (by decide +kernel)
  have f7 := hts (.fieldLink RX5 7 "RobinRowModel" "keys" "[I") (by decide +kernel)
  have in5 : ∀ w ∈ u_ws RX5 TX5 17, w ∈ wsX5_keyAt := by decide +kernel
  have J40 : ∀ (H : Heap) (locs : List Loc) (ls : Array Slot) (σ : MS) (l3 : Int32) (t1 : Int32), mm_keyAt_40  σ l3 t1 = some (r, σ9) → va_P D vwCl (wM ca Ad σ) H → va_D A (wM ca Ad σ) → va_S A s.heap H locs → lv_has ls 4 [(0, .ref (Ad 0)), (3, .int l3)] → W p l e { frames := 2, cells := 0, slots := 0, locals := 44 } s m args below meth c H locs 0 0 Q (F0 m 40 ls [.int t1, .ref (Ad 0)]) := by
    intro H locs ls σ l3 t1 hf hP hD hS hl
    unfold mm_keyAt_40 at hf
    obtain ⟨v7, s8, ev7, hf⟩ := bd2_ob hf
    refine call_i (As := [.int t1]) (rest := []) ⟨hx, hb, hml, hown, hts⟩ (tX5_isFine l D ca Ad _ σ t1 v7 s8 ev7) (cwV 1 hts gX5_keyAt_X5_isFine rfl rfl rfl (by decide +kernel) ⟨Nat.le_of_ble_eq_true rfl, Nat.le_of_ble_eq_true rfl⟩) hN hK hP hD hA hS (fr_id _ _) rfl rfl rfl hl.1 rfl (lv_room (Nat.le_of_ble_eq_true rfl)) dX5_keyAt_40 ⟨Nat.le_refl _, Nat.le_refl _⟩ (fun H locs hP hD hS => ?_)
    refine lv_if_eq (tgt := 55) hx hb dX5_keyAt_43 (by decide) (fun c9 => ?_) (fun c9 => ?_)
    · replace hf := it_p c9 hf
      refine lv_iconst (v := 0) hx hb dX5_keyAt_55 (by decide) ?_
      obtain ⟨rfl, rfl⟩ := so2 hf
      exact hret _ _ _ _ dX5_keyAt_56 hP hD hS
    · replace hf := it_n c9 hf
      refine lv_aload_n hx hb dX5_keyAt_46 rfl (lv_at hl 0 rfl) ?_
      refine va_get (D := D) (ci := 5) (v := .ref (Ad 1)) (C := RX5) (T := TX5) (N := 17) hx hb hts in5 hown hK hP 0 rfl rfl 0 (by decide) f7 (fun _ h9 => h9) rfl dX5_keyAt_47 ?_
      refine lv_iload_n hx hb dX5_keyAt_50 rfl (lv_at hl 1 rfl) ?_
      obtain ⟨g10, hf⟩ := gd_ob hf
      refine va_iald hx hb hK hP 1 0 rfl rfl g10 dX5_keyAt_51 ?_
      refine lv_goto (tgt := 56) hx hb dX5_keyAt_52 (by decide) ?_
      obtain ⟨rfl, rfl⟩ := so2 hf
      exact hret _ _ _ _ dX5_keyAt_56 hP hD hS
  unfold mm_keyAt at hf
  refine lv_sipush (v := 256) hx hb dX5_keyAt_0 (by decide) ?_
  refine lv_aload_n hx hb dX5_keyAt_3 rfl (lv_at hl 0 rfl) ?_
  refine lv_iload_n hx hb dX5_keyAt_4 rfl (lv_at hl 1 rfl) ?_
  obtain ⟨v1, ev1, hf⟩ := bd_ob hf
  refine call_i (As := [.int a0]) (rest := [.int 256]) ⟨hx, hb, hml, hown, hts⟩ (tX5_tableOf l D ca Ad _ σ a0 v1 ev1) (cwV 1 hts gX5_keyAt_X5_tableOf rfl rfl rfl (by decide +kernel) ⟨Nat.le_of_ble_eq_true rfl, Nat.le_of_ble_eq_true rfl⟩) hN hK hP hD hA hS (fr_id _ _) rfl rfl rfl hl.1 rfl (lv_room (Nat.le_of_ble_eq_true rfl)) dX5_keyAt_5 ⟨Nat.le_refl _, Nat.le_refl _⟩ (fun H locs hP hD hS => ?_)
  refine lv_imul hx hb dX5_keyAt_8 ?_
  refine lv_iload_n hx hb dX5_keyAt_9 rfl (lv_at hl 2 rfl) ?_
  refine lv_iadd hx hb dX5_keyAt_10 ?_
  obtain ⟨v2, ev2, hf⟩ := nm_ob hf
  refine tp_i ev2 ?_
  refine lv_istore_n (lv' := [(3, .int v2), (0, .ref (Ad 0)), (1, .int a0), (2, .int a1)]) hx hb dX5_keyAt_11 rfl hl (by decide) rfl (fun ls hl => ?_)
  refine lv_aload_n hx hb dX5_keyAt_12 rfl (lv_at hl 1 rfl) ?_
  refine lv_aload_n hx hb dX5_keyAt_13 rfl (lv_at hl 1 rfl) ?_
  refine lv_iload_n hx hb dX5_keyAt_14 rfl (lv_at hl 2 rfl) ?_
  refine lv_iload_n hx hb dX5_keyAt_15 rfl (lv_at hl 3 rfl) ?_
  obtain ⟨v3, ev3, hf⟩ := bd_ob hf
  refine call_i (As := [.int a0, .int a1]) (rest := [.ref (Ad 0)]) ⟨hx, hb, hml, hown, hts⟩ (tX5_isSlot l D ca Ad _ σ a0 a1 v3 ev3) (cwV 2 hts gX5_keyAt_X5_isSlot rfl rfl rfl (by decide +kernel) ⟨Nat.le_of_ble_eq_true rfl, Nat.le_of_ble_eq_true rfl⟩) hN hK hP hD hA hS (fr_id _ _) rfl rfl rfl hl.1 rfl (lv_room (Nat.le_of_ble_eq_true rfl)) dX5_keyAt_16 ⟨Nat.le_refl _, Nat.le_refl _⟩ (fun H locs hP hD hS => ?_)
  refine lv_if_ne (tgt := 26) hx hb dX5_keyAt_19 (by decide) (fun c4 => ?_) (fun c4 => ?_)
  · replace hf := it_n c4 hf
    refine lv_aload_n hx hb dX5_keyAt_26 rfl (lv_at hl 1 rfl) ?_
    refine va_get (D := D) (ci := 5) (v := .ref (Ad 3)) (C := RX5) (T := TX5) (N := 17) hx hb hts in5 hown hK hP 0 rfl rfl 2 (by decide) f16 (fun _ h9 => h9) rfl dX5_keyAt_27 ?_
    refine lv_iload_n hx hb dX5_keyAt_30 rfl (lv_at hl 0 rfl) ?_
    obtain ⟨g5, hf⟩ := gd_ob hf
    refine va_zald hx hb hK hP 3 2 rfl rfl g5 dX5_keyAt_31 ?_
    refine lv_if_ne (tgt := 39) hx hb dX5_keyAt_32 (by decide) (fun c6 => ?_) (fun c6 => ?_)
    · replace hf := it_n c6 hf
      refine lv_iconst (v := 0) hx hb dX5_keyAt_39 (by decide) ?_
      exact J40 _ _ _ _ _ _ hf hP hD hS (lv_sub hl [1, 0] rfl)
    · replace hf := it_p c6 hf
      refine lv_iconst (v := 2) hx hb dX5_keyAt_35 (by decide) ?_
      refine lv_goto (tgt := 40) hx hb dX5_keyAt_36 (by decide) ?_
      exact J40 _ _ _ _ _ _ hf hP hD hS (lv_sub hl [1, 0] rfl)
  · replace hf := it_p c4 hf
    refine lv_iconst (v := 1) hx hb dX5_keyAt_22 (by decide) ?_
    refine lv_goto (tgt := 40) hx hb dX5_keyAt_23 (by decide) ?_
    exact J40 _ _ _ _ _ _ hf hP hD hS (lv_sub hl [1, 0] rfl)

def mm_distanceAt_15   (σ : MS) (l1 : Int32) (l2 : Int32) (t1 : Int32) : Option (Int32 × MS) :=
  bd2 (mm_isFine σ t1) fun v3 s4 =>
  if v3 = 0 then
    some (0, s4)
  else
    bd (mm_tableOf s4 l1) fun v6 =>
    gd ((256 * v6) + l2) 512 <|
    if (m_full s4 ((256 * v6) + l2).toNatClampNeg) = 0 then
      some ((-1), s4)
    else
      bd (mm_distance s4 v6 l2) fun v9 =>
      some (v9, s4)
def mm_distanceAt  (σ : MS) (a0 : Int32) (a1 : Int32) : Option (Int32 × MS) :=
  bd (mm_isSlot σ a0 a1) fun v1 =>
  if v1 = 0 then
    mm_distanceAt_15 σ a0 a1 1
  else
    mm_distanceAt_15 σ a0 a1 0
set_option maxHeartbeats 4000000 in
set_option maxRecDepth 100000 in
theorem tX5_distanceAt (l : Launch) (D : va_G) (ca : Nat → ClassId) (Ad : Nat → Nat) (sz : Nat)  (σ : MS) (a0 : Int32) (a1 : Int32) (r : Int32) (σ9 : MS) (hf : mm_distanceAt σ a0 a1 = some (r, σ9)) : Ci l D ca yX5_distanceAt wsX5_distanceAt { frames := 3, cells := 0, slots := 0, locals := 66 } [.ref (Ad 0), .int a0, .int a1] (wM ca Ad σ) sz r (wM ca Ad σ9) := by
  refine body_of (cc := cX5_distanceAt) (maxL := 4) (ret := (some .int)) (fun A => Qi D ca r (wM ca Ad σ9) A) (by decide) rfl (Nat.le_of_ble_eq_true rfl) ?_
  intro p e s m below meth c A ls hx hb hr hml hts hown hlocks hA hK hP hD hS hl hN
  have hl : lv_has ls 4 [(0, .ref (Ad 0)), (1, .int a0), (2, .int a1)] := hl
  have hret : ∀ (pc : Nat) (ls : Array Slot) (H : Heap) (locs : List Loc), decode cX5_distanceAt pc = .ok (.ireturn, 1) → va_P D vwCl (wM ca Ad σ9) H → va_D A (wM ca Ad σ9) → va_S A s.heap H locs → W p l e { frames := 3, cells := 0, slots := 0, locals := 66 } s m ([.ref (Ad 0), .int a0, .int a1] : List Value).toArray below meth c H locs 0 0 (MQ below (Qi D ca r (wM ca Ad σ9) A) ([.ref (Ad 0), .int a0, .int a1] : List Value).toArray s 0 0 A) (F0 m pc ls [.int r]) := fun pc ls H locs hd hP hD hS => ret_i hx hb hr hlocks hK hP hD hS hd
  generalize MQ below (Qi D ca r (wM ca Ad σ9) A) ([.ref (Ad 0), .int a0, .int a1] : List Value).toArray s 0 0 A = Q at hret ⊢
  generalize ([.ref (Ad 0), .int a0, .int a1] : List Value).toArray = args at hts hret ⊢
  have f16 := hts (.fieldLink RX5 16 "RobinRowModel" "isFull" "[Z") (by decide +kernel)
  have in5 : ∀ w ∈ u_ws RX5 TX5 17, w ∈ wsX5_distanceAt := by decide +kernel
  have J15 : ∀ (H : Heap) (locs : List Loc) (ls : Array Slot) (σ : MS) (l1 : Int32) (l2 : Int32) (t1 : Int32), mm_distanceAt_15  σ l1 l2 t1 = some (r, σ9) → va_P D vwCl (wM ca Ad σ) H → va_D A (wM ca Ad σ) → va_S A s.heap H locs → lv_has ls 4 [(0, .ref (Ad 0)), (1, .int l1), (2, .int l2)] → W p l e { frames := 3, cells := 0, slots := 0, locals := 66 } s m args below meth c H locs 0 0 Q (F0 m 15 ls [.int t1, .ref (Ad 0)]) := by
    intro H locs ls σ l1 l2 t1 hf hP hD hS hl
    unfold mm_distanceAt_15 at hf
    obtain ⟨v3, s4, ev3, hf⟩ := bd2_ob hf
    refine call_i (As := [.int t1]) (rest := []) ⟨hx, hb, hml, hown, hts⟩ (tX5_isFine l D ca Ad _ σ t1 v3 s4 ev3) (cwV 1 hts gX5_distanceAt_X5_isFine rfl rfl rfl (by decide +kernel) ⟨Nat.le_of_ble_eq_true rfl, Nat.le_of_ble_eq_true rfl⟩) hN hK hP hD hA hS (fr_id _ _) rfl rfl rfl hl.1 rfl (lv_room (Nat.le_of_ble_eq_true rfl)) dX5_distanceAt_15 ⟨Nat.le_refl _, Nat.le_refl _⟩ (fun H locs hP hD hS => ?_)
    refine lv_if_ne (tgt := 23) hx hb dX5_distanceAt_18 (by decide) (fun c5 => ?_) (fun c5 => ?_)
    · replace hf := it_n c5 hf
      refine lv_aload_n hx hb dX5_distanceAt_23 rfl (lv_at hl 0 rfl) ?_
      refine lv_iload_n hx hb dX5_distanceAt_24 rfl (lv_at hl 1 rfl) ?_
      obtain ⟨v6, ev6, hf⟩ := bd_ob hf
      refine call_i (As := [.int l1]) (rest := []) ⟨hx, hb, hml, hown, hts⟩ (tX5_tableOf l D ca Ad _ s4 l1 v6 ev6) (cwV 1 hts gX5_distanceAt_X5_tableOf rfl rfl rfl (by decide +kernel) ⟨Nat.le_of_ble_eq_true rfl, Nat.le_of_ble_eq_true rfl⟩) hN hK hP hD hA hS (fr_id _ _) rfl rfl rfl hl.1 rfl (lv_room (Nat.le_of_ble_eq_true rfl)) dX5_distanceAt_25 ⟨Nat.le_refl _, Nat.le_refl _⟩ (fun H locs hP hD hS => ?_)
      refine lv_istore_n (lv' := [(3, .int v6), (0, .ref (Ad 0)), (1, .int l1), (2, .int l2)]) hx hb dX5_distanceAt_28 rfl hl (by decide) rfl (fun ls hl => ?_)
      refine lv_aload_n hx hb dX5_distanceAt_29 rfl (lv_at hl 1 rfl) ?_
      refine va_get (D := D) (ci := 5) (v := .ref (Ad 3)) (C := RX5) (T := TX5) (N := 17) hx hb hts in5 hown hK hP 0 rfl rfl 2 (by decide) f16 (fun _ h9 => h9) rfl dX5_distanceAt_30 ?_
      refine lv_sipush (v := 256) hx hb dX5_distanceAt_33 (by decide) ?_
      refine lv_iload_n hx hb dX5_distanceAt_36 rfl (lv_at hl 0 rfl) ?_
      refine lv_imul hx hb dX5_distanceAt_37 ?_
      refine lv_iload_n hx hb dX5_distanceAt_38 rfl (lv_at hl 3 rfl) ?_
      refine lv_iadd hx hb dX5_distanceAt_39 ?_
      obtain ⟨g7, hf⟩ := gd_ob hf
      refine va_zald hx hb hK hP 3 2 rfl rfl g7 dX5_distanceAt_40 ?_
      refine lv_if_eq (tgt := 53) hx hb dX5_distanceAt_41 (by decide) (fun c8 => ?_) (fun c8 => ?_)
      · replace hf := it_p c8 hf
        refine lv_iconst (v := (-1)) hx hb dX5_distanceAt_53 (by decide) ?_
        obtain ⟨rfl, rfl⟩ := so2 hf
        exact hret _ _ _ _ dX5_distanceAt_54 hP hD hS
      · replace hf := it_n c8 hf
        refine lv_aload_n hx hb dX5_distanceAt_44 rfl (lv_at hl 1 rfl) ?_
        refine lv_iload_n hx hb dX5_distanceAt_45 rfl (lv_at hl 0 rfl) ?_
        refine lv_iload_n hx hb dX5_distanceAt_46 rfl (lv_at hl 3 rfl) ?_
        obtain ⟨v9, ev9, hf⟩ := bd_ob hf
        refine call_i (As := [.int v6, .int l2]) (rest := []) ⟨hx, hb, hml, hown, hts⟩ (tX5_distance l D ca Ad _ s4 v6 l2 v9 ev9) (cwV 2 hts gX5_distanceAt_X5_distance rfl rfl rfl (by decide +kernel) ⟨Nat.le_of_ble_eq_true rfl, Nat.le_of_ble_eq_true rfl⟩) hN hK hP hD hA hS (fr_id _ _) rfl rfl rfl hl.1 rfl (lv_room (Nat.le_of_ble_eq_true rfl)) dX5_distanceAt_47 ⟨Nat.le_refl _, Nat.le_refl _⟩ (fun H locs hP hD hS => ?_)
        refine lv_goto (tgt := 54) hx hb dX5_distanceAt_50 (by decide) ?_
        obtain ⟨rfl, rfl⟩ := so2 hf
        exact hret _ _ _ _ dX5_distanceAt_54 hP hD hS
    · replace hf := it_p c5 hf
      refine lv_iconst (v := 0) hx hb dX5_distanceAt_21 (by decide) ?_
      obtain ⟨rfl, rfl⟩ := so2 hf
      exact hret _ _ _ _ dX5_distanceAt_22 hP hD hS
  unfold mm_distanceAt at hf
  refine lv_aload_n hx hb dX5_distanceAt_0 rfl (lv_at hl 0 rfl) ?_
  refine lv_aload_n hx hb dX5_distanceAt_1 rfl (lv_at hl 0 rfl) ?_
  refine lv_iload_n hx hb dX5_distanceAt_2 rfl (lv_at hl 1 rfl) ?_
  refine lv_iload_n hx hb dX5_distanceAt_3 rfl (lv_at hl 2 rfl) ?_
  obtain ⟨v1, ev1, hf⟩ := bd_ob hf
  refine call_i (As := [.int a0, .int a1]) (rest := [.ref (Ad 0)]) ⟨hx, hb, hml, hown, hts⟩ (tX5_isSlot l D ca Ad _ σ a0 a1 v1 ev1) (cwV 2 hts gX5_distanceAt_X5_isSlot rfl rfl rfl (by decide +kernel) ⟨Nat.le_of_ble_eq_true rfl, Nat.le_of_ble_eq_true rfl⟩) hN hK hP hD hA hS (fr_id _ _) rfl rfl rfl hl.1 rfl (lv_room (Nat.le_of_ble_eq_true rfl)) dX5_distanceAt_4 ⟨Nat.le_refl _, Nat.le_refl _⟩ (fun H locs hP hD hS => ?_)
  refine lv_if_eq (tgt := 14) hx hb dX5_distanceAt_7 (by decide) (fun c2 => ?_) (fun c2 => ?_)
  · replace hf := it_p c2 hf
    refine lv_iconst (v := 1) hx hb dX5_distanceAt_14 (by decide) ?_
    exact J15 _ _ _ _ _ _ _ hf hP hD hS (lv_sub hl [0, 1, 2] rfl)
  · replace hf := it_n c2 hf
    refine lv_iconst (v := 0) hx hb dX5_distanceAt_10 (by decide) ?_
    refine lv_goto (tgt := 15) hx hb dX5_distanceAt_11 (by decide) ?_
    exact J15 _ _ _ _ _ _ _ hf hP hD hS (lv_sub hl [0, 1, 2] rfl)

def mm_longest_66  (k9 : MS → Int32 → Int32 → Option (Int32 × MS)) (σ : MS) (l2 : Int32) (t0 : Int32) : Option (Int32 × MS) :=
  nm (l2 + 1) fun v9 =>
  k9 σ t0 v9
def mm_longest_9  (k9 : MS → Int32 → Int32 → Option (Int32 × MS)) (σ : MS) (l1 : Int32) (l2 : Int32) : Option (Int32 × MS) :=
  gd (m_present σ) 2 <|
  if (m_slots σ (m_present σ).toNatClampNeg) ≤ l2 then
    some (l1, σ)
  else
    gd ((256 * (m_present σ)) + l2) 512 <|
    if (m_full σ ((256 * (m_present σ)) + l2).toNatClampNeg) = 0 then
      mm_longest_66 k9 σ l2 l1
    else
      bd (mm_distance σ (m_present σ) l2) fun v6 =>
      if v6 ≤ l1 then
        mm_longest_66 k9 σ l2 l1
      else
        bd (mm_distance σ (m_present σ) l2) fun v8 =>
        mm_longest_66 k9 σ l2 v8
def mm_longest_lp9   : Nat → MS → Int32 → Int32 → Option (Int32 × MS) := itF (fun _ _ _ => none) (fun k => mm_longest_9   k)
def mm_longest  (σ : MS)  : Option (Int32 × MS) :=
  nm (m_thrown' σ 0) fun s1 =>
  mm_longest_lp9 FU s1 (-1) 0
set_option maxHeartbeats 4000000 in
set_option maxRecDepth 100000 in
theorem tX5_longest (l : Launch) (D : va_G) (ca : Nat → ClassId) (Ad : Nat → Nat) (sz : Nat)  (σ : MS)  (r : Int32) (σ9 : MS) (hf : mm_longest σ = some (r, σ9)) : Ci l D ca yX5_longest wsX5_longest { frames := 3, cells := 0, slots := 0, locals := 66 } [.ref (Ad 0)] (wM ca Ad σ) sz r (wM ca Ad σ9) := by
  refine body_of (cc := cX5_longest) (maxL := 3) (ret := (some .int)) (fun A => Qi D ca r (wM ca Ad σ9) A) (by decide) rfl (Nat.le_of_ble_eq_true rfl) ?_
  intro p e s m below meth c A ls hx hb hr hml hts hown hlocks hA hK hP hD hS hl hN
  have hl : lv_has ls 3 [(0, .ref (Ad 0))] := hl
  have hret : ∀ (pc : Nat) (ls : Array Slot) (H : Heap) (locs : List Loc), decode cX5_longest pc = .ok (.ireturn, 1) → va_P D vwCl (wM ca Ad σ9) H → va_D A (wM ca Ad σ9) → va_S A s.heap H locs → W p l e { frames := 3, cells := 0, slots := 0, locals := 66 } s m ([.ref (Ad 0)] : List Value).toArray below meth c H locs 0 0 (MQ below (Qi D ca r (wM ca Ad σ9) A) ([.ref (Ad 0)] : List Value).toArray s 0 0 A) (F0 m pc ls [.int r]) := fun pc ls H locs hd hP hD hS => ret_i hx hb hr hlocks hK hP hD hS hd
  generalize MQ below (Qi D ca r (wM ca Ad σ9) A) ([.ref (Ad 0)] : List Value).toArray s 0 0 A = Q at hret ⊢
  generalize ([.ref (Ad 0)] : List Value).toArray = args at hts hret ⊢
  have f16 := hts (.fieldLink RX5 16 "RobinRowModel" "isFull" "[Z") (by decide +kernel)
  have f20 := hts (.fieldLink RX5 20 "RobinRowModel" "slots" "[I") (by decide +kernel)
  have f49 := hts (.fieldLink RX5 49 "RobinRowModel" "thrown" "I") (by decide +kernel)
  have f64 := hts (.fieldLink RX5 64 "RobinRowModel" "present" "I") (by decide +kernel)
  have in5 : ∀ w ∈ u_ws RX5 TX5 17, w ∈ wsX5_longest := by decide +kernel
  have J9 : ∀ (n9 : Nat) (H : Heap) (locs : List Loc) (ls : Array Slot) (σ : MS) (l1 : Int32) (l2 : Int32), mm_longest_lp9  n9 σ l1 l2 = some (r, σ9) → va_P D vwCl (wM ca Ad σ) H → va_D A (wM ca Ad σ) → va_S A s.heap H locs → lv_has ls 3 [(0, .ref (Ad 0)), (1, .int l1), (2, .int l2)] → W p l e { frames := 3, cells := 0, slots := 0, locals := 66 } s m args below meth c H locs 0 0 Q (F0 m 9 ls []) := by
    intro n9
    induction n9 with
    | zero =>
      intro H locs ls σ l1 l2 hf hP hD hS hl
      exact absurd hf (fun h => by cases h)
    | succ n9 ih9 =>
      have J66 : ∀ (H : Heap) (locs : List Loc) (ls : Array Slot) (σ : MS) (l2 : Int32) (t0 : Int32), mm_longest_66 (mm_longest_lp9  n9) σ l2 t0 = some (r, σ9) → va_P D vwCl (wM ca Ad σ) H → va_D A (wM ca Ad σ) → va_S A s.heap H locs → lv_has ls 3 [(0, .ref (Ad 0)), (2, .int l2)] → W p l e { frames := 3, cells := 0, slots := 0, locals := 66 } s m args below meth c H locs 0 0 Q (F0 m 66 ls [.int t0]) := by
        intro H locs ls σ l2 t0 hf hP hD hS hl
        unfold mm_longest_66 at hf
        refine lv_istore_n (lv' := [(1, .int t0), (0, .ref (Ad 0)), (2, .int l2)]) hx hb dX5_longest_66 rfl hl (by decide) rfl (fun ls hl => ?_)
        obtain ⟨v9, ev9, hf⟩ := nm_ob hf
        refine lv_iinc (v := v9) (lv' := [(2, .int v9), (1, .int t0), (0, .ref (Ad 0))]) hx hb dX5_longest_67 hl (k := 2) rfl (by rw [← ev9]; rfl) (by decide) rfl (fun ls hl => ?_)
        refine lv_goto (tgt := 9) hx hb dX5_longest_70 (by decide) ?_
        exact ih9 _ _ _ _ _ _ hf hP hD hS (lv_sub hl [2, 1, 0] rfl)
      intro H locs ls σ l1 l2 hf hP hD hS hl
      replace hf : mm_longest_9  (mm_longest_lp9  n9) σ l1 l2 = some (r, σ9) := hf
      unfold mm_longest_9 at hf
      refine lv_iload_n hx hb dX5_longest_9 rfl (lv_at hl 2 rfl) ?_
      refine lv_aload_n hx hb dX5_longest_10 rfl (lv_at hl 0 rfl) ?_
      refine va_get (D := D) (ci := 5) (v := .ref (Ad 4)) (C := RX5) (T := TX5) (N := 17) hx hb hts in5 hown hK hP 0 rfl rfl 3 (by decide) f20 (fun _ h9 => h9) rfl dX5_longest_11 ?_
      refine lv_aload_n hx hb dX5_longest_14 rfl (lv_at hl 0 rfl) ?_
      refine va_get (D := D) (ci := 5) (v := .int (m_present σ)) (C := RX5) (T := TX5) (N := 17) hx hb hts in5 hown hK hP 0 rfl rfl 5 (by decide) f64 (fun _ h9 => h9) rfl dX5_longest_15 ?_
      obtain ⟨g2, hf⟩ := gd_ob hf
      refine va_iald hx hb hK hP 4 0 rfl rfl g2 dX5_longest_18 ?_
      refine lv_icmp_ge (tgt := 73) hx hb dX5_longest_19 (by decide) (fun c3 => ?_) (fun c3 => ?_)
      · replace hf := it_p c3 hf
        refine lv_iload_n hx hb dX5_longest_73 rfl (lv_at hl 1 rfl) ?_
        obtain ⟨rfl, rfl⟩ := so2 hf
        exact hret _ _ _ _ dX5_longest_74 hP hD hS
      · replace hf := it_n c3 hf
        refine lv_aload_n hx hb dX5_longest_22 rfl (lv_at hl 0 rfl) ?_
        refine va_get (D := D) (ci := 5) (v := .ref (Ad 3)) (C := RX5) (T := TX5) (N := 17) hx hb hts in5 hown hK hP 0 rfl rfl 2 (by decide) f16 (fun _ h9 => h9) rfl dX5_longest_23 ?_
        refine lv_sipush (v := 256) hx hb dX5_longest_26 (by decide) ?_
        refine lv_aload_n hx hb dX5_longest_29 rfl (lv_at hl 0 rfl) ?_
        refine va_get (D := D) (ci := 5) (v := .int (m_present σ)) (C := RX5) (T := TX5) (N := 17) hx hb hts in5 hown hK hP 0 rfl rfl 5 (by decide) f64 (fun _ h9 => h9) rfl dX5_longest_30 ?_
        refine lv_imul hx hb dX5_longest_33 ?_
        refine lv_iload_n hx hb dX5_longest_34 rfl (lv_at hl 2 rfl) ?_
        refine lv_iadd hx hb dX5_longest_35 ?_
        obtain ⟨g4, hf⟩ := gd_ob hf
        refine va_zald hx hb hK hP 3 2 rfl rfl g4 dX5_longest_36 ?_
        refine lv_if_eq (tgt := 65) hx hb dX5_longest_37 (by decide) (fun c5 => ?_) (fun c5 => ?_)
        · replace hf := it_p c5 hf
          refine lv_iload_n hx hb dX5_longest_65 rfl (lv_at hl 1 rfl) ?_
          exact J66 _ _ _ _ _ _ hf hP hD hS (lv_sub hl [0, 2] rfl)
        · replace hf := it_n c5 hf
          refine lv_aload_n hx hb dX5_longest_40 rfl (lv_at hl 0 rfl) ?_
          refine lv_aload_n hx hb dX5_longest_41 rfl (lv_at hl 0 rfl) ?_
          refine va_get (D := D) (ci := 5) (v := .int (m_present σ)) (C := RX5) (T := TX5) (N := 17) hx hb hts in5 hown hK hP 0 rfl rfl 5 (by decide) f64 (fun _ h9 => h9) rfl dX5_longest_42 ?_
          refine lv_iload_n hx hb dX5_longest_45 rfl (lv_at hl 2 rfl) ?_
          obtain ⟨v6, ev6, hf⟩ := bd_ob hf
          refine call_i (As := [.int (m_present σ), .int l2]) (rest := []) ⟨hx, hb, hml, hown, hts⟩ (tX5_distance l D ca Ad _ σ (m_present σ) l2 v6 ev6) (cwV 2 hts gX5_longest_X5_distance rfl rfl rfl (by decide +kernel) ⟨Nat.le_of_ble_eq_true rfl, Nat.le_of_ble_eq_true rfl⟩) hN hK hP hD hA hS (fr_id _ _) rfl rfl rfl hl.1 rfl (lv_room (Nat.le_of_ble_eq_true rfl)) dX5_longest_46 ⟨Nat.le_refl _, Nat.le_refl _⟩ (fun H locs hP hD hS => ?_)
          refine lv_iload_n hx hb dX5_longest_49 rfl (lv_at hl 1 rfl) ?_
          refine lv_icmp_le (tgt := 65) hx hb dX5_longest_50 (by decide) (fun c7 => ?_) (fun c7 => ?_)
          · replace hf := it_p c7 hf
            refine lv_iload_n hx hb dX5_longest_65 rfl (lv_at hl 1 rfl) ?_
            exact J66 _ _ _ _ _ _ hf hP hD hS (lv_sub hl [0, 2] rfl)
          · replace hf := it_n c7 hf
            refine lv_aload_n hx hb dX5_longest_53 rfl (lv_at hl 0 rfl) ?_
            refine lv_aload_n hx hb dX5_longest_54 rfl (lv_at hl 0 rfl) ?_
            refine va_get (D := D) (ci := 5) (v := .int (m_present σ)) (C := RX5) (T := TX5) (N := 17) hx hb hts in5 hown hK hP 0 rfl rfl 5 (by decide) f64 (fun _ h9 => h9) rfl dX5_longest_55 ?_
            refine lv_iload_n hx hb dX5_longest_58 rfl (lv_at hl 2 rfl) ?_
            obtain ⟨v8, ev8, hf⟩ := bd_ob hf
            refine call_i (As := [.int (m_present σ), .int l2]) (rest := []) ⟨hx, hb, hml, hown, hts⟩ (tX5_distance l D ca Ad _ σ (m_present σ) l2 v8 ev8) (cwV 2 hts gX5_longest_X5_distance rfl rfl rfl (by decide +kernel) ⟨Nat.le_of_ble_eq_true rfl, Nat.le_of_ble_eq_true rfl⟩) hN hK hP hD hA hS (fr_id _ _) rfl rfl rfl hl.1 rfl (lv_room (Nat.le_of_ble_eq_true rfl)) dX5_longest_59 ⟨Nat.le_refl _, Nat.le_refl _⟩ (fun H locs hP hD hS => ?_)
            refine lv_goto (tgt := 66) hx hb dX5_longest_62 (by decide) ?_
            exact J66 _ _ _ _ _ _ hf hP hD hS (lv_sub hl [0, 2] rfl)
  unfold mm_longest at hf
  refine lv_aload_n hx hb dX5_longest_0 rfl (lv_at hl 0 rfl) ?_
  refine lv_iconst (v := 0) hx hb dX5_longest_1 (by decide) ?_
  obtain ⟨s1, es1, hf⟩ := nm_ob hf
  refine va_put (D := D) (ci := 5) (v := .int 0) (ty := .int) (C := RX5) (T := TX5) (N := 17) hx hb hts in5 tyX5 tyX5_ok nmX5 hown hK hP hD hS 0 rfl rfl 16 (by decide) f49 (fun _ h9 => h9) rfl (by decide +kernel) rfl rfl (Nat.le_of_ble_eq_true rfl) dX5_longest_2 (fun H locs hP hD hS => ?_)
  have hP : va_P D vwCl (wM ca Ad s1) H := by rw [← es1]; exact hP
  have hD : va_D A (wM ca Ad s1) := by rw [← es1]; exact hD
  refine lv_iconst (v := (-1)) hx hb dX5_longest_5 (by decide) ?_
  refine lv_istore_n (lv' := [(1, .int (-1)), (0, .ref (Ad 0))]) hx hb dX5_longest_6 rfl hl (by decide) rfl (fun ls hl => ?_)
  refine lv_iconst (v := 0) hx hb dX5_longest_7 (by decide) ?_
  refine lv_istore_n (lv' := [(2, .int 0), (1, .int (-1)), (0, .ref (Ad 0))]) hx hb dX5_longest_8 rfl hl (by decide) rfl (fun ls hl => ?_)
  exact J9 FU _ _ _ _ _ _ hf hP hD hS (lv_sub hl [2, 1, 0] rfl)

def mm_total_54  (k9 : MS → Int32 → Int32 → Option (Int32 × MS)) (σ : MS) (l2 : Int32) (t0 : Int32) (t1 : Int32) : Option (Int32 × MS) :=
  nm (t0 + t1) fun v7 =>
  nm (l2 + 1) fun v8 =>
  k9 σ v7 v8
def mm_total_9  (k9 : MS → Int32 → Int32 → Option (Int32 × MS)) (σ : MS) (l1 : Int32) (l2 : Int32) : Option (Int32 × MS) :=
  gd (m_present σ) 2 <|
  if (m_slots σ (m_present σ).toNatClampNeg) ≤ l2 then
    some (l1, σ)
  else
    gd ((256 * (m_present σ)) + l2) 512 <|
    if (m_full σ ((256 * (m_present σ)) + l2).toNatClampNeg) = 0 then
      mm_total_54 k9 σ l2 l1 0
    else
      bd (mm_distance σ (m_present σ) l2) fun v6 =>
      mm_total_54 k9 σ l2 l1 v6
def mm_total_lp9   : Nat → MS → Int32 → Int32 → Option (Int32 × MS) := itF (fun _ _ _ => none) (fun k => mm_total_9   k)
def mm_total  (σ : MS)  : Option (Int32 × MS) :=
  nm (m_thrown' σ 0) fun s1 =>
  mm_total_lp9 FU s1 0 0
set_option maxHeartbeats 4000000 in
set_option maxRecDepth 100000 in
theorem tX5_total (l : Launch) (D : va_G) (ca : Nat → ClassId) (Ad : Nat → Nat) (sz : Nat)  (σ : MS)  (r : Int32) (σ9 : MS) (hf : mm_total σ = some (r, σ9)) : Ci l D ca yX5_total wsX5_total { frames := 3, cells := 0, slots := 0, locals := 66 } [.ref (Ad 0)] (wM ca Ad σ) sz r (wM ca Ad σ9) := by
  refine body_of (cc := cX5_total) (maxL := 3) (ret := (some .int)) (fun A => Qi D ca r (wM ca Ad σ9) A) (by decide) rfl (Nat.le_of_ble_eq_true rfl) ?_
  intro p e s m below meth c A ls hx hb hr hml hts hown hlocks hA hK hP hD hS hl hN
  have hl : lv_has ls 3 [(0, .ref (Ad 0))] := hl
  have hret : ∀ (pc : Nat) (ls : Array Slot) (H : Heap) (locs : List Loc), decode cX5_total pc = .ok (.ireturn, 1) → va_P D vwCl (wM ca Ad σ9) H → va_D A (wM ca Ad σ9) → va_S A s.heap H locs → W p l e { frames := 3, cells := 0, slots := 0, locals := 66 } s m ([.ref (Ad 0)] : List Value).toArray below meth c H locs 0 0 (MQ below (Qi D ca r (wM ca Ad σ9) A) ([.ref (Ad 0)] : List Value).toArray s 0 0 A) (F0 m pc ls [.int r]) := fun pc ls H locs hd hP hD hS => ret_i hx hb hr hlocks hK hP hD hS hd
  generalize MQ below (Qi D ca r (wM ca Ad σ9) A) ([.ref (Ad 0)] : List Value).toArray s 0 0 A = Q at hret ⊢
  generalize ([.ref (Ad 0)] : List Value).toArray = args at hts hret ⊢
  have f16 := hts (.fieldLink RX5 16 "RobinRowModel" "isFull" "[Z") (by decide +kernel)
  have f20 := hts (.fieldLink RX5 20 "RobinRowModel" "slots" "[I") (by decide +kernel)
  have f49 := hts (.fieldLink RX5 49 "RobinRowModel" "thrown" "I") (by decide +kernel)
  have f64 := hts (.fieldLink RX5 64 "RobinRowModel" "present" "I") (by decide +kernel)
  have in5 : ∀ w ∈ u_ws RX5 TX5 17, w ∈ wsX5_total := by decide +kernel
  have J9 : ∀ (n9 : Nat) (H : Heap) (locs : List Loc) (ls : Array Slot) (σ : MS) (l1 : Int32) (l2 : Int32), mm_total_lp9  n9 σ l1 l2 = some (r, σ9) → va_P D vwCl (wM ca Ad σ) H → va_D A (wM ca Ad σ) → va_S A s.heap H locs → lv_has ls 3 [(0, .ref (Ad 0)), (1, .int l1), (2, .int l2)] → W p l e { frames := 3, cells := 0, slots := 0, locals := 66 } s m args below meth c H locs 0 0 Q (F0 m 9 ls []) := by
    intro n9
    induction n9 with
    | zero =>
      intro H locs ls σ l1 l2 hf hP hD hS hl
      exact absurd hf (fun h => by cases h)
    | succ n9 ih9 =>
      have J54 : ∀ (H : Heap) (locs : List Loc) (ls : Array Slot) (σ : MS) (l2 : Int32) (t0 : Int32) (t1 : Int32), mm_total_54 (mm_total_lp9  n9) σ l2 t0 t1 = some (r, σ9) → va_P D vwCl (wM ca Ad σ) H → va_D A (wM ca Ad σ) → va_S A s.heap H locs → lv_has ls 3 [(0, .ref (Ad 0)), (2, .int l2)] → W p l e { frames := 3, cells := 0, slots := 0, locals := 66 } s m args below meth c H locs 0 0 Q (F0 m 54 ls [.int t1, .int t0]) := by
        intro H locs ls σ l2 t0 t1 hf hP hD hS hl
        unfold mm_total_54 at hf
        refine lv_iadd hx hb dX5_total_54 ?_
        obtain ⟨v7, ev7, hf⟩ := nm_ob hf
        refine tp_i ev7 ?_
        refine lv_istore_n (lv' := [(1, .int v7), (0, .ref (Ad 0)), (2, .int l2)]) hx hb dX5_total_55 rfl hl (by decide) rfl (fun ls hl => ?_)
        obtain ⟨v8, ev8, hf⟩ := nm_ob hf
        refine lv_iinc (v := v8) (lv' := [(2, .int v8), (1, .int v7), (0, .ref (Ad 0))]) hx hb dX5_total_56 hl (k := 2) rfl (by rw [← ev8]; rfl) (by decide) rfl (fun ls hl => ?_)
        refine lv_goto (tgt := 9) hx hb dX5_total_59 (by decide) ?_
        exact ih9 _ _ _ _ _ _ hf hP hD hS (lv_sub hl [2, 1, 0] rfl)
      intro H locs ls σ l1 l2 hf hP hD hS hl
      replace hf : mm_total_9  (mm_total_lp9  n9) σ l1 l2 = some (r, σ9) := hf
      unfold mm_total_9 at hf
      refine lv_iload_n hx hb dX5_total_9 rfl (lv_at hl 2 rfl) ?_
      refine lv_aload_n hx hb dX5_total_10 rfl (lv_at hl 0 rfl) ?_
      refine va_get (D := D) (ci := 5) (v := .ref (Ad 4)) (C := RX5) (T := TX5) (N := 17) hx hb hts in5 hown hK hP 0 rfl rfl 3 (by decide) f20 (fun _ h9 => h9) rfl dX5_total_11 ?_
      refine lv_aload_n hx hb dX5_total_14 rfl (lv_at hl 0 rfl) ?_
      refine va_get (D := D) (ci := 5) (v := .int (m_present σ)) (C := RX5) (T := TX5) (N := 17) hx hb hts in5 hown hK hP 0 rfl rfl 5 (by decide) f64 (fun _ h9 => h9) rfl dX5_total_15 ?_
      obtain ⟨g2, hf⟩ := gd_ob hf
      refine va_iald hx hb hK hP 4 0 rfl rfl g2 dX5_total_18 ?_
      refine lv_icmp_ge (tgt := 62) hx hb dX5_total_19 (by decide) (fun c3 => ?_) (fun c3 => ?_)
      · replace hf := it_p c3 hf
        refine lv_iload_n hx hb dX5_total_62 rfl (lv_at hl 1 rfl) ?_
        obtain ⟨rfl, rfl⟩ := so2 hf
        exact hret _ _ _ _ dX5_total_63 hP hD hS
      · replace hf := it_n c3 hf
        refine lv_iload_n hx hb dX5_total_22 rfl (lv_at hl 1 rfl) ?_
        refine lv_aload_n hx hb dX5_total_23 rfl (lv_at hl 0 rfl) ?_
        refine va_get (D := D) (ci := 5) (v := .ref (Ad 3)) (C := RX5) (T := TX5) (N := 17) hx hb hts in5 hown hK hP 0 rfl rfl 2 (by decide) f16 (fun _ h9 => h9) rfl dX5_total_24 ?_
        refine lv_sipush (v := 256) hx hb dX5_total_27 (by decide) ?_
        refine lv_aload_n hx hb dX5_total_30 rfl (lv_at hl 0 rfl) ?_
        refine va_get (D := D) (ci := 5) (v := .int (m_present σ)) (C := RX5) (T := TX5) (N := 17) hx hb hts in5 hown hK hP 0 rfl rfl 5 (by decide) f64 (fun _ h9 => h9) rfl dX5_total_31 ?_
        refine lv_imul hx hb dX5_total_34 ?_
        refine lv_iload_n hx hb dX5_total_35 rfl (lv_at hl 2 rfl) ?_
        refine lv_iadd hx hb dX5_total_36 ?_
        obtain ⟨g4, hf⟩ := gd_ob hf
        refine va_zald hx hb hK hP 3 2 rfl rfl g4 dX5_total_37 ?_
        refine lv_if_eq (tgt := 53) hx hb dX5_total_38 (by decide) (fun c5 => ?_) (fun c5 => ?_)
        · replace hf := it_p c5 hf
          refine lv_iconst (v := 0) hx hb dX5_total_53 (by decide) ?_
          exact J54 _ _ _ _ _ _ _ hf hP hD hS (lv_sub hl [0, 2] rfl)
        · replace hf := it_n c5 hf
          refine lv_aload_n hx hb dX5_total_41 rfl (lv_at hl 0 rfl) ?_
          refine lv_aload_n hx hb dX5_total_42 rfl (lv_at hl 0 rfl) ?_
          refine va_get (D := D) (ci := 5) (v := .int (m_present σ)) (C := RX5) (T := TX5) (N := 17) hx hb hts in5 hown hK hP 0 rfl rfl 5 (by decide) f64 (fun _ h9 => h9) rfl dX5_total_43 ?_
          refine lv_iload_n hx hb dX5_total_46 rfl (lv_at hl 2 rfl) ?_
          obtain ⟨v6, ev6, hf⟩ := bd_ob hf
          refine call_i (As := [.int (m_present σ), .int l2]) (rest := [.int l1]) ⟨hx, hb, hml, hown, hts⟩ (tX5_distance l D ca Ad _ σ (m_present σ) l2 v6 ev6) (cwV 2 hts gX5_total_X5_distance rfl rfl rfl (by decide +kernel) ⟨Nat.le_of_ble_eq_true rfl, Nat.le_of_ble_eq_true rfl⟩) hN hK hP hD hA hS (fr_id _ _) rfl rfl rfl hl.1 rfl (lv_room (Nat.le_of_ble_eq_true rfl)) dX5_total_47 ⟨Nat.le_refl _, Nat.le_refl _⟩ (fun H locs hP hD hS => ?_)
          refine lv_goto (tgt := 54) hx hb dX5_total_50 (by decide) ?_
          exact J54 _ _ _ _ _ _ _ hf hP hD hS (lv_sub hl [0, 2] rfl)
  unfold mm_total at hf
  refine lv_aload_n hx hb dX5_total_0 rfl (lv_at hl 0 rfl) ?_
  refine lv_iconst (v := 0) hx hb dX5_total_1 (by decide) ?_
  obtain ⟨s1, es1, hf⟩ := nm_ob hf
  refine va_put (D := D) (ci := 5) (v := .int 0) (ty := .int) (C := RX5) (T := TX5) (N := 17) hx hb hts in5 tyX5 tyX5_ok nmX5 hown hK hP hD hS 0 rfl rfl 16 (by decide) f49 (fun _ h9 => h9) rfl (by decide +kernel) rfl rfl (Nat.le_of_ble_eq_true rfl) dX5_total_2 (fun H locs hP hD hS => ?_)
  have hP : va_P D vwCl (wM ca Ad s1) H := by rw [← es1]; exact hP
  have hD : va_D A (wM ca Ad s1) := by rw [← es1]; exact hD
  refine lv_iconst (v := 0) hx hb dX5_total_5 (by decide) ?_
  refine lv_istore_n (lv' := [(1, .int 0), (0, .ref (Ad 0))]) hx hb dX5_total_6 rfl hl (by decide) rfl (fun ls hl => ?_)
  refine lv_iconst (v := 0) hx hb dX5_total_7 (by decide) ?_
  refine lv_istore_n (lv' := [(2, .int 0), (1, .int 0), (0, .ref (Ad 0))]) hx hb dX5_total_8 rfl hl (by decide) rfl (fun ls hl => ?_)
  exact J9 FU _ _ _ _ _ _ hf hP hD hS (lv_sub hl [2, 1, 0] rfl)

def mm_looks_209  (σ : MS)   (l5 : Int32) (l6 : Int32) : Option Int32 :=
  some ((1000 * l5) + l6)
def mm_looks_204  (σ : MS) (k39 : Int32 → Int32 → Int32 → Int32 → Int32 → Int32 → Int32 → Option Int32)  (l1 : Int32) (l2 : Int32) (l3 : Int32) (l4 : Int32) (l5 : Int32) (l6 : Int32) (t0 : Int32) : Option Int32 :=
  k39 l1 l2 l3 l4 l5 l6 t0
def mm_looks_178  (σ : MS) (k39 : Int32 → Int32 → Int32 → Int32 → Int32 → Int32 → Int32 → Option Int32) (k67 : Int32 → Int32 → Int32 → Int32 → Int32 → Int32 → Int32 → Int32 → Int32 → Option Int32)  (l1 : Int32) (l2 : Int32) (l3 : Int32) (l4 : Int32) (l5 : Int32) (l6 : Int32) (l9 : Int32) (l10 : Int32) (t0 : Int32) : Option Int32 :=
  nm (l10 + 1) fun v25 =>
  k67 l1 l2 l3 l4 l5 l6 t0 l9 v25
def mm_looks_142  (σ : MS) (k39 : Int32 → Int32 → Int32 → Int32 → Int32 → Int32 → Int32 → Option Int32) (k67 : Int32 → Int32 → Int32 → Int32 → Int32 → Int32 → Int32 → Int32 → Int32 → Option Int32)  (l1 : Int32) (l2 : Int32) (l3 : Int32) (l4 : Int32) (l5 : Int32) (l8 : Int32) (l9 : Int32) (l10 : Int32) (l11 : Int32) (l12 : Int32) (t0 : Int32) (t1 : Int32) : Option Int32 :=
  nm (t0 + t1) fun v20 =>
  if l8 = 0 then
    if l12 = l3 then
      gd ((256 * l1) + l11) 512 <|
      if (m_keys σ ((256 * l1) + l11).toNatClampNeg) = l2 then
        mm_looks_178 σ k39 k67 l1 l2 l3 l4 l5 v20 l9 l10 1
      else
        mm_looks_178 σ k39 k67 l1 l2 l3 l4 l5 v20 l9 l10 0
    else
      mm_looks_178 σ k39 k67 l1 l2 l3 l4 l5 v20 l9 l10 0
  else
    mm_looks_178 σ k39 k67 l1 l2 l3 l4 l5 v20 l9 l10 1
def mm_looks_122  (σ : MS) (k39 : Int32 → Int32 → Int32 → Int32 → Int32 → Int32 → Int32 → Option Int32) (k67 : Int32 → Int32 → Int32 → Int32 → Int32 → Int32 → Int32 → Int32 → Int32 → Option Int32)  (l1 : Int32) (l2 : Int32) (l3 : Int32) (l4 : Int32) (l5 : Int32) (l6 : Int32) (l8 : Int32) (l10 : Int32) (l11 : Int32) (l12 : Int32) (t0 : Int32) : Option Int32 :=
  if l8 = 0 then
    if l12 = l3 then
      mm_looks_142 σ k39 k67 l1 l2 l3 l4 l5 l8 t0 l10 l11 l12 l6 1
    else
      mm_looks_142 σ k39 k67 l1 l2 l3 l4 l5 l8 t0 l10 l11 l12 l6 0
  else
    mm_looks_142 σ k39 k67 l1 l2 l3 l4 l5 l8 t0 l10 l11 l12 l6 0
def mm_looks_67  (σ : MS) (k39 : Int32 → Int32 → Int32 → Int32 → Int32 → Int32 → Int32 → Option Int32) (k67 : Int32 → Int32 → Int32 → Int32 → Int32 → Int32 → Int32 → Int32 → Int32 → Option Int32)  (l1 : Int32) (l2 : Int32) (l3 : Int32) (l4 : Int32) (l5 : Int32) (l6 : Int32) (l8 : Int32) (l9 : Int32) (l10 : Int32) : Option Int32 :=
  if 8 ≤ l10 then
    nm (l5 + 1) fun v10 =>
    if l8 = 0 then
      if l9 = 0 then
        mm_looks_204 σ k39 l1 l2 l3 l4 v10 l6 0
      else
        mm_looks_204 σ k39 l1 l2 l3 l4 v10 l6 1
    else
      mm_looks_204 σ k39 l1 l2 l3 l4 v10 l6 1
  else
    gd l1 2 <|
    nm (((l4 + (8 * l5)) + l10) &&& ((m_slots σ l1.toNatClampNeg) - 1)) fun v14 =>
    bd (mm_controlOf σ l1 v14) fun v15 =>
    if l9 = 0 then
      if v15 = (-128) then
        mm_looks_122 σ k39 k67 l1 l2 l3 l4 l5 l6 l8 l10 v14 v15 1
      else
        mm_looks_122 σ k39 k67 l1 l2 l3 l4 l5 l6 l8 l10 v14 v15 0
    else
      mm_looks_122 σ k39 k67 l1 l2 l3 l4 l5 l6 l8 l10 v14 v15 1
def mm_looks_lp67  (σ : MS) (k39 : Int32 → Int32 → Int32 → Int32 → Int32 → Int32 → Int32 → Option Int32) : Nat → Int32 → Int32 → Int32 → Int32 → Int32 → Int32 → Int32 → Int32 → Int32 → Option Int32 := itF (fun _ _ _ _ _ _ _ _ _ => none) (fun k => mm_looks_67 σ k39 k)
def mm_looks_39  (σ : MS) (k39 : Int32 → Int32 → Int32 → Int32 → Int32 → Int32 → Int32 → Option Int32)  (l1 : Int32) (l2 : Int32) (l3 : Int32) (l4 : Int32) (l5 : Int32) (l6 : Int32) (l7 : Int32) : Option Int32 :=
  if l7 = 0 then
    gd l1 2 <|
    if (m_slots σ l1.toNatClampNeg) ≤ (8 * l5) then
      mm_looks_209 σ l5 l6
    else
      mm_looks_lp67 σ k39 FU l1 l2 l3 l4 l5 l6 0 0 0
  else
    mm_looks_209 σ l5 l6
def mm_looks_lp39  (σ : MS)  : Nat → Int32 → Int32 → Int32 → Int32 → Int32 → Int32 → Int32 → Option Int32 := itF (fun _ _ _ _ _ _ _ => none) (fun k => mm_looks_39 σ  k)
def mm_looks_28  (σ : MS)   (l1 : Int32) (l2 : Int32) (l3 : Int32) (t0 : Int32) : Option Int32 :=
  mm_looks_lp39 σ FU l1 l2 l3 t0 0 0 0
def mm_looks  (σ : MS) (a0 : Int32) (a1 : Int32) : Option Int32 :=
  bd (mm_hashOf σ a1) fun v1 =>
  nm (ushr v1 25) fun v2 =>
  gd a0 2 <|
  if (m_slots σ a0.toNatClampNeg) = 0 then
    mm_looks_28 σ a0 a1 v2 0
  else
    bd (mm_home σ a0 a1) fun v5 =>
    mm_looks_28 σ a0 a1 v2 v5
set_option maxHeartbeats 4000000 in
set_option maxRecDepth 100000 in
theorem tX5_looks (l : Launch) (D : va_G) (ca : Nat → ClassId) (Ad : Nat → Nat) (sz : Nat)  (σ : MS) (a0 : Int32) (a1 : Int32) (r : Int32) (hf : mm_looks σ a0 a1 = some r) : Ci l D ca yX5_looks wsX5_looks { frames := 2, cells := 0, slots := 0, locals := 44 } [.ref (Ad 0), .int a0, .int a1] (wM ca Ad σ) sz r (wM ca Ad σ) := by
  refine body_of (cc := cX5_looks) (maxL := 13) (ret := (some .int)) (fun A => Qi D ca r (wM ca Ad σ) A) (by decide) rfl (Nat.le_of_ble_eq_true rfl) ?_
  intro p e s m below meth c A ls hx hb hr hml hts hown hlocks hA hK hP hD hS hl hN
  have hl : lv_has ls 13 [(0, .ref (Ad 0)), (1, .int a0), (2, .int a1)] := hl
  have hret : ∀ (pc : Nat) (ls : Array Slot) (H : Heap) (locs : List Loc), decode cX5_looks pc = .ok (.ireturn, 1) → va_P D vwCl (wM ca Ad σ) H → va_D A (wM ca Ad σ) → va_S A s.heap H locs → W p l e { frames := 2, cells := 0, slots := 0, locals := 44 } s m ([.ref (Ad 0), .int a0, .int a1] : List Value).toArray below meth c H locs 0 0 (MQ below (Qi D ca r (wM ca Ad σ) A) ([.ref (Ad 0), .int a0, .int a1] : List Value).toArray s 0 0 A) (F0 m pc ls [.int r]) := fun pc ls H locs hd hP hD hS => ret_i hx hb hr hlocks hK hP hD hS hd
  generalize MQ below (Qi D ca r (wM ca Ad σ) A) ([.ref (Ad 0), .int a0, .int a1] : List Value).toArray s 0 0 A = Q at hret ⊢
  generalize ([.ref (Ad 0), .int a0, .int a1] : List Value).toArray = args at hts hret ⊢
  have f20 := hts (.fieldLink RX5 20 "RobinRowModel" "slots" "[I") (by decide +kernel)
  have f7 := hts (.fieldLink RX5 7 "RobinRowModel" "keys" "[I") (by decide +kernel)
  have in5 : ∀ w ∈ u_ws RX5 TX5 17, w ∈ wsX5_looks := by decide +kernel
  have J209 : ∀ (H : Heap) (locs : List Loc) (ls : Array Slot)  (l5 : Int32) (l6 : Int32), mm_looks_209 σ  l5 l6 = some r → va_P D vwCl (wM ca Ad σ) H → va_D A (wM ca Ad σ) → va_S A s.heap H locs → lv_has ls 13 [(5, .int l5), (6, .int l6)] → W p l e { frames := 2, cells := 0, slots := 0, locals := 44 } s m args below meth c H locs 0 0 Q (F0 m 209 ls []) := by
    intro H locs ls l5 l6 hf hP hD hS hl
    unfold mm_looks_209 at hf
    refine lv_sipush (v := 1000) hx hb dX5_looks_209 (by decide) ?_
    refine lv_iload hx hb dX5_looks_212 (lv_at hl 0 rfl) ?_
    refine lv_imul hx hb dX5_looks_214 ?_
    refine lv_iload hx hb dX5_looks_215 (lv_at hl 1 rfl) ?_
    refine lv_iadd hx hb dX5_looks_217 ?_
    obtain rfl := so1 hf
    exact hret _ _ _ _ dX5_looks_218 hP hD hS
  have J39 : ∀ (n39 : Nat) (H : Heap) (locs : List Loc) (ls : Array Slot)  (l1 : Int32) (l2 : Int32) (l3 : Int32) (l4 : Int32) (l5 : Int32) (l6 : Int32) (l7 : Int32), mm_looks_lp39 σ  n39 l1 l2 l3 l4 l5 l6 l7 = some r → va_P D vwCl (wM ca Ad σ) H → va_D A (wM ca Ad σ) → va_S A s.heap H locs → lv_has ls 13 [(0, .ref (Ad 0)), (1, .int l1), (2, .int l2), (3, .int l3), (4, .int l4), (5, .int l5), (6, .int l6), (7, .int l7)] → W p l e { frames := 2, cells := 0, slots := 0, locals := 44 } s m args below meth c H locs 0 0 Q (F0 m 39 ls []) := by
    intro n39
    induction n39 with
    | zero =>
      intro H locs ls l1 l2 l3 l4 l5 l6 l7 hf hP hD hS hl
      exact absurd hf (fun h => by cases h)
    | succ n39 ih39 =>
      have J204 : ∀ (H : Heap) (locs : List Loc) (ls : Array Slot)  (l1 : Int32) (l2 : Int32) (l3 : Int32) (l4 : Int32) (l5 : Int32) (l6 : Int32) (t0 : Int32), mm_looks_204 σ (mm_looks_lp39 σ  n39) l1 l2 l3 l4 l5 l6 t0 = some r → va_P D vwCl (wM ca Ad σ) H → va_D A (wM ca Ad σ) → va_S A s.heap H locs → lv_has ls 13 [(0, .ref (Ad 0)), (1, .int l1), (2, .int l2), (3, .int l3), (4, .int l4), (5, .int l5), (6, .int l6)] → W p l e { frames := 2, cells := 0, slots := 0, locals := 44 } s m args below meth c H locs 0 0 Q (F0 m 204 ls [.int t0]) := by
        intro H locs ls l1 l2 l3 l4 l5 l6 t0 hf hP hD hS hl
        unfold mm_looks_204 at hf
        refine lv_istore (lv' := [(7, .int t0), (0, .ref (Ad 0)), (1, .int l1), (2, .int l2), (3, .int l3), (4, .int l4), (5, .int l5), (6, .int l6)]) hx hb dX5_looks_204 hl (by decide) rfl (fun ls hl => ?_)
        refine lv_goto (tgt := 39) hx hb dX5_looks_206 (by decide) ?_
        exact ih39 _ _ _ _ _ _ _ _ _ _ hf hP hD hS (lv_sub hl [1, 2, 3, 4, 5, 6, 7, 0] rfl)
      have J67 : ∀ (n67 : Nat) (H : Heap) (locs : List Loc) (ls : Array Slot)  (l1 : Int32) (l2 : Int32) (l3 : Int32) (l4 : Int32) (l5 : Int32) (l6 : Int32) (l8 : Int32) (l9 : Int32) (l10 : Int32), mm_looks_lp67 σ (mm_looks_lp39 σ  n39) n67 l1 l2 l3 l4 l5 l6 l8 l9 l10 = some r → va_P D vwCl (wM ca Ad σ) H → va_D A (wM ca Ad σ) → va_S A s.heap H locs → lv_has ls 13 [(0, .ref (Ad 0)), (1, .int l1), (2, .int l2), (3, .int l3), (4, .int l4), (5, .int l5), (6, .int l6), (8, .int l8), (9, .int l9), (10, .int l10)] → W p l e { frames := 2, cells := 0, slots := 0, locals := 44 } s m args below meth c H locs 0 0 Q (F0 m 67 ls []) := by
        intro n67
        induction n67 with
        | zero =>
          intro H locs ls l1 l2 l3 l4 l5 l6 l8 l9 l10 hf hP hD hS hl
          exact absurd hf (fun h => by cases h)
        | succ n67 ih67 =>
          have J178 : ∀ (H : Heap) (locs : List Loc) (ls : Array Slot)  (l1 : Int32) (l2 : Int32) (l3 : Int32) (l4 : Int32) (l5 : Int32) (l6 : Int32) (l9 : Int32) (l10 : Int32) (t0 : Int32), mm_looks_178 σ (mm_looks_lp39 σ  n39) (mm_looks_lp67 σ (mm_looks_lp39 σ  n39) n67) l1 l2 l3 l4 l5 l6 l9 l10 t0 = some r → va_P D vwCl (wM ca Ad σ) H → va_D A (wM ca Ad σ) → va_S A s.heap H locs → lv_has ls 13 [(0, .ref (Ad 0)), (1, .int l1), (2, .int l2), (3, .int l3), (4, .int l4), (5, .int l5), (6, .int l6), (9, .int l9), (10, .int l10)] → W p l e { frames := 2, cells := 0, slots := 0, locals := 44 } s m args below meth c H locs 0 0 Q (F0 m 178 ls [.int t0]) := by
            intro H locs ls l1 l2 l3 l4 l5 l6 l9 l10 t0 hf hP hD hS hl
            unfold mm_looks_178 at hf
            refine lv_istore (lv' := [(8, .int t0), (0, .ref (Ad 0)), (1, .int l1), (2, .int l2), (3, .int l3), (4, .int l4), (5, .int l5), (6, .int l6), (9, .int l9), (10, .int l10)]) hx hb dX5_looks_178 hl (by decide) rfl (fun ls hl => ?_)
            obtain ⟨v25, ev25, hf⟩ := nm_ob hf
            refine lv_iinc (v := v25) (lv' := [(10, .int v25), (8, .int t0), (0, .ref (Ad 0)), (1, .int l1), (2, .int l2), (3, .int l3), (4, .int l4), (5, .int l5), (6, .int l6), (9, .int l9)]) hx hb dX5_looks_180 hl (k := 9) rfl (by rw [← ev25]; rfl) (by decide) rfl (fun ls hl => ?_)
            refine lv_goto (tgt := 67) hx hb dX5_looks_183 (by decide) ?_
            exact ih67 _ _ _ _ _ _ _ _ _ _ _ _ hf hP hD hS (lv_sub hl [2, 3, 4, 5, 6, 7, 8, 1, 9, 0] rfl)
          have J142 : ∀ (H : Heap) (locs : List Loc) (ls : Array Slot)  (l1 : Int32) (l2 : Int32) (l3 : Int32) (l4 : Int32) (l5 : Int32) (l8 : Int32) (l9 : Int32) (l10 : Int32) (l11 : Int32) (l12 : Int32) (t0 : Int32) (t1 : Int32), mm_looks_142 σ (mm_looks_lp39 σ  n39) (mm_looks_lp67 σ (mm_looks_lp39 σ  n39) n67) l1 l2 l3 l4 l5 l8 l9 l10 l11 l12 t0 t1 = some r → va_P D vwCl (wM ca Ad σ) H → va_D A (wM ca Ad σ) → va_S A s.heap H locs → lv_has ls 13 [(0, .ref (Ad 0)), (1, .int l1), (2, .int l2), (3, .int l3), (4, .int l4), (5, .int l5), (8, .int l8), (9, .int l9), (10, .int l10), (11, .int l11), (12, .int l12)] → W p l e { frames := 2, cells := 0, slots := 0, locals := 44 } s m args below meth c H locs 0 0 Q (F0 m 142 ls [.int t1, .int t0]) := by
            intro H locs ls l1 l2 l3 l4 l5 l8 l9 l10 l11 l12 t0 t1 hf hP hD hS hl
            unfold mm_looks_142 at hf
            refine lv_iadd hx hb dX5_looks_142 ?_
            obtain ⟨v20, ev20, hf⟩ := nm_ob hf
            refine tp_i ev20 ?_
            refine lv_istore (lv' := [(6, .int v20), (0, .ref (Ad 0)), (1, .int l1), (2, .int l2), (3, .int l3), (4, .int l4), (5, .int l5), (8, .int l8), (9, .int l9), (10, .int l10), (11, .int l11), (12, .int l12)]) hx hb dX5_looks_143 hl (by decide) rfl (fun ls hl => ?_)
            refine lv_iload hx hb dX5_looks_145 (lv_at hl 7 rfl) ?_
            refine lv_if_ne (tgt := 173) hx hb dX5_looks_147 (by decide) (fun c21 => ?_) (fun c21 => ?_)
            · replace hf := it_n c21 hf
              refine lv_iconst (v := 1) hx hb dX5_looks_173 (by decide) ?_
              refine lv_goto (tgt := 178) hx hb dX5_looks_174 (by decide) ?_
              exact J178 _ _ _ _ _ _ _ _ _ _ _ _ hf hP hD hS (lv_sub hl [1, 2, 3, 4, 5, 6, 0, 8, 9] rfl)
            · replace hf := it_p c21 hf
              refine lv_iload hx hb dX5_looks_150 (lv_at hl 11 rfl) ?_
              refine lv_iload_n hx hb dX5_looks_152 rfl (lv_at hl 4 rfl) ?_
              refine lv_icmp_ne (tgt := 177) hx hb dX5_looks_153 (by decide) (fun c22 => ?_) (fun c22 => ?_)
              · replace hf := it_n c22 hf
                refine lv_iconst (v := 0) hx hb dX5_looks_177 (by decide) ?_
                exact J178 _ _ _ _ _ _ _ _ _ _ _ _ hf hP hD hS (lv_sub hl [1, 2, 3, 4, 5, 6, 0, 8, 9] rfl)
              · replace hf := it_p c22 hf
                refine lv_aload_n hx hb dX5_looks_156 rfl (lv_at hl 1 rfl) ?_
                refine va_get (D := D) (ci := 5) (v := .ref (Ad 1)) (C := RX5) (T := TX5) (N := 17) hx hb hts in5 hown hK hP 0 rfl rfl 0 (by decide) f7 (fun _ h9 => h9) rfl dX5_looks_157 ?_
                refine lv_sipush (v := 256) hx hb dX5_looks_160 (by decide) ?_
                refine lv_iload_n hx hb dX5_looks_163 rfl (lv_at hl 2 rfl) ?_
                refine lv_imul hx hb dX5_looks_164 ?_
                refine lv_iload hx hb dX5_looks_165 (lv_at hl 10 rfl) ?_
                refine lv_iadd hx hb dX5_looks_167 ?_
                obtain ⟨g23, hf⟩ := gd_ob hf
                refine va_iald hx hb hK hP 1 0 rfl rfl g23 dX5_looks_168 ?_
                refine lv_iload_n hx hb dX5_looks_169 rfl (lv_at hl 3 rfl) ?_
                refine lv_icmp_ne (tgt := 177) hx hb dX5_looks_170 (by decide) (fun c24 => ?_) (fun c24 => ?_)
                · replace hf := it_n c24 hf
                  refine lv_iconst (v := 0) hx hb dX5_looks_177 (by decide) ?_
                  exact J178 _ _ _ _ _ _ _ _ _ _ _ _ hf hP hD hS (lv_sub hl [1, 2, 3, 4, 5, 6, 0, 8, 9] rfl)
                · replace hf := it_p c24 hf
                  refine lv_iconst (v := 1) hx hb dX5_looks_173 (by decide) ?_
                  refine lv_goto (tgt := 178) hx hb dX5_looks_174 (by decide) ?_
                  exact J178 _ _ _ _ _ _ _ _ _ _ _ _ hf hP hD hS (lv_sub hl [1, 2, 3, 4, 5, 6, 0, 8, 9] rfl)
          have J122 : ∀ (H : Heap) (locs : List Loc) (ls : Array Slot)  (l1 : Int32) (l2 : Int32) (l3 : Int32) (l4 : Int32) (l5 : Int32) (l6 : Int32) (l8 : Int32) (l10 : Int32) (l11 : Int32) (l12 : Int32) (t0 : Int32), mm_looks_122 σ (mm_looks_lp39 σ  n39) (mm_looks_lp67 σ (mm_looks_lp39 σ  n39) n67) l1 l2 l3 l4 l5 l6 l8 l10 l11 l12 t0 = some r → va_P D vwCl (wM ca Ad σ) H → va_D A (wM ca Ad σ) → va_S A s.heap H locs → lv_has ls 13 [(0, .ref (Ad 0)), (1, .int l1), (2, .int l2), (3, .int l3), (4, .int l4), (5, .int l5), (6, .int l6), (8, .int l8), (10, .int l10), (11, .int l11), (12, .int l12)] → W p l e { frames := 2, cells := 0, slots := 0, locals := 44 } s m args below meth c H locs 0 0 Q (F0 m 122 ls [.int t0]) := by
            intro H locs ls l1 l2 l3 l4 l5 l6 l8 l10 l11 l12 t0 hf hP hD hS hl
            unfold mm_looks_122 at hf
            refine lv_istore (lv' := [(9, .int t0), (0, .ref (Ad 0)), (1, .int l1), (2, .int l2), (3, .int l3), (4, .int l4), (5, .int l5), (6, .int l6), (8, .int l8), (10, .int l10), (11, .int l11), (12, .int l12)]) hx hb dX5_looks_122 hl (by decide) rfl (fun ls hl => ?_)
            refine lv_iload hx hb dX5_looks_124 (lv_at hl 7 rfl) ?_
            refine lv_iload hx hb dX5_looks_126 (lv_at hl 8 rfl) ?_
            refine lv_if_ne (tgt := 141) hx hb dX5_looks_128 (by decide) (fun c18 => ?_) (fun c18 => ?_)
            · replace hf := it_n c18 hf
              refine lv_iconst (v := 0) hx hb dX5_looks_141 (by decide) ?_
              exact J142 _ _ _ _ _ _ _ _ _ _ _ _ _ _ _ hf hP hD hS (lv_sub hl [1, 2, 3, 4, 5, 6, 8, 0, 9, 10, 11] rfl)
            · replace hf := it_p c18 hf
              refine lv_iload hx hb dX5_looks_131 (lv_at hl 11 rfl) ?_
              refine lv_iload_n hx hb dX5_looks_133 rfl (lv_at hl 4 rfl) ?_
              refine lv_icmp_ne (tgt := 141) hx hb dX5_looks_134 (by decide) (fun c19 => ?_) (fun c19 => ?_)
              · replace hf := it_n c19 hf
                refine lv_iconst (v := 0) hx hb dX5_looks_141 (by decide) ?_
                exact J142 _ _ _ _ _ _ _ _ _ _ _ _ _ _ _ hf hP hD hS (lv_sub hl [1, 2, 3, 4, 5, 6, 8, 0, 9, 10, 11] rfl)
              · replace hf := it_p c19 hf
                refine lv_iconst (v := 1) hx hb dX5_looks_137 (by decide) ?_
                refine lv_goto (tgt := 142) hx hb dX5_looks_138 (by decide) ?_
                exact J142 _ _ _ _ _ _ _ _ _ _ _ _ _ _ _ hf hP hD hS (lv_sub hl [1, 2, 3, 4, 5, 6, 8, 0, 9, 10, 11] rfl)
          intro H locs ls l1 l2 l3 l4 l5 l6 l8 l9 l10 hf hP hD hS hl
          replace hf : mm_looks_67 σ (mm_looks_lp39 σ  n39) (mm_looks_lp67 σ (mm_looks_lp39 σ  n39) n67) l1 l2 l3 l4 l5 l6 l8 l9 l10 = some r := hf
          unfold mm_looks_67 at hf
          refine lv_iload hx hb dX5_looks_67 (lv_at hl 9 rfl) ?_
          refine lv_bipush (v := 8) hx hb dX5_looks_69 (by decide) ?_
          refine lv_icmp_ge (tgt := 186) hx hb dX5_looks_71 (by decide) (fun c9 => ?_) (fun c9 => ?_)
          · replace hf := it_p c9 hf
            obtain ⟨v10, ev10, hf⟩ := nm_ob hf
            refine lv_iinc (v := v10) (lv' := [(5, .int v10), (0, .ref (Ad 0)), (1, .int l1), (2, .int l2), (3, .int l3), (4, .int l4), (6, .int l6), (8, .int l8), (9, .int l9), (10, .int l10)]) hx hb dX5_looks_186 hl (k := 5) rfl (by rw [← ev10]; rfl) (by decide) rfl (fun ls hl => ?_)
            refine lv_iload hx hb dX5_looks_189 (lv_at hl 7 rfl) ?_
            refine lv_if_ne (tgt := 199) hx hb dX5_looks_191 (by decide) (fun c11 => ?_) (fun c11 => ?_)
            · replace hf := it_n c11 hf
              refine lv_iconst (v := 1) hx hb dX5_looks_199 (by decide) ?_
              refine lv_goto (tgt := 204) hx hb dX5_looks_200 (by decide) ?_
              exact J204 _ _ _ _ _ _ _ _ _ _ hf hP hD hS (lv_sub hl [1, 2, 3, 4, 5, 0, 6] rfl)
            · replace hf := it_p c11 hf
              refine lv_iload hx hb dX5_looks_194 (lv_at hl 8 rfl) ?_
              refine lv_if_eq (tgt := 203) hx hb dX5_looks_196 (by decide) (fun c12 => ?_) (fun c12 => ?_)
              · replace hf := it_p c12 hf
                refine lv_iconst (v := 0) hx hb dX5_looks_203 (by decide) ?_
                exact J204 _ _ _ _ _ _ _ _ _ _ hf hP hD hS (lv_sub hl [1, 2, 3, 4, 5, 0, 6] rfl)
              · replace hf := it_n c12 hf
                refine lv_iconst (v := 1) hx hb dX5_looks_199 (by decide) ?_
                refine lv_goto (tgt := 204) hx hb dX5_looks_200 (by decide) ?_
                exact J204 _ _ _ _ _ _ _ _ _ _ hf hP hD hS (lv_sub hl [1, 2, 3, 4, 5, 0, 6] rfl)
          · replace hf := it_n c9 hf
            refine lv_iload hx hb dX5_looks_74 (lv_at hl 4 rfl) ?_
            refine lv_bipush (v := 8) hx hb dX5_looks_76 (by decide) ?_
            refine lv_iload hx hb dX5_looks_78 (lv_at hl 5 rfl) ?_
            refine lv_imul hx hb dX5_looks_80 ?_
            refine lv_iadd hx hb dX5_looks_81 ?_
            refine lv_iload hx hb dX5_looks_82 (lv_at hl 9 rfl) ?_
            refine lv_iadd hx hb dX5_looks_84 ?_
            refine lv_aload_n hx hb dX5_looks_85 rfl (lv_at hl 0 rfl) ?_
            refine va_get (D := D) (ci := 5) (v := .ref (Ad 4)) (C := RX5) (T := TX5) (N := 17) hx hb hts in5 hown hK hP 0 rfl rfl 3 (by decide) f20 (fun _ h9 => h9) rfl dX5_looks_86 ?_
            refine lv_iload_n hx hb dX5_looks_89 rfl (lv_at hl 1 rfl) ?_
            obtain ⟨g13, hf⟩ := gd_ob hf
            refine va_iald hx hb hK hP 4 0 rfl rfl g13 dX5_looks_90 ?_
            refine lv_iconst (v := 1) hx hb dX5_looks_91 (by decide) ?_
            refine lv_isub hx hb dX5_looks_92 ?_
            refine lv_iand hx hb dX5_looks_93 ?_
            obtain ⟨v14, ev14, hf⟩ := nm_ob hf
            refine tp_i ev14 ?_
            refine lv_istore (lv' := [(11, .int v14), (0, .ref (Ad 0)), (1, .int l1), (2, .int l2), (3, .int l3), (4, .int l4), (5, .int l5), (6, .int l6), (8, .int l8), (9, .int l9), (10, .int l10)]) hx hb dX5_looks_94 hl (by decide) rfl (fun ls hl => ?_)
            refine lv_aload_n hx hb dX5_looks_96 rfl (lv_at hl 1 rfl) ?_
            refine lv_iload_n hx hb dX5_looks_97 rfl (lv_at hl 2 rfl) ?_
            refine lv_iload hx hb dX5_looks_98 (lv_at hl 0 rfl) ?_
            obtain ⟨v15, ev15, hf⟩ := bd_ob hf
            refine call_i (As := [.int l1, .int v14]) (rest := []) ⟨hx, hb, hml, hown, hts⟩ (tX5_controlOf l D ca Ad _ σ l1 v14 v15 ev15) (cwV 2 hts gX5_looks_X5_controlOf rfl rfl rfl (by decide +kernel) ⟨Nat.le_of_ble_eq_true rfl, Nat.le_of_ble_eq_true rfl⟩) hN hK hP hD hA hS (fr_id _ _) rfl rfl rfl hl.1 rfl (lv_room (Nat.le_of_ble_eq_true rfl)) dX5_looks_100 ⟨Nat.le_refl _, Nat.le_refl _⟩ (fun H locs hP hD hS => ?_)
            refine lv_istore (lv' := [(12, .int v15), (11, .int v14), (0, .ref (Ad 0)), (1, .int l1), (2, .int l2), (3, .int l3), (4, .int l4), (5, .int l5), (6, .int l6), (8, .int l8), (9, .int l9), (10, .int l10)]) hx hb dX5_looks_103 hl (by decide) rfl (fun ls hl => ?_)
            refine lv_iload hx hb dX5_looks_105 (lv_at hl 10 rfl) ?_
            refine lv_if_ne (tgt := 117) hx hb dX5_looks_107 (by decide) (fun c16 => ?_) (fun c16 => ?_)
            · replace hf := it_n c16 hf
              refine lv_iconst (v := 1) hx hb dX5_looks_117 (by decide) ?_
              refine lv_goto (tgt := 122) hx hb dX5_looks_118 (by decide) ?_
              exact J122 _ _ _ _ _ _ _ _ _ _ _ _ _ _ hf hP hD hS (lv_sub hl [2, 3, 4, 5, 6, 7, 8, 9, 11, 1, 0] rfl)
            · replace hf := it_p c16 hf
              refine lv_iload hx hb dX5_looks_110 (lv_at hl 0 rfl) ?_
              refine lv_bipush (v := (-128)) hx hb dX5_looks_112 (by decide) ?_
              refine lv_icmp_ne (tgt := 121) hx hb dX5_looks_114 (by decide) (fun c17 => ?_) (fun c17 => ?_)
              · replace hf := it_n c17 hf
                refine lv_iconst (v := 0) hx hb dX5_looks_121 (by decide) ?_
                exact J122 _ _ _ _ _ _ _ _ _ _ _ _ _ _ hf hP hD hS (lv_sub hl [2, 3, 4, 5, 6, 7, 8, 9, 11, 1, 0] rfl)
              · replace hf := it_p c17 hf
                refine lv_iconst (v := 1) hx hb dX5_looks_117 (by decide) ?_
                refine lv_goto (tgt := 122) hx hb dX5_looks_118 (by decide) ?_
                exact J122 _ _ _ _ _ _ _ _ _ _ _ _ _ _ hf hP hD hS (lv_sub hl [2, 3, 4, 5, 6, 7, 8, 9, 11, 1, 0] rfl)
      intro H locs ls l1 l2 l3 l4 l5 l6 l7 hf hP hD hS hl
      replace hf : mm_looks_39 σ  (mm_looks_lp39 σ  n39) l1 l2 l3 l4 l5 l6 l7 = some r := hf
      unfold mm_looks_39 at hf
      refine lv_iload hx hb dX5_looks_39 (lv_at hl 7 rfl) ?_
      refine lv_if_ne (tgt := 209) hx hb dX5_looks_41 (by decide) (fun c6 => ?_) (fun c6 => ?_)
      · replace hf := it_n c6 hf
        exact J209 _ _ _ _ _ hf hP hD hS (lv_sub hl [5, 6] rfl)
      · replace hf := it_p c6 hf
        refine lv_bipush (v := 8) hx hb dX5_looks_44 (by decide) ?_
        refine lv_iload hx hb dX5_looks_46 (lv_at hl 5 rfl) ?_
        refine lv_imul hx hb dX5_looks_48 ?_
        refine lv_aload_n hx hb dX5_looks_49 rfl (lv_at hl 0 rfl) ?_
        refine va_get (D := D) (ci := 5) (v := .ref (Ad 4)) (C := RX5) (T := TX5) (N := 17) hx hb hts in5 hown hK hP 0 rfl rfl 3 (by decide) f20 (fun _ h9 => h9) rfl dX5_looks_50 ?_
        refine lv_iload_n hx hb dX5_looks_53 rfl (lv_at hl 1 rfl) ?_
        obtain ⟨g7, hf⟩ := gd_ob hf
        refine va_iald hx hb hK hP 4 0 rfl rfl g7 dX5_looks_54 ?_
        refine lv_icmp_ge (tgt := 209) hx hb dX5_looks_55 (by decide) (fun c8 => ?_) (fun c8 => ?_)
        · replace hf := it_p c8 hf
          exact J209 _ _ _ _ _ hf hP hD hS (lv_sub hl [5, 6] rfl)
        · replace hf := it_n c8 hf
          refine lv_iconst (v := 0) hx hb dX5_looks_58 (by decide) ?_
          refine lv_istore (lv' := [(8, .int 0), (0, .ref (Ad 0)), (1, .int l1), (2, .int l2), (3, .int l3), (4, .int l4), (5, .int l5), (6, .int l6), (7, .int l7)]) hx hb dX5_looks_59 hl (by decide) rfl (fun ls hl => ?_)
          refine lv_iconst (v := 0) hx hb dX5_looks_61 (by decide) ?_
          refine lv_istore (lv' := [(9, .int 0), (8, .int 0), (0, .ref (Ad 0)), (1, .int l1), (2, .int l2), (3, .int l3), (4, .int l4), (5, .int l5), (6, .int l6), (7, .int l7)]) hx hb dX5_looks_62 hl (by decide) rfl (fun ls hl => ?_)
          refine lv_iconst (v := 0) hx hb dX5_looks_64 (by decide) ?_
          refine lv_istore (lv' := [(10, .int 0), (9, .int 0), (8, .int 0), (0, .ref (Ad 0)), (1, .int l1), (2, .int l2), (3, .int l3), (4, .int l4), (5, .int l5), (6, .int l6), (7, .int l7)]) hx hb dX5_looks_65 hl (by decide) rfl (fun ls hl => ?_)
          exact J67 FU _ _ _ _ _ _ _ _ _ _ _ _ hf hP hD hS (lv_sub hl [3, 4, 5, 6, 7, 8, 9, 2, 1, 0] rfl)
  have J28 : ∀ (H : Heap) (locs : List Loc) (ls : Array Slot)  (l1 : Int32) (l2 : Int32) (l3 : Int32) (t0 : Int32), mm_looks_28 σ  l1 l2 l3 t0 = some r → va_P D vwCl (wM ca Ad σ) H → va_D A (wM ca Ad σ) → va_S A s.heap H locs → lv_has ls 13 [(0, .ref (Ad 0)), (1, .int l1), (2, .int l2), (3, .int l3)] → W p l e { frames := 2, cells := 0, slots := 0, locals := 44 } s m args below meth c H locs 0 0 Q (F0 m 28 ls [.int t0]) := by
    intro H locs ls l1 l2 l3 t0 hf hP hD hS hl
    unfold mm_looks_28 at hf
    refine lv_istore (lv' := [(4, .int t0), (0, .ref (Ad 0)), (1, .int l1), (2, .int l2), (3, .int l3)]) hx hb dX5_looks_28 hl (by decide) rfl (fun ls hl => ?_)
    refine lv_iconst (v := 0) hx hb dX5_looks_30 (by decide) ?_
    refine lv_istore (lv' := [(5, .int 0), (4, .int t0), (0, .ref (Ad 0)), (1, .int l1), (2, .int l2), (3, .int l3)]) hx hb dX5_looks_31 hl (by decide) rfl (fun ls hl => ?_)
    refine lv_iconst (v := 0) hx hb dX5_looks_33 (by decide) ?_
    refine lv_istore (lv' := [(6, .int 0), (5, .int 0), (4, .int t0), (0, .ref (Ad 0)), (1, .int l1), (2, .int l2), (3, .int l3)]) hx hb dX5_looks_34 hl (by decide) rfl (fun ls hl => ?_)
    refine lv_iconst (v := 0) hx hb dX5_looks_36 (by decide) ?_
    refine lv_istore (lv' := [(7, .int 0), (6, .int 0), (5, .int 0), (4, .int t0), (0, .ref (Ad 0)), (1, .int l1), (2, .int l2), (3, .int l3)]) hx hb dX5_looks_37 hl (by decide) rfl (fun ls hl => ?_)
    exact J39 FU _ _ _ _ _ _ _ _ _ _ hf hP hD hS (lv_sub hl [4, 5, 6, 7, 3, 2, 1, 0] rfl)
  unfold mm_looks at hf
  refine lv_aload_n hx hb dX5_looks_0 rfl (lv_at hl 0 rfl) ?_
  refine lv_iload_n hx hb dX5_looks_1 rfl (lv_at hl 2 rfl) ?_
  obtain ⟨v1, ev1, hf⟩ := bd_ob hf
  refine call_i (As := [.int a1]) (rest := []) ⟨hx, hb, hml, hown, hts⟩ (tX5_hashOf l D ca Ad _ σ a1 v1 ev1) (cwV 1 hts gX5_looks_X5_hashOf rfl rfl rfl (by decide +kernel) ⟨Nat.le_of_ble_eq_true rfl, Nat.le_of_ble_eq_true rfl⟩) hN hK hP hD hA hS (fr_id _ _) rfl rfl rfl hl.1 rfl (lv_room (Nat.le_of_ble_eq_true rfl)) dX5_looks_2 ⟨Nat.le_refl _, Nat.le_refl _⟩ (fun H locs hP hD hS => ?_)
  refine lv_bipush (v := 25) hx hb dX5_looks_5 (by decide) ?_
  refine lv_iushr (v := (ushr v1 25)) hx hb dX5_looks_7 rfl ?_
  obtain ⟨v2, ev2, hf⟩ := nm_ob hf
  refine tp_i ev2 ?_
  refine lv_istore_n (lv' := [(3, .int v2), (0, .ref (Ad 0)), (1, .int a0), (2, .int a1)]) hx hb dX5_looks_8 rfl hl (by decide) rfl (fun ls hl => ?_)
  refine lv_aload_n hx hb dX5_looks_9 rfl (lv_at hl 1 rfl) ?_
  refine va_get (D := D) (ci := 5) (v := .ref (Ad 4)) (C := RX5) (T := TX5) (N := 17) hx hb hts in5 hown hK hP 0 rfl rfl 3 (by decide) f20 (fun _ h9 => h9) rfl dX5_looks_10 ?_
  refine lv_iload_n hx hb dX5_looks_13 rfl (lv_at hl 2 rfl) ?_
  obtain ⟨g3, hf⟩ := gd_ob hf
  refine va_iald hx hb hK hP 4 0 rfl rfl g3 dX5_looks_14 ?_
  refine lv_if_ne (tgt := 22) hx hb dX5_looks_15 (by decide) (fun c4 => ?_) (fun c4 => ?_)
  · replace hf := it_n c4 hf
    refine lv_aload_n hx hb dX5_looks_22 rfl (lv_at hl 1 rfl) ?_
    refine lv_iload_n hx hb dX5_looks_23 rfl (lv_at hl 2 rfl) ?_
    refine lv_iload_n hx hb dX5_looks_24 rfl (lv_at hl 3 rfl) ?_
    obtain ⟨v5, ev5, hf⟩ := bd_ob hf
    refine call_i (As := [.int a0, .int a1]) (rest := []) ⟨hx, hb, hml, hown, hts⟩ (tX5_home l D ca Ad _ σ a0 a1 v5 ev5) (cwV 2 hts gX5_looks_X5_home rfl rfl rfl (by decide +kernel) ⟨Nat.le_of_ble_eq_true rfl, Nat.le_of_ble_eq_true rfl⟩) hN hK hP hD hA hS (fr_id _ _) rfl rfl rfl hl.1 rfl (lv_room (Nat.le_of_ble_eq_true rfl)) dX5_looks_25 ⟨Nat.le_refl _, Nat.le_refl _⟩ (fun H locs hP hD hS => ?_)
    exact J28 _ _ _ _ _ _ _ hf hP hD hS (lv_sub hl [1, 2, 3, 0] rfl)
  · replace hf := it_p c4 hf
    refine lv_iconst (v := 0) hx hb dX5_looks_18 (by decide) ?_
    refine lv_goto (tgt := 28) hx hb dX5_looks_19 (by decide) ?_
    exact J28 _ _ _ _ _ _ _ hf hP hD hS (lv_sub hl [1, 2, 3, 0] rfl)

def mm_looksBoth  (σ : MS) (a0 : Int32) : Option Int32 :=
  bd (mm_looks σ (m_present σ) a0) fun v1 =>
  bd (mm_slotOf σ (m_present σ) a0) fun v2 =>
  if v2 = (-1) then
    bd (mm_looks σ (1 - (m_present σ)) a0) fun v4 =>
    some (v1 + v4)
  else
    some v1
set_option maxHeartbeats 4000000 in
set_option maxRecDepth 100000 in
theorem tX5_looksBoth (l : Launch) (D : va_G) (ca : Nat → ClassId) (Ad : Nat → Nat) (sz : Nat)  (σ : MS) (a0 : Int32) (r : Int32) (hf : mm_looksBoth σ a0 = some r) : Ci l D ca yX5_looksBoth wsX5_looksBoth { frames := 3, cells := 0, slots := 0, locals := 76 } [.ref (Ad 0), .int a0] (wM ca Ad σ) sz r (wM ca Ad σ) := by
  refine body_of (cc := cX5_looksBoth) (maxL := 3) (ret := (some .int)) (fun A => Qi D ca r (wM ca Ad σ) A) (by decide) rfl (Nat.le_of_ble_eq_true rfl) ?_
  intro p e s m below meth c A ls hx hb hr hml hts hown hlocks hA hK hP hD hS hl hN
  have hl : lv_has ls 3 [(0, .ref (Ad 0)), (1, .int a0)] := hl
  have hret : ∀ (pc : Nat) (ls : Array Slot) (H : Heap) (locs : List Loc), decode cX5_looksBoth pc = .ok (.ireturn, 1) → va_P D vwCl (wM ca Ad σ) H → va_D A (wM ca Ad σ) → va_S A s.heap H locs → W p l e { frames := 3, cells := 0, slots := 0, locals := 76 } s m ([.ref (Ad 0), .int a0] : List Value).toArray below meth c H locs 0 0 (MQ below (Qi D ca r (wM ca Ad σ) A) ([.ref (Ad 0), .int a0] : List Value).toArray s 0 0 A) (F0 m pc ls [.int r]) := fun pc ls H locs hd hP hD hS => ret_i hx hb hr hlocks hK hP hD hS hd
  generalize MQ below (Qi D ca r (wM ca Ad σ) A) ([.ref (Ad 0), .int a0] : List Value).toArray s 0 0 A = Q at hret ⊢
  generalize ([.ref (Ad 0), .int a0] : List Value).toArray = args at hts hret ⊢
  have f64 := hts (.fieldLink RX5 64 "RobinRowModel" "present" "I") (by decide +kernel)
  have in5 : ∀ w ∈ u_ws RX5 TX5 17, w ∈ wsX5_looksBoth := by decide +kernel
  unfold mm_looksBoth at hf
  refine lv_aload_n hx hb dX5_looksBoth_0 rfl (lv_at hl 0 rfl) ?_
  refine lv_aload_n hx hb dX5_looksBoth_1 rfl (lv_at hl 0 rfl) ?_
  refine va_get (D := D) (ci := 5) (v := .int (m_present σ)) (C := RX5) (T := TX5) (N := 17) hx hb hts in5 hown hK hP 0 rfl rfl 5 (by decide) f64 (fun _ h9 => h9) rfl dX5_looksBoth_2 ?_
  refine lv_iload_n hx hb dX5_looksBoth_5 rfl (lv_at hl 1 rfl) ?_
  obtain ⟨v1, ev1, hf⟩ := bd_ob hf
  refine call_i (As := [.int (m_present σ), .int a0]) (rest := []) ⟨hx, hb, hml, hown, hts⟩ (tX5_looks l D ca Ad _ σ (m_present σ) a0 v1 ev1) (cwV 2 hts gX5_looksBoth_X5_looks rfl rfl rfl (by decide +kernel) ⟨Nat.le_of_ble_eq_true rfl, Nat.le_of_ble_eq_true rfl⟩) hN hK hP hD hA hS (fr_id _ _) rfl rfl rfl hl.1 rfl (lv_room (Nat.le_of_ble_eq_true rfl)) dX5_looksBoth_6 ⟨Nat.le_refl _, Nat.le_refl _⟩ (fun H locs hP hD hS => ?_)
  refine lv_istore_n (lv' := [(2, .int v1), (0, .ref (Ad 0)), (1, .int a0)]) hx hb dX5_looksBoth_9 rfl hl (by decide) rfl (fun ls hl => ?_)
  refine lv_aload_n hx hb dX5_looksBoth_10 rfl (lv_at hl 1 rfl) ?_
  refine lv_aload_n hx hb dX5_looksBoth_11 rfl (lv_at hl 1 rfl) ?_
  refine va_get (D := D) (ci := 5) (v := .int (m_present σ)) (C := RX5) (T := TX5) (N := 17) hx hb hts in5 hown hK hP 0 rfl rfl 5 (by decide) f64 (fun _ h9 => h9) rfl dX5_looksBoth_12 ?_
  refine lv_iload_n hx hb dX5_looksBoth_15 rfl (lv_at hl 2 rfl) ?_
  obtain ⟨v2, ev2, hf⟩ := bd_ob hf
  refine call_i (As := [.int (m_present σ), .int a0]) (rest := []) ⟨hx, hb, hml, hown, hts⟩ (tX5_slotOf l D ca Ad _ σ (m_present σ) a0 v2 ev2) (cwV 2 hts gX5_looksBoth_X5_slotOf rfl rfl rfl (by decide +kernel) ⟨Nat.le_of_ble_eq_true rfl, Nat.le_of_ble_eq_true rfl⟩) hN hK hP hD hA hS (fr_id _ _) rfl rfl rfl hl.1 rfl (lv_room (Nat.le_of_ble_eq_true rfl)) dX5_looksBoth_16 ⟨Nat.le_refl _, Nat.le_refl _⟩ (fun H locs hP hD hS => ?_)
  refine lv_iconst (v := (-1)) hx hb dX5_looksBoth_19 (by decide) ?_
  refine lv_icmp_ne (tgt := 39) hx hb dX5_looksBoth_20 (by decide) (fun c3 => ?_) (fun c3 => ?_)
  · replace hf := it_n c3 hf
    refine lv_iload_n hx hb dX5_looksBoth_39 rfl (lv_at hl 0 rfl) ?_
    obtain rfl := so1 hf
    exact hret _ _ _ _ dX5_looksBoth_40 hP hD hS
  · replace hf := it_p c3 hf
    refine lv_iload_n hx hb dX5_looksBoth_23 rfl (lv_at hl 0 rfl) ?_
    refine lv_aload_n hx hb dX5_looksBoth_24 rfl (lv_at hl 1 rfl) ?_
    refine lv_iconst (v := 1) hx hb dX5_looksBoth_25 (by decide) ?_
    refine lv_aload_n hx hb dX5_looksBoth_26 rfl (lv_at hl 1 rfl) ?_
    refine va_get (D := D) (ci := 5) (v := .int (m_present σ)) (C := RX5) (T := TX5) (N := 17) hx hb hts in5 hown hK hP 0 rfl rfl 5 (by decide) f64 (fun _ h9 => h9) rfl dX5_looksBoth_27 ?_
    refine lv_isub hx hb dX5_looksBoth_30 ?_
    refine lv_iload_n hx hb dX5_looksBoth_31 rfl (lv_at hl 2 rfl) ?_
    obtain ⟨v4, ev4, hf⟩ := bd_ob hf
    refine call_i (As := [.int (1 - (m_present σ)), .int a0]) (rest := [.int v1]) ⟨hx, hb, hml, hown, hts⟩ (tX5_looks l D ca Ad _ σ (1 - (m_present σ)) a0 v4 ev4) (cwV 2 hts gX5_looksBoth_X5_looks rfl rfl rfl (by decide +kernel) ⟨Nat.le_of_ble_eq_true rfl, Nat.le_of_ble_eq_true rfl⟩) hN hK hP hD hA hS (fr_id _ _) rfl rfl rfl hl.1 rfl (lv_room (Nat.le_of_ble_eq_true rfl)) dX5_looksBoth_32 ⟨Nat.le_refl _, Nat.le_refl _⟩ (fun H locs hP hD hS => ?_)
    refine lv_iadd hx hb dX5_looksBoth_35 ?_
    refine lv_goto (tgt := 40) hx hb dX5_looksBoth_36 (by decide) ?_
    obtain rfl := so1 hf
    exact hret _ _ _ _ dX5_looksBoth_40 hP hD hS

def mm_groups  (σ : MS) (a0 : Int32) : Option (Int32 × MS) :=
  nm (m_thrown' σ 0) fun s1 =>
  bd (mm_looksBoth s1 a0) fun v2 =>
  some ((v2 / 1000), s1)
set_option maxHeartbeats 4000000 in
set_option maxRecDepth 100000 in
theorem tX5_groups (l : Launch) (D : va_G) (ca : Nat → ClassId) (Ad : Nat → Nat) (sz : Nat)  (σ : MS) (a0 : Int32) (r : Int32) (σ9 : MS) (hf : mm_groups σ a0 = some (r, σ9)) : Ci l D ca yX5_groups wsX5_groups { frames := 4, cells := 0, slots := 0, locals := 98 } [.ref (Ad 0), .int a0] (wM ca Ad σ) sz r (wM ca Ad σ9) := by
  refine body_of (cc := cX5_groups) (maxL := 2) (ret := (some .int)) (fun A => Qi D ca r (wM ca Ad σ9) A) (by decide) rfl (Nat.le_of_ble_eq_true rfl) ?_
  intro p e s m below meth c A ls hx hb hr hml hts hown hlocks hA hK hP hD hS hl hN
  have hl : lv_has ls 2 [(0, .ref (Ad 0)), (1, .int a0)] := hl
  have hret : ∀ (pc : Nat) (ls : Array Slot) (H : Heap) (locs : List Loc), decode cX5_groups pc = .ok (.ireturn, 1) → va_P D vwCl (wM ca Ad σ9) H → va_D A (wM ca Ad σ9) → va_S A s.heap H locs → W p l e { frames := 4, cells := 0, slots := 0, locals := 98 } s m ([.ref (Ad 0), .int a0] : List Value).toArray below meth c H locs 0 0 (MQ below (Qi D ca r (wM ca Ad σ9) A) ([.ref (Ad 0), .int a0] : List Value).toArray s 0 0 A) (F0 m pc ls [.int r]) := fun pc ls H locs hd hP hD hS => ret_i hx hb hr hlocks hK hP hD hS hd
  generalize MQ below (Qi D ca r (wM ca Ad σ9) A) ([.ref (Ad 0), .int a0] : List Value).toArray s 0 0 A = Q at hret ⊢
  generalize ([.ref (Ad 0), .int a0] : List Value).toArray = args at hts hret ⊢
  have f49 := hts (.fieldLink RX5 49 "RobinRowModel" "thrown" "I") (by decide +kernel)
  have in5 : ∀ w ∈ u_ws RX5 TX5 17, w ∈ wsX5_groups := by decide +kernel
  unfold mm_groups at hf
  refine lv_aload_n hx hb dX5_groups_0 rfl (lv_at hl 0 rfl) ?_
  refine lv_iconst (v := 0) hx hb dX5_groups_1 (by decide) ?_
  obtain ⟨s1, es1, hf⟩ := nm_ob hf
  refine va_put (D := D) (ci := 5) (v := .int 0) (ty := .int) (C := RX5) (T := TX5) (N := 17) hx hb hts in5 tyX5 tyX5_ok nmX5 hown hK hP hD hS 0 rfl rfl 16 (by decide) f49 (fun _ h9 => h9) rfl (by decide +kernel) rfl rfl (Nat.le_of_ble_eq_true rfl) dX5_groups_2 (fun H locs hP hD hS => ?_)
  have hP : va_P D vwCl (wM ca Ad s1) H := by rw [← es1]; exact hP
  have hD : va_D A (wM ca Ad s1) := by rw [← es1]; exact hD
  refine lv_aload_n hx hb dX5_groups_5 rfl (lv_at hl 0 rfl) ?_
  refine lv_iload_n hx hb dX5_groups_6 rfl (lv_at hl 1 rfl) ?_
  obtain ⟨v2, ev2, hf⟩ := bd_ob hf
  refine call_i (As := [.int a0]) (rest := []) ⟨hx, hb, hml, hown, hts⟩ (tX5_looksBoth l D ca Ad _ s1 a0 v2 ev2) (cwV 1 hts gX5_groups_X5_looksBoth rfl rfl rfl (by decide +kernel) ⟨Nat.le_of_ble_eq_true rfl, Nat.le_of_ble_eq_true rfl⟩) hN hK hP hD hA hS (fr_id _ _) rfl rfl rfl hl.1 rfl (lv_room (Nat.le_of_ble_eq_true rfl)) dX5_groups_7 ⟨Nat.le_refl _, Nat.le_refl _⟩ (fun H locs hP hD hS => ?_)
  refine lv_sipush (v := 1000) hx hb dX5_groups_10 (by decide) ?_
  refine lv_idiv hx hb dX5_groups_13 (by decide) ?_
  obtain ⟨rfl, rfl⟩ := so2 hf
  exact hret _ _ _ _ dX5_groups_14 hP hD hS

def mm_comparisons  (σ : MS) (a0 : Int32) : Option (Int32 × MS) :=
  nm (m_thrown' σ 0) fun s1 =>
  bd (mm_looksBoth s1 a0) fun v2 =>
  some ((v2 - v2 / 1000 * 1000), s1)
set_option maxHeartbeats 4000000 in
set_option maxRecDepth 100000 in
theorem tX5_comparisons (l : Launch) (D : va_G) (ca : Nat → ClassId) (Ad : Nat → Nat) (sz : Nat)  (σ : MS) (a0 : Int32) (r : Int32) (σ9 : MS) (hf : mm_comparisons σ a0 = some (r, σ9)) : Ci l D ca yX5_comparisons wsX5_comparisons { frames := 4, cells := 0, slots := 0, locals := 98 } [.ref (Ad 0), .int a0] (wM ca Ad σ) sz r (wM ca Ad σ9) := by
  refine body_of (cc := cX5_comparisons) (maxL := 2) (ret := (some .int)) (fun A => Qi D ca r (wM ca Ad σ9) A) (by decide) rfl (Nat.le_of_ble_eq_true rfl) ?_
  intro p e s m below meth c A ls hx hb hr hml hts hown hlocks hA hK hP hD hS hl hN
  have hl : lv_has ls 2 [(0, .ref (Ad 0)), (1, .int a0)] := hl
  have hret : ∀ (pc : Nat) (ls : Array Slot) (H : Heap) (locs : List Loc), decode cX5_comparisons pc = .ok (.ireturn, 1) → va_P D vwCl (wM ca Ad σ9) H → va_D A (wM ca Ad σ9) → va_S A s.heap H locs → W p l e { frames := 4, cells := 0, slots := 0, locals := 98 } s m ([.ref (Ad 0), .int a0] : List Value).toArray below meth c H locs 0 0 (MQ below (Qi D ca r (wM ca Ad σ9) A) ([.ref (Ad 0), .int a0] : List Value).toArray s 0 0 A) (F0 m pc ls [.int r]) := fun pc ls H locs hd hP hD hS => ret_i hx hb hr hlocks hK hP hD hS hd
  generalize MQ below (Qi D ca r (wM ca Ad σ9) A) ([.ref (Ad 0), .int a0] : List Value).toArray s 0 0 A = Q at hret ⊢
  generalize ([.ref (Ad 0), .int a0] : List Value).toArray = args at hts hret ⊢
  have f49 := hts (.fieldLink RX5 49 "RobinRowModel" "thrown" "I") (by decide +kernel)
  have in5 : ∀ w ∈ u_ws RX5 TX5 17, w ∈ wsX5_comparisons := by decide +kernel
  unfold mm_comparisons at hf
  refine lv_aload_n hx hb dX5_comparisons_0 rfl (lv_at hl 0 rfl) ?_
  refine lv_iconst (v := 0) hx hb dX5_comparisons_1 (by decide) ?_
  obtain ⟨s1, es1, hf⟩ := nm_ob hf
  refine va_put (D := D) (ci := 5) (v := .int 0) (ty := .int) (C := RX5) (T := TX5) (N := 17) hx hb hts in5 tyX5 tyX5_ok nmX5 hown hK hP hD hS 0 rfl rfl 16 (by decide) f49 (fun _ h9 => h9) rfl (by decide +kernel) rfl rfl (Nat.le_of_ble_eq_true rfl) dX5_comparisons_2 (fun H locs hP hD hS => ?_)
  have hP : va_P D vwCl (wM ca Ad s1) H := by rw [← es1]; exact hP
  have hD : va_D A (wM ca Ad s1) := by rw [← es1]; exact hD
  refine lv_aload_n hx hb dX5_comparisons_5 rfl (lv_at hl 0 rfl) ?_
  refine lv_iload_n hx hb dX5_comparisons_6 rfl (lv_at hl 1 rfl) ?_
  obtain ⟨v2, ev2, hf⟩ := bd_ob hf
  refine call_i (As := [.int a0]) (rest := []) ⟨hx, hb, hml, hown, hts⟩ (tX5_looksBoth l D ca Ad _ s1 a0 v2 ev2) (cwV 1 hts gX5_comparisons_X5_looksBoth rfl rfl rfl (by decide +kernel) ⟨Nat.le_of_ble_eq_true rfl, Nat.le_of_ble_eq_true rfl⟩) hN hK hP hD hA hS (fr_id _ _) rfl rfl rfl hl.1 rfl (lv_room (Nat.le_of_ble_eq_true rfl)) dX5_comparisons_7 ⟨Nat.le_refl _, Nat.le_refl _⟩ (fun H locs hP hD hS => ?_)
  refine lv_sipush (v := 1000) hx hb dX5_comparisons_10 (by decide) ?_
  refine lv_irem hx hb dX5_comparisons_13 (by decide) ?_
  obtain ⟨rfl, rfl⟩ := so2 hf
  exact hret _ _ _ _ dX5_comparisons_14 hP hD hS

def mm_displaced_19   (σ : MS) (l1 : Int32) (t1 : Int32) : Option (Int32 × MS) :=
  bd2 (mm_isFine σ t1) fun v3 s4 =>
  if v3 = 0 then
    some (0, s4)
  else
    bd2 (mm_carries s4 (m_present s4) l1 0 1) fun v6 s7 =>
    some (v6, s7)
def mm_displaced  (σ : MS) (a0 : Int32) : Option (Int32 × MS) :=
  bd (mm_slotOf σ (m_present σ) a0) fun v1 =>
  if v1 = (-1) then
    mm_displaced_19 σ a0 0
  else
    mm_displaced_19 σ a0 1
set_option maxHeartbeats 4000000 in
set_option maxRecDepth 100000 in
theorem tX5_displaced (l : Launch) (D : va_G) (ca : Nat → ClassId) (Ad : Nat → Nat) (sz : Nat)  (σ : MS) (a0 : Int32) (r : Int32) (σ9 : MS) (hf : mm_displaced σ a0 = some (r, σ9)) : Ci l D ca yX5_displaced wsX5_displaced { frames := 4, cells := 0, slots := 0, locals := 98 } [.ref (Ad 0), .int a0] (wM ca Ad σ) sz r (wM ca Ad σ9) := by
  refine body_of (cc := cX5_displaced) (maxL := 2) (ret := (some .int)) (fun A => Qi D ca r (wM ca Ad σ9) A) (by decide) rfl (Nat.le_of_ble_eq_true rfl) ?_
  intro p e s m below meth c A ls hx hb hr hml hts hown hlocks hA hK hP hD hS hl hN
  have hl : lv_has ls 2 [(0, .ref (Ad 0)), (1, .int a0)] := hl
  have hret : ∀ (pc : Nat) (ls : Array Slot) (H : Heap) (locs : List Loc), decode cX5_displaced pc = .ok (.ireturn, 1) → va_P D vwCl (wM ca Ad σ9) H → va_D A (wM ca Ad σ9) → va_S A s.heap H locs → W p l e { frames := 4, cells := 0, slots := 0, locals := 98 } s m ([.ref (Ad 0), .int a0] : List Value).toArray below meth c H locs 0 0 (MQ below (Qi D ca r (wM ca Ad σ9) A) ([.ref (Ad 0), .int a0] : List Value).toArray s 0 0 A) (F0 m pc ls [.int r]) := fun pc ls H locs hd hP hD hS => ret_i hx hb hr hlocks hK hP hD hS hd
  generalize MQ below (Qi D ca r (wM ca Ad σ9) A) ([.ref (Ad 0), .int a0] : List Value).toArray s 0 0 A = Q at hret ⊢
  generalize ([.ref (Ad 0), .int a0] : List Value).toArray = args at hts hret ⊢
  have f64 := hts (.fieldLink RX5 64 "RobinRowModel" "present" "I") (by decide +kernel)
  have in5 : ∀ w ∈ u_ws RX5 TX5 17, w ∈ wsX5_displaced := by decide +kernel
  have J19 : ∀ (H : Heap) (locs : List Loc) (ls : Array Slot) (σ : MS) (l1 : Int32) (t1 : Int32), mm_displaced_19  σ l1 t1 = some (r, σ9) → va_P D vwCl (wM ca Ad σ) H → va_D A (wM ca Ad σ) → va_S A s.heap H locs → lv_has ls 2 [(0, .ref (Ad 0)), (1, .int l1)] → W p l e { frames := 4, cells := 0, slots := 0, locals := 98 } s m args below meth c H locs 0 0 Q (F0 m 19 ls [.int t1, .ref (Ad 0)]) := by
    intro H locs ls σ l1 t1 hf hP hD hS hl
    unfold mm_displaced_19 at hf
    obtain ⟨v3, s4, ev3, hf⟩ := bd2_ob hf
    refine call_i (As := [.int t1]) (rest := []) ⟨hx, hb, hml, hown, hts⟩ (tX5_isFine l D ca Ad _ σ t1 v3 s4 ev3) (cwV 1 hts gX5_displaced_X5_isFine rfl rfl rfl (by decide +kernel) ⟨Nat.le_of_ble_eq_true rfl, Nat.le_of_ble_eq_true rfl⟩) hN hK hP hD hA hS (fr_id _ _) rfl rfl rfl hl.1 rfl (lv_room (Nat.le_of_ble_eq_true rfl)) dX5_displaced_19 ⟨Nat.le_refl _, Nat.le_refl _⟩ (fun H locs hP hD hS => ?_)
    refine lv_if_eq (tgt := 39) hx hb dX5_displaced_22 (by decide) (fun c5 => ?_) (fun c5 => ?_)
    · replace hf := it_p c5 hf
      refine lv_iconst (v := 0) hx hb dX5_displaced_39 (by decide) ?_
      obtain ⟨rfl, rfl⟩ := so2 hf
      exact hret _ _ _ _ dX5_displaced_40 hP hD hS
    · replace hf := it_n c5 hf
      refine lv_aload_n hx hb dX5_displaced_25 rfl (lv_at hl 0 rfl) ?_
      refine lv_aload_n hx hb dX5_displaced_26 rfl (lv_at hl 0 rfl) ?_
      refine va_get (D := D) (ci := 5) (v := .int (m_present s4)) (C := RX5) (T := TX5) (N := 17) hx hb hts in5 hown hK hP 0 rfl rfl 5 (by decide) f64 (fun _ h9 => h9) rfl dX5_displaced_27 ?_
      refine lv_iload_n hx hb dX5_displaced_30 rfl (lv_at hl 1 rfl) ?_
      refine lv_iconst (v := 0) hx hb dX5_displaced_31 (by decide) ?_
      refine lv_iconst (v := 1) hx hb dX5_displaced_32 (by decide) ?_
      obtain ⟨v6, s7, ev6, hf⟩ := bd2_ob hf
      refine call_i (As := [.int (m_present s4), .int l1, .int 0, .int 1]) (rest := []) ⟨hx, hb, hml, hown, hts⟩ (tX5_carries l D ca Ad _ s4 (m_present s4) l1 0 1 v6 s7 ev6) (cwV 4 hts gX5_displaced_X5_carries rfl rfl rfl (by decide +kernel) ⟨Nat.le_of_ble_eq_true rfl, Nat.le_of_ble_eq_true rfl⟩) hN hK hP hD hA hS (fr_id _ _) rfl rfl rfl hl.1 rfl (lv_room (Nat.le_of_ble_eq_true rfl)) dX5_displaced_33 ⟨Nat.le_refl _, Nat.le_refl _⟩ (fun H locs hP hD hS => ?_)
      refine lv_goto (tgt := 40) hx hb dX5_displaced_36 (by decide) ?_
      obtain ⟨rfl, rfl⟩ := so2 hf
      exact hret _ _ _ _ dX5_displaced_40 hP hD hS
  unfold mm_displaced at hf
  refine lv_aload_n hx hb dX5_displaced_0 rfl (lv_at hl 0 rfl) ?_
  refine lv_aload_n hx hb dX5_displaced_1 rfl (lv_at hl 0 rfl) ?_
  refine lv_aload_n hx hb dX5_displaced_2 rfl (lv_at hl 0 rfl) ?_
  refine va_get (D := D) (ci := 5) (v := .int (m_present σ)) (C := RX5) (T := TX5) (N := 17) hx hb hts in5 hown hK hP 0 rfl rfl 5 (by decide) f64 (fun _ h9 => h9) rfl dX5_displaced_3 ?_
  refine lv_iload_n hx hb dX5_displaced_6 rfl (lv_at hl 1 rfl) ?_
  obtain ⟨v1, ev1, hf⟩ := bd_ob hf
  refine call_i (As := [.int (m_present σ), .int a0]) (rest := [.ref (Ad 0)]) ⟨hx, hb, hml, hown, hts⟩ (tX5_slotOf l D ca Ad _ σ (m_present σ) a0 v1 ev1) (cwV 2 hts gX5_displaced_X5_slotOf rfl rfl rfl (by decide +kernel) ⟨Nat.le_of_ble_eq_true rfl, Nat.le_of_ble_eq_true rfl⟩) hN hK hP hD hA hS (fr_id _ _) rfl rfl rfl hl.1 rfl (lv_room (Nat.le_of_ble_eq_true rfl)) dX5_displaced_7 ⟨Nat.le_refl _, Nat.le_refl _⟩ (fun H locs hP hD hS => ?_)
  refine lv_iconst (v := (-1)) hx hb dX5_displaced_10 (by decide) ?_
  refine lv_icmp_eq (tgt := 18) hx hb dX5_displaced_11 (by decide) (fun c2 => ?_) (fun c2 => ?_)
  · replace hf := it_p c2 hf
    refine lv_iconst (v := 0) hx hb dX5_displaced_18 (by decide) ?_
    exact J19 _ _ _ _ _ _ hf hP hD hS (lv_sub hl [0, 1] rfl)
  · replace hf := it_n c2 hf
    refine lv_iconst (v := 1) hx hb dX5_displaced_14 (by decide) ?_
    refine lv_goto (tgt := 19) hx hb dX5_displaced_15 (by decide) ?_
    exact J19 _ _ _ _ _ _ hf hP hD hS (lv_sub hl [0, 1] rfl)

def mm_plain_241  (k38 : MS → Int64 → Int32 → Option MS) (σ : MS) (l1 : Int64) (l3 : Int32) (t1 : Int32) : Option MS :=
  nm (m_plainMost' σ t1) fun s34 =>
  nm (l3 + 1) fun v35 =>
  k38 s34 l1 v35
def mm_plain_169  (k38 : MS → Int64 → Int32 → Option MS) (k169 : MS → Int64 → Int32 → Int32 → Int32 → Option MS) (σ : MS) (l1 : Int64) (l3 : Int32) (l5 : Int32) (l6 : Int32) : Option MS :=
  gd l5 256 <|
  if (m_plainFull σ l5.toNatClampNeg) = 0 then
    gd l5 256 <|
    nm (m_plainFull' σ (upd (m_plainFull σ) l5.toNatClampNeg 1)) fun s27 =>
    nm (m_plainSum' s27 ((m_plainSum s27) + l6)) fun s28 =>
    if l6 ≤ (m_plainMost s28) then
      mm_plain_241 k38 s28 l1 l3 (m_plainMost s28)
    else
      mm_plain_241 k38 s28 l1 l3 l6
  else
    gd (m_present σ) 2 <|
    nm ((l5 + 1) &&& ((m_slots σ (m_present σ).toNatClampNeg) - 1)) fun v31 =>
    nm (l6 + 1) fun v32 =>
    k169 σ l1 l3 v31 v32
def mm_plain_lp169  (k38 : MS → Int64 → Int32 → Option MS) : Nat → MS → Int64 → Int32 → Int32 → Int32 → Option MS := itF (fun _ _ _ _ _ => none) (fun k => mm_plain_169  k38 k)
def mm_plain_134  (k38 : MS → Int64 → Int32 → Option MS) (k57 : MS → Int64 → Int32 → Int32 → Int32 → Option MS) (σ : MS) (l1 : Int64) (l3 : Int32) (l4 : Int32) (l5 : Int32) : Option MS :=
  nm (l5 + 1) fun v33 =>
  k57 σ l1 l3 l4 v33
def mm_plain_130  (k38 : MS → Int64 → Int32 → Option MS) (k57 : MS → Int64 → Int32 → Int32 → Int32 → Option MS) (σ : MS) (l1 : Int64) (l3 : Int32) (l5 : Int32) (l6 : Int32) : Option MS :=
  mm_plain_134 k38 k57 σ l1 l3 l6 l5
def mm_plain_57  (k38 : MS → Int64 → Int32 → Option MS) (k57 : MS → Int64 → Int32 → Int32 → Int32 → Option MS) (σ : MS) (l1 : Int64) (l3 : Int32) (l4 : Int32) (l5 : Int32) : Option MS :=
  gd (m_present σ) 2 <|
  if (m_slots σ (m_present σ).toNatClampNeg) ≤ l5 then
    gd l4 512 <|
    nm ((m_keys σ l4.toNatClampNeg).toInt64) fun v12 =>
    gd l4 512 <|
    bd (mm_home σ (m_present σ) (m_keys σ l4.toNatClampNeg)) fun v14 =>
    mm_plain_lp169 k38 FU σ v12 l3 v14 0
  else
    nm ((256 * (m_present σ)) + l5) fun v15 =>
    gd v15 512 <|
    if (m_full σ v15.toNatClampNeg) = 0 then
      mm_plain_134 k38 k57 σ l1 l3 l4 l5
    else
      gd v15 512 <|
      if (lg_cmp ((m_keys σ v15.toNatClampNeg).toInt64) l1) ≤ 0 then
        mm_plain_134 k38 k57 σ l1 l3 l4 l5
      else
        if l4 = (-1) then
          mm_plain_130 k38 k57 σ l1 l3 l5 v15
        else
          gd v15 512 <|
          gd l4 512 <|
          if (m_keys σ l4.toNatClampNeg) ≤ (m_keys σ v15.toNatClampNeg) then
            mm_plain_134 k38 k57 σ l1 l3 l4 l5
          else
            mm_plain_130 k38 k57 σ l1 l3 l5 v15
def mm_plain_lp57  (k38 : MS → Int64 → Int32 → Option MS) : Nat → MS → Int64 → Int32 → Int32 → Int32 → Option MS := itF (fun _ _ _ _ _ => none) (fun k => mm_plain_57  k38 k)
def mm_plain_38  (k38 : MS → Int64 → Int32 → Option MS) (σ : MS) (l1 : Int64) (l3 : Int32) : Option MS :=
  gd (m_present σ) 2 <|
  if (m_many σ (m_present σ).toNatClampNeg) ≤ l3 then
    some σ
  else
    mm_plain_lp57 k38 FU σ l1 l3 (-1) 0
def mm_plain_lp38   : Nat → MS → Int64 → Int32 → Option MS := itF (fun _ _ _ => none) (fun k => mm_plain_38   k)
def mm_plain_2  (k2 : MS → Int32 → Option MS) (σ : MS) (l1 : Int32) : Option MS :=
  if 256 ≤ l1 then
    nm (m_plainMost' σ (-1)) fun s2 =>
    nm (m_plainSum' s2 0) fun s3 =>
    mm_plain_lp38 FU s3 (-3000000000) 0
  else
    gd l1 256 <|
    nm (m_plainFull' σ (upd (m_plainFull σ) l1.toNatClampNeg 0)) fun s5 =>
    nm (l1 + 1) fun v6 =>
    k2 s5 v6
def mm_plain_lp2   : Nat → MS → Int32 → Option MS := itF (fun _ _ => none) (fun k => mm_plain_2   k)
def mm_plain  (σ : MS)  : Option MS :=
  mm_plain_lp2 FU σ 0
set_option maxHeartbeats 4000000 in
set_option maxRecDepth 100000 in
theorem tX5_plain (l : Launch) (D : va_G) (ca : Nat → ClassId) (Ad : Nat → Nat) (sz : Nat)  (σ : MS)  (σ9 : MS) (hf : mm_plain σ = some σ9) : Cv l D ca yX5_plain wsX5_plain { frames := 2, cells := 0, slots := 0, locals := 44 } [.ref (Ad 0)] (wM ca Ad σ) sz (wM ca Ad σ9) := by
  refine body_of (cc := cX5_plain) (maxL := 7) (ret := none) (fun A => Qv D ca (wM ca Ad σ9) A) (by decide) rfl (Nat.le_of_ble_eq_true rfl) ?_
  intro p e s m below meth c A ls hx hb hr hml hts hown hlocks hA hK hP hD hS hl hN
  have hl : lv_has ls 7 [(0, .ref (Ad 0))] := hl
  have hret : ∀ (pc : Nat) (ls : Array Slot) (H : Heap) (locs : List Loc), decode cX5_plain pc = .ok (.return_, 1) → va_P D vwCl (wM ca Ad σ9) H → va_D A (wM ca Ad σ9) → va_S A s.heap H locs → W p l e { frames := 2, cells := 0, slots := 0, locals := 44 } s m ([.ref (Ad 0)] : List Value).toArray below meth c H locs 0 0 (MQ below (Qv D ca (wM ca Ad σ9) A) ([.ref (Ad 0)] : List Value).toArray s 0 0 A) (F0 m pc ls []) := fun pc ls H locs hd hP hD hS => ret_v hx hb hr hlocks hK hP hD hS hd
  generalize MQ below (Qv D ca (wM ca Ad σ9) A) ([.ref (Ad 0)] : List Value).toArray s 0 0 A = Q at hret ⊢
  generalize ([.ref (Ad 0)] : List Value).toArray = args at hts hret ⊢
  have f134 := hts (.fieldLink RX5 134 "RobinRowModel" "plainMost" "I") (by decide +kernel)
  have f137 := hts (.fieldLink RX5 137 "RobinRowModel" "plainSum" "I") (by decide +kernel)
  have f16 := hts (.fieldLink RX5 16 "RobinRowModel" "isFull" "[Z") (by decide +kernel)
  have f20 := hts (.fieldLink RX5 20 "RobinRowModel" "slots" "[I") (by decide +kernel)
  have f23 := hts (.fieldLink RX5 23 "RobinRowModel" "many" "[I") (by decide +kernel)
  have f46 := hts (.fieldLink RX5 46 "RobinRowModel" "plainFull" "[Z") (by decide +kernel)
  have f64 := hts (.fieldLink RX5 64 "RobinRowModel" "present" "I") (by decide +kernel)
  have f7 := hts (.fieldLink RX5 7 "RobinRowModel" "keys" "[I") (by decide +kernel)
  have in5 : ∀ w ∈ u_ws RX5 TX5 17, w ∈ wsX5_plain := by decide +kernel
  have J38 : ∀ (n38 : Nat) (H : Heap) (locs : List Loc) (ls : Array Slot) (σ : MS) (l1 : Int64) (l3 : Int32), mm_plain_lp38  n38 σ l1 l3 = some σ9 → va_P D vwCl (wM ca Ad σ) H → va_D A (wM ca Ad σ) → va_S A s.heap H locs → lv_has ls 7 [(0, .ref (Ad 0)), (1, .long l1), (3, .int l3)] → W p l e { frames := 2, cells := 0, slots := 0, locals := 44 } s m args below meth c H locs 0 0 Q (F0 m 38 ls []) := by
    intro n38
    induction n38 with
    | zero =>
      intro H locs ls σ l1 l3 hf hP hD hS hl
      exact absurd hf (fun h => by cases h)
    | succ n38 ih38 =>
      have J241 : ∀ (H : Heap) (locs : List Loc) (ls : Array Slot) (σ : MS) (l1 : Int64) (l3 : Int32) (t1 : Int32), mm_plain_241 (mm_plain_lp38  n38) σ l1 l3 t1 = some σ9 → va_P D vwCl (wM ca Ad σ) H → va_D A (wM ca Ad σ) → va_S A s.heap H locs → lv_has ls 7 [(0, .ref (Ad 0)), (1, .long l1), (3, .int l3)] → W p l e { frames := 2, cells := 0, slots := 0, locals := 44 } s m args below meth c H locs 0 0 Q (F0 m 241 ls [.int t1, .ref (Ad 0)]) := by
        intro H locs ls σ l1 l3 t1 hf hP hD hS hl
        unfold mm_plain_241 at hf
        obtain ⟨s34, es34, hf⟩ := nm_ob hf
        refine va_put (D := D) (ci := 5) (v := .int t1) (ty := .int) (C := RX5) (T := TX5) (N := 17) hx hb hts in5 tyX5 tyX5_ok nmX5 hown hK hP hD hS 0 rfl rfl 14 (by decide) f134 (fun _ h9 => h9) rfl (by decide +kernel) rfl rfl (Nat.le_of_ble_eq_true rfl) dX5_plain_241 (fun H locs hP hD hS => ?_)
        have hP : va_P D vwCl (wM ca Ad s34) H := by rw [← es34]; exact hP
        have hD : va_D A (wM ca Ad s34) := by rw [← es34]; exact hD
        obtain ⟨v35, ev35, hf⟩ := nm_ob hf
        refine lv_iinc (v := v35) (lv' := [(3, .int v35), (0, .ref (Ad 0)), (1, .long l1)]) hx hb dX5_plain_244 hl (k := 2) rfl (by rw [← ev35]; rfl) (by decide) rfl (fun ls hl => ?_)
        refine lv_goto (tgt := 38) hx hb dX5_plain_247 (by decide) ?_
        exact ih38 _ _ _ _ _ _ hf hP hD hS (lv_sub hl [1, 2, 0] rfl)
      have J169 : ∀ (n169 : Nat) (H : Heap) (locs : List Loc) (ls : Array Slot) (σ : MS) (l1 : Int64) (l3 : Int32) (l5 : Int32) (l6 : Int32), mm_plain_lp169 (mm_plain_lp38  n38) n169 σ l1 l3 l5 l6 = some σ9 → va_P D vwCl (wM ca Ad σ) H → va_D A (wM ca Ad σ) → va_S A s.heap H locs → lv_has ls 7 [(0, .ref (Ad 0)), (1, .long l1), (3, .int l3), (5, .int l5), (6, .int l6)] → W p l e { frames := 2, cells := 0, slots := 0, locals := 44 } s m args below meth c H locs 0 0 Q (F0 m 169 ls []) := by
        intro n169
        induction n169 with
        | zero =>
          intro H locs ls σ l1 l3 l5 l6 hf hP hD hS hl
          exact absurd hf (fun h => by cases h)
        | succ n169 ih169 =>
          intro H locs ls σ l1 l3 l5 l6 hf hP hD hS hl
          replace hf : mm_plain_169 (mm_plain_lp38  n38) (mm_plain_lp169 (mm_plain_lp38  n38) n169) σ l1 l3 l5 l6 = some σ9 := hf
          unfold mm_plain_169 at hf
          refine lv_aload_n hx hb dX5_plain_169 rfl (lv_at hl 0 rfl) ?_
          refine va_get (D := D) (ci := 5) (v := .ref (Ad 11)) (C := RX5) (T := TX5) (N := 17) hx hb hts in5 hown hK hP 0 rfl rfl 13 (by decide) f46 (fun _ h9 => h9) rfl dX5_plain_170 ?_
          refine lv_iload hx hb dX5_plain_173 (lv_at hl 3 rfl) ?_
          obtain ⟨g24, hf⟩ := gd_ob hf
          refine va_zald hx hb hK hP 11 2 rfl rfl g24 dX5_plain_175 ?_
          refine lv_if_eq (tgt := 203) hx hb dX5_plain_176 (by decide) (fun c25 => ?_) (fun c25 => ?_)
          · replace hf := it_p c25 hf
            refine lv_aload_n hx hb dX5_plain_203 rfl (lv_at hl 0 rfl) ?_
            refine va_get (D := D) (ci := 5) (v := .ref (Ad 11)) (C := RX5) (T := TX5) (N := 17) hx hb hts in5 hown hK hP 0 rfl rfl 13 (by decide) f46 (fun _ h9 => h9) rfl dX5_plain_204 ?_
            refine lv_iload hx hb dX5_plain_207 (lv_at hl 3 rfl) ?_
            refine lv_iconst (v := 1) hx hb dX5_plain_209 (by decide) ?_
            obtain ⟨g26, hf⟩ := gd_ob hf
            obtain ⟨s27, es27, hf⟩ := nm_ob hf
            refine va_zast hx hb hK hP hD hS 11 2 rfl rfl g26 dX5_plain_210 (fun H locs hP hD hS => ?_)
            have hP : va_P D vwCl (wM ca Ad s27) H := by rw [← es27]; exact hP
            have hD : va_D A (wM ca Ad s27) := by rw [← es27]; exact hD
            refine lv_aload_n hx hb dX5_plain_211 rfl (lv_at hl 0 rfl) ?_
            refine lv_dup hx hb dX5_plain_212 rfl ?_
            refine va_get (D := D) (ci := 5) (v := .int (m_plainSum s27)) (C := RX5) (T := TX5) (N := 17) hx hb hts in5 hown hK hP 0 rfl rfl 15 (by decide) f137 (fun _ h9 => h9) rfl dX5_plain_213 ?_
            refine lv_iload hx hb dX5_plain_216 (lv_at hl 4 rfl) ?_
            refine lv_iadd hx hb dX5_plain_218 ?_
            obtain ⟨s28, es28, hf⟩ := nm_ob hf
            refine va_put (D := D) (ci := 5) (v := .int ((m_plainSum s27) + l6)) (ty := .int) (C := RX5) (T := TX5) (N := 17) hx hb hts in5 tyX5 tyX5_ok nmX5 hown hK hP hD hS 0 rfl rfl 15 (by decide) f137 (fun _ h9 => h9) rfl (by decide +kernel) rfl rfl (Nat.le_of_ble_eq_true rfl) dX5_plain_219 (fun H locs hP hD hS => ?_)
            have hP : va_P D vwCl (wM ca Ad s28) H := by rw [← es28]; exact hP
            have hD : va_D A (wM ca Ad s28) := by rw [← es28]; exact hD
            refine lv_aload_n hx hb dX5_plain_222 rfl (lv_at hl 0 rfl) ?_
            refine lv_iload hx hb dX5_plain_223 (lv_at hl 4 rfl) ?_
            refine lv_aload_n hx hb dX5_plain_225 rfl (lv_at hl 0 rfl) ?_
            refine va_get (D := D) (ci := 5) (v := .int (m_plainMost s28)) (C := RX5) (T := TX5) (N := 17) hx hb hts in5 hown hK hP 0 rfl rfl 14 (by decide) f134 (fun _ h9 => h9) rfl dX5_plain_226 ?_
            refine lv_icmp_le (tgt := 237) hx hb dX5_plain_229 (by decide) (fun c29 => ?_) (fun c29 => ?_)
            · replace hf := it_p c29 hf
              refine lv_aload_n hx hb dX5_plain_237 rfl (lv_at hl 0 rfl) ?_
              refine va_get (D := D) (ci := 5) (v := .int (m_plainMost s28)) (C := RX5) (T := TX5) (N := 17) hx hb hts in5 hown hK hP 0 rfl rfl 14 (by decide) f134 (fun _ h9 => h9) rfl dX5_plain_238 ?_
              exact J241 _ _ _ _ _ _ _ hf hP hD hS (lv_sub hl [0, 1, 2] rfl)
            · replace hf := it_n c29 hf
              refine lv_iload hx hb dX5_plain_232 (lv_at hl 4 rfl) ?_
              refine lv_goto (tgt := 241) hx hb dX5_plain_234 (by decide) ?_
              exact J241 _ _ _ _ _ _ _ hf hP hD hS (lv_sub hl [0, 1, 2] rfl)
          · replace hf := it_n c25 hf
            refine lv_iload hx hb dX5_plain_179 (lv_at hl 3 rfl) ?_
            refine lv_iconst (v := 1) hx hb dX5_plain_181 (by decide) ?_
            refine lv_iadd hx hb dX5_plain_182 ?_
            refine lv_aload_n hx hb dX5_plain_183 rfl (lv_at hl 0 rfl) ?_
            refine va_get (D := D) (ci := 5) (v := .ref (Ad 4)) (C := RX5) (T := TX5) (N := 17) hx hb hts in5 hown hK hP 0 rfl rfl 3 (by decide) f20 (fun _ h9 => h9) rfl dX5_plain_184 ?_
            refine lv_aload_n hx hb dX5_plain_187 rfl (lv_at hl 0 rfl) ?_
            refine va_get (D := D) (ci := 5) (v := .int (m_present σ)) (C := RX5) (T := TX5) (N := 17) hx hb hts in5 hown hK hP 0 rfl rfl 5 (by decide) f64 (fun _ h9 => h9) rfl dX5_plain_188 ?_
            obtain ⟨g30, hf⟩ := gd_ob hf
            refine va_iald hx hb hK hP 4 0 rfl rfl g30 dX5_plain_191 ?_
            refine lv_iconst (v := 1) hx hb dX5_plain_192 (by decide) ?_
            refine lv_isub hx hb dX5_plain_193 ?_
            refine lv_iand hx hb dX5_plain_194 ?_
            obtain ⟨v31, ev31, hf⟩ := nm_ob hf
            refine tp_i ev31 ?_
            refine lv_istore (lv' := [(5, .int v31), (0, .ref (Ad 0)), (1, .long l1), (3, .int l3), (6, .int l6)]) hx hb dX5_plain_195 hl (by decide) rfl (fun ls hl => ?_)
            obtain ⟨v32, ev32, hf⟩ := nm_ob hf
            refine lv_iinc (v := v32) (lv' := [(6, .int v32), (5, .int v31), (0, .ref (Ad 0)), (1, .long l1), (3, .int l3)]) hx hb dX5_plain_197 hl (k := 4) rfl (by rw [← ev32]; rfl) (by decide) rfl (fun ls hl => ?_)
            refine lv_goto (tgt := 169) hx hb dX5_plain_200 (by decide) ?_
            exact ih169 _ _ _ _ _ _ _ _ hf hP hD hS (lv_sub hl [2, 3, 4, 1, 0] rfl)
      have J57 : ∀ (n57 : Nat) (H : Heap) (locs : List Loc) (ls : Array Slot) (σ : MS) (l1 : Int64) (l3 : Int32) (l4 : Int32) (l5 : Int32), mm_plain_lp57 (mm_plain_lp38  n38) n57 σ l1 l3 l4 l5 = some σ9 → va_P D vwCl (wM ca Ad σ) H → va_D A (wM ca Ad σ) → va_S A s.heap H locs → lv_has ls 7 [(0, .ref (Ad 0)), (1, .long l1), (3, .int l3), (4, .int l4), (5, .int l5)] → W p l e { frames := 2, cells := 0, slots := 0, locals := 44 } s m args below meth c H locs 0 0 Q (F0 m 57 ls []) := by
        intro n57
        induction n57 with
        | zero =>
          intro H locs ls σ l1 l3 l4 l5 hf hP hD hS hl
          exact absurd hf (fun h => by cases h)
        | succ n57 ih57 =>
          have J134 : ∀ (H : Heap) (locs : List Loc) (ls : Array Slot) (σ : MS) (l1 : Int64) (l3 : Int32) (l4 : Int32) (l5 : Int32), mm_plain_134 (mm_plain_lp38  n38) (mm_plain_lp57 (mm_plain_lp38  n38) n57) σ l1 l3 l4 l5 = some σ9 → va_P D vwCl (wM ca Ad σ) H → va_D A (wM ca Ad σ) → va_S A s.heap H locs → lv_has ls 7 [(0, .ref (Ad 0)), (1, .long l1), (3, .int l3), (4, .int l4), (5, .int l5)] → W p l e { frames := 2, cells := 0, slots := 0, locals := 44 } s m args below meth c H locs 0 0 Q (F0 m 134 ls []) := by
            intro H locs ls σ l1 l3 l4 l5 hf hP hD hS hl
            unfold mm_plain_134 at hf
            obtain ⟨v33, ev33, hf⟩ := nm_ob hf
            refine lv_iinc (v := v33) (lv' := [(5, .int v33), (0, .ref (Ad 0)), (1, .long l1), (3, .int l3), (4, .int l4)]) hx hb dX5_plain_134 hl (k := 4) rfl (by rw [← ev33]; rfl) (by decide) rfl (fun ls hl => ?_)
            refine lv_goto (tgt := 57) hx hb dX5_plain_137 (by decide) ?_
            exact ih57 _ _ _ _ _ _ _ _ hf hP hD hS (lv_sub hl [1, 2, 3, 4, 0] rfl)
          have J130 : ∀ (H : Heap) (locs : List Loc) (ls : Array Slot) (σ : MS) (l1 : Int64) (l3 : Int32) (l5 : Int32) (l6 : Int32), mm_plain_130 (mm_plain_lp38  n38) (mm_plain_lp57 (mm_plain_lp38  n38) n57) σ l1 l3 l5 l6 = some σ9 → va_P D vwCl (wM ca Ad σ) H → va_D A (wM ca Ad σ) → va_S A s.heap H locs → lv_has ls 7 [(0, .ref (Ad 0)), (1, .long l1), (3, .int l3), (5, .int l5), (6, .int l6)] → W p l e { frames := 2, cells := 0, slots := 0, locals := 44 } s m args below meth c H locs 0 0 Q (F0 m 130 ls []) := by
            intro H locs ls σ l1 l3 l5 l6 hf hP hD hS hl
            unfold mm_plain_130 at hf
            refine lv_iload hx hb dX5_plain_130 (lv_at hl 4 rfl) ?_
            refine lv_istore (lv' := [(4, .int l6), (0, .ref (Ad 0)), (1, .long l1), (3, .int l3), (5, .int l5), (6, .int l6)]) hx hb dX5_plain_132 hl (by decide) rfl (fun ls hl => ?_)
            exact J134 _ _ _ _ _ _ _ _ hf hP hD hS (lv_sub hl [1, 2, 3, 0, 4] rfl)
          intro H locs ls σ l1 l3 l4 l5 hf hP hD hS hl
          replace hf : mm_plain_57 (mm_plain_lp38  n38) (mm_plain_lp57 (mm_plain_lp38  n38) n57) σ l1 l3 l4 l5 = some σ9 := hf
          unfold mm_plain_57 at hf
          refine lv_iload hx hb dX5_plain_57 (lv_at hl 4 rfl) ?_
          refine lv_aload_n hx hb dX5_plain_59 rfl (lv_at hl 0 rfl) ?_
          refine va_get (D := D) (ci := 5) (v := .ref (Ad 4)) (C := RX5) (T := TX5) (N := 17) hx hb hts in5 hown hK hP 0 rfl rfl 3 (by decide) f20 (fun _ h9 => h9) rfl dX5_plain_60 ?_
          refine lv_aload_n hx hb dX5_plain_63 rfl (lv_at hl 0 rfl) ?_
          refine va_get (D := D) (ci := 5) (v := .int (m_present σ)) (C := RX5) (T := TX5) (N := 17) hx hb hts in5 hown hK hP 0 rfl rfl 5 (by decide) f64 (fun _ h9 => h9) rfl dX5_plain_64 ?_
          obtain ⟨g9, hf⟩ := gd_ob hf
          refine va_iald hx hb hK hP 4 0 rfl rfl g9 dX5_plain_67 ?_
          refine lv_icmp_ge (tgt := 140) hx hb dX5_plain_68 (by decide) (fun c10 => ?_) (fun c10 => ?_)
          · replace hf := it_p c10 hf
            refine lv_aload_n hx hb dX5_plain_140 rfl (lv_at hl 0 rfl) ?_
            refine va_get (D := D) (ci := 5) (v := .ref (Ad 1)) (C := RX5) (T := TX5) (N := 17) hx hb hts in5 hown hK hP 0 rfl rfl 0 (by decide) f7 (fun _ h9 => h9) rfl dX5_plain_141 ?_
            refine lv_iload hx hb dX5_plain_144 (lv_at hl 3 rfl) ?_
            obtain ⟨g11, hf⟩ := gd_ob hf
            refine va_iald hx hb hK hP 1 0 rfl rfl g11 dX5_plain_146 ?_
            refine lv_i2l (v := ((m_keys σ l4.toNatClampNeg).toInt64)) hx hb dX5_plain_147 rfl ?_
            obtain ⟨v12, ev12, hf⟩ := nm_ob hf
            refine tp_l ev12 ?_
            refine lv_lstore_n (lv' := [(1, .long v12), (0, .ref (Ad 0)), (3, .int l3), (4, .int l4), (5, .int l5)]) hx hb dX5_plain_148 rfl hl (by decide) rfl (fun ls hl => ?_)
            refine lv_aload_n hx hb dX5_plain_149 rfl (lv_at hl 1 rfl) ?_
            refine lv_aload_n hx hb dX5_plain_150 rfl (lv_at hl 1 rfl) ?_
            refine va_get (D := D) (ci := 5) (v := .int (m_present σ)) (C := RX5) (T := TX5) (N := 17) hx hb hts in5 hown hK hP 0 rfl rfl 5 (by decide) f64 (fun _ h9 => h9) rfl dX5_plain_151 ?_
            refine lv_aload_n hx hb dX5_plain_154 rfl (lv_at hl 1 rfl) ?_
            refine va_get (D := D) (ci := 5) (v := .ref (Ad 1)) (C := RX5) (T := TX5) (N := 17) hx hb hts in5 hown hK hP 0 rfl rfl 0 (by decide) f7 (fun _ h9 => h9) rfl dX5_plain_155 ?_
            refine lv_iload hx hb dX5_plain_158 (lv_at hl 3 rfl) ?_
            obtain ⟨g13, hf⟩ := gd_ob hf
            refine va_iald hx hb hK hP 1 0 rfl rfl g13 dX5_plain_160 ?_
            obtain ⟨v14, ev14, hf⟩ := bd_ob hf
            refine call_i (As := [.int (m_present σ), .int (m_keys σ l4.toNatClampNeg)]) (rest := []) ⟨hx, hb, hml, hown, hts⟩ (tX5_home l D ca Ad _ σ (m_present σ) (m_keys σ l4.toNatClampNeg) v14 ev14) (cwV 2 hts gX5_plain_X5_home rfl rfl rfl (by decide +kernel) ⟨Nat.le_of_ble_eq_true rfl, Nat.le_of_ble_eq_true rfl⟩) hN hK hP hD hA hS (fr_id _ _) rfl rfl rfl hl.1 rfl (lv_room (Nat.le_of_ble_eq_true rfl)) dX5_plain_161 ⟨Nat.le_refl _, Nat.le_refl _⟩ (fun H locs hP hD hS => ?_)
            refine lv_istore (lv' := [(5, .int v14), (1, .long v12), (0, .ref (Ad 0)), (3, .int l3), (4, .int l4)]) hx hb dX5_plain_164 hl (by decide) rfl (fun ls hl => ?_)
            refine lv_iconst (v := 0) hx hb dX5_plain_166 (by decide) ?_
            refine lv_istore (lv' := [(6, .int 0), (5, .int v14), (1, .long v12), (0, .ref (Ad 0)), (3, .int l3), (4, .int l4)]) hx hb dX5_plain_167 hl (by decide) rfl (fun ls hl => ?_)
            exact J169 FU _ _ _ _ _ _ _ _ hf hP hD hS (lv_sub hl [3, 2, 4, 1, 0] rfl)
          · replace hf := it_n c10 hf
            refine lv_sipush (v := 256) hx hb dX5_plain_71 (by decide) ?_
            refine lv_aload_n hx hb dX5_plain_74 rfl (lv_at hl 0 rfl) ?_
            refine va_get (D := D) (ci := 5) (v := .int (m_present σ)) (C := RX5) (T := TX5) (N := 17) hx hb hts in5 hown hK hP 0 rfl rfl 5 (by decide) f64 (fun _ h9 => h9) rfl dX5_plain_75 ?_
            refine lv_imul hx hb dX5_plain_78 ?_
            refine lv_iload hx hb dX5_plain_79 (lv_at hl 4 rfl) ?_
            refine lv_iadd hx hb dX5_plain_81 ?_
            obtain ⟨v15, ev15, hf⟩ := nm_ob hf
            refine tp_i ev15 ?_
            refine lv_istore (lv' := [(6, .int v15), (0, .ref (Ad 0)), (1, .long l1), (3, .int l3), (4, .int l4), (5, .int l5)]) hx hb dX5_plain_82 hl (by decide) rfl (fun ls hl => ?_)
            refine lv_aload_n hx hb dX5_plain_84 rfl (lv_at hl 1 rfl) ?_
            refine va_get (D := D) (ci := 5) (v := .ref (Ad 3)) (C := RX5) (T := TX5) (N := 17) hx hb hts in5 hown hK hP 0 rfl rfl 2 (by decide) f16 (fun _ h9 => h9) rfl dX5_plain_85 ?_
            refine lv_iload hx hb dX5_plain_88 (lv_at hl 0 rfl) ?_
            obtain ⟨g16, hf⟩ := gd_ob hf
            refine va_zald hx hb hK hP 3 2 rfl rfl g16 dX5_plain_90 ?_
            refine lv_if_eq (tgt := 134) hx hb dX5_plain_91 (by decide) (fun c17 => ?_) (fun c17 => ?_)
            · replace hf := it_p c17 hf
              exact J134 _ _ _ _ _ _ _ _ hf hP hD hS (lv_sub hl [1, 2, 3, 4, 5] rfl)
            · replace hf := it_n c17 hf
              refine lv_aload_n hx hb dX5_plain_94 rfl (lv_at hl 1 rfl) ?_
              refine va_get (D := D) (ci := 5) (v := .ref (Ad 1)) (C := RX5) (T := TX5) (N := 17) hx hb hts in5 hown hK hP 0 rfl rfl 0 (by decide) f7 (fun _ h9 => h9) rfl dX5_plain_95 ?_
              refine lv_iload hx hb dX5_plain_98 (lv_at hl 0 rfl) ?_
              obtain ⟨g18, hf⟩ := gd_ob hf
              refine va_iald hx hb hK hP 1 0 rfl rfl g18 dX5_plain_100 ?_
              refine lv_i2l (v := ((m_keys σ v15.toNatClampNeg).toInt64)) hx hb dX5_plain_101 rfl ?_
              refine lv_lload_n hx hb dX5_plain_102 rfl (lv_at hl 2 rfl) ?_
              refine W.lcmp hx hb dX5_plain_103 ?_
              refine lv_if_le (tgt := 134) hx hb dX5_plain_104 (by decide) (fun c19 => ?_) (fun c19 => ?_)
              · replace hf := it_p c19 hf
                exact J134 _ _ _ _ _ _ _ _ hf hP hD hS (lv_sub hl [1, 2, 3, 4, 5] rfl)
              · replace hf := it_n c19 hf
                refine lv_iload hx hb dX5_plain_107 (lv_at hl 4 rfl) ?_
                refine lv_iconst (v := (-1)) hx hb dX5_plain_109 (by decide) ?_
                refine lv_icmp_eq (tgt := 130) hx hb dX5_plain_110 (by decide) (fun c20 => ?_) (fun c20 => ?_)
                · replace hf := it_p c20 hf
                  exact J130 _ _ _ _ _ _ _ _ hf hP hD hS (lv_sub hl [1, 2, 3, 5, 0] rfl)
                · replace hf := it_n c20 hf
                  refine lv_aload_n hx hb dX5_plain_113 rfl (lv_at hl 1 rfl) ?_
                  refine va_get (D := D) (ci := 5) (v := .ref (Ad 1)) (C := RX5) (T := TX5) (N := 17) hx hb hts in5 hown hK hP 0 rfl rfl 0 (by decide) f7 (fun _ h9 => h9) rfl dX5_plain_114 ?_
                  refine lv_iload hx hb dX5_plain_117 (lv_at hl 0 rfl) ?_
                  obtain ⟨g21, hf⟩ := gd_ob hf
                  refine va_iald hx hb hK hP 1 0 rfl rfl g21 dX5_plain_119 ?_
                  refine lv_aload_n hx hb dX5_plain_120 rfl (lv_at hl 1 rfl) ?_
                  refine va_get (D := D) (ci := 5) (v := .ref (Ad 1)) (C := RX5) (T := TX5) (N := 17) hx hb hts in5 hown hK hP 0 rfl rfl 0 (by decide) f7 (fun _ h9 => h9) rfl dX5_plain_121 ?_
                  refine lv_iload hx hb dX5_plain_124 (lv_at hl 4 rfl) ?_
                  obtain ⟨g22, hf⟩ := gd_ob hf
                  refine va_iald hx hb hK hP 1 0 rfl rfl g22 dX5_plain_126 ?_
                  refine lv_icmp_ge (tgt := 134) hx hb dX5_plain_127 (by decide) (fun c23 => ?_) (fun c23 => ?_)
                  · replace hf := it_p c23 hf
                    exact J134 _ _ _ _ _ _ _ _ hf hP hD hS (lv_sub hl [1, 2, 3, 4, 5] rfl)
                  · replace hf := it_n c23 hf
                    exact J130 _ _ _ _ _ _ _ _ hf hP hD hS (lv_sub hl [1, 2, 3, 5, 0] rfl)
      intro H locs ls σ l1 l3 hf hP hD hS hl
      replace hf : mm_plain_38  (mm_plain_lp38  n38) σ l1 l3 = some σ9 := hf
      unfold mm_plain_38 at hf
      refine lv_iload_n hx hb dX5_plain_38 rfl (lv_at hl 2 rfl) ?_
      refine lv_aload_n hx hb dX5_plain_39 rfl (lv_at hl 0 rfl) ?_
      refine va_get (D := D) (ci := 5) (v := .ref (Ad 5)) (C := RX5) (T := TX5) (N := 17) hx hb hts in5 hown hK hP 0 rfl rfl 4 (by decide) f23 (fun _ h9 => h9) rfl dX5_plain_40 ?_
      refine lv_aload_n hx hb dX5_plain_43 rfl (lv_at hl 0 rfl) ?_
      refine va_get (D := D) (ci := 5) (v := .int (m_present σ)) (C := RX5) (T := TX5) (N := 17) hx hb hts in5 hown hK hP 0 rfl rfl 5 (by decide) f64 (fun _ h9 => h9) rfl dX5_plain_44 ?_
      obtain ⟨g7, hf⟩ := gd_ob hf
      refine va_iald hx hb hK hP 5 0 rfl rfl g7 dX5_plain_47 ?_
      refine lv_icmp_ge (tgt := 250) hx hb dX5_plain_48 (by decide) (fun c8 => ?_) (fun c8 => ?_)
      · replace hf := it_p c8 hf
        obtain rfl := so1 hf
        exact hret _ _ _ _ dX5_plain_250 hP hD hS
      · replace hf := it_n c8 hf
        refine lv_iconst (v := (-1)) hx hb dX5_plain_51 (by decide) ?_
        refine lv_istore (lv' := [(4, .int (-1)), (0, .ref (Ad 0)), (1, .long l1), (3, .int l3)]) hx hb dX5_plain_52 hl (by decide) rfl (fun ls hl => ?_)
        refine lv_iconst (v := 0) hx hb dX5_plain_54 (by decide) ?_
        refine lv_istore (lv' := [(5, .int 0), (4, .int (-1)), (0, .ref (Ad 0)), (1, .long l1), (3, .int l3)]) hx hb dX5_plain_55 hl (by decide) rfl (fun ls hl => ?_)
        exact J57 FU _ _ _ _ _ _ _ _ hf hP hD hS (lv_sub hl [2, 3, 4, 1, 0] rfl)
  have J2 : ∀ (n2 : Nat) (H : Heap) (locs : List Loc) (ls : Array Slot) (σ : MS) (l1 : Int32), mm_plain_lp2  n2 σ l1 = some σ9 → va_P D vwCl (wM ca Ad σ) H → va_D A (wM ca Ad σ) → va_S A s.heap H locs → lv_has ls 7 [(0, .ref (Ad 0)), (1, .int l1)] → W p l e { frames := 2, cells := 0, slots := 0, locals := 44 } s m args below meth c H locs 0 0 Q (F0 m 2 ls []) := by
    intro n2
    induction n2 with
    | zero =>
      intro H locs ls σ l1 hf hP hD hS hl
      exact absurd hf (fun h => by cases h)
    | succ n2 ih2 =>
      intro H locs ls σ l1 hf hP hD hS hl
      replace hf : mm_plain_2  (mm_plain_lp2  n2) σ l1 = some σ9 := hf
      unfold mm_plain_2 at hf
      refine lv_iload_n hx hb dX5_plain_2 rfl (lv_at hl 1 rfl) ?_
      refine lv_sipush (v := 256) hx hb dX5_plain_3 (by decide) ?_
      refine lv_icmp_ge (tgt := 22) hx hb dX5_plain_6 (by decide) (fun c1 => ?_) (fun c1 => ?_)
      · replace hf := it_p c1 hf
        refine lv_aload_n hx hb dX5_plain_22 rfl (lv_at hl 0 rfl) ?_
        refine lv_iconst (v := (-1)) hx hb dX5_plain_23 (by decide) ?_
        obtain ⟨s2, es2, hf⟩ := nm_ob hf
        refine va_put (D := D) (ci := 5) (v := .int (-1)) (ty := .int) (C := RX5) (T := TX5) (N := 17) hx hb hts in5 tyX5 tyX5_ok nmX5 hown hK hP hD hS 0 rfl rfl 14 (by decide) f134 (fun _ h9 => h9) rfl (by decide +kernel) rfl rfl (Nat.le_of_ble_eq_true rfl) dX5_plain_24 (fun H locs hP hD hS => ?_)
        have hP : va_P D vwCl (wM ca Ad s2) H := by rw [← es2]; exact hP
        have hD : va_D A (wM ca Ad s2) := by rw [← es2]; exact hD
        refine lv_aload_n hx hb dX5_plain_27 rfl (lv_at hl 0 rfl) ?_
        refine lv_iconst (v := 0) hx hb dX5_plain_28 (by decide) ?_
        obtain ⟨s3, es3, hf⟩ := nm_ob hf
        refine va_put (D := D) (ci := 5) (v := .int 0) (ty := .int) (C := RX5) (T := TX5) (N := 17) hx hb hts in5 tyX5 tyX5_ok nmX5 hown hK hP hD hS 0 rfl rfl 15 (by decide) f137 (fun _ h9 => h9) rfl (by decide +kernel) rfl rfl (Nat.le_of_ble_eq_true rfl) dX5_plain_29 (fun H locs hP hD hS => ?_)
        have hP : va_P D vwCl (wM ca Ad s3) H := by rw [← es3]; exact hP
        have hD : va_D A (wM ca Ad s3) := by rw [← es3]; exact hD
        refine lv_ldc2 (v := (-3000000000)) hx hb hown (hts (.constantLong RX5 140 (-3000000000)) (by decide +kernel)) dX5_plain_32 ?_
        refine lv_lstore_n (lv' := [(1, .long (-3000000000)), (0, .ref (Ad 0))]) hx hb dX5_plain_35 rfl hl (by decide) rfl (fun ls hl => ?_)
        refine lv_iconst (v := 0) hx hb dX5_plain_36 (by decide) ?_
        refine lv_istore_n (lv' := [(3, .int 0), (1, .long (-3000000000)), (0, .ref (Ad 0))]) hx hb dX5_plain_37 rfl hl (by decide) rfl (fun ls hl => ?_)
        exact J38 FU _ _ _ _ _ _ hf hP hD hS (lv_sub hl [2, 1, 0] rfl)
      · replace hf := it_n c1 hf
        refine lv_aload_n hx hb dX5_plain_9 rfl (lv_at hl 0 rfl) ?_
        refine va_get (D := D) (ci := 5) (v := .ref (Ad 11)) (C := RX5) (T := TX5) (N := 17) hx hb hts in5 hown hK hP 0 rfl rfl 13 (by decide) f46 (fun _ h9 => h9) rfl dX5_plain_10 ?_
        refine lv_iload_n hx hb dX5_plain_13 rfl (lv_at hl 1 rfl) ?_
        refine lv_iconst (v := 0) hx hb dX5_plain_14 (by decide) ?_
        obtain ⟨g4, hf⟩ := gd_ob hf
        obtain ⟨s5, es5, hf⟩ := nm_ob hf
        refine va_zast hx hb hK hP hD hS 11 2 rfl rfl g4 dX5_plain_15 (fun H locs hP hD hS => ?_)
        have hP : va_P D vwCl (wM ca Ad s5) H := by rw [← es5]; exact hP
        have hD : va_D A (wM ca Ad s5) := by rw [← es5]; exact hD
        obtain ⟨v6, ev6, hf⟩ := nm_ob hf
        refine lv_iinc (v := v6) (lv' := [(1, .int v6), (0, .ref (Ad 0))]) hx hb dX5_plain_16 hl (k := 1) rfl (by rw [← ev6]; rfl) (by decide) rfl (fun ls hl => ?_)
        refine lv_goto (tgt := 2) hx hb dX5_plain_19 (by decide) ?_
        exact ih2 _ _ _ _ _ hf hP hD hS (lv_sub hl [1, 0] rfl)
  unfold mm_plain at hf
  refine lv_iconst (v := 0) hx hb dX5_plain_0 (by decide) ?_
  refine lv_istore_n (lv' := [(1, .int 0), (0, .ref (Ad 0))]) hx hb dX5_plain_1 rfl hl (by decide) rfl (fun ls hl => ?_)
  exact J2 FU _ _ _ _ _ hf hP hD hS (lv_sub hl [1, 0] rfl)

def mm_plainTotal  (σ : MS)  : Option (Int32 × MS) :=
  nm (m_thrown' σ 0) fun s1 =>
  bd (mm_plain s1) fun s3 =>
  some ((m_plainSum s3), s3)
set_option maxHeartbeats 4000000 in
set_option maxRecDepth 100000 in
theorem tX5_plainTotal (l : Launch) (D : va_G) (ca : Nat → ClassId) (Ad : Nat → Nat) (sz : Nat)  (σ : MS)  (r : Int32) (σ9 : MS) (hf : mm_plainTotal σ = some (r, σ9)) : Ci l D ca yX5_plainTotal wsX5_plainTotal { frames := 3, cells := 0, slots := 0, locals := 70 } [.ref (Ad 0)] (wM ca Ad σ) sz r (wM ca Ad σ9) := by
  refine body_of (cc := cX5_plainTotal) (maxL := 1) (ret := (some .int)) (fun A => Qi D ca r (wM ca Ad σ9) A) (by decide) rfl (Nat.le_of_ble_eq_true rfl) ?_
  intro p e s m below meth c A ls hx hb hr hml hts hown hlocks hA hK hP hD hS hl hN
  have hl : lv_has ls 1 [(0, .ref (Ad 0))] := hl
  have hret : ∀ (pc : Nat) (ls : Array Slot) (H : Heap) (locs : List Loc), decode cX5_plainTotal pc = .ok (.ireturn, 1) → va_P D vwCl (wM ca Ad σ9) H → va_D A (wM ca Ad σ9) → va_S A s.heap H locs → W p l e { frames := 3, cells := 0, slots := 0, locals := 70 } s m ([.ref (Ad 0)] : List Value).toArray below meth c H locs 0 0 (MQ below (Qi D ca r (wM ca Ad σ9) A) ([.ref (Ad 0)] : List Value).toArray s 0 0 A) (F0 m pc ls [.int r]) := fun pc ls H locs hd hP hD hS => ret_i hx hb hr hlocks hK hP hD hS hd
  generalize MQ below (Qi D ca r (wM ca Ad σ9) A) ([.ref (Ad 0)] : List Value).toArray s 0 0 A = Q at hret ⊢
  generalize ([.ref (Ad 0)] : List Value).toArray = args at hts hret ⊢
  have f137 := hts (.fieldLink RX5 137 "RobinRowModel" "plainSum" "I") (by decide +kernel)
  have f49 := hts (.fieldLink RX5 49 "RobinRowModel" "thrown" "I") (by decide +kernel)
  have in5 : ∀ w ∈ u_ws RX5 TX5 17, w ∈ wsX5_plainTotal := by decide +kernel
  unfold mm_plainTotal at hf
  refine lv_aload_n hx hb dX5_plainTotal_0 rfl (lv_at hl 0 rfl) ?_
  refine lv_iconst (v := 0) hx hb dX5_plainTotal_1 (by decide) ?_
  obtain ⟨s1, es1, hf⟩ := nm_ob hf
  refine va_put (D := D) (ci := 5) (v := .int 0) (ty := .int) (C := RX5) (T := TX5) (N := 17) hx hb hts in5 tyX5 tyX5_ok nmX5 hown hK hP hD hS 0 rfl rfl 16 (by decide) f49 (fun _ h9 => h9) rfl (by decide +kernel) rfl rfl (Nat.le_of_ble_eq_true rfl) dX5_plainTotal_2 (fun H locs hP hD hS => ?_)
  have hP : va_P D vwCl (wM ca Ad s1) H := by rw [← es1]; exact hP
  have hD : va_D A (wM ca Ad s1) := by rw [← es1]; exact hD
  refine lv_aload_n hx hb dX5_plainTotal_5 rfl (lv_at hl 0 rfl) ?_
  obtain ⟨s3, es3, hf⟩ := bd_ob hf
  refine call_v (As := []) (rest := []) ⟨hx, hb, hml, hown, hts⟩ (tX5_plain l D ca Ad _ s1 s3 es3) (cwV 0 hts gX5_plainTotal_X5_plain rfl rfl rfl (by decide +kernel) ⟨Nat.le_of_ble_eq_true rfl, Nat.le_of_ble_eq_true rfl⟩) hN hK hP hD hA hS (fr_id _ _) rfl rfl rfl hl.1 rfl (lv_room (Nat.le_of_ble_eq_true rfl)) dX5_plainTotal_6 ⟨Nat.le_refl _, Nat.le_refl _⟩ (fun H locs hP hD hS => ?_)
  refine lv_aload_n hx hb dX5_plainTotal_9 rfl (lv_at hl 0 rfl) ?_
  refine va_get (D := D) (ci := 5) (v := .int (m_plainSum s3)) (C := RX5) (T := TX5) (N := 17) hx hb hts in5 hown hK hP 0 rfl rfl 15 (by decide) f137 (fun _ h9 => h9) rfl dX5_plainTotal_10 ?_
  obtain ⟨rfl, rfl⟩ := so2 hf
  exact hret _ _ _ _ dX5_plainTotal_13 hP hD hS

def mm_plainLongest  (σ : MS)  : Option (Int32 × MS) :=
  nm (m_thrown' σ 0) fun s1 =>
  bd (mm_plain s1) fun s3 =>
  some ((m_plainMost s3), s3)
set_option maxHeartbeats 4000000 in
set_option maxRecDepth 100000 in
theorem tX5_plainLongest (l : Launch) (D : va_G) (ca : Nat → ClassId) (Ad : Nat → Nat) (sz : Nat)  (σ : MS)  (r : Int32) (σ9 : MS) (hf : mm_plainLongest σ = some (r, σ9)) : Ci l D ca yX5_plainLongest wsX5_plainLongest { frames := 3, cells := 0, slots := 0, locals := 70 } [.ref (Ad 0)] (wM ca Ad σ) sz r (wM ca Ad σ9) := by
  refine body_of (cc := cX5_plainLongest) (maxL := 1) (ret := (some .int)) (fun A => Qi D ca r (wM ca Ad σ9) A) (by decide) rfl (Nat.le_of_ble_eq_true rfl) ?_
  intro p e s m below meth c A ls hx hb hr hml hts hown hlocks hA hK hP hD hS hl hN
  have hl : lv_has ls 1 [(0, .ref (Ad 0))] := hl
  have hret : ∀ (pc : Nat) (ls : Array Slot) (H : Heap) (locs : List Loc), decode cX5_plainLongest pc = .ok (.ireturn, 1) → va_P D vwCl (wM ca Ad σ9) H → va_D A (wM ca Ad σ9) → va_S A s.heap H locs → W p l e { frames := 3, cells := 0, slots := 0, locals := 70 } s m ([.ref (Ad 0)] : List Value).toArray below meth c H locs 0 0 (MQ below (Qi D ca r (wM ca Ad σ9) A) ([.ref (Ad 0)] : List Value).toArray s 0 0 A) (F0 m pc ls [.int r]) := fun pc ls H locs hd hP hD hS => ret_i hx hb hr hlocks hK hP hD hS hd
  generalize MQ below (Qi D ca r (wM ca Ad σ9) A) ([.ref (Ad 0)] : List Value).toArray s 0 0 A = Q at hret ⊢
  generalize ([.ref (Ad 0)] : List Value).toArray = args at hts hret ⊢
  have f134 := hts (.fieldLink RX5 134 "RobinRowModel" "plainMost" "I") (by decide +kernel)
  have f49 := hts (.fieldLink RX5 49 "RobinRowModel" "thrown" "I") (by decide +kernel)
  have in5 : ∀ w ∈ u_ws RX5 TX5 17, w ∈ wsX5_plainLongest := by decide +kernel
  unfold mm_plainLongest at hf
  refine lv_aload_n hx hb dX5_plainLongest_0 rfl (lv_at hl 0 rfl) ?_
  refine lv_iconst (v := 0) hx hb dX5_plainLongest_1 (by decide) ?_
  obtain ⟨s1, es1, hf⟩ := nm_ob hf
  refine va_put (D := D) (ci := 5) (v := .int 0) (ty := .int) (C := RX5) (T := TX5) (N := 17) hx hb hts in5 tyX5 tyX5_ok nmX5 hown hK hP hD hS 0 rfl rfl 16 (by decide) f49 (fun _ h9 => h9) rfl (by decide +kernel) rfl rfl (Nat.le_of_ble_eq_true rfl) dX5_plainLongest_2 (fun H locs hP hD hS => ?_)
  have hP : va_P D vwCl (wM ca Ad s1) H := by rw [← es1]; exact hP
  have hD : va_D A (wM ca Ad s1) := by rw [← es1]; exact hD
  refine lv_aload_n hx hb dX5_plainLongest_5 rfl (lv_at hl 0 rfl) ?_
  obtain ⟨s3, es3, hf⟩ := bd_ob hf
  refine call_v (As := []) (rest := []) ⟨hx, hb, hml, hown, hts⟩ (tX5_plain l D ca Ad _ s1 s3 es3) (cwV 0 hts gX5_plainLongest_X5_plain rfl rfl rfl (by decide +kernel) ⟨Nat.le_of_ble_eq_true rfl, Nat.le_of_ble_eq_true rfl⟩) hN hK hP hD hA hS (fr_id _ _) rfl rfl rfl hl.1 rfl (lv_room (Nat.le_of_ble_eq_true rfl)) dX5_plainLongest_6 ⟨Nat.le_refl _, Nat.le_refl _⟩ (fun H locs hP hD hS => ?_)
  refine lv_aload_n hx hb dX5_plainLongest_9 rfl (lv_at hl 0 rfl) ?_
  refine va_get (D := D) (ci := 5) (v := .int (m_plainMost s3)) (C := RX5) (T := TX5) (N := 17) hx hb hts in5 hown hK hP 0 rfl rfl 14 (by decide) f134 (fun _ h9 => h9) rfl dX5_plainLongest_10 ?_
  obtain ⟨rfl, rfl⟩ := so2 hf
  exact hret _ _ _ _ dX5_plainLongest_13 hP hD hS
