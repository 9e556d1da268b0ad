def jj_low   (a0 : Int32) (a1 : Int32) : Option Int32 :=
  g0 a1 <|
  some ((a0 &&& 2147483647) - (a0 &&& 2147483647) / a1 * a1)
set_option maxHeartbeats 4000000 in
set_option maxRecDepth 100000 in
theorem tL_low (l : Launch) (D : va_G) (ca : Nat → ClassId)  (sz : Nat)   (a0 : Int32) (a1 : Int32) (r : Int32) (hf : jj_low a0 a1 = some r) : Ci l D ca yL_low wsL_low { frames := 0, cells := 0, slots := 0, locals := 0 } [.int a0, .int a1] ([]) sz r ([]) := by
  refine body_of (cc := cL_low) (maxL := 2) (ret := (some .int)) (fun A => Qi D ca r ([]) A) (by decide) rfl (Nat.le_of_ble_eq_true rfl) ?_
  intro p e s m below meth c A ls hx hb hr hml hts hown hlocks hA hK hP hD hS hl hN
  have hl : lv_has ls 2 [(0, .int a0), (1, .int a1)] := hl
  have hret : ∀ (pc : Nat) (ls : Array Slot) (H : Heap) (locs : List Loc), decode cL_low pc = .ok (.ireturn, 1) → va_P D vwCl ([]) H → va_D A ([]) → va_S A s.heap H locs → W p l e { frames := 0, cells := 0, slots := 0, locals := 0 } s m ([.int a0, .int a1] : List Value).toArray below meth c H locs 0 0 (MQ below (Qi D ca r ([]) A) ([.int a0, .int a1] : List Value).toArray s 0 0 A) (F0 m pc ls [.int r]) := fun pc ls H locs hd hP hD hS => ret_i hx hb hr hlocks hK hP hD hS hd
  generalize MQ below (Qi D ca r ([]) A) ([.int a0, .int a1] : List Value).toArray s 0 0 A = Q at hret ⊢
  generalize ([.int a0, .int a1] : List Value).toArray = args at hts hret ⊢
  unfold jj_low at hf
  refine lv_iload_n hx hb dL_low_0 rfl (lv_at hl 0 rfl) ?_
  refine lv_ldc (v := 2147483647) hx hb hown (hts (.constant RL 7 (2147483647)) (by decide +kernel)) dL_low_1 ?_
  refine lv_iand hx hb dL_low_3 ?_
  refine lv_iload_n hx hb dL_low_4 rfl (lv_at hl 1 rfl) ?_
  obtain ⟨g1, hf⟩ := g0_ob hf
  refine lv_irem hx hb dL_low_5 g1 ?_
  obtain rfl := so1 hf
  exact hret _ _ _ _ dL_low_6 hP hD hS

def hh_placeOf_25  (τ : (Nat → Int32)) (k5 : Int32 → Int32 → Int32 → Int32 → Option Int32)  (l1 : Int32) (l2 : Int32) (l4 : Int32) (t0 : Int32) : Option Int32 :=
  nm (l4 + 1) fun v4 =>
  k5 l1 l2 t0 v4
def hh_placeOf_5  (τ : (Nat → Int32)) (k5 : Int32 → Int32 → Int32 → Int32 → Option Int32)  (l1 : Int32) (l2 : Int32) (l3 : Int32) (l4 : Int32) : Option Int32 :=
  if l1 ≤ l4 then
    some l3
  else
    gd l4 64 <|
    if (τ l4.toNatClampNeg) = l2 then
      hh_placeOf_25 τ k5 l1 l2 l4 l4
    else
      hh_placeOf_25 τ k5 l1 l2 l4 l3
def hh_placeOf_lp5  (τ : (Nat → Int32))  : Nat → Int32 → Int32 → Int32 → Int32 → Option Int32 := itF (fun _ _ _ _ => none) (fun k => hh_placeOf_5 τ  k)
def hh_placeOf  (τ : (Nat → Int32)) (a1 : Int32) (a2 : Int32) : Option Int32 :=
  hh_placeOf_lp5 τ FU a1 a2 (-1) 0
set_option maxHeartbeats 4000000 in
set_option maxRecDepth 100000 in
theorem tL_placeOf (l : Launch) (D : va_G) (ca : Nat → ClassId) (h : Nat) (sz : Nat)  (τ : (Nat → Int32)) (a1 : Int32) (a2 : Int32) (r : Int32) (hf : hh_placeOf τ a1 a2 = some r) : Ci l D ca yL_placeOf wsL_placeOf { frames := 0, cells := 0, slots := 0, locals := 0 } [.ref h, .int a1, .int a2] (wA ca h τ) sz r (wA ca h τ) := by
  refine body_of (cc := cL_placeOf) (maxL := 5) (ret := (some .int)) (fun A => Qi D ca r (wA ca h τ) A) (by decide) rfl (Nat.le_of_ble_eq_true rfl) ?_
  intro p e s m below meth c A ls hx hb hr hml hts hown hlocks hA hK hP hD hS hl hN
  have hl : lv_has ls 5 [(0, .ref h), (1, .int a1), (2, .int a2)] := hl
  have hret : ∀ (pc : Nat) (ls : Array Slot) (H : Heap) (locs : List Loc), decode cL_placeOf pc = .ok (.ireturn, 1) → va_P D vwCl (wA ca h τ) H → va_D A (wA ca h τ) → va_S A s.heap H locs → W p l e { frames := 0, cells := 0, slots := 0, locals := 0 } s m ([.ref h, .int a1, .int a2] : List Value).toArray below meth c H locs 0 0 (MQ below (Qi D ca r (wA ca h τ) A) ([.ref h, .int a1, .int a2] : List Value).toArray s 0 0 A) (F0 m pc ls [.int r]) := fun pc ls H locs hd hP hD hS => ret_i hx hb hr hlocks hK hP hD hS hd
  generalize MQ below (Qi D ca r (wA ca h τ) A) ([.ref h, .int a1, .int a2] : List Value).toArray s 0 0 A = Q at hret ⊢
  generalize ([.ref h, .int a1, .int a2] : List Value).toArray = args at hts hret ⊢
  have J5 : ∀ (n5 : Nat) (H : Heap) (locs : List Loc) (ls : Array Slot)  (l1 : Int32) (l2 : Int32) (l3 : Int32) (l4 : Int32), hh_placeOf_lp5 τ  n5 l1 l2 l3 l4 = some r → va_P D vwCl (wA ca h τ) H → va_D A (wA ca h τ) → va_S A s.heap H locs → lv_has ls 5 [(0, .ref h), (1, .int l1), (2, .int l2), (3, .int l3), (4, .int l4)] → W p l e { frames := 0, cells := 0, slots := 0, locals := 0 } s m args below meth c H locs 0 0 Q (F0 m 5 ls []) := by
    intro n5
    induction n5 with
    | zero =>
      intro H locs ls l1 l2 l3 l4 hf hP hD hS hl
      exact absurd hf (fun h => by cases h)
    | succ n5 ih5 =>
      have J25 : ∀ (H : Heap) (locs : List Loc) (ls : Array Slot)  (l1 : Int32) (l2 : Int32) (l4 : Int32) (t0 : Int32), hh_placeOf_25 τ (hh_placeOf_lp5 τ  n5) l1 l2 l4 t0 = some r → va_P D vwCl (wA ca h τ) H → va_D A (wA ca h τ) → va_S A s.heap H locs → lv_has ls 5 [(0, .ref h), (1, .int l1), (2, .int l2), (4, .int l4)] → W p l e { frames := 0, cells := 0, slots := 0, locals := 0 } s m args below meth c H locs 0 0 Q (F0 m 25 ls [.int t0]) := by
        intro H locs ls l1 l2 l4 t0 hf hP hD hS hl
        unfold hh_placeOf_25 at hf
        refine lv_istore_n (lv' := [(3, .int t0), (0, .ref h), (1, .int l1), (2, .int l2), (4, .int l4)]) hx hb dL_placeOf_25 rfl hl (by decide) rfl (fun ls hl => ?_)
        obtain ⟨v4, ev4, hf⟩ := nm_ob hf
        refine lv_iinc (v := v4) (lv' := [(4, .int v4), (3, .int t0), (0, .ref h), (1, .int l1), (2, .int l2)]) hx hb dL_placeOf_26 hl (k := 4) rfl (by rw [← ev4]; rfl) (by decide) rfl (fun ls hl => ?_)
        refine lv_goto (tgt := 5) hx hb dL_placeOf_29 (by decide) ?_
        exact ih5 _ _ _ _ _ _ _ hf hP hD hS (lv_sub hl [2, 3, 4, 1, 0] rfl)
      intro H locs ls l1 l2 l3 l4 hf hP hD hS hl
      replace hf : hh_placeOf_5 τ  (hh_placeOf_lp5 τ  n5) l1 l2 l3 l4 = some r := hf
      unfold hh_placeOf_5 at hf
      refine lv_iload hx hb dL_placeOf_5 (lv_at hl 4 rfl) ?_
      refine lv_iload_n hx hb dL_placeOf_7 rfl (lv_at hl 1 rfl) ?_
      refine lv_icmp_ge (tgt := 32) hx hb dL_placeOf_8 (by decide) (fun c1 => ?_) (fun c1 => ?_)
      · replace hf := it_p c1 hf
        refine lv_iload_n hx hb dL_placeOf_32 rfl (lv_at hl 3 rfl) ?_
        obtain rfl := so1 hf
        exact hret _ _ _ _ dL_placeOf_33 hP hD hS
      · replace hf := it_n c1 hf
        refine lv_aload_n hx hb dL_placeOf_11 rfl (lv_at hl 0 rfl) ?_
        refine lv_iload hx hb dL_placeOf_12 (lv_at hl 4 rfl) ?_
        obtain ⟨g2, hf⟩ := gd_ob hf
        refine va_iald hx hb hK hP 0 0 rfl rfl g2 dL_placeOf_14 ?_
        refine lv_iload_n hx hb dL_placeOf_15 rfl (lv_at hl 2 rfl) ?_
        refine lv_icmp_ne (tgt := 24) hx hb dL_placeOf_16 (by decide) (fun c3 => ?_) (fun c3 => ?_)
        · replace hf := it_n c3 hf
          refine lv_iload_n hx hb dL_placeOf_24 rfl (lv_at hl 3 rfl) ?_
          exact J25 _ _ _ _ _ _ _ hf hP hD hS (lv_sub hl [0, 1, 2, 4] rfl)
        · replace hf := it_p c3 hf
          refine lv_iload hx hb dL_placeOf_19 (lv_at hl 4 rfl) ?_
          refine lv_goto (tgt := 25) hx hb dL_placeOf_21 (by decide) ?_
          exact J25 _ _ _ _ _ _ _ hf hP hD hS (lv_sub hl [0, 1, 2, 4] rfl)
  unfold hh_placeOf at hf
  refine lv_iconst (v := (-1)) hx hb dL_placeOf_0 (by decide) ?_
  refine lv_istore_n (lv' := [(3, .int (-1)), (0, .ref h), (1, .int a1), (2, .int a2)]) hx hb dL_placeOf_1 rfl hl (by decide) rfl (fun ls hl => ?_)
  refine lv_iconst (v := 0) hx hb dL_placeOf_2 (by decide) ?_
  refine lv_istore (lv' := [(4, .int 0), (3, .int (-1)), (0, .ref h), (1, .int a1), (2, .int a2)]) hx hb dL_placeOf_3 hl (by decide) rfl (fun ls hl => ?_)
  exact J5 FU _ _ _ _ _ _ _ hf hP hD hS (lv_sub hl [2, 3, 4, 1, 0] rfl)

def hh_size_21  (τ : (Nat → Int32)) (k4 : Int32 → Int32 → Int32 → Option Int32)  (l1 : Int32) (l3 : Int32) (t0 : Int32) (t1 : Int32) : Option Int32 :=
  nm (t0 + t1) fun v4 =>
  nm (l3 + 1) fun v5 =>
  k4 l1 v4 v5
def hh_size_4  (τ : (Nat → Int32)) (k4 : Int32 → Int32 → Int32 → Option Int32)  (l1 : Int32) (l2 : Int32) (l3 : Int32) : Option Int32 :=
  if l1 ≤ l3 then
    some l2
  else
    gd l3 64 <|
    if (τ l3.toNatClampNeg) < 0 then
      hh_size_21 τ k4 l1 l3 l2 0
    else
      hh_size_21 τ k4 l1 l3 l2 1
def hh_size_lp4  (τ : (Nat → Int32))  : Nat → Int32 → Int32 → Int32 → Option Int32 := itF (fun _ _ _ => none) (fun k => hh_size_4 τ  k)
def hh_size  (τ : (Nat → Int32)) (a1 : Int32) : Option Int32 :=
  hh_size_lp4 τ FU a1 0 0
set_option maxHeartbeats 4000000 in
set_option maxRecDepth 100000 in
theorem tL_size (l : Launch) (D : va_G) (ca : Nat → ClassId) (h : Nat) (sz : Nat)  (τ : (Nat → Int32)) (a1 : Int32) (r : Int32) (hf : hh_size τ a1 = some r) : Ci l D ca yL_size wsL_size { frames := 0, cells := 0, slots := 0, locals := 0 } [.ref h, .int a1] (wA ca h τ) sz r (wA ca h τ) := by
  refine body_of (cc := cL_size) (maxL := 4) (ret := (some .int)) (fun A => Qi D ca r (wA ca h τ) A) (by decide) rfl (Nat.le_of_ble_eq_true rfl) ?_
  intro p e s m below meth c A ls hx hb hr hml hts hown hlocks hA hK hP hD hS hl hN
  have hl : lv_has ls 4 [(0, .ref h), (1, .int a1)] := hl
  have hret : ∀ (pc : Nat) (ls : Array Slot) (H : Heap) (locs : List Loc), decode cL_size pc = .ok (.ireturn, 1) → va_P D vwCl (wA ca h τ) H → va_D A (wA ca h τ) → va_S A s.heap H locs → W p l e { frames := 0, cells := 0, slots := 0, locals := 0 } s m ([.ref h, .int a1] : List Value).toArray below meth c H locs 0 0 (MQ below (Qi D ca r (wA ca h τ) A) ([.ref h, .int a1] : List Value).toArray s 0 0 A) (F0 m pc ls [.int r]) := fun pc ls H locs hd hP hD hS => ret_i hx hb hr hlocks hK hP hD hS hd
  generalize MQ below (Qi D ca r (wA ca h τ) A) ([.ref h, .int a1] : List Value).toArray s 0 0 A = Q at hret ⊢
  generalize ([.ref h, .int a1] : List Value).toArray = args at hts hret ⊢
  have J4 : ∀ (n4 : Nat) (H : Heap) (locs : List Loc) (ls : Array Slot)  (l1 : Int32) (l2 : Int32) (l3 : Int32), hh_size_lp4 τ  n4 l1 l2 l3 = some r → va_P D vwCl (wA ca h τ) H → va_D A (wA ca h τ) → va_S A s.heap H locs → lv_has ls 4 [(0, .ref h), (1, .int l1), (2, .int l2), (3, .int l3)] → W p l e { frames := 0, cells := 0, slots := 0, locals := 0 } s m args below meth c H locs 0 0 Q (F0 m 4 ls []) := by
    intro n4
    induction n4 with
    | zero =>
      intro H locs ls l1 l2 l3 hf hP hD hS hl
      exact absurd hf (fun h => by cases h)
    | succ n4 ih4 =>
      have J21 : ∀ (H : Heap) (locs : List Loc) (ls : Array Slot)  (l1 : Int32) (l3 : Int32) (t0 : Int32) (t1 : Int32), hh_size_21 τ (hh_size_lp4 τ  n4) l1 l3 t0 t1 = some r → va_P D vwCl (wA ca h τ) H → va_D A (wA ca h τ) → va_S A s.heap H locs → lv_has ls 4 [(0, .ref h), (1, .int l1), (3, .int l3)] → W p l e { frames := 0, cells := 0, slots := 0, locals := 0 } s m args below meth c H locs 0 0 Q (F0 m 21 ls [.int t1, .int t0]) := by
        intro H locs ls l1 l3 t0 t1 hf hP hD hS hl
        unfold hh_size_21 at hf
        refine lv_iadd hx hb dL_size_21 ?_
        obtain ⟨v4, ev4, hf⟩ := nm_ob hf
        refine tp_i ev4 ?_
        refine lv_istore_n (lv' := [(2, .int v4), (0, .ref h), (1, .int l1), (3, .int l3)]) hx hb dL_size_22 rfl hl (by decide) rfl (fun ls hl => ?_)
        obtain ⟨v5, ev5, hf⟩ := nm_ob hf
        refine lv_iinc (v := v5) (lv' := [(3, .int v5), (2, .int v4), (0, .ref h), (1, .int l1)]) hx hb dL_size_23 hl (k := 3) rfl (by rw [← ev5]; rfl) (by decide) rfl (fun ls hl => ?_)
        refine lv_goto (tgt := 4) hx hb dL_size_26 (by decide) ?_
        exact ih4 _ _ _ _ _ _ hf hP hD hS (lv_sub hl [2, 3, 1, 0] rfl)
      intro H locs ls l1 l2 l3 hf hP hD hS hl
      replace hf : hh_size_4 τ  (hh_size_lp4 τ  n4) l1 l2 l3 = some r := hf
      unfold hh_size_4 at hf
      refine lv_iload_n hx hb dL_size_4 rfl (lv_at hl 3 rfl) ?_
      refine lv_iload_n hx hb dL_size_5 rfl (lv_at hl 1 rfl) ?_
      refine lv_icmp_ge (tgt := 29) hx hb dL_size_6 (by decide) (fun c1 => ?_) (fun c1 => ?_)
      · replace hf := it_p c1 hf
        refine lv_iload_n hx hb dL_size_29 rfl (lv_at hl 2 rfl) ?_
        obtain rfl := so1 hf
        exact hret _ _ _ _ dL_size_30 hP hD hS
      · replace hf := it_n c1 hf
        refine lv_iload_n hx hb dL_size_9 rfl (lv_at hl 2 rfl) ?_
        refine lv_aload_n hx hb dL_size_10 rfl (lv_at hl 0 rfl) ?_
        refine lv_iload_n hx hb dL_size_11 rfl (lv_at hl 3 rfl) ?_
        obtain ⟨g2, hf⟩ := gd_ob hf
        refine va_iald hx hb hK hP 0 0 rfl rfl g2 dL_size_12 ?_
        refine lv_if_lt (tgt := 20) hx hb dL_size_13 (by decide) (fun c3 => ?_) (fun c3 => ?_)
        · replace hf := it_p c3 hf
          refine lv_iconst (v := 0) hx hb dL_size_20 (by decide) ?_
          exact J21 _ _ _ _ _ _ _ hf hP hD hS (lv_sub hl [0, 1, 3] rfl)
        · replace hf := it_n c3 hf
          refine lv_iconst (v := 1) hx hb dL_size_16 (by decide) ?_
          refine lv_goto (tgt := 21) hx hb dL_size_17 (by decide) ?_
          exact J21 _ _ _ _ _ _ _ hf hP hD hS (lv_sub hl [0, 1, 3] rfl)
  unfold hh_size at hf
  refine lv_iconst (v := 0) hx hb dL_size_0 (by decide) ?_
  refine lv_istore_n (lv' := [(2, .int 0), (0, .ref h), (1, .int a1)]) hx hb dL_size_1 rfl hl (by decide) rfl (fun ls hl => ?_)
  refine lv_iconst (v := 0) hx hb dL_size_2 (by decide) ?_
  refine lv_istore_n (lv' := [(3, .int 0), (2, .int 0), (0, .ref h), (1, .int a1)]) hx hb dL_size_3 rfl hl (by decide) rfl (fun ls hl => ?_)
  exact J4 FU _ _ _ _ _ _ hf hP hD hS (lv_sub hl [2, 3, 1, 0] rfl)

def hh_keysOf_149  (σ : RR) (k36 : Int32 → Int32 → Int32 → Int32 → Int32 → Int32 → Option Int32)  (l1 : Int32) (l2 : Int32) (l3 : Int32) (l5 : Int32) (l6 : Int32) (l7 : Int32) : Option Int32 :=
  nm (l6 + 1) fun v22 =>
  k36 l1 l2 l3 l7 l5 v22
def hh_keysOf_144  (σ : RR) (k36 : Int32 → Int32 → Int32 → Int32 → Int32 → Int32 → Option Int32)  (l1 : Int32) (l2 : Int32) (l3 : Int32) (l6 : Int32) (l7 : Int32) (t0 : Int32) : Option Int32 :=
  nm (l3 + 1) fun v21 =>
  hh_keysOf_149 σ k36 l1 l2 v21 t0 l6 l7
def hh_keysOf_78  (σ : RR) (k36 : Int32 → Int32 → Int32 → Int32 → Int32 → Int32 → Option Int32)  (l1 : Int32) (l2 : Int32) (l3 : Int32) (l6 : Int32) (l7 : Int32) (t0 : Int32) : Option Int32 :=
  hh_keysOf_149 σ k36 l1 l2 l3 t0 l6 l7
def hh_keysOf_36  (σ : RR) (k36 : Int32 → Int32 → Int32 → Int32 → Int32 → Int32 → Option Int32)  (l1 : Int32) (l2 : Int32) (l3 : Int32) (l4 : Int32) (l5 : Int32) (l6 : Int32) : Option Int32 :=
  if l2 ≤ l6 then
    if l5 = 0 then
      some (-1000)
    else
      bd (rr_keysIn σ l1) fun v7 =>
      if l3 = v7 then
        some l3
      else
        some (-1000)
  else
    bd (rr_distanceAt σ l1 l6) fun v9 =>
    if 0 ≤ v9 then
      bd (rr_keyAt σ l1 l6) fun v11 =>
      bd (rr_hash σ v11) fun v12 =>
      if l5 = 0 then
        hh_keysOf_144 σ k36 l1 l2 l3 l6 v9 0
      else
        if v9 = ((l6 - v12) &&& (l2 - 1)) then
          bd (rr_control σ l1 l6) fun v15 =>
          if v15 = (ushr v12 25) then
            if (l4 + 1) < v9 then
              hh_keysOf_144 σ k36 l1 l2 l3 l6 v9 0
            else
              hh_keysOf_144 σ k36 l1 l2 l3 l6 v9 1
          else
            hh_keysOf_144 σ k36 l1 l2 l3 l6 v9 0
        else
          hh_keysOf_144 σ k36 l1 l2 l3 l6 v9 0
    else
      if l5 = 0 then
        hh_keysOf_78 σ k36 l1 l2 l3 l6 v9 0
      else
        bd (rr_control σ l1 l6) fun v19 =>
        if v19 = (-128) then
          hh_keysOf_78 σ k36 l1 l2 l3 l6 v9 1
        else
          hh_keysOf_78 σ k36 l1 l2 l3 l6 v9 0
def hh_keysOf_lp36  (σ : RR)  : Nat → Int32 → Int32 → Int32 → Int32 → Int32 → Int32 → Option Int32 := itF (fun _ _ _ _ _ _ => none) (fun k => hh_keysOf_36 σ  k)
def hh_keysOf_28  (σ : RR)   (l1 : Int32) (l2 : Int32) (l3 : Int32) (t0 : Int32) : Option Int32 :=
  hh_keysOf_lp36 σ FU l1 l2 l3 t0 1 0
def hh_keysOf  (σ : RR) (a1 : Int32) : Option Int32 :=
  bd (rr_slots σ a1) fun v1 =>
  bd (rr_slots σ a1) fun v2 =>
  if v2 = 0 then
    hh_keysOf_28 σ a1 v1 0 0
  else
    bd (rr_distanceAt σ a1 (v1 - 1)) fun v4 =>
    hh_keysOf_28 σ a1 v1 0 v4
set_option maxHeartbeats 4000000 in
set_option maxRecDepth 100000 in
theorem tL_keysOf (l : Launch) (D : va_G) (ca : Nat → ClassId) (B : Nat → Nat) (ar : Nat → Nat → Nat) (sz : Nat)  (σ : RR) (a1 : Int32) (r : Int32) (hf : hh_keysOf σ a1 = some r) : Ci l D ca yL_keysOf wsL_keysOf { frames := 3, cells := 0, slots := 0, locals := 67 } [.ref (B 0), .int a1] (wRR ca B ar σ) sz r (wRR ca B ar σ) := by
  refine body_of (cc := cL_keysOf) (maxL := 9) (ret := (some .int)) (fun A => Qi D ca r (wRR ca B ar σ) A) (by decide) rfl (Nat.le_of_ble_eq_true rfl) ?_
  intro p e s m below meth c A ls hx hb hr hml hts hown hlocks hA hK hP hD hS hl hN
  have hl : lv_has ls 9 [(0, .ref (B 0)), (1, .int a1)] := hl
  have hret : ∀ (pc : Nat) (ls : Array Slot) (H : Heap) (locs : List Loc), decode cL_keysOf pc = .ok (.ireturn, 1) → va_P D vwCl (wRR ca B ar σ) H → va_D A (wRR ca B ar σ) → va_S A s.heap H locs → W p l e { frames := 3, cells := 0, slots := 0, locals := 67 } s m ([.ref (B 0), .int a1] : List Value).toArray below meth c H locs 0 0 (MQ below (Qi D ca r (wRR ca B ar σ) A) ([.ref (B 0), .int a1] : List Value).toArray s 0 0 A) (F0 m pc ls [.int r]) := fun pc ls H locs hd hP hD hS => ret_i hx hb hr hlocks hK hP hD hS hd
  generalize MQ below (Qi D ca r (wRR ca B ar σ) A) ([.ref (B 0), .int a1] : List Value).toArray s 0 0 A = Q at hret ⊢
  generalize ([.ref (B 0), .int a1] : List Value).toArray = args at hts hret ⊢
  have J36 : ∀ (n36 : Nat) (H : Heap) (locs : List Loc) (ls : Array Slot)  (l1 : Int32) (l2 : Int32) (l3 : Int32) (l4 : Int32) (l5 : Int32) (l6 : Int32), hh_keysOf_lp36 σ  n36 l1 l2 l3 l4 l5 l6 = some r → va_P D vwCl (wRR ca B ar σ) H → va_D A (wRR ca B ar σ) → va_S A s.heap H locs → lv_has ls 9 [(0, .ref (B 0)), (1, .int l1), (2, .int l2), (3, .int l3), (4, .int l4), (5, .int l5), (6, .int l6)] → W p l e { frames := 3, cells := 0, slots := 0, locals := 67 } s m args below meth c H locs 0 0 Q (F0 m 36 ls []) := by
    intro n36
    induction n36 with
    | zero =>
      intro H locs ls l1 l2 l3 l4 l5 l6 hf hP hD hS hl
      exact absurd hf (fun h => by cases h)
    | succ n36 ih36 =>
      have J149 : ∀ (H : Heap) (locs : List Loc) (ls : Array Slot)  (l1 : Int32) (l2 : Int32) (l3 : Int32) (l5 : Int32) (l6 : Int32) (l7 : Int32), hh_keysOf_149 σ (hh_keysOf_lp36 σ  n36) l1 l2 l3 l5 l6 l7 = some r → va_P D vwCl (wRR ca B ar σ) H → va_D A (wRR ca B ar σ) → va_S A s.heap H locs → lv_has ls 9 [(0, .ref (B 0)), (1, .int l1), (2, .int l2), (3, .int l3), (5, .int l5), (6, .int l6), (7, .int l7)] → W p l e { frames := 3, cells := 0, slots := 0, locals := 67 } s m args below meth c H locs 0 0 Q (F0 m 149 ls []) := by
        intro H locs ls l1 l2 l3 l5 l6 l7 hf hP hD hS hl
        unfold hh_keysOf_149 at hf
        refine lv_iload hx hb dL_keysOf_149 (lv_at hl 6 rfl) ?_
        refine lv_istore (lv' := [(4, .int l7), (0, .ref (B 0)), (1, .int l1), (2, .int l2), (3, .int l3), (5, .int l5), (6, .int l6), (7, .int l7)]) hx hb dL_keysOf_151 hl (by decide) rfl (fun ls hl => ?_)
        obtain ⟨v22, ev22, hf⟩ := nm_ob hf
        refine lv_iinc (v := v22) (lv' := [(6, .int v22), (4, .int l7), (0, .ref (B 0)), (1, .int l1), (2, .int l2), (3, .int l3), (5, .int l5), (7, .int l7)]) hx hb dL_keysOf_153 hl (k := 6) rfl (by rw [← ev22]; rfl) (by decide) rfl (fun ls hl => ?_)
        refine lv_goto (tgt := 36) hx hb dL_keysOf_156 (by decide) ?_
        exact ih36 _ _ _ _ _ _ _ _ _ hf hP hD hS (lv_sub hl [2, 3, 4, 5, 1, 6, 0] rfl)
      have J144 : ∀ (H : Heap) (locs : List Loc) (ls : Array Slot)  (l1 : Int32) (l2 : Int32) (l3 : Int32) (l6 : Int32) (l7 : Int32) (t0 : Int32), hh_keysOf_144 σ (hh_keysOf_lp36 σ  n36) l1 l2 l3 l6 l7 t0 = some r → va_P D vwCl (wRR ca B ar σ) H → va_D A (wRR ca B ar σ) → va_S A s.heap H locs → lv_has ls 9 [(0, .ref (B 0)), (1, .int l1), (2, .int l2), (3, .int l3), (6, .int l6), (7, .int l7)] → W p l e { frames := 3, cells := 0, slots := 0, locals := 67 } s m args below meth c H locs 0 0 Q (F0 m 144 ls [.int t0]) := by
        intro H locs ls l1 l2 l3 l6 l7 t0 hf hP hD hS hl
        unfold hh_keysOf_144 at hf
        refine lv_istore (lv' := [(5, .int t0), (0, .ref (B 0)), (1, .int l1), (2, .int l2), (3, .int l3), (6, .int l6), (7, .int l7)]) hx hb dL_keysOf_144 hl (by decide) rfl (fun ls hl => ?_)
        obtain ⟨v21, ev21, hf⟩ := nm_ob hf
        refine lv_iinc (v := v21) (lv' := [(3, .int v21), (5, .int t0), (0, .ref (B 0)), (1, .int l1), (2, .int l2), (6, .int l6), (7, .int l7)]) hx hb dL_keysOf_146 hl (k := 4) rfl (by rw [← ev21]; rfl) (by decide) rfl (fun ls hl => ?_)
        exact J149 _ _ _ _ _ _ _ _ _ hf hP hD hS (lv_sub hl [2, 3, 4, 0, 1, 5, 6] rfl)
      have J78 : ∀ (H : Heap) (locs : List Loc) (ls : Array Slot)  (l1 : Int32) (l2 : Int32) (l3 : Int32) (l6 : Int32) (l7 : Int32) (t0 : Int32), hh_keysOf_78 σ (hh_keysOf_lp36 σ  n36) l1 l2 l3 l6 l7 t0 = some r → va_P D vwCl (wRR ca B ar σ) H → va_D A (wRR ca B ar σ) → va_S A s.heap H locs → lv_has ls 9 [(0, .ref (B 0)), (1, .int l1), (2, .int l2), (3, .int l3), (6, .int l6), (7, .int l7)] → W p l e { frames := 3, cells := 0, slots := 0, locals := 67 } s m args below meth c H locs 0 0 Q (F0 m 78 ls [.int t0]) := by
        intro H locs ls l1 l2 l3 l6 l7 t0 hf hP hD hS hl
        unfold hh_keysOf_78 at hf
        refine lv_istore (lv' := [(5, .int t0), (0, .ref (B 0)), (1, .int l1), (2, .int l2), (3, .int l3), (6, .int l6), (7, .int l7)]) hx hb dL_keysOf_78 hl (by decide) rfl (fun ls hl => ?_)
        refine lv_goto (tgt := 149) hx hb dL_keysOf_80 (by decide) ?_
        exact J149 _ _ _ _ _ _ _ _ _ hf hP hD hS (lv_sub hl [1, 2, 3, 4, 0, 5, 6] rfl)
      intro H locs ls l1 l2 l3 l4 l5 l6 hf hP hD hS hl
      replace hf : hh_keysOf_36 σ  (hh_keysOf_lp36 σ  n36) l1 l2 l3 l4 l5 l6 = some r := hf
      unfold hh_keysOf_36 at hf
      refine lv_iload hx hb dL_keysOf_36 (lv_at hl 6 rfl) ?_
      refine lv_iload_n hx hb dL_keysOf_38 rfl (lv_at hl 2 rfl) ?_
      refine lv_icmp_ge (tgt := 159) hx hb dL_keysOf_39 (by decide) (fun c5 => ?_) (fun c5 => ?_)
      · replace hf := it_p c5 hf
        refine lv_iload hx hb dL_keysOf_159 (lv_at hl 5 rfl) ?_
        refine lv_if_eq (tgt := 177) hx hb dL_keysOf_161 (by decide) (fun c6 => ?_) (fun c6 => ?_)
        · replace hf := it_p c6 hf
          refine lv_sipush (v := (-1000)) hx hb dL_keysOf_177 (by decide) ?_
          obtain rfl := so1 hf
          exact hret _ _ _ _ dL_keysOf_180 hP hD hS
        · replace hf := it_n c6 hf
          refine lv_iload_n hx hb dL_keysOf_164 rfl (lv_at hl 3 rfl) ?_
          refine lv_aload_n hx hb dL_keysOf_165 rfl (lv_at hl 0 rfl) ?_
          refine lv_iload_n hx hb dL_keysOf_166 rfl (lv_at hl 1 rfl) ?_
          obtain ⟨v7, ev7, hf⟩ := bd_ob hf
          refine call_i (As := [.int l1]) (rest := [.int l3]) ⟨hx, hb, hml, hown, hts⟩ (tX4_keysIn l D ca B ar _ σ l1 v7 ev7) (cwV 1 hts gL_keysOf_X4_keysIn rfl rfl rfl (by decide +kernel) ⟨Nat.le_of_ble_eq_true rfl, Nat.le_of_ble_eq_true rfl⟩) hN hK hP hD hA hS (fr_id _ _) rfl rfl rfl hl.1 rfl (lv_room (Nat.le_of_ble_eq_true rfl)) dL_keysOf_167 ⟨Nat.le_refl _, Nat.le_refl _⟩ (fun H locs hP hD hS => ?_)
          refine lv_icmp_ne (tgt := 177) hx hb dL_keysOf_170 (by decide) (fun c8 => ?_) (fun c8 => ?_)
          · replace hf := it_n c8 hf
            refine lv_sipush (v := (-1000)) hx hb dL_keysOf_177 (by decide) ?_
            obtain rfl := so1 hf
            exact hret _ _ _ _ dL_keysOf_180 hP hD hS
          · replace hf := it_p c8 hf
            refine lv_iload_n hx hb dL_keysOf_173 rfl (lv_at hl 3 rfl) ?_
            refine lv_goto (tgt := 180) hx hb dL_keysOf_174 (by decide) ?_
            obtain rfl := so1 hf
            exact hret _ _ _ _ dL_keysOf_180 hP hD hS
      · replace hf := it_n c5 hf
        refine lv_aload_n hx hb dL_keysOf_42 rfl (lv_at hl 0 rfl) ?_
        refine lv_iload_n hx hb dL_keysOf_43 rfl (lv_at hl 1 rfl) ?_
        refine lv_iload hx hb dL_keysOf_44 (lv_at hl 6 rfl) ?_
        obtain ⟨v9, ev9, hf⟩ := bd_ob hf
        refine call_i (As := [.int l1, .int l6]) (rest := []) ⟨hx, hb, hml, hown, hts⟩ (tX4_distanceAt l D ca B ar _ σ l1 l6 v9 ev9) (cwV 2 hts gL_keysOf_X4_distanceAt rfl rfl rfl (by decide +kernel) ⟨Nat.le_of_ble_eq_true rfl, Nat.le_of_ble_eq_true rfl⟩) hN hK hP hD hA hS (fr_id _ _) rfl rfl rfl hl.1 rfl (lv_room (Nat.le_of_ble_eq_true rfl)) dL_keysOf_46 ⟨Nat.le_refl _, Nat.le_refl _⟩ (fun H locs hP hD hS => ?_)
        refine lv_istore (lv' := [(7, .int v9), (0, .ref (B 0)), (1, .int l1), (2, .int l2), (3, .int l3), (4, .int l4), (5, .int l5), (6, .int l6)]) hx hb dL_keysOf_49 hl (by decide) rfl (fun ls hl => ?_)
        refine lv_iload hx hb dL_keysOf_51 (lv_at hl 0 rfl) ?_
        refine lv_if_ge (tgt := 83) hx hb dL_keysOf_53 (by decide) (fun c10 => ?_) (fun c10 => ?_)
        · replace hf := it_p c10 hf
          refine lv_aload_n hx hb dL_keysOf_83 rfl (lv_at hl 1 rfl) ?_
          refine lv_aload_n hx hb dL_keysOf_84 rfl (lv_at hl 1 rfl) ?_
          refine lv_iload_n hx hb dL_keysOf_85 rfl (lv_at hl 2 rfl) ?_
          refine lv_iload hx hb dL_keysOf_86 (lv_at hl 7 rfl) ?_
          obtain ⟨v11, ev11, hf⟩ := bd_ob hf
          refine call_i (As := [.int l1, .int l6]) (rest := [.ref (B 0)]) ⟨hx, hb, hml, hown, hts⟩ (tX4_keyAt l D ca B ar _ σ l1 l6 v11 ev11) (cwV 2 hts gL_keysOf_X4_keyAt rfl rfl rfl (by decide +kernel) ⟨Nat.le_of_ble_eq_true rfl, Nat.le_of_ble_eq_true rfl⟩) hN hK hP hD hA hS (fr_id _ _) rfl rfl rfl hl.1 rfl (lv_room (Nat.le_of_ble_eq_true rfl)) dL_keysOf_88 ⟨Nat.le_refl _, Nat.le_refl _⟩ (fun H locs hP hD hS => ?_)
          obtain ⟨v12, ev12, hf⟩ := bd_ob hf
          refine call_i (As := [.int v11]) (rest := []) ⟨hx, hb, hml, hown, hts⟩ (tX4_hash l D ca B ar _ σ v11 v12 ev12) (cwV 1 hts gL_keysOf_X4_hash rfl rfl rfl (by decide +kernel) ⟨Nat.le_of_ble_eq_true rfl, Nat.le_of_ble_eq_true rfl⟩) hN hK hP hD hA hS (fr_id _ _) rfl rfl rfl hl.1 rfl (lv_room (Nat.le_of_ble_eq_true rfl)) dL_keysOf_91 ⟨Nat.le_refl _, Nat.le_refl _⟩ (fun H locs hP hD hS => ?_)
          refine lv_istore (lv' := [(8, .int v12), (7, .int v9), (0, .ref (B 0)), (1, .int l1), (2, .int l2), (3, .int l3), (4, .int l4), (5, .int l5), (6, .int l6)]) hx hb dL_keysOf_94 hl (by decide) rfl (fun ls hl => ?_)
          refine lv_iload hx hb dL_keysOf_96 (lv_at hl 7 rfl) ?_
          refine lv_if_eq (tgt := 143) hx hb dL_keysOf_98 (by decide) (fun c13 => ?_) (fun c13 => ?_)
          · replace hf := it_p c13 hf
            refine lv_iconst (v := 0) hx hb dL_keysOf_143 (by decide) ?_
            exact J144 _ _ _ _ _ _ _ _ _ hf hP hD hS (lv_sub hl [2, 3, 4, 5, 8, 1] rfl)
          · replace hf := it_n c13 hf
            refine lv_iload hx hb dL_keysOf_101 (lv_at hl 1 rfl) ?_
            refine lv_iload hx hb dL_keysOf_103 (lv_at hl 8 rfl) ?_
            refine lv_iload hx hb dL_keysOf_105 (lv_at hl 0 rfl) ?_
            refine lv_isub hx hb dL_keysOf_107 ?_
            refine lv_iload_n hx hb dL_keysOf_108 rfl (lv_at hl 4 rfl) ?_
            refine lv_iconst (v := 1) hx hb dL_keysOf_109 (by decide) ?_
            refine lv_isub hx hb dL_keysOf_110 ?_
            refine lv_iand hx hb dL_keysOf_111 ?_
            refine lv_icmp_ne (tgt := 143) hx hb dL_keysOf_112 (by decide) (fun c14 => ?_) (fun c14 => ?_)
            · replace hf := it_n c14 hf
              refine lv_iconst (v := 0) hx hb dL_keysOf_143 (by decide) ?_
              exact J144 _ _ _ _ _ _ _ _ _ hf hP hD hS (lv_sub hl [2, 3, 4, 5, 8, 1] rfl)
            · replace hf := it_p c14 hf
              refine lv_aload_n hx hb dL_keysOf_115 rfl (lv_at hl 2 rfl) ?_
              refine lv_iload_n hx hb dL_keysOf_116 rfl (lv_at hl 3 rfl) ?_
              refine lv_iload hx hb dL_keysOf_117 (lv_at hl 8 rfl) ?_
              obtain ⟨v15, ev15, hf⟩ := bd_ob hf
              refine call_i (As := [.int l1, .int l6]) (rest := []) ⟨hx, hb, hml, hown, hts⟩ (tX4_control l D ca B ar _ σ l1 l6 v15 ev15) (cwV 2 hts gL_keysOf_X4_control rfl rfl rfl (by decide +kernel) ⟨Nat.le_of_ble_eq_true rfl, Nat.le_of_ble_eq_true rfl⟩) hN hK hP hD hA hS (fr_id _ _) rfl rfl rfl hl.1 rfl (lv_room (Nat.le_of_ble_eq_true rfl)) dL_keysOf_119 ⟨Nat.le_refl _, Nat.le_refl _⟩ (fun H locs hP hD hS => ?_)
              refine lv_iload hx hb dL_keysOf_122 (lv_at hl 0 rfl) ?_
              refine lv_bipush (v := 25) hx hb dL_keysOf_124 (by decide) ?_
              refine lv_iushr (v := (ushr v12 25)) hx hb dL_keysOf_126 rfl ?_
              refine lv_icmp_ne (tgt := 143) hx hb dL_keysOf_127 (by decide) (fun c16 => ?_) (fun c16 => ?_)
              · replace hf := it_n c16 hf
                refine lv_iconst (v := 0) hx hb dL_keysOf_143 (by decide) ?_
                exact J144 _ _ _ _ _ _ _ _ _ hf hP hD hS (lv_sub hl [2, 3, 4, 5, 8, 1] rfl)
              · replace hf := it_p c16 hf
                refine lv_iload hx hb dL_keysOf_130 (lv_at hl 1 rfl) ?_
                refine lv_iload hx hb dL_keysOf_132 (lv_at hl 6 rfl) ?_
                refine lv_iconst (v := 1) hx hb dL_keysOf_134 (by decide) ?_
                refine lv_iadd hx hb dL_keysOf_135 ?_
                refine lv_icmp_gt (tgt := 143) hx hb dL_keysOf_136 (by decide) (fun c17 => ?_) (fun c17 => ?_)
                · replace hf := it_p c17 hf
                  refine lv_iconst (v := 0) hx hb dL_keysOf_143 (by decide) ?_
                  exact J144 _ _ _ _ _ _ _ _ _ hf hP hD hS (lv_sub hl [2, 3, 4, 5, 8, 1] rfl)
                · replace hf := it_n c17 hf
                  refine lv_iconst (v := 1) hx hb dL_keysOf_139 (by decide) ?_
                  refine lv_goto (tgt := 144) hx hb dL_keysOf_140 (by decide) ?_
                  exact J144 _ _ _ _ _ _ _ _ _ hf hP hD hS (lv_sub hl [2, 3, 4, 5, 8, 1] rfl)
        · replace hf := it_n c10 hf
          refine lv_iload hx hb dL_keysOf_56 (lv_at hl 6 rfl) ?_
          refine lv_if_eq (tgt := 77) hx hb dL_keysOf_58 (by decide) (fun c18 => ?_) (fun c18 => ?_)
          · replace hf := it_p c18 hf
            refine lv_iconst (v := 0) hx hb dL_keysOf_77 (by decide) ?_
            exact J78 _ _ _ _ _ _ _ _ _ hf hP hD hS (lv_sub hl [1, 2, 3, 4, 7, 0] rfl)
          · replace hf := it_n c18 hf
            refine lv_aload_n hx hb dL_keysOf_61 rfl (lv_at hl 1 rfl) ?_
            refine lv_iload_n hx hb dL_keysOf_62 rfl (lv_at hl 2 rfl) ?_
            refine lv_iload hx hb dL_keysOf_63 (lv_at hl 7 rfl) ?_
            obtain ⟨v19, ev19, hf⟩ := bd_ob hf
            refine call_i (As := [.int l1, .int l6]) (rest := []) ⟨hx, hb, hml, hown, hts⟩ (tX4_control l D ca B ar _ σ l1 l6 v19 ev19) (cwV 2 hts gL_keysOf_X4_control rfl rfl rfl (by decide +kernel) ⟨Nat.le_of_ble_eq_true rfl, Nat.le_of_ble_eq_true rfl⟩) hN hK hP hD hA hS (fr_id _ _) rfl rfl rfl hl.1 rfl (lv_room (Nat.le_of_ble_eq_true rfl)) dL_keysOf_65 ⟨Nat.le_refl _, Nat.le_refl _⟩ (fun H locs hP hD hS => ?_)
            refine lv_bipush (v := (-128)) hx hb dL_keysOf_68 (by decide) ?_
            refine lv_icmp_ne (tgt := 77) hx hb dL_keysOf_70 (by decide) (fun c20 => ?_) (fun c20 => ?_)
            · replace hf := it_n c20 hf
              refine lv_iconst (v := 0) hx hb dL_keysOf_77 (by decide) ?_
              exact J78 _ _ _ _ _ _ _ _ _ hf hP hD hS (lv_sub hl [1, 2, 3, 4, 7, 0] rfl)
            · replace hf := it_p c20 hf
              refine lv_iconst (v := 1) hx hb dL_keysOf_73 (by decide) ?_
              refine lv_goto (tgt := 78) hx hb dL_keysOf_74 (by decide) ?_
              exact J78 _ _ _ _ _ _ _ _ _ hf hP hD hS (lv_sub hl [1, 2, 3, 4, 7, 0] rfl)
  have J28 : ∀ (H : Heap) (locs : List Loc) (ls : Array Slot)  (l1 : Int32) (l2 : Int32) (l3 : Int32) (t0 : Int32), hh_keysOf_28 σ  l1 l2 l3 t0 = some r → va_P D vwCl (wRR ca B ar σ) H → va_D A (wRR ca B ar σ) → va_S A s.heap H locs → lv_has ls 9 [(0, .ref (B 0)), (1, .int l1), (2, .int l2), (3, .int l3)] → W p l e { frames := 3, cells := 0, slots := 0, locals := 67 } s m args below meth c H locs 0 0 Q (F0 m 28 ls [.int t0]) := by
    intro H locs ls l1 l2 l3 t0 hf hP hD hS hl
    unfold hh_keysOf_28 at hf
    refine lv_istore (lv' := [(4, .int t0), (0, .ref (B 0)), (1, .int l1), (2, .int l2), (3, .int l3)]) hx hb dL_keysOf_28 hl (by decide) rfl (fun ls hl => ?_)
    refine lv_iconst (v := 1) hx hb dL_keysOf_30 (by decide) ?_
    refine lv_istore (lv' := [(5, .int 1), (4, .int t0), (0, .ref (B 0)), (1, .int l1), (2, .int l2), (3, .int l3)]) hx hb dL_keysOf_31 hl (by decide) rfl (fun ls hl => ?_)
    refine lv_iconst (v := 0) hx hb dL_keysOf_33 (by decide) ?_
    refine lv_istore (lv' := [(6, .int 0), (5, .int 1), (4, .int t0), (0, .ref (B 0)), (1, .int l1), (2, .int l2), (3, .int l3)]) hx hb dL_keysOf_34 hl (by decide) rfl (fun ls hl => ?_)
    exact J36 FU _ _ _ _ _ _ _ _ _ hf hP hD hS (lv_sub hl [3, 4, 5, 6, 2, 1, 0] rfl)
  unfold hh_keysOf at hf
  refine lv_aload_n hx hb dL_keysOf_0 rfl (lv_at hl 0 rfl) ?_
  refine lv_iload_n hx hb dL_keysOf_1 rfl (lv_at hl 1 rfl) ?_
  obtain ⟨v1, ev1, hf⟩ := bd_ob hf
  refine call_i (As := [.int a1]) (rest := []) ⟨hx, hb, hml, hown, hts⟩ (tX4_slots l D ca B ar _ σ a1 v1 ev1) (cwV 1 hts gL_keysOf_X4_slots rfl rfl rfl (by decide +kernel) ⟨Nat.le_of_ble_eq_true rfl, Nat.le_of_ble_eq_true rfl⟩) hN hK hP hD hA hS (fr_id _ _) rfl rfl rfl hl.1 rfl (lv_room (Nat.le_of_ble_eq_true rfl)) dL_keysOf_2 ⟨Nat.le_refl _, Nat.le_refl _⟩ (fun H locs hP hD hS => ?_)
  refine lv_istore_n (lv' := [(2, .int v1), (0, .ref (B 0)), (1, .int a1)]) hx hb dL_keysOf_5 rfl hl (by decide) rfl (fun ls hl => ?_)
  refine lv_iconst (v := 0) hx hb dL_keysOf_6 (by decide) ?_
  refine lv_istore_n (lv' := [(3, .int 0), (2, .int v1), (0, .ref (B 0)), (1, .int a1)]) hx hb dL_keysOf_7 rfl hl (by decide) rfl (fun ls hl => ?_)
  refine lv_aload_n hx hb dL_keysOf_8 rfl (lv_at hl 2 rfl) ?_
  refine lv_iload_n hx hb dL_keysOf_9 rfl (lv_at hl 3 rfl) ?_
  obtain ⟨v2, ev2, hf⟩ := bd_ob hf
  refine call_i (As := [.int a1]) (rest := []) ⟨hx, hb, hml, hown, hts⟩ (tX4_slots l D ca B ar _ σ a1 v2 ev2) (cwV 1 hts gL_keysOf_X4_slots rfl rfl rfl (by decide +kernel) ⟨Nat.le_of_ble_eq_true rfl, Nat.le_of_ble_eq_true rfl⟩) hN hK hP hD hA hS (fr_id _ _) rfl rfl rfl hl.1 rfl (lv_room (Nat.le_of_ble_eq_true rfl)) dL_keysOf_10 ⟨Nat.le_refl _, Nat.le_refl _⟩ (fun H locs hP hD hS => ?_)
  refine lv_if_ne (tgt := 20) hx hb dL_keysOf_13 (by decide) (fun c3 => ?_) (fun c3 => ?_)
  · replace hf := it_n c3 hf
    refine lv_aload_n hx hb dL_keysOf_20 rfl (lv_at hl 2 rfl) ?_
    refine lv_iload_n hx hb dL_keysOf_21 rfl (lv_at hl 3 rfl) ?_
    refine lv_iload_n hx hb dL_keysOf_22 rfl (lv_at hl 1 rfl) ?_
    refine lv_iconst (v := 1) hx hb dL_keysOf_23 (by decide) ?_
    refine lv_isub hx hb dL_keysOf_24 ?_
    obtain ⟨v4, ev4, hf⟩ := bd_ob hf
    refine call_i (As := [.int a1, .int (v1 - 1)]) (rest := []) ⟨hx, hb, hml, hown, hts⟩ (tX4_distanceAt l D ca B ar _ σ a1 (v1 - 1) v4 ev4) (cwV 2 hts gL_keysOf_X4_distanceAt rfl rfl rfl (by decide +kernel) ⟨Nat.le_of_ble_eq_true rfl, Nat.le_of_ble_eq_true rfl⟩) hN hK hP hD hA hS (fr_id _ _) rfl rfl rfl hl.1 rfl (lv_room (Nat.le_of_ble_eq_true rfl)) dL_keysOf_25 ⟨Nat.le_refl _, Nat.le_refl _⟩ (fun H locs hP hD hS => ?_)
    exact J28 _ _ _ _ _ _ _ hf hP hD hS (lv_sub hl [2, 3, 1, 0] rfl)
  · replace hf := it_p c3 hf
    refine lv_iconst (v := 0) hx hb dL_keysOf_16 (by decide) ?_
    refine lv_goto (tgt := 28) hx hb dL_keysOf_17 (by decide) ?_
    exact J28 _ _ _ _ _ _ _ hf hP hD hS (lv_sub hl [2, 3, 1, 0] rfl)

def hh_isPut_59   (σ : HS) (l4 : Int32) (l5 : Int32) (l6 : Int32) (t0 : Int32) : Option (Int32 × HS) :=
  gd l6 64 <|
  nm (hs_v' σ (upd (hs_v σ) l6.toNatClampNeg l5)) fun s19 =>
  if t0 = 0 then
    some (0, s19)
  else
    bd2 (rr_get (hs_x s19) l4) fun v21 s22 =>
    nm (hs_x' s19 s22) fun s23 =>
    if v21 = l5 then
      some (1, s23)
    else
      some (0, s23)
def hh_isPut_39   (σ : HS) (l4 : Int32) (l5 : Int32) (l6 : Int32) : Option (Int32 × HS) :=
  bd2 (rr_put (hs_x σ) l4 l5) fun v13 s14 =>
  nm (hs_x' σ s14) fun s15 =>
  gd l6 64 <|
  if v13 = (hs_v s15 l6.toNatClampNeg) then
    hh_isPut_59 s15 l4 l5 l6 1
  else
    hh_isPut_59 s15 l4 l5 l6 0
def hh_isPut  (σ : HS) (a4 : Int32) (a5 : Int32) : Option (Int32 × HS) :=
  gd 0 1 <|
  bd (hh_placeOf (hs_k σ) (hs_n σ (0 : Int32).toNatClampNeg) a4) fun v2 =>
  if 0 ≤ v2 then
    hh_isPut_39 σ a4 a5 v2
  else
    gd 0 1 <|
    nm (hs_n σ (0 : Int32).toNatClampNeg) fun v5 =>
    gd v5 64 <|
    nm (hs_k' σ (upd (hs_k σ) v5.toNatClampNeg a4)) fun s7 =>
    gd v5 64 <|
    nm (hs_v' s7 (upd (hs_v s7) v5.toNatClampNeg (-1))) fun s9 =>
    gd 0 1 <|
    gd 0 1 <|
    nm (hs_n' s9 (upd (hs_n s9) (0 : Int32).toNatClampNeg ((hs_n s9 (0 : Int32).toNatClampNeg) + 1))) fun s12 =>
    hh_isPut_39 s12 a4 a5 v5
set_option maxHeartbeats 4000000 in
set_option maxRecDepth 100000 in
theorem tL_isPut (l : Launch) (D : va_G) (ca : Nat → ClassId) (B : Nat → Nat) (ar : Nat → Nat → Nat) (E : Nat → Nat) (sz : Nat)  (σ : HS) (a4 : Int32) (a5 : Int32) (r : Int32) (σ9 : HS) (hf : hh_isPut σ a4 a5 = some (r, σ9)) : Ci l D ca yL_isPut wsL_isPut { frames := 6, cells := 0, slots := 0, locals := 139 } [.ref (B 0), .ref (E 0), .ref (E 1), .ref (E 2), .int a4, .int a5] (wH ca B ar E σ) sz r (wH ca B ar E σ9) := by
  refine body_of (cc := cL_isPut) (maxL := 8) (ret := (some .boolean)) (fun A => Qi D ca r (wH ca B ar E σ9) A) (by decide) rfl (Nat.le_of_ble_eq_true rfl) ?_
  intro p e s m below meth c A ls hx hb hr hml hts hown hlocks hA hK hP hD hS hl hN
  have hl : lv_has ls 8 [(0, .ref (B 0)), (1, .ref (E 0)), (2, .ref (E 1)), (3, .ref (E 2)), (4, .int a4), (5, .int a5)] := hl
  have hret : ∀ (pc : Nat) (ls : Array Slot) (H : Heap) (locs : List Loc), decode cL_isPut pc = .ok (.ireturn, 1) → narrow .boolean (.int r) = .int r → va_P D vwCl (wH ca B ar E σ9) H → va_D A (wH ca B ar E σ9) → va_S A s.heap H locs → W p l e { frames := 6, cells := 0, slots := 0, locals := 139 } s m ([.ref (B 0), .ref (E 0), .ref (E 1), .ref (E 2), .int a4, .int a5] : List Value).toArray below meth c H locs 0 0 (MQ below (Qi D ca r (wH ca B ar E σ9) A) ([.ref (B 0), .ref (E 0), .ref (E 1), .ref (E 2), .int a4, .int a5] : List Value).toArray s 0 0 A) (F0 m pc ls [.int r]) := fun pc ls H locs hd hn hP hD hS => ret_z hx hb hr hn hlocks hK hP hD hS hd
  generalize MQ below (Qi D ca r (wH ca B ar E σ9) A) ([.ref (B 0), .ref (E 0), .ref (E 1), .ref (E 2), .int a4, .int a5] : List Value).toArray s 0 0 A = Q at hret ⊢
  generalize ([.ref (B 0), .ref (E 0), .ref (E 1), .ref (E 2), .int a4, .int a5] : List Value).toArray = args at hts hret ⊢
  have J59 : ∀ (H : Heap) (locs : List Loc) (ls : Array Slot) (σ : HS) (l4 : Int32) (l5 : Int32) (l6 : Int32) (t0 : Int32), hh_isPut_59  σ l4 l5 l6 t0 = some (r, σ9) → va_P D vwCl (wH ca B ar E σ) H → va_D A (wH ca B ar E σ) → va_S A s.heap H locs → lv_has ls 8 [(0, .ref (B 0)), (2, .ref (E 1)), (4, .int l4), (5, .int l5), (6, .int l6)] → W p l e { frames := 6, cells := 0, slots := 0, locals := 139 } s m args below meth c H locs 0 0 Q (F0 m 59 ls [.int t0]) := by
    intro H locs ls σ l4 l5 l6 t0 hf hP hD hS hl
    unfold hh_isPut_59 at hf
    refine lv_istore (lv' := [(7, .int t0), (0, .ref (B 0)), (2, .ref (E 1)), (4, .int l4), (5, .int l5), (6, .int l6)]) hx hb dL_isPut_59 hl (by decide) rfl (fun ls hl => ?_)
    refine lv_aload_n hx hb dL_isPut_61 rfl (lv_at hl 2 rfl) ?_
    refine lv_iload hx hb dL_isPut_62 (lv_at hl 5 rfl) ?_
    refine lv_iload hx hb dL_isPut_64 (lv_at hl 4 rfl) ?_
    obtain ⟨g18, hf⟩ := gd_ob hf
    obtain ⟨s19, es19, hf⟩ := nm_ob hf
    refine va_iast hx hb hK hP hD hS 21 0 rfl rfl g18 dL_isPut_66 (fun H locs hP hD hS => ?_)
    have hP : va_P D vwCl (wH ca B ar E s19) H := by rw [← es19]; exact hP
    have hD : va_D A (wH ca B ar E s19) := by rw [← es19]; exact hD
    refine lv_iload hx hb dL_isPut_67 (lv_at hl 0 rfl) ?_
    refine lv_if_eq (tgt := 87) hx hb dL_isPut_69 (by decide) (fun c20 => ?_) (fun c20 => ?_)
    · replace hf := it_p c20 hf
      refine lv_iconst (v := 0) hx hb dL_isPut_87 (by decide) ?_
      obtain ⟨rfl, rfl⟩ := so2 hf
      exact hret _ _ _ _ dL_isPut_88 rfl hP hD hS
    · replace hf := it_n c20 hf
      refine lv_aload_n hx hb dL_isPut_72 rfl (lv_at hl 1 rfl) ?_
      refine lv_iload hx hb dL_isPut_73 (lv_at hl 3 rfl) ?_
      obtain ⟨v21, s22, ev21, hf⟩ := bd2_ob hf
      refine call_i (As := [.int l4]) (rest := []) ⟨hx, hb, hml, hown, hts⟩ (tX4_get l D ca B ar _ (hs_x s19) l4 v21 s22 ev21) (cwV 1 hts gL_isPut_X4_get rfl rfl rfl (by decide +kernel) ⟨Nat.le_of_ble_eq_true rfl, Nat.le_of_ble_eq_true rfl⟩) hN hK hP hD hA hS (fr_HR ca B ar E s19 s22) rfl rfl rfl hl.1 rfl (lv_room (Nat.le_of_ble_eq_true rfl)) dL_isPut_75 ⟨Nat.le_refl _, Nat.le_refl _⟩ (fun H locs hP hD hS => ?_)
      obtain ⟨s23, es23, hf⟩ := nm_ob hf
      have hP : va_P D vwCl (wH ca B ar E s23) H := by rw [← es23]; exact hP
      have hD : va_D A (wH ca B ar E s23) := by rw [← es23]; exact hD
      refine lv_iload hx hb dL_isPut_78 (lv_at hl 4 rfl) ?_
      refine lv_icmp_ne (tgt := 87) hx hb dL_isPut_80 (by decide) (fun c24 => ?_) (fun c24 => ?_)
      · replace hf := it_n c24 hf
        refine lv_iconst (v := 0) hx hb dL_isPut_87 (by decide) ?_
        obtain ⟨rfl, rfl⟩ := so2 hf
        exact hret _ _ _ _ dL_isPut_88 rfl hP hD hS
      · replace hf := it_p c24 hf
        refine lv_iconst (v := 1) hx hb dL_isPut_83 (by decide) ?_
        refine lv_goto (tgt := 88) hx hb dL_isPut_84 (by decide) ?_
        obtain ⟨rfl, rfl⟩ := so2 hf
        exact hret _ _ _ _ dL_isPut_88 rfl hP hD hS
  have J39 : ∀ (H : Heap) (locs : List Loc) (ls : Array Slot) (σ : HS) (l4 : Int32) (l5 : Int32) (l6 : Int32), hh_isPut_39  σ l4 l5 l6 = some (r, σ9) → va_P D vwCl (wH ca B ar E σ) H → va_D A (wH ca B ar E σ) → va_S A s.heap H locs → lv_has ls 8 [(0, .ref (B 0)), (2, .ref (E 1)), (4, .int l4), (5, .int l5), (6, .int l6)] → W p l e { frames := 6, cells := 0, slots := 0, locals := 139 } s m args below meth c H locs 0 0 Q (F0 m 39 ls []) := by
    intro H locs ls σ l4 l5 l6 hf hP hD hS hl
    unfold hh_isPut_39 at hf
    refine lv_aload_n hx hb dL_isPut_39 rfl (lv_at hl 0 rfl) ?_
    refine lv_iload hx hb dL_isPut_40 (lv_at hl 2 rfl) ?_
    refine lv_iload hx hb dL_isPut_42 (lv_at hl 3 rfl) ?_
    obtain ⟨v13, s14, ev13, hf⟩ := bd2_ob hf
    refine call_i (As := [.int l4, .int l5]) (rest := []) ⟨hx, hb, hml, hown, hts⟩ (tX4_put l D ca B ar _ (hs_x σ) l4 l5 v13 s14 ev13) (cwV 2 hts gL_isPut_X4_put rfl rfl rfl (by decide +kernel) ⟨Nat.le_of_ble_eq_true rfl, Nat.le_of_ble_eq_true rfl⟩) hN hK hP hD hA hS (fr_HR ca B ar E σ s14) rfl rfl rfl hl.1 rfl (lv_room (Nat.le_of_ble_eq_true rfl)) dL_isPut_44 ⟨Nat.le_refl _, Nat.le_refl _⟩ (fun H locs hP hD hS => ?_)
    obtain ⟨s15, es15, hf⟩ := nm_ob hf
    have hP : va_P D vwCl (wH ca B ar E s15) H := by rw [← es15]; exact hP
    have hD : va_D A (wH ca B ar E s15) := by rw [← es15]; exact hD
    refine lv_aload_n hx hb dL_isPut_47 rfl (lv_at hl 1 rfl) ?_
    refine lv_iload hx hb dL_isPut_48 (lv_at hl 4 rfl) ?_
    obtain ⟨g16, hf⟩ := gd_ob hf
    refine va_iald hx hb hK hP 21 0 rfl rfl g16 dL_isPut_50 ?_
    refine lv_icmp_ne (tgt := 58) hx hb dL_isPut_51 (by decide) (fun c17 => ?_) (fun c17 => ?_)
    · replace hf := it_n c17 hf
      refine lv_iconst (v := 0) hx hb dL_isPut_58 (by decide) ?_
      exact J59 _ _ _ _ _ _ _ _ hf hP hD hS (lv_sub hl [0, 1, 2, 3, 4] rfl)
    · replace hf := it_p c17 hf
      refine lv_iconst (v := 1) hx hb dL_isPut_54 (by decide) ?_
      refine lv_goto (tgt := 59) hx hb dL_isPut_55 (by decide) ?_
      exact J59 _ _ _ _ _ _ _ _ hf hP hD hS (lv_sub hl [0, 1, 2, 3, 4] rfl)
  unfold hh_isPut at hf
  refine lv_aload_n hx hb dL_isPut_0 rfl (lv_at hl 1 rfl) ?_
  refine lv_aload_n hx hb dL_isPut_1 rfl (lv_at hl 3 rfl) ?_
  refine lv_iconst (v := 0) hx hb dL_isPut_2 (by decide) ?_
  obtain ⟨g1, hf⟩ := gd_ob hf
  refine va_iald hx hb hK hP 22 0 rfl rfl g1 dL_isPut_3 ?_
  refine lv_iload hx hb dL_isPut_4 (lv_at hl 4 rfl) ?_
  obtain ⟨v2, ev2, hf⟩ := bd_ob hf
  refine call_si (As := [.ref (E 0), .int (hs_n σ (0 : Int32).toNatClampNeg), .int a4]) (rest := []) ⟨hx, hb, hml, hown, hts⟩ (tL_placeOf l D ca (E 0) _ (hs_k σ) (hs_n σ (0 : Int32).toNatClampNeg) a4 v2 ev2) (va_cwS 3 hts gL_isPut_L_placeOf rfl rfl rfl (by decide +kernel) ⟨Nat.le_of_ble_eq_true rfl, Nat.le_of_ble_eq_true rfl⟩) hN hK hP hD hA hS (fr_Hk ca B ar E σ) rfl hl.1 rfl (lv_room (Nat.le_of_ble_eq_true rfl)) dL_isPut_6 ⟨Nat.le_refl _, Nat.le_refl _⟩ (fun H locs hP hD hS => ?_)
  refine lv_istore (lv' := [(6, .int v2), (0, .ref (B 0)), (1, .ref (E 0)), (2, .ref (E 1)), (3, .ref (E 2)), (4, .int a4), (5, .int a5)]) hx hb dL_isPut_9 hl (by decide) rfl (fun ls hl => ?_)
  refine lv_iload hx hb dL_isPut_11 (lv_at hl 0 rfl) ?_
  refine lv_if_ge (tgt := 39) hx hb dL_isPut_13 (by decide) (fun c3 => ?_) (fun c3 => ?_)
  · replace hf := it_p c3 hf
    exact J39 _ _ _ _ _ _ _ hf hP hD hS (lv_sub hl [1, 3, 5, 6, 0] rfl)
  · replace hf := it_n c3 hf
    refine lv_aload_n hx hb dL_isPut_16 rfl (lv_at hl 4 rfl) ?_
    refine lv_iconst (v := 0) hx hb dL_isPut_17 (by decide) ?_
    obtain ⟨g4, hf⟩ := gd_ob hf
    refine va_iald hx hb hK hP 22 0 rfl rfl g4 dL_isPut_18 ?_
    obtain ⟨v5, ev5, hf⟩ := nm_ob hf
    refine tp_i ev5 ?_
    refine lv_istore (lv' := [(6, .int v5), (0, .ref (B 0)), (1, .ref (E 0)), (2, .ref (E 1)), (3, .ref (E 2)), (4, .int a4), (5, .int a5)]) hx hb dL_isPut_19 hl (by decide) rfl (fun ls hl => ?_)
    refine lv_aload_n hx hb dL_isPut_21 rfl (lv_at hl 2 rfl) ?_
    refine lv_iload hx hb dL_isPut_22 (lv_at hl 0 rfl) ?_
    refine lv_iload hx hb dL_isPut_24 (lv_at hl 5 rfl) ?_
    obtain ⟨g6, hf⟩ := gd_ob hf
    obtain ⟨s7, es7, hf⟩ := nm_ob hf
    refine va_iast hx hb hK hP hD hS 20 0 rfl rfl g6 dL_isPut_26 (fun H locs hP hD hS => ?_)
    have hP : va_P D vwCl (wH ca B ar E s7) H := by rw [← es7]; exact hP
    have hD : va_D A (wH ca B ar E s7) := by rw [← es7]; exact hD
    refine lv_aload_n hx hb dL_isPut_27 rfl (lv_at hl 3 rfl) ?_
    refine lv_iload hx hb dL_isPut_28 (lv_at hl 0 rfl) ?_
    refine lv_iconst (v := (-1)) hx hb dL_isPut_30 (by decide) ?_
    obtain ⟨g8, hf⟩ := gd_ob hf
    obtain ⟨s9, es9, hf⟩ := nm_ob hf
    refine va_iast hx hb hK hP hD hS 21 0 rfl rfl g8 dL_isPut_31 (fun H locs hP hD hS => ?_)
    have hP : va_P D vwCl (wH ca B ar E s9) H := by rw [← es9]; exact hP
    have hD : va_D A (wH ca B ar E s9) := by rw [← es9]; exact hD
    refine lv_aload_n hx hb dL_isPut_32 rfl (lv_at hl 4 rfl) ?_
    refine lv_iconst (v := 0) hx hb dL_isPut_33 (by decide) ?_
    refine lv_dup2_11 hx hb dL_isPut_34 rfl rfl ?_
    obtain ⟨g10, hf⟩ := gd_ob hf
    refine va_iald hx hb hK hP 22 0 rfl rfl g10 dL_isPut_35 ?_
    refine lv_iconst (v := 1) hx hb dL_isPut_36 (by decide) ?_
    refine lv_iadd hx hb dL_isPut_37 ?_
    obtain ⟨g11, hf⟩ := gd_ob hf
    obtain ⟨s12, es12, hf⟩ := nm_ob hf
    refine va_iast hx hb hK hP hD hS 22 0 rfl rfl g11 dL_isPut_38 (fun H locs hP hD hS => ?_)
    have hP : va_P D vwCl (wH ca B ar E s12) H := by rw [← es12]; exact hP
    have hD : va_D A (wH ca B ar E s12) := by rw [← es12]; exact hD
    exact J39 _ _ _ _ _ _ _ hf hP hD hS (lv_sub hl [1, 3, 5, 6, 0] rfl)

def hh_isRemoved_46   (σ : HS) (l5 : Int32) (t0 : Int32) : Option (Int32 × HS) :=
  if l5 < 0 then
    gn .boolean t0 <|
    some (t0, σ)
  else
    gd l5 64 <|
    nm (hs_v' σ (upd (hs_v σ) l5.toNatClampNeg (-1))) fun s15 =>
    gn .boolean t0 <|
    some (t0, s15)
def hh_isRemoved_28   (σ : HS) (l4 : Int32) (l5 : Int32) (t0 : Int32) (t1 : Int32) : Option (Int32 × HS) :=
  if t0 = t1 then
    bd2 (rr_get (hs_x σ) l4) fun v8 s9 =>
    nm (hs_x' σ s9) fun s10 =>
    if v8 = (-1) then
      hh_isRemoved_46 s10 l5 1
    else
      hh_isRemoved_46 s10 l5 0
  else
    hh_isRemoved_46 σ l5 0
def hh_isRemoved  (σ : HS) (a3 : Int32) (a4 : Int32) : Option (Int32 × HS) :=
  bd (hh_placeOf (hs_k σ) a3 a4) fun v1 =>
  bd2 (rr_remove (hs_x σ) a4) fun v2 s3 =>
  nm (hs_x' σ s3) fun s4 =>
  if 0 ≤ v1 then
    gd v1 64 <|
    hh_isRemoved_28 s4 a4 v1 v2 (hs_v s4 v1.toNatClampNeg)
  else
    hh_isRemoved_28 s4 a4 v1 v2 (-1)
set_option maxHeartbeats 4000000 in
set_option maxRecDepth 100000 in
theorem tL_isRemoved (l : Launch) (D : va_G) (ca : Nat → ClassId) (B : Nat → Nat) (ar : Nat → Nat → Nat) (E : Nat → Nat) (sz : Nat)  (σ : HS) (a3 : Int32) (a4 : Int32) (r : Int32) (σ9 : HS) (hf : hh_isRemoved σ a3 a4 = some (r, σ9)) : Ci l D ca yL_isRemoved wsL_isRemoved { frames := 5, cells := 0, slots := 0, locals := 119 } [.ref (B 0), .ref (E 0), .ref (E 1), .int a3, .int a4] (wH ca B ar E σ) sz r (wH ca B ar E σ9) := by
  refine body_of (cc := cL_isRemoved) (maxL := 7) (ret := (some .boolean)) (fun A => Qi D ca r (wH ca B ar E σ9) A) (by decide) rfl (Nat.le_of_ble_eq_true rfl) ?_
  intro p e s m below meth c A ls hx hb hr hml hts hown hlocks hA hK hP hD hS hl hN
  have hl : lv_has ls 7 [(0, .ref (B 0)), (1, .ref (E 0)), (2, .ref (E 1)), (3, .int a3), (4, .int a4)] := hl
  have hret : ∀ (pc : Nat) (ls : Array Slot) (H : Heap) (locs : List Loc), decode cL_isRemoved pc = .ok (.ireturn, 1) → narrow .boolean (.int r) = .int r → va_P D vwCl (wH ca B ar E σ9) H → va_D A (wH ca B ar E σ9) → va_S A s.heap H locs → W p l e { frames := 5, cells := 0, slots := 0, locals := 119 } s m ([.ref (B 0), .ref (E 0), .ref (E 1), .int a3, .int a4] : List Value).toArray below meth c H locs 0 0 (MQ below (Qi D ca r (wH ca B ar E σ9) A) ([.ref (B 0), .ref (E 0), .ref (E 1), .int a3, .int a4] : List Value).toArray s 0 0 A) (F0 m pc ls [.int r]) := fun pc ls H locs hd hn hP hD hS => ret_z hx hb hr hn hlocks hK hP hD hS hd
  generalize MQ below (Qi D ca r (wH ca B ar E σ9) A) ([.ref (B 0), .ref (E 0), .ref (E 1), .int a3, .int a4] : List Value).toArray s 0 0 A = Q at hret ⊢
  generalize ([.ref (B 0), .ref (E 0), .ref (E 1), .int a3, .int a4] : List Value).toArray = args at hts hret ⊢
  have J46 : ∀ (H : Heap) (locs : List Loc) (ls : Array Slot) (σ : HS) (l5 : Int32) (t0 : Int32), hh_isRemoved_46  σ l5 t0 = some (r, σ9) → va_P D vwCl (wH ca B ar E σ) H → va_D A (wH ca B ar E σ) → va_S A s.heap H locs → lv_has ls 7 [(2, .ref (E 1)), (5, .int l5)] → W p l e { frames := 5, cells := 0, slots := 0, locals := 119 } s m args below meth c H locs 0 0 Q (F0 m 46 ls [.int t0]) := by
    intro H locs ls σ l5 t0 hf hP hD hS hl
    unfold hh_isRemoved_46 at hf
    refine lv_istore (lv' := [(6, .int t0), (2, .ref (E 1)), (5, .int l5)]) hx hb dL_isRemoved_46 hl (by decide) rfl (fun ls hl => ?_)
    refine lv_iload hx hb dL_isRemoved_48 (lv_at hl 2 rfl) ?_
    refine lv_if_lt (tgt := 58) hx hb dL_isRemoved_50 (by decide) (fun c12 => ?_) (fun c12 => ?_)
    · replace hf := it_p c12 hf
      refine lv_iload hx hb dL_isRemoved_58 (lv_at hl 0 rfl) ?_
      obtain ⟨g13, hf⟩ := gn_ob hf
      obtain ⟨rfl, rfl⟩ := so2 hf
      exact hret _ _ _ _ dL_isRemoved_60 (nr_z g13) hP hD hS
    · replace hf := it_n c12 hf
      refine lv_aload_n hx hb dL_isRemoved_53 rfl (lv_at hl 1 rfl) ?_
      refine lv_iload hx hb dL_isRemoved_54 (lv_at hl 2 rfl) ?_
      refine lv_iconst (v := (-1)) hx hb dL_isRemoved_56 (by decide) ?_
      obtain ⟨g14, hf⟩ := gd_ob hf
      obtain ⟨s15, es15, hf⟩ := nm_ob hf
      refine va_iast hx hb hK hP hD hS 21 0 rfl rfl g14 dL_isRemoved_57 (fun H locs hP hD hS => ?_)
      have hP : va_P D vwCl (wH ca B ar E s15) H := by rw [← es15]; exact hP
      have hD : va_D A (wH ca B ar E s15) := by rw [← es15]; exact hD
      refine lv_iload hx hb dL_isRemoved_58 (lv_at hl 0 rfl) ?_
      obtain ⟨g16, hf⟩ := gn_ob hf
      obtain ⟨rfl, rfl⟩ := so2 hf
      exact hret _ _ _ _ dL_isRemoved_60 (nr_z g16) hP hD hS
  have J28 : ∀ (H : Heap) (locs : List Loc) (ls : Array Slot) (σ : HS) (l4 : Int32) (l5 : Int32) (t0 : Int32) (t1 : Int32), hh_isRemoved_28  σ l4 l5 t0 t1 = some (r, σ9) → va_P D vwCl (wH ca B ar E σ) H → va_D A (wH ca B ar E σ) → va_S A s.heap H locs → lv_has ls 7 [(0, .ref (B 0)), (2, .ref (E 1)), (4, .int l4), (5, .int l5)] → W p l e { frames := 5, cells := 0, slots := 0, locals := 119 } s m args below meth c H locs 0 0 Q (F0 m 28 ls [.int t1, .int t0]) := by
    intro H locs ls σ l4 l5 t0 t1 hf hP hD hS hl
    unfold hh_isRemoved_28 at hf
    refine lv_icmp_ne (tgt := 45) hx hb dL_isRemoved_28 (by decide) (fun c7 => ?_) (fun c7 => ?_)
    · replace hf := it_n c7 hf
      refine lv_iconst (v := 0) hx hb dL_isRemoved_45 (by decide) ?_
      exact J46 _ _ _ _ _ _ hf hP hD hS (lv_sub hl [1, 3] rfl)
    · replace hf := it_p c7 hf
      refine lv_aload_n hx hb dL_isRemoved_31 rfl (lv_at hl 0 rfl) ?_
      refine lv_iload hx hb dL_isRemoved_32 (lv_at hl 2 rfl) ?_
      obtain ⟨v8, s9, ev8, hf⟩ := bd2_ob hf
      refine call_i (As := [.int l4]) (rest := []) ⟨hx, hb, hml, hown, hts⟩ (tX4_get l D ca B ar _ (hs_x σ) l4 v8 s9 ev8) (cwV 1 hts gL_isRemoved_X4_get rfl rfl rfl (by decide +kernel) ⟨Nat.le_of_ble_eq_true rfl, Nat.le_of_ble_eq_true rfl⟩) hN hK hP hD hA hS (fr_HR ca B ar E σ s9) rfl rfl rfl hl.1 rfl (lv_room (Nat.le_of_ble_eq_true rfl)) dL_isRemoved_34 ⟨Nat.le_refl _, Nat.le_refl _⟩ (fun H locs hP hD hS => ?_)
      obtain ⟨s10, es10, hf⟩ := nm_ob hf
      have hP : va_P D vwCl (wH ca B ar E s10) H := by rw [← es10]; exact hP
      have hD : va_D A (wH ca B ar E s10) := by rw [← es10]; exact hD
      refine lv_iconst (v := (-1)) hx hb dL_isRemoved_37 (by decide) ?_
      refine lv_icmp_ne (tgt := 45) hx hb dL_isRemoved_38 (by decide) (fun c11 => ?_) (fun c11 => ?_)
      · replace hf := it_n c11 hf
        refine lv_iconst (v := 0) hx hb dL_isRemoved_45 (by decide) ?_
        exact J46 _ _ _ _ _ _ hf hP hD hS (lv_sub hl [1, 3] rfl)
      · replace hf := it_p c11 hf
        refine lv_iconst (v := 1) hx hb dL_isRemoved_41 (by decide) ?_
        refine lv_goto (tgt := 46) hx hb dL_isRemoved_42 (by decide) ?_
        exact J46 _ _ _ _ _ _ hf hP hD hS (lv_sub hl [1, 3] rfl)
  unfold hh_isRemoved at hf
  refine lv_aload_n hx hb dL_isRemoved_0 rfl (lv_at hl 1 rfl) ?_
  refine lv_iload_n hx hb dL_isRemoved_1 rfl (lv_at hl 3 rfl) ?_
  refine lv_iload hx hb dL_isRemoved_2 (lv_at hl 4 rfl) ?_
  obtain ⟨v1, ev1, hf⟩ := bd_ob hf
  refine call_si (As := [.ref (E 0), .int a3, .int a4]) (rest := []) ⟨hx, hb, hml, hown, hts⟩ (tL_placeOf l D ca (E 0) _ (hs_k σ) a3 a4 v1 ev1) (va_cwS 3 hts gL_isRemoved_L_placeOf rfl rfl rfl (by decide +kernel) ⟨Nat.le_of_ble_eq_true rfl, Nat.le_of_ble_eq_true rfl⟩) hN hK hP hD hA hS (fr_Hk ca B ar E σ) rfl hl.1 rfl (lv_room (Nat.le_of_ble_eq_true rfl)) dL_isRemoved_4 ⟨Nat.le_refl _, Nat.le_refl _⟩ (fun H locs hP hD hS => ?_)
  refine lv_istore (lv' := [(5, .int v1), (0, .ref (B 0)), (1, .ref (E 0)), (2, .ref (E 1)), (3, .int a3), (4, .int a4)]) hx hb dL_isRemoved_7 hl (by decide) rfl (fun ls hl => ?_)
  refine lv_aload_n hx hb dL_isRemoved_9 rfl (lv_at hl 1 rfl) ?_
  refine lv_iload hx hb dL_isRemoved_10 (lv_at hl 5 rfl) ?_
  obtain ⟨v2, s3, ev2, hf⟩ := bd2_ob hf
  refine call_i (As := [.int a4]) (rest := []) ⟨hx, hb, hml, hown, hts⟩ (tX4_remove l D ca B ar _ (hs_x σ) a4 v2 s3 ev2) (cwV 1 hts gL_isRemoved_X4_remove rfl rfl rfl (by decide +kernel) ⟨Nat.le_of_ble_eq_true rfl, Nat.le_of_ble_eq_true rfl⟩) hN hK hP hD hA hS (fr_HR ca B ar E σ s3) rfl rfl rfl hl.1 rfl (lv_room (Nat.le_of_ble_eq_true rfl)) dL_isRemoved_12 ⟨Nat.le_refl _, Nat.le_refl _⟩ (fun H locs hP hD hS => ?_)
  obtain ⟨s4, es4, hf⟩ := nm_ob hf
  have hP : va_P D vwCl (wH ca B ar E s4) H := by rw [← es4]; exact hP
  have hD : va_D A (wH ca B ar E s4) := by rw [← es4]; exact hD
  refine lv_iload hx hb dL_isRemoved_15 (lv_at hl 0 rfl) ?_
  refine lv_if_ge (tgt := 24) hx hb dL_isRemoved_17 (by decide) (fun c5 => ?_) (fun c5 => ?_)
  · replace hf := it_p c5 hf
    refine lv_aload_n hx hb dL_isRemoved_24 rfl (lv_at hl 3 rfl) ?_
    refine lv_iload hx hb dL_isRemoved_25 (lv_at hl 0 rfl) ?_
    obtain ⟨g6, hf⟩ := gd_ob hf
    refine va_iald hx hb hK hP 21 0 rfl rfl g6 dL_isRemoved_27 ?_
    exact J28 _ _ _ _ _ _ _ _ hf hP hD hS (lv_sub hl [1, 3, 5, 0] rfl)
  · replace hf := it_n c5 hf
    refine lv_iconst (v := (-1)) hx hb dL_isRemoved_20 (by decide) ?_
    refine lv_goto (tgt := 28) hx hb dL_isRemoved_21 (by decide) ?_
    exact J28 _ _ _ _ _ _ _ _ hf hP hD hS (lv_sub hl [1, 3, 5, 0] rfl)

def hh_isSo_147   (σ : HS) (l4 : Int32) (l7 : Int32) (t0 : Int32) : Option (Int32 × HS) :=
  if l7 = 0 then
    some (0, σ)
  else
    bd2 (rr_get (hs_x σ) l4) fun v33 s34 =>
    nm (hs_x' σ s34) fun s35 =>
    if v33 = t0 then
      bd2 (rr_groups (hs_x s35) l4) fun v37 s38 =>
      nm (hs_x' s35 s38) fun s39 =>
      if v37 < 1 then
        some (0, s39)
      else
        if t0 < 0 then
          some (1, s39)
        else
          bd2 (rr_comparisons (hs_x s39) l4) fun v42 s43 =>
          nm (hs_x' s39 s43) fun s44 =>
          if v42 < 1 then
            some (0, s44)
          else
            some (1, s44)
    else
      some (0, s35)
def hh_isSo_123   (σ : HS) (l3 : Int32) (l4 : Int32) (t0 : Int32) : Option (Int32 × HS) :=
  bd (hh_placeOf (hs_k σ) l3 l4) fun v29 =>
  if 0 ≤ v29 then
    gd v29 64 <|
    hh_isSo_147 σ l4 t0 (hs_v σ v29.toNatClampNeg)
  else
    hh_isSo_147 σ l4 t0 (-1)
def hh_isSo_57   (σ : HS) (l3 : Int32) (l4 : Int32) (l6 : Int32) (t0 : Int32) : Option (Int32 × HS) :=
  if t0 = 0 then
    hh_isSo_123 σ l3 l4 0
  else
    bd (rr_longest (hs_x σ)) fun v10 =>
    bd (rr_slots (hs_x σ) 0) fun v11 =>
    if v11 ≤ v10 then
      hh_isSo_123 σ l3 l4 0
    else
      if l6 = 0 then
        bd (rr_longest (hs_x σ)) fun v23 =>
        if v23 = (-1) then
          bd2 (rr_plainLongest (hs_x σ)) fun v25 s26 =>
          nm (hs_x' σ s26) fun s27 =>
          if v25 = (-1) then
            hh_isSo_123 s27 l3 l4 1
          else
            hh_isSo_123 s27 l3 l4 0
        else
          hh_isSo_123 σ l3 l4 0
      else
        bd2 (rr_plainTotal (hs_x σ)) fun v14 s15 =>
        nm (hs_x' σ s15) fun s16 =>
        if v14 < 0 then
          hh_isSo_123 s16 l3 l4 0
        else
          bd (rr_total (hs_x s16)) fun v18 =>
          bd2 (rr_plainTotal (hs_x s16)) fun v19 s20 =>
          nm (hs_x' s16 s20) fun s21 =>
          if v18 = v19 then
            hh_isSo_123 s21 l3 l4 1
          else
            hh_isSo_123 s21 l3 l4 0
def hh_isSo  (σ : HS) (a3 : Int32) (a4 : Int32) : Option (Int32 × HS) :=
  bd (hh_size (hs_v σ) a3) fun v1 =>
  bd (hh_keysOf (hs_x σ) 0) fun v2 =>
  bd (rr_size (hs_x σ)) fun v3 =>
  if v3 = v1 then
    bd (hh_keysOf (hs_x σ) 1) fun v5 =>
    if (v2 + v5) = v1 then
      bd (rr_slots (hs_x σ) 0) fun v7 =>
      if (7 * v7) < (8 * v1) then
        hh_isSo_57 σ a3 a4 v2 0
      else
        hh_isSo_57 σ a3 a4 v2 1
    else
      hh_isSo_57 σ a3 a4 v2 0
  else
    hh_isSo_57 σ a3 a4 v2 0
set_option maxHeartbeats 4000000 in
set_option maxRecDepth 100000 in
theorem tL_isSo (l : Launch) (D : va_G) (ca : Nat → ClassId) (B : Nat → Nat) (ar : Nat → Nat → Nat) (E : Nat → Nat) (sz : Nat)  (σ : HS) (a3 : Int32) (a4 : Int32) (r : Int32) (σ9 : HS) (hf : hh_isSo σ a3 a4 = some (r, σ9)) : Ci l D ca yL_isSo wsL_isSo { frames := 5, cells := 0, slots := 0, locals := 117 } [.ref (B 0), .ref (E 0), .ref (E 1), .int a3, .int a4] (wH ca B ar E σ) sz r (wH ca B ar E σ9) := by
  refine body_of (cc := cL_isSo) (maxL := 10) (ret := (some .boolean)) (fun A => Qi D ca r (wH ca B ar E σ9) A) (by decide) rfl (Nat.le_of_ble_eq_true rfl) ?_
  intro p e s m below meth c A ls hx hb hr hml hts hown hlocks hA hK hP hD hS hl hN
  have hl : lv_has ls 10 [(0, .ref (B 0)), (1, .ref (E 0)), (2, .ref (E 1)), (3, .int a3), (4, .int a4)] := hl
  have hret : ∀ (pc : Nat) (ls : Array Slot) (H : Heap) (locs : List Loc), decode cL_isSo pc = .ok (.ireturn, 1) → narrow .boolean (.int r) = .int r → va_P D vwCl (wH ca B ar E σ9) H → va_D A (wH ca B ar E σ9) → va_S A s.heap H locs → W p l e { frames := 5, cells := 0, slots := 0, locals := 117 } s m ([.ref (B 0), .ref (E 0), .ref (E 1), .int a3, .int a4] : List Value).toArray below meth c H locs 0 0 (MQ below (Qi D ca r (wH ca B ar E σ9) A) ([.ref (B 0), .ref (E 0), .ref (E 1), .int a3, .int a4] : List Value).toArray s 0 0 A) (F0 m pc ls [.int r]) := fun pc ls H locs hd hn hP hD hS => ret_z hx hb hr hn hlocks hK hP hD hS hd
  generalize MQ below (Qi D ca r (wH ca B ar E σ9) A) ([.ref (B 0), .ref (E 0), .ref (E 1), .int a3, .int a4] : List Value).toArray s 0 0 A = Q at hret ⊢
  generalize ([.ref (B 0), .ref (E 0), .ref (E 1), .int a3, .int a4] : List Value).toArray = args at hts hret ⊢
  have J147 : ∀ (H : Heap) (locs : List Loc) (ls : Array Slot) (σ : HS) (l4 : Int32) (l7 : Int32) (t0 : Int32), hh_isSo_147  σ l4 l7 t0 = some (r, σ9) → va_P D vwCl (wH ca B ar E σ) H → va_D A (wH ca B ar E σ) → va_S A s.heap H locs → lv_has ls 10 [(0, .ref (B 0)), (4, .int l4), (7, .int l7)] → W p l e { frames := 5, cells := 0, slots := 0, locals := 117 } s m args below meth c H locs 0 0 Q (F0 m 147 ls [.int t0]) := by
    intro H locs ls σ l4 l7 t0 hf hP hD hS hl
    unfold hh_isSo_147 at hf
    refine lv_istore (lv' := [(9, .int t0), (0, .ref (B 0)), (4, .int l4), (7, .int l7)]) hx hb dL_isSo_147 hl (by decide) rfl (fun ls hl => ?_)
    refine lv_iload hx hb dL_isSo_149 (lv_at hl 3 rfl) ?_
    refine lv_if_eq (tgt := 194) hx hb dL_isSo_151 (by decide) (fun c32 => ?_) (fun c32 => ?_)
    · replace hf := it_p c32 hf
      refine lv_iconst (v := 0) hx hb dL_isSo_194 (by decide) ?_
      obtain ⟨rfl, rfl⟩ := so2 hf
      exact hret _ _ _ _ dL_isSo_195 rfl hP hD hS
    · replace hf := it_n c32 hf
      refine lv_aload_n hx hb dL_isSo_154 rfl (lv_at hl 1 rfl) ?_
      refine lv_iload hx hb dL_isSo_155 (lv_at hl 2 rfl) ?_
      obtain ⟨v33, s34, ev33, hf⟩ := bd2_ob hf
      refine call_i (As := [.int l4]) (rest := []) ⟨hx, hb, hml, hown, hts⟩ (tX4_get l D ca B ar _ (hs_x σ) l4 v33 s34 ev33) (cwV 1 hts gL_isSo_X4_get rfl rfl rfl (by decide +kernel) ⟨Nat.le_of_ble_eq_true rfl, Nat.le_of_ble_eq_true rfl⟩) hN hK hP hD hA hS (fr_HR ca B ar E σ s34) rfl rfl rfl hl.1 rfl (lv_room (Nat.le_of_ble_eq_true rfl)) dL_isSo_157 ⟨Nat.le_refl _, Nat.le_refl _⟩ (fun H locs hP hD hS => ?_)
      obtain ⟨s35, es35, hf⟩ := nm_ob hf
      have hP : va_P D vwCl (wH ca B ar E s35) H := by rw [← es35]; exact hP
      have hD : va_D A (wH ca B ar E s35) := by rw [← es35]; exact hD
      refine lv_iload hx hb dL_isSo_160 (lv_at hl 0 rfl) ?_
      refine lv_icmp_ne (tgt := 194) hx hb dL_isSo_162 (by decide) (fun c36 => ?_) (fun c36 => ?_)
      · replace hf := it_n c36 hf
        refine lv_iconst (v := 0) hx hb dL_isSo_194 (by decide) ?_
        obtain ⟨rfl, rfl⟩ := so2 hf
        exact hret _ _ _ _ dL_isSo_195 rfl hP hD hS
      · replace hf := it_p c36 hf
        refine lv_aload_n hx hb dL_isSo_165 rfl (lv_at hl 1 rfl) ?_
        refine lv_iload hx hb dL_isSo_166 (lv_at hl 2 rfl) ?_
        obtain ⟨v37, s38, ev37, hf⟩ := bd2_ob hf
        refine call_i (As := [.int l4]) (rest := []) ⟨hx, hb, hml, hown, hts⟩ (tX4_groups l D ca B ar _ (hs_x s35) l4 v37 s38 ev37) (cwV 1 hts gL_isSo_X4_groups rfl rfl rfl (by decide +kernel) ⟨Nat.le_of_ble_eq_true rfl, Nat.le_of_ble_eq_true rfl⟩) hN hK hP hD hA hS (fr_HR ca B ar E s35 s38) rfl rfl rfl hl.1 rfl (lv_room (Nat.le_of_ble_eq_true rfl)) dL_isSo_168 ⟨Nat.le_refl _, Nat.le_refl _⟩ (fun H locs hP hD hS => ?_)
        obtain ⟨s39, es39, hf⟩ := nm_ob hf
        have hP : va_P D vwCl (wH ca B ar E s39) H := by rw [← es39]; exact hP
        have hD : va_D A (wH ca B ar E s39) := by rw [← es39]; exact hD
        refine lv_iconst (v := 1) hx hb dL_isSo_171 (by decide) ?_
        refine lv_icmp_lt (tgt := 194) hx hb dL_isSo_172 (by decide) (fun c40 => ?_) (fun c40 => ?_)
        · replace hf := it_p c40 hf
          refine lv_iconst (v := 0) hx hb dL_isSo_194 (by decide) ?_
          obtain ⟨rfl, rfl⟩ := so2 hf
          exact hret _ _ _ _ dL_isSo_195 rfl hP hD hS
        · replace hf := it_n c40 hf
          refine lv_iload hx hb dL_isSo_175 (lv_at hl 0 rfl) ?_
          refine lv_if_lt (tgt := 190) hx hb dL_isSo_177 (by decide) (fun c41 => ?_) (fun c41 => ?_)
          · replace hf := it_p c41 hf
            refine lv_iconst (v := 1) hx hb dL_isSo_190 (by decide) ?_
            refine lv_goto (tgt := 195) hx hb dL_isSo_191 (by decide) ?_
            obtain ⟨rfl, rfl⟩ := so2 hf
            exact hret _ _ _ _ dL_isSo_195 rfl hP hD hS
          · replace hf := it_n c41 hf
            refine lv_aload_n hx hb dL_isSo_180 rfl (lv_at hl 1 rfl) ?_
            refine lv_iload hx hb dL_isSo_181 (lv_at hl 2 rfl) ?_
            obtain ⟨v42, s43, ev42, hf⟩ := bd2_ob hf
            refine call_i (As := [.int l4]) (rest := []) ⟨hx, hb, hml, hown, hts⟩ (tX4_comparisons l D ca B ar _ (hs_x s39) l4 v42 s43 ev42) (cwV 1 hts gL_isSo_X4_comparisons rfl rfl rfl (by decide +kernel) ⟨Nat.le_of_ble_eq_true rfl, Nat.le_of_ble_eq_true rfl⟩) hN hK hP hD hA hS (fr_HR ca B ar E s39 s43) rfl rfl rfl hl.1 rfl (lv_room (Nat.le_of_ble_eq_true rfl)) dL_isSo_183 ⟨Nat.le_refl _, Nat.le_refl _⟩ (fun H locs hP hD hS => ?_)
            obtain ⟨s44, es44, hf⟩ := nm_ob hf
            have hP : va_P D vwCl (wH ca B ar E s44) H := by rw [← es44]; exact hP
            have hD : va_D A (wH ca B ar E s44) := by rw [← es44]; exact hD
            refine lv_iconst (v := 1) hx hb dL_isSo_186 (by decide) ?_
            refine lv_icmp_lt (tgt := 194) hx hb dL_isSo_187 (by decide) (fun c45 => ?_) (fun c45 => ?_)
            · replace hf := it_p c45 hf
              refine lv_iconst (v := 0) hx hb dL_isSo_194 (by decide) ?_
              obtain ⟨rfl, rfl⟩ := so2 hf
              exact hret _ _ _ _ dL_isSo_195 rfl hP hD hS
            · replace hf := it_n c45 hf
              refine lv_iconst (v := 1) hx hb dL_isSo_190 (by decide) ?_
              refine lv_goto (tgt := 195) hx hb dL_isSo_191 (by decide) ?_
              obtain ⟨rfl, rfl⟩ := so2 hf
              exact hret _ _ _ _ dL_isSo_195 rfl hP hD hS
  have J123 : ∀ (H : Heap) (locs : List Loc) (ls : Array Slot) (σ : HS) (l3 : Int32) (l4 : Int32) (t0 : Int32), hh_isSo_123  σ l3 l4 t0 = some (r, σ9) → va_P D vwCl (wH ca B ar E σ) H → va_D A (wH ca B ar E σ) → va_S A s.heap H locs → lv_has ls 10 [(0, .ref (B 0)), (1, .ref (E 0)), (2, .ref (E 1)), (3, .int l3), (4, .int l4)] → W p l e { frames := 5, cells := 0, slots := 0, locals := 117 } s m args below meth c H locs 0 0 Q (F0 m 123 ls [.int t0]) := by
    intro H locs ls σ l3 l4 t0 hf hP hD hS hl
    unfold hh_isSo_123 at hf
    refine lv_istore (lv' := [(7, .int t0), (0, .ref (B 0)), (1, .ref (E 0)), (2, .ref (E 1)), (3, .int l3), (4, .int l4)]) hx hb dL_isSo_123 hl (by decide) rfl (fun ls hl => ?_)
    refine lv_aload_n hx hb dL_isSo_125 rfl (lv_at hl 2 rfl) ?_
    refine lv_iload_n hx hb dL_isSo_126 rfl (lv_at hl 4 rfl) ?_
    refine lv_iload hx hb dL_isSo_127 (lv_at hl 5 rfl) ?_
    obtain ⟨v29, ev29, hf⟩ := bd_ob hf
    refine call_si (As := [.ref (E 0), .int l3, .int l4]) (rest := []) ⟨hx, hb, hml, hown, hts⟩ (tL_placeOf l D ca (E 0) _ (hs_k σ) l3 l4 v29 ev29) (va_cwS 3 hts gL_isSo_L_placeOf rfl rfl rfl (by decide +kernel) ⟨Nat.le_of_ble_eq_true rfl, Nat.le_of_ble_eq_true rfl⟩) hN hK hP hD hA hS (fr_Hk ca B ar E σ) rfl hl.1 rfl (lv_room (Nat.le_of_ble_eq_true rfl)) dL_isSo_129 ⟨Nat.le_refl _, Nat.le_refl _⟩ (fun H locs hP hD hS => ?_)
    refine lv_istore (lv' := [(8, .int v29), (7, .int t0), (0, .ref (B 0)), (1, .ref (E 0)), (2, .ref (E 1)), (3, .int l3), (4, .int l4)]) hx hb dL_isSo_132 hl (by decide) rfl (fun ls hl => ?_)
    refine lv_iload hx hb dL_isSo_134 (lv_at hl 0 rfl) ?_
    refine lv_if_ge (tgt := 143) hx hb dL_isSo_136 (by decide) (fun c30 => ?_) (fun c30 => ?_)
    · replace hf := it_p c30 hf
      refine lv_aload_n hx hb dL_isSo_143 rfl (lv_at hl 4 rfl) ?_
      refine lv_iload hx hb dL_isSo_144 (lv_at hl 0 rfl) ?_
      obtain ⟨g31, hf⟩ := gd_ob hf
      refine va_iald hx hb hK hP 21 0 rfl rfl g31 dL_isSo_146 ?_
      exact J147 _ _ _ _ _ _ _ hf hP hD hS (lv_sub hl [2, 6, 1] rfl)
    · replace hf := it_n c30 hf
      refine lv_iconst (v := (-1)) hx hb dL_isSo_139 (by decide) ?_
      refine lv_goto (tgt := 147) hx hb dL_isSo_140 (by decide) ?_
      exact J147 _ _ _ _ _ _ _ hf hP hD hS (lv_sub hl [2, 6, 1] rfl)
  have J57 : ∀ (H : Heap) (locs : List Loc) (ls : Array Slot) (σ : HS) (l3 : Int32) (l4 : Int32) (l6 : Int32) (t0 : Int32), hh_isSo_57  σ l3 l4 l6 t0 = some (r, σ9) → va_P D vwCl (wH ca B ar E σ) H → va_D A (wH ca B ar E σ) → va_S A s.heap H locs → lv_has ls 10 [(0, .ref (B 0)), (1, .ref (E 0)), (2, .ref (E 1)), (3, .int l3), (4, .int l4), (6, .int l6)] → W p l e { frames := 5, cells := 0, slots := 0, locals := 117 } s m args below meth c H locs 0 0 Q (F0 m 57 ls [.int t0]) := by
    intro H locs ls σ l3 l4 l6 t0 hf hP hD hS hl
    unfold hh_isSo_57 at hf
    refine lv_istore (lv' := [(7, .int t0), (0, .ref (B 0)), (1, .ref (E 0)), (2, .ref (E 1)), (3, .int l3), (4, .int l4), (6, .int l6)]) hx hb dL_isSo_57 hl (by decide) rfl (fun ls hl => ?_)
    refine lv_iload hx hb dL_isSo_59 (lv_at hl 0 rfl) ?_
    refine lv_if_eq (tgt := 122) hx hb dL_isSo_61 (by decide) (fun c9 => ?_) (fun c9 => ?_)
    · replace hf := it_p c9 hf
      refine lv_iconst (v := 0) hx hb dL_isSo_122 (by decide) ?_
      exact J123 _ _ _ _ _ _ _ hf hP hD hS (lv_sub hl [1, 2, 3, 4, 5] rfl)
    · replace hf := it_n c9 hf
      refine lv_aload_n hx hb dL_isSo_64 rfl (lv_at hl 1 rfl) ?_
      obtain ⟨v10, ev10, hf⟩ := bd_ob hf
      refine call_i (As := []) (rest := []) ⟨hx, hb, hml, hown, hts⟩ (tX4_longest l D ca B ar _ (hs_x σ) v10 ev10) (cwV 0 hts gL_isSo_X4_longest rfl rfl rfl (by decide +kernel) ⟨Nat.le_of_ble_eq_true rfl, Nat.le_of_ble_eq_true rfl⟩) hN hK hP hD hA hS (fr_HRp ca B ar E σ) rfl rfl rfl hl.1 rfl (lv_room (Nat.le_of_ble_eq_true rfl)) dL_isSo_65 ⟨Nat.le_refl _, Nat.le_refl _⟩ (fun H locs hP hD hS => ?_)
      refine lv_aload_n hx hb dL_isSo_68 rfl (lv_at hl 1 rfl) ?_
      refine lv_iconst (v := 0) hx hb dL_isSo_69 (by decide) ?_
      obtain ⟨v11, ev11, hf⟩ := bd_ob hf
      refine call_i (As := [.int 0]) (rest := [.int v10]) ⟨hx, hb, hml, hown, hts⟩ (tX4_slots l D ca B ar _ (hs_x σ) 0 v11 ev11) (cwV 1 hts gL_isSo_X4_slots rfl rfl rfl (by decide +kernel) ⟨Nat.le_of_ble_eq_true rfl, Nat.le_of_ble_eq_true rfl⟩) hN hK hP hD hA hS (fr_HRp ca B ar E σ) rfl rfl rfl hl.1 rfl (lv_room (Nat.le_of_ble_eq_true rfl)) dL_isSo_70 ⟨Nat.le_refl _, Nat.le_refl _⟩ (fun H locs hP hD hS => ?_)
      refine lv_icmp_ge (tgt := 122) hx hb dL_isSo_73 (by decide) (fun c12 => ?_) (fun c12 => ?_)
      · replace hf := it_p c12 hf
        refine lv_iconst (v := 0) hx hb dL_isSo_122 (by decide) ?_
        exact J123 _ _ _ _ _ _ _ hf hP hD hS (lv_sub hl [1, 2, 3, 4, 5] rfl)
      · replace hf := it_n c12 hf
        refine lv_iload hx hb dL_isSo_76 (lv_at hl 6 rfl) ?_
        refine lv_if_ne (tgt := 100) hx hb dL_isSo_78 (by decide) (fun c13 => ?_) (fun c13 => ?_)
        · replace hf := it_n c13 hf
          refine lv_aload_n hx hb dL_isSo_100 rfl (lv_at hl 1 rfl) ?_
          obtain ⟨v14, s15, ev14, hf⟩ := bd2_ob hf
          refine call_i (As := []) (rest := []) ⟨hx, hb, hml, hown, hts⟩ (tX4_plainTotal l D ca B ar _ (hs_x σ) v14 s15 ev14) (cwV 0 hts gL_isSo_X4_plainTotal rfl rfl rfl (by decide +kernel) ⟨Nat.le_of_ble_eq_true rfl, Nat.le_of_ble_eq_true rfl⟩) hN hK hP hD hA hS (fr_HR ca B ar E σ s15) rfl rfl rfl hl.1 rfl (lv_room (Nat.le_of_ble_eq_true rfl)) dL_isSo_101 ⟨Nat.le_refl _, Nat.le_refl _⟩ (fun H locs hP hD hS => ?_)
          obtain ⟨s16, es16, hf⟩ := nm_ob hf
          have hP : va_P D vwCl (wH ca B ar E s16) H := by rw [← es16]; exact hP
          have hD : va_D A (wH ca B ar E s16) := by rw [← es16]; exact hD
          refine lv_if_lt (tgt := 122) hx hb dL_isSo_104 (by decide) (fun c17 => ?_) (fun c17 => ?_)
          · replace hf := it_p c17 hf
            refine lv_iconst (v := 0) hx hb dL_isSo_122 (by decide) ?_
            exact J123 _ _ _ _ _ _ _ hf hP hD hS (lv_sub hl [1, 2, 3, 4, 5] rfl)
          · replace hf := it_n c17 hf
            refine lv_aload_n hx hb dL_isSo_107 rfl (lv_at hl 1 rfl) ?_
            obtain ⟨v18, ev18, hf⟩ := bd_ob hf
            refine call_i (As := []) (rest := []) ⟨hx, hb, hml, hown, hts⟩ (tX4_total l D ca B ar _ (hs_x s16) v18 ev18) (cwV 0 hts gL_isSo_X4_total rfl rfl rfl (by decide +kernel) ⟨Nat.le_of_ble_eq_true rfl, Nat.le_of_ble_eq_true rfl⟩) hN hK hP hD hA hS (fr_HRp ca B ar E s16) rfl rfl rfl hl.1 rfl (lv_room (Nat.le_of_ble_eq_true rfl)) dL_isSo_108 ⟨Nat.le_refl _, Nat.le_refl _⟩ (fun H locs hP hD hS => ?_)
            refine lv_aload_n hx hb dL_isSo_111 rfl (lv_at hl 1 rfl) ?_
            obtain ⟨v19, s20, ev19, hf⟩ := bd2_ob hf
            refine call_i (As := []) (rest := [.int v18]) ⟨hx, hb, hml, hown, hts⟩ (tX4_plainTotal l D ca B ar _ (hs_x s16) v19 s20 ev19) (cwV 0 hts gL_isSo_X4_plainTotal rfl rfl rfl (by decide +kernel) ⟨Nat.le_of_ble_eq_true rfl, Nat.le_of_ble_eq_true rfl⟩) hN hK hP hD hA hS (fr_HR ca B ar E s16 s20) rfl rfl rfl hl.1 rfl (lv_room (Nat.le_of_ble_eq_true rfl)) dL_isSo_112 ⟨Nat.le_refl _, Nat.le_refl _⟩ (fun H locs hP hD hS => ?_)
            obtain ⟨s21, es21, hf⟩ := nm_ob hf
            have hP : va_P D vwCl (wH ca B ar E s21) H := by rw [← es21]; exact hP
            have hD : va_D A (wH ca B ar E s21) := by rw [← es21]; exact hD
            refine lv_icmp_ne (tgt := 122) hx hb dL_isSo_115 (by decide) (fun c22 => ?_) (fun c22 => ?_)
            · replace hf := it_n c22 hf
              refine lv_iconst (v := 0) hx hb dL_isSo_122 (by decide) ?_
              exact J123 _ _ _ _ _ _ _ hf hP hD hS (lv_sub hl [1, 2, 3, 4, 5] rfl)
            · replace hf := it_p c22 hf
              refine lv_iconst (v := 1) hx hb dL_isSo_118 (by decide) ?_
              refine lv_goto (tgt := 123) hx hb dL_isSo_119 (by decide) ?_
              exact J123 _ _ _ _ _ _ _ hf hP hD hS (lv_sub hl [1, 2, 3, 4, 5] rfl)
        · replace hf := it_p c13 hf
          refine lv_aload_n hx hb dL_isSo_81 rfl (lv_at hl 1 rfl) ?_
          obtain ⟨v23, ev23, hf⟩ := bd_ob hf
          refine call_i (As := []) (rest := []) ⟨hx, hb, hml, hown, hts⟩ (tX4_longest l D ca B ar _ (hs_x σ) v23 ev23) (cwV 0 hts gL_isSo_X4_longest rfl rfl rfl (by decide +kernel) ⟨Nat.le_of_ble_eq_true rfl, Nat.le_of_ble_eq_true rfl⟩) hN hK hP hD hA hS (fr_HRp ca B ar E σ) rfl rfl rfl hl.1 rfl (lv_room (Nat.le_of_ble_eq_true rfl)) dL_isSo_82 ⟨Nat.le_refl _, Nat.le_refl _⟩ (fun H locs hP hD hS => ?_)
          refine lv_iconst (v := (-1)) hx hb dL_isSo_85 (by decide) ?_
          refine lv_icmp_ne (tgt := 122) hx hb dL_isSo_86 (by decide) (fun c24 => ?_) (fun c24 => ?_)
          · replace hf := it_n c24 hf
            refine lv_iconst (v := 0) hx hb dL_isSo_122 (by decide) ?_
            exact J123 _ _ _ _ _ _ _ hf hP hD hS (lv_sub hl [1, 2, 3, 4, 5] rfl)
          · replace hf := it_p c24 hf
            refine lv_aload_n hx hb dL_isSo_89 rfl (lv_at hl 1 rfl) ?_
            obtain ⟨v25, s26, ev25, hf⟩ := bd2_ob hf
            refine call_i (As := []) (rest := []) ⟨hx, hb, hml, hown, hts⟩ (tX4_plainLongest l D ca B ar _ (hs_x σ) v25 s26 ev25) (cwV 0 hts gL_isSo_X4_plainLongest rfl rfl rfl (by decide +kernel) ⟨Nat.le_of_ble_eq_true rfl, Nat.le_of_ble_eq_true rfl⟩) hN hK hP hD hA hS (fr_HR ca B ar E σ s26) rfl rfl rfl hl.1 rfl (lv_room (Nat.le_of_ble_eq_true rfl)) dL_isSo_90 ⟨Nat.le_refl _, Nat.le_refl _⟩ (fun H locs hP hD hS => ?_)
            obtain ⟨s27, es27, hf⟩ := nm_ob hf
            have hP : va_P D vwCl (wH ca B ar E s27) H := by rw [← es27]; exact hP
            have hD : va_D A (wH ca B ar E s27) := by rw [← es27]; exact hD
            refine lv_iconst (v := (-1)) hx hb dL_isSo_93 (by decide) ?_
            refine lv_icmp_ne (tgt := 122) hx hb dL_isSo_94 (by decide) (fun c28 => ?_) (fun c28 => ?_)
            · replace hf := it_n c28 hf
              refine lv_iconst (v := 0) hx hb dL_isSo_122 (by decide) ?_
              exact J123 _ _ _ _ _ _ _ hf hP hD hS (lv_sub hl [1, 2, 3, 4, 5] rfl)
            · replace hf := it_p c28 hf
              refine lv_goto (tgt := 118) hx hb dL_isSo_97 (by decide) ?_
              refine lv_iconst (v := 1) hx hb dL_isSo_118 (by decide) ?_
              refine lv_goto (tgt := 123) hx hb dL_isSo_119 (by decide) ?_
              exact J123 _ _ _ _ _ _ _ hf hP hD hS (lv_sub hl [1, 2, 3, 4, 5] rfl)
  unfold hh_isSo at hf
  refine lv_aload_n hx hb dL_isSo_0 rfl (lv_at hl 2 rfl) ?_
  refine lv_iload_n hx hb dL_isSo_1 rfl (lv_at hl 3 rfl) ?_
  obtain ⟨v1, ev1, hf⟩ := bd_ob hf
  refine call_si (As := [.ref (E 1), .int a3]) (rest := []) ⟨hx, hb, hml, hown, hts⟩ (tL_size l D ca (E 1) _ (hs_v σ) a3 v1 ev1) (va_cwS 2 hts gL_isSo_L_size rfl rfl rfl (by decide +kernel) ⟨Nat.le_of_ble_eq_true rfl, Nat.le_of_ble_eq_true rfl⟩) hN hK hP hD hA hS (fr_Hv ca B ar E σ) rfl hl.1 rfl (lv_room (Nat.le_of_ble_eq_true rfl)) dL_isSo_2 ⟨Nat.le_refl _, Nat.le_refl _⟩ (fun H locs hP hD hS => ?_)
  refine lv_istore (lv' := [(5, .int v1), (0, .ref (B 0)), (1, .ref (E 0)), (2, .ref (E 1)), (3, .int a3), (4, .int a4)]) hx hb dL_isSo_5 hl (by decide) rfl (fun ls hl => ?_)
  refine lv_aload_n hx hb dL_isSo_7 rfl (lv_at hl 1 rfl) ?_
  refine lv_iconst (v := 0) hx hb dL_isSo_8 (by decide) ?_
  obtain ⟨v2, ev2, hf⟩ := bd_ob hf
  refine call_si (As := [.ref (B 0), .int 0]) (rest := []) ⟨hx, hb, hml, hown, hts⟩ (tL_keysOf l D ca B ar _ (hs_x σ) 0 v2 ev2) (va_cwS 2 hts gL_isSo_L_keysOf rfl rfl rfl (by decide +kernel) ⟨Nat.le_of_ble_eq_true rfl, Nat.le_of_ble_eq_true rfl⟩) hN hK hP hD hA hS (fr_HRp ca B ar E σ) rfl hl.1 rfl (lv_room (Nat.le_of_ble_eq_true rfl)) dL_isSo_9 ⟨Nat.le_refl _, Nat.le_refl _⟩ (fun H locs hP hD hS => ?_)
  refine lv_istore (lv' := [(6, .int v2), (5, .int v1), (0, .ref (B 0)), (1, .ref (E 0)), (2, .ref (E 1)), (3, .int a3), (4, .int a4)]) hx hb dL_isSo_12 hl (by decide) rfl (fun ls hl => ?_)
  refine lv_aload_n hx hb dL_isSo_14 rfl (lv_at hl 2 rfl) ?_
  obtain ⟨v3, ev3, hf⟩ := bd_ob hf
  refine call_i (As := []) (rest := []) ⟨hx, hb, hml, hown, hts⟩ (tX4_size l D ca B ar _ (hs_x σ) v3 ev3) (cwV 0 hts gL_isSo_X4_size rfl rfl rfl (by decide +kernel) ⟨Nat.le_of_ble_eq_true rfl, Nat.le_of_ble_eq_true rfl⟩) hN hK hP hD hA hS (fr_HRp ca B ar E σ) rfl rfl rfl hl.1 rfl (lv_room (Nat.le_of_ble_eq_true rfl)) dL_isSo_15 ⟨Nat.le_refl _, Nat.le_refl _⟩ (fun H locs hP hD hS => ?_)
  refine lv_iload hx hb dL_isSo_18 (lv_at hl 1 rfl) ?_
  refine lv_icmp_ne (tgt := 56) hx hb dL_isSo_20 (by decide) (fun c4 => ?_) (fun c4 => ?_)
  · replace hf := it_n c4 hf
    refine lv_iconst (v := 0) hx hb dL_isSo_56 (by decide) ?_
    exact J57 _ _ _ _ _ _ _ _ hf hP hD hS (lv_sub hl [2, 3, 4, 5, 6, 0] rfl)
  · replace hf := it_p c4 hf
    refine lv_iload hx hb dL_isSo_23 (lv_at hl 0 rfl) ?_
    refine lv_aload_n hx hb dL_isSo_25 rfl (lv_at hl 2 rfl) ?_
    refine lv_iconst (v := 1) hx hb dL_isSo_26 (by decide) ?_
    obtain ⟨v5, ev5, hf⟩ := bd_ob hf
    refine call_si (As := [.ref (B 0), .int 1]) (rest := [.int v2]) ⟨hx, hb, hml, hown, hts⟩ (tL_keysOf l D ca B ar _ (hs_x σ) 1 v5 ev5) (va_cwS 2 hts gL_isSo_L_keysOf rfl rfl rfl (by decide +kernel) ⟨Nat.le_of_ble_eq_true rfl, Nat.le_of_ble_eq_true rfl⟩) hN hK hP hD hA hS (fr_HRp ca B ar E σ) rfl hl.1 rfl (lv_room (Nat.le_of_ble_eq_true rfl)) dL_isSo_27 ⟨Nat.le_refl _, Nat.le_refl _⟩ (fun H locs hP hD hS => ?_)
    refine lv_iadd hx hb dL_isSo_30 ?_
    refine lv_iload hx hb dL_isSo_31 (lv_at hl 1 rfl) ?_
    refine lv_icmp_ne (tgt := 56) hx hb dL_isSo_33 (by decide) (fun c6 => ?_) (fun c6 => ?_)
    · replace hf := it_n c6 hf
      refine lv_iconst (v := 0) hx hb dL_isSo_56 (by decide) ?_
      exact J57 _ _ _ _ _ _ _ _ hf hP hD hS (lv_sub hl [2, 3, 4, 5, 6, 0] rfl)
    · replace hf := it_p c6 hf
      refine lv_bipush (v := 8) hx hb dL_isSo_36 (by decide) ?_
      refine lv_iload hx hb dL_isSo_38 (lv_at hl 1 rfl) ?_
      refine lv_imul hx hb dL_isSo_40 ?_
      refine lv_bipush (v := 7) hx hb dL_isSo_41 (by decide) ?_
      refine lv_aload_n hx hb dL_isSo_43 rfl (lv_at hl 2 rfl) ?_
      refine lv_iconst (v := 0) hx hb dL_isSo_44 (by decide) ?_
      obtain ⟨v7, ev7, hf⟩ := bd_ob hf
      refine call_i (As := [.int 0]) (rest := [.int 7, .int (8 * v1)]) ⟨hx, hb, hml, hown, hts⟩ (tX4_slots l D ca B ar _ (hs_x σ) 0 v7 ev7) (cwV 1 hts gL_isSo_X4_slots rfl rfl rfl (by decide +kernel) ⟨Nat.le_of_ble_eq_true rfl, Nat.le_of_ble_eq_true rfl⟩) hN hK hP hD hA hS (fr_HRp ca B ar E σ) rfl rfl rfl hl.1 rfl (lv_room (Nat.le_of_ble_eq_true rfl)) dL_isSo_45 ⟨Nat.le_refl _, Nat.le_refl _⟩ (fun H locs hP hD hS => ?_)
      refine lv_imul hx hb dL_isSo_48 ?_
      refine lv_icmp_gt (tgt := 56) hx hb dL_isSo_49 (by decide) (fun c8 => ?_) (fun c8 => ?_)
      · replace hf := it_p c8 hf
        refine lv_iconst (v := 0) hx hb dL_isSo_56 (by decide) ?_
        exact J57 _ _ _ _ _ _ _ _ hf hP hD hS (lv_sub hl [2, 3, 4, 5, 6, 0] rfl)
      · replace hf := it_n c8 hf
        refine lv_iconst (v := 1) hx hb dL_isSo_52 (by decide) ?_
        refine lv_goto (tgt := 57) hx hb dL_isSo_53 (by decide) ?_
        exact J57 _ _ _ _ _ _ _ _ hf hP hD hS (lv_sub hl [2, 3, 4, 5, 6, 0] rfl)
