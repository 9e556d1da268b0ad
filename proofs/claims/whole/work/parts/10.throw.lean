def adrS (B : Nat → Nat) (_ : RR) (k : Nat) : Nat := B (2 + k)

def rx_tableOf  (σ : RR) (a0 : Int32) : Option (Ex (Nat × RR)) :=
  if a0 = 0 then
    if a0 = 0 then
      some (.inl (0, σ))
    else
      some (.inl (1, σ))
  else
    if a0 = 1 then
      if a0 = 0 then
        some (.inl (0, σ))
      else
        some (.inl (1, σ))
    else
      some (.inr (3, σ))
set_option maxHeartbeats 4000000 in
set_option maxRecDepth 100000 in
theorem tX4_tableOf (l : Launch) (hT : l.stackTraces = false) (D : va_G) (ca : Nat → ClassId) (B : Nat → Nat) (ar : Nat → Nat → Nat) (sz : Nat) (σ : RR) (a0 : Int32) (z : (Ex (Nat × RR))) (hf : rx_tableOf σ a0 = some z) : Cxr l D ca yX4_tableOf wsX4_tableOf { frames := 6, cells := 1, slots := 6, locals := 82 } [.ref (B 0), .int a0] (wRR ca B ar) adrT σ sz z 1 6 := by
  refine bodyx_of (cc := cX4_tableOf) (maxL := 2) (ret := (some (.object "RobinRow$Table"))) (fun A => Qxr D ca (wRR ca B ar) adrT z A) (fun A => Xx D ca (wRR ca B ar) z A) (by decide) rfl (Nat.le_of_ble_eq_true rfl) ?_
  intro p e s m below meth c A ls hx hb hr hml hts hown hlocks hA hK hP hD hS hl hN hX hxt
  have hl : lv_has ls 2 [(0, .ref (B 0)), (1, .int a0)] := hl
  generalize ([.ref (B 0), .int a0] : List Value).toArray = args at hts ⊢
  have f34 := hts (.fieldLink RX4 34 "RobinRow" "present" "LRobinRow$Table;") (by decide +kernel)
  have f38 := hts (.fieldLink RX4 38 "RobinRow" "old" "LRobinRow$Table;") (by decide +kernel)
  have in4 : ∀ w ∈ u_ws RX4 TX4 7, w ∈ wsX4_tableOf := by decide +kernel
  unfold rx_tableOf at hf
  refine lv_iload_n hx hb dX4_tableOf_0 rfl (lv_at hl 1 rfl) ?_
  refine lv_if_eq (tgt := 19) hx hb dX4_tableOf_1 (by decide) (fun c1 => ?_) (fun c1 => ?_)
  · replace hf := it_p c1 hf
    refine lv_iload_n hx hb dX4_tableOf_19 rfl (lv_at hl 1 rfl) ?_
    refine lv_if_ne (tgt := 30) hx hb dX4_tableOf_20 (by decide) (fun c2 => ?_) (fun c2 => ?_)
    · replace hf := it_n c2 hf
      refine lv_aload_n hx hb dX4_tableOf_30 rfl (lv_at hl 0 rfl) ?_
      refine va_get (D := D) (ci := 4) (v := .ref (rr_ao σ)) (C := RX4) (T := TX4) (N := 7) hx hb hts in4 hown hK hP 0 rfl rfl 4 (by decide) f38 (fun _ h9 => h9) rfl dX4_tableOf_31 ?_
      exact retx_r hx hb hr ⟨_, rfl⟩ hlocks hK (Nat.le_of_ble_eq_true rfl) (Nat.le_of_ble_eq_true rfl) (so1 hf).symm rfl hP hD hS dX4_tableOf_34
    · replace hf := it_p c2 hf
      refine lv_aload_n hx hb dX4_tableOf_23 rfl (lv_at hl 0 rfl) ?_
      refine va_get (D := D) (ci := 4) (v := .ref (rr_ap σ)) (C := RX4) (T := TX4) (N := 7) hx hb hts in4 hown hK hP 0 rfl rfl 3 (by decide) f34 (fun _ h9 => h9) rfl dX4_tableOf_24 ?_
      refine lv_goto (tgt := 34) hx hb dX4_tableOf_27 (by decide) ?_
      exact retx_r hx hb hr ⟨_, rfl⟩ hlocks hK (Nat.le_of_ble_eq_true rfl) (Nat.le_of_ble_eq_true rfl) (so1 hf).symm rfl hP hD hS dX4_tableOf_34
  · replace hf := it_n c1 hf
    refine lv_iload_n hx hb dX4_tableOf_4 rfl (lv_at hl 1 rfl) ?_
    refine lv_iconst (v := 1) hx hb dX4_tableOf_5 (by decide) ?_
    refine lv_icmp_eq (tgt := 19) hx hb dX4_tableOf_6 (by decide) (fun c3 => ?_) (fun c3 => ?_)
    · replace hf := it_p c3 hf
      refine lv_iload_n hx hb dX4_tableOf_19 rfl (lv_at hl 1 rfl) ?_
      refine lv_if_ne (tgt := 30) hx hb dX4_tableOf_20 (by decide) (fun c4 => ?_) (fun c4 => ?_)
      · replace hf := it_n c4 hf
        refine lv_aload_n hx hb dX4_tableOf_30 rfl (lv_at hl 0 rfl) ?_
        refine va_get (D := D) (ci := 4) (v := .ref (rr_ao σ)) (C := RX4) (T := TX4) (N := 7) hx hb hts in4 hown hK hP 0 rfl rfl 4 (by decide) f38 (fun _ h9 => h9) rfl dX4_tableOf_31 ?_
        exact retx_r hx hb hr ⟨_, rfl⟩ hlocks hK (Nat.le_of_ble_eq_true rfl) (Nat.le_of_ble_eq_true rfl) (so1 hf).symm rfl hP hD hS dX4_tableOf_34
      · replace hf := it_p c4 hf
        refine lv_aload_n hx hb dX4_tableOf_23 rfl (lv_at hl 0 rfl) ?_
        refine va_get (D := D) (ci := 4) (v := .ref (rr_ap σ)) (C := RX4) (T := TX4) (N := 7) hx hb hts in4 hown hK hP 0 rfl rfl 3 (by decide) f34 (fun _ h9 => h9) rfl dX4_tableOf_24 ?_
        refine lv_goto (tgt := 34) hx hb dX4_tableOf_27 (by decide) ?_
        exact retx_r hx hb hr ⟨_, rfl⟩ hlocks hK (Nat.le_of_ble_eq_true rfl) (Nat.le_of_ble_eq_true rfl) (so1 hf).symm rfl hP hD hS dX4_tableOf_34
    · replace hf := it_n c3 hf
      exact thr_S (w := wRR ca B ar) (Ts := wsX4_tableOf) (cls := "java/lang/IndexOutOfBoundsException") (text := "there is no such table") (names := ["java/lang/RuntimeException", "java/lang/Exception"]) hx hb hT hts hown hlocks hxt hN hX hK (hml.trans hl.1.symm) (by decide +kernel) (by decide +kernel) (by decide +kernel) (by decide +kernel) (by decide +kernel) (by decide +kernel) (by decide +kernel) (by decide +kernel) (by decide +kernel) hS hP hD (k := 3) rfl (so1 hf).symm dX4_tableOf_9 dX4_tableOf_12 dX4_tableOf_13 dX4_tableOf_15 dX4_tableOf_18 (Nat.le_of_ble_eq_true rfl) (Nat.le_of_ble_eq_true rfl) (Nat.le_of_ble_eq_true rfl) (Nat.le_of_ble_eq_true rfl) (Nat.le_of_ble_eq_true rfl) (Nat.le_of_ble_eq_true rfl)

def rx_tableWithSlot  (σ : RR) (a0 : Int32) (a1 : Int32) : Option (Ex (Nat × RR)) :=
  xb (rx_tableOf σ a0) fun k1 s2 =>
  if k1 = 0 then
    if a1 < 0 then
      some (.inr (3, s2))
    else
      if a1 < (tb_sl (rr_P s2)) then
        some (.inl (0, s2))
      else
        some (.inr (3, s2))
  else
    if a1 < 0 then
      some (.inr (3, s2))
    else
      if a1 < (tb_sl (rr_O s2)) then
        some (.inl (1, s2))
      else
        some (.inr (3, s2))
set_option maxHeartbeats 4000000 in
set_option maxRecDepth 100000 in
theorem tX4_tableWithSlot (l : Launch) (hT : l.stackTraces = false) (D : va_G) (ca : Nat → ClassId) (B : Nat → Nat) (ar : Nat → Nat → Nat) (sz : Nat) (σ : RR) (a0 : Int32) (a1 : Int32) (z : (Ex (Nat × RR))) (hf : rx_tableWithSlot σ a0 a1 = some z) : Cxr l D ca yX4_tableWithSlot wsX4_tableWithSlot { frames := 7, cells := 2, slots := 12, locals := 103 } [.ref (B 0), .int a0, .int a1] (wRR ca B ar) adrT σ sz z 2 12 := by
  refine bodyx_of (cc := cX4_tableWithSlot) (maxL := 4) (ret := (some (.object "RobinRow$Table"))) (fun A => Qxr D ca (wRR ca B ar) adrT z A) (fun A => Xx D ca (wRR ca B ar) z A) (by decide) rfl (Nat.le_of_ble_eq_true rfl) ?_
  intro p e s m below meth c A ls hx hb hr hml hts hown hlocks hA hK hP hD hS hl hN hX hxt
  have hl : lv_has ls 4 [(0, .ref (B 0)), (1, .int a0), (2, .int a1)] := hl
  generalize ([.ref (B 0), .int a0, .int a1] : List Value).toArray = args at hts ⊢
  have f168 : (Cond.fieldLinkNest RX4 168 "RobinRow$Table" "slots" "I" RX4).before args s = true := va_Nw.use rfl (hN.1 (RX4, 168, "RobinRow$Table", "slots", "I") (by decide +kernel))
  have in3 : ∀ w ∈ u_ws RX3 TX3 6, w ∈ wsX4_tableWithSlot := by decide +kernel
  unfold rx_tableWithSlot at hf
  refine lv_aload_n hx hb dX4_tableWithSlot_0 rfl (lv_at hl 0 rfl) ?_
  refine lv_iload_n hx hb dX4_tableWithSlot_1 rfl (lv_at hl 1 rfl) ?_
  obtain ⟨z3, ez3, hlz3, hrz3⟩ := xb_ob hf
  refine callx_r (w := wRR ca B ar) (As := [.int a0]) (rest := []) ⟨hx, hb, hml, hown, hts⟩ (tX4_tableOf l hT D ca B ar _ σ a0 z3 ez3) (cwV 1 hts gX4_tableWithSlot_X4_tableOf rfl rfl rfl (by decide +kernel) ⟨Nat.le_of_ble_eq_true rfl, Nat.le_of_ble_eq_true rfl⟩) hN hX hK hP hD hA hS rfl rfl rfl hl.1 rfl (lv_room (Nat.le_of_ble_eq_true rfl)) dX4_tableWithSlot_2 ⟨Nat.le_of_ble_eq_true rfl, Nat.le_of_ble_eq_true rfl⟩ (fun k8 u4 ce8 q8 H locs hz8 hP hD hS h81 h82 h83 => out_x hxt hlocks hK (hrz3 _ hz8) hP hD hS h81 h82 h83 (Nat.le_of_ble_eq_true rfl) (Nat.le_of_ble_eq_true rfl)) (fun k1 s2 H locs hz8 hP hD hS => ?_)
  replace hf := hlz3 _ _ hz8
  by_cases c5 : k1 = 0
  · replace hf := it_p c5 hf
    refine W.eq (g2 := F0 m 5 ls [.ref (rr_ap s2)]) (by rw [adrT, if_pos c5]) ?_
    refine lv_astore_n (lv' := [(3, .ref (rr_ap s2)), (0, .ref (B 0)), (1, .int a0), (2, .int a1)]) hx hb dX4_tableWithSlot_5 rfl hl (by decide) rfl (fun ls hl => ?_)
    refine lv_iload_n hx hb dX4_tableWithSlot_6 rfl (lv_at hl 3 rfl) ?_
    refine lv_if_lt (tgt := 18) hx hb dX4_tableWithSlot_7 (by decide) (fun c6 => ?_) (fun c6 => ?_)
    · replace hf := it_p c6 hf
      exact thr_S (w := wRR ca B ar) (Ts := wsX4_tableWithSlot) (cls := "java/lang/IndexOutOfBoundsException") (text := "the table has no such slot") (names := ["java/lang/RuntimeException", "java/lang/Exception"]) hx hb hT hts hown hlocks hxt hN hX hK (hml.trans hl.1.symm) (by decide +kernel) (by decide +kernel) (by decide +kernel) (by decide +kernel) (by decide +kernel) (by decide +kernel) (by decide +kernel) (by decide +kernel) (by decide +kernel) hS hP hD (k := 3) rfl (so1 hf).symm dX4_tableWithSlot_18 dX4_tableWithSlot_21 dX4_tableWithSlot_22 dX4_tableWithSlot_24 dX4_tableWithSlot_27 (Nat.le_of_ble_eq_true rfl) (Nat.le_of_ble_eq_true rfl) (Nat.le_of_ble_eq_true rfl) (Nat.le_of_ble_eq_true rfl) (Nat.le_of_ble_eq_true rfl) (Nat.le_of_ble_eq_true rfl)
    · replace hf := it_n c6 hf
      refine lv_iload_n hx hb dX4_tableWithSlot_10 rfl (lv_at hl 3 rfl) ?_
      refine lv_aload_n hx hb dX4_tableWithSlot_11 rfl (lv_at hl 0 rfl) ?_
      refine va_getN (D := D) (ci := 3) (v := .int (tb_sl (rr_P s2))) (C := RX3) (T := TX3) (N := 6) hx hb hts in3 hown hK hP 10 rfl rfl 4 (by decide) f168 (fun _ h9 => h9) rfl dX4_tableWithSlot_12 ?_
      refine lv_icmp_lt (tgt := 28) hx hb dX4_tableWithSlot_15 (by decide) (fun c7 => ?_) (fun c7 => ?_)
      · replace hf := it_p c7 hf
        refine lv_aload_n hx hb dX4_tableWithSlot_28 rfl (lv_at hl 0 rfl) ?_
        exact retx_r hx hb hr ⟨_, rfl⟩ hlocks hK (Nat.le_of_ble_eq_true rfl) (Nat.le_of_ble_eq_true rfl) (so1 hf).symm rfl hP hD hS dX4_tableWithSlot_29
      · replace hf := it_n c7 hf
        exact thr_S (w := wRR ca B ar) (Ts := wsX4_tableWithSlot) (cls := "java/lang/IndexOutOfBoundsException") (text := "the table has no such slot") (names := ["java/lang/RuntimeException", "java/lang/Exception"]) hx hb hT hts hown hlocks hxt hN hX hK (hml.trans hl.1.symm) (by decide +kernel) (by decide +kernel) (by decide +kernel) (by decide +kernel) (by decide +kernel) (by decide +kernel) (by decide +kernel) (by decide +kernel) (by decide +kernel) hS hP hD (k := 3) rfl (so1 hf).symm dX4_tableWithSlot_18 dX4_tableWithSlot_21 dX4_tableWithSlot_22 dX4_tableWithSlot_24 dX4_tableWithSlot_27 (Nat.le_of_ble_eq_true rfl) (Nat.le_of_ble_eq_true rfl) (Nat.le_of_ble_eq_true rfl) (Nat.le_of_ble_eq_true rfl) (Nat.le_of_ble_eq_true rfl) (Nat.le_of_ble_eq_true rfl)
  · replace hf := it_n c5 hf
    refine W.eq (g2 := F0 m 5 ls [.ref (rr_ao s2)]) (by rw [adrT, if_neg c5]) ?_
    refine lv_astore_n (lv' := [(3, .ref (rr_ao s2)), (0, .ref (B 0)), (1, .int a0), (2, .int a1)]) hx hb dX4_tableWithSlot_5 rfl hl (by decide) rfl (fun ls hl => ?_)
    refine lv_iload_n hx hb dX4_tableWithSlot_6 rfl (lv_at hl 3 rfl) ?_
    refine lv_if_lt (tgt := 18) hx hb dX4_tableWithSlot_7 (by decide) (fun c8 => ?_) (fun c8 => ?_)
    · replace hf := it_p c8 hf
      exact thr_S (w := wRR ca B ar) (Ts := wsX4_tableWithSlot) (cls := "java/lang/IndexOutOfBoundsException") (text := "the table has no such slot") (names := ["java/lang/RuntimeException", "java/lang/Exception"]) hx hb hT hts hown hlocks hxt hN hX hK (hml.trans hl.1.symm) (by decide +kernel) (by decide +kernel) (by decide +kernel) (by decide +kernel) (by decide +kernel) (by decide +kernel) (by decide +kernel) (by decide +kernel) (by decide +kernel) hS hP hD (k := 3) rfl (so1 hf).symm dX4_tableWithSlot_18 dX4_tableWithSlot_21 dX4_tableWithSlot_22 dX4_tableWithSlot_24 dX4_tableWithSlot_27 (Nat.le_of_ble_eq_true rfl) (Nat.le_of_ble_eq_true rfl) (Nat.le_of_ble_eq_true rfl) (Nat.le_of_ble_eq_true rfl) (Nat.le_of_ble_eq_true rfl) (Nat.le_of_ble_eq_true rfl)
    · replace hf := it_n c8 hf
      refine lv_iload_n hx hb dX4_tableWithSlot_10 rfl (lv_at hl 3 rfl) ?_
      refine lv_aload_n hx hb dX4_tableWithSlot_11 rfl (lv_at hl 0 rfl) ?_
      refine va_getN (D := D) (ci := 3) (v := .int (tb_sl (rr_O s2))) (C := RX3) (T := TX3) (N := 6) hx hb hts in3 hown hK hP 15 rfl rfl 4 (by decide) f168 (fun _ h9 => h9) rfl dX4_tableWithSlot_12 ?_
      refine lv_icmp_lt (tgt := 28) hx hb dX4_tableWithSlot_15 (by decide) (fun c9 => ?_) (fun c9 => ?_)
      · replace hf := it_p c9 hf
        refine lv_aload_n hx hb dX4_tableWithSlot_28 rfl (lv_at hl 0 rfl) ?_
        exact retx_r hx hb hr ⟨_, rfl⟩ hlocks hK (Nat.le_of_ble_eq_true rfl) (Nat.le_of_ble_eq_true rfl) (so1 hf).symm rfl hP hD hS dX4_tableWithSlot_29
      · replace hf := it_n c9 hf
        exact thr_S (w := wRR ca B ar) (Ts := wsX4_tableWithSlot) (cls := "java/lang/IndexOutOfBoundsException") (text := "the table has no such slot") (names := ["java/lang/RuntimeException", "java/lang/Exception"]) hx hb hT hts hown hlocks hxt hN hX hK (hml.trans hl.1.symm) (by decide +kernel) (by decide +kernel) (by decide +kernel) (by decide +kernel) (by decide +kernel) (by decide +kernel) (by decide +kernel) (by decide +kernel) (by decide +kernel) hS hP hD (k := 3) rfl (so1 hf).symm dX4_tableWithSlot_18 dX4_tableWithSlot_21 dX4_tableWithSlot_22 dX4_tableWithSlot_24 dX4_tableWithSlot_27 (Nat.le_of_ble_eq_true rfl) (Nat.le_of_ble_eq_true rfl) (Nat.le_of_ble_eq_true rfl) (Nat.le_of_ble_eq_true rfl) (Nat.le_of_ble_eq_true rfl) (Nat.le_of_ble_eq_true rfl)

def rx_sweepOf  (σ : RR) (a0 : Int32) : Option (Ex (Nat × RR)) :=
  if a0 < 0 then
    some (.inr (3, σ))
  else
    if 4 ≤ a0 then
      some (.inr (3, σ))
    else
      gd a0 4 <|
      if (sw_open (rr_sws σ a0.toNatClampNeg)) = 0 then
        some (.inr (3, σ))
      else
        gd a0 4 <|
        some (.inl (a0.toNatClampNeg, σ))
set_option maxHeartbeats 4000000 in
set_option maxRecDepth 100000 in
theorem tX4_sweepOf (l : Launch) (hT : l.stackTraces = false) (D : va_G) (ca : Nat → ClassId) (B : Nat → Nat) (ar : Nat → Nat → Nat) (sz : Nat) (σ : RR) (a0 : Int32) (z : (Ex (Nat × RR))) (hf : rx_sweepOf σ a0 = some z) : Cxr l D ca yX4_sweepOf wsX4_sweepOf { frames := 6, cells := 1, slots := 6, locals := 82 } [.ref (B 0), .int a0] (wRR ca B ar) (adrS B) σ sz z 1 6 := by
  refine bodyx_of (cc := cX4_sweepOf) (maxL := 2) (ret := (some (.object "RobinRow$Sweep"))) (fun A => Qxr D ca (wRR ca B ar) (adrS B) z A) (fun A => Xx D ca (wRR ca B ar) z A) (by decide) rfl (Nat.le_of_ble_eq_true rfl) ?_
  intro p e s m below meth c A ls hx hb hr hml hts hown hlocks hA hK hP hD hS hl hN hX hxt
  have hl : lv_has ls 2 [(0, .ref (B 0)), (1, .int a0)] := hl
  generalize ([.ref (B 0), .int a0] : List Value).toArray = args at hts ⊢
  have f11 := hts (.fieldLink RX4 11 "RobinRow" "sweeps" "[LRobinRow$Sweep;") (by decide +kernel)
  have f113 : (Cond.fieldLinkNest RX4 113 "RobinRow$Sweep" "isOpen" "Z" RX4).before args s = true := va_Nw.use rfl (hN.1 (RX4, 113, "RobinRow$Sweep", "isOpen", "Z") (by decide +kernel))
  have in2 : ∀ w ∈ u_ws RX2 TX2 5, w ∈ wsX4_sweepOf := by decide +kernel
  have in4 : ∀ w ∈ u_ws RX4 TX4 7, w ∈ wsX4_sweepOf := by decide +kernel
  unfold rx_sweepOf at hf
  refine lv_iload_n hx hb dX4_sweepOf_0 rfl (lv_at hl 1 rfl) ?_
  refine lv_if_lt (tgt := 21) hx hb dX4_sweepOf_1 (by decide) (fun c1 => ?_) (fun c1 => ?_)
  · replace hf := it_p c1 hf
    exact thr_S (w := wRR ca B ar) (Ts := wsX4_sweepOf) (cls := "java/lang/IndexOutOfBoundsException") (text := "there is no such open sweep") (names := ["java/lang/RuntimeException", "java/lang/Exception"]) hx hb hT hts hown hlocks hxt hN hX hK (hml.trans hl.1.symm) (by decide +kernel) (by decide +kernel) (by decide +kernel) (by decide +kernel) (by decide +kernel) (by decide +kernel) (by decide +kernel) (by decide +kernel) (by decide +kernel) hS hP hD (k := 3) rfl (so1 hf).symm dX4_sweepOf_21 dX4_sweepOf_24 dX4_sweepOf_25 dX4_sweepOf_27 dX4_sweepOf_30 (Nat.le_of_ble_eq_true rfl) (Nat.le_of_ble_eq_true rfl) (Nat.le_of_ble_eq_true rfl) (Nat.le_of_ble_eq_true rfl) (Nat.le_of_ble_eq_true rfl) (Nat.le_of_ble_eq_true rfl)
  · replace hf := it_n c1 hf
    refine lv_iload_n hx hb dX4_sweepOf_4 rfl (lv_at hl 1 rfl) ?_
    refine lv_iconst (v := 4) hx hb dX4_sweepOf_5 (by decide) ?_
    refine lv_icmp_ge (tgt := 21) hx hb dX4_sweepOf_6 (by decide) (fun c2 => ?_) (fun c2 => ?_)
    · replace hf := it_p c2 hf
      exact thr_S (w := wRR ca B ar) (Ts := wsX4_sweepOf) (cls := "java/lang/IndexOutOfBoundsException") (text := "there is no such open sweep") (names := ["java/lang/RuntimeException", "java/lang/Exception"]) hx hb hT hts hown hlocks hxt hN hX hK (hml.trans hl.1.symm) (by decide +kernel) (by decide +kernel) (by decide +kernel) (by decide +kernel) (by decide +kernel) (by decide +kernel) (by decide +kernel) (by decide +kernel) (by decide +kernel) hS hP hD (k := 3) rfl (so1 hf).symm dX4_sweepOf_21 dX4_sweepOf_24 dX4_sweepOf_25 dX4_sweepOf_27 dX4_sweepOf_30 (Nat.le_of_ble_eq_true rfl) (Nat.le_of_ble_eq_true rfl) (Nat.le_of_ble_eq_true rfl) (Nat.le_of_ble_eq_true rfl) (Nat.le_of_ble_eq_true rfl) (Nat.le_of_ble_eq_true rfl)
    · replace hf := it_n c2 hf
      refine lv_aload_n hx hb dX4_sweepOf_9 rfl (lv_at hl 0 rfl) ?_
      refine va_get (D := D) (ci := 4) (v := .ref (B 1)) (C := RX4) (T := TX4) (N := 7) hx hb hts in4 hown hK hP 0 rfl rfl 0 (by decide) f11 (fun _ h9 => h9) rfl dX4_sweepOf_10 ?_
      refine lv_iload_n hx hb dX4_sweepOf_13 rfl (lv_at hl 1 rfl) ?_
      obtain ⟨g3, hf⟩ := gd_ob hf
      refine va_aldq hx hb hK hP 1 4 rfl rfl g3 dX4_sweepOf_14 ?_
      refine W.eq (g2 := F0 m 15 ls [.ref (B (2 + a0.toNatClampNeg))]) (by rw [swf_at (Nat.not_le.mp (fun q => g3 (Or.inr q)))]; rfl) ?_
      refine va_getN (D := D) (ci := 2) (v := .int (sw_open (rr_sws σ a0.toNatClampNeg))) (C := RX2) (T := TX2) (N := 5) hx hb hts in2 hown hK hP (2 + a0.toNatClampNeg) (sw_at (Nat.not_le.mp (fun q => g3 (Or.inr q)))) rfl 0 (by decide) f113 (fun _ h9 => h9) rfl dX4_sweepOf_15 ?_
      refine lv_if_ne (tgt := 31) hx hb dX4_sweepOf_18 (by decide) (fun c4 => ?_) (fun c4 => ?_)
      · replace hf := it_n c4 hf
        refine lv_aload_n hx hb dX4_sweepOf_31 rfl (lv_at hl 0 rfl) ?_
        refine va_get (D := D) (ci := 4) (v := .ref (B 1)) (C := RX4) (T := TX4) (N := 7) hx hb hts in4 hown hK hP 0 rfl rfl 0 (by decide) f11 (fun _ h9 => h9) rfl dX4_sweepOf_32 ?_
        refine lv_iload_n hx hb dX4_sweepOf_35 rfl (lv_at hl 1 rfl) ?_
        obtain ⟨g5, hf⟩ := gd_ob hf
        refine va_aldq hx hb hK hP 1 4 rfl rfl g5 dX4_sweepOf_36 ?_
        refine W.eq (g2 := F0 m 37 ls [.ref (B (2 + a0.toNatClampNeg))]) (by rw [swf_at (Nat.not_le.mp (fun q => g5 (Or.inr q)))]; rfl) ?_
        exact retx_r hx hb hr ⟨_, rfl⟩ hlocks hK (Nat.le_of_ble_eq_true rfl) (Nat.le_of_ble_eq_true rfl) (so1 hf).symm rfl hP hD hS dX4_sweepOf_37
      · replace hf := it_p c4 hf
        exact thr_S (w := wRR ca B ar) (Ts := wsX4_sweepOf) (cls := "java/lang/IndexOutOfBoundsException") (text := "there is no such open sweep") (names := ["java/lang/RuntimeException", "java/lang/Exception"]) hx hb hT hts hown hlocks hxt hN hX hK (hml.trans hl.1.symm) (by decide +kernel) (by decide +kernel) (by decide +kernel) (by decide +kernel) (by decide +kernel) (by decide +kernel) (by decide +kernel) (by decide +kernel) (by decide +kernel) hS hP hD (k := 3) rfl (so1 hf).symm dX4_sweepOf_21 dX4_sweepOf_24 dX4_sweepOf_25 dX4_sweepOf_27 dX4_sweepOf_30 (Nat.le_of_ble_eq_true rfl) (Nat.le_of_ble_eq_true rfl) (Nat.le_of_ble_eq_true rfl) (Nat.le_of_ble_eq_true rfl) (Nat.le_of_ble_eq_true rfl) (Nat.le_of_ble_eq_true rfl)

def rx_clear  (σ : RR) (a0 : Int32) : Option (Ex RR) :=
  if a0 = 0 then
    nm (rr_way' σ a0) fun s2 =>
    bd (tt_emptyWith (rr_P s2) 8) fun s4 =>
    nm (rr_P' s2 s4) fun s5 =>
    bd (tt_emptyWith (rr_O s5) 0) fun s7 =>
    nm (rr_O' s5 s7) fun s8 =>
    nm (rr_begun' s8 0) fun s9 =>
    bd (ww_end (rr_sws s9 0)) fun s12 =>
    nm (rr_sws' s9 (va_up (rr_sws s9) 0 s12)) fun s13 =>
    bd (ww_end (rr_sws s13 1)) fun s16 =>
    nm (rr_sws' s13 (va_up (rr_sws s13) 1 s16)) fun s17 =>
    bd (ww_end (rr_sws s17 2)) fun s20 =>
    nm (rr_sws' s17 (va_up (rr_sws s17) 2 s20)) fun s21 =>
    bd (ww_end (rr_sws s21 3)) fun s24 =>
    nm (rr_sws' s21 (va_up (rr_sws s21) 3 s24)) fun s25 =>
    some (.inl s25)
  else
    if a0 = 1 then
      nm (rr_way' σ a0) fun s28 =>
      bd (tt_emptyWith (rr_P s28) 8) fun s30 =>
      nm (rr_P' s28 s30) fun s31 =>
      bd (tt_emptyWith (rr_O s31) 0) fun s33 =>
      nm (rr_O' s31 s33) fun s34 =>
      nm (rr_begun' s34 0) fun s35 =>
      bd (ww_end (rr_sws s35 0)) fun s38 =>
      nm (rr_sws' s35 (va_up (rr_sws s35) 0 s38)) fun s39 =>
      bd (ww_end (rr_sws s39 1)) fun s42 =>
      nm (rr_sws' s39 (va_up (rr_sws s39) 1 s42)) fun s43 =>
      bd (ww_end (rr_sws s43 2)) fun s46 =>
      nm (rr_sws' s43 (va_up (rr_sws s43) 2 s46)) fun s47 =>
      bd (ww_end (rr_sws s47 3)) fun s50 =>
      nm (rr_sws' s47 (va_up (rr_sws s47) 3 s50)) fun s51 =>
      some (.inl s51)
    else
      some (.inr (1, σ))
set_option maxHeartbeats 4000000 in
set_option maxRecDepth 100000 in
theorem tX4_clear (l : Launch) (hT : l.stackTraces = false) (D : va_G) (ca : Nat → ClassId) (B : Nat → Nat) (ar : Nat → Nat → Nat) (sz : Nat) (σ : RR) (a0 : Int32) (z : (Ex RR)) (hf : rx_clear σ a0 = some z) : Cxv l D ca yX4_clear wsX4_clear { frames := 6, cells := 1, slots := 6, locals := 82 } [.ref (B 0), .int a0] (wRR ca B ar) σ sz z 1 6 := by
  refine bodyx_of (cc := cX4_clear) (maxL := 3) (ret := none) (fun A => Qxv D ca (wRR ca B ar) z A) (fun A => Xx D ca (wRR ca B ar) z A) (by decide) rfl (Nat.le_of_ble_eq_true rfl) ?_
  intro p e s m below meth c A ls hx hb hr hml hts hown hlocks hA hK hP hD hS hl hN hX hxt
  have hl : lv_has ls 3 [(0, .ref (B 0)), (1, .int a0)] := hl
  generalize ([.ref (B 0), .int a0] : List Value).toArray = args at hts ⊢
  have f11 := hts (.fieldLink RX4 11 "RobinRow" "sweeps" "[LRobinRow$Sweep;") (by decide +kernel)
  have f34 := hts (.fieldLink RX4 34 "RobinRow" "present" "LRobinRow$Table;") (by decide +kernel)
  have f38 := hts (.fieldLink RX4 38 "RobinRow" "old" "LRobinRow$Table;") (by decide +kernel)
  have f42 := hts (.fieldLink RX4 42 "RobinRow" "way" "I") (by decide +kernel)
  have f56 := hts (.fieldLink RX4 56 "RobinRow" "begunMoves" "I") (by decide +kernel)
  have in4 : ∀ w ∈ u_ws RX4 TX4 7, w ∈ wsX4_clear := by decide +kernel
  unfold rx_clear at hf
  refine lv_iload_n hx hb dX4_clear_0 rfl (lv_at hl 1 rfl) ?_
  refine lv_if_eq (tgt := 19) hx hb dX4_clear_1 (by decide) (fun c1 => ?_) (fun c1 => ?_)
  · replace hf := it_p c1 hf
    refine lv_aload_n hx hb dX4_clear_19 rfl (lv_at hl 0 rfl) ?_
    refine lv_iload_n hx hb dX4_clear_20 rfl (lv_at hl 1 rfl) ?_
    obtain ⟨s2, es2, hf⟩ := nm_ob hf
    refine va_put (D := D) (ci := 4) (v := .int a0) (ty := .int) (C := RX4) (T := TX4) (N := 7) hx hb hts in4 tyX4 tyX4_ok nmX4 hown hK hP hD hS 0 rfl rfl 5 (by decide) f42 (fun _ h9 => h9) rfl (by decide +kernel) rfl rfl (Nat.le_of_ble_eq_true rfl) dX4_clear_21 (fun H locs hP hD hS => ?_)
    have hP : va_P D vwCl (wRR ca B ar s2) H := by rw [← es2]; exact hP
    have hD : va_D A (wRR ca B ar s2) := by rw [← es2]; exact hD
    refine lv_aload_n hx hb dX4_clear_24 rfl (lv_at hl 0 rfl) ?_
    refine va_get (D := D) (ci := 4) (v := .ref (rr_ap s2)) (C := RX4) (T := TX4) (N := 7) hx hb hts in4 hown hK hP 0 rfl rfl 3 (by decide) f34 (fun _ h9 => h9) rfl dX4_clear_25 ?_
    refine lv_bipush (v := 8) hx hb dX4_clear_28 (by decide) ?_
    obtain ⟨s4, es4, hf⟩ := bd_ob hf
    refine call_v (As := [.int 8]) (rest := []) ⟨hx, hb, hml, hown, hts⟩ (tX3_emptyWith l D ca (rr_ap s2) (ar (rr_ap s2)) _ (rr_P s2) 8 s4 es4) (cwV 1 hts gX4_clear_X3_emptyWith rfl rfl rfl (by decide +kernel) ⟨Nat.le_of_ble_eq_true rfl, Nat.le_of_ble_eq_true rfl⟩) hN hK hP hD hA hS (fr_RP ca B ar s2 s4) rfl rfl rfl hl.1 rfl (lv_room (Nat.le_of_ble_eq_true rfl)) dX4_clear_30 ⟨Nat.le_of_ble_eq_true rfl, Nat.le_of_ble_eq_true rfl⟩ (fun H locs hP hD hS => ?_)
    obtain ⟨s5, es5, hf⟩ := nm_ob hf
    have hP : va_P D vwCl (wRR ca B ar s5) H := by rw [← es5]; exact hP
    have hD : va_D A (wRR ca B ar s5) := by rw [← es5]; exact hD
    refine lv_aload_n hx hb dX4_clear_33 rfl (lv_at hl 0 rfl) ?_
    refine va_get (D := D) (ci := 4) (v := .ref (rr_ao s5)) (C := RX4) (T := TX4) (N := 7) hx hb hts in4 hown hK hP 0 rfl rfl 4 (by decide) f38 (fun _ h9 => h9) rfl dX4_clear_34 ?_
    refine lv_iconst (v := 0) hx hb dX4_clear_37 (by decide) ?_
    obtain ⟨s7, es7, hf⟩ := bd_ob hf
    refine call_v (As := [.int 0]) (rest := []) ⟨hx, hb, hml, hown, hts⟩ (tX3_emptyWith l D ca (rr_ao s5) (ar (rr_ao s5)) _ (rr_O s5) 0 s7 es7) (cwV 1 hts gX4_clear_X3_emptyWith rfl rfl rfl (by decide +kernel) ⟨Nat.le_of_ble_eq_true rfl, Nat.le_of_ble_eq_true rfl⟩) hN hK hP hD hA hS (fr_RO ca B ar s5 s7) rfl rfl rfl hl.1 rfl (lv_room (Nat.le_of_ble_eq_true rfl)) dX4_clear_38 ⟨Nat.le_of_ble_eq_true rfl, Nat.le_of_ble_eq_true rfl⟩ (fun H locs hP hD hS => ?_)
    obtain ⟨s8, es8, hf⟩ := nm_ob hf
    have hP : va_P D vwCl (wRR ca B ar s8) H := by rw [← es8]; exact hP
    have hD : va_D A (wRR ca B ar s8) := by rw [← es8]; exact hD
    refine lv_aload_n hx hb dX4_clear_41 rfl (lv_at hl 0 rfl) ?_
    refine lv_iconst (v := 0) hx hb dX4_clear_42 (by decide) ?_
    obtain ⟨s9, es9, hf⟩ := nm_ob hf
    refine va_put (D := D) (ci := 4) (v := .int 0) (ty := .int) (C := RX4) (T := TX4) (N := 7) hx hb hts in4 tyX4 tyX4_ok nmX4 hown hK hP hD hS 0 rfl rfl 6 (by decide) f56 (fun _ h9 => h9) rfl (by decide +kernel) rfl rfl (Nat.le_of_ble_eq_true rfl) dX4_clear_43 (fun H locs hP hD hS => ?_)
    have hP : va_P D vwCl (wRR ca B ar s9) H := by rw [← es9]; exact hP
    have hD : va_D A (wRR ca B ar s9) := by rw [← es9]; exact hD
    refine lv_iconst (v := 0) hx hb dX4_clear_46 (by decide) ?_
    refine lv_istore_n (lv' := [(2, .int 0), (0, .ref (B 0)), (1, .int a0)]) hx hb dX4_clear_47 rfl hl (by decide) rfl (fun ls hl => ?_)
    refine lv_iload_n hx hb dX4_clear_48 rfl (lv_at hl 0 rfl) ?_
    refine lv_iconst (v := 4) hx hb dX4_clear_49 (by decide) ?_
    refine lv_icmp_ge (tgt := 68) hx hb dX4_clear_50 (by decide) (fun c => absurd c (by decide)) (fun _ => ?_)
    refine lv_aload_n hx hb dX4_clear_53 rfl (lv_at hl 1 rfl) ?_
    refine va_get (D := D) (ci := 4) (v := .ref (B 1)) (C := RX4) (T := TX4) (N := 7) hx hb hts in4 hown hK hP 0 rfl rfl 0 (by decide) f11 (fun _ h9 => h9) rfl dX4_clear_54 ?_
    refine lv_iload_n hx hb dX4_clear_57 rfl (lv_at hl 0 rfl) ?_
    refine va_aldq hx hb hK hP 1 4 rfl rfl (show ¬ ((0 : Int32) < 0 ∨ 4 ≤ (0 : Int32).toNatClampNeg) by decide) dX4_clear_58 ?_
    refine W.eq (g2 := F0 m 59 ls [.ref (B (2 + 0))]) rfl ?_
    obtain ⟨s12, es12, hf⟩ := bd_ob hf
    refine call_v (As := []) (rest := []) ⟨hx, hb, hml, hown, hts⟩ (tX2_end l D ca (B (2 + 0)) _ (rr_sws s9 0) s12 es12) (cwV 0 hts gX4_clear_X2_end rfl rfl rfl (by decide +kernel) ⟨Nat.le_of_ble_eq_true rfl, Nat.le_of_ble_eq_true rfl⟩) hN hK hP hD hA hS (fr_RW ca B ar s9 s12 (show 0 < 4 by decide)) rfl rfl rfl hl.1 rfl (lv_room (Nat.le_of_ble_eq_true rfl)) dX4_clear_59 ⟨Nat.le_of_ble_eq_true rfl, Nat.le_of_ble_eq_true rfl⟩ (fun H locs hP hD hS => ?_)
    obtain ⟨s13, es13, hf⟩ := nm_ob hf
    have hP : va_P D vwCl (wRR ca B ar s13) H := by rw [← es13]; exact hP
    have hD : va_D A (wRR ca B ar s13) := by rw [← es13]; exact hD
    refine lv_iinc (v := 1) (lv' := [(2, .int 1), (0, .ref (B 0)), (1, .int a0)]) hx hb dX4_clear_62 hl (k := 0) rfl (by decide) (by decide) rfl (fun ls hl => ?_)
    refine lv_goto (tgt := 48) hx hb dX4_clear_65 (by decide) ?_
    refine lv_iload_n hx hb dX4_clear_48 rfl (lv_at hl 0 rfl) ?_
    refine lv_iconst (v := 4) hx hb dX4_clear_49 (by decide) ?_
    refine lv_icmp_ge (tgt := 68) hx hb dX4_clear_50 (by decide) (fun c => absurd c (by decide)) (fun _ => ?_)
    refine lv_aload_n hx hb dX4_clear_53 rfl (lv_at hl 1 rfl) ?_
    refine va_get (D := D) (ci := 4) (v := .ref (B 1)) (C := RX4) (T := TX4) (N := 7) hx hb hts in4 hown hK hP 0 rfl rfl 0 (by decide) f11 (fun _ h9 => h9) rfl dX4_clear_54 ?_
    refine lv_iload_n hx hb dX4_clear_57 rfl (lv_at hl 0 rfl) ?_
    refine va_aldq hx hb hK hP 1 4 rfl rfl (show ¬ ((1 : Int32) < 0 ∨ 4 ≤ (1 : Int32).toNatClampNeg) by decide) dX4_clear_58 ?_
    refine W.eq (g2 := F0 m 59 ls [.ref (B (2 + 1))]) rfl ?_
    obtain ⟨s16, es16, hf⟩ := bd_ob hf
    refine call_v (As := []) (rest := []) ⟨hx, hb, hml, hown, hts⟩ (tX2_end l D ca (B (2 + 1)) _ (rr_sws s13 1) s16 es16) (cwV 0 hts gX4_clear_X2_end rfl rfl rfl (by decide +kernel) ⟨Nat.le_of_ble_eq_true rfl, Nat.le_of_ble_eq_true rfl⟩) hN hK hP hD hA hS (fr_RW ca B ar s13 s16 (show 1 < 4 by decide)) rfl rfl rfl hl.1 rfl (lv_room (Nat.le_of_ble_eq_true rfl)) dX4_clear_59 ⟨Nat.le_of_ble_eq_true rfl, Nat.le_of_ble_eq_true rfl⟩ (fun H locs hP hD hS => ?_)
    obtain ⟨s17, es17, hf⟩ := nm_ob hf
    have hP : va_P D vwCl (wRR ca B ar s17) H := by rw [← es17]; exact hP
    have hD : va_D A (wRR ca B ar s17) := by rw [← es17]; exact hD
    refine lv_iinc (v := 2) (lv' := [(2, .int 2), (0, .ref (B 0)), (1, .int a0)]) hx hb dX4_clear_62 hl (k := 0) rfl (by decide) (by decide) rfl (fun ls hl => ?_)
    refine lv_goto (tgt := 48) hx hb dX4_clear_65 (by decide) ?_
    refine lv_iload_n hx hb dX4_clear_48 rfl (lv_at hl 0 rfl) ?_
    refine lv_iconst (v := 4) hx hb dX4_clear_49 (by decide) ?_
    refine lv_icmp_ge (tgt := 68) hx hb dX4_clear_50 (by decide) (fun c => absurd c (by decide)) (fun _ => ?_)
    refine lv_aload_n hx hb dX4_clear_53 rfl (lv_at hl 1 rfl) ?_
    refine va_get (D := D) (ci := 4) (v := .ref (B 1)) (C := RX4) (T := TX4) (N := 7) hx hb hts in4 hown hK hP 0 rfl rfl 0 (by decide) f11 (fun _ h9 => h9) rfl dX4_clear_54 ?_
    refine lv_iload_n hx hb dX4_clear_57 rfl (lv_at hl 0 rfl) ?_
    refine va_aldq hx hb hK hP 1 4 rfl rfl (show ¬ ((2 : Int32) < 0 ∨ 4 ≤ (2 : Int32).toNatClampNeg) by decide) dX4_clear_58 ?_
    refine W.eq (g2 := F0 m 59 ls [.ref (B (2 + 2))]) rfl ?_
    obtain ⟨s20, es20, hf⟩ := bd_ob hf
    refine call_v (As := []) (rest := []) ⟨hx, hb, hml, hown, hts⟩ (tX2_end l D ca (B (2 + 2)) _ (rr_sws s17 2) s20 es20) (cwV 0 hts gX4_clear_X2_end rfl rfl rfl (by decide +kernel) ⟨Nat.le_of_ble_eq_true rfl, Nat.le_of_ble_eq_true rfl⟩) hN hK hP hD hA hS (fr_RW ca B ar s17 s20 (show 2 < 4 by decide)) rfl rfl rfl hl.1 rfl (lv_room (Nat.le_of_ble_eq_true rfl)) dX4_clear_59 ⟨Nat.le_of_ble_eq_true rfl, Nat.le_of_ble_eq_true rfl⟩ (fun H locs hP hD hS => ?_)
    obtain ⟨s21, es21, hf⟩ := nm_ob hf
    have hP : va_P D vwCl (wRR ca B ar s21) H := by rw [← es21]; exact hP
    have hD : va_D A (wRR ca B ar s21) := by rw [← es21]; exact hD
    refine lv_iinc (v := 3) (lv' := [(2, .int 3), (0, .ref (B 0)), (1, .int a0)]) hx hb dX4_clear_62 hl (k := 0) rfl (by decide) (by decide) rfl (fun ls hl => ?_)
    refine lv_goto (tgt := 48) hx hb dX4_clear_65 (by decide) ?_
    refine lv_iload_n hx hb dX4_clear_48 rfl (lv_at hl 0 rfl) ?_
    refine lv_iconst (v := 4) hx hb dX4_clear_49 (by decide) ?_
    refine lv_icmp_ge (tgt := 68) hx hb dX4_clear_50 (by decide) (fun c => absurd c (by decide)) (fun _ => ?_)
    refine lv_aload_n hx hb dX4_clear_53 rfl (lv_at hl 1 rfl) ?_
    refine va_get (D := D) (ci := 4) (v := .ref (B 1)) (C := RX4) (T := TX4) (N := 7) hx hb hts in4 hown hK hP 0 rfl rfl 0 (by decide) f11 (fun _ h9 => h9) rfl dX4_clear_54 ?_
    refine lv_iload_n hx hb dX4_clear_57 rfl (lv_at hl 0 rfl) ?_
    refine va_aldq hx hb hK hP 1 4 rfl rfl (show ¬ ((3 : Int32) < 0 ∨ 4 ≤ (3 : Int32).toNatClampNeg) by decide) dX4_clear_58 ?_
    refine W.eq (g2 := F0 m 59 ls [.ref (B (2 + 3))]) rfl ?_
    obtain ⟨s24, es24, hf⟩ := bd_ob hf
    refine call_v (As := []) (rest := []) ⟨hx, hb, hml, hown, hts⟩ (tX2_end l D ca (B (2 + 3)) _ (rr_sws s21 3) s24 es24) (cwV 0 hts gX4_clear_X2_end rfl rfl rfl (by decide +kernel) ⟨Nat.le_of_ble_eq_true rfl, Nat.le_of_ble_eq_true rfl⟩) hN hK hP hD hA hS (fr_RW ca B ar s21 s24 (show 3 < 4 by decide)) rfl rfl rfl hl.1 rfl (lv_room (Nat.le_of_ble_eq_true rfl)) dX4_clear_59 ⟨Nat.le_of_ble_eq_true rfl, Nat.le_of_ble_eq_true rfl⟩ (fun H locs hP hD hS => ?_)
    obtain ⟨s25, es25, hf⟩ := nm_ob hf
    have hP : va_P D vwCl (wRR ca B ar s25) H := by rw [← es25]; exact hP
    have hD : va_D A (wRR ca B ar s25) := by rw [← es25]; exact hD
    refine lv_iinc (v := 4) (lv' := [(2, .int 4), (0, .ref (B 0)), (1, .int a0)]) hx hb dX4_clear_62 hl (k := 0) rfl (by decide) (by decide) rfl (fun ls hl => ?_)
    refine lv_goto (tgt := 48) hx hb dX4_clear_65 (by decide) ?_
    refine lv_iload_n hx hb dX4_clear_48 rfl (lv_at hl 0 rfl) ?_
    refine lv_iconst (v := 4) hx hb dX4_clear_49 (by decide) ?_
    refine lv_icmp_ge (tgt := 68) hx hb dX4_clear_50 (by decide) (fun _ => ?_) (fun c => absurd c (by decide))
    exact retx_v hx hb hr hlocks hK (Nat.le_of_ble_eq_true rfl) (Nat.le_of_ble_eq_true rfl) (so1 hf).symm hP hD hS dX4_clear_68
  · replace hf := it_n c1 hf
    refine lv_iload_n hx hb dX4_clear_4 rfl (lv_at hl 1 rfl) ?_
    refine lv_iconst (v := 1) hx hb dX4_clear_5 (by decide) ?_
    refine lv_icmp_eq (tgt := 19) hx hb dX4_clear_6 (by decide) (fun c27 => ?_) (fun c27 => ?_)
    · replace hf := it_p c27 hf
      refine lv_aload_n hx hb dX4_clear_19 rfl (lv_at hl 0 rfl) ?_
      refine lv_iload_n hx hb dX4_clear_20 rfl (lv_at hl 1 rfl) ?_
      obtain ⟨s28, es28, hf⟩ := nm_ob hf
      refine va_put (D := D) (ci := 4) (v := .int a0) (ty := .int) (C := RX4) (T := TX4) (N := 7) hx hb hts in4 tyX4 tyX4_ok nmX4 hown hK hP hD hS 0 rfl rfl 5 (by decide) f42 (fun _ h9 => h9) rfl (by decide +kernel) rfl rfl (Nat.le_of_ble_eq_true rfl) dX4_clear_21 (fun H locs hP hD hS => ?_)
      have hP : va_P D vwCl (wRR ca B ar s28) H := by rw [← es28]; exact hP
      have hD : va_D A (wRR ca B ar s28) := by rw [← es28]; exact hD
      refine lv_aload_n hx hb dX4_clear_24 rfl (lv_at hl 0 rfl) ?_
      refine va_get (D := D) (ci := 4) (v := .ref (rr_ap s28)) (C := RX4) (T := TX4) (N := 7) hx hb hts in4 hown hK hP 0 rfl rfl 3 (by decide) f34 (fun _ h9 => h9) rfl dX4_clear_25 ?_
      refine lv_bipush (v := 8) hx hb dX4_clear_28 (by decide) ?_
      obtain ⟨s30, es30, hf⟩ := bd_ob hf
      refine call_v (As := [.int 8]) (rest := []) ⟨hx, hb, hml, hown, hts⟩ (tX3_emptyWith l D ca (rr_ap s28) (ar (rr_ap s28)) _ (rr_P s28) 8 s30 es30) (cwV 1 hts gX4_clear_X3_emptyWith rfl rfl rfl (by decide +kernel) ⟨Nat.le_of_ble_eq_true rfl, Nat.le_of_ble_eq_true rfl⟩) hN hK hP hD hA hS (fr_RP ca B ar s28 s30) rfl rfl rfl hl.1 rfl (lv_room (Nat.le_of_ble_eq_true rfl)) dX4_clear_30 ⟨Nat.le_of_ble_eq_true rfl, Nat.le_of_ble_eq_true rfl⟩ (fun H locs hP hD hS => ?_)
      obtain ⟨s31, es31, hf⟩ := nm_ob hf
      have hP : va_P D vwCl (wRR ca B ar s31) H := by rw [← es31]; exact hP
      have hD : va_D A (wRR ca B ar s31) := by rw [← es31]; exact hD
      refine lv_aload_n hx hb dX4_clear_33 rfl (lv_at hl 0 rfl) ?_
      refine va_get (D := D) (ci := 4) (v := .ref (rr_ao s31)) (C := RX4) (T := TX4) (N := 7) hx hb hts in4 hown hK hP 0 rfl rfl 4 (by decide) f38 (fun _ h9 => h9) rfl dX4_clear_34 ?_
      refine lv_iconst (v := 0) hx hb dX4_clear_37 (by decide) ?_
      obtain ⟨s33, es33, hf⟩ := bd_ob hf
      refine call_v (As := [.int 0]) (rest := []) ⟨hx, hb, hml, hown, hts⟩ (tX3_emptyWith l D ca (rr_ao s31) (ar (rr_ao s31)) _ (rr_O s31) 0 s33 es33) (cwV 1 hts gX4_clear_X3_emptyWith rfl rfl rfl (by decide +kernel) ⟨Nat.le_of_ble_eq_true rfl, Nat.le_of_ble_eq_true rfl⟩) hN hK hP hD hA hS (fr_RO ca B ar s31 s33) rfl rfl rfl hl.1 rfl (lv_room (Nat.le_of_ble_eq_true rfl)) dX4_clear_38 ⟨Nat.le_of_ble_eq_true rfl, Nat.le_of_ble_eq_true rfl⟩ (fun H locs hP hD hS => ?_)
      obtain ⟨s34, es34, hf⟩ := nm_ob hf
      have hP : va_P D vwCl (wRR ca B ar s34) H := by rw [← es34]; exact hP
      have hD : va_D A (wRR ca B ar s34) := by rw [← es34]; exact hD
      refine lv_aload_n hx hb dX4_clear_41 rfl (lv_at hl 0 rfl) ?_
      refine lv_iconst (v := 0) hx hb dX4_clear_42 (by decide) ?_
      obtain ⟨s35, es35, hf⟩ := nm_ob hf
      refine va_put (D := D) (ci := 4) (v := .int 0) (ty := .int) (C := RX4) (T := TX4) (N := 7) hx hb hts in4 tyX4 tyX4_ok nmX4 hown hK hP hD hS 0 rfl rfl 6 (by decide) f56 (fun _ h9 => h9) rfl (by decide +kernel) rfl rfl (Nat.le_of_ble_eq_true rfl) dX4_clear_43 (fun H locs hP hD hS => ?_)
      have hP : va_P D vwCl (wRR ca B ar s35) H := by rw [← es35]; exact hP
      have hD : va_D A (wRR ca B ar s35) := by rw [← es35]; exact hD
      refine lv_iconst (v := 0) hx hb dX4_clear_46 (by decide) ?_
      refine lv_istore_n (lv' := [(2, .int 0), (0, .ref (B 0)), (1, .int a0)]) hx hb dX4_clear_47 rfl hl (by decide) rfl (fun ls hl => ?_)
      refine lv_iload_n hx hb dX4_clear_48 rfl (lv_at hl 0 rfl) ?_
      refine lv_iconst (v := 4) hx hb dX4_clear_49 (by decide) ?_
      refine lv_icmp_ge (tgt := 68) hx hb dX4_clear_50 (by decide) (fun c => absurd c (by decide)) (fun _ => ?_)
      refine lv_aload_n hx hb dX4_clear_53 rfl (lv_at hl 1 rfl) ?_
      refine va_get (D := D) (ci := 4) (v := .ref (B 1)) (C := RX4) (T := TX4) (N := 7) hx hb hts in4 hown hK hP 0 rfl rfl 0 (by decide) f11 (fun _ h9 => h9) rfl dX4_clear_54 ?_
      refine lv_iload_n hx hb dX4_clear_57 rfl (lv_at hl 0 rfl) ?_
      refine va_aldq hx hb hK hP 1 4 rfl rfl (show ¬ ((0 : Int32) < 0 ∨ 4 ≤ (0 : Int32).toNatClampNeg) by decide) dX4_clear_58 ?_
      refine W.eq (g2 := F0 m 59 ls [.ref (B (2 + 0))]) rfl ?_
      obtain ⟨s38, es38, hf⟩ := bd_ob hf
      refine call_v (As := []) (rest := []) ⟨hx, hb, hml, hown, hts⟩ (tX2_end l D ca (B (2 + 0)) _ (rr_sws s35 0) s38 es38) (cwV 0 hts gX4_clear_X2_end rfl rfl rfl (by decide +kernel) ⟨Nat.le_of_ble_eq_true rfl, Nat.le_of_ble_eq_true rfl⟩) hN hK hP hD hA hS (fr_RW ca B ar s35 s38 (show 0 < 4 by decide)) rfl rfl rfl hl.1 rfl (lv_room (Nat.le_of_ble_eq_true rfl)) dX4_clear_59 ⟨Nat.le_of_ble_eq_true rfl, Nat.le_of_ble_eq_true rfl⟩ (fun H locs hP hD hS => ?_)
      obtain ⟨s39, es39, hf⟩ := nm_ob hf
      have hP : va_P D vwCl (wRR ca B ar s39) H := by rw [← es39]; exact hP
      have hD : va_D A (wRR ca B ar s39) := by rw [← es39]; exact hD
      refine lv_iinc (v := 1) (lv' := [(2, .int 1), (0, .ref (B 0)), (1, .int a0)]) hx hb dX4_clear_62 hl (k := 0) rfl (by decide) (by decide) rfl (fun ls hl => ?_)
      refine lv_goto (tgt := 48) hx hb dX4_clear_65 (by decide) ?_
      refine lv_iload_n hx hb dX4_clear_48 rfl (lv_at hl 0 rfl) ?_
      refine lv_iconst (v := 4) hx hb dX4_clear_49 (by decide) ?_
      refine lv_icmp_ge (tgt := 68) hx hb dX4_clear_50 (by decide) (fun c => absurd c (by decide)) (fun _ => ?_)
      refine lv_aload_n hx hb dX4_clear_53 rfl (lv_at hl 1 rfl) ?_
      refine va_get (D := D) (ci := 4) (v := .ref (B 1)) (C := RX4) (T := TX4) (N := 7) hx hb hts in4 hown hK hP 0 rfl rfl 0 (by decide) f11 (fun _ h9 => h9) rfl dX4_clear_54 ?_
      refine lv_iload_n hx hb dX4_clear_57 rfl (lv_at hl 0 rfl) ?_
      refine va_aldq hx hb hK hP 1 4 rfl rfl (show ¬ ((1 : Int32) < 0 ∨ 4 ≤ (1 : Int32).toNatClampNeg) by decide) dX4_clear_58 ?_
      refine W.eq (g2 := F0 m 59 ls [.ref (B (2 + 1))]) rfl ?_
      obtain ⟨s42, es42, hf⟩ := bd_ob hf
      refine call_v (As := []) (rest := []) ⟨hx, hb, hml, hown, hts⟩ (tX2_end l D ca (B (2 + 1)) _ (rr_sws s39 1) s42 es42) (cwV 0 hts gX4_clear_X2_end rfl rfl rfl (by decide +kernel) ⟨Nat.le_of_ble_eq_true rfl, Nat.le_of_ble_eq_true rfl⟩) hN hK hP hD hA hS (fr_RW ca B ar s39 s42 (show 1 < 4 by decide)) rfl rfl rfl hl.1 rfl (lv_room (Nat.le_of_ble_eq_true rfl)) dX4_clear_59 ⟨Nat.le_of_ble_eq_true rfl, Nat.le_of_ble_eq_true rfl⟩ (fun H locs hP hD hS => ?_)
      obtain ⟨s43, es43, hf⟩ := nm_ob hf
      have hP : va_P D vwCl (wRR ca B ar s43) H := by rw [← es43]; exact hP
      have hD : va_D A (wRR ca B ar s43) := by rw [← es43]; exact hD
      refine lv_iinc (v := 2) (lv' := [(2, .int 2), (0, .ref (B 0)), (1, .int a0)]) hx hb dX4_clear_62 hl (k := 0) rfl (by decide) (by decide) rfl (fun ls hl => ?_)
      refine lv_goto (tgt := 48) hx hb dX4_clear_65 (by decide) ?_
      refine lv_iload_n hx hb dX4_clear_48 rfl (lv_at hl 0 rfl) ?_
      refine lv_iconst (v := 4) hx hb dX4_clear_49 (by decide) ?_
      refine lv_icmp_ge (tgt := 68) hx hb dX4_clear_50 (by decide) (fun c => absurd c (by decide)) (fun _ => ?_)
      refine lv_aload_n hx hb dX4_clear_53 rfl (lv_at hl 1 rfl) ?_
      refine va_get (D := D) (ci := 4) (v := .ref (B 1)) (C := RX4) (T := TX4) (N := 7) hx hb hts in4 hown hK hP 0 rfl rfl 0 (by decide) f11 (fun _ h9 => h9) rfl dX4_clear_54 ?_
      refine lv_iload_n hx hb dX4_clear_57 rfl (lv_at hl 0 rfl) ?_
      refine va_aldq hx hb hK hP 1 4 rfl rfl (show ¬ ((2 : Int32) < 0 ∨ 4 ≤ (2 : Int32).toNatClampNeg) by decide) dX4_clear_58 ?_
      refine W.eq (g2 := F0 m 59 ls [.ref (B (2 + 2))]) rfl ?_
      obtain ⟨s46, es46, hf⟩ := bd_ob hf
      refine call_v (As := []) (rest := []) ⟨hx, hb, hml, hown, hts⟩ (tX2_end l D ca (B (2 + 2)) _ (rr_sws s43 2) s46 es46) (cwV 0 hts gX4_clear_X2_end rfl rfl rfl (by decide +kernel) ⟨Nat.le_of_ble_eq_true rfl, Nat.le_of_ble_eq_true rfl⟩) hN hK hP hD hA hS (fr_RW ca B ar s43 s46 (show 2 < 4 by decide)) rfl rfl rfl hl.1 rfl (lv_room (Nat.le_of_ble_eq_true rfl)) dX4_clear_59 ⟨Nat.le_of_ble_eq_true rfl, Nat.le_of_ble_eq_true rfl⟩ (fun H locs hP hD hS => ?_)
      obtain ⟨s47, es47, hf⟩ := nm_ob hf
      have hP : va_P D vwCl (wRR ca B ar s47) H := by rw [← es47]; exact hP
      have hD : va_D A (wRR ca B ar s47) := by rw [← es47]; exact hD
      refine lv_iinc (v := 3) (lv' := [(2, .int 3), (0, .ref (B 0)), (1, .int a0)]) hx hb dX4_clear_62 hl (k := 0) rfl (by decide) (by decide) rfl (fun ls hl => ?_)
      refine lv_goto (tgt := 48) hx hb dX4_clear_65 (by decide) ?_
      refine lv_iload_n hx hb dX4_clear_48 rfl (lv_at hl 0 rfl) ?_
      refine lv_iconst (v := 4) hx hb dX4_clear_49 (by decide) ?_
      refine lv_icmp_ge (tgt := 68) hx hb dX4_clear_50 (by decide) (fun c => absurd c (by decide)) (fun _ => ?_)
      refine lv_aload_n hx hb dX4_clear_53 rfl (lv_at hl 1 rfl) ?_
      refine va_get (D := D) (ci := 4) (v := .ref (B 1)) (C := RX4) (T := TX4) (N := 7) hx hb hts in4 hown hK hP 0 rfl rfl 0 (by decide) f11 (fun _ h9 => h9) rfl dX4_clear_54 ?_
      refine lv_iload_n hx hb dX4_clear_57 rfl (lv_at hl 0 rfl) ?_
      refine va_aldq hx hb hK hP 1 4 rfl rfl (show ¬ ((3 : Int32) < 0 ∨ 4 ≤ (3 : Int32).toNatClampNeg) by decide) dX4_clear_58 ?_
      refine W.eq (g2 := F0 m 59 ls [.ref (B (2 + 3))]) rfl ?_
      obtain ⟨s50, es50, hf⟩ := bd_ob hf
      refine call_v (As := []) (rest := []) ⟨hx, hb, hml, hown, hts⟩ (tX2_end l D ca (B (2 + 3)) _ (rr_sws s47 3) s50 es50) (cwV 0 hts gX4_clear_X2_end rfl rfl rfl (by decide +kernel) ⟨Nat.le_of_ble_eq_true rfl, Nat.le_of_ble_eq_true rfl⟩) hN hK hP hD hA hS (fr_RW ca B ar s47 s50 (show 3 < 4 by decide)) rfl rfl rfl hl.1 rfl (lv_room (Nat.le_of_ble_eq_true rfl)) dX4_clear_59 ⟨Nat.le_of_ble_eq_true rfl, Nat.le_of_ble_eq_true rfl⟩ (fun H locs hP hD hS => ?_)
      obtain ⟨s51, es51, hf⟩ := nm_ob hf
      have hP : va_P D vwCl (wRR ca B ar s51) H := by rw [← es51]; exact hP
      have hD : va_D A (wRR ca B ar s51) := by rw [← es51]; exact hD
      refine lv_iinc (v := 4) (lv' := [(2, .int 4), (0, .ref (B 0)), (1, .int a0)]) hx hb dX4_clear_62 hl (k := 0) rfl (by decide) (by decide) rfl (fun ls hl => ?_)
      refine lv_goto (tgt := 48) hx hb dX4_clear_65 (by decide) ?_
      refine lv_iload_n hx hb dX4_clear_48 rfl (lv_at hl 0 rfl) ?_
      refine lv_iconst (v := 4) hx hb dX4_clear_49 (by decide) ?_
      refine lv_icmp_ge (tgt := 68) hx hb dX4_clear_50 (by decide) (fun _ => ?_) (fun c => absurd c (by decide))
      exact retx_v hx hb hr hlocks hK (Nat.le_of_ble_eq_true rfl) (Nat.le_of_ble_eq_true rfl) (so1 hf).symm hP hD hS dX4_clear_68
    · replace hf := it_n c27 hf
      exact thr_S (w := wRR ca B ar) (Ts := wsX4_clear) (cls := "java/lang/IllegalArgumentException") (text := "there is no such way") (names := ["java/lang/RuntimeException", "java/lang/Exception"]) hx hb hT hts hown hlocks hxt hN hX hK (hml.trans hl.1.symm) (by decide +kernel) (by decide +kernel) (by decide +kernel) (by decide +kernel) (by decide +kernel) (by decide +kernel) (by decide +kernel) (by decide +kernel) (by decide +kernel) hS hP hD (k := 1) rfl (so1 hf).symm dX4_clear_9 dX4_clear_12 dX4_clear_13 dX4_clear_15 dX4_clear_18 (Nat.le_of_ble_eq_true rfl) (Nat.le_of_ble_eq_true rfl) (Nat.le_of_ble_eq_true rfl) (Nat.le_of_ble_eq_true rfl) (Nat.le_of_ble_eq_true rfl) (Nat.le_of_ble_eq_true rfl)

def rx_put  (σ : RR) (a0 : Int32) (a1 : Int32) : Option (Ex (Int32 × RR)) :=
  if 0 ≤ a1 then
    bd (rr_size σ) fun v2 =>
    if v2 < 200 then
      bd2 (rr_moveSlice σ) fun v4 s5 =>
      bd (rr_lookUp s5 a0) fun s7 =>
      bd (ss_hasFound (rr_se s7)) fun v8 =>
      if v8 = 0 then
        bd (rr_putNew s7 a0 a1) fun s11 =>
        some (.inl ((-1), s11))
      else
        dsp (se_tb (rr_se s7)) (rr_ap s7) (rr_ao s7) (
          bd2 (tt_exchangeValue (rr_P s7) (se_slot (rr_se s7)) a1) fun v13 s14 =>
          nm (rr_P' s7 s14) fun s15 =>
          some (.inl (v13, s15))) (
          bd2 (tt_exchangeValue (rr_O s7) (se_slot (rr_se s7)) a1) fun v16 s17 =>
          nm (rr_O' s7 s17) fun s18 =>
          some (.inl (v16, s18)))
    else
      bd2 (rr_get σ a0) fun v19 s20 =>
      if v19 = (-1) then
        some (.inr (2, s20))
      else
        bd2 (rr_moveSlice s20) fun v22 s23 =>
        bd (rr_lookUp s23 a0) fun s25 =>
        bd (ss_hasFound (rr_se s25)) fun v26 =>
        if v26 = 0 then
          bd (rr_putNew s25 a0 a1) fun s29 =>
          some (.inl ((-1), s29))
        else
          dsp (se_tb (rr_se s25)) (rr_ap s25) (rr_ao s25) (
            bd2 (tt_exchangeValue (rr_P s25) (se_slot (rr_se s25)) a1) fun v31 s32 =>
            nm (rr_P' s25 s32) fun s33 =>
            some (.inl (v31, s33))) (
            bd2 (tt_exchangeValue (rr_O s25) (se_slot (rr_se s25)) a1) fun v34 s35 =>
            nm (rr_O' s25 s35) fun s36 =>
            some (.inl (v34, s36)))
  else
    some (.inr (1, σ))
set_option maxHeartbeats 4000000 in
set_option maxRecDepth 100000 in
theorem tX4_put (l : Launch) (hT : l.stackTraces = false) (D : va_G) (ca : Nat → ClassId) (B : Nat → Nat) (ar : Nat → Nat → Nat) (sz : Nat) (σ : RR) (a0 : Int32) (a1 : Int32) (z : (Ex (Int32 × RR))) (hf : rx_put σ a0 a1 = some z) : Cxi l D ca yX4_put wsX4_put { frames := 6, cells := 1, slots := 6, locals := 117 } [.ref (B 0), .int a0, .int a1] (wRR ca B ar) σ sz z 1 6 := by
  refine bodyx_of (cc := cX4_put) (maxL := 3) (ret := (some .int)) (fun A => Qxi D ca (wRR ca B ar) z A) (fun A => Xx D ca (wRR ca B ar) z A) (by decide) rfl (Nat.le_of_ble_eq_true rfl) ?_
  intro p e s m below meth c A ls hx hb hr hml hts hown hlocks hA hK hP hD hS hl hN hX hxt
  have hl : lv_has ls 3 [(0, .ref (B 0)), (1, .int a0), (2, .int a1)] := hl
  generalize ([.ref (B 0), .int a0, .int a1] : List Value).toArray = args at hts ⊢
  have f18 := hts (.fieldLink RX4 18 "RobinRow" "search" "LRobinRow$Search;") (by decide +kernel)
  have f87 : (Cond.fieldLinkNest RX4 87 "RobinRow$Search" "table" "LRobinRow$Table;" RX4).before args s = true := va_Nw.use rfl (hN.1 (RX4, 87, "RobinRow$Search", "table", "LRobinRow$Table;") (by decide +kernel))
  have f90 : (Cond.fieldLinkNest RX4 90 "RobinRow$Search" "slot" "I" RX4).before args s = true := va_Nw.use rfl (hN.1 (RX4, 90, "RobinRow$Search", "slot", "I") (by decide +kernel))
  have in1 : ∀ w ∈ u_ws RX1 TX1 4, w ∈ wsX4_put := by decide +kernel
  have in4 : ∀ w ∈ u_ws RX4 TX4 7, w ∈ wsX4_put := by decide +kernel
  unfold rx_put at hf
  refine lv_iload_n hx hb dX4_put_0 rfl (lv_at hl 2 rfl) ?_
  refine lv_if_ge (tgt := 14) hx hb dX4_put_1 (by decide) (fun c1 => ?_) (fun c1 => ?_)
  · replace hf := it_p c1 hf
    refine lv_aload_n hx hb dX4_put_14 rfl (lv_at hl 0 rfl) ?_
    obtain ⟨v2, ev2, hf⟩ := bd_ob hf
    refine call_i (As := []) (rest := []) ⟨hx, hb, hml, hown, hts⟩ (tX4_size l D ca B ar _ σ v2 ev2) (cwV 0 hts gX4_put_X4_size rfl rfl rfl (by decide +kernel) ⟨Nat.le_of_ble_eq_true rfl, Nat.le_of_ble_eq_true rfl⟩) hN hK hP hD hA hS (fr_id _ _) rfl rfl rfl hl.1 rfl (lv_room (Nat.le_of_ble_eq_true rfl)) dX4_put_15 ⟨Nat.le_of_ble_eq_true rfl, Nat.le_of_ble_eq_true rfl⟩ (fun H locs hP hD hS => ?_)
    refine lv_sipush (v := 200) hx hb dX4_put_18 (by decide) ?_
    refine lv_icmp_lt (tgt := 43) hx hb dX4_put_21 (by decide) (fun c3 => ?_) (fun c3 => ?_)
    · replace hf := it_p c3 hf
      refine lv_aload_n hx hb dX4_put_43 rfl (lv_at hl 0 rfl) ?_
      obtain ⟨v4, s5, ev4, hf⟩ := bd2_ob hf
      refine call_i (As := []) (rest := []) ⟨hx, hb, hml, hown, hts⟩ (tX4_moveSlice l D ca B ar _ σ v4 s5 ev4) (cwV 0 hts gX4_put_X4_moveSlice rfl rfl rfl (by decide +kernel) ⟨Nat.le_of_ble_eq_true rfl, Nat.le_of_ble_eq_true rfl⟩) hN hK hP hD hA hS (fr_id _ _) rfl rfl rfl hl.1 rfl (lv_room (Nat.le_of_ble_eq_true rfl)) dX4_put_44 ⟨Nat.le_of_ble_eq_true rfl, Nat.le_of_ble_eq_true rfl⟩ (fun H locs hP hD hS => ?_)
      refine lv_pop hx hb dX4_put_47 rfl ?_
      refine lv_aload_n hx hb dX4_put_48 rfl (lv_at hl 0 rfl) ?_
      refine lv_iload_n hx hb dX4_put_49 rfl (lv_at hl 1 rfl) ?_
      obtain ⟨s7, es7, hf⟩ := bd_ob hf
      refine call_v (As := [.int a0]) (rest := []) ⟨hx, hb, hml, hown, hts⟩ (tX4_lookUp l D ca B ar _ s5 a0 s7 es7) (cwV 1 hts gX4_put_X4_lookUp rfl rfl rfl (by decide +kernel) ⟨Nat.le_of_ble_eq_true rfl, Nat.le_of_ble_eq_true rfl⟩) hN hK hP hD hA hS (fr_id _ _) rfl rfl rfl hl.1 rfl (lv_room (Nat.le_of_ble_eq_true rfl)) dX4_put_50 ⟨Nat.le_of_ble_eq_true rfl, Nat.le_of_ble_eq_true rfl⟩ (fun H locs hP hD hS => ?_)
      refine lv_aload_n hx hb dX4_put_53 rfl (lv_at hl 0 rfl) ?_
      refine va_get (D := D) (ci := 4) (v := .ref (B 6)) (C := RX4) (T := TX4) (N := 7) hx hb hts in4 hown hK hP 0 rfl rfl 1 (by decide) f18 (fun _ h9 => h9) rfl dX4_put_54 ?_
      obtain ⟨v8, ev8, hf⟩ := bd_ob hf
      refine call_i (As := []) (rest := []) ⟨hx, hb, hml, hown, hts⟩ (tX1_hasFound l D ca (B 6) _ (rr_se s7) v8 ev8) (cwV 0 hts gX4_put_X1_hasFound rfl rfl rfl (by decide +kernel) ⟨Nat.le_of_ble_eq_true rfl, Nat.le_of_ble_eq_true rfl⟩) hN hK hP hD hA hS (fr_RSp ca B ar s7) rfl rfl rfl hl.1 rfl (lv_room (Nat.le_of_ble_eq_true rfl)) dX4_put_57 ⟨Nat.le_of_ble_eq_true rfl, Nat.le_of_ble_eq_true rfl⟩ (fun H locs hP hD hS => ?_)
      refine lv_if_eq (tgt := 82) hx hb dX4_put_60 (by decide) (fun c9 => ?_) (fun c9 => ?_)
      · replace hf := it_p c9 hf
        refine lv_aload_n hx hb dX4_put_82 rfl (lv_at hl 0 rfl) ?_
        refine lv_iload_n hx hb dX4_put_83 rfl (lv_at hl 1 rfl) ?_
        refine lv_iload_n hx hb dX4_put_84 rfl (lv_at hl 2 rfl) ?_
        obtain ⟨s11, es11, hf⟩ := bd_ob hf
        refine call_v (As := [.int a0, .int a1]) (rest := []) ⟨hx, hb, hml, hown, hts⟩ (tX4_putNew l D ca B ar _ s7 a0 a1 s11 es11) (cwV 2 hts gX4_put_X4_putNew rfl rfl rfl (by decide +kernel) ⟨Nat.le_of_ble_eq_true rfl, Nat.le_of_ble_eq_true rfl⟩) hN hK hP hD hA hS (fr_id _ _) rfl rfl rfl hl.1 rfl (lv_room (Nat.le_of_ble_eq_true rfl)) dX4_put_85 ⟨Nat.le_of_ble_eq_true rfl, Nat.le_of_ble_eq_true rfl⟩ (fun H locs hP hD hS => ?_)
        refine lv_iconst (v := (-1)) hx hb dX4_put_88 (by decide) ?_
        exact retx_i hx hb hr rfl hlocks hK (Nat.le_of_ble_eq_true rfl) (Nat.le_of_ble_eq_true rfl) (so1 hf).symm hP hD hS dX4_put_89
      · replace hf := it_n c9 hf
        refine lv_aload_n hx hb dX4_put_63 rfl (lv_at hl 0 rfl) ?_
        refine va_get (D := D) (ci := 4) (v := .ref (B 6)) (C := RX4) (T := TX4) (N := 7) hx hb hts in4 hown hK hP 0 rfl rfl 1 (by decide) f18 (fun _ h9 => h9) rfl dX4_put_64 ?_
        refine va_getN (D := D) (ci := 1) (v := va_rf (se_tb (rr_se s7))) (C := RX1) (T := TX1) (N := 4) hx hb hts in1 hown hK hP 6 rfl rfl 0 (by decide) f87 (fun _ h9 => h9) rfl dX4_put_67 ?_
        refine lv_aload_n hx hb dX4_put_70 rfl (lv_at hl 0 rfl) ?_
        refine va_get (D := D) (ci := 4) (v := .ref (B 6)) (C := RX4) (T := TX4) (N := 7) hx hb hts in4 hown hK hP 0 rfl rfl 1 (by decide) f18 (fun _ h9 => h9) rfl dX4_put_71 ?_
        refine va_getN (D := D) (ci := 1) (v := .int (se_slot (rr_se s7))) (C := RX1) (T := TX1) (N := 4) hx hb hts in1 hown hK hP 6 rfl rfl 1 (by decide) f90 (fun _ h9 => h9) rfl dX4_put_74 ?_
        refine lv_iload_n hx hb dX4_put_77 rfl (lv_at hl 2 rfl) ?_
        rcases dsp_ob hf with ⟨c12, hf⟩ | ⟨c12, hf⟩
        · refine W.eq (g2 := F0 m 78 ls [.int a1, .int (se_slot (rr_se s7)), .ref (rr_ap s7)]) (by rw [c12]; rfl) ?_
          obtain ⟨v13, s14, ev13, hf⟩ := bd2_ob hf
          refine call_i (As := [.int (se_slot (rr_se s7)), .int a1]) (rest := []) ⟨hx, hb, hml, hown, hts⟩ (tX3_exchangeValue l D ca (rr_ap s7) (ar (rr_ap s7)) _ (rr_P s7) (se_slot (rr_se s7)) a1 v13 s14 ev13) (cwV 2 hts gX4_put_X3_exchangeValue rfl rfl rfl (by decide +kernel) ⟨Nat.le_of_ble_eq_true rfl, Nat.le_of_ble_eq_true rfl⟩) hN hK hP hD hA hS (fr_RP ca B ar s7 s14) rfl rfl rfl hl.1 rfl (lv_room (Nat.le_of_ble_eq_true rfl)) dX4_put_78 ⟨Nat.le_of_ble_eq_true rfl, Nat.le_of_ble_eq_true rfl⟩ (fun H locs hP hD hS => ?_)
          obtain ⟨s15, es15, hf⟩ := nm_ob hf
          have hP : va_P D vwCl (wRR ca B ar s15) H := by rw [← es15]; exact hP
          have hD : va_D A (wRR ca B ar s15) := by rw [← es15]; exact hD
          exact retx_i hx hb hr rfl hlocks hK (Nat.le_of_ble_eq_true rfl) (Nat.le_of_ble_eq_true rfl) (so1 hf).symm hP hD hS dX4_put_81
        · refine W.eq (g2 := F0 m 78 ls [.int a1, .int (se_slot (rr_se s7)), .ref (rr_ao s7)]) (by rw [c12]; rfl) ?_
          obtain ⟨v16, s17, ev16, hf⟩ := bd2_ob hf
          refine call_i (As := [.int (se_slot (rr_se s7)), .int a1]) (rest := []) ⟨hx, hb, hml, hown, hts⟩ (tX3_exchangeValue l D ca (rr_ao s7) (ar (rr_ao s7)) _ (rr_O s7) (se_slot (rr_se s7)) a1 v16 s17 ev16) (cwV 2 hts gX4_put_X3_exchangeValue rfl rfl rfl (by decide +kernel) ⟨Nat.le_of_ble_eq_true rfl, Nat.le_of_ble_eq_true rfl⟩) hN hK hP hD hA hS (fr_RO ca B ar s7 s17) rfl rfl rfl hl.1 rfl (lv_room (Nat.le_of_ble_eq_true rfl)) dX4_put_78 ⟨Nat.le_of_ble_eq_true rfl, Nat.le_of_ble_eq_true rfl⟩ (fun H locs hP hD hS => ?_)
          obtain ⟨s18, es18, hf⟩ := nm_ob hf
          have hP : va_P D vwCl (wRR ca B ar s18) H := by rw [← es18]; exact hP
          have hD : va_D A (wRR ca B ar s18) := by rw [← es18]; exact hD
          exact retx_i hx hb hr rfl hlocks hK (Nat.le_of_ble_eq_true rfl) (Nat.le_of_ble_eq_true rfl) (so1 hf).symm hP hD hS dX4_put_81
    · replace hf := it_n c3 hf
      refine lv_aload_n hx hb dX4_put_24 rfl (lv_at hl 0 rfl) ?_
      refine lv_iload_n hx hb dX4_put_25 rfl (lv_at hl 1 rfl) ?_
      obtain ⟨v19, s20, ev19, hf⟩ := bd2_ob hf
      refine call_i (As := [.int a0]) (rest := []) ⟨hx, hb, hml, hown, hts⟩ (tX4_get l D ca B ar _ σ a0 v19 s20 ev19) (cwV 1 hts gX4_put_X4_get rfl rfl rfl (by decide +kernel) ⟨Nat.le_of_ble_eq_true rfl, Nat.le_of_ble_eq_true rfl⟩) hN hK hP hD hA hS (fr_id _ _) rfl rfl rfl hl.1 rfl (lv_room (Nat.le_of_ble_eq_true rfl)) dX4_put_26 ⟨Nat.le_of_ble_eq_true rfl, Nat.le_of_ble_eq_true rfl⟩ (fun H locs hP hD hS => ?_)
      refine lv_iconst (v := (-1)) hx hb dX4_put_29 (by decide) ?_
      refine lv_icmp_ne (tgt := 43) hx hb dX4_put_30 (by decide) (fun c21 => ?_) (fun c21 => ?_)
      · replace hf := it_n c21 hf
        refine lv_aload_n hx hb dX4_put_43 rfl (lv_at hl 0 rfl) ?_
        obtain ⟨v22, s23, ev22, hf⟩ := bd2_ob hf
        refine call_i (As := []) (rest := []) ⟨hx, hb, hml, hown, hts⟩ (tX4_moveSlice l D ca B ar _ s20 v22 s23 ev22) (cwV 0 hts gX4_put_X4_moveSlice rfl rfl rfl (by decide +kernel) ⟨Nat.le_of_ble_eq_true rfl, Nat.le_of_ble_eq_true rfl⟩) hN hK hP hD hA hS (fr_id _ _) rfl rfl rfl hl.1 rfl (lv_room (Nat.le_of_ble_eq_true rfl)) dX4_put_44 ⟨Nat.le_of_ble_eq_true rfl, Nat.le_of_ble_eq_true rfl⟩ (fun H locs hP hD hS => ?_)
        refine lv_pop hx hb dX4_put_47 rfl ?_
        refine lv_aload_n hx hb dX4_put_48 rfl (lv_at hl 0 rfl) ?_
        refine lv_iload_n hx hb dX4_put_49 rfl (lv_at hl 1 rfl) ?_
        obtain ⟨s25, es25, hf⟩ := bd_ob hf
        refine call_v (As := [.int a0]) (rest := []) ⟨hx, hb, hml, hown, hts⟩ (tX4_lookUp l D ca B ar _ s23 a0 s25 es25) (cwV 1 hts gX4_put_X4_lookUp rfl rfl rfl (by decide +kernel) ⟨Nat.le_of_ble_eq_true rfl, Nat.le_of_ble_eq_true rfl⟩) hN hK hP hD hA hS (fr_id _ _) rfl rfl rfl hl.1 rfl (lv_room (Nat.le_of_ble_eq_true rfl)) dX4_put_50 ⟨Nat.le_of_ble_eq_true rfl, Nat.le_of_ble_eq_true rfl⟩ (fun H locs hP hD hS => ?_)
        refine lv_aload_n hx hb dX4_put_53 rfl (lv_at hl 0 rfl) ?_
        refine va_get (D := D) (ci := 4) (v := .ref (B 6)) (C := RX4) (T := TX4) (N := 7) hx hb hts in4 hown hK hP 0 rfl rfl 1 (by decide) f18 (fun _ h9 => h9) rfl dX4_put_54 ?_
        obtain ⟨v26, ev26, hf⟩ := bd_ob hf
        refine call_i (As := []) (rest := []) ⟨hx, hb, hml, hown, hts⟩ (tX1_hasFound l D ca (B 6) _ (rr_se s25) v26 ev26) (cwV 0 hts gX4_put_X1_hasFound rfl rfl rfl (by decide +kernel) ⟨Nat.le_of_ble_eq_true rfl, Nat.le_of_ble_eq_true rfl⟩) hN hK hP hD hA hS (fr_RSp ca B ar s25) rfl rfl rfl hl.1 rfl (lv_room (Nat.le_of_ble_eq_true rfl)) dX4_put_57 ⟨Nat.le_of_ble_eq_true rfl, Nat.le_of_ble_eq_true rfl⟩ (fun H locs hP hD hS => ?_)
        refine lv_if_eq (tgt := 82) hx hb dX4_put_60 (by decide) (fun c27 => ?_) (fun c27 => ?_)
        · replace hf := it_p c27 hf
          refine lv_aload_n hx hb dX4_put_82 rfl (lv_at hl 0 rfl) ?_
          refine lv_iload_n hx hb dX4_put_83 rfl (lv_at hl 1 rfl) ?_
          refine lv_iload_n hx hb dX4_put_84 rfl (lv_at hl 2 rfl) ?_
          obtain ⟨s29, es29, hf⟩ := bd_ob hf
          refine call_v (As := [.int a0, .int a1]) (rest := []) ⟨hx, hb, hml, hown, hts⟩ (tX4_putNew l D ca B ar _ s25 a0 a1 s29 es29) (cwV 2 hts gX4_put_X4_putNew rfl rfl rfl (by decide +kernel) ⟨Nat.le_of_ble_eq_true rfl, Nat.le_of_ble_eq_true rfl⟩) hN hK hP hD hA hS (fr_id _ _) rfl rfl rfl hl.1 rfl (lv_room (Nat.le_of_ble_eq_true rfl)) dX4_put_85 ⟨Nat.le_of_ble_eq_true rfl, Nat.le_of_ble_eq_true rfl⟩ (fun H locs hP hD hS => ?_)
          refine lv_iconst (v := (-1)) hx hb dX4_put_88 (by decide) ?_
          exact retx_i hx hb hr rfl hlocks hK (Nat.le_of_ble_eq_true rfl) (Nat.le_of_ble_eq_true rfl) (so1 hf).symm hP hD hS dX4_put_89
        · replace hf := it_n c27 hf
          refine lv_aload_n hx hb dX4_put_63 rfl (lv_at hl 0 rfl) ?_
          refine va_get (D := D) (ci := 4) (v := .ref (B 6)) (C := RX4) (T := TX4) (N := 7) hx hb hts in4 hown hK hP 0 rfl rfl 1 (by decide) f18 (fun _ h9 => h9) rfl dX4_put_64 ?_
          refine va_getN (D := D) (ci := 1) (v := va_rf (se_tb (rr_se s25))) (C := RX1) (T := TX1) (N := 4) hx hb hts in1 hown hK hP 6 rfl rfl 0 (by decide) f87 (fun _ h9 => h9) rfl dX4_put_67 ?_
          refine lv_aload_n hx hb dX4_put_70 rfl (lv_at hl 0 rfl) ?_
          refine va_get (D := D) (ci := 4) (v := .ref (B 6)) (C := RX4) (T := TX4) (N := 7) hx hb hts in4 hown hK hP 0 rfl rfl 1 (by decide) f18 (fun _ h9 => h9) rfl dX4_put_71 ?_
          refine va_getN (D := D) (ci := 1) (v := .int (se_slot (rr_se s25))) (C := RX1) (T := TX1) (N := 4) hx hb hts in1 hown hK hP 6 rfl rfl 1 (by decide) f90 (fun _ h9 => h9) rfl dX4_put_74 ?_
          refine lv_iload_n hx hb dX4_put_77 rfl (lv_at hl 2 rfl) ?_
          rcases dsp_ob hf with ⟨c30, hf⟩ | ⟨c30, hf⟩
          · refine W.eq (g2 := F0 m 78 ls [.int a1, .int (se_slot (rr_se s25)), .ref (rr_ap s25)]) (by rw [c30]; rfl) ?_
            obtain ⟨v31, s32, ev31, hf⟩ := bd2_ob hf
            refine call_i (As := [.int (se_slot (rr_se s25)), .int a1]) (rest := []) ⟨hx, hb, hml, hown, hts⟩ (tX3_exchangeValue l D ca (rr_ap s25) (ar (rr_ap s25)) _ (rr_P s25) (se_slot (rr_se s25)) a1 v31 s32 ev31) (cwV 2 hts gX4_put_X3_exchangeValue rfl rfl rfl (by decide +kernel) ⟨Nat.le_of_ble_eq_true rfl, Nat.le_of_ble_eq_true rfl⟩) hN hK hP hD hA hS (fr_RP ca B ar s25 s32) rfl rfl rfl hl.1 rfl (lv_room (Nat.le_of_ble_eq_true rfl)) dX4_put_78 ⟨Nat.le_of_ble_eq_true rfl, Nat.le_of_ble_eq_true rfl⟩ (fun H locs hP hD hS => ?_)
            obtain ⟨s33, es33, hf⟩ := nm_ob hf
            have hP : va_P D vwCl (wRR ca B ar s33) H := by rw [← es33]; exact hP
            have hD : va_D A (wRR ca B ar s33) := by rw [← es33]; exact hD
            exact retx_i hx hb hr rfl hlocks hK (Nat.le_of_ble_eq_true rfl) (Nat.le_of_ble_eq_true rfl) (so1 hf).symm hP hD hS dX4_put_81
          · refine W.eq (g2 := F0 m 78 ls [.int a1, .int (se_slot (rr_se s25)), .ref (rr_ao s25)]) (by rw [c30]; rfl) ?_
            obtain ⟨v34, s35, ev34, hf⟩ := bd2_ob hf
            refine call_i (As := [.int (se_slot (rr_se s25)), .int a1]) (rest := []) ⟨hx, hb, hml, hown, hts⟩ (tX3_exchangeValue l D ca (rr_ao s25) (ar (rr_ao s25)) _ (rr_O s25) (se_slot (rr_se s25)) a1 v34 s35 ev34) (cwV 2 hts gX4_put_X3_exchangeValue rfl rfl rfl (by decide +kernel) ⟨Nat.le_of_ble_eq_true rfl, Nat.le_of_ble_eq_true rfl⟩) hN hK hP hD hA hS (fr_RO ca B ar s25 s35) rfl rfl rfl hl.1 rfl (lv_room (Nat.le_of_ble_eq_true rfl)) dX4_put_78 ⟨Nat.le_of_ble_eq_true rfl, Nat.le_of_ble_eq_true rfl⟩ (fun H locs hP hD hS => ?_)
            obtain ⟨s36, es36, hf⟩ := nm_ob hf
            have hP : va_P D vwCl (wRR ca B ar s36) H := by rw [← es36]; exact hP
            have hD : va_D A (wRR ca B ar s36) := by rw [← es36]; exact hD
            exact retx_i hx hb hr rfl hlocks hK (Nat.le_of_ble_eq_true rfl) (Nat.le_of_ble_eq_true rfl) (so1 hf).symm hP hD hS dX4_put_81
      · replace hf := it_p c21 hf
        exact thr_S (w := wRR ca B ar) (Ts := wsX4_put) (cls := "java/lang/IllegalStateException") (text := "there are 200 keys") (names := ["java/lang/RuntimeException", "java/lang/Exception"]) hx hb hT hts hown hlocks hxt hN hX hK (hml.trans hl.1.symm) (by decide +kernel) (by decide +kernel) (by decide +kernel) (by decide +kernel) (by decide +kernel) (by decide +kernel) (by decide +kernel) (by decide +kernel) (by decide +kernel) hS hP hD (k := 2) rfl (so1 hf).symm dX4_put_33 dX4_put_36 dX4_put_37 dX4_put_39 dX4_put_42 (Nat.le_of_ble_eq_true rfl) (Nat.le_of_ble_eq_true rfl) (Nat.le_of_ble_eq_true rfl) (Nat.le_of_ble_eq_true rfl) (Nat.le_of_ble_eq_true rfl) (Nat.le_of_ble_eq_true rfl)
  · replace hf := it_n c1 hf
    exact thr_S (w := wRR ca B ar) (Ts := wsX4_put) (cls := "java/lang/IllegalArgumentException") (text := "a value is 0 or more") (names := ["java/lang/RuntimeException", "java/lang/Exception"]) hx hb hT hts hown hlocks hxt hN hX hK (hml.trans hl.1.symm) (by decide +kernel) (by decide +kernel) (by decide +kernel) (by decide +kernel) (by decide +kernel) (by decide +kernel) (by decide +kernel) (by decide +kernel) (by decide +kernel) hS hP hD (k := 1) rfl (so1 hf).symm dX4_put_4 dX4_put_7 dX4_put_8 dX4_put_10 dX4_put_13 (Nat.le_of_ble_eq_true rfl) (Nat.le_of_ble_eq_true rfl) (Nat.le_of_ble_eq_true rfl) (Nat.le_of_ble_eq_true rfl) (Nat.le_of_ble_eq_true rfl) (Nat.le_of_ble_eq_true rfl)

def rx_openSweep  (σ : RR)  : Option (Ex (Int32 × RR)) :=
  if (sw_open (rr_sws σ 0)) = 0 then
    bd (ww_begin (rr_sws σ 0)) fun s20 =>
    nm (rr_sws' σ (va_up (rr_sws σ) 0 s20)) fun s21 =>
    some (.inl (0, s21))
  else
    if (sw_open (rr_sws σ 1)) = 0 then
      bd (ww_begin (rr_sws σ 1)) fun s17 =>
      nm (rr_sws' σ (va_up (rr_sws σ) 1 s17)) fun s18 =>
      some (.inl (1, s18))
    else
      if (sw_open (rr_sws σ 2)) = 0 then
        bd (ww_begin (rr_sws σ 2)) fun s14 =>
        nm (rr_sws' σ (va_up (rr_sws σ) 2 s14)) fun s15 =>
        some (.inl (2, s15))
      else
        if (sw_open (rr_sws σ 3)) = 0 then
          bd (ww_begin (rr_sws σ 3)) fun s11 =>
          nm (rr_sws' σ (va_up (rr_sws σ) 3 s11)) fun s12 =>
          some (.inl (3, s12))
        else
          some (.inr (2, σ))
set_option maxHeartbeats 4000000 in
set_option maxRecDepth 100000 in
theorem tX4_openSweep (l : Launch) (hT : l.stackTraces = false) (D : va_G) (ca : Nat → ClassId) (B : Nat → Nat) (ar : Nat → Nat → Nat) (sz : Nat) (σ : RR)  (z : (Ex (Int32 × RR))) (hf : rx_openSweep σ = some z) : Cxi l D ca yX4_openSweep wsX4_openSweep { frames := 6, cells := 1, slots := 6, locals := 82 } [.ref (B 0)] (wRR ca B ar) σ sz z 1 6 := by
  refine bodyx_of (cc := cX4_openSweep) (maxL := 2) (ret := (some .int)) (fun A => Qxi D ca (wRR ca B ar) z A) (fun A => Xx D ca (wRR ca B ar) z A) (by decide) rfl (Nat.le_of_ble_eq_true rfl) ?_
  intro p e s m below meth c A ls hx hb hr hml hts hown hlocks hA hK hP hD hS hl hN hX hxt
  have hl : lv_has ls 2 [(0, .ref (B 0))] := hl
  generalize ([.ref (B 0)] : List Value).toArray = args at hts ⊢
  have f11 := hts (.fieldLink RX4 11 "RobinRow" "sweeps" "[LRobinRow$Sweep;") (by decide +kernel)
  have f113 : (Cond.fieldLinkNest RX4 113 "RobinRow$Sweep" "isOpen" "Z" RX4).before args s = true := va_Nw.use rfl (hN.1 (RX4, 113, "RobinRow$Sweep", "isOpen", "Z") (by decide +kernel))
  have in2 : ∀ w ∈ u_ws RX2 TX2 5, w ∈ wsX4_openSweep := by decide +kernel
  have in4 : ∀ w ∈ u_ws RX4 TX4 7, w ∈ wsX4_openSweep := by decide +kernel
  unfold rx_openSweep at hf
  refine lv_iconst (v := 0) hx hb dX4_openSweep_0 (by decide) ?_
  refine lv_istore_n (lv' := [(1, .int 0), (0, .ref (B 0))]) hx hb dX4_openSweep_1 rfl hl (by decide) rfl (fun ls hl => ?_)
  refine lv_iload_n hx hb dX4_openSweep_2 rfl (lv_at hl 0 rfl) ?_
  refine lv_iconst (v := 4) hx hb dX4_openSweep_3 (by decide) ?_
  refine lv_icmp_ge (tgt := 36) hx hb dX4_openSweep_4 (by decide) (fun c => absurd c (by decide)) (fun _ => ?_)
  refine lv_aload_n hx hb dX4_openSweep_7 rfl (lv_at hl 1 rfl) ?_
  refine va_get (D := D) (ci := 4) (v := .ref (B 1)) (C := RX4) (T := TX4) (N := 7) hx hb hts in4 hown hK hP 0 rfl rfl 0 (by decide) f11 (fun _ h9 => h9) rfl dX4_openSweep_8 ?_
  refine lv_iload_n hx hb dX4_openSweep_11 rfl (lv_at hl 0 rfl) ?_
  refine va_aldq hx hb hK hP 1 4 rfl rfl (show ¬ ((0 : Int32) < 0 ∨ 4 ≤ (0 : Int32).toNatClampNeg) by decide) dX4_openSweep_12 ?_
  refine W.eq (g2 := F0 m 13 ls [.ref (B (2 + 0))]) rfl ?_
  refine va_getN (D := D) (ci := 2) (v := .int (sw_open (rr_sws σ 0))) (C := RX2) (T := TX2) (N := 5) hx hb hts in2 hown hK hP (2 + 0) (sw_at (show 0 < 4 by decide)) rfl 0 (by decide) f113 (fun _ h9 => h9) rfl dX4_openSweep_13 ?_
  refine lv_if_ne (tgt := 30) hx hb dX4_openSweep_16 (by decide) (fun c2 => ?_) (fun c2 => ?_)
  · replace hf := it_n c2 hf
    refine lv_iinc (v := 1) (lv' := [(1, .int 1), (0, .ref (B 0))]) hx hb dX4_openSweep_30 hl (k := 0) rfl (by decide) (by decide) rfl (fun ls hl => ?_)
    refine lv_goto (tgt := 2) hx hb dX4_openSweep_33 (by decide) ?_
    refine lv_iload_n hx hb dX4_openSweep_2 rfl (lv_at hl 0 rfl) ?_
    refine lv_iconst (v := 4) hx hb dX4_openSweep_3 (by decide) ?_
    refine lv_icmp_ge (tgt := 36) hx hb dX4_openSweep_4 (by decide) (fun c => absurd c (by decide)) (fun _ => ?_)
    refine lv_aload_n hx hb dX4_openSweep_7 rfl (lv_at hl 1 rfl) ?_
    refine va_get (D := D) (ci := 4) (v := .ref (B 1)) (C := RX4) (T := TX4) (N := 7) hx hb hts in4 hown hK hP 0 rfl rfl 0 (by decide) f11 (fun _ h9 => h9) rfl dX4_openSweep_8 ?_
    refine lv_iload_n hx hb dX4_openSweep_11 rfl (lv_at hl 0 rfl) ?_
    refine va_aldq hx hb hK hP 1 4 rfl rfl (show ¬ ((1 : Int32) < 0 ∨ 4 ≤ (1 : Int32).toNatClampNeg) by decide) dX4_openSweep_12 ?_
    refine W.eq (g2 := F0 m 13 ls [.ref (B (2 + 1))]) rfl ?_
    refine va_getN (D := D) (ci := 2) (v := .int (sw_open (rr_sws σ 1))) (C := RX2) (T := TX2) (N := 5) hx hb hts in2 hown hK hP (2 + 1) (sw_at (show 1 < 4 by decide)) rfl 0 (by decide) f113 (fun _ h9 => h9) rfl dX4_openSweep_13 ?_
    refine lv_if_ne (tgt := 30) hx hb dX4_openSweep_16 (by decide) (fun c4 => ?_) (fun c4 => ?_)
    · replace hf := it_n c4 hf
      refine lv_iinc (v := 2) (lv' := [(1, .int 2), (0, .ref (B 0))]) hx hb dX4_openSweep_30 hl (k := 0) rfl (by decide) (by decide) rfl (fun ls hl => ?_)
      refine lv_goto (tgt := 2) hx hb dX4_openSweep_33 (by decide) ?_
      refine lv_iload_n hx hb dX4_openSweep_2 rfl (lv_at hl 0 rfl) ?_
      refine lv_iconst (v := 4) hx hb dX4_openSweep_3 (by decide) ?_
      refine lv_icmp_ge (tgt := 36) hx hb dX4_openSweep_4 (by decide) (fun c => absurd c (by decide)) (fun _ => ?_)
      refine lv_aload_n hx hb dX4_openSweep_7 rfl (lv_at hl 1 rfl) ?_
      refine va_get (D := D) (ci := 4) (v := .ref (B 1)) (C := RX4) (T := TX4) (N := 7) hx hb hts in4 hown hK hP 0 rfl rfl 0 (by decide) f11 (fun _ h9 => h9) rfl dX4_openSweep_8 ?_
      refine lv_iload_n hx hb dX4_openSweep_11 rfl (lv_at hl 0 rfl) ?_
      refine va_aldq hx hb hK hP 1 4 rfl rfl (show ¬ ((2 : Int32) < 0 ∨ 4 ≤ (2 : Int32).toNatClampNeg) by decide) dX4_openSweep_12 ?_
      refine W.eq (g2 := F0 m 13 ls [.ref (B (2 + 2))]) rfl ?_
      refine va_getN (D := D) (ci := 2) (v := .int (sw_open (rr_sws σ 2))) (C := RX2) (T := TX2) (N := 5) hx hb hts in2 hown hK hP (2 + 2) (sw_at (show 2 < 4 by decide)) rfl 0 (by decide) f113 (fun _ h9 => h9) rfl dX4_openSweep_13 ?_
      refine lv_if_ne (tgt := 30) hx hb dX4_openSweep_16 (by decide) (fun c6 => ?_) (fun c6 => ?_)
      · replace hf := it_n c6 hf
        refine lv_iinc (v := 3) (lv' := [(1, .int 3), (0, .ref (B 0))]) hx hb dX4_openSweep_30 hl (k := 0) rfl (by decide) (by decide) rfl (fun ls hl => ?_)
        refine lv_goto (tgt := 2) hx hb dX4_openSweep_33 (by decide) ?_
        refine lv_iload_n hx hb dX4_openSweep_2 rfl (lv_at hl 0 rfl) ?_
        refine lv_iconst (v := 4) hx hb dX4_openSweep_3 (by decide) ?_
        refine lv_icmp_ge (tgt := 36) hx hb dX4_openSweep_4 (by decide) (fun c => absurd c (by decide)) (fun _ => ?_)
        refine lv_aload_n hx hb dX4_openSweep_7 rfl (lv_at hl 1 rfl) ?_
        refine va_get (D := D) (ci := 4) (v := .ref (B 1)) (C := RX4) (T := TX4) (N := 7) hx hb hts in4 hown hK hP 0 rfl rfl 0 (by decide) f11 (fun _ h9 => h9) rfl dX4_openSweep_8 ?_
        refine lv_iload_n hx hb dX4_openSweep_11 rfl (lv_at hl 0 rfl) ?_
        refine va_aldq hx hb hK hP 1 4 rfl rfl (show ¬ ((3 : Int32) < 0 ∨ 4 ≤ (3 : Int32).toNatClampNeg) by decide) dX4_openSweep_12 ?_
        refine W.eq (g2 := F0 m 13 ls [.ref (B (2 + 3))]) rfl ?_
        refine va_getN (D := D) (ci := 2) (v := .int (sw_open (rr_sws σ 3))) (C := RX2) (T := TX2) (N := 5) hx hb hts in2 hown hK hP (2 + 3) (sw_at (show 3 < 4 by decide)) rfl 0 (by decide) f113 (fun _ h9 => h9) rfl dX4_openSweep_13 ?_
        refine lv_if_ne (tgt := 30) hx hb dX4_openSweep_16 (by decide) (fun c8 => ?_) (fun c8 => ?_)
        · replace hf := it_n c8 hf
          refine lv_iinc (v := 4) (lv' := [(1, .int 4), (0, .ref (B 0))]) hx hb dX4_openSweep_30 hl (k := 0) rfl (by decide) (by decide) rfl (fun ls hl => ?_)
          refine lv_goto (tgt := 2) hx hb dX4_openSweep_33 (by decide) ?_
          refine lv_iload_n hx hb dX4_openSweep_2 rfl (lv_at hl 0 rfl) ?_
          refine lv_iconst (v := 4) hx hb dX4_openSweep_3 (by decide) ?_
          refine lv_icmp_ge (tgt := 36) hx hb dX4_openSweep_4 (by decide) (fun _ => ?_) (fun c => absurd c (by decide))
          exact thr_S (w := wRR ca B ar) (Ts := wsX4_openSweep) (cls := "java/lang/IllegalStateException") (text := "4 sweeps are open") (names := ["java/lang/RuntimeException", "java/lang/Exception"]) hx hb hT hts hown hlocks hxt hN hX hK (hml.trans hl.1.symm) (by decide +kernel) (by decide +kernel) (by decide +kernel) (by decide +kernel) (by decide +kernel) (by decide +kernel) (by decide +kernel) (by decide +kernel) (by decide +kernel) hS hP hD (k := 2) rfl (so1 hf).symm dX4_openSweep_36 dX4_openSweep_39 dX4_openSweep_40 dX4_openSweep_42 dX4_openSweep_45 (Nat.le_of_ble_eq_true rfl) (Nat.le_of_ble_eq_true rfl) (Nat.le_of_ble_eq_true rfl) (Nat.le_of_ble_eq_true rfl) (Nat.le_of_ble_eq_true rfl) (Nat.le_of_ble_eq_true rfl)
        · replace hf := it_p c8 hf
          refine lv_aload_n hx hb dX4_openSweep_19 rfl (lv_at hl 1 rfl) ?_
          refine va_get (D := D) (ci := 4) (v := .ref (B 1)) (C := RX4) (T := TX4) (N := 7) hx hb hts in4 hown hK hP 0 rfl rfl 0 (by decide) f11 (fun _ h9 => h9) rfl dX4_openSweep_20 ?_
          refine lv_iload_n hx hb dX4_openSweep_23 rfl (lv_at hl 0 rfl) ?_
          refine va_aldq hx hb hK hP 1 4 rfl rfl (show ¬ ((3 : Int32) < 0 ∨ 4 ≤ (3 : Int32).toNatClampNeg) by decide) dX4_openSweep_24 ?_
          refine W.eq (g2 := F0 m 25 ls [.ref (B (2 + 3))]) rfl ?_
          obtain ⟨s11, es11, hf⟩ := bd_ob hf
          refine call_v (As := []) (rest := []) ⟨hx, hb, hml, hown, hts⟩ (tX2_begin l D ca (B (2 + 3)) _ (rr_sws σ 3) s11 es11) (cwV 0 hts gX4_openSweep_X2_begin rfl rfl rfl (by decide +kernel) ⟨Nat.le_of_ble_eq_true rfl, Nat.le_of_ble_eq_true rfl⟩) hN hK hP hD hA hS (fr_RW ca B ar σ s11 (show 3 < 4 by decide)) rfl rfl rfl hl.1 rfl (lv_room (Nat.le_of_ble_eq_true rfl)) dX4_openSweep_25 ⟨Nat.le_of_ble_eq_true rfl, Nat.le_of_ble_eq_true rfl⟩ (fun H locs hP hD hS => ?_)
          obtain ⟨s12, es12, hf⟩ := nm_ob hf
          have hP : va_P D vwCl (wRR ca B ar s12) H := by rw [← es12]; exact hP
          have hD : va_D A (wRR ca B ar s12) := by rw [← es12]; exact hD
          refine lv_iload_n hx hb dX4_openSweep_28 rfl (lv_at hl 0 rfl) ?_
          exact retx_i hx hb hr rfl hlocks hK (Nat.le_of_ble_eq_true rfl) (Nat.le_of_ble_eq_true rfl) (so1 hf).symm hP hD hS dX4_openSweep_29
      · replace hf := it_p c6 hf
        refine lv_aload_n hx hb dX4_openSweep_19 rfl (lv_at hl 1 rfl) ?_
        refine va_get (D := D) (ci := 4) (v := .ref (B 1)) (C := RX4) (T := TX4) (N := 7) hx hb hts in4 hown hK hP 0 rfl rfl 0 (by decide) f11 (fun _ h9 => h9) rfl dX4_openSweep_20 ?_
        refine lv_iload_n hx hb dX4_openSweep_23 rfl (lv_at hl 0 rfl) ?_
        refine va_aldq hx hb hK hP 1 4 rfl rfl (show ¬ ((2 : Int32) < 0 ∨ 4 ≤ (2 : Int32).toNatClampNeg) by decide) dX4_openSweep_24 ?_
        refine W.eq (g2 := F0 m 25 ls [.ref (B (2 + 2))]) rfl ?_
        obtain ⟨s14, es14, hf⟩ := bd_ob hf
        refine call_v (As := []) (rest := []) ⟨hx, hb, hml, hown, hts⟩ (tX2_begin l D ca (B (2 + 2)) _ (rr_sws σ 2) s14 es14) (cwV 0 hts gX4_openSweep_X2_begin rfl rfl rfl (by decide +kernel) ⟨Nat.le_of_ble_eq_true rfl, Nat.le_of_ble_eq_true rfl⟩) hN hK hP hD hA hS (fr_RW ca B ar σ s14 (show 2 < 4 by decide)) rfl rfl rfl hl.1 rfl (lv_room (Nat.le_of_ble_eq_true rfl)) dX4_openSweep_25 ⟨Nat.le_of_ble_eq_true rfl, Nat.le_of_ble_eq_true rfl⟩ (fun H locs hP hD hS => ?_)
        obtain ⟨s15, es15, hf⟩ := nm_ob hf
        have hP : va_P D vwCl (wRR ca B ar s15) H := by rw [← es15]; exact hP
        have hD : va_D A (wRR ca B ar s15) := by rw [← es15]; exact hD
        refine lv_iload_n hx hb dX4_openSweep_28 rfl (lv_at hl 0 rfl) ?_
        exact retx_i hx hb hr rfl hlocks hK (Nat.le_of_ble_eq_true rfl) (Nat.le_of_ble_eq_true rfl) (so1 hf).symm hP hD hS dX4_openSweep_29
    · replace hf := it_p c4 hf
      refine lv_aload_n hx hb dX4_openSweep_19 rfl (lv_at hl 1 rfl) ?_
      refine va_get (D := D) (ci := 4) (v := .ref (B 1)) (C := RX4) (T := TX4) (N := 7) hx hb hts in4 hown hK hP 0 rfl rfl 0 (by decide) f11 (fun _ h9 => h9) rfl dX4_openSweep_20 ?_
      refine lv_iload_n hx hb dX4_openSweep_23 rfl (lv_at hl 0 rfl) ?_
      refine va_aldq hx hb hK hP 1 4 rfl rfl (show ¬ ((1 : Int32) < 0 ∨ 4 ≤ (1 : Int32).toNatClampNeg) by decide) dX4_openSweep_24 ?_
      refine W.eq (g2 := F0 m 25 ls [.ref (B (2 + 1))]) rfl ?_
      obtain ⟨s17, es17, hf⟩ := bd_ob hf
      refine call_v (As := []) (rest := []) ⟨hx, hb, hml, hown, hts⟩ (tX2_begin l D ca (B (2 + 1)) _ (rr_sws σ 1) s17 es17) (cwV 0 hts gX4_openSweep_X2_begin rfl rfl rfl (by decide +kernel) ⟨Nat.le_of_ble_eq_true rfl, Nat.le_of_ble_eq_true rfl⟩) hN hK hP hD hA hS (fr_RW ca B ar σ s17 (show 1 < 4 by decide)) rfl rfl rfl hl.1 rfl (lv_room (Nat.le_of_ble_eq_true rfl)) dX4_openSweep_25 ⟨Nat.le_of_ble_eq_true rfl, Nat.le_of_ble_eq_true rfl⟩ (fun H locs hP hD hS => ?_)
      obtain ⟨s18, es18, hf⟩ := nm_ob hf
      have hP : va_P D vwCl (wRR ca B ar s18) H := by rw [← es18]; exact hP
      have hD : va_D A (wRR ca B ar s18) := by rw [← es18]; exact hD
      refine lv_iload_n hx hb dX4_openSweep_28 rfl (lv_at hl 0 rfl) ?_
      exact retx_i hx hb hr rfl hlocks hK (Nat.le_of_ble_eq_true rfl) (Nat.le_of_ble_eq_true rfl) (so1 hf).symm hP hD hS dX4_openSweep_29
  · replace hf := it_p c2 hf
    refine lv_aload_n hx hb dX4_openSweep_19 rfl (lv_at hl 1 rfl) ?_
    refine va_get (D := D) (ci := 4) (v := .ref (B 1)) (C := RX4) (T := TX4) (N := 7) hx hb hts in4 hown hK hP 0 rfl rfl 0 (by decide) f11 (fun _ h9 => h9) rfl dX4_openSweep_20 ?_
    refine lv_iload_n hx hb dX4_openSweep_23 rfl (lv_at hl 0 rfl) ?_
    refine va_aldq hx hb hK hP 1 4 rfl rfl (show ¬ ((0 : Int32) < 0 ∨ 4 ≤ (0 : Int32).toNatClampNeg) by decide) dX4_openSweep_24 ?_
    refine W.eq (g2 := F0 m 25 ls [.ref (B (2 + 0))]) rfl ?_
    obtain ⟨s20, es20, hf⟩ := bd_ob hf
    refine call_v (As := []) (rest := []) ⟨hx, hb, hml, hown, hts⟩ (tX2_begin l D ca (B (2 + 0)) _ (rr_sws σ 0) s20 es20) (cwV 0 hts gX4_openSweep_X2_begin rfl rfl rfl (by decide +kernel) ⟨Nat.le_of_ble_eq_true rfl, Nat.le_of_ble_eq_true rfl⟩) hN hK hP hD hA hS (fr_RW ca B ar σ s20 (show 0 < 4 by decide)) rfl rfl rfl hl.1 rfl (lv_room (Nat.le_of_ble_eq_true rfl)) dX4_openSweep_25 ⟨Nat.le_of_ble_eq_true rfl, Nat.le_of_ble_eq_true rfl⟩ (fun H locs hP hD hS => ?_)
    obtain ⟨s21, es21, hf⟩ := nm_ob hf
    have hP : va_P D vwCl (wRR ca B ar s21) H := by rw [← es21]; exact hP
    have hD : va_D A (wRR ca B ar s21) := by rw [← es21]; exact hD
    refine lv_iload_n hx hb dX4_openSweep_28 rfl (lv_at hl 0 rfl) ?_
    exact retx_i hx hb hr rfl hlocks hK (Nat.le_of_ble_eq_true rfl) (Nat.le_of_ble_eq_true rfl) (so1 hf).symm hP hD hS dX4_openSweep_29

def rx_hasNext  (σ : RR) (a0 : Int32) : Option (Ex (Int32 × RR)) :=
  xb (rx_sweepOf σ a0) fun k1 s2 =>
  gk k1 4 <|
  bd (rr_seekBehind s2 (sw_rank (rr_sws s2 k1))) fun s7 =>
  bd (ss_hasFound (rr_se s7)) fun v8 =>
  gn .boolean v8 <|
  some (.inl (v8, s7))
set_option maxHeartbeats 4000000 in
set_option maxRecDepth 100000 in
theorem tX4_hasNext (l : Launch) (hT : l.stackTraces = false) (D : va_G) (ca : Nat → ClassId) (B : Nat → Nat) (ar : Nat → Nat → Nat) (sz : Nat) (σ : RR) (a0 : Int32) (z : (Ex (Int32 × RR))) (hf : rx_hasNext σ a0 = some z) : Cxi l D ca yX4_hasNext wsX4_hasNext { frames := 7, cells := 1, slots := 6, locals := 107 } [.ref (B 0), .int a0] (wRR ca B ar) σ sz z 1 6 := by
  refine bodyx_of (cc := cX4_hasNext) (maxL := 2) (ret := (some .boolean)) (fun A => Qxi D ca (wRR ca B ar) z A) (fun A => Xx D ca (wRR ca B ar) z A) (by decide) rfl (Nat.le_of_ble_eq_true rfl) ?_
  intro p e s m below meth c A ls hx hb hr hml hts hown hlocks hA hK hP hD hS hl hN hX hxt
  have hl : lv_has ls 2 [(0, .ref (B 0)), (1, .int a0)] := hl
  generalize ([.ref (B 0), .int a0] : List Value).toArray = args at hts ⊢
  have f126 : (Cond.fieldLinkNest RX4 126 "RobinRow$Sweep" "rank" "J" RX4).before args s = true := va_Nw.use rfl (hN.1 (RX4, 126, "RobinRow$Sweep", "rank", "J") (by decide +kernel))
  have f18 := hts (.fieldLink RX4 18 "RobinRow" "search" "LRobinRow$Search;") (by decide +kernel)
  have in2 : ∀ w ∈ u_ws RX2 TX2 5, w ∈ wsX4_hasNext := by decide +kernel
  have in4 : ∀ w ∈ u_ws RX4 TX4 7, w ∈ wsX4_hasNext := by decide +kernel
  unfold rx_hasNext at hf
  refine lv_aload_n hx hb dX4_hasNext_0 rfl (lv_at hl 0 rfl) ?_
  refine lv_aload_n hx hb dX4_hasNext_1 rfl (lv_at hl 0 rfl) ?_
  refine lv_iload_n hx hb dX4_hasNext_2 rfl (lv_at hl 1 rfl) ?_
  obtain ⟨z3, ez3, hlz3, hrz3⟩ := xb_ob hf
  refine callx_r (w := wRR ca B ar) (As := [.int a0]) (rest := [.ref (B 0)]) ⟨hx, hb, hml, hown, hts⟩ (tX4_sweepOf l hT D ca B ar _ σ a0 z3 ez3) (cwV 1 hts gX4_hasNext_X4_sweepOf rfl rfl rfl (by decide +kernel) ⟨Nat.le_of_ble_eq_true rfl, Nat.le_of_ble_eq_true rfl⟩) hN hX hK hP hD hA hS rfl rfl rfl hl.1 rfl (lv_room (Nat.le_of_ble_eq_true rfl)) dX4_hasNext_3 ⟨Nat.le_of_ble_eq_true rfl, Nat.le_of_ble_eq_true rfl⟩ (fun k8 u4 ce8 q8 H locs hz8 hP hD hS h81 h82 h83 => out_x hxt hlocks hK (hrz3 _ hz8) hP hD hS h81 h82 h83 (Nat.le_of_ble_eq_true rfl) (Nat.le_of_ble_eq_true rfl)) (fun k1 s2 H locs hz8 hP hD hS => ?_)
  replace hf := hlz3 _ _ hz8
  obtain ⟨h5, hf⟩ := gk_ob hf
  refine W.eq (g2 := F0 m 6 ls [.ref (B (2 + k1)), .ref (B 0)]) rfl ?_
  refine va_getN (D := D) (ci := 2) (v := .long (sw_rank (rr_sws s2 k1))) (C := RX2) (T := TX2) (N := 5) hx hb hts in2 hown hK hP (2 + k1) (sw_at h5) rfl 4 (by decide) f126 (fun _ h9 => h9) rfl dX4_hasNext_6 ?_
  obtain ⟨s7, es7, hf⟩ := bd_ob hf
  refine call_v (As := [.long (sw_rank (rr_sws s2 k1))]) (rest := []) ⟨hx, hb, hml, hown, hts⟩ (tX4_seekBehind l D ca B ar _ s2 (sw_rank (rr_sws s2 k1)) s7 es7) (cwV 1 hts gX4_hasNext_X4_seekBehind rfl rfl rfl (by decide +kernel) ⟨Nat.le_of_ble_eq_true rfl, Nat.le_of_ble_eq_true rfl⟩) hN hK hP hD hA hS (fr_id _ _) rfl rfl rfl hl.1 rfl (lv_room (Nat.le_of_ble_eq_true rfl)) dX4_hasNext_9 ⟨Nat.le_of_ble_eq_true rfl, Nat.le_of_ble_eq_true rfl⟩ (fun H locs hP hD hS => ?_)
  refine lv_aload_n hx hb dX4_hasNext_12 rfl (lv_at hl 0 rfl) ?_
  refine va_get (D := D) (ci := 4) (v := .ref (B 6)) (C := RX4) (T := TX4) (N := 7) hx hb hts in4 hown hK hP 0 rfl rfl 1 (by decide) f18 (fun _ h9 => h9) rfl dX4_hasNext_13 ?_
  obtain ⟨v8, ev8, hf⟩ := bd_ob hf
  refine call_i (As := []) (rest := []) ⟨hx, hb, hml, hown, hts⟩ (tX1_hasFound l D ca (B 6) _ (rr_se s7) v8 ev8) (cwV 0 hts gX4_hasNext_X1_hasFound rfl rfl rfl (by decide +kernel) ⟨Nat.le_of_ble_eq_true rfl, Nat.le_of_ble_eq_true rfl⟩) hN hK hP hD hA hS (fr_RSp ca B ar s7) rfl rfl rfl hl.1 rfl (lv_room (Nat.le_of_ble_eq_true rfl)) dX4_hasNext_16 ⟨Nat.le_of_ble_eq_true rfl, Nat.le_of_ble_eq_true rfl⟩ (fun H locs hP hD hS => ?_)
  obtain ⟨g9, hf⟩ := gn_ob hf
  exact retx_i hx hb hr (nr_z g9) hlocks hK (Nat.le_of_ble_eq_true rfl) (Nat.le_of_ble_eq_true rfl) (so1 hf).symm hP hD hS dX4_hasNext_19

def rx_next  (σ : RR) (a0 : Int32) : Option (Ex (Int32 × RR)) :=
  xb (rx_sweepOf σ a0) fun k1 s2 =>
  gk k1 4 <|
  bd (rr_seekBehind s2 (sw_rank (rr_sws s2 k1))) fun s7 =>
  bd (ss_hasFound (rr_se s7)) fun v8 =>
  if v8 = 0 then
    some (.inr (2, s7))
  else
    dsp (se_tb (rr_se s7)) (rr_ap s7) (rr_ao s7) (
      bd (tt_keyIn (rr_P s7) (se_slot (rr_se s7))) fun v11 =>
      dsp (se_tb (rr_se s7)) (rr_ap s7) (rr_ao s7) (
        bd (tt_rankIn (rr_P s7) (se_slot (rr_se s7))) fun v13 =>
        bd (ww_meet (rr_sws s7 k1) v11 v13) fun s15 =>
        nm (rr_sws' s7 (va_up (rr_sws s7) k1 s15)) fun s16 =>
        some (.inl (v11, s16))) (
        bd (tt_rankIn (rr_O s7) (se_slot (rr_se s7))) fun v17 =>
        bd (ww_meet (rr_sws s7 k1) v11 v17) fun s19 =>
        nm (rr_sws' s7 (va_up (rr_sws s7) k1 s19)) fun s20 =>
        some (.inl (v11, s20)))) (
      bd (tt_keyIn (rr_O s7) (se_slot (rr_se s7))) fun v21 =>
      dsp (se_tb (rr_se s7)) (rr_ap s7) (rr_ao s7) (
        bd (tt_rankIn (rr_P s7) (se_slot (rr_se s7))) fun v23 =>
        bd (ww_meet (rr_sws s7 k1) v21 v23) fun s25 =>
        nm (rr_sws' s7 (va_up (rr_sws s7) k1 s25)) fun s26 =>
        some (.inl (v21, s26))) (
        bd (tt_rankIn (rr_O s7) (se_slot (rr_se s7))) fun v27 =>
        bd (ww_meet (rr_sws s7 k1) v21 v27) fun s29 =>
        nm (rr_sws' s7 (va_up (rr_sws s7) k1 s29)) fun s30 =>
        some (.inl (v21, s30))))
set_option maxHeartbeats 4000000 in
set_option maxRecDepth 100000 in
theorem tX4_next (l : Launch) (hT : l.stackTraces = false) (D : va_G) (ca : Nat → ClassId) (B : Nat → Nat) (ar : Nat → Nat → Nat) (sz : Nat) (σ : RR) (a0 : Int32) (z : (Ex (Int32 × RR))) (hf : rx_next σ a0 = some z) : Cxi l D ca yX4_next wsX4_next { frames := 7, cells := 2, slots := 12, locals := 107 } [.ref (B 0), .int a0] (wRR ca B ar) σ sz z 2 12 := by
  refine bodyx_of (cc := cX4_next) (maxL := 4) (ret := (some .int)) (fun A => Qxi D ca (wRR ca B ar) z A) (fun A => Xx D ca (wRR ca B ar) z A) (by decide) rfl (Nat.le_of_ble_eq_true rfl) ?_
  intro p e s m below meth c A ls hx hb hr hml hts hown hlocks hA hK hP hD hS hl hN hX hxt
  have hl : lv_has ls 4 [(0, .ref (B 0)), (1, .int a0)] := hl
  generalize ([.ref (B 0), .int a0] : List Value).toArray = args at hts ⊢
  have f126 : (Cond.fieldLinkNest RX4 126 "RobinRow$Sweep" "rank" "J" RX4).before args s = true := va_Nw.use rfl (hN.1 (RX4, 126, "RobinRow$Sweep", "rank", "J") (by decide +kernel))
  have f18 := hts (.fieldLink RX4 18 "RobinRow" "search" "LRobinRow$Search;") (by decide +kernel)
  have f87 : (Cond.fieldLinkNest RX4 87 "RobinRow$Search" "table" "LRobinRow$Table;" RX4).before args s = true := va_Nw.use rfl (hN.1 (RX4, 87, "RobinRow$Search", "table", "LRobinRow$Table;") (by decide +kernel))
  have f90 : (Cond.fieldLinkNest RX4 90 "RobinRow$Search" "slot" "I" RX4).before args s = true := va_Nw.use rfl (hN.1 (RX4, 90, "RobinRow$Search", "slot", "I") (by decide +kernel))
  have in1 : ∀ w ∈ u_ws RX1 TX1 4, w ∈ wsX4_next := by decide +kernel
  have in2 : ∀ w ∈ u_ws RX2 TX2 5, w ∈ wsX4_next := by decide +kernel
  have in4 : ∀ w ∈ u_ws RX4 TX4 7, w ∈ wsX4_next := by decide +kernel
  unfold rx_next at hf
  refine lv_aload_n hx hb dX4_next_0 rfl (lv_at hl 0 rfl) ?_
  refine lv_iload_n hx hb dX4_next_1 rfl (lv_at hl 1 rfl) ?_
  obtain ⟨z3, ez3, hlz3, hrz3⟩ := xb_ob hf
  refine callx_r (w := wRR ca B ar) (As := [.int a0]) (rest := []) ⟨hx, hb, hml, hown, hts⟩ (tX4_sweepOf l hT D ca B ar _ σ a0 z3 ez3) (cwV 1 hts gX4_next_X4_sweepOf rfl rfl rfl (by decide +kernel) ⟨Nat.le_of_ble_eq_true rfl, Nat.le_of_ble_eq_true rfl⟩) hN hX hK hP hD hA hS rfl rfl rfl hl.1 rfl (lv_room (Nat.le_of_ble_eq_true rfl)) dX4_next_2 ⟨Nat.le_of_ble_eq_true rfl, Nat.le_of_ble_eq_true rfl⟩ (fun k8 u4 ce8 q8 H locs hz8 hP hD hS h81 h82 h83 => out_x hxt hlocks hK (hrz3 _ hz8) hP hD hS h81 h82 h83 (Nat.le_of_ble_eq_true rfl) (Nat.le_of_ble_eq_true rfl)) (fun k1 s2 H locs hz8 hP hD hS => ?_)
  replace hf := hlz3 _ _ hz8
  obtain ⟨h5, hf⟩ := gk_ob hf
  refine W.eq (g2 := F0 m 5 ls [.ref (B (2 + k1))]) rfl ?_
  refine lv_astore_n (lv' := [(2, .ref (B (2 + k1))), (0, .ref (B 0)), (1, .int a0)]) hx hb dX4_next_5 rfl hl (by decide) rfl (fun ls hl => ?_)
  refine lv_aload_n hx hb dX4_next_6 rfl (lv_at hl 1 rfl) ?_
  refine lv_aload_n hx hb dX4_next_7 rfl (lv_at hl 0 rfl) ?_
  refine va_getN (D := D) (ci := 2) (v := .long (sw_rank (rr_sws s2 k1))) (C := RX2) (T := TX2) (N := 5) hx hb hts in2 hown hK hP (2 + k1) (sw_at h5) rfl 4 (by decide) f126 (fun _ h9 => h9) rfl dX4_next_8 ?_
  obtain ⟨s7, es7, hf⟩ := bd_ob hf
  refine call_v (As := [.long (sw_rank (rr_sws s2 k1))]) (rest := []) ⟨hx, hb, hml, hown, hts⟩ (tX4_seekBehind l D ca B ar _ s2 (sw_rank (rr_sws s2 k1)) s7 es7) (cwV 1 hts gX4_next_X4_seekBehind rfl rfl rfl (by decide +kernel) ⟨Nat.le_of_ble_eq_true rfl, Nat.le_of_ble_eq_true rfl⟩) hN hK hP hD hA hS (fr_id _ _) rfl rfl rfl hl.1 rfl (lv_room (Nat.le_of_ble_eq_true rfl)) dX4_next_11 ⟨Nat.le_of_ble_eq_true rfl, Nat.le_of_ble_eq_true rfl⟩ (fun H locs hP hD hS => ?_)
  refine lv_aload_n hx hb dX4_next_14 rfl (lv_at hl 1 rfl) ?_
  refine va_get (D := D) (ci := 4) (v := .ref (B 6)) (C := RX4) (T := TX4) (N := 7) hx hb hts in4 hown hK hP 0 rfl rfl 1 (by decide) f18 (fun _ h9 => h9) rfl dX4_next_15 ?_
  obtain ⟨v8, ev8, hf⟩ := bd_ob hf
  refine call_i (As := []) (rest := []) ⟨hx, hb, hml, hown, hts⟩ (tX1_hasFound l D ca (B 6) _ (rr_se s7) v8 ev8) (cwV 0 hts gX4_next_X1_hasFound rfl rfl rfl (by decide +kernel) ⟨Nat.le_of_ble_eq_true rfl, Nat.le_of_ble_eq_true rfl⟩) hN hK hP hD hA hS (fr_RSp ca B ar s7) rfl rfl rfl hl.1 rfl (lv_room (Nat.le_of_ble_eq_true rfl)) dX4_next_18 ⟨Nat.le_of_ble_eq_true rfl, Nat.le_of_ble_eq_true rfl⟩ (fun H locs hP hD hS => ?_)
  refine lv_if_ne (tgt := 34) hx hb dX4_next_21 (by decide) (fun c9 => ?_) (fun c9 => ?_)
  · replace hf := it_n c9 hf
    refine lv_aload_n hx hb dX4_next_34 rfl (lv_at hl 1 rfl) ?_
    refine va_get (D := D) (ci := 4) (v := .ref (B 6)) (C := RX4) (T := TX4) (N := 7) hx hb hts in4 hown hK hP 0 rfl rfl 1 (by decide) f18 (fun _ h9 => h9) rfl dX4_next_35 ?_
    refine va_getN (D := D) (ci := 1) (v := va_rf (se_tb (rr_se s7))) (C := RX1) (T := TX1) (N := 4) hx hb hts in1 hown hK hP 6 rfl rfl 0 (by decide) f87 (fun _ h9 => h9) rfl dX4_next_38 ?_
    refine lv_aload_n hx hb dX4_next_41 rfl (lv_at hl 1 rfl) ?_
    refine va_get (D := D) (ci := 4) (v := .ref (B 6)) (C := RX4) (T := TX4) (N := 7) hx hb hts in4 hown hK hP 0 rfl rfl 1 (by decide) f18 (fun _ h9 => h9) rfl dX4_next_42 ?_
    refine va_getN (D := D) (ci := 1) (v := .int (se_slot (rr_se s7))) (C := RX1) (T := TX1) (N := 4) hx hb hts in1 hown hK hP 6 rfl rfl 1 (by decide) f90 (fun _ h9 => h9) rfl dX4_next_45 ?_
    rcases dsp_ob hf with ⟨c10, hf⟩ | ⟨c10, hf⟩
    · refine W.eq (g2 := F0 m 48 ls [.int (se_slot (rr_se s7)), .ref (rr_ap s7)]) (by rw [c10]; rfl) ?_
      obtain ⟨v11, ev11, hf⟩ := bd_ob hf
      refine call_i (As := [.int (se_slot (rr_se s7))]) (rest := []) ⟨hx, hb, hml, hown, hts⟩ (tX3_keyIn l D ca (rr_ap s7) (ar (rr_ap s7)) _ (rr_P s7) (se_slot (rr_se s7)) v11 ev11) (cwV 1 hts gX4_next_X3_keyIn rfl rfl rfl (by decide +kernel) ⟨Nat.le_of_ble_eq_true rfl, Nat.le_of_ble_eq_true rfl⟩) hN hK hP hD hA hS (fr_RPp ca B ar s7) rfl rfl rfl hl.1 rfl (lv_room (Nat.le_of_ble_eq_true rfl)) dX4_next_48 ⟨Nat.le_of_ble_eq_true rfl, Nat.le_of_ble_eq_true rfl⟩ (fun H locs hP hD hS => ?_)
      refine lv_istore_n (lv' := [(3, .int v11), (2, .ref (B (2 + k1))), (0, .ref (B 0)), (1, .int a0)]) hx hb dX4_next_51 rfl hl (by decide) rfl (fun ls hl => ?_)
      refine lv_aload_n hx hb dX4_next_52 rfl (lv_at hl 1 rfl) ?_
      refine lv_iload_n hx hb dX4_next_53 rfl (lv_at hl 0 rfl) ?_
      refine lv_aload_n hx hb dX4_next_54 rfl (lv_at hl 2 rfl) ?_
      refine va_get (D := D) (ci := 4) (v := .ref (B 6)) (C := RX4) (T := TX4) (N := 7) hx hb hts in4 hown hK hP 0 rfl rfl 1 (by decide) f18 (fun _ h9 => h9) rfl dX4_next_55 ?_
      refine va_getN (D := D) (ci := 1) (v := va_rf (se_tb (rr_se s7))) (C := RX1) (T := TX1) (N := 4) hx hb hts in1 hown hK hP 6 rfl rfl 0 (by decide) f87 (fun _ h9 => h9) rfl dX4_next_58 ?_
      refine lv_aload_n hx hb dX4_next_61 rfl (lv_at hl 2 rfl) ?_
      refine va_get (D := D) (ci := 4) (v := .ref (B 6)) (C := RX4) (T := TX4) (N := 7) hx hb hts in4 hown hK hP 0 rfl rfl 1 (by decide) f18 (fun _ h9 => h9) rfl dX4_next_62 ?_
      refine va_getN (D := D) (ci := 1) (v := .int (se_slot (rr_se s7))) (C := RX1) (T := TX1) (N := 4) hx hb hts in1 hown hK hP 6 rfl rfl 1 (by decide) f90 (fun _ h9 => h9) rfl dX4_next_65 ?_
      rcases dsp_ob hf with ⟨c12, hf⟩ | ⟨c12, hf⟩
      · refine W.eq (g2 := F0 m 68 ls [.int (se_slot (rr_se s7)), .ref (rr_ap s7), .int v11, .ref (B (2 + k1))]) (by rw [c12]; rfl) ?_
        obtain ⟨v13, ev13, hf⟩ := bd_ob hf
        refine call_l (As := [.int (se_slot (rr_se s7))]) (rest := [.int v11, .ref (B (2 + k1))]) ⟨hx, hb, hml, hown, hts⟩ (tX3_rankIn l D ca (rr_ap s7) (ar (rr_ap s7)) _ (rr_P s7) (se_slot (rr_se s7)) v13 ev13) (cwV 1 hts gX4_next_X3_rankIn rfl rfl rfl (by decide +kernel) ⟨Nat.le_of_ble_eq_true rfl, Nat.le_of_ble_eq_true rfl⟩) hN hK hP hD hA hS (fr_RPp ca B ar s7) rfl rfl rfl hl.1 rfl (lv_room (Nat.le_of_ble_eq_true rfl)) dX4_next_68 ⟨Nat.le_of_ble_eq_true rfl, Nat.le_of_ble_eq_true rfl⟩ (fun H locs hP hD hS => ?_)
        obtain ⟨s15, es15, hf⟩ := bd_ob hf
        refine call_v (As := [.int v11, .long v13]) (rest := []) ⟨hx, hb, hml, hown, hts⟩ (tX2_meet l D ca (B (2 + k1)) _ (rr_sws s7 k1) v11 v13 s15 es15) (cwV 2 hts gX4_next_X2_meet rfl rfl rfl (by decide +kernel) ⟨Nat.le_of_ble_eq_true rfl, Nat.le_of_ble_eq_true rfl⟩) hN hK hP hD hA hS (fr_RW ca B ar s7 s15 h5) rfl rfl rfl hl.1 rfl (lv_room (Nat.le_of_ble_eq_true rfl)) dX4_next_71 ⟨Nat.le_of_ble_eq_true rfl, Nat.le_of_ble_eq_true rfl⟩ (fun H locs hP hD hS => ?_)
        obtain ⟨s16, es16, hf⟩ := nm_ob hf
        have hP : va_P D vwCl (wRR ca B ar s16) H := by rw [← es16]; exact hP
        have hD : va_D A (wRR ca B ar s16) := by rw [← es16]; exact hD
        refine lv_iload_n hx hb dX4_next_74 rfl (lv_at hl 0 rfl) ?_
        exact retx_i hx hb hr rfl hlocks hK (Nat.le_of_ble_eq_true rfl) (Nat.le_of_ble_eq_true rfl) (so1 hf).symm hP hD hS dX4_next_75
      · refine W.eq (g2 := F0 m 68 ls [.int (se_slot (rr_se s7)), .ref (rr_ao s7), .int v11, .ref (B (2 + k1))]) (by rw [c12]; rfl) ?_
        obtain ⟨v17, ev17, hf⟩ := bd_ob hf
        refine call_l (As := [.int (se_slot (rr_se s7))]) (rest := [.int v11, .ref (B (2 + k1))]) ⟨hx, hb, hml, hown, hts⟩ (tX3_rankIn l D ca (rr_ao s7) (ar (rr_ao s7)) _ (rr_O s7) (se_slot (rr_se s7)) v17 ev17) (cwV 1 hts gX4_next_X3_rankIn rfl rfl rfl (by decide +kernel) ⟨Nat.le_of_ble_eq_true rfl, Nat.le_of_ble_eq_true rfl⟩) hN hK hP hD hA hS (fr_ROp ca B ar s7) rfl rfl rfl hl.1 rfl (lv_room (Nat.le_of_ble_eq_true rfl)) dX4_next_68 ⟨Nat.le_of_ble_eq_true rfl, Nat.le_of_ble_eq_true rfl⟩ (fun H locs hP hD hS => ?_)
        obtain ⟨s19, es19, hf⟩ := bd_ob hf
        refine call_v (As := [.int v11, .long v17]) (rest := []) ⟨hx, hb, hml, hown, hts⟩ (tX2_meet l D ca (B (2 + k1)) _ (rr_sws s7 k1) v11 v17 s19 es19) (cwV 2 hts gX4_next_X2_meet rfl rfl rfl (by decide +kernel) ⟨Nat.le_of_ble_eq_true rfl, Nat.le_of_ble_eq_true rfl⟩) hN hK hP hD hA hS (fr_RW ca B ar s7 s19 h5) rfl rfl rfl hl.1 rfl (lv_room (Nat.le_of_ble_eq_true rfl)) dX4_next_71 ⟨Nat.le_of_ble_eq_true rfl, Nat.le_of_ble_eq_true rfl⟩ (fun H locs hP hD hS => ?_)
        obtain ⟨s20, es20, hf⟩ := nm_ob hf
        have hP : va_P D vwCl (wRR ca B ar s20) H := by rw [← es20]; exact hP
        have hD : va_D A (wRR ca B ar s20) := by rw [← es20]; exact hD
        refine lv_iload_n hx hb dX4_next_74 rfl (lv_at hl 0 rfl) ?_
        exact retx_i hx hb hr rfl hlocks hK (Nat.le_of_ble_eq_true rfl) (Nat.le_of_ble_eq_true rfl) (so1 hf).symm hP hD hS dX4_next_75
    · refine W.eq (g2 := F0 m 48 ls [.int (se_slot (rr_se s7)), .ref (rr_ao s7)]) (by rw [c10]; rfl) ?_
      obtain ⟨v21, ev21, hf⟩ := bd_ob hf
      refine call_i (As := [.int (se_slot (rr_se s7))]) (rest := []) ⟨hx, hb, hml, hown, hts⟩ (tX3_keyIn l D ca (rr_ao s7) (ar (rr_ao s7)) _ (rr_O s7) (se_slot (rr_se s7)) v21 ev21) (cwV 1 hts gX4_next_X3_keyIn rfl rfl rfl (by decide +kernel) ⟨Nat.le_of_ble_eq_true rfl, Nat.le_of_ble_eq_true rfl⟩) hN hK hP hD hA hS (fr_ROp ca B ar s7) rfl rfl rfl hl.1 rfl (lv_room (Nat.le_of_ble_eq_true rfl)) dX4_next_48 ⟨Nat.le_of_ble_eq_true rfl, Nat.le_of_ble_eq_true rfl⟩ (fun H locs hP hD hS => ?_)
      refine lv_istore_n (lv' := [(3, .int v21), (2, .ref (B (2 + k1))), (0, .ref (B 0)), (1, .int a0)]) hx hb dX4_next_51 rfl hl (by decide) rfl (fun ls hl => ?_)
      refine lv_aload_n hx hb dX4_next_52 rfl (lv_at hl 1 rfl) ?_
      refine lv_iload_n hx hb dX4_next_53 rfl (lv_at hl 0 rfl) ?_
      refine lv_aload_n hx hb dX4_next_54 rfl (lv_at hl 2 rfl) ?_
      refine va_get (D := D) (ci := 4) (v := .ref (B 6)) (C := RX4) (T := TX4) (N := 7) hx hb hts in4 hown hK hP 0 rfl rfl 1 (by decide) f18 (fun _ h9 => h9) rfl dX4_next_55 ?_
      refine va_getN (D := D) (ci := 1) (v := va_rf (se_tb (rr_se s7))) (C := RX1) (T := TX1) (N := 4) hx hb hts in1 hown hK hP 6 rfl rfl 0 (by decide) f87 (fun _ h9 => h9) rfl dX4_next_58 ?_
      refine lv_aload_n hx hb dX4_next_61 rfl (lv_at hl 2 rfl) ?_
      refine va_get (D := D) (ci := 4) (v := .ref (B 6)) (C := RX4) (T := TX4) (N := 7) hx hb hts in4 hown hK hP 0 rfl rfl 1 (by decide) f18 (fun _ h9 => h9) rfl dX4_next_62 ?_
      refine va_getN (D := D) (ci := 1) (v := .int (se_slot (rr_se s7))) (C := RX1) (T := TX1) (N := 4) hx hb hts in1 hown hK hP 6 rfl rfl 1 (by decide) f90 (fun _ h9 => h9) rfl dX4_next_65 ?_
      rcases dsp_ob hf with ⟨c22, hf⟩ | ⟨c22, hf⟩
      · refine W.eq (g2 := F0 m 68 ls [.int (se_slot (rr_se s7)), .ref (rr_ap s7), .int v21, .ref (B (2 + k1))]) (by rw [c22]; rfl) ?_
        obtain ⟨v23, ev23, hf⟩ := bd_ob hf
        refine call_l (As := [.int (se_slot (rr_se s7))]) (rest := [.int v21, .ref (B (2 + k1))]) ⟨hx, hb, hml, hown, hts⟩ (tX3_rankIn l D ca (rr_ap s7) (ar (rr_ap s7)) _ (rr_P s7) (se_slot (rr_se s7)) v23 ev23) (cwV 1 hts gX4_next_X3_rankIn rfl rfl rfl (by decide +kernel) ⟨Nat.le_of_ble_eq_true rfl, Nat.le_of_ble_eq_true rfl⟩) hN hK hP hD hA hS (fr_RPp ca B ar s7) rfl rfl rfl hl.1 rfl (lv_room (Nat.le_of_ble_eq_true rfl)) dX4_next_68 ⟨Nat.le_of_ble_eq_true rfl, Nat.le_of_ble_eq_true rfl⟩ (fun H locs hP hD hS => ?_)
        obtain ⟨s25, es25, hf⟩ := bd_ob hf
        refine call_v (As := [.int v21, .long v23]) (rest := []) ⟨hx, hb, hml, hown, hts⟩ (tX2_meet l D ca (B (2 + k1)) _ (rr_sws s7 k1) v21 v23 s25 es25) (cwV 2 hts gX4_next_X2_meet rfl rfl rfl (by decide +kernel) ⟨Nat.le_of_ble_eq_true rfl, Nat.le_of_ble_eq_true rfl⟩) hN hK hP hD hA hS (fr_RW ca B ar s7 s25 h5) rfl rfl rfl hl.1 rfl (lv_room (Nat.le_of_ble_eq_true rfl)) dX4_next_71 ⟨Nat.le_of_ble_eq_true rfl, Nat.le_of_ble_eq_true rfl⟩ (fun H locs hP hD hS => ?_)
        obtain ⟨s26, es26, hf⟩ := nm_ob hf
        have hP : va_P D vwCl (wRR ca B ar s26) H := by rw [← es26]; exact hP
        have hD : va_D A (wRR ca B ar s26) := by rw [← es26]; exact hD
        refine lv_iload_n hx hb dX4_next_74 rfl (lv_at hl 0 rfl) ?_
        exact retx_i hx hb hr rfl hlocks hK (Nat.le_of_ble_eq_true rfl) (Nat.le_of_ble_eq_true rfl) (so1 hf).symm hP hD hS dX4_next_75
      · refine W.eq (g2 := F0 m 68 ls [.int (se_slot (rr_se s7)), .ref (rr_ao s7), .int v21, .ref (B (2 + k1))]) (by rw [c22]; rfl) ?_
        obtain ⟨v27, ev27, hf⟩ := bd_ob hf
        refine call_l (As := [.int (se_slot (rr_se s7))]) (rest := [.int v21, .ref (B (2 + k1))]) ⟨hx, hb, hml, hown, hts⟩ (tX3_rankIn l D ca (rr_ao s7) (ar (rr_ao s7)) _ (rr_O s7) (se_slot (rr_se s7)) v27 ev27) (cwV 1 hts gX4_next_X3_rankIn rfl rfl rfl (by decide +kernel) ⟨Nat.le_of_ble_eq_true rfl, Nat.le_of_ble_eq_true rfl⟩) hN hK hP hD hA hS (fr_ROp ca B ar s7) rfl rfl rfl hl.1 rfl (lv_room (Nat.le_of_ble_eq_true rfl)) dX4_next_68 ⟨Nat.le_of_ble_eq_true rfl, Nat.le_of_ble_eq_true rfl⟩ (fun H locs hP hD hS => ?_)
        obtain ⟨s29, es29, hf⟩ := bd_ob hf
        refine call_v (As := [.int v21, .long v27]) (rest := []) ⟨hx, hb, hml, hown, hts⟩ (tX2_meet l D ca (B (2 + k1)) _ (rr_sws s7 k1) v21 v27 s29 es29) (cwV 2 hts gX4_next_X2_meet rfl rfl rfl (by decide +kernel) ⟨Nat.le_of_ble_eq_true rfl, Nat.le_of_ble_eq_true rfl⟩) hN hK hP hD hA hS (fr_RW ca B ar s7 s29 h5) rfl rfl rfl hl.1 rfl (lv_room (Nat.le_of_ble_eq_true rfl)) dX4_next_71 ⟨Nat.le_of_ble_eq_true rfl, Nat.le_of_ble_eq_true rfl⟩ (fun H locs hP hD hS => ?_)
        obtain ⟨s30, es30, hf⟩ := nm_ob hf
        have hP : va_P D vwCl (wRR ca B ar s30) H := by rw [← es30]; exact hP
        have hD : va_D A (wRR ca B ar s30) := by rw [← es30]; exact hD
        refine lv_iload_n hx hb dX4_next_74 rfl (lv_at hl 0 rfl) ?_
        exact retx_i hx hb hr rfl hlocks hK (Nat.le_of_ble_eq_true rfl) (Nat.le_of_ble_eq_true rfl) (so1 hf).symm hP hD hS dX4_next_75
  · replace hf := it_p c9 hf
    exact thr_S (w := wRR ca B ar) (Ts := wsX4_next) (cls := "java/lang/IllegalStateException") (text := "the sweep meets no other key") (names := ["java/lang/RuntimeException", "java/lang/Exception"]) hx hb hT hts hown hlocks hxt hN hX hK (hml.trans hl.1.symm) (by decide +kernel) (by decide +kernel) (by decide +kernel) (by decide +kernel) (by decide +kernel) (by decide +kernel) (by decide +kernel) (by decide +kernel) (by decide +kernel) hS hP hD (k := 2) rfl (so1 hf).symm dX4_next_24 dX4_next_27 dX4_next_28 dX4_next_30 dX4_next_33 (Nat.le_of_ble_eq_true rfl) (Nat.le_of_ble_eq_true rfl) (Nat.le_of_ble_eq_true rfl) (Nat.le_of_ble_eq_true rfl) (Nat.le_of_ble_eq_true rfl) (Nat.le_of_ble_eq_true rfl)

def rx_removeMet  (σ : RR) (a0 : Int32) : Option (Ex (Int32 × RR)) :=
  xb (rx_sweepOf σ a0) fun k1 s2 =>
  gk k1 4 <|
  if (sw_may (rr_sws s2 k1)) = 0 then
    some (.inr (2, s2))
  else
    bd (rr_lookUp s2 (sw_key (rr_sws s2 k1))) fun s8 =>
    bd (ss_hasFound (rr_se s8)) fun v9 =>
    if v9 = 0 then
      some (.inr (2, s8))
    else
      nm (rr_sws' s8 (va_up (rr_sws s8) k1 (sw_may' (rr_sws s8 k1) 0))) fun s11 =>
      bd2 (rr_remove s11 (sw_key (rr_sws s11 k1))) fun v12 s13 =>
      some (.inl (v12, s13))
set_option maxHeartbeats 4000000 in
set_option maxRecDepth 100000 in
theorem tX4_removeMet (l : Launch) (hT : l.stackTraces = false) (D : va_G) (ca : Nat → ClassId) (B : Nat → Nat) (ar : Nat → Nat → Nat) (sz : Nat) (σ : RR) (a0 : Int32) (z : (Ex (Int32 × RR))) (hf : rx_removeMet σ a0 = some z) : Cxi l D ca yX4_removeMet wsX4_removeMet { frames := 7, cells := 2, slots := 12, locals := 119 } [.ref (B 0), .int a0] (wRR ca B ar) σ sz z 2 12 := by
  refine bodyx_of (cc := cX4_removeMet) (maxL := 3) (ret := (some .int)) (fun A => Qxi D ca (wRR ca B ar) z A) (fun A => Xx D ca (wRR ca B ar) z A) (by decide) rfl (Nat.le_of_ble_eq_true rfl) ?_
  intro p e s m below meth c A ls hx hb hr hml hts hown hlocks hA hK hP hD hS hl hN hX hxt
  have hl : lv_has ls 3 [(0, .ref (B 0)), (1, .int a0)] := hl
  generalize ([.ref (B 0), .int a0] : List Value).toArray = args at hts ⊢
  have f147 : (Cond.fieldLinkNest RX4 147 "RobinRow$Sweep" "mayRemove" "Z" RX4).before args s = true := va_Nw.use rfl (hN.1 (RX4, 147, "RobinRow$Sweep", "mayRemove", "Z") (by decide +kernel))
  have f152 : (Cond.fieldLinkNest RX4 152 "RobinRow$Sweep" "key" "I" RX4).before args s = true := va_Nw.use rfl (hN.1 (RX4, 152, "RobinRow$Sweep", "key", "I") (by decide +kernel))
  have f18 := hts (.fieldLink RX4 18 "RobinRow" "search" "LRobinRow$Search;") (by decide +kernel)
  have in2 : ∀ w ∈ u_ws RX2 TX2 5, w ∈ wsX4_removeMet := by decide +kernel
  have in4 : ∀ w ∈ u_ws RX4 TX4 7, w ∈ wsX4_removeMet := by decide +kernel
  unfold rx_removeMet at hf
  refine lv_aload_n hx hb dX4_removeMet_0 rfl (lv_at hl 0 rfl) ?_
  refine lv_iload_n hx hb dX4_removeMet_1 rfl (lv_at hl 1 rfl) ?_
  obtain ⟨z3, ez3, hlz3, hrz3⟩ := xb_ob hf
  refine callx_r (w := wRR ca B ar) (As := [.int a0]) (rest := []) ⟨hx, hb, hml, hown, hts⟩ (tX4_sweepOf l hT D ca B ar _ σ a0 z3 ez3) (cwV 1 hts gX4_removeMet_X4_sweepOf rfl rfl rfl (by decide +kernel) ⟨Nat.le_of_ble_eq_true rfl, Nat.le_of_ble_eq_true rfl⟩) hN hX hK hP hD hA hS rfl rfl rfl hl.1 rfl (lv_room (Nat.le_of_ble_eq_true rfl)) dX4_removeMet_2 ⟨Nat.le_of_ble_eq_true rfl, Nat.le_of_ble_eq_true rfl⟩ (fun k8 u4 ce8 q8 H locs hz8 hP hD hS h81 h82 h83 => out_x hxt hlocks hK (hrz3 _ hz8) hP hD hS h81 h82 h83 (Nat.le_of_ble_eq_true rfl) (Nat.le_of_ble_eq_true rfl)) (fun k1 s2 H locs hz8 hP hD hS => ?_)
  replace hf := hlz3 _ _ hz8
  obtain ⟨h5, hf⟩ := gk_ob hf
  refine W.eq (g2 := F0 m 5 ls [.ref (B (2 + k1))]) rfl ?_
  refine lv_astore_n (lv' := [(2, .ref (B (2 + k1))), (0, .ref (B 0)), (1, .int a0)]) hx hb dX4_removeMet_5 rfl hl (by decide) rfl (fun ls hl => ?_)
  refine lv_aload_n hx hb dX4_removeMet_6 rfl (lv_at hl 0 rfl) ?_
  refine va_getN (D := D) (ci := 2) (v := .int (sw_may (rr_sws s2 k1))) (C := RX2) (T := TX2) (N := 5) hx hb hts in2 hown hK hP (2 + k1) (sw_at h5) rfl 1 (by decide) f147 (fun _ h9 => h9) rfl dX4_removeMet_7 ?_
  refine lv_if_ne (tgt := 23) hx hb dX4_removeMet_10 (by decide) (fun c6 => ?_) (fun c6 => ?_)
  · replace hf := it_n c6 hf
    refine lv_aload_n hx hb dX4_removeMet_23 rfl (lv_at hl 1 rfl) ?_
    refine lv_aload_n hx hb dX4_removeMet_24 rfl (lv_at hl 0 rfl) ?_
    refine va_getN (D := D) (ci := 2) (v := .int (sw_key (rr_sws s2 k1))) (C := RX2) (T := TX2) (N := 5) hx hb hts in2 hown hK hP (2 + k1) (sw_at h5) rfl 3 (by decide) f152 (fun _ h9 => h9) rfl dX4_removeMet_25 ?_
    obtain ⟨s8, es8, hf⟩ := bd_ob hf
    refine call_v (As := [.int (sw_key (rr_sws s2 k1))]) (rest := []) ⟨hx, hb, hml, hown, hts⟩ (tX4_lookUp l D ca B ar _ s2 (sw_key (rr_sws s2 k1)) s8 es8) (cwV 1 hts gX4_removeMet_X4_lookUp rfl rfl rfl (by decide +kernel) ⟨Nat.le_of_ble_eq_true rfl, Nat.le_of_ble_eq_true rfl⟩) hN hK hP hD hA hS (fr_id _ _) rfl rfl rfl hl.1 rfl (lv_room (Nat.le_of_ble_eq_true rfl)) dX4_removeMet_28 ⟨Nat.le_of_ble_eq_true rfl, Nat.le_of_ble_eq_true rfl⟩ (fun H locs hP hD hS => ?_)
    refine lv_aload_n hx hb dX4_removeMet_31 rfl (lv_at hl 1 rfl) ?_
    refine va_get (D := D) (ci := 4) (v := .ref (B 6)) (C := RX4) (T := TX4) (N := 7) hx hb hts in4 hown hK hP 0 rfl rfl 1 (by decide) f18 (fun _ h9 => h9) rfl dX4_removeMet_32 ?_
    obtain ⟨v9, ev9, hf⟩ := bd_ob hf
    refine call_i (As := []) (rest := []) ⟨hx, hb, hml, hown, hts⟩ (tX1_hasFound l D ca (B 6) _ (rr_se s8) v9 ev9) (cwV 0 hts gX4_removeMet_X1_hasFound rfl rfl rfl (by decide +kernel) ⟨Nat.le_of_ble_eq_true rfl, Nat.le_of_ble_eq_true rfl⟩) hN hK hP hD hA hS (fr_RSp ca B ar s8) rfl rfl rfl hl.1 rfl (lv_room (Nat.le_of_ble_eq_true rfl)) dX4_removeMet_35 ⟨Nat.le_of_ble_eq_true rfl, Nat.le_of_ble_eq_true rfl⟩ (fun H locs hP hD hS => ?_)
    refine lv_if_ne (tgt := 51) hx hb dX4_removeMet_38 (by decide) (fun c10 => ?_) (fun c10 => ?_)
    · replace hf := it_n c10 hf
      refine lv_aload_n hx hb dX4_removeMet_51 rfl (lv_at hl 0 rfl) ?_
      refine lv_iconst (v := 0) hx hb dX4_removeMet_52 (by decide) ?_
      obtain ⟨s11, es11, hf⟩ := nm_ob hf
      refine va_putN (D := D) (ci := 2) (v := .int 0) (ty := .boolean) (C := RX2) (T := TX2) (N := 5) hx hb hts in2 tyX2 tyX2_ok nmX2 hown hK hP hD hS (2 + k1) (sw_at h5) rfl 1 (by decide) f147 (fun _ h9 => h9) rfl (by decide +kernel) rfl rfl (Nat.le_of_ble_eq_true rfl) dX4_removeMet_53 (fun H locs hP hD hS => ?_)
      have hP : va_P D vwCl (wRR ca B ar s11) H := by rw [← es11, ← sw_set (sw_may' (rr_sws s8 k1) 0) h5]; exact hP
      have hD : va_D A (wRR ca B ar s11) := by rw [← es11, ← sw_set (sw_may' (rr_sws s8 k1) 0) h5]; exact hD
      refine lv_aload_n hx hb dX4_removeMet_56 rfl (lv_at hl 1 rfl) ?_
      refine lv_aload_n hx hb dX4_removeMet_57 rfl (lv_at hl 0 rfl) ?_
      refine va_getN (D := D) (ci := 2) (v := .int (sw_key (rr_sws s11 k1))) (C := RX2) (T := TX2) (N := 5) hx hb hts in2 hown hK hP (2 + k1) (sw_at h5) rfl 3 (by decide) f152 (fun _ h9 => h9) rfl dX4_removeMet_58 ?_
      obtain ⟨v12, s13, ev12, hf⟩ := bd2_ob hf
      refine call_i (As := [.int (sw_key (rr_sws s11 k1))]) (rest := []) ⟨hx, hb, hml, hown, hts⟩ (tX4_remove l D ca B ar _ s11 (sw_key (rr_sws s11 k1)) v12 s13 ev12) (cwV 1 hts gX4_removeMet_X4_remove rfl rfl rfl (by decide +kernel) ⟨Nat.le_of_ble_eq_true rfl, Nat.le_of_ble_eq_true rfl⟩) hN hK hP hD hA hS (fr_id _ _) rfl rfl rfl hl.1 rfl (lv_room (Nat.le_of_ble_eq_true rfl)) dX4_removeMet_61 ⟨Nat.le_of_ble_eq_true rfl, Nat.le_of_ble_eq_true rfl⟩ (fun H locs hP hD hS => ?_)
      exact retx_i hx hb hr rfl hlocks hK (Nat.le_of_ble_eq_true rfl) (Nat.le_of_ble_eq_true rfl) (so1 hf).symm hP hD hS dX4_removeMet_64
    · replace hf := it_p c10 hf
      exact thr_S (w := wRR ca B ar) (Ts := wsX4_removeMet) (cls := "java/lang/IllegalStateException") (text := "the key is not there any more") (names := ["java/lang/RuntimeException", "java/lang/Exception"]) hx hb hT hts hown hlocks hxt hN hX hK (hml.trans hl.1.symm) (by decide +kernel) (by decide +kernel) (by decide +kernel) (by decide +kernel) (by decide +kernel) (by decide +kernel) (by decide +kernel) (by decide +kernel) (by decide +kernel) hS hP hD (k := 2) rfl (so1 hf).symm dX4_removeMet_41 dX4_removeMet_44 dX4_removeMet_45 dX4_removeMet_47 dX4_removeMet_50 (Nat.le_of_ble_eq_true rfl) (Nat.le_of_ble_eq_true rfl) (Nat.le_of_ble_eq_true rfl) (Nat.le_of_ble_eq_true rfl) (Nat.le_of_ble_eq_true rfl) (Nat.le_of_ble_eq_true rfl)
  · replace hf := it_p c6 hf
    exact thr_S (w := wRR ca B ar) (Ts := wsX4_removeMet) (cls := "java/lang/IllegalStateException") (text := "the sweep has met no key that it has not taken out") (names := ["java/lang/RuntimeException", "java/lang/Exception"]) hx hb hT hts hown hlocks hxt hN hX hK (hml.trans hl.1.symm) (by decide +kernel) (by decide +kernel) (by decide +kernel) (by decide +kernel) (by decide +kernel) (by decide +kernel) (by decide +kernel) (by decide +kernel) (by decide +kernel) hS hP hD (k := 2) rfl (so1 hf).symm dX4_removeMet_13 dX4_removeMet_16 dX4_removeMet_17 dX4_removeMet_19 dX4_removeMet_22 (Nat.le_of_ble_eq_true rfl) (Nat.le_of_ble_eq_true rfl) (Nat.le_of_ble_eq_true rfl) (Nat.le_of_ble_eq_true rfl) (Nat.le_of_ble_eq_true rfl) (Nat.le_of_ble_eq_true rfl)

def rx_closeSweep  (σ : RR) (a0 : Int32) : Option (Ex (Int32 × RR)) :=
  xb (rx_sweepOf σ a0) fun k1 s2 =>
  gk k1 4 <|
  bd (ww_end (rr_sws s2 k1)) fun s7 =>
  nm (rr_sws' s2 (va_up (rr_sws s2) k1 s7)) fun s8 =>
  some (.inl ((sw_met (rr_sws s8 k1)), s8))
set_option maxHeartbeats 4000000 in
set_option maxRecDepth 100000 in
theorem tX4_closeSweep (l : Launch) (hT : l.stackTraces = false) (D : va_G) (ca : Nat → ClassId) (B : Nat → Nat) (ar : Nat → Nat → Nat) (sz : Nat) (σ : RR) (a0 : Int32) (z : (Ex (Int32 × RR))) (hf : rx_closeSweep σ a0 = some z) : Cxi l D ca yX4_closeSweep wsX4_closeSweep { frames := 7, cells := 1, slots := 6, locals := 103 } [.ref (B 0), .int a0] (wRR ca B ar) σ sz z 1 6 := by
  refine bodyx_of (cc := cX4_closeSweep) (maxL := 3) (ret := (some .int)) (fun A => Qxi D ca (wRR ca B ar) z A) (fun A => Xx D ca (wRR ca B ar) z A) (by decide) rfl (Nat.le_of_ble_eq_true rfl) ?_
  intro p e s m below meth c A ls hx hb hr hml hts hown hlocks hA hK hP hD hS hl hN hX hxt
  have hl : lv_has ls 3 [(0, .ref (B 0)), (1, .int a0)] := hl
  generalize ([.ref (B 0), .int a0] : List Value).toArray = args at hts ⊢
  have f160 : (Cond.fieldLinkNest RX4 160 "RobinRow$Sweep" "met" "I" RX4).before args s = true := va_Nw.use rfl (hN.1 (RX4, 160, "RobinRow$Sweep", "met", "I") (by decide +kernel))
  have in2 : ∀ w ∈ u_ws RX2 TX2 5, w ∈ wsX4_closeSweep := by decide +kernel
  unfold rx_closeSweep at hf
  refine lv_aload_n hx hb dX4_closeSweep_0 rfl (lv_at hl 0 rfl) ?_
  refine lv_iload_n hx hb dX4_closeSweep_1 rfl (lv_at hl 1 rfl) ?_
  obtain ⟨z3, ez3, hlz3, hrz3⟩ := xb_ob hf
  refine callx_r (w := wRR ca B ar) (As := [.int a0]) (rest := []) ⟨hx, hb, hml, hown, hts⟩ (tX4_sweepOf l hT D ca B ar _ σ a0 z3 ez3) (cwV 1 hts gX4_closeSweep_X4_sweepOf rfl rfl rfl (by decide +kernel) ⟨Nat.le_of_ble_eq_true rfl, Nat.le_of_ble_eq_true rfl⟩) hN hX hK hP hD hA hS rfl rfl rfl hl.1 rfl (lv_room (Nat.le_of_ble_eq_true rfl)) dX4_closeSweep_2 ⟨Nat.le_of_ble_eq_true rfl, Nat.le_of_ble_eq_true rfl⟩ (fun k8 u4 ce8 q8 H locs hz8 hP hD hS h81 h82 h83 => out_x hxt hlocks hK (hrz3 _ hz8) hP hD hS h81 h82 h83 (Nat.le_of_ble_eq_true rfl) (Nat.le_of_ble_eq_true rfl)) (fun k1 s2 H locs hz8 hP hD hS => ?_)
  replace hf := hlz3 _ _ hz8
  obtain ⟨h5, hf⟩ := gk_ob hf
  refine W.eq (g2 := F0 m 5 ls [.ref (B (2 + k1))]) rfl ?_
  refine lv_astore_n (lv' := [(2, .ref (B (2 + k1))), (0, .ref (B 0)), (1, .int a0)]) hx hb dX4_closeSweep_5 rfl hl (by decide) rfl (fun ls hl => ?_)
  refine lv_aload_n hx hb dX4_closeSweep_6 rfl (lv_at hl 0 rfl) ?_
  obtain ⟨s7, es7, hf⟩ := bd_ob hf
  refine call_v (As := []) (rest := []) ⟨hx, hb, hml, hown, hts⟩ (tX2_end l D ca (B (2 + k1)) _ (rr_sws s2 k1) s7 es7) (cwV 0 hts gX4_closeSweep_X2_end rfl rfl rfl (by decide +kernel) ⟨Nat.le_of_ble_eq_true rfl, Nat.le_of_ble_eq_true rfl⟩) hN hK hP hD hA hS (fr_RW ca B ar s2 s7 h5) rfl rfl rfl hl.1 rfl (lv_room (Nat.le_of_ble_eq_true rfl)) dX4_closeSweep_7 ⟨Nat.le_of_ble_eq_true rfl, Nat.le_of_ble_eq_true rfl⟩ (fun H locs hP hD hS => ?_)
  obtain ⟨s8, es8, hf⟩ := nm_ob hf
  have hP : va_P D vwCl (wRR ca B ar s8) H := by rw [← es8]; exact hP
  have hD : va_D A (wRR ca B ar s8) := by rw [← es8]; exact hD
  refine lv_aload_n hx hb dX4_closeSweep_10 rfl (lv_at hl 0 rfl) ?_
  refine va_getN (D := D) (ci := 2) (v := .int (sw_met (rr_sws s8 k1))) (C := RX2) (T := TX2) (N := 5) hx hb hts in2 hown hK hP (2 + k1) (sw_at h5) rfl 2 (by decide) f160 (fun _ h9 => h9) rfl dX4_closeSweep_11 ?_
  exact retx_i hx hb hr rfl hlocks hK (Nat.le_of_ble_eq_true rfl) (Nat.le_of_ble_eq_true rfl) (so1 hf).symm hP hD hS dX4_closeSweep_14

def rx_slots  (σ : RR) (a0 : Int32) : Option (Ex (Int32 × RR)) :=
  xb (rx_tableOf σ a0) fun k1 s2 =>
  if k1 = 0 then
    some (.inl ((tb_sl (rr_P s2)), s2))
  else
    some (.inl ((tb_sl (rr_O s2)), s2))
set_option maxHeartbeats 4000000 in
set_option maxRecDepth 100000 in
theorem tX4_slots (l : Launch) (hT : l.stackTraces = false) (D : va_G) (ca : Nat → ClassId) (B : Nat → Nat) (ar : Nat → Nat → Nat) (sz : Nat) (σ : RR) (a0 : Int32) (z : (Ex (Int32 × RR))) (hf : rx_slots σ a0 = some z) : Cxi l D ca yX4_slots wsX4_slots { frames := 7, cells := 1, slots := 6, locals := 103 } [.ref (B 0), .int a0] (wRR ca B ar) σ sz z 1 6 := by
  refine bodyx_of (cc := cX4_slots) (maxL := 2) (ret := (some .int)) (fun A => Qxi D ca (wRR ca B ar) z A) (fun A => Xx D ca (wRR ca B ar) z A) (by decide) rfl (Nat.le_of_ble_eq_true rfl) ?_
  intro p e s m below meth c A ls hx hb hr hml hts hown hlocks hA hK hP hD hS hl hN hX hxt
  have hl : lv_has ls 2 [(0, .ref (B 0)), (1, .int a0)] := hl
  generalize ([.ref (B 0), .int a0] : List Value).toArray = args at hts ⊢
  have f168 : (Cond.fieldLinkNest RX4 168 "RobinRow$Table" "slots" "I" RX4).before args s = true := va_Nw.use rfl (hN.1 (RX4, 168, "RobinRow$Table", "slots", "I") (by decide +kernel))
  have in3 : ∀ w ∈ u_ws RX3 TX3 6, w ∈ wsX4_slots := by decide +kernel
  unfold rx_slots at hf
  refine lv_aload_n hx hb dX4_slots_0 rfl (lv_at hl 0 rfl) ?_
  refine lv_iload_n hx hb dX4_slots_1 rfl (lv_at hl 1 rfl) ?_
  obtain ⟨z3, ez3, hlz3, hrz3⟩ := xb_ob hf
  refine callx_r (w := wRR ca B ar) (As := [.int a0]) (rest := []) ⟨hx, hb, hml, hown, hts⟩ (tX4_tableOf l hT D ca B ar _ σ a0 z3 ez3) (cwV 1 hts gX4_slots_X4_tableOf rfl rfl rfl (by decide +kernel) ⟨Nat.le_of_ble_eq_true rfl, Nat.le_of_ble_eq_true rfl⟩) hN hX hK hP hD hA hS rfl rfl rfl hl.1 rfl (lv_room (Nat.le_of_ble_eq_true rfl)) dX4_slots_2 ⟨Nat.le_of_ble_eq_true rfl, Nat.le_of_ble_eq_true rfl⟩ (fun k8 u4 ce8 q8 H locs hz8 hP hD hS h81 h82 h83 => out_x hxt hlocks hK (hrz3 _ hz8) hP hD hS h81 h82 h83 (Nat.le_of_ble_eq_true rfl) (Nat.le_of_ble_eq_true rfl)) (fun k1 s2 H locs hz8 hP hD hS => ?_)
  replace hf := hlz3 _ _ hz8
  by_cases c5 : k1 = 0
  · replace hf := it_p c5 hf
    refine W.eq (g2 := F0 m 5 ls [.ref (rr_ap s2)]) (by rw [adrT, if_pos c5]) ?_
    refine va_getN (D := D) (ci := 3) (v := .int (tb_sl (rr_P s2))) (C := RX3) (T := TX3) (N := 6) hx hb hts in3 hown hK hP 10 rfl rfl 4 (by decide) f168 (fun _ h9 => h9) rfl dX4_slots_5 ?_
    exact retx_i hx hb hr rfl hlocks hK (Nat.le_of_ble_eq_true rfl) (Nat.le_of_ble_eq_true rfl) (so1 hf).symm hP hD hS dX4_slots_8
  · replace hf := it_n c5 hf
    refine W.eq (g2 := F0 m 5 ls [.ref (rr_ao s2)]) (by rw [adrT, if_neg c5]) ?_
    refine va_getN (D := D) (ci := 3) (v := .int (tb_sl (rr_O s2))) (C := RX3) (T := TX3) (N := 6) hx hb hts in3 hown hK hP 15 rfl rfl 4 (by decide) f168 (fun _ h9 => h9) rfl dX4_slots_5 ?_
    exact retx_i hx hb hr rfl hlocks hK (Nat.le_of_ble_eq_true rfl) (Nat.le_of_ble_eq_true rfl) (so1 hf).symm hP hD hS dX4_slots_8

def rx_keysIn  (σ : RR) (a0 : Int32) : Option (Ex (Int32 × RR)) :=
  xb (rx_tableOf σ a0) fun k1 s2 =>
  if k1 = 0 then
    some (.inl ((tb_ct (rr_P s2)), s2))
  else
    some (.inl ((tb_ct (rr_O s2)), s2))
set_option maxHeartbeats 4000000 in
set_option maxRecDepth 100000 in
theorem tX4_keysIn (l : Launch) (hT : l.stackTraces = false) (D : va_G) (ca : Nat → ClassId) (B : Nat → Nat) (ar : Nat → Nat → Nat) (sz : Nat) (σ : RR) (a0 : Int32) (z : (Ex (Int32 × RR))) (hf : rx_keysIn σ a0 = some z) : Cxi l D ca yX4_keysIn wsX4_keysIn { frames := 7, cells := 1, slots := 6, locals := 103 } [.ref (B 0), .int a0] (wRR ca B ar) σ sz z 1 6 := by
  refine bodyx_of (cc := cX4_keysIn) (maxL := 2) (ret := (some .int)) (fun A => Qxi D ca (wRR ca B ar) z A) (fun A => Xx D ca (wRR ca B ar) z A) (by decide) rfl (Nat.le_of_ble_eq_true rfl) ?_
  intro p e s m below meth c A ls hx hb hr hml hts hown hlocks hA hK hP hD hS hl hN hX hxt
  have hl : lv_has ls 2 [(0, .ref (B 0)), (1, .int a0)] := hl
  generalize ([.ref (B 0), .int a0] : List Value).toArray = args at hts ⊢
  have f110 : (Cond.fieldLinkNest RX4 110 "RobinRow$Table" "count" "I" RX4).before args s = true := va_Nw.use rfl (hN.1 (RX4, 110, "RobinRow$Table", "count", "I") (by decide +kernel))
  have in3 : ∀ w ∈ u_ws RX3 TX3 6, w ∈ wsX4_keysIn := by decide +kernel
  unfold rx_keysIn at hf
  refine lv_aload_n hx hb dX4_keysIn_0 rfl (lv_at hl 0 rfl) ?_
  refine lv_iload_n hx hb dX4_keysIn_1 rfl (lv_at hl 1 rfl) ?_
  obtain ⟨z3, ez3, hlz3, hrz3⟩ := xb_ob hf
  refine callx_r (w := wRR ca B ar) (As := [.int a0]) (rest := []) ⟨hx, hb, hml, hown, hts⟩ (tX4_tableOf l hT D ca B ar _ σ a0 z3 ez3) (cwV 1 hts gX4_keysIn_X4_tableOf rfl rfl rfl (by decide +kernel) ⟨Nat.le_of_ble_eq_true rfl, Nat.le_of_ble_eq_true rfl⟩) hN hX hK hP hD hA hS rfl rfl rfl hl.1 rfl (lv_room (Nat.le_of_ble_eq_true rfl)) dX4_keysIn_2 ⟨Nat.le_of_ble_eq_true rfl, Nat.le_of_ble_eq_true rfl⟩ (fun k8 u4 ce8 q8 H locs hz8 hP hD hS h81 h82 h83 => out_x hxt hlocks hK (hrz3 _ hz8) hP hD hS h81 h82 h83 (Nat.le_of_ble_eq_true rfl) (Nat.le_of_ble_eq_true rfl)) (fun k1 s2 H locs hz8 hP hD hS => ?_)
  replace hf := hlz3 _ _ hz8
  by_cases c5 : k1 = 0
  · replace hf := it_p c5 hf
    refine W.eq (g2 := F0 m 5 ls [.ref (rr_ap s2)]) (by rw [adrT, if_pos c5]) ?_
    refine va_getN (D := D) (ci := 3) (v := .int (tb_ct (rr_P s2))) (C := RX3) (T := TX3) (N := 6) hx hb hts in3 hown hK hP 10 rfl rfl 5 (by decide) f110 (fun _ h9 => h9) rfl dX4_keysIn_5 ?_
    exact retx_i hx hb hr rfl hlocks hK (Nat.le_of_ble_eq_true rfl) (Nat.le_of_ble_eq_true rfl) (so1 hf).symm hP hD hS dX4_keysIn_8
  · replace hf := it_n c5 hf
    refine W.eq (g2 := F0 m 5 ls [.ref (rr_ao s2)]) (by rw [adrT, if_neg c5]) ?_
    refine va_getN (D := D) (ci := 3) (v := .int (tb_ct (rr_O s2))) (C := RX3) (T := TX3) (N := 6) hx hb hts in3 hown hK hP 15 rfl rfl 5 (by decide) f110 (fun _ h9 => h9) rfl dX4_keysIn_5 ?_
    exact retx_i hx hb hr rfl hlocks hK (Nat.le_of_ble_eq_true rfl) (Nat.le_of_ble_eq_true rfl) (so1 hf).symm hP hD hS dX4_keysIn_8

def rx_control  (σ : RR) (a0 : Int32) (a1 : Int32) : Option (Ex (Int32 × RR)) :=
  xb (rx_tableWithSlot σ a0 a1) fun k1 s2 =>
  if k1 = 0 then
    bd (tt_controlIn (rr_P s2) a1) fun v6 =>
    gn .byte v6 <|
    some (.inl (v6, s2))
  else
    bd (tt_controlIn (rr_O s2) a1) fun v8 =>
    gn .byte v8 <|
    some (.inl (v8, s2))
set_option maxHeartbeats 4000000 in
set_option maxRecDepth 100000 in
theorem tX4_control (l : Launch) (hT : l.stackTraces = false) (D : va_G) (ca : Nat → ClassId) (B : Nat → Nat) (ar : Nat → Nat → Nat) (sz : Nat) (σ : RR) (a0 : Int32) (a1 : Int32) (z : (Ex (Int32 × RR))) (hf : rx_control σ a0 a1 = some z) : Cxi l D ca yX4_control wsX4_control { frames := 8, cells := 2, slots := 12, locals := 126 } [.ref (B 0), .int a0, .int a1] (wRR ca B ar) σ sz z 2 12 := by
  refine bodyx_of (cc := cX4_control) (maxL := 3) (ret := (some .byte)) (fun A => Qxi D ca (wRR ca B ar) z A) (fun A => Xx D ca (wRR ca B ar) z A) (by decide) rfl (Nat.le_of_ble_eq_true rfl) ?_
  intro p e s m below meth c A ls hx hb hr hml hts hown hlocks hA hK hP hD hS hl hN hX hxt
  have hl : lv_has ls 3 [(0, .ref (B 0)), (1, .int a0), (2, .int a1)] := hl
  generalize ([.ref (B 0), .int a0, .int a1] : List Value).toArray = args at hts ⊢
  unfold rx_control at hf
  refine lv_aload_n hx hb dX4_control_0 rfl (lv_at hl 0 rfl) ?_
  refine lv_iload_n hx hb dX4_control_1 rfl (lv_at hl 1 rfl) ?_
  refine lv_iload_n hx hb dX4_control_2 rfl (lv_at hl 2 rfl) ?_
  obtain ⟨z3, ez3, hlz3, hrz3⟩ := xb_ob hf
  refine callx_r (w := wRR ca B ar) (As := [.int a0, .int a1]) (rest := []) ⟨hx, hb, hml, hown, hts⟩ (tX4_tableWithSlot l hT D ca B ar _ σ a0 a1 z3 ez3) (cwV 2 hts gX4_control_X4_tableWithSlot rfl rfl rfl (by decide +kernel) ⟨Nat.le_of_ble_eq_true rfl, Nat.le_of_ble_eq_true rfl⟩) hN hX hK hP hD hA hS rfl rfl rfl hl.1 rfl (lv_room (Nat.le_of_ble_eq_true rfl)) dX4_control_3 ⟨Nat.le_of_ble_eq_true rfl, Nat.le_of_ble_eq_true rfl⟩ (fun k8 u4 ce8 q8 H locs hz8 hP hD hS h81 h82 h83 => out_x hxt hlocks hK (hrz3 _ hz8) hP hD hS h81 h82 h83 (Nat.le_of_ble_eq_true rfl) (Nat.le_of_ble_eq_true rfl)) (fun k1 s2 H locs hz8 hP hD hS => ?_)
  replace hf := hlz3 _ _ hz8
  by_cases c5 : k1 = 0
  · replace hf := it_p c5 hf
    refine W.eq (g2 := F0 m 6 ls [.ref (rr_ap s2)]) (by rw [adrT, if_pos c5]) ?_
    refine lv_iload_n hx hb dX4_control_6 rfl (lv_at hl 2 rfl) ?_
    obtain ⟨v6, ev6, hf⟩ := bd_ob hf
    refine call_i (As := [.int a1]) (rest := []) ⟨hx, hb, hml, hown, hts⟩ (tX3_controlIn l D ca (rr_ap s2) (ar (rr_ap s2)) _ (rr_P s2) a1 v6 ev6) (cwV 1 hts gX4_control_X3_controlIn rfl rfl rfl (by decide +kernel) ⟨Nat.le_of_ble_eq_true rfl, Nat.le_of_ble_eq_true rfl⟩) hN hK hP hD hA hS (fr_RPp ca B ar s2) rfl rfl rfl hl.1 rfl (lv_room (Nat.le_of_ble_eq_true rfl)) dX4_control_7 ⟨Nat.le_of_ble_eq_true rfl, Nat.le_of_ble_eq_true rfl⟩ (fun H locs hP hD hS => ?_)
    obtain ⟨g7, hf⟩ := gn_ob hf
    exact retx_i hx hb hr (nr_b g7) hlocks hK (Nat.le_of_ble_eq_true rfl) (Nat.le_of_ble_eq_true rfl) (so1 hf).symm hP hD hS dX4_control_10
  · replace hf := it_n c5 hf
    refine W.eq (g2 := F0 m 6 ls [.ref (rr_ao s2)]) (by rw [adrT, if_neg c5]) ?_
    refine lv_iload_n hx hb dX4_control_6 rfl (lv_at hl 2 rfl) ?_
    obtain ⟨v8, ev8, hf⟩ := bd_ob hf
    refine call_i (As := [.int a1]) (rest := []) ⟨hx, hb, hml, hown, hts⟩ (tX3_controlIn l D ca (rr_ao s2) (ar (rr_ao s2)) _ (rr_O s2) a1 v8 ev8) (cwV 1 hts gX4_control_X3_controlIn rfl rfl rfl (by decide +kernel) ⟨Nat.le_of_ble_eq_true rfl, Nat.le_of_ble_eq_true rfl⟩) hN hK hP hD hA hS (fr_ROp ca B ar s2) rfl rfl rfl hl.1 rfl (lv_room (Nat.le_of_ble_eq_true rfl)) dX4_control_7 ⟨Nat.le_of_ble_eq_true rfl, Nat.le_of_ble_eq_true rfl⟩ (fun H locs hP hD hS => ?_)
    obtain ⟨g9, hf⟩ := gn_ob hf
    exact retx_i hx hb hr (nr_b g9) hlocks hK (Nat.le_of_ble_eq_true rfl) (Nat.le_of_ble_eq_true rfl) (so1 hf).symm hP hD hS dX4_control_10

def rx_keyAt  (σ : RR) (a0 : Int32) (a1 : Int32) : Option (Ex (Int32 × RR)) :=
  xb (rx_tableWithSlot σ a0 a1) fun k1 s2 =>
  if k1 = 0 then
    bd (tt_isEmptyIn (rr_P s2) a1) fun v6 =>
    if v6 = 0 then
      bd (tt_keyIn (rr_P s2) a1) fun v8 =>
      some (.inl (v8, s2))
    else
      some (.inr (2, s2))
  else
    bd (tt_isEmptyIn (rr_O s2) a1) fun v9 =>
    if v9 = 0 then
      bd (tt_keyIn (rr_O s2) a1) fun v11 =>
      some (.inl (v11, s2))
    else
      some (.inr (2, s2))
set_option maxHeartbeats 4000000 in
set_option maxRecDepth 100000 in
theorem tX4_keyAt (l : Launch) (hT : l.stackTraces = false) (D : va_G) (ca : Nat → ClassId) (B : Nat → Nat) (ar : Nat → Nat → Nat) (sz : Nat) (σ : RR) (a0 : Int32) (a1 : Int32) (z : (Ex (Int32 × RR))) (hf : rx_keyAt σ a0 a1 = some z) : Cxi l D ca yX4_keyAt wsX4_keyAt { frames := 8, cells := 3, slots := 18, locals := 126 } [.ref (B 0), .int a0, .int a1] (wRR ca B ar) σ sz z 3 18 := by
  refine bodyx_of (cc := cX4_keyAt) (maxL := 4) (ret := (some .int)) (fun A => Qxi D ca (wRR ca B ar) z A) (fun A => Xx D ca (wRR ca B ar) z A) (by decide) rfl (Nat.le_of_ble_eq_true rfl) ?_
  intro p e s m below meth c A ls hx hb hr hml hts hown hlocks hA hK hP hD hS hl hN hX hxt
  have hl : lv_has ls 4 [(0, .ref (B 0)), (1, .int a0), (2, .int a1)] := hl
  generalize ([.ref (B 0), .int a0, .int a1] : List Value).toArray = args at hts ⊢
  unfold rx_keyAt at hf
  refine lv_aload_n hx hb dX4_keyAt_0 rfl (lv_at hl 0 rfl) ?_
  refine lv_iload_n hx hb dX4_keyAt_1 rfl (lv_at hl 1 rfl) ?_
  refine lv_iload_n hx hb dX4_keyAt_2 rfl (lv_at hl 2 rfl) ?_
  obtain ⟨z3, ez3, hlz3, hrz3⟩ := xb_ob hf
  refine callx_r (w := wRR ca B ar) (As := [.int a0, .int a1]) (rest := []) ⟨hx, hb, hml, hown, hts⟩ (tX4_tableWithSlot l hT D ca B ar _ σ a0 a1 z3 ez3) (cwV 2 hts gX4_keyAt_X4_tableWithSlot rfl rfl rfl (by decide +kernel) ⟨Nat.le_of_ble_eq_true rfl, Nat.le_of_ble_eq_true rfl⟩) hN hX hK hP hD hA hS rfl rfl rfl hl.1 rfl (lv_room (Nat.le_of_ble_eq_true rfl)) dX4_keyAt_3 ⟨Nat.le_of_ble_eq_true rfl, Nat.le_of_ble_eq_true rfl⟩ (fun k8 u4 ce8 q8 H locs hz8 hP hD hS h81 h82 h83 => out_x hxt hlocks hK (hrz3 _ hz8) hP hD hS h81 h82 h83 (Nat.le_of_ble_eq_true rfl) (Nat.le_of_ble_eq_true rfl)) (fun k1 s2 H locs hz8 hP hD hS => ?_)
  replace hf := hlz3 _ _ hz8
  by_cases c5 : k1 = 0
  · replace hf := it_p c5 hf
    refine W.eq (g2 := F0 m 6 ls [.ref (rr_ap s2)]) (by rw [adrT, if_pos c5]) ?_
    refine lv_astore_n (lv' := [(3, .ref (rr_ap s2)), (0, .ref (B 0)), (1, .int a0), (2, .int a1)]) hx hb dX4_keyAt_6 rfl hl (by decide) rfl (fun ls hl => ?_)
    refine lv_aload_n hx hb dX4_keyAt_7 rfl (lv_at hl 0 rfl) ?_
    refine lv_iload_n hx hb dX4_keyAt_8 rfl (lv_at hl 3 rfl) ?_
    obtain ⟨v6, ev6, hf⟩ := bd_ob hf
    refine call_i (As := [.int a1]) (rest := []) ⟨hx, hb, hml, hown, hts⟩ (tX3_isEmptyIn l D ca (rr_ap s2) (ar (rr_ap s2)) _ (rr_P s2) a1 v6 ev6) (cwV 1 hts gX4_keyAt_X3_isEmptyIn rfl rfl rfl (by decide +kernel) ⟨Nat.le_of_ble_eq_true rfl, Nat.le_of_ble_eq_true rfl⟩) hN hK hP hD hA hS (fr_RPp ca B ar s2) rfl rfl rfl hl.1 rfl (lv_room (Nat.le_of_ble_eq_true rfl)) dX4_keyAt_9 ⟨Nat.le_of_ble_eq_true rfl, Nat.le_of_ble_eq_true rfl⟩ (fun H locs hP hD hS => ?_)
    refine lv_if_eq (tgt := 25) hx hb dX4_keyAt_12 (by decide) (fun c7 => ?_) (fun c7 => ?_)
    · replace hf := it_p c7 hf
      refine lv_aload_n hx hb dX4_keyAt_25 rfl (lv_at hl 0 rfl) ?_
      refine lv_iload_n hx hb dX4_keyAt_26 rfl (lv_at hl 3 rfl) ?_
      obtain ⟨v8, ev8, hf⟩ := bd_ob hf
      refine call_i (As := [.int a1]) (rest := []) ⟨hx, hb, hml, hown, hts⟩ (tX3_keyIn l D ca (rr_ap s2) (ar (rr_ap s2)) _ (rr_P s2) a1 v8 ev8) (cwV 1 hts gX4_keyAt_X3_keyIn rfl rfl rfl (by decide +kernel) ⟨Nat.le_of_ble_eq_true rfl, Nat.le_of_ble_eq_true rfl⟩) hN hK hP hD hA hS (fr_RPp ca B ar s2) rfl rfl rfl hl.1 rfl (lv_room (Nat.le_of_ble_eq_true rfl)) dX4_keyAt_27 ⟨Nat.le_of_ble_eq_true rfl, Nat.le_of_ble_eq_true rfl⟩ (fun H locs hP hD hS => ?_)
      exact retx_i hx hb hr rfl hlocks hK (Nat.le_of_ble_eq_true rfl) (Nat.le_of_ble_eq_true rfl) (so1 hf).symm hP hD hS dX4_keyAt_30
    · replace hf := it_n c7 hf
      exact thr_S (w := wRR ca B ar) (Ts := wsX4_keyAt) (cls := "java/lang/IllegalStateException") (text := "the slot is empty") (names := ["java/lang/RuntimeException", "java/lang/Exception"]) hx hb hT hts hown hlocks hxt hN hX hK (hml.trans hl.1.symm) (by decide +kernel) (by decide +kernel) (by decide +kernel) (by decide +kernel) (by decide +kernel) (by decide +kernel) (by decide +kernel) (by decide +kernel) (by decide +kernel) hS hP hD (k := 2) rfl (so1 hf).symm dX4_keyAt_15 dX4_keyAt_18 dX4_keyAt_19 dX4_keyAt_21 dX4_keyAt_24 (Nat.le_of_ble_eq_true rfl) (Nat.le_of_ble_eq_true rfl) (Nat.le_of_ble_eq_true rfl) (Nat.le_of_ble_eq_true rfl) (Nat.le_of_ble_eq_true rfl) (Nat.le_of_ble_eq_true rfl)
  · replace hf := it_n c5 hf
    refine W.eq (g2 := F0 m 6 ls [.ref (rr_ao s2)]) (by rw [adrT, if_neg c5]) ?_
    refine lv_astore_n (lv' := [(3, .ref (rr_ao s2)), (0, .ref (B 0)), (1, .int a0), (2, .int a1)]) hx hb dX4_keyAt_6 rfl hl (by decide) rfl (fun ls hl => ?_)
    refine lv_aload_n hx hb dX4_keyAt_7 rfl (lv_at hl 0 rfl) ?_
    refine lv_iload_n hx hb dX4_keyAt_8 rfl (lv_at hl 3 rfl) ?_
    obtain ⟨v9, ev9, hf⟩ := bd_ob hf
    refine call_i (As := [.int a1]) (rest := []) ⟨hx, hb, hml, hown, hts⟩ (tX3_isEmptyIn l D ca (rr_ao s2) (ar (rr_ao s2)) _ (rr_O s2) a1 v9 ev9) (cwV 1 hts gX4_keyAt_X3_isEmptyIn rfl rfl rfl (by decide +kernel) ⟨Nat.le_of_ble_eq_true rfl, Nat.le_of_ble_eq_true rfl⟩) hN hK hP hD hA hS (fr_ROp ca B ar s2) rfl rfl rfl hl.1 rfl (lv_room (Nat.le_of_ble_eq_true rfl)) dX4_keyAt_9 ⟨Nat.le_of_ble_eq_true rfl, Nat.le_of_ble_eq_true rfl⟩ (fun H locs hP hD hS => ?_)
    refine lv_if_eq (tgt := 25) hx hb dX4_keyAt_12 (by decide) (fun c10 => ?_) (fun c10 => ?_)
    · replace hf := it_p c10 hf
      refine lv_aload_n hx hb dX4_keyAt_25 rfl (lv_at hl 0 rfl) ?_
      refine lv_iload_n hx hb dX4_keyAt_26 rfl (lv_at hl 3 rfl) ?_
      obtain ⟨v11, ev11, hf⟩ := bd_ob hf
      refine call_i (As := [.int a1]) (rest := []) ⟨hx, hb, hml, hown, hts⟩ (tX3_keyIn l D ca (rr_ao s2) (ar (rr_ao s2)) _ (rr_O s2) a1 v11 ev11) (cwV 1 hts gX4_keyAt_X3_keyIn rfl rfl rfl (by decide +kernel) ⟨Nat.le_of_ble_eq_true rfl, Nat.le_of_ble_eq_true rfl⟩) hN hK hP hD hA hS (fr_ROp ca B ar s2) rfl rfl rfl hl.1 rfl (lv_room (Nat.le_of_ble_eq_true rfl)) dX4_keyAt_27 ⟨Nat.le_of_ble_eq_true rfl, Nat.le_of_ble_eq_true rfl⟩ (fun H locs hP hD hS => ?_)
      exact retx_i hx hb hr rfl hlocks hK (Nat.le_of_ble_eq_true rfl) (Nat.le_of_ble_eq_true rfl) (so1 hf).symm hP hD hS dX4_keyAt_30
    · replace hf := it_n c10 hf
      exact thr_S (w := wRR ca B ar) (Ts := wsX4_keyAt) (cls := "java/lang/IllegalStateException") (text := "the slot is empty") (names := ["java/lang/RuntimeException", "java/lang/Exception"]) hx hb hT hts hown hlocks hxt hN hX hK (hml.trans hl.1.symm) (by decide +kernel) (by decide +kernel) (by decide +kernel) (by decide +kernel) (by decide +kernel) (by decide +kernel) (by decide +kernel) (by decide +kernel) (by decide +kernel) hS hP hD (k := 2) rfl (so1 hf).symm dX4_keyAt_15 dX4_keyAt_18 dX4_keyAt_19 dX4_keyAt_21 dX4_keyAt_24 (Nat.le_of_ble_eq_true rfl) (Nat.le_of_ble_eq_true rfl) (Nat.le_of_ble_eq_true rfl) (Nat.le_of_ble_eq_true rfl) (Nat.le_of_ble_eq_true rfl) (Nat.le_of_ble_eq_true rfl)

def rx_distanceAt  (σ : RR) (a0 : Int32) (a1 : Int32) : Option (Ex (Int32 × RR)) :=
  xb (rx_tableWithSlot σ a0 a1) fun k1 s2 =>
  if k1 = 0 then
    bd (tt_distanceIn (rr_P s2) a1) fun v6 =>
    some (.inl (v6, s2))
  else
    bd (tt_distanceIn (rr_O s2) a1) fun v7 =>
    some (.inl (v7, s2))
set_option maxHeartbeats 4000000 in
set_option maxRecDepth 100000 in
theorem tX4_distanceAt (l : Launch) (hT : l.stackTraces = false) (D : va_G) (ca : Nat → ClassId) (B : Nat → Nat) (ar : Nat → Nat → Nat) (sz : Nat) (σ : RR) (a0 : Int32) (a1 : Int32) (z : (Ex (Int32 × RR))) (hf : rx_distanceAt σ a0 a1 = some z) : Cxi l D ca yX4_distanceAt wsX4_distanceAt { frames := 8, cells := 2, slots := 12, locals := 126 } [.ref (B 0), .int a0, .int a1] (wRR ca B ar) σ sz z 2 12 := by
  refine bodyx_of (cc := cX4_distanceAt) (maxL := 3) (ret := (some .int)) (fun A => Qxi D ca (wRR ca B ar) z A) (fun A => Xx D ca (wRR ca B ar) z A) (by decide) rfl (Nat.le_of_ble_eq_true rfl) ?_
  intro p e s m below meth c A ls hx hb hr hml hts hown hlocks hA hK hP hD hS hl hN hX hxt
  have hl : lv_has ls 3 [(0, .ref (B 0)), (1, .int a0), (2, .int a1)] := hl
  generalize ([.ref (B 0), .int a0, .int a1] : List Value).toArray = args at hts ⊢
  unfold rx_distanceAt at hf
  refine lv_aload_n hx hb dX4_distanceAt_0 rfl (lv_at hl 0 rfl) ?_
  refine lv_iload_n hx hb dX4_distanceAt_1 rfl (lv_at hl 1 rfl) ?_
  refine lv_iload_n hx hb dX4_distanceAt_2 rfl (lv_at hl 2 rfl) ?_
  obtain ⟨z3, ez3, hlz3, hrz3⟩ := xb_ob hf
  refine callx_r (w := wRR ca B ar) (As := [.int a0, .int a1]) (rest := []) ⟨hx, hb, hml, hown, hts⟩ (tX4_tableWithSlot l hT D ca B ar _ σ a0 a1 z3 ez3) (cwV 2 hts gX4_distanceAt_X4_tableWithSlot rfl rfl rfl (by decide +kernel) ⟨Nat.le_of_ble_eq_true rfl, Nat.le_of_ble_eq_true rfl⟩) hN hX hK hP hD hA hS rfl rfl rfl hl.1 rfl (lv_room (Nat.le_of_ble_eq_true rfl)) dX4_distanceAt_3 ⟨Nat.le_of_ble_eq_true rfl, Nat.le_of_ble_eq_true rfl⟩ (fun k8 u4 ce8 q8 H locs hz8 hP hD hS h81 h82 h83 => out_x hxt hlocks hK (hrz3 _ hz8) hP hD hS h81 h82 h83 (Nat.le_of_ble_eq_true rfl) (Nat.le_of_ble_eq_true rfl)) (fun k1 s2 H locs hz8 hP hD hS => ?_)
  replace hf := hlz3 _ _ hz8
  by_cases c5 : k1 = 0
  · replace hf := it_p c5 hf
    refine W.eq (g2 := F0 m 6 ls [.ref (rr_ap s2)]) (by rw [adrT, if_pos c5]) ?_
    refine lv_iload_n hx hb dX4_distanceAt_6 rfl (lv_at hl 2 rfl) ?_
    obtain ⟨v6, ev6, hf⟩ := bd_ob hf
    refine call_i (As := [.int a1]) (rest := []) ⟨hx, hb, hml, hown, hts⟩ (tX3_distanceIn l D ca (rr_ap s2) (ar (rr_ap s2)) _ (rr_P s2) a1 v6 ev6) (cwV 1 hts gX4_distanceAt_X3_distanceIn rfl rfl rfl (by decide +kernel) ⟨Nat.le_of_ble_eq_true rfl, Nat.le_of_ble_eq_true rfl⟩) hN hK hP hD hA hS (fr_RPp ca B ar s2) rfl rfl rfl hl.1 rfl (lv_room (Nat.le_of_ble_eq_true rfl)) dX4_distanceAt_7 ⟨Nat.le_of_ble_eq_true rfl, Nat.le_of_ble_eq_true rfl⟩ (fun H locs hP hD hS => ?_)
    exact retx_i hx hb hr rfl hlocks hK (Nat.le_of_ble_eq_true rfl) (Nat.le_of_ble_eq_true rfl) (so1 hf).symm hP hD hS dX4_distanceAt_10
  · replace hf := it_n c5 hf
    refine W.eq (g2 := F0 m 6 ls [.ref (rr_ao s2)]) (by rw [adrT, if_neg c5]) ?_
    refine lv_iload_n hx hb dX4_distanceAt_6 rfl (lv_at hl 2 rfl) ?_
    obtain ⟨v7, ev7, hf⟩ := bd_ob hf
    refine call_i (As := [.int a1]) (rest := []) ⟨hx, hb, hml, hown, hts⟩ (tX3_distanceIn l D ca (rr_ao s2) (ar (rr_ao s2)) _ (rr_O s2) a1 v7 ev7) (cwV 1 hts gX4_distanceAt_X3_distanceIn rfl rfl rfl (by decide +kernel) ⟨Nat.le_of_ble_eq_true rfl, Nat.le_of_ble_eq_true rfl⟩) hN hK hP hD hA hS (fr_ROp ca B ar s2) rfl rfl rfl hl.1 rfl (lv_room (Nat.le_of_ble_eq_true rfl)) dX4_distanceAt_7 ⟨Nat.le_of_ble_eq_true rfl, Nat.le_of_ble_eq_true rfl⟩ (fun H locs hP hD hS => ?_)
    exact retx_i hx hb hr rfl hlocks hK (Nat.le_of_ble_eq_true rfl) (Nat.le_of_ble_eq_true rfl) (so1 hf).symm hP hD hS dX4_distanceAt_10

def rx_displaced  (σ : RR) (a0 : Int32) : Option (Ex (Int32 × RR)) :=
  bd (rr_hash σ a0) fun v1 =>
  bd (ss_begin (rr_se σ)) fun s3 =>
  nm (rr_se' σ s3) fun s4 =>
  bd (ss_lookIn (rr_ap s4) (rr_P s4) (rr_se s4) a0 v1) fun s6 =>
  nm (rr_se' s4 s6) fun s7 =>
  bd (ss_hasFound (rr_se s7)) fun v8 =>
  if v8 = 0 then
    bd (tt_displacedBy (rr_P s7) v1) fun v10 =>
    some (.inl (v10, s7))
  else
    some (.inr (2, s7))
set_option maxHeartbeats 4000000 in
set_option maxRecDepth 100000 in
theorem tX4_displaced (l : Launch) (hT : l.stackTraces = false) (D : va_G) (ca : Nat → ClassId) (B : Nat → Nat) (ar : Nat → Nat → Nat) (sz : Nat) (σ : RR) (a0 : Int32) (z : (Ex (Int32 × RR))) (hf : rx_displaced σ a0 = some z) : Cxi l D ca yX4_displaced wsX4_displaced { frames := 6, cells := 1, slots := 6, locals := 82 } [.ref (B 0), .int a0] (wRR ca B ar) σ sz z 1 6 := by
  refine bodyx_of (cc := cX4_displaced) (maxL := 3) (ret := (some .int)) (fun A => Qxi D ca (wRR ca B ar) z A) (fun A => Xx D ca (wRR ca B ar) z A) (by decide) rfl (Nat.le_of_ble_eq_true rfl) ?_
  intro p e s m below meth c A ls hx hb hr hml hts hown hlocks hA hK hP hD hS hl hN hX hxt
  have hl : lv_has ls 3 [(0, .ref (B 0)), (1, .int a0)] := hl
  generalize ([.ref (B 0), .int a0] : List Value).toArray = args at hts ⊢
  have f18 := hts (.fieldLink RX4 18 "RobinRow" "search" "LRobinRow$Search;") (by decide +kernel)
  have f34 := hts (.fieldLink RX4 34 "RobinRow" "present" "LRobinRow$Table;") (by decide +kernel)
  have in4 : ∀ w ∈ u_ws RX4 TX4 7, w ∈ wsX4_displaced := by decide +kernel
  unfold rx_displaced at hf
  refine lv_aload_n hx hb dX4_displaced_0 rfl (lv_at hl 0 rfl) ?_
  refine lv_iload_n hx hb dX4_displaced_1 rfl (lv_at hl 1 rfl) ?_
  obtain ⟨v1, ev1, hf⟩ := bd_ob hf
  refine call_i (As := [.int a0]) (rest := []) ⟨hx, hb, hml, hown, hts⟩ (tX4_hash l D ca B ar _ σ a0 v1 ev1) (cwV 1 hts gX4_displaced_X4_hash rfl rfl rfl (by decide +kernel) ⟨Nat.le_of_ble_eq_true rfl, Nat.le_of_ble_eq_true rfl⟩) hN hK hP hD hA hS (fr_id _ _) rfl rfl rfl hl.1 rfl (lv_room (Nat.le_of_ble_eq_true rfl)) dX4_displaced_2 ⟨Nat.le_of_ble_eq_true rfl, Nat.le_of_ble_eq_true rfl⟩ (fun H locs hP hD hS => ?_)
  refine lv_istore_n (lv' := [(2, .int v1), (0, .ref (B 0)), (1, .int a0)]) hx hb dX4_displaced_5 rfl hl (by decide) rfl (fun ls hl => ?_)
  refine lv_aload_n hx hb dX4_displaced_6 rfl (lv_at hl 1 rfl) ?_
  refine va_get (D := D) (ci := 4) (v := .ref (B 6)) (C := RX4) (T := TX4) (N := 7) hx hb hts in4 hown hK hP 0 rfl rfl 1 (by decide) f18 (fun _ h9 => h9) rfl dX4_displaced_7 ?_
  obtain ⟨s3, es3, hf⟩ := bd_ob hf
  refine call_v (As := []) (rest := []) ⟨hx, hb, hml, hown, hts⟩ (tX1_begin l D ca (B 6) _ (rr_se σ) s3 es3) (cwV 0 hts gX4_displaced_X1_begin rfl rfl rfl (by decide +kernel) ⟨Nat.le_of_ble_eq_true rfl, Nat.le_of_ble_eq_true rfl⟩) hN hK hP hD hA hS (fr_RS ca B ar σ s3) rfl rfl rfl hl.1 rfl (lv_room (Nat.le_of_ble_eq_true rfl)) dX4_displaced_10 ⟨Nat.le_of_ble_eq_true rfl, Nat.le_of_ble_eq_true rfl⟩ (fun H locs hP hD hS => ?_)
  obtain ⟨s4, es4, hf⟩ := nm_ob hf
  have hP : va_P D vwCl (wRR ca B ar s4) H := by rw [← es4]; exact hP
  have hD : va_D A (wRR ca B ar s4) := by rw [← es4]; exact hD
  refine lv_aload_n hx hb dX4_displaced_13 rfl (lv_at hl 1 rfl) ?_
  refine va_get (D := D) (ci := 4) (v := .ref (B 6)) (C := RX4) (T := TX4) (N := 7) hx hb hts in4 hown hK hP 0 rfl rfl 1 (by decide) f18 (fun _ h9 => h9) rfl dX4_displaced_14 ?_
  refine lv_aload_n hx hb dX4_displaced_17 rfl (lv_at hl 1 rfl) ?_
  refine va_get (D := D) (ci := 4) (v := .ref (rr_ap s4)) (C := RX4) (T := TX4) (N := 7) hx hb hts in4 hown hK hP 0 rfl rfl 3 (by decide) f34 (fun _ h9 => h9) rfl dX4_displaced_18 ?_
  refine lv_iload_n hx hb dX4_displaced_21 rfl (lv_at hl 2 rfl) ?_
  refine lv_iload_n hx hb dX4_displaced_22 rfl (lv_at hl 0 rfl) ?_
  obtain ⟨s6, es6, hf⟩ := bd_ob hf
  refine call_v (As := [.ref (rr_ap s4), .int a0, .int v1]) (rest := []) ⟨hx, hb, hml, hown, hts⟩ (tX1_lookIn l D ca (B 6) (ar (rr_ap s4)) _ (rr_ap s4) (rr_P s4) (rr_se s4) a0 v1 s6 es6) (cwV 3 hts gX4_displaced_X1_lookIn rfl rfl rfl (by decide +kernel) ⟨Nat.le_of_ble_eq_true rfl, Nat.le_of_ble_eq_true rfl⟩) hN hK hP hD hA hS (fr_RLP ca B ar s4 s6) rfl rfl rfl hl.1 rfl (lv_room (Nat.le_of_ble_eq_true rfl)) dX4_displaced_23 ⟨Nat.le_of_ble_eq_true rfl, Nat.le_of_ble_eq_true rfl⟩ (fun H locs hP hD hS => ?_)
  obtain ⟨s7, es7, hf⟩ := nm_ob hf
  have hP : va_P D vwCl (wRR ca B ar s7) H := by rw [← es7]; exact hP
  have hD : va_D A (wRR ca B ar s7) := by rw [← es7]; exact hD
  refine lv_aload_n hx hb dX4_displaced_26 rfl (lv_at hl 1 rfl) ?_
  refine va_get (D := D) (ci := 4) (v := .ref (B 6)) (C := RX4) (T := TX4) (N := 7) hx hb hts in4 hown hK hP 0 rfl rfl 1 (by decide) f18 (fun _ h9 => h9) rfl dX4_displaced_27 ?_
  obtain ⟨v8, ev8, hf⟩ := bd_ob hf
  refine call_i (As := []) (rest := []) ⟨hx, hb, hml, hown, hts⟩ (tX1_hasFound l D ca (B 6) _ (rr_se s7) v8 ev8) (cwV 0 hts gX4_displaced_X1_hasFound rfl rfl rfl (by decide +kernel) ⟨Nat.le_of_ble_eq_true rfl, Nat.le_of_ble_eq_true rfl⟩) hN hK hP hD hA hS (fr_RSp ca B ar s7) rfl rfl rfl hl.1 rfl (lv_room (Nat.le_of_ble_eq_true rfl)) dX4_displaced_30 ⟨Nat.le_of_ble_eq_true rfl, Nat.le_of_ble_eq_true rfl⟩ (fun H locs hP hD hS => ?_)
  refine lv_if_eq (tgt := 46) hx hb dX4_displaced_33 (by decide) (fun c9 => ?_) (fun c9 => ?_)
  · replace hf := it_p c9 hf
    refine lv_aload_n hx hb dX4_displaced_46 rfl (lv_at hl 1 rfl) ?_
    refine va_get (D := D) (ci := 4) (v := .ref (rr_ap s7)) (C := RX4) (T := TX4) (N := 7) hx hb hts in4 hown hK hP 0 rfl rfl 3 (by decide) f34 (fun _ h9 => h9) rfl dX4_displaced_47 ?_
    refine lv_iload_n hx hb dX4_displaced_50 rfl (lv_at hl 0 rfl) ?_
    obtain ⟨v10, ev10, hf⟩ := bd_ob hf
    refine call_i (As := [.int v1]) (rest := []) ⟨hx, hb, hml, hown, hts⟩ (tX3_displacedBy l D ca (rr_ap s7) (ar (rr_ap s7)) _ (rr_P s7) v1 v10 ev10) (cwV 1 hts gX4_displaced_X3_displacedBy rfl rfl rfl (by decide +kernel) ⟨Nat.le_of_ble_eq_true rfl, Nat.le_of_ble_eq_true rfl⟩) hN hK hP hD hA hS (fr_RPp ca B ar s7) rfl rfl rfl hl.1 rfl (lv_room (Nat.le_of_ble_eq_true rfl)) dX4_displaced_51 ⟨Nat.le_of_ble_eq_true rfl, Nat.le_of_ble_eq_true rfl⟩ (fun H locs hP hD hS => ?_)
    exact retx_i hx hb hr rfl hlocks hK (Nat.le_of_ble_eq_true rfl) (Nat.le_of_ble_eq_true rfl) (so1 hf).symm hP hD hS dX4_displaced_54
  · replace hf := it_n c9 hf
    exact thr_S (w := wRR ca B ar) (Ts := wsX4_displaced) (cls := "java/lang/IllegalStateException") (text := "the key is in the present table") (names := ["java/lang/RuntimeException", "java/lang/Exception"]) hx hb hT hts hown hlocks hxt hN hX hK (hml.trans hl.1.symm) (by decide +kernel) (by decide +kernel) (by decide +kernel) (by decide +kernel) (by decide +kernel) (by decide +kernel) (by decide +kernel) (by decide +kernel) (by decide +kernel) hS hP hD (k := 2) rfl (so1 hf).symm dX4_displaced_36 dX4_displaced_39 dX4_displaced_40 dX4_displaced_42 dX4_displaced_45 (Nat.le_of_ble_eq_true rfl) (Nat.le_of_ble_eq_true rfl) (Nat.le_of_ble_eq_true rfl) (Nat.le_of_ble_eq_true rfl) (Nat.le_of_ble_eq_true rfl) (Nat.le_of_ble_eq_true rfl)
