/-! tables seen from outside -/
theorem nn_ex {b : Int32} (h : ¬ b < 0) : ∃ i, i < 2 ^ 31 ∧ b = nI i := by
  have h1 := Int32.toInt_lt b
  rw [Int32.lt_iff_toInt_lt, Int32.toInt_zero] at h
  have h2 : b.toInt.toNat < 2 ^ 31 := by omega
  refine ⟨b.toInt.toNat, h2, Int32.toInt_inj.mp ?_⟩
  rw [nI_toInt h2]
  omega
theorem in_out {a : Int32} (h0 : a ≠ 0) (h1 : a ≠ 1) : mm_in a 0 1 = some 0 := by
  unfold mm_in
  split
  · rfl
  · rename_i q0
    split
    · rfl
    · rename_i q1
      obtain ⟨i, hi, rfl⟩ := nn_ex q0
      rw [show (1 : Int32) = nI 1 from rfl] at q1 h1
      rw [show (0 : Int32) = nI 0 from rfl] at h0
      rw [nI_ltI (by omega) hi] at q1
      rw [ne_eq, nI_eq hi (by omega)] at h0 h1
      omega
theorem in_0 : mm_in 0 0 1 = some 1 := rfl
theorem in_1 : mm_in 1 0 1 = some 1 := rfl
theorem in_slot {n : Nat} (hn : n ≤ 256) (b : Int32) : (∃ i, i < n ∧ b = nI i ∧ mm_in b 0 (nI n - 1) = some 1) ∨ (mm_in b 0 (nI n - 1) = some 0 ∧ (b < 0 ∨ (¬ b < 0 ∧ ¬ b < nI n))) := by
  by_cases q : b < 0
  · refine Or.inr ⟨?_, Or.inl q⟩
    unfold mm_in
    rw [it_T q]
  · obtain ⟨i, hi, rfl⟩ := nn_ex q
    by_cases q2 : i < n
    · obtain ⟨n, rfl⟩ : ∃ n2, n = n2 + 1 := ⟨n - 1, by omega⟩
      refine Or.inl ⟨i, q2, rfl, ?_⟩
      unfold mm_in
      rw [it_F q, nI_pred, it_F (nI_nlt (by omega) (by omega))]
    · refine Or.inr ⟨?_, Or.inr ⟨q, nI_nlt (by omega) hi⟩⟩
      unfold mm_in
      rw [it_F q]
      cases n with
      | zero =>
        refine it_T ?_
        rw [show nI 0 - 1 = (-1 : Int32) from rfl, Int32.lt_iff_toInt_lt, nI_toInt hi, show (-1 : Int32).toInt = -1 from rfl]
        omega
      | succ n => rw [nI_pred, it_T (nI_lt (by omega) hi)]
theorem fine0 (m : MS) : mm_isFine m 0 = some (1, m_thrown' m 0) := rfl
theorem fine1 (m : MS) : mm_isFine m 1 = some (0, m_thrown' m 1) := rfl
theorem fine2 (m : MS) : mm_isFine m 2 = some (0, m_thrown' m 2) := rfl
theorem tab0 (m : MS) : mm_tableOf m 0 = some (m_present m) := rfl
theorem tab1 (m : MS) : mm_tableOf m 1 = some (1 - m_present m) := by
  unfold mm_tableOf
  rw [it_F o10]
theorem tabX (m : MS) (a : Int32) : ∃ T, mm_tableOf m a = some T := by
  unfold mm_tableOf
  split
  · exact ⟨_, rfl⟩
  · exact ⟨_, rfl⟩
theorem xb_inl {α β : Type} (a : α) (u : RR) (F : α → RR → Option (Ex β)) : xb (some (.inl (a, u))) F = F a u := rfl
theorem xb_inr {α β : Type} (u : Nat × RR) (F : α → RR → Option (Ex β)) : xb (some (.inr u)) F = some (.inr u) := rfl
theorem tOf0 (x : RR) : rx_tableOf x 0 = some (.inl (0, x)) := rfl
theorem tOf1 (x : RR) : rx_tableOf x 1 = some (.inl (1, x)) := by
  unfold rx_tableOf
  rw [it_F o10, it_T rfl, it_F o10]
theorem tOfX (x : RR) {a : Int32} (h0 : a ≠ 0) (h1 : a ≠ 1) : rx_tableOf x a = some (.inr (3, x)) := by
  unfold rx_tableOf
  rw [it_F h0, it_F h1]
theorem n10 : ¬ (1 : Nat) = 0 := by decide
section TO
variable {x x' : RR} {m m' : MS} {B : Nat} {w : Int32} {t nP nO : Nat} {cP cO : Ct}
theorem slots_ag (h : Inv x m B) (a : Int32) : Ag 3 3 (rx_slots x a) (mm_slots m a) B := by
  obtain ⟨w, t, nP, nO, cP, cO, hT⟩ := h.1
  have ht := hT.t2
  by_cases q0 : a = 0
  · subst q0
    refine Or.inl ⟨nI nP, x, m_thrown' m 0, ?_, ?_, rfl, h.thr 0⟩
    · unfold rx_slots
      rw [tOf0, xb_inl, it_T rfl, hT.tP.1.1]
    · unfold mm_slots mm_slots_15
      rw [in_0, bd_some, it_F o10, fine0, bd2_some, it_F o10, tab0, bd_some, (hT.thr 0).pr, g2 ht, cl2 ht, (hT.thr 0).tP.2.1.1]
  · by_cases q1 : a = 1
    · subst q1
      refine Or.inl ⟨nI nO, x, m_thrown' m 0, ?_, ?_, rfl, h.thr 0⟩
      · unfold rx_slots
        rw [tOf1, xb_inl, it_F n10, hT.tO.1.1]
      · unfold mm_slots mm_slots_15
        rw [in_1, bd_some, it_F o10, fine0, bd2_some, it_F o10, tab1, bd_some, (hT.thr 0).pr, one_sub ht, g2 (by omega), cl2 (by omega), (hT.thr 0).tO.2.1.1]
    · refine Or.inr (Or.inl ⟨x, 0, m_thrown' m 1, ?_, ?_, rfl, h.thr 1⟩)
      · unfold rx_slots
        rw [tOfX x q0 q1, xb_inr]
      · unfold mm_slots mm_slots_15
        rw [in_out q0 q1, bd_some, it_T rfl, fine1, bd2_some, it_T rfl]
theorem keysIn_ag (h : Inv x m B) (a : Int32) : Ag 3 3 (rx_keysIn x a) (mm_keysIn m a) B := by
  obtain ⟨w, t, nP, nO, cP, cO, hT⟩ := h.1
  have ht := hT.t2
  by_cases q0 : a = 0
  · subst q0
    refine Or.inl ⟨nI (cnt nP cP), x, m_thrown' m 0, ?_, ?_, rfl, h.thr 0⟩
    · unfold rx_keysIn
      rw [tOf0, xb_inl, it_T rfl, hT.tP.2.2.1]
    · unfold mm_keysIn mm_keysIn_15
      rw [in_0, bd_some, it_F o10, fine0, bd2_some, it_F o10, tab0, bd_some, (hT.thr 0).pr, g2 ht, cl2 ht, (hT.thr 0).tP.2.2.2.1]
  · by_cases q1 : a = 1
    · subst q1
      refine Or.inl ⟨nI (cnt nO cO), x, m_thrown' m 0, ?_, ?_, rfl, h.thr 0⟩
      · unfold rx_keysIn
        rw [tOf1, xb_inl, it_F n10, hT.tO.2.2.1]
      · unfold mm_keysIn mm_keysIn_15
        rw [in_1, bd_some, it_F o10, fine0, bd2_some, it_F o10, tab1, bd_some, (hT.thr 0).pr, one_sub ht, g2 (by omega), cl2 (by omega), (hT.thr 0).tO.2.2.2.1]
    · refine Or.inr (Or.inl ⟨x, 0, m_thrown' m 1, ?_, ?_, rfl, h.thr 1⟩)
      · unfold rx_keysIn
        rw [tOfX x q0 q1, xb_inr]
      · unfold mm_keysIn mm_keysIn_15
        rw [in_out q0 q1, bd_some, it_T rfl, fine1, bd2_some, it_T rfl]
theorem tws_cases (hT : TI w t nP nO cP cO x m) (a b : Int32) : (rx_tableWithSlot x a b = some (.inr (3, x)) ∧ mm_isSlot m a b = some 0) ∨ (∃ i, i < nP ∧ a = 0 ∧ b = nI i ∧ rx_tableWithSlot x a b = some (.inl (0, x)) ∧ mm_isSlot m a b = some 1) ∨ ∃ i, i < nO ∧ a = 1 ∧ b = nI i ∧ rx_tableWithSlot x a b = some (.inl (1, x)) ∧ mm_isSlot m a b = some 1 := by
  have ht := hT.t2
  have hsz := hT.sz.le
  have h256 := hT.nO256
  by_cases q0 : a = 0
  · subst q0
    have hX : rx_tableWithSlot x 0 b = if b < 0 then some (.inr (3, x)) else if b < nI nP then some (.inl (0, x)) else some (.inr (3, x)) := by
      unfold rx_tableWithSlot
      rw [tOf0, xb_inl, it_T rfl, hT.tP.1.1]
    have hM : mm_isSlot m 0 b = bd (mm_in b 0 (nI nP - 1)) fun v5 => if v5 = 0 then some 0 else some 1 := by
      unfold mm_isSlot
      rw [in_0, bd_some, it_F o10, tab0, bd_some, hT.pr, g2 ht, cl2 ht, hT.tP.2.1.1]
    rcases in_slot hsz.2 b with ⟨i, hi, rfl, hin⟩ | ⟨hin, hb⟩
    · refine Or.inr (Or.inl ⟨i, hi, rfl, rfl, ?_, ?_⟩)
      · rw [hX, it_F (nI_pos (by omega)), it_T (nI_lt hi (by omega))]
      · rw [hM, hin, bd_some, it_F o10]
    · refine Or.inl ⟨?_, ?_⟩
      · rw [hX]
        rcases hb with hb | ⟨hb, hb2⟩
        · rw [it_T hb]
        · rw [it_F hb, it_F hb2]
      · rw [hM, hin, bd_some, it_T rfl]
  · by_cases q1 : a = 1
    · subst q1
      have hX : rx_tableWithSlot x 1 b = if b < 0 then some (.inr (3, x)) else if b < nI nO then some (.inl (1, x)) else some (.inr (3, x)) := by
        unfold rx_tableWithSlot
        rw [tOf1, xb_inl, it_F n10, hT.tO.1.1]
      have hM : mm_isSlot m 1 b = bd (mm_in b 0 (nI nO - 1)) fun v5 => if v5 = 0 then some 0 else some 1 := by
        unfold mm_isSlot
        rw [in_1, bd_some, it_F o10, tab1, bd_some, hT.pr, one_sub ht, g2 (by omega), cl2 (by omega), hT.tO.2.1.1]
      rcases in_slot h256 b with ⟨i, hi, rfl, hin⟩ | ⟨hin, hb⟩
      · refine Or.inr (Or.inr ⟨i, hi, rfl, rfl, ?_, ?_⟩)
        · rw [hX, it_F (nI_pos (by omega)), it_T (nI_lt hi (by omega))]
        · rw [hM, hin, bd_some, it_F o10]
      · refine Or.inl ⟨?_, ?_⟩
        · rw [hX]
          rcases hb with hb | ⟨hb, hb2⟩
          · rw [it_T hb]
          · rw [it_F hb, it_F hb2]
        · rw [hM, hin, bd_some, it_T rfl]
    · refine Or.inl ⟨?_, ?_⟩
      · unfold rx_tableWithSlot
        rw [tOfX x q0 q1, xb_inr]
      · unfold mm_isSlot
        rw [in_out q0 q1, bd_some, it_T rfl]
theorem control_ag (h : Inv x m B) (a b : Int32) : Ag 3 3 (rx_control x a b) (mm_control m a b) B := by
  obtain ⟨w, t, nP, nO, cP, cO, hT⟩ := h.1
  have ht := hT.t2
  have hsz := hT.sz.le
  have h256 := hT.nO256
  have hT0 := hT.thr 0
  rcases tws_cases hT a b with ⟨h1, h2⟩ | ⟨i, hi, rfl, rfl, h1, h2⟩ | ⟨i, hi, rfl, rfl, h1, h2⟩
  · refine Or.inr (Or.inl ⟨x, 0, m_thrown' m 1, ?_, ?_, rfl, h.thr 1⟩)
    · unfold rx_control
      rw [h1, xb_inr]
    · unfold mm_control mm_control_15
      rw [h2, bd_some, it_T rfl, fine1, bd2_some, it_T rfl]
  · refine Or.inl ⟨ctlv (hsh w) (cP i), x, m_thrown' m 0, ?_, ?_, rfl, h.thr 0⟩
    · unfold rx_control
      rw [h1, xb_inl, it_T rfl, t_ctl (by omega) (hT.tP.1.2 i hi), bd_some, gn_of (ctlv_nar _)]
    · unfold mm_control mm_control_15
      rw [h2, bd_some, it_F o10, fine0, bd2_some, it_F o10, tab0, bd_some, hT0.pr, m_ctl hT0.wy hT0.mw ht hT0.tP.2.1 (by omega), bd_some, gn_of (ctlv_nar _)]
  · refine Or.inl ⟨ctlv (hsh w) (cO i), x, m_thrown' m 0, ?_, ?_, rfl, h.thr 0⟩
    · unfold rx_control
      rw [h1, xb_inl, it_F n10, t_ctl (by omega) (hT.tO.1.2 i hi), bd_some, gn_of (ctlv_nar _)]
    · unfold mm_control mm_control_15
      rw [h2, bd_some, it_F o10, fine0, bd2_some, it_F o10, tab1, bd_some, hT0.pr, one_sub ht, m_ctl hT0.wy hT0.mw (by omega) hT0.tO.2.1 (by omega), bd_some, gn_of (ctlv_nar _)]
theorem keyAt_ag (h : Inv x m B) (a b : Int32) : Ag 3 2 (rx_keyAt x a b) (mm_keyAt m a b) B := by
  obtain ⟨w, t, nP, nO, cP, cO, hT⟩ := h.1
  have ht := hT.t2
  have hsz := hT.sz.le
  have h256 := hT.nO256
  have hT0 := hT.thr 0
  rcases tws_cases hT a b with ⟨h1, h2⟩ | ⟨i, hi, rfl, rfl, h1, h2⟩ | ⟨i, hi, rfl, rfl, h1, h2⟩
  · obtain ⟨T, hTa⟩ := tabX m a
    refine Or.inr (Or.inl ⟨x, 0, m_thrown' m 1, ?_, ?_, rfl, h.thr 1⟩)
    · unfold rx_keyAt
      rw [h1, xb_inr]
    · unfold mm_keyAt mm_keyAt_40
      rw [hTa, bd_some, nm_eq, h2, bd_some, it_T rfl, fine1, bd2_some, it_T rfl]
  · have hX : rx_keyAt x 0 (nI i) = bd (tt_isEmptyIn (rr_P x) (nI i)) fun v6 => if v6 = 0 then bd (tt_keyIn (rr_P x) (nI i)) fun v8 => some (.inl (v8, x)) else some (.inr (2, x)) := by
      unfold rx_keyAt
      rw [h1, xb_inl, it_T rfl]
    have hM : mm_keyAt m 0 (nI i) = if m_full m (256 * t + i) = 0 then mm_keyAt_40 m (nI (256 * t + i)) 2 else mm_keyAt_40 m (nI (256 * t + i)) 0 := by
      unfold mm_keyAt
      rw [tab0, bd_some, hT.pr, nm_eq, ixe, h2, bd_some, it_F o10, g512 (by omega), cl512 (by omega)]
    rw [hX, hM]
    cases hc : cP i with
    | none =>
      refine Or.inr (Or.inr ⟨x, 0, m_thrown' m 2, by decide, ?_, ?_, rfl, h.thr 2⟩)
      · rw [t_emptyN (by omega) (hT.tP.1.2 i hi) hc, bd_some, it_F o10]
      · rw [mk_none (hT.tP.2.1.2 i (by omega)) hc, it_T rfl]
        unfold mm_keyAt_40
        rw [fine2, bd2_some, it_T rfl]
    | some e =>
      obtain ⟨k, v⟩ := e
      have hk := mk_some (hT0.tP.2.1.2 i (by omega)) hc
      refine Or.inl ⟨k, x, m_thrown' m 0, ?_, ?_, rfl, h.thr 0⟩
      · rw [t_emptyS (by omega) (hT.tP.1.2 i hi) hc, bd_some, it_T rfl, t_key (by omega) (hT.tP.1.2 i hi) hc, bd_some]
      · rw [(mk_some (hT.tP.2.1.2 i (by omega)) hc).1, it_F o10]
        unfold mm_keyAt_40
        rw [fine0, bd2_some, it_F o10, g512 (by omega), cl512 (by omega), hk.2.1]
  · have hX : rx_keyAt x 1 (nI i) = bd (tt_isEmptyIn (rr_O x) (nI i)) fun v6 => if v6 = 0 then bd (tt_keyIn (rr_O x) (nI i)) fun v8 => some (.inl (v8, x)) else some (.inr (2, x)) := by
      unfold rx_keyAt
      rw [h1, xb_inl, it_F n10]
    have hM : mm_keyAt m 1 (nI i) = if m_full m (256 * (1 - t) + i) = 0 then mm_keyAt_40 m (nI (256 * (1 - t) + i)) 2 else mm_keyAt_40 m (nI (256 * (1 - t) + i)) 0 := by
      unfold mm_keyAt
      rw [tab1, bd_some, hT.pr, one_sub ht, nm_eq, ixe, h2, bd_some, it_F o10, g512 (by omega), cl512 (by omega)]
    rw [hX, hM]
    cases hc : cO i with
    | none =>
      refine Or.inr (Or.inr ⟨x, 0, m_thrown' m 2, by decide, ?_, ?_, rfl, h.thr 2⟩)
      · rw [t_emptyN (by omega) (hT.tO.1.2 i hi) hc, bd_some, it_F o10]
      · rw [mk_none (hT.tO.2.1.2 i (by omega)) hc, it_T rfl]
        unfold mm_keyAt_40
        rw [fine2, bd2_some, it_T rfl]
    | some e =>
      obtain ⟨k, v⟩ := e
      have hk := mk_some (hT0.tO.2.1.2 i (by omega)) hc
      refine Or.inl ⟨k, x, m_thrown' m 0, ?_, ?_, rfl, h.thr 0⟩
      · rw [t_emptyS (by omega) (hT.tO.1.2 i hi) hc, bd_some, it_T rfl, t_key (by omega) (hT.tO.1.2 i hi) hc, bd_some]
      · rw [(mk_some (hT.tO.2.1.2 i (by omega)) hc).1, it_F o10]
        unfold mm_keyAt_40
        rw [fine0, bd2_some, it_F o10, g512 (by omega), cl512 (by omega), hk.2.1]
theorem distanceAt_ag (h : Inv x m B) (a b : Int32) : Ag 3 3 (rx_distanceAt x a b) (mm_distanceAt m a b) B := by
  obtain ⟨w, t, nP, nO, cP, cO, hT⟩ := h.1
  have ht := hT.t2
  have hsz := hT.sz.le
  have h256 := hT.nO256
  have hT0 := hT.thr 0
  rcases tws_cases hT a b with ⟨h1, h2⟩ | ⟨i, hi, rfl, rfl, h1, h2⟩ | ⟨i, hi, rfl, rfl, h1, h2⟩
  · refine Or.inr (Or.inl ⟨x, 0, m_thrown' m 1, ?_, ?_, rfl, h.thr 1⟩)
    · unfold rx_distanceAt
      rw [h1, xb_inr]
    · unfold mm_distanceAt mm_distanceAt_15
      rw [h2, bd_some, it_T rfl, fine1, bd2_some, it_T rfl]
  · have hX : rx_distanceAt x 0 (nI i) = bd (tt_distanceIn (rr_P x) (nI i)) fun v6 => some (.inl (v6, x)) := by
      unfold rx_distanceAt
      rw [h1, xb_inl, it_T rfl]
    have hM : mm_distanceAt m 0 (nI i) = if m_full (m_thrown' m 0) (256 * t + i) = 0 then some (-1, m_thrown' m 0) else bd (mm_distance (m_thrown' m 0) (nI t) (nI i)) fun v9 => some (v9, m_thrown' m 0) := by
      unfold mm_distanceAt mm_distanceAt_15
      rw [h2, bd_some, it_F o10, fine0, bd2_some, it_F o10, tab0, bd_some, hT0.pr, ixe, g512 (by omega), cl512 (by omega)]
    rw [hX, hM]
    cases hc : cP i with
    | none =>
      refine Or.inl ⟨-1, x, m_thrown' m 0, ?_, ?_, rfl, h.thr 0⟩
      · rw [t_distN (by omega) (hT.tP.1.2 i hi) hc, bd_some]
      · rw [mk_none (hT0.tP.2.1.2 i (by omega)) hc, it_T rfl]
    | some e =>
      obtain ⟨k, v⟩ := e
      refine Or.inl ⟨nI (dd nP (hm nP (hsh w) k) i), x, m_thrown' m 0, ?_, ?_, rfl, h.thr 0⟩
      · rw [t_distS hT.sz hT.tP.1.1 hi (hT.tP.1.2 i hi) hc, bd_some]
      · rw [(mk_some (hT0.tP.2.1.2 i (by omega)) hc).1, it_F o10, m_dist hT0.wy hT0.mw hT0.sz ht hT0.tP.2.1 hi hc, bd_some]
  · have hzO : Sz nO := by
      rcases hT.nOz with z | z
      · omega
      · exact z
    have hX : rx_distanceAt x 1 (nI i) = bd (tt_distanceIn (rr_O x) (nI i)) fun v6 => some (.inl (v6, x)) := by
      unfold rx_distanceAt
      rw [h1, xb_inl, it_F n10]
    have hM : mm_distanceAt m 1 (nI i) = if m_full (m_thrown' m 0) (256 * (1 - t) + i) = 0 then some (-1, m_thrown' m 0) else bd (mm_distance (m_thrown' m 0) (nI (1 - t)) (nI i)) fun v9 => some (v9, m_thrown' m 0) := by
      unfold mm_distanceAt mm_distanceAt_15
      rw [h2, bd_some, it_F o10, fine0, bd2_some, it_F o10, tab1, bd_some, hT0.pr, one_sub ht, ixe, g512 (by omega), cl512 (by omega)]
    rw [hX, hM]
    cases hc : cO i with
    | none =>
      refine Or.inl ⟨-1, x, m_thrown' m 0, ?_, ?_, rfl, h.thr 0⟩
      · rw [t_distN (by omega) (hT.tO.1.2 i hi) hc, bd_some]
      · rw [mk_none (hT0.tO.2.1.2 i (by omega)) hc, it_T rfl]
    | some e =>
      obtain ⟨k, v⟩ := e
      refine Or.inl ⟨nI (dd nO (hm nO (hsh w) k) i), x, m_thrown' m 0, ?_, ?_, rfl, h.thr 0⟩
      · rw [t_distS hzO hT.tO.1.1 hi (hT.tO.1.2 i hi) hc, bd_some]
      · rw [(mk_some (hT0.tO.2.1.2 i (by omega)) hc).1, it_F o10, m_dist hT0.wy hT0.mw hzO (by omega) hT0.tO.2.1 hi hc, bd_some]
theorem displaced_ag (h : Inv x m B) (k : Int32) : Ag 2 2 (rx_displaced x k) (mm_displaced m k) B := by
  obtain ⟨w, t, nP, nO, cP, cO, hT⟩ := h.1
  have ht := hT.t2
  have hsz := hT.sz.le
  have hT0 := hT.thr 0
  obtain ⟨p1, p2, p3, p4, p5, p6, p7⟩ := hT.tP
  obtain ⟨g, q, fd, a1, a2, a3, a4, a5, a6⟩ := look_tab (τ := rr_P x) hT.wy hT.mw (Or.inr hT.sz) ht p1 p2 p5 p7 (rr_ap x) (se_slot (rr_se x)) (G := 0) (Q := 0) (by omega) k
  rw [Nat.zero_add, Nat.zero_add] at a1
  have hX : rx_displaced x k = bd (ss_hasFound (seF (rr_ap x) (se_slot (rr_se x)) (nI g) (nI q) fd)) fun v8 => if v8 = 0 then bd (tt_displacedBy (rr_P x) (hsh w k)) fun v10 => some (.inl (v10, rr_se' x (seF (rr_ap x) (se_slot (rr_se x)) (nI g) (nI q) fd))) else some (.inr (2, rr_se' x (seF (rr_ap x) (se_slot (rr_se x)) (nI g) (nI q) fd))) := by
    unfold rx_displaced
    rw [hash_eq hT.wy hT.xw, bd_some, show ss_begin (rr_se x) = some (none, se_slot (rr_se x), 0, 0) from rfl, bd_some, nm_eq]
    rw [show ss_lookIn (rr_ap (rr_se' x (none, se_slot (rr_se x), 0, 0))) (rr_P (rr_se' x (none, se_slot (rr_se x), 0, 0))) (rr_se (rr_se' x (none, se_slot (rr_se x), 0, 0))) k (hsh w k) = some (seF (rr_ap x) (se_slot (rr_se x)) (nI g) (nI q) fd) from a1, bd_some, nm_eq]
    rfl
  rw [hX]
  cases fd with
  | some s =>
    obtain ⟨hsn, v, hv⟩ := a5 s rfl
    refine Or.inr (Or.inl ⟨rr_se' x (seF (rr_ap x) (se_slot (rr_se x)) (nI g) (nI q) (some s)), 0, m_thrown' m 1, ?_, ?_, rfl, h.set _ 1⟩)
    · rfl
    · unfold mm_displaced mm_displaced_19
      rw [hT.pr, slot_at hsz.2 ht p2 p5 p6 hv, bd_some, it_F (slot_m1 hsz.2 p5 hv), fine1, bd2_some, it_T rfl]
  | none =>
    have hno : No cP k := a6 rfl
    have hcap := hT.cap.1
    obtain ⟨g1, hg⟩ := gap_ex (hm_lt (n := nP) (hf := hsh w) (by omega) k) (cnt_free (c := cP) (n := nP) (by omega))
    refine Or.inl ⟨nI (lostf nP (hm nP (hsh w)) g1 cP (hm nP (hsh w) k) 0), rr_se' x (seF (rr_ap x) (se_slot (rr_se x)) (nI g) (nI q) none), m_thrown' m 0, ?_, ?_, rfl, h.set _ 0⟩
    · rw [show ss_hasFound (seF (rr_ap x) (se_slot (rr_se x)) (nI g) (nI q) none) = some 0 from rfl, bd_some, it_T rfl, t_disp hT.sz p1 k hg, bd_some]
    · unfold mm_displaced mm_displaced_19
      rw [hT.pr, slot_no hsz.2 ht p2 hno, bd_some, it_T rfl, fine0, bd2_some, it_F o10, hT0.pr, m_count hT0.wy hT0.sz ht hT0.mw hT0.tP.2.1 k 0 hg, bd2_some]
end TO
