/-! sweeps -/
def swS (m : MS) (op : Nat → Int32) (la : Nat → Int64) (lk ta me : Nat → Int32) : MS := (m.1, m.2.1, m.2.2.1, m.2.2.2.1, m.2.2.2.2.1, m.2.2.2.2.2.1, m.2.2.2.2.2.2.1, m.2.2.2.2.2.2.2.1, op, la, lk, ta, me, m.2.2.2.2.2.2.2.2.2.2.2.2.2.1, m.2.2.2.2.2.2.2.2.2.2.2.2.2.2.1, m.2.2.2.2.2.2.2.2.2.2.2.2.2.2.2.1, 0)
theorem sw_thr (m : MS) : m_thrown' m 0 = swS m (m_open m) (m_last m) (m_lastKey m) (m_taken m) (m_met m) := by
  obtain ⟨q1, q2, q3, q4, q5, q6, q7, q8, q9, q10, q11, q12, q13, q14, q15, q16, q17⟩ := m
  rfl
section SS
variable (m : MS) (op : Nat → Int32) (la : Nat → Int64) (lk ta me v : Nat → Int32) (vl : Nat → Int64)
theorem swE_o : m_open' (swS m op la lk ta me) v = swS m v la lk ta me := rfl
theorem swE_l : m_last' (swS m op la lk ta me) vl = swS m op vl lk ta me := rfl
theorem swE_k : m_lastKey' (swS m op la lk ta me) v = swS m op la v ta me := rfl
theorem swE_t : m_taken' (swS m op la lk ta me) v = swS m op la lk v me := rfl
theorem swE_m : m_met' (swS m op la lk ta me) v = swS m op la lk ta v := rfl
theorem swG_o : m_open (swS m op la lk ta me) = op := rfl
theorem swG_l : m_last (swS m op la lk ta me) = la := rfl
theorem swG_k : m_lastKey (swS m op la lk ta me) = lk := rfl
theorem swG_t : m_taken (swS m op la lk ta me) = ta := rfl
theorem swG_m : m_met (swS m op la lk ta me) = me := rfl
theorem swG_z : m_thrown (swS m op la lk ta me) = 0 := rfl
theorem swG_b : m_moves (swS m op la lk ta me) = m_moves m := rfl
theorem swS_TI {w : Int32} {t nP nO : Nat} {cP cO : Ct} {x : RR} (h : TI w t nP nO cP cO x m) (S : Nat → Sw) : TI w t nP nO cP cO (rr_sws' x S) (swS m op la lk ta me) := h.cast rfl rfl rfl rfl rfl rfl rfl rfl rfl rfl rfl rfl
end SS
section SW
variable {x x' : RR} {m m' : MS} {B : Nat} {w : Int32} {t nP nO : Nat} {cP cO : Ct}
theorem SI.upd (h : SI x m B) {B' : Nat} (hB : B ≤ B') {i : Nat} {s : Sw} (hx : rr_sws x' = va_up (rr_sws x) i s) (hm : ∀ j, j ≠ i → m_open m' j = m_open m j ∧ m_met m' j = m_met m j ∧ m_last m' j = m_last m j ∧ m_taken m' j = m_taken m j ∧ m_lastKey m' j = m_lastKey m j) (hi : sw_open s = m_open m' i ∧ (m_open m' i ≠ 0 → ∃ q, q ≤ B' ∧ sw_met s = nI q ∧ m_met m' i = nI q ∧ sw_rank s = m_last m' i ∧ (sw_may s = 0 ↔ q = 0 ∨ m_taken m' i ≠ 0) ∧ (q ≠ 0 → sw_key s = m_lastKey m' i))) : SI x' m' B' := by
  intro j hj
  rw [hx]
  by_cases q : j = i
  · rw [q, va_up_self]
    exact hi
  · obtain ⟨e1, e2, e3, e4, e5⟩ := hm j q
    rw [va_up_ne _ _ q, e1, e2, e3, e4, e5]
    obtain ⟨h1, h2⟩ := h j hj
    refine ⟨h1, fun z => ?_⟩
    obtain ⟨p, hp, h3⟩ := h2 z
    exact ⟨p, by omega, h3⟩
theorem sweep_cases (h : Inv x m B) (a : Int32) : (rx_sweepOf x a = some (.inr (3, x)) ∧ mm_isSweep m a = some 0) ∨ ∃ i, i < 4 ∧ a = nI i ∧ rx_sweepOf x a = some (.inl (i, x)) ∧ mm_isSweep m a = some 1 ∧ m_open m i ≠ 0 := by
  have hM : mm_isSweep m a = bd (mm_in a 0 (nI 4 - 1)) fun v1 => if v1 = 0 then some 0 else bd (mm_in a 0 (nI 4 - 1)) fun v3 => if v3 = 0 then mm_isSweep_27 m 0 else mm_isSweep_27 m a := rfl
  rcases in_slot (n := 4) (by omega) a with ⟨i, hi, rfl, hin⟩ | ⟨hin, hb⟩
  · have hX : rx_sweepOf x (nI i) = if sw_open (rr_sws x i) = 0 then some (.inr (3, x)) else some (.inl (i, x)) := by
      unfold rx_sweepOf
      rw [it_F (nI_pos (by omega)), it_F (show ¬ (4 : Int32) ≤ nI i from nI_ge (b := 4) hi (by omega)), g4 hi, g4 hi, cl4 hi]
    rw [hX, hM, hin, bd_some, it_F o10, bd_some, it_F o10, (h.2.1 i hi).1]
    unfold mm_isSweep_27
    rw [g4 hi, cl4 hi]
    by_cases q : m_open m i = 0
    · rw [it_T q, it_T q]
      exact Or.inl ⟨rfl, rfl⟩
    · rw [it_F q, it_F q]
      exact Or.inr ⟨i, hi, rfl, rfl, rfl, q⟩
  · refine Or.inl ⟨?_, ?_⟩
    · unfold rx_sweepOf
      rcases hb with hb | ⟨hb, hb2⟩
      · rw [it_T hb]
      · rw [it_F hb, it_T (show (4 : Int32) ≤ a from i_ge hb2)]
    · rw [hM, hin, bd_some, it_T rfl]
theorem os_step {i : Nat} (hi : i < 4) (f : Nat) (ho : m_open m i ≠ 0) : mm_openSweep_lp2 (f + 1) m (nI i) = mm_openSweep_lp2 f m (nI (i + 1)) := by
  show mm_openSweep_2 (mm_openSweep_lp2 f) m (nI i) = _
  unfold mm_openSweep_2
  rw [it_F (show ¬ (4 : Int32) ≤ nI i from nI_ge (b := 4) hi (by omega)), g4 hi, cl4 hi, it_F ho, nm_eq, nI_1]
theorem os_hit {i : Nat} (hi : i < 4) (f : Nat) (ho : m_open m i = 0) : mm_openSweep_lp2 (f + 1) m (nI i) = mm_openSweep_33 m (nI i) 0 := by
  show mm_openSweep_2 (mm_openSweep_lp2 f) m (nI i) = _
  unfold mm_openSweep_2 mm_openSweep_22
  rw [it_F (show ¬ (4 : Int32) ≤ nI i from nI_ge (b := 4) hi (by omega)), g4 hi, cl4 hi, it_T ho, it_F (fun z => by
    have := (nI_eq (by omega) (by omega)).mp (show nI i = nI 4 from z)
    omega)]
theorem os_end (f : Nat) : mm_openSweep_lp2 (f + 1) m (nI 4) = mm_openSweep_33 m (nI 4) 1 := by
  show mm_openSweep_2 (mm_openSweep_lp2 f) m (nI 4) = _
  unfold mm_openSweep_2 mm_openSweep_22
  rw [it_T (show (4 : Int32) ≤ nI 4 from Int32.le_refl _), it_T (show nI 4 = (4 : Int32) from rfl)]
theorem os_fin (h : Inv x m B) {i : Nat} (hi : i < 4) : ∃ m', mm_openSweep_33 m (nI i) 0 = some (nI i, m') ∧ m_thrown m' = 0 ∧ ∃ s, ww_begin (rr_sws x i) = some s ∧ Inv (rr_sws' x (va_up (rr_sws x) i s)) m' B := by
  obtain ⟨⟨w, t, nP, nO, cP, cO, hT⟩, hS, hb⟩ := h
  refine ⟨swS m (upd (m_open m) i 1) (vp_updL (m_last m) i (-1)) (m_lastKey m) (upd (m_taken m) i 0) (upd (m_met m) i 0), ?_, rfl, (1, 0, 0, sw_key (rr_sws x i), -1), rfl, ⟨w, t, nP, nO, cP, cO, ?_⟩, ?_, ?_⟩
  · unfold mm_openSweep_33
    rw [fine0, bd2_some, it_F o10, cl4 hi, sw_thr, g4 hi, nm_eq, swG_o, swE_o, g4 hi, nm_eq, swG_l, swE_l, g4 hi, nm_eq, swG_t, swE_t, g4 hi, nm_eq, swG_m, swE_m]
  · exact swS_TI m _ _ _ _ _ hT _
  · refine hS.upd (Nat.le_refl B) (i := i) (s := (1, 0, 0, sw_key (rr_sws x i), -1)) rfl (fun j hj => ⟨up_n hj, up_n hj, if_neg hj, up_n hj, rfl⟩) ⟨(up_s (m_open m) i 1).symm, fun _ => ⟨0, by omega, rfl, up_s _ _ _, ?_, ?_, fun z => absurd rfl z⟩⟩
    · exact (show vp_updL (m_last m) i (-1) i = -1 from if_pos rfl).symm
    · exact ⟨fun _ => Or.inl rfl, fun _ => rfl⟩
  · exact hb
theorem openSweep_ag (h : Inv x m B) : Ag 2 2 (rx_openSweep x) (mm_openSweep m) B := by
  have hM : mm_openSweep m = mm_openSweep_lp2 (1023 + 1) m (nI 0) := rfl
  have e : ∀ i, i < 4 → sw_open (rr_sws x i) = m_open m i := fun i hi => (h.2.1 i hi).1
  rw [hM]
  unfold rx_openSweep
  rw [e 0 (by omega), e 1 (by omega), e 2 (by omega), e 3 (by omega)]
  by_cases q0 : m_open m 0 = 0
  · obtain ⟨m', a1, a2, s, a3, a4⟩ := os_fin h (i := 0) (by omega)
    rw [os_hit (by omega) _ q0, a1, it_T q0, a3, bd_some, nm_eq]
    exact Or.inl ⟨nI 0, _, m', rfl, rfl, a2, a4⟩
  rw [os_step (by omega) _ q0, it_F q0]
  by_cases q1 : m_open m 1 = 0
  · obtain ⟨m', a1, a2, s, a3, a4⟩ := os_fin h (i := 1) (by omega)
    rw [os_hit (by omega) 1022 q1, a1, it_T q1, a3, bd_some, nm_eq]
    exact Or.inl ⟨nI 1, _, m', rfl, rfl, a2, a4⟩
  rw [os_step (by omega) 1022 q1, it_F q1]
  by_cases q2 : m_open m 2 = 0
  · obtain ⟨m', a1, a2, s, a3, a4⟩ := os_fin h (i := 2) (by omega)
    rw [os_hit (by omega) 1021 q2, a1, it_T q2, a3, bd_some, nm_eq]
    exact Or.inl ⟨nI 2, _, m', rfl, rfl, a2, a4⟩
  rw [os_step (by omega) 1021 q2, it_F q2]
  by_cases q3 : m_open m 3 = 0
  · obtain ⟨m', a1, a2, s, a3, a4⟩ := os_fin h (i := 3) (by omega)
    rw [os_hit (by omega) 1020 q3, a1, it_T q3, a3, bd_some, nm_eq]
    exact Or.inl ⟨nI 3, _, m', rfl, rfl, a2, a4⟩
  rw [os_step (by omega) 1020 q3, it_F q3, os_end 1019]
  refine Or.inr (Or.inl ⟨x, 0, m_thrown' m 1, rfl, ?_, rfl, h.thr 1⟩)
  unfold mm_openSweep_33
  rw [fine1, bd2_some, it_T rfl]
/-- the next key behind: on both sides -/
theorem seek_nx (hT : TI w t nP nO cP cO x m) (l : Int64) : ∃ (se : Se) (b b' : Int32), rr_seekBehind x l = some (rr_se' x se) ∧ mm_behind m l = some b ∧ mm_behind (m_thrown' m 0) l = some b' ∧ ((se_tb se = none ∧ b = -1 ∧ b' = -1) ∨ ∃ k i', ¬ b = -1 ∧ i' < 512 ∧ b' = nI i' ∧ m_keys (m_thrown' m 0) i' = k ∧ ((se_tb se = some (rr_ap x) ∧ ∃ s v, se_slot se = nI s ∧ s < nP ∧ cP s = some (k, v)) ∨ (se_tb se = some (rr_ao x) ∧ ∃ s v, se_slot se = nI s ∧ s < nO ∧ cO s = some (k, v)))) := by
  obtain ⟨se, b, o, a1, a2, a3, a4, a5⟩ := seek_eq hT l
  obtain ⟨se', b', o', b1, b2, b3, b4, b5⟩ := seek_eq (hT.thr 0) l
  have hse : se' = se := by
    rw [a1] at b1
    exact (congrArg rr_se (Option.some.inj b1)).symm
  subst hse
  refine ⟨se', b, b', a1, a2, b2, ?_⟩
  cases o with
  | none =>
    have h1 : se_tb se' = none := a3
    have h2 := b3.none h1
    exact Or.inl ⟨h1, a4 rfl, b4 h2⟩
  | some k0 =>
    cases o' with
    | none =>
      have h1 : se_tb se' = none := b3
      have := a3.none h1
      cases this
    | some k =>
      obtain ⟨i, h1, h2, h3⟩ := a5 k0 rfl
      obtain ⟨i', h4, h5, h6⟩ := b5 k rfl
      exact Or.inr ⟨k, i', by rw [h2]; exact nI_m1 (by omega), h4, h5, h6, b3⟩
theorem gk4 {α : Type} {i : Nat} (hi : i < 4) (z : Option α) : gk i 4 z = z := if_pos hi
theorem found_no {se : Se} (h : se_tb se = none) : ss_hasFound se = some 0 := if_pos h
theorem found_yes {se : Se} {a : Nat} (h : se_tb se = some a) : ss_hasFound se = some 1 := if_neg (by rw [h]; exact fun z => (by cases z))
theorem hasNext_ag (h : Inv x m B) (a : Int32) : Ag 3 3 (rx_hasNext x a) (mm_hasNext m a) B := by
  rcases sweep_cases h a with ⟨h1, h2⟩ | ⟨i, hi, rfl, h1, h2, h3⟩
  · refine Or.inr (Or.inl ⟨x, 0, m_thrown' m 1, ?_, ?_, rfl, h.thr 1⟩)
    · unfold rx_hasNext
      rw [h1, xb_inr]
    · unfold mm_hasNext mm_hasNext_14
      rw [h2, bd_some, it_T rfl, fine1, bd2_some, it_T rfl]
  · obtain ⟨w, t, nP, nO, cP, cO, hT⟩ := h.1
    obtain ⟨q, -, -, -, hr, -⟩ := (h.2.1 i hi).2 h3
    obtain ⟨se, b, b', a1, a2, a3, a4⟩ := seek_nx hT (m_last m i)
    have hX : rx_hasNext x (nI i) = bd (ss_hasFound se) fun v8 => gn .boolean v8 <| some (.inl (v8, rr_se' x se)) := by
      unfold rx_hasNext
      rw [h1, xb_inl, gk4 hi, hr, a1]
      rfl
    have hM : mm_hasNext m (nI i) = if b' = -1 then some (0, m_thrown' m 0) else some (1, m_thrown' m 0) := by
      unfold mm_hasNext mm_hasNext_14
      rw [h2, bd_some, it_F o10, fine0, bd2_some, it_F o10, g4 hi, cl4 hi, show mm_behind (m_thrown' m 0) (m_last (m_thrown' m 0) i) = some b' from a3, bd_some]
    rw [hX, hM]
    rcases a4 with ⟨c1, c2, c3⟩ | ⟨k, i', c0, c1, c2, c3, c4⟩
    · rw [found_no c1, bd_some, it_T c3, show (0 : Int32) = nI 0 from rfl, gn_z (by omega)]
      exact Or.inl ⟨nI 0, _, _, rfl, rfl, rfl, h.set se 0⟩
    · have hf : ss_hasFound se = some 1 := by
        rcases c4 with ⟨z, -⟩ | ⟨z, -⟩
        · exact found_yes z
        · exact found_yes z
      rw [hf, bd_some, c2, it_F (nI_m1 (by omega)), show (1 : Int32) = nI 1 from rfl, gn_z (by omega)]
      exact Or.inl ⟨nI 1, _, _, rfl, rfl, rfl, h.set se 0⟩
theorem next_ag (h : Inv x m B) (a : Int32) : Ag 3 2 (rx_next x a) (mm_next m a) (B + 1) := by
  have hup : ∀ {x0 : RR} {m0 : MS}, Inv x0 m0 B → Inv x0 m0 (B + 1) := fun h0 => h0.mono (by omega)
  rcases sweep_cases h a with ⟨h1, h2⟩ | ⟨i, hi, rfl, h1, h2, h3⟩
  · refine Or.inr (Or.inl ⟨x, 0, m_thrown' m 1, ?_, ?_, rfl, hup (h.thr 1)⟩)
    · unfold rx_next
      rw [h1, xb_inr]
    · unfold mm_next mm_next_32
      rw [h2, bd_some, it_T rfl, fine1, bd2_some, it_T rfl]
  · obtain ⟨w, t, nP, nO, cP, cO, hT⟩ := h.1
    have hsz := hT.sz.le
    have h256 := hT.nO256
    obtain ⟨q, hq, hm1, hm2, hr, -⟩ := (h.2.1 i hi).2 h3
    obtain ⟨se, b, b', a1, a2, a3, a4⟩ := seek_nx hT (m_last m i)
    have hX : rx_next x (nI i) = bd (ss_hasFound se) fun v8 => if v8 = 0 then some (.inr (2, rr_se' x se)) else dsp (se_tb se) (rr_ap x) (rr_ao x) (bd (tt_keyIn (rr_P x) (se_slot se)) fun v11 => dsp (se_tb se) (rr_ap x) (rr_ao x) (bd (tt_rankIn (rr_P x) (se_slot se)) fun v13 => bd (ww_meet (rr_sws x i) v11 v13) fun s15 => nm (rr_sws' (rr_se' x se) (va_up (rr_sws x) i s15)) fun s16 => some (.inl (v11, s16))) (bd (tt_rankIn (rr_O x) (se_slot se)) fun v17 => bd (ww_meet (rr_sws x i) v11 v17) fun s19 => nm (rr_sws' (rr_se' x se) (va_up (rr_sws x) i s19)) fun s20 => some (.inl (v11, s20)))) (bd (tt_keyIn (rr_O x) (se_slot se)) fun v21 => dsp (se_tb se) (rr_ap x) (rr_ao x) (bd (tt_rankIn (rr_P x) (se_slot se)) fun v23 => bd (ww_meet (rr_sws x i) v21 v23) fun s25 => nm (rr_sws' (rr_se' x se) (va_up (rr_sws x) i s25)) fun s26 => some (.inl (v21, s26))) (bd (tt_rankIn (rr_O x) (se_slot se)) fun v27 => bd (ww_meet (rr_sws x i) v21 v27) fun s29 => nm (rr_sws' (rr_se' x se) (va_up (rr_sws x) i s29)) fun s30 => some (.inl (v21, s30)))) := by
      unfold rx_next
      rw [h1, xb_inl, gk4 hi, hr, a1]
      rfl
    have hM : mm_next m (nI i) = if b = -1 then mm_next_32 m (nI i) 2 else mm_next_32 m (nI i) 0 := by
      unfold mm_next
      rw [h2, bd_some, it_F o10, g4 hi, cl4 hi, a2, bd_some]
    rw [hX, hM]
    rcases a4 with ⟨c1, c2, c3⟩ | ⟨k, i', c0, c1, c2, c3, c4⟩
    · rw [found_no c1, bd_some, it_T rfl, it_T c2]
      refine Or.inr (Or.inr ⟨_, 0, m_thrown' m 2, by decide, rfl, ?_, rfl, hup (h.set se 2)⟩)
      unfold mm_next_32
      rw [fine2, bd2_some, it_T rfl]
    · rw [it_F c0]
      have hcls : (bd (ss_hasFound se) fun v8 => if v8 = 0 then some (.inr (2, rr_se' x se)) else dsp (se_tb se) (rr_ap x) (rr_ao x) (bd (tt_keyIn (rr_P x) (se_slot se)) fun v11 => dsp (se_tb se) (rr_ap x) (rr_ao x) (bd (tt_rankIn (rr_P x) (se_slot se)) fun v13 => bd (ww_meet (rr_sws x i) v11 v13) fun s15 => nm (rr_sws' (rr_se' x se) (va_up (rr_sws x) i s15)) fun s16 => some (.inl (v11, s16))) (bd (tt_rankIn (rr_O x) (se_slot se)) fun v17 => bd (ww_meet (rr_sws x i) v11 v17) fun s19 => nm (rr_sws' (rr_se' x se) (va_up (rr_sws x) i s19)) fun s20 => some (.inl (v11, s20)))) (bd (tt_keyIn (rr_O x) (se_slot se)) fun v21 => dsp (se_tb se) (rr_ap x) (rr_ao x) (bd (tt_rankIn (rr_P x) (se_slot se)) fun v23 => bd (ww_meet (rr_sws x i) v21 v23) fun s25 => nm (rr_sws' (rr_se' x se) (va_up (rr_sws x) i s25)) fun s26 => some (.inl (v21, s26))) (bd (tt_rankIn (rr_O x) (se_slot se)) fun v27 => bd (ww_meet (rr_sws x i) v21 v27) fun s29 => nm (rr_sws' (rr_se' x se) (va_up (rr_sws x) i s29)) fun s30 => some (.inl (v21, s30)))) : Option (Ex (Int32 × RR))) = some (.inl (k, rr_sws' (rr_se' x se) (va_up (rr_sws x) i (sw_open (rr_sws x i), 1, sw_met (rr_sws x i) + 1, k, rkL (hsh w k))))) := by
        rcases c4 with ⟨d1, s, v, d2, d3, d4⟩ | ⟨d1, s, v, d2, d3, d4⟩
        · rw [found_yes d1, bd_some, it_F o10, d1, d2, t_key (by omega) (hT.tP.1.2 s d3) d4, bd_some, class_rank (by omega) (hT.tP.1.2 s d3) d4, bd_some]
          unfold dsp
          rw [if_pos rfl, if_pos rfl]
          rfl
        · rw [found_yes d1, bd_some, it_F o10, d1, d2, t_key (by omega) (hT.tO.1.2 s d3) d4, bd_some, class_rank (by omega) (hT.tO.1.2 s d3) d4, bd_some]
          unfold dsp
          rw [if_neg (fun z => hT.ne (Option.some.inj z).symm), if_pos rfl, if_neg (fun z => hT.ne (Option.some.inj z).symm), if_pos rfl]
          rfl
      rw [hcls]
      refine Or.inl ⟨k, _, swS m (m_open m) (vp_updL (m_last m) i (rkL (hsh w k))) (upd (m_lastKey m) i k) (upd (m_taken m) i 0) (upd (m_met m) i (m_met m i + 1)), rfl, ?_, rfl, ⟨w, t, nP, nO, cP, cO, ?_⟩, ?_, ?_⟩
      · unfold mm_next_32
        rw [fine0, bd2_some, it_F o10, g4 hi, cl4 hi, show mm_behind (m_thrown' m 0) (m_last (m_thrown' m 0) i) = some b' from a3, bd_some, c2, g512 c1, cl512 c1, c3, nm_eq, order_eq hT.wy (hT.thr 0).mw, bd_some, sw_thr, g4 hi, nm_eq, swG_l, swE_l, g4 hi, nm_eq, swG_k, swE_k, g4 hi, nm_eq, swG_t, swE_t, g4 hi, g4 hi, nm_eq, swG_m, swE_m]
      · exact swS_TI m _ _ _ _ _ (hT.se se) _
      · refine h.2.1.upd (Nat.le_succ B) (i := i) (s := (sw_open (rr_sws x i), 1, sw_met (rr_sws x i) + 1, k, rkL (hsh w k))) rfl (fun j hj => ⟨rfl, up_n hj, if_neg hj, up_n hj, up_n hj⟩) ⟨(h.2.1 i hi).1, fun _ => ⟨q + 1, by omega, ?_, ?_, ?_, ?_, fun _ => ?_⟩⟩
        · show sw_met (rr_sws x i) + 1 = _
          rw [hm1, nI_1]
        · refine (up_s _ _ _).trans ?_
          rw [hm2, nI_1]
        · exact (show vp_updL (m_last m) i (rkL (hsh w k)) i = rkL (hsh w k) from if_pos rfl).symm
        · refine ⟨fun z => absurd z o10, fun z => ?_⟩
          rcases z with z | z
          · omega
          · exact absurd (up_s (m_taken m) i 0) z
        · exact (up_s (m_lastKey m) i k).symm
      · exact h.2.2
theorem removeMet_ag (h : Inv x m B) (hB : B < 2 ^ 20) (a : Int32) : Ag 3 2 (rx_removeMet x a) (mm_removeMet m a) B := by
  rcases sweep_cases h a with ⟨h1, h2⟩ | ⟨i, hi, rfl, h1, h2, h3⟩
  · refine Or.inr (Or.inl ⟨x, 0, m_thrown' m 1, ?_, ?_, rfl, h.thr 1⟩)
    · unfold rx_removeMet
      rw [h1, xb_inr]
    · unfold mm_removeMet mm_removeMet_49
      rw [h2, bd_some, it_T rfl, fine1, bd2_some, it_T rfl]
  · obtain ⟨w, t, nP, nO, cP, cO, hT⟩ := h.1
    obtain ⟨q, hq, hm1, hm2, hr, hmay, hkey⟩ := (h.2.1 i hi).2 h3
    have hM : mm_removeMet m (nI i) = if m_met m i = 0 then mm_removeMet_49 m (nI i) 2 else if m_taken m i = 0 then bd (mm_isThere m (m_lastKey m i)) (fun v8 => if v8 = 0 then mm_removeMet_49 m (nI i) 2 else mm_removeMet_49 m (nI i) 0) else mm_removeMet_49 m (nI i) 2 := by
      unfold mm_removeMet
      rw [h2, bd_some, it_F o10, g4 hi, cl4 hi, g4 hi, g4 hi]
    have h49 : mm_removeMet_49 m (nI i) 2 = some (0, m_thrown' m 2) := by
      unfold mm_removeMet_49
      rw [fine2, bd2_some, it_T rfl]
    have hX : rx_removeMet x (nI i) = if sw_may (rr_sws x i) = 0 then some (.inr (2, x)) else bd (rr_lookUp x (sw_key (rr_sws x i))) fun s8 => bd (ss_hasFound (rr_se s8)) fun v9 => if v9 = 0 then some (.inr (2, s8)) else nm (rr_sws' s8 (va_up (rr_sws s8) i (sw_may' (rr_sws s8 i) 0))) fun s11 => bd2 (rr_remove s11 (sw_key (rr_sws s11 i))) fun v12 s13 => some (.inl (v12, s13)) := by
      unfold rx_removeMet
      rw [h1, xb_inl, gk4 hi]
    rw [hX, hM]
    by_cases q1 : sw_may (rr_sws x i) = 0
    · rw [it_T q1]
      refine Or.inr (Or.inr ⟨x, 0, m_thrown' m 2, by decide, rfl, ?_, rfl, h.thr 2⟩)
      rcases hmay.mp q1 with z | z
      · rw [hm2, z, it_T (show nI 0 = (0 : Int32) from rfl), h49]
      · rw [it_F z, h49]
        split <;> rfl
    · have hq0 : q ≠ 0 := fun z => q1 (hmay.mpr (Or.inl z))
      have htk : m_taken m i = 0 := by
        by_cases z : m_taken m i = 0
        · exact z
        · exact absurd (hmay.mpr (Or.inr z)) q1
      rw [it_F q1, hkey hq0, hm2, it_F (nI_ne0 (by omega) (by omega)), it_T htk]
      obtain ⟨se, G, Q, a1, -, -, -, -, -, a2⟩ := rr_look hT (m_lastKey m i)
      obtain ⟨l3, -, b2, b3⟩ := place_any hT (m_lastKey m i)
      rw [a1, bd_some, b3, bd_some]
      by_cases q2 : se_tb se = none
      · have hno : No cP (m_lastKey m i) ∧ No cO (m_lastKey m i) := by
          rcases a2 with ⟨z, -⟩ | ⟨z, -⟩ | ⟨-, z1, z2⟩
          · rw [q2] at z
            cases z
          · rw [q2] at z
            cases z
          · exact ⟨z1, z2⟩
        rw [show ss_hasFound (rr_se (rr_se' x se)) = some 0 from found_no q2, bd_some, it_T rfl, it_T (b2.mpr hno), it_T rfl, h49]
        exact Or.inr (Or.inr ⟨_, 0, m_thrown' m 2, by decide, rfl, rfl, rfl, h.set se 2⟩)
      · have hyes : ¬ l3 = -1 := fun z => by
          obtain ⟨z1, z2⟩ := b2.mp z
          rcases a2 with ⟨-, ⟨s, v, -, -, z3⟩, -⟩ | ⟨-, ⟨s, v, -, -, z3⟩, -⟩ | ⟨z3, -⟩
          · exact z1 s v z3
          · exact z2 s v z3
          · exact q2 z3
        rw [show ss_hasFound (rr_se (rr_se' x se)) = some 1 from if_neg q2, bd_some, it_F o10, nm_eq, it_F hyes, it_F o10]
        have hk2 : sw_key (rr_sws (rr_sws' (rr_se' x se) (va_up (rr_sws (rr_se' x se)) i (sw_may' (rr_sws (rr_se' x se) i) 0))) i) = m_lastKey m i := by
          refine Eq.trans (congrArg sw_key (va_up_self (rr_sws x) i (sw_may' (rr_sws x i) 0))) ?_
          exact hkey hq0
        have hT1 : TI w t nP nO cP cO (rr_sws' (rr_se' x se) (va_up (rr_sws (rr_se' x se)) i (sw_may' (rr_sws (rr_se' x se) i) 0))) (swS m (m_open m) (m_last m) (m_lastKey m) (upd (m_taken m) i 1) (m_met m)) := swS_TI m _ _ _ _ _ (hT.se se) _
        have hI1 : Inv (rr_sws' (rr_se' x se) (va_up (rr_sws (rr_se' x se)) i (sw_may' (rr_sws (rr_se' x se) i) 0))) (swS m (m_open m) (m_last m) (m_lastKey m) (upd (m_taken m) i 1) (m_met m)) B := by
          refine ⟨⟨w, t, nP, nO, cP, cO, hT1⟩, ?_, h.2.2⟩
          refine h.2.1.upd (Nat.le_refl B) (i := i) (s := sw_may' (rr_sws x i) 0) rfl (fun j hj => ⟨rfl, rfl, rfl, up_n hj, rfl⟩) ⟨(h.2.1 i hi).1, fun _ => ⟨q, hq, hm1, hm2, hr, ⟨fun _ => Or.inr ?_, fun _ => rfl⟩, fun _ => hkey hq0⟩⟩
          rw [show m_taken (swS m (m_open m) (m_last m) (m_lastKey m) (upd (m_taken m) i 1) (m_met m)) i = 1 from up_s _ _ _]
          exact o10
        obtain ⟨r, x', m', nO', cP', cO', d1, d2, d3, d4, d5⟩ := remove_eq hT1 (m_lastKey m i)
        rw [hk2, d1, bd2_some]
        refine Or.inl ⟨r, x', m', rfl, ?_, (rst_thrown d5).trans rfl, hI1.fx ⟨w, t, nP, nO', cP', cO', d3⟩ d4⟩
        unfold mm_removeMet_49
        rw [fine0, bd2_some, it_F o10, g4 hi, cl4 hi, sw_thr, nm_eq, swG_t, swE_t, g4 hi]
        refine (congrArg (fun o => bd2 o _) (show mm_removes (swS m (m_open m) (m_last m) (m_lastKey m) (upd (m_taken m) i 1) (m_met m)) (m_lastKey m i) = some (r, m') from d2)).trans ?_
        rw [bd2_some]
theorem closeSweep_ag (h : Inv x m B) (a : Int32) : Ag 3 3 (rx_closeSweep x a) (mm_closeSweep m a) B := by
  rcases sweep_cases h a with ⟨h1, h2⟩ | ⟨i, hi, rfl, h1, h2, h3⟩
  · refine Or.inr (Or.inl ⟨x, 0, m_thrown' m 1, ?_, ?_, rfl, h.thr 1⟩)
    · unfold rx_closeSweep
      rw [h1, xb_inr]
    · unfold mm_closeSweep mm_closeSweep_14
      rw [h2, bd_some, it_T rfl, fine1, bd2_some, it_T rfl]
  · obtain ⟨w, t, nP, nO, cP, cO, hT⟩ := h.1
    obtain ⟨q, hq, hm1, hm2, -⟩ := (h.2.1 i hi).2 h3
    refine Or.inl ⟨nI q, rr_sws' x (va_up (rr_sws x) i (sw_open' (rr_sws x i) 0)), swS m (upd (m_open m) i 0) (m_last m) (m_lastKey m) (m_taken m) (m_met m), ?_, ?_, rfl, ⟨w, t, nP, nO, cP, cO, swS_TI m _ _ _ _ _ hT _⟩, ?_, h.2.2⟩
    · unfold rx_closeSweep
      rw [h1, xb_inl, gk4 hi, show ww_end (rr_sws x i) = some (sw_open' (rr_sws x i) 0) from rfl, bd_some, nm_eq]
      have : sw_met (rr_sws (rr_sws' x (va_up (rr_sws x) i (sw_open' (rr_sws x i) 0))) i) = nI q := by
        refine Eq.trans (congrArg sw_met (va_up_self (rr_sws x) i (sw_open' (rr_sws x i) 0))) ?_
        exact hm1
      rw [this]
    · unfold mm_closeSweep mm_closeSweep_14
      rw [h2, bd_some, it_F o10, fine0, bd2_some, it_F o10, g4 hi, cl4 hi, sw_thr, nm_eq, swG_o, swE_o, g4 hi, swG_m, hm2]
    · exact h.2.1.upd (Nat.le_refl B) (i := i) (s := sw_open' (rr_sws x i) 0) rfl (fun j hj => ⟨up_n hj, rfl, rfl, rfl, rfl⟩) ⟨(up_s (m_open m) i 0).symm, fun z => absurd (up_s (m_open m) i 0) z⟩
end SW
