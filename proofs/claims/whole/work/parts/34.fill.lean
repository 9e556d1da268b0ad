/-! both sides fill the same slots: the loops -/
theorem l_k {a b : Int32} (h : a < b) : a.toInt64 < b.toInt64 := by
  rw [Int64.lt_iff_toInt_lt, Int32.toInt_toInt64, Int32.toInt_toInt64]
  exact Int32.lt_iff_toInt_lt.mp h
theorem l_k' {a b : Int32} (h : a.toInt64 < b.toInt64) : a < b := by
  rw [Int64.lt_iff_toInt_lt, Int32.toInt_toInt64, Int32.toInt_toInt64] at h
  exact Int32.lt_iff_toInt_lt.mpr h
theorem l_low (a : Int32) : (-3000000000 : Int64) < a.toInt64 := by
  rw [Int64.lt_iff_toInt_lt, Int32.toInt_toInt64]
  have h1 := Int32.le_toInt a
  have h2 : (-3000000000 : Int64).toInt = -3000000000 := by decide +kernel
  rw [h2]
  omega
theorem i_nlt {a b : Int32} (h : a ≤ b) : ¬ b < a := by
  rw [Int32.lt_iff_toInt_lt]
  rw [Int32.le_iff_toInt_le] at h
  omega
theorem plS_self (m : MS) : plS m (m_plainFull m) (m_plainMost m) (m_plainSum m) = m := by
  obtain ⟨q1, q2, q3, q4, q5, q6, q7, q8, q9, q10, q11, q12, q13, q14, q15, q16, q17⟩ := m
  rfl
theorem plS_MT {t n : Nat} {c : Ct} {m : MS} (h : MT t n c m) (F : Nat → Int32) (a b : Int32) : MT t n c (plS m F a b) := by
  obtain ⟨q1, q2, q3, q4, q5, q6, q7, q8, q9, q10, q11, q12, q13, q14, q15, q16, q17⟩ := m
  exact h
theorem plG_w (m : MS) (F : Nat → Int32) (a b : Int32) : m_way (plS m F a b) = m_way m := rfl
theorem plG_n (m : MS) (F : Nat → Int32) (a b : Int32) : m_many (plS m F a b) = m_many m := rfl
theorem plG_k (m : MS) (F : Nat → Int32) (a b : Int32) : m_keys (plS m F a b) = m_keys m := rfl
theorem TI.cast {w : Int32} {t nP nO : Nat} {cP cO : Ct} {x x' : RR} {m m' : MS} (h : TI w t nP nO cP cO x m) (e1 : rr_way x' = rr_way x) (e2 : rr_P x' = rr_P x) (e3 : rr_O x' = rr_O x) (e4 : rr_ap x' = rr_ap x) (e5 : rr_ao x' = rr_ao x) (f1 : m_way m' = m_way m) (f2 : m_present m' = m_present m) (f3 : m_full m' = m_full m) (f4 : m_keys m' = m_keys m) (f5 : m_values m' = m_values m) (f6 : m_slots m' = m_slots m) (f7 : m_many m' = m_many m) : TI w t nP nO cP cO x' m' := by
  unfold TI Tbl MT MTs at *
  rw [e1, e2, e3, e4, e5, f1, f2, f3, f4, f5, f6, f7]
  exact h
theorem plS_TI {w : Int32} {t nP nO : Nat} {cP cO : Ct} {x : RR} {m : MS} (h : TI w t nP nO cP cO x m) (p : Pl) (F : Nat → Int32) (a b : Int32) : TI w t nP nO cP cO (rr_pl' x p) (plS m F a b) := h.cast rfl rfl rfl rfl rfl rfl rfl rfl rfl rfl rfl rfl
theorem plS_Fx {x : RR} {m : MS} (p : Pl) (F : Nat → Int32) (a b : Int32) : Fx x (rr_pl' x p) m (plS m F a b) := ⟨rfl, rfl, rfl, rfl, rfl, rfl, id⟩
theorem clr_lp (τ : Tb) (R : Nat → Int32) (a b : Int32) : ∀ d i f (T : Nat → Int32), i + d = 256 → d < f → (∀ j, j < i → T j = 0) → ∃ T' : Nat → Int32, pp_fillFrom_lp12 τ f (R, T, a, b) (nI i) = (bd2 (pp_sortByKeys τ (R, T', a, b)) fun v4 s5 => pp_fillFrom_lp40 τ FU s5 v4 0) ∧ ∀ j, j < 256 → T' j = 0 := by
  intro d
  induction d with
  | zero =>
    intro i f T hi hf h
    obtain ⟨f, rfl⟩ : ∃ f2, f = f2 + 1 := ⟨f - 1, by omega⟩
    refine ⟨T, ?_, fun j hj => h j (by omega)⟩
    show pp_fillFrom_12 τ (pp_fillFrom_lp12 τ f) (R, T, a, b) (nI i) = _
    unfold pp_fillFrom_12
    rw [it_T (show (256 : Int32) ≤ nI i from nI_le (a := 256) (by omega) (by omega))]
  | succ d ih =>
    intro i f T hi hf h
    obtain ⟨f, rfl⟩ : ∃ f2, f = f2 + 1 := ⟨f - 1, by omega⟩
    have e1 : pp_fillFrom_lp12 τ (f + 1) (R, T, a, b) (nI i) = pp_fillFrom_12 τ (pp_fillFrom_lp12 τ f) (R, T, a, b) (nI i) := rfl
    rw [e1]
    unfold pp_fillFrom_12
    rw [it_F (show ¬ (256 : Int32) ≤ nI i from nI_ge (b := 256) (by omega) (by omega)), g256 (by omega), cl256 (by omega), nm_eq, nm_eq, nI_1]
    refine ih (i + 1) f (upd T i 0) (by omega) (by omega) (fun j hj => ?_)
    by_cases q : j = i
    · rw [q, up_s]
    · rw [up_n q]
      exact h j (by omega)
theorem mclr_lp (m : MS) (a b : Int32) : ∀ d i f (F : Nat → Int32), i + d = 256 → d < f → (∀ j, j < i → F j = 0) → ∃ F' : Nat → Int32, mm_plain_lp2 f (plS m F a b) (nI i) = mm_plain_lp38 FU (plS m F' (-1) 0) (-3000000000) 0 ∧ ∀ j, j < 256 → F' j = 0 := by
  intro d
  induction d with
  | zero =>
    intro i f F hi hf h
    obtain ⟨f, rfl⟩ : ∃ f2, f = f2 + 1 := ⟨f - 1, by omega⟩
    refine ⟨F, ?_, fun j hj => h j (by omega)⟩
    show mm_plain_2 (mm_plain_lp2 f) (plS m F a b) (nI i) = _
    unfold mm_plain_2
    rw [it_T (show (256 : Int32) ≤ nI i from nI_le (a := 256) (by omega) (by omega)), nm_eq, plS_m, nm_eq, plS_s]
  | succ d ih =>
    intro i f F hi hf h
    obtain ⟨f, rfl⟩ : ∃ f2, f = f2 + 1 := ⟨f - 1, by omega⟩
    have e1 : mm_plain_lp2 (f + 1) (plS m F a b) (nI i) = mm_plain_2 (mm_plain_lp2 f) (plS m F a b) (nI i) := rfl
    rw [e1]
    unfold mm_plain_2
    rw [it_F (show ¬ (256 : Int32) ≤ nI i from nI_ge (b := 256) (by omega) (by omega)), g256 (by omega), cl256 (by omega), nm_eq, plG_f, plS_f, nm_eq, nI_1]
    refine ih (i + 1) f (upd F i 0) (by omega) (by omega) (fun j hj => ?_)
    by_cases q : j = i
    · rw [q, up_s]
    · rw [up_n q]
      exact h j (by omega)
def lst (c : Ct) (r : Nat → Nat) : Nat → Int64
  | 0 => -3000000000
  | j + 1 => (kO c (r j)).toInt64
section FI
variable {w : Int32} {t nP nO : Nat} {cP cO : Ct} {x : RR} {m : MS}
theorem pick_r {n : Nat} {c : Ct} {N : Nat} {r : Nat → Nat} (hs : Srt c n N r) {j : Nat} (hj : j < N) {t : Nat} {b : Int32} {o : Option Nat} (h : Pk c n (lst c r j) t b o) : b = nI (256 * t + r j) := by
  have hl : lst c r j < (kO c (r j)).toInt64 := by
    cases j with
    | zero => exact l_low _
    | succ j => exact l_k (hs.2.2 j (j + 1) (by omega) hj)
  have hr := hs.1 j hj
  cases o with
  | none => exact absurd hl (fun z => lg_lt_not_le z (h.2 (r j) hr.1 hr.2))
  | some s =>
    obtain ⟨h1, h2, h3, h4, h5⟩ := h
    obtain ⟨j0, hj0, rfl⟩ := hs.2.1 s h2 h3
    have hle := h5 (r j) hr.1 hr.2 hl
    have a1 : ¬ j < j0 := fun z => i_nlt hle (hs.2.2 j j0 z hj0)
    have a2 : ¬ j0 < j := fun z => by
      cases j with
      | zero => omega
      | succ j =>
        have h6 : kO c (r j) < kO c (r j0) := l_k' h4
        by_cases q : j0 = j
        · rw [q] at h6
          exact i_irr _ h6
        · exact i_irr _ (i_lt_tr h6 (hs.2.2 j0 j (by omega) (by omega)))
    rw [h1, show j0 = j by omega]
theorem fill_lp (h : TI w t nP nO cP cO x m) {r : Nat → Nat} (hs : Srt cP nP (cnt nP cP) r) {R : Nat → Int32} (hR : ∀ j, j < cnt nP cP → R j = nI (r j)) : ∀ d j f f' (e : Ct) (T F : Nat → Int32) (tot lon : Int32), j + d = cnt nP cP → d < f → d < f' → PF e T → PF e F → cnt nP e = j → ∃ (T' F' : Nat → Int32) (tot' lon' : Int32), pp_fillFrom_lp40 (rr_P x) f (R, T, tot, lon) (nI (cnt nP cP)) (nI j) = some (R, T', tot', lon') ∧ mm_plain_lp38 f' (plS m F lon tot) (lst cP r j) (nI j) = some (plS m F' lon' tot') := by
  have hsz := h.sz.le
  have ht := h.t2
  have hcn := cnt_le (n := nP) (c := cP)
  obtain ⟨p1, p2, p3, p4, p5, p6, p7⟩ := h.tP
  intro d
  induction d with
  | zero =>
    intro j f f' e T F tot lon hj hf hf' hT hF he
    obtain ⟨f, rfl⟩ : ∃ f2, f = f2 + 1 := ⟨f - 1, by omega⟩
    obtain ⟨f', rfl⟩ : ∃ f2, f' = f2 + 1 := ⟨f' - 1, by omega⟩
    refine ⟨T, F, tot, lon, ?_, ?_⟩
    · show pp_fillFrom_40 (rr_P x) (pp_fillFrom_lp40 (rr_P x) f) (R, T, tot, lon) (nI (cnt nP cP)) (nI j) = _
      unfold pp_fillFrom_40
      rw [it_T (nI_le (by omega) (by omega))]
    · show mm_plain_38 (mm_plain_lp38 f') (plS m F lon tot) (lst cP r j) (nI j) = _
      unfold mm_plain_38
      rw [plG_p, plG_n, h.pr, g2 ht, cl2 ht, p4, it_T (nI_le (by omega) (by omega))]
  | succ d ih =>
    intro j f f' e T F tot lon hj hf hf' hT hF he
    obtain ⟨f, rfl⟩ : ∃ f2, f = f2 + 1 := ⟨f - 1, by omega⟩
    obtain ⟨f', rfl⟩ : ∃ f2, f' = f2 + 1 := ⟨f' - 1, by omega⟩
    have hjn : j < cnt nP cP := by omega
    have e1 : pp_fillFrom_lp40 (rr_P x) (f + 1) (R, T, tot, lon) (nI (cnt nP cP)) (nI j) = pp_fillFrom_40 (rr_P x) (pp_fillFrom_lp40 (rr_P x) f) (R, T, tot, lon) (nI (cnt nP cP)) (nI j) := rfl
    have e2 : mm_plain_lp38 (f' + 1) (plS m F lon tot) (lst cP r j) (nI j) = mm_plain_38 (mm_plain_lp38 f') (plS m F lon tot) (lst cP r j) (nI j) := rfl
    rw [e1, e2]
    obtain ⟨hr1, hr2⟩ := hs.1 j hjn
    obtain ⟨k, v, hc⟩ : ∃ k v, cP (r j) = some (k, v) := by
      cases q : cP (r j) with
      | none => exact absurd q hr2
      | some a => exact ⟨a.1, a.2, rfl⟩
    have hH : bn (hsh w k) % nP < nP := Nat.mod_lt _ (by omega)
    obtain ⟨g, hg⟩ := gap_ex hH (cnt_free (c := e) (n := nP) (by omega))
    have hkk := mk_some (p2.2 (r j) (by omega)) hc
    obtain ⟨b', o', hb, hpk⟩ := pick_lp (by omega) ht (show m_present (plS m F lon tot) = nI t from h.pr) (plS_MT p2 F lon tot) (mm_plain_lp38 f') (lst cP r j) (nI j) nP 0 FU (-1) none (by omega) (by show nP < 1024; omega) ⟨rfl, fun s hs0 _ => by omega⟩
    have hb' := pick_r hs hjn hpk
    have hfl := place_lp (m := m) h.sz ht h.pr p2.1 F lon tot hF hH hg (mm_plain_lp38 f') k.toInt64 (nI j) g 0 FU (by omega) (by have := hg.2.2; show g < 1024; omega)
    rw [show (bn (hsh w k) % nP + 0) % nP = bn (hsh w k) % nP from Nat.mod_eq_of_lt hH] at hfl
    have hl1 : lst cP r (j + 1) = k.toInt64 := by
      show (kO cP (r j)).toInt64 = _
      rw [kO_at hc]
    have hfi := first_lp h.sz p1 R T tot lon hT (hsh w k) hg g 0 FU (by omega) (by have := hg.2.2; show g < 1024; omega)
    obtain ⟨T', F', tot', lon', i1, i2⟩ := ih (j + 1) f f' (upc e ((bn (hsh w k) % nP + g) % nP) (some (0, 0))) (upd T ((bn (hsh w k) % nP + g) % nP) 1) (upd F ((bn (hsh w k) % nP + g) % nP) 1) (tot + nI g) (if lon < nI g then nI g else lon) (by omega) (by omega) (by omega) (hT.up _) (hF.up _) (by rw [cnt_add (Nat.mod_lt _ (by omega)) hg.2.1, he])
    refine ⟨T', F', tot', lon', ?_, ?_⟩
    · unfold pp_fillFrom_40
      rw [it_F (nI_ge (by omega) (by omega)), g256 (by omega), cl256 (by omega)]
      rw [show pl_rising (R, T, tot, lon) j = nI (r j) from hR j hjn, t_hash (by omega) (p1.2 (r j) hr1) hc, bd_some]
      unfold pp_takeFirstFree
      rw [show (0 : Int32) = nI 0 from rfl, hfi, bd2_some, nm_eq, nm_eq, nm_eq, nI_1]
      exact i1
    · unfold mm_plain_38
      rw [plG_p, plG_n, h.pr, g2 ht, cl2 ht, p4, it_F (nI_ge (by omega) (by omega)), show mm_plain_lp57 (mm_plain_lp38 f') FU (plS m F lon tot) (lst cP r j) (nI j) (-1) 0 = _ from hb, hb', g512 (by omega), cl512 (by omega), plG_k, hkk.2.1, nm_eq, g512 (by omega), m_home (σ := plS m F lon tot) h.wy (show m_way (plS m F lon tot) = w from h.mw) h.sz ht (show m_slots (plS m F lon tot) t = nI nP from p2.1) k, bd_some]
      rw [hl1, ← nI_1] at i2
      rw [← i2]
      exact hfl
theorem plain_eq (h : TI w t nP nO cP cO x m) : ∃ (F : Nat → Int32) (p : Pl), pp_fillFrom (rr_P x) (rr_pl x) = some p ∧ mm_plain m = some (plS m F (pl_longest p) (pl_total p)) := by
  have hsz := h.sz.le
  obtain ⟨p1, p2, p3, p4, p5, p6, p7⟩ := h.tP
  obtain ⟨R, T, tot, lon⟩ := rr_pl x
  obtain ⟨T1, a1, a2⟩ := clr_lp (rr_P x) R 0 (-1) 256 0 FU T (by omega) (by show 256 < 1024; omega) (fun j hj => by omega)
  obtain ⟨F1, b1, b2⟩ := mclr_lp m (m_plainMost m) (m_plainSum m) 256 0 FU (m_plainFull m) (by omega) (by show 256 < 1024; omega) (fun j hj => by omega)
  rw [plS_self] at b1
  obtain ⟨R', r', c1, c2, c3⟩ := sort_lp (by omega) p1 p6 T1 0 (-1) nP 0 FU R (fun _ => 0) (by omega) (by show nP < 1024; omega) ⟨fun j hj => by exact absurd hj (Nat.not_lt_zero j), fun s hs _ => by omega, fun j j' _ hj => absurd hj (Nat.not_lt_zero j')⟩ (fun j hj => absurd hj (Nat.not_lt_zero j))
  have hcn := cnt_le (n := nP) (c := cP)
  have pf : ∀ T0 : Nat → Int32, (∀ j, j < 256 → T0 j = 0) → PF (fun _ => none) T0 := fun T0 h0 i hi => Or.inl ⟨rfl, h0 i hi⟩
  have cz : ∀ n, cnt n (fun _ => none) = 0 := by
    intro n
    induction n with
    | zero => rfl
    | succ n ih => exact ih
  obtain ⟨T', F', tot', lon', d1, d2⟩ := fill_lp h c2 c3 (cnt nP cP) 0 FU FU (fun _ => none) T1 F1 0 (-1) (by omega) (by show cnt nP cP < 1024; omega) (by show cnt nP cP < 1024; omega) (pf T1 a2) (pf F1 b2) (cz nP)
  refine ⟨F', (R', T', tot', lon'), ?_, ?_⟩
  · unfold pp_fillFrom
    rw [nm_eq, nm_eq]
    refine (show _ = _ from a1).trans ?_
    rw [show pp_sortByKeys (rr_P x) (R, T1, 0, -1) = _ from c1, bd2_some]
    exact d1
  · unfold mm_plain
    refine (show _ = _ from b1).trans ?_
    exact d2
theorem mthr_TI (h : TI w t nP nO cP cO x m) : TI w t nP nO cP cO x (m_thrown' m 0) := h.thr 0
theorem plainTotal_eq (h : TI w t nP nO cP cO x m) : ∃ (r : Int32) (p : Pl) (F : Nat → Int32) (a b : Int32), rr_plainTotal x = some (r, rr_pl' x p) ∧ mm_plainTotal m = some (r, plS (m_thrown' m 0) F a b) := by
  obtain ⟨F, p, h1, h2⟩ := plain_eq (h.thr 0)
  refine ⟨pl_total p, p, F, pl_longest p, pl_total p, ?_, ?_⟩
  · unfold rr_plainTotal
    rw [h1, bd_some, nm_eq]
    rfl
  · unfold mm_plainTotal
    rw [nm_eq, h2, bd_some]
    rfl
theorem plainLongest_eq (h : TI w t nP nO cP cO x m) : ∃ (r : Int32) (p : Pl) (F : Nat → Int32) (a b : Int32), rr_plainLongest x = some (r, rr_pl' x p) ∧ mm_plainLongest m = some (r, plS (m_thrown' m 0) F a b) := by
  obtain ⟨F, p, h1, h2⟩ := plain_eq (h.thr 0)
  refine ⟨pl_longest p, p, F, pl_longest p, pl_total p, ?_, ?_⟩
  · unfold rr_plainLongest
    rw [h1, bd_some, nm_eq]
    rfl
  · unfold mm_plainLongest
    rw [nm_eq, h2, bd_some]
    rfl
end FI
