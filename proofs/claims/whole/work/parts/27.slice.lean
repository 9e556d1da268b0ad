/-! a slice of a move -/
def MemU (cP cO : Ct) (k v : Int32) : Prop := Mem cP k v ∨ Mem cO k v
section SL
variable {n t nP nO : Nat} {w : Int32} {c cP cO : Ct} {τ : Tb} {x : RR} {m : MS} {k v : Int32}
theorem slice_scan {T : Nat} (hT : T < 2) (hn : n ≤ 256) (hmt : MT T n c m) (K : MS → Int32 → Int32 → Option (Int32 × MS)) (l2 : Int32) {s : Nat} (hs : s < n) (hc : c s = some (k, v)) (hmin : ∀ j, j < s → c j = none) : ∀ d i f, i + d = s → d < f → mm_slice_lp25 K f m (nI T) l2 (nI i) = bd (mm_takes m (nI T) (nI s)) fun s12 => bd2 (mm_carries s12 (m_present s12) k v 0) fun _ s14 => nm (l2 + 1) fun v15 => K s14 (nI T) v15 := by
  intro d
  induction d with
  | zero =>
    intro i f hi hf
    obtain ⟨f, rfl⟩ : ∃ f', f = f' + 1 := ⟨f - 1, by omega⟩
    have : i = s := by omega
    subst this
    have hk := mk_some (hmt.2 i (by omega)) hc
    show mm_slice_25 K (mm_slice_lp25 K f) m (nI T) l2 (nI i) = _
    unfold mm_slice_25
    simp only [ixe, g512 (show 256 * T + i < 512 by omega), cl512 (show 256 * T + i < 512 by omega), nm_eq, hk.1, hk.2.1, hk.2.2]
    rw [it_F o10]
  | succ d ih =>
    intro i f hi hf
    obtain ⟨f, rfl⟩ : ∃ f', f = f' + 1 := ⟨f - 1, by omega⟩
    show mm_slice_25 K (mm_slice_lp25 K f) m (nI T) l2 (nI i) = _
    unfold mm_slice_25
    rw [ixe, g512 (by omega), cl512 (by omega), mk_none (hmt.2 i (by omega)) (hmin i (by omega)), it_T rfl, nm_eq, nI_1]
    exact ih (i + 1) f (by omega) (by omega)
theorem low_ex {n : Nat} {c : Ct} (h : 0 < cnt n c) : ∃ s k v, s < n ∧ c s = some (k, v) ∧ ∀ j, j < s → c j = none := by
  obtain ⟨i, hi, hc⟩ := cnt_pos h
  obtain ⟨s, ⟨h1, h2⟩, hmin⟩ := pk_least (fun s => s < n ∧ c s ≠ none) ⟨i, hi, hc⟩
  cases hs : c s with
  | none => exact absurd hs h2
  | some a =>
    refine ⟨s, a.1, a.2, h1, hs, fun j hj => ?_⟩
    cases hj2 : c j with
    | none => rfl
    | some b => exact absurd ⟨by omega, by rw [hj2]; exact fun z => by cases z⟩ (hmin j hj)
theorem ct_pos {n : Nat} {c : Ct} (h : 0 < cnt n c) (hn : n ≤ 256) : ¬ nI (cnt n c) ≤ 0 := nI_nle h (by have := cnt_le (n := n) (c := c); omega)
/-- what a slice keeps -/
def Kept (x x' : RR) (m m' : MS) (cP cO cP' cO' : Ct) (nP nO nO' : Nat) : Prop := x'.2.2 = x.2.2 ∧ rst m' = rst m ∧ (∀ k v, MemU cP' cO' k v ↔ MemU cP cO k v) ∧ cnt nP cP' + cnt nO' cO' = cnt nP cP + cnt nO cO
theorem Kept.rf : Kept x x m m cP cO cP cO nP nO nO := ⟨rfl, rfl, fun _ _ => Iff.rfl, rfl⟩
theorem Kept.tr {x1 x2 : RR} {m1 m2 : MS} {a1 a2 b1 b2 : Ct} {n1 n2 : Nat} (h : Kept x x1 m m1 cP cO a1 b1 nP nO n1) (h2 : Kept x1 x2 m1 m2 a1 b1 a2 b2 nP n1 n2) : Kept x x2 m m2 cP cO a2 b2 nP nO n2 :=
  ⟨h2.1.trans h.1, h2.2.1.trans h.2.1, fun k v => (h2.2.2.1 k v).trans (h.2.2.1 k v), h2.2.2.2.trans h.2.2.2⟩
theorem slice_lp (hw : Way w) : ∀ d j f f' x m cP cO, j + d = 4 → d < f → d < f' → TI w t nP nO cP cO x m → 0 < cnt nO cO → Sz nO → ∃ (r : Int32) (x' : RR) (m' : MS) (nO' : Nat) (cP' cO' : Ct), rr_moveSlice_lp2 f x (nI j) = some (r, x') ∧ mm_slice_lp9 f' m (nI (1 - t)) (nI j) = some (r, m') ∧ TI w t nP nO' cP' cO' x' m' ∧ Kept x x' m m' cP cO cP' cO' nP nO nO' ∧ (nO' = 0 ∨ (nO' = nO ∧ cnt nO' cO' + d = cnt nO cO)) := by
  intro d
  induction d with
  | zero =>
    intro j f f' x m cP cO hj hf hf' h hpos hzO
    obtain ⟨f, rfl⟩ : ∃ f2, f = f2 + 1 := ⟨f - 1, by omega⟩
    obtain ⟨f', rfl⟩ : ∃ f2, f' = f2 + 1 := ⟨f' - 1, by omega⟩
    have : j = 4 := by omega
    subst this
    have hO := hzO.le
    have hcl := cnt_le (n := nO) (c := cO)
    refine ⟨nI 4, x, m, nO, cP, cO, ?_, ?_, h, Kept.rf, Or.inr ⟨rfl, rfl⟩⟩
    · show rr_moveSlice_2 (rr_moveSlice_lp2 f) x (nI 4) = _
      unfold rr_moveSlice_2 rr_moveSlice_70 rr_endMoveIfOldIsEmpty
      rw [it_T (show (4 : Int32) ≤ nI 4 by decide), h.tO.2.2.1, it_F (nI_ne0 hpos (by omega)), bd_some]
    · show mm_slice_9 (mm_slice_lp9 f') m (nI (1 - t)) (nI 4) = _
      unfold mm_slice_9
      rw [it_T (show (4 : Int32) ≤ nI 4 by decide)]
  | succ d ih =>
    intro j f f' x m cP cO hj hf hf' h hpos hzO
    obtain ⟨f, rfl⟩ : ∃ f2, f = f2 + 1 := ⟨f - 1, by omega⟩
    obtain ⟨f', rfl⟩ : ∃ f2, f' = f2 + 1 := ⟨f' - 1, by omega⟩
    have hO := hzO.le
    have hP := h.sz.le
    have ht := h.t2
    have hcl := cnt_le (n := nO) (c := cO)
    obtain ⟨s, k, v, hs, hc, hmin⟩ := low_ex hpos
    obtain ⟨q1, q2, q3⟩ := h.cap
    obtain ⟨-, hn2, -, q4, q5⟩ := q3.resolve_left (by omega)
    obtain ⟨p1, p2, p3, p4, p5, p6, p7⟩ := h.tP
    obtain ⟨o1, o2, o3, o4, o5, o6, o7⟩ := h.tO
    obtain ⟨c1, τ1, m1, a1, a2, a3, a4, a5, a6, a7⟩ := tbl_take hw h.mw hzO (t := 1 - t) (by omega) h.tO (by omega) hc
    have htP1 : Tbl nP w cP (rr_P x) t m1 := h.tP.oth a3 (by omega)
    have hno : No cP k := No.of' h.dis hc
    obtain ⟨c2, τ2, l2, m2, b1, b2, b3, b4, b5, b6⟩ := tbl_carry hw ((rst_way a3.1).trans h.mw) h.sz ht htP1 (by omega) hno v
    have hx1 : rr_moveSlice_lp2 (f + 1) x (nI j) = rr_moveSlice_lp2 f (rr_O' (rr_P' x τ2) τ1) (nI (j + 1)) := by
      show rr_moveSlice_2 (rr_moveSlice_lp2 f) x (nI j) = _
      unfold rr_moveSlice_2
      rw [it_F (show ¬ (4 : Int32) ≤ nI j from nI_ge (b := 4) (by omega) (by omega)), o3, it_F (ct_pos hpos hO.2), t_low hO.2 o1 hs (by rw [hc]; exact fun z => by cases z) hmin, bd_some, t_key (by omega) (o1.2 s hs) hc, bd_some, t_value (by omega) (o1.2 s hs) hc, bd_some, t_hash (by omega) (o1.2 s hs) hc, bd_some, b1, bd_some, nm_eq, show tt_takeOut (rr_O (rr_P' x τ2)) (nI s) = some τ1 from a1, bd_some, nm_eq, nm_eq, nI_1]
    have hm1 : mm_slice_lp9 (f' + 1) m (nI (1 - t)) (nI j) = mm_slice_lp9 f' m2 (nI (1 - t)) (nI (j + 1)) := by
      show mm_slice_9 (mm_slice_lp9 f') m (nI (1 - t)) (nI j) = _
      unfold mm_slice_9
      rw [it_F (show ¬ (4 : Int32) ≤ nI j from nI_ge (b := 4) (by omega) (by omega)), g2 (by omega), cl2 (by omega), o4, it_F (ct_pos hpos hO.2), show (0 : Int32) = nI 0 from rfl, slice_scan (by omega) hO.2 o2 _ _ hs hc hmin s 0 FU (by omega) (by show s < 1024; omega), a2, bd_some, rst_present a3.1, h.pr, b2, bd2_some, nm_eq, nI_1]
    have hmem : ∀ k0 v0, MemU c2 c1 k0 v0 ↔ MemU cP cO k0 v0 := by
      intro k0 v0
      unfold MemU
      rw [b6, a5]
      constructor
      · rintro ((h1 | ⟨rfl, rfl⟩) | h1)
        · exact Or.inl h1
        · exact Or.inr ⟨s, hc⟩
        · exact Or.inr h1.1
      · rintro (h1 | h1)
        · exact Or.inl (Or.inl h1)
        · by_cases q : k0 = k
          · obtain ⟨i, hi⟩ := h1
            subst q
            have := o6 i s k0 v0 v hi hc
            subst this
            rw [hc] at hi
            cases hi
            exact Or.inl (Or.inr ⟨rfl, rfl⟩)
          · exact Or.inr ⟨h1, q⟩
    have hdis : ∀ k0 v0 v1, Mem c2 k0 v0 → Mem c1 k0 v1 → False := by
      intro k0 v0 v1 h1 h2
      obtain ⟨h3, h4⟩ := (a5 k0 v1).mp h2
      rcases (b6 k0 v0).mp h1 with h5 | ⟨h5, -⟩
      · exact h.dis k0 v0 v1 h5 h3
      · exact h4 h5
    have hval : ∀ k0 v0, Mem c2 k0 v0 ∨ Mem c1 k0 v0 → 0 ≤ v0 := fun k0 v0 hh => h.val k0 v0 ((hmem k0 v0).mp hh)
    have hrst : rst m2 = rst m := b4.1.trans a3.1
    have hway2 : m_way m2 = w := (rst_way hrst).trans h.mw
    have hpr2 : m_present m2 = nI t := (rst_present hrst).trans h.pr
    rw [hx1, hm1]
    by_cases h0 : cnt nO c1 = 0
    · -- the last key went over
      obtain ⟨z1, z2, z3, z4⟩ := a7 (by rw [h.pr]; exact fun z => by rw [nI_eq (by omega) (by omega)] at z; omega) h0
      obtain ⟨τ3, y1, y2⟩ := tbl_empty (w := w) (b4.oth (by omega) z1) ((b4.many (by omega)).trans z2) τ1
      have hcc : c1 = fun _ => none := funext z4
      refine ⟨nI (j + 1), rr_O' (rr_O' (rr_P' x τ2) τ1) τ3, m2, 0, c2, fun _ => none, ?_, ?_, ⟨hw, ht, h.xw, hway2, hpr2, h.sz, b3, y2, fun k0 v0 v1 h1 h2 => hdis k0 v0 v1 h1 (by rw [hcc]; exact h2), fun k0 v0 h1 => hval k0 v0 (by rw [hcc]; exact h1), ?_, h.ne⟩, ⟨rfl, hrst, fun k0 v0 => by rw [← hcc]; exact hmem k0 v0, ?_⟩, Or.inl rfl⟩
      · obtain ⟨f, rfl⟩ : ∃ f2, f = f2 + 1 := ⟨f - 1, by omega⟩
        show rr_moveSlice_2 (rr_moveSlice_lp2 f) (rr_O' (rr_P' x τ2) τ1) (nI (j + 1)) = _
        unfold rr_moveSlice_2
        have e70 : rr_moveSlice_70 (rr_O' (rr_P' x τ2) τ1) (nI (j + 1)) = some (nI (j + 1), rr_O' (rr_O' (rr_P' x τ2) τ1) τ3) := by
          unfold rr_moveSlice_70 rr_endMoveIfOldIsEmpty
          rw [show tb_ct (rr_O (rr_O' (rr_P' x τ2) τ1)) = 0 from z3, it_T rfl, show rr_O (rr_O' (rr_P' x τ2) τ1) = τ1 from rfl, y1, bd_some, nm_eq, bd_some]
        rw [e70, show tb_ct (rr_O (rr_O' (rr_P' x τ2) τ1)) = 0 from z3]
        split
        · rfl
        · exact if_pos (by decide)
      · obtain ⟨f', rfl⟩ : ∃ f2, f' = f2 + 1 := ⟨f' - 1, by omega⟩
        show mm_slice_9 (mm_slice_lp9 f') m2 (nI (1 - t)) (nI (j + 1)) = _
        unfold mm_slice_9
        rw [g2 (by omega), cl2 (by omega), b4.many (by omega), z2]
        split
        · rfl
        · exact if_pos (by decide)
      · have h00 : cnt 0 (fun _ => none) = 0 := rfl
        exact ⟨by rw [h00, b5]; omega, by rw [h00, b5]; omega, Or.inl rfl⟩
      · show cnt nP c2 + 0 = _
        rw [b5]
        omega
    · -- keys are left
      have hT := a6 (Or.inr h0)
      have hTI : TI w t nP nO c2 c1 (rr_O' (rr_P' x τ2) τ1) m2 := by
        refine ⟨hw, ht, h.xw, hway2, hpr2, h.sz, b3, hT.oth b4 (by omega), hdis, hval, ⟨?_, ?_, Or.inr ⟨hzO, hn2, by omega, ?_, ?_⟩⟩, h.ne⟩
        · rw [b5]; omega
        · rw [b5]; omega
        · omega
        · rw [b5]; omega
      obtain ⟨r, x', m', nO', cP', cO', e1, e2, e3, e4, e5⟩ := ih (j + 1) f f' _ m2 c2 c1 (by omega) (by omega) (by omega) hTI (by omega) hzO
      refine ⟨r, x', m', nO', cP', cO', e1, e2, e3, Kept.tr ⟨rfl, hrst, hmem, by rw [b5]; omega⟩ e4, ?_⟩
      rcases e5 with e5 | ⟨e5, e6⟩
      · exact Or.inl e5
      · exact Or.inr ⟨e5, by omega⟩
theorem slice_eq (h : TI w t nP nO cP cO x m) : ∃ (r : Int32) (x' : RR) (m' : MS) (nO' : Nat) (cP' cO' : Ct), rr_moveSlice x = some (r, x') ∧ mm_slice m = some (r, m') ∧ TI w t nP nO' cP' cO' x' m' ∧ Kept x x' m m' cP cO cP' cO' nP nO nO' ∧ (nO' = 0 ∨ 32 * (cnt nP cP' + cnt nO' cO' + 1) + 8 * cnt nO' cO' ≤ 35 * nO' + 32) := by
  have ht := h.t2
  obtain ⟨q1, q2, q3⟩ := h.cap
  have hm0 : mm_slice m = mm_slice_lp9 FU m (nI (1 - t)) (nI 0) := by
    unfold mm_slice
    rw [h.pr, nm_eq, one_sub ht]
    rfl
  rcases q3 with rfl | ⟨hzO, hn2, hpos, q4, q5⟩
  · have hcc : cO = fun _ => none := funext h.tO.none0
    subst hcc
    obtain ⟨τ3, y1, y2⟩ := tbl_empty (w := w) h.tO.2.1 h.tO.2.2.2.1 (rr_O x)
    refine ⟨0, rr_O' x τ3, m, 0, cP, fun _ => none, ?_, ?_, ⟨h.wy, ht, h.xw, h.mw, h.pr, h.sz, h.tP, y2, h.dis, h.val, h.cap, h.ne⟩, ⟨rfl, rfl, fun _ _ => Iff.rfl, rfl⟩, Or.inl rfl⟩
    · show rr_moveSlice_2 (rr_moveSlice_lp2 1023) x 0 = _
      unfold rr_moveSlice_2 rr_moveSlice_70 rr_endMoveIfOldIsEmpty
      rw [it_F (show ¬ (4 : Int32) ≤ 0 by decide), show tb_ct (rr_O x) = 0 from h.tO.2.2.1, it_T (show (0 : Int32) ≤ 0 by decide), it_T rfl, y1, bd_some, nm_eq, bd_some]
    · rw [hm0]
      show mm_slice_9 (mm_slice_lp9 1023) m (nI (1 - t)) 0 = _
      unfold mm_slice_9
      rw [it_F (show ¬ (4 : Int32) ≤ 0 by decide), g2 (by omega), cl2 (by omega), show m_many m (1 - t) = 0 from h.tO.2.2.2.1, it_T (show (0 : Int32) ≤ 0 by decide)]
  · obtain ⟨r, x', m', nO', cP', cO', e1, e2, e3, e4, e5⟩ := slice_lp h.wy 4 0 FU FU x m cP cO rfl (by decide) (by decide) h hpos hzO
    refine ⟨r, x', m', nO', cP', cO', e1, hm0.trans e2, e3, e4, ?_⟩
    rcases e5 with e5 | ⟨e5, e6⟩
    · exact Or.inl e5
    · have := e4.2.2.2
      subst e5
      exact Or.inr (by omega)
end SL
