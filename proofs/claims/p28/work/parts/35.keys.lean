/-! the law's helpers: the slots of a table -/
def dv (n : Nat) (H : Int32 → Nat) (c : Ct) (i : Nat) : Int32 := match c i with
  | none => -1
  | some a => nI (dd n (H a.1) i)
def TabAt (x : RR) (a : Int32) (n : Nat) (w : Int32) (c : Ct) : Prop := rr_slots x a = some (nI n) ∧ rr_keysIn x a = some (nI (cnt n c)) ∧ (∀ i, i < n → rr_distanceAt x a (nI i) = some (dv n (hm n (hsh w)) c i)) ∧ (∀ i, i < n → rr_control x a (nI i) = some (ctlv (hsh w) (c i))) ∧ ∀ i, i < n → ∀ k v, c i = some (k, v) → rr_keyAt x a (nI i) = some k
section KO
variable {w : Int32} {n nP nO : Nat} {c cP cO : Ct} {x : RR} {τ : Tb} {k v : Int32}
theorem dist_v (hz : Sz n) (h : TR n (hsh w) c τ) {i : Nat} (hi : i < n) : tt_distanceIn τ (nI i) = some (dv n (hm n (hsh w)) c i) := by
  have := hz.le
  unfold dv
  cases hc : c i with
  | none => exact t_distN (by omega) (h.2 i hi) hc
  | some a => exact t_distS (k := a.1) (v := a.2) hz h.1 hi (h.2 i hi) hc
theorem tws0 (h : tb_sl (rr_P x) = nI n) (hn : n ≤ 256) {i : Nat} (hi : i < n) : rr_tableWithSlot x 0 (nI i) = some 0 := by
  unfold rr_tableWithSlot rr_tableOf
  rw [it_T rfl]
  unfold rr_tableOf_19
  rw [it_T rfl, bd_some, it_T rfl, it_F (nI_pos (by omega)), h, it_T (nI_lt hi (by omega))]
theorem tws1 (h : tb_sl (rr_O x) = nI n) (hn : n ≤ 256) {i : Nat} (hi : i < n) : rr_tableWithSlot x 1 (nI i) = some 1 := by
  unfold rr_tableWithSlot rr_tableOf
  rw [it_F o10, it_T rfl]
  unfold rr_tableOf_19
  rw [it_F o10, bd_some, it_F (by decide), it_F (nI_pos (by omega)), h, it_T (nI_lt hi (by omega))]
theorem tab_P (h : CI w nP nO cP cO x) : TabAt x 0 nP w cP := by
  have hsz := h.sz.le
  obtain ⟨p1, p3, p5, p6, p7⟩ := h.tP
  have t0 : rr_tableOf x 0 = some 0 := rfl
  refine ⟨?_, ?_, fun i hi => ?_, fun i hi => ?_, fun i hi k v hc => ?_⟩
  · unfold rr_slots
    rw [t0, bd_some, it_T rfl, p1.1]
  · unfold rr_keysIn
    rw [t0, bd_some, it_T rfl, p3]
  · unfold rr_distanceAt
    rw [tws0 p1.1 hsz.2 hi, bd_some, it_T rfl, dist_v h.sz p1 hi, bd_some]
  · unfold rr_control
    rw [tws0 p1.1 hsz.2 hi, bd_some, it_T rfl, t_ctl (by omega) (p1.2 i hi), bd_some, gn_of (ctlv_nar _)]
  · unfold rr_keyAt
    rw [tws0 p1.1 hsz.2 hi, bd_some, it_T rfl, t_emptyS (by omega) (p1.2 i hi) hc, bd_some, it_T rfl, t_key (by omega) (p1.2 i hi) hc, bd_some]
theorem tab_O (h : CI w nP nO cP cO x) : TabAt x 1 nO w cO := by
  have h256 := h.nO256
  obtain ⟨p1, p3, p5, p6, p7⟩ := h.tO
  have t0 : rr_tableOf x 1 = some 1 := rfl
  have hz : ∀ i, i < nO → Sz nO := fun i hi => by
    rcases h.nOz with q | q
    · omega
    · exact q
  refine ⟨?_, ?_, fun i hi => ?_, fun i hi => ?_, fun i hi k v hc => ?_⟩
  · unfold rr_slots
    rw [t0, bd_some, it_F (by decide), p1.1]
  · unfold rr_keysIn
    rw [t0, bd_some, it_F (by decide), p3]
  · unfold rr_distanceAt
    rw [tws1 p1.1 h256 hi, bd_some, it_F (by decide), dist_v (hz i hi) p1 hi, bd_some]
  · unfold rr_control
    rw [tws1 p1.1 h256 hi, bd_some, it_F (by decide), t_ctl (by omega) (p1.2 i hi), bd_some, gn_of (ctlv_nar _)]
  · unfold rr_keyAt
    rw [tws1 p1.1 h256 hi, bd_some, it_F (by decide), t_emptyS (by omega) (p1.2 i hi) hc, bd_some, it_T rfl, t_key (by omega) (p1.2 i hi) hc, bd_some]
/-- the slot ahead of one -/
def pv (n i : Nat) : Nat := if i = 0 then n - 1 else i - 1
theorem pv_nx {i : Nat} (hi : i < n) : pv n i < n ∧ nx n (pv n i) = i := by
  unfold pv
  constructor
  · split <;> omega
  · rw [nx_val (by split <;> omega)]
    split <;> split at * <;> omega
theorem near {i : Nat} (hrh : RH n (hm n (hsh w)) c) (hn : n ≤ 256) (hi : i < n) (hc : c i = some (k, v)) : ¬ dv n (hm n (hsh w)) c (pv n i) + 1 < nI (dd n (hm n (hsh w) k) i) := by
  obtain ⟨h1, h2⟩ := pv_nx hi
  have hd : dd n (hm n (hsh w) k) i < n := dd_lt (by omega)
  have hle : ∃ m, m ≤ 256 ∧ dv n (hm n (hsh w)) c (pv n i) + 1 = nI m ∧ dd n (hm n (hsh w) k) i ≤ m := by
    unfold dv
    cases hp : c (pv n i) with
    | none =>
      refine ⟨0, by omega, (show (-1 : Int32) + 1 = nI 0 by decide), ?_⟩
      rcases Nat.eq_zero_or_pos (dd n (hm n (hsh w) k) i) with q | q
      · omega
      · obtain ⟨k', v', h3, h4⟩ := hrh (pv n i) h1 k v (by rw [h2]; exact hc) (by rw [h2]; exact q)
        rw [hp] at h3
        cases h3
    | some a =>
      have hd2 : dd n (hm n (hsh w) a.1) (pv n i) < n := dd_lt (by omega)
      refine ⟨dd n (hm n (hsh w) a.1) (pv n i) + 1, by omega, nI_1 _, ?_⟩
      rcases Nat.eq_zero_or_pos (dd n (hm n (hsh w) k) i) with q | q
      · omega
      · obtain ⟨k', v', h3, h4⟩ := hrh (pv n i) h1 k v (by rw [h2]; exact hc) (by rw [h2]; exact q)
        rw [hp] at h3
        cases h3
        rw [h2] at h4
        exact h4
  obtain ⟨m, hm1, hm2, hm3⟩ := hle
  rw [hm2]
  exact nI_nlt hm3 (by omega)
theorem cnt_s {i : Nat} (hc : c i = some (k, v)) : cnt (i + 1) c = cnt i c + 1 := by
  show cnt i c + (if (c i).isSome then 1 else 0) = _
  rw [hc]
  rfl
theorem cnt_n {i : Nat} (hc : c i = none) : cnt (i + 1) c = cnt i c := by
  show cnt i c + (if (c i).isSome then 1 else 0) = _
  rw [hc]
  rfl
theorem keys_lp (hz : Sz n) (hw : Way w) (hx : rr_way x = w) (hrh : RH n (hm n (hsh w)) c) {a : Int32} (ht : TabAt x a n w c) : ∀ d i f, i + d = n → d < f → hh_keysOf_lp36 x f a (nI n) (nI (cnt i c)) (dv n (hm n (hsh w)) c (pv n i)) 1 (nI i) = some (nI (cnt n c)) := by
  have hle := hz.le
  obtain ⟨t1, t2, t3, t4, t5⟩ := ht
  intro d
  induction d with
  | zero =>
    intro i f hi hf
    obtain ⟨f, rfl⟩ : ∃ f2, f = f2 + 1 := ⟨f - 1, by omega⟩
    have : i = n := by omega
    subst this
    show hh_keysOf_36 x (hh_keysOf_lp36 x f) a (nI i) (nI (cnt i c)) (dv i (hm i (hsh w)) c (pv i i)) 1 (nI i) = _
    unfold hh_keysOf_36
    rw [it_T (nI_le (Nat.le_refl _) (by omega)), it_F o10, t2, bd_some, it_T rfl]
  | succ d ih =>
    intro i f hi hf
    obtain ⟨f, rfl⟩ : ∃ f2, f = f2 + 1 := ⟨f - 1, by omega⟩
    have hin : i < n := by omega
    have hcl := cnt_le (n := i) (c := c)
    have hpv : pv n (i + 1) = i := by
      unfold pv
      rw [if_neg (by omega)]
      omega
    have hih := ih (i + 1) f (by omega) (by omega)
    rw [hpv] at hih
    show hh_keysOf_36 x (hh_keysOf_lp36 x f) a (nI n) (nI (cnt i c)) (dv n (hm n (hsh w)) c (pv n i)) 1 (nI i) = _
    unfold hh_keysOf_36
    rw [it_F (nI_ge hin (by omega)), t3 i hin, bd_some]
    cases hc : c i with
    | none =>
      have e : dv n (hm n (hsh w)) c i = -1 := by
        unfold dv
        rw [hc]
      have ec : ctlv (hsh w) (c i) = -128 := by
        rw [hc]
        rfl
      rw [e] at hih ⊢
      rw [it_F (show ¬ (0 : Int32) ≤ -1 by decide), it_F o10, t4 i hin, bd_some, ec, it_T rfl]
      unfold hh_keysOf_78 hh_keysOf_149
      rw [nm_eq, nI_1]
      rw [cnt_n hc] at hih
      exact hih
    | some b =>
      obtain ⟨k, v⟩ := b
      have hd : dd n (hm n (hsh w) k) i < n := dd_lt (by omega)
      have e : dv n (hm n (hsh w)) c i = nI (dd n (hm n (hsh w) k) i) := by
        unfold dv
        rw [hc]
      have ec : ctlv (hsh w) (c i) = ushr (hsh w k) 25 := by
        rw [hc]
        rfl
      rw [e] at hih ⊢
      have hnear := near hrh hle.2 hin hc
      have hdd : nI (dd n (hm n (hsh w) k) i) = (nI i - hsh w k) &&& (nI n - 1) := by
        rw [mk_and _ hz, dist_eq hz hin]
        rfl
      rw [it_T (nI_pos' (by omega)), t5 i hin k v hc, bd_some, hash_eq hw hx, bd_some, it_F o10, it_T hdd, t4 i hin, bd_some, it_T ec, it_F hnear]
      unfold hh_keysOf_144 hh_keysOf_149
      rw [nm_eq, nm_eq, nI_1, nI_1]
      rw [cnt_s hc] at hih
      exact hih
theorem keysOf_at (hz : n = 0 ∨ Sz n) (hw : Way w) (hx : rr_way x = w) (hrh : RH n (hm n (hsh w)) c) {a : Int32} (ht : TabAt x a n w c) : hh_keysOf x a = some (nI (cnt n c)) := by
  unfold hh_keysOf
  rw [ht.1, bd_some, bd_some]
  rcases hz with rfl | hz
  · rw [it_T (show nI 0 = 0 from rfl)]
    unfold hh_keysOf_28
    show hh_keysOf_36 x (hh_keysOf_lp36 x 1023) a (nI 0) 0 0 1 0 = _
    unfold hh_keysOf_36
    rw [it_T (show nI 0 ≤ 0 by decide), it_F o10, ht.2.1, bd_some]
    exact if_pos rfl
  · have hle := hz.le
    obtain ⟨m, rfl⟩ : ∃ m, n = m + 1 := ⟨n - 1, by omega⟩
    rw [it_F (nI_ne0 (by omega) (by omega)), nI_pred, ht.2.2.1 m (by omega), bd_some]
    unfold hh_keysOf_28
    have := keys_lp hz hw hx hrh ht (m + 1) 0 FU (by omega) (by show m + 1 < 1024; omega)
    rw [show pv (m + 1) 0 = m from rfl] at this
    exact this
theorem keysOf_P (h : CI w nP nO cP cO x) : hh_keysOf x 0 = some (nI (cnt nP cP)) := keysOf_at (Or.inr h.sz) h.wy h.xw h.tP.2.2.2.2 (tab_P h)
theorem keysOf_O (h : CI w nP nO cP cO x) : hh_keysOf x 1 = some (nI (cnt nO cO)) := keysOf_at h.nOz h.wy h.xw h.tO.2.2.2.2 (tab_O h)
end KO
/-! the law's own map -/
theorem gd01 {α : Type} (x : Option α) : gd 0 1 x = x := gd_of (show vp_in (nI 0) 1 from vp_in_nI (by omega) (by omega))
theorem g64 {α : Type} {i : Nat} {x : Option α} (hi : i < 64) : gd (nI i) 64 x = x := gd_of (vp_in_nI hi (by omega))
theorem cl64 {i : Nat} (hi : i < 64) : (nI i).toNatClampNeg = i := nI_clamp (by omega)
def PlR (N : Nat) (kf : Nat → Int32) (k r : Int32) : Prop := (r = -1 ∧ ∀ i, i < N → kf i ≠ k) ∨ ∃ i, i < N ∧ r = nI i ∧ kf i = k
theorem place_lp {N : Nat} (hN : N ≤ 64) (kf : Nat → Int32) (k : Int32) : ∀ d j f (r : Int32), j + d = N → d < f → PlR j kf k r → ∃ r', hh_placeOf_lp5 kf f (nI N) k r (nI j) = some r' ∧ PlR N kf k r' := by
  intro d
  induction d with
  | zero =>
    intro j f r hj hf hr
    obtain ⟨f, rfl⟩ : ∃ f2, f = f2 + 1 := ⟨f - 1, by omega⟩
    have : j = N := by omega
    subst this
    refine ⟨r, ?_, hr⟩
    show hh_placeOf_5 kf (hh_placeOf_lp5 kf f) (nI j) k r (nI j) = _
    unfold hh_placeOf_5
    rw [it_T (nI_le (Nat.le_refl _) (by omega))]
  | succ d ih =>
    intro j f r hj hf hr
    obtain ⟨f, rfl⟩ : ∃ f2, f = f2 + 1 := ⟨f - 1, by omega⟩
    show ∃ r', hh_placeOf_5 kf (hh_placeOf_lp5 kf f) (nI N) k r (nI j) = some r' ∧ _
    unfold hh_placeOf_5 hh_placeOf_25
    rw [it_F (nI_ge (by omega) (by omega)), g64 (by omega), cl64 (by omega)]
    by_cases q : kf j = k
    · rw [it_T q, nm_eq, nI_1]
      exact ih (j + 1) f (nI j) (by omega) (by omega) (Or.inr ⟨j, by omega, rfl, q⟩)
    · rw [it_F q, nm_eq, nI_1]
      refine ih (j + 1) f r (by omega) (by omega) ?_
      rcases hr with ⟨h1, h2⟩ | ⟨i, h1, h2, h3⟩
      · refine Or.inl ⟨h1, fun i hi => ?_⟩
        by_cases q2 : i = j
        · rw [q2]
          exact q
        · exact h2 i (by omega)
      · exact Or.inr ⟨i, by omega, h2, h3⟩
theorem place_eq {N : Nat} (hN : N ≤ 64) (kf : Nat → Int32) (k : Int32) : ∃ r, hh_placeOf kf (nI N) k = some r ∧ PlR N kf k r :=
  place_lp hN kf k N 0 FU (-1) (by omega) (by show N < 1024; omega) (Or.inl ⟨rfl, fun i hi => absurd hi (Nat.not_lt_zero i)⟩)
def lvs (vf : Nat → Int32) (i : Nat) : Nat := if vf i < 0 then 0 else 1
theorem sz_lp {N : Nat} (hN : N ≤ 64) (vf : Nat → Int32) : ∀ d j f, j + d = N → d < f → hh_size_lp4 vf f (nI N) (nI (sm j (lvs vf))) (nI j) = some (nI (sm N (lvs vf))) := by
  intro d
  induction d with
  | zero =>
    intro j f hj hf
    obtain ⟨f, rfl⟩ : ∃ f2, f = f2 + 1 := ⟨f - 1, by omega⟩
    have : j = N := by omega
    subst this
    show hh_size_4 vf (hh_size_lp4 vf f) (nI j) _ (nI j) = _
    unfold hh_size_4
    rw [it_T (nI_le (Nat.le_refl _) (by omega))]
  | succ d ih =>
    intro j f hj hf
    obtain ⟨f, rfl⟩ : ∃ f2, f = f2 + 1 := ⟨f - 1, by omega⟩
    have hih := ih (j + 1) f (by omega) (by omega)
    show hh_size_4 vf (hh_size_lp4 vf f) (nI N) _ (nI j) = _
    unfold hh_size_4 hh_size_21
    rw [it_F (nI_ge (by omega) (by omega)), g64 (by omega), cl64 (by omega)]
    by_cases q : vf j < 0
    · rw [it_T q, nm_eq, nm_eq, nI_1, Int32.add_zero]
      have e : sm (j + 1) (lvs vf) = sm j (lvs vf) := by
        show sm j (lvs vf) + lvs vf j = _
        unfold lvs
        rw [if_pos q]
        rfl
      rw [e] at hih
      exact hih
    · rw [it_F q, nm_eq, nm_eq, nI_1, nI_1]
      have e : sm (j + 1) (lvs vf) = sm j (lvs vf) + 1 := by
        show sm j (lvs vf) + lvs vf j = _
        unfold lvs
        rw [if_neg q]
      rw [e] at hih
      exact hih
theorem sz_eq {N : Nat} (hN : N ≤ 64) (vf : Nat → Int32) : hh_size vf (nI N) = some (nI (sm N (lvs vf))) := sz_lp hN vf N 0 FU (by omega) (by show N < 1024; omega)
