/-! put, remove, move -/
/-- what a call on the tables keeps beside them -/
def Fx (x x' : RR) (m m' : MS) : Prop := rr_sws x' = rr_sws x ∧ m_open m' = m_open m ∧ m_last m' = m_last m ∧ m_lastKey m' = m_lastKey m ∧ m_taken m' = m_taken m ∧ m_met m' = m_met m ∧ (rr_begun x = m_moves m → rr_begun x' = m_moves m')
theorem Fx.rf {x : RR} {m : MS} : Fx x x m m := ⟨rfl, rfl, rfl, rfl, rfl, rfl, id⟩
theorem Fx.tr {x x1 x2 : RR} {m m1 m2 : MS} (h : Fx x x1 m m1) (h2 : Fx x1 x2 m1 m2) : Fx x x2 m m2 :=
  ⟨h2.1.trans h.1, h2.2.1.trans h.2.1, h2.2.2.1.trans h.2.2.1, h2.2.2.2.1.trans h.2.2.2.1, h2.2.2.2.2.1.trans h.2.2.2.2.1, h2.2.2.2.2.2.1.trans h.2.2.2.2.2.1, fun q => h2.2.2.2.2.2.2 (h.2.2.2.2.2.2 q)⟩
theorem rst_moves {σ σ' : MS} (h : rst σ' = rst σ) : m_moves σ' = m_moves σ := congrArg (fun r => r.2.2.1) h
theorem rst_thrown {σ σ' : MS} (h : rst σ' = rst σ) : m_thrown σ' = m_thrown σ := congrArg (fun r => r.2.2.2.2.2.2.2.2.2.2.2) h
theorem Fx.of {x x' : RR} {m m' : MS} (h1 : rr_sws x' = rr_sws x) (h2 : rr_begun x' = rr_begun x) (h : rst m' = rst m) : Fx x x' m m' :=
  ⟨h1, congrArg (fun r => r.2.2.2.1) h, congrArg (fun r => r.2.2.2.2.1) h, congrArg (fun r => r.2.2.2.2.2.1) h, congrArg (fun r => r.2.2.2.2.2.2.1) h, congrArg (fun r => r.2.2.2.2.2.2.2.1) h, fun q => h2.trans (q.trans (rst_moves h).symm)⟩
section PT
variable {n t nP nO : Nat} {w : Int32} {c cP cO cP' cO' : Ct} {nO' : Nat} {τ : Tb} {x x' : RR} {m m' : MS} {k v : Int32}
theorem Kept.fx (h : Kept x x' m m' cP cO cP' cO' nP nO nO') : Fx x x' m m' := Fx.of (congrArg (fun r => r.2.2.1) h.1) (congrArg (fun r => r.2.2.2.2.2.2) h.1) h.2.1
theorem Kept.no (h : Kept x x' m m' cP cO cP' cO' nP nO nO') (h1 : No cP k) (h2 : No cO k) : No cP' k ∧ No cO' k := by
  have : ∀ v, ¬ MemU cP' cO' k v := fun v q => by
    rcases (h.2.2.1 k v).mp q with ⟨s, hs⟩ | ⟨s, hs⟩
    · exact h1 s v hs
    · exact h2 s v hs
  exact ⟨fun s v hs => this v (Or.inl ⟨s, hs⟩), fun s v hs => this v (Or.inr ⟨s, hs⟩)⟩
theorem Kept.no' (h : Kept x x' m m' cP cO cP' cO' nP nO nO') (h1 : No cP' k) (h2 : No cO' k) : No cP k ∧ No cO k := by
  have : ∀ v, ¬ MemU cP cO k v := fun v q => by
    rcases (h.2.2.1 k v).mpr q with ⟨s, hs⟩ | ⟨s, hs⟩
    · exact h1 s v hs
    · exact h2 s v hs
  exact ⟨fun s v hs => this v (Or.inl ⟨s, hs⟩), fun s v hs => this v (Or.inr ⟨s, hs⟩)⟩
theorem em_eq (h : Tbl nO w cO (rr_O x) (1 - t) m) (hz : nO = 0 ∨ (Sz nO ∧ 0 < cnt nO cO)) : ∃ τ, rr_endMoveIfOldIsEmpty x = some (rr_O' x τ) ∧ Tbl nO w cO τ (1 - t) m := by
  rcases hz with rfl | ⟨hz, hp⟩
  · have hcc : cO = fun _ => none := funext h.none0
    subst hcc
    obtain ⟨τ, a1, a2⟩ := tbl_empty (w := w) h.2.1 h.2.2.2.1 (rr_O x)
    refine ⟨τ, ?_, a2⟩
    unfold rr_endMoveIfOldIsEmpty
    rw [show tb_ct (rr_O x) = 0 from h.2.2.1, it_T rfl, a1, bd_some, nm_eq]
  · have hle := hz.le
    have hcl := cnt_le (n := nO) (c := cO)
    refine ⟨rr_O x, ?_, h⟩
    unfold rr_endMoveIfOldIsEmpty
    rw [h.2.2.1, it_F (nI_ne0 hp (by omega))]
    rfl
theorem Cap.z (h : Cap nP nO cP cO) : nO = 0 ∨ (Sz nO ∧ 0 < cnt nO cO) := by
  rcases h.2.2 with q | q
  · exact Or.inl q
  · exact Or.inr ⟨q.1, q.2.2.1⟩
theorem div256 {t s : Nat} (ht : t < 2) (hs : s < 256) : nI (256 * t + s) / 256 = nI t ∧ nI (256 * t + s) - nI (256 * t + s) / 256 * 256 = nI s := by
  have h1 : (256 : Int32) = nI 256 := rfl
  constructor
  · rw [h1, pk_div (by omega) (by omega) (by omega), show (256 * t + s) / 256 = t by omega]
  · rw [h1, pk_rem (by omega) (by omega) (by omega), show (256 * t + s) % 256 = s by omega]
theorem remove_eq (h0 : TI w t nP nO cP cO x m) (k : Int32) : ∃ (r : Int32) (x' : RR) (m' : MS) (nO' : Nat) (cP' cO' : Ct), rr_remove x k = some (r, x') ∧ mm_removes m k = some (r, m') ∧ TI w t nP nO' cP' cO' x' m' ∧ Fx x x' m m' ∧ rst m' = rst m := by
  obtain ⟨r0, x1, m1, n1, c1, c2, e1, e2, h, e4, -⟩ := slice_eq h0
  obtain ⟨se, G, Q, a1, -, -, -, -, -, a2⟩ := rr_look h k
  have hsz := h.sz.le
  have h256 := h.nO256
  have ht := h.t2
  obtain ⟨p1, p2, p3, p4, p5, p6, p7⟩ := h.tP
  obtain ⟨o1, o2, o3, o4, o5, o6, o7⟩ := h.tO
  obtain ⟨q1, q2, q3⟩ := h.cap
  have hC : rr_remove x k = bd (ss_hasFound se) (fun v5 => if v5 = 0 then some (-1, rr_se' x1 se) else dsp (se_tb se) (rr_ap x1) (rr_ao x1) (bd (tt_valueIn (rr_P x1) (se_slot se)) fun v8 => dsp (se_tb se) (rr_ap x1) (rr_ao x1) (bd (tt_takeOut (rr_P x1) (se_slot se)) fun s11 => nm (rr_P' (rr_se' x1 se) s11) fun s12 => bd (rr_endMoveIfOldIsEmpty s12) fun s14 => some (v8, s14)) (bd (tt_takeOut (rr_O x1) (se_slot se)) fun s16 => nm (rr_O' (rr_se' x1 se) s16) fun s17 => bd (rr_endMoveIfOldIsEmpty s17) fun s19 => some (v8, s19))) (bd (tt_valueIn (rr_O x1) (se_slot se)) fun v20 => dsp (se_tb se) (rr_ap x1) (rr_ao x1) (bd (tt_takeOut (rr_P x1) (se_slot se)) fun s23 => nm (rr_P' (rr_se' x1 se) s23) fun s24 => bd (rr_endMoveIfOldIsEmpty s24) fun s26 => some (v20, s26)) (bd (tt_takeOut (rr_O x1) (se_slot se)) fun s28 => nm (rr_O' (rr_se' x1 se) s28) fun s29 => bd (rr_endMoveIfOldIsEmpty s29) fun s31 => some (v20, s31)))) := by
    unfold rr_remove
    rw [e1, bd2_some, a1]
    rfl
  have hM : mm_removes m k = bd (mm_placeOf m1 k) (fun v3 => if v3 = -1 then some (-1, m1) else gd v3 512 <| nm (m_values m1 v3.toNatClampNeg) fun v6 => bd (mm_takes m1 (v3 / 256) (v3 - v3 / 256 * 256)) fun s8 => some (v6, s8)) := by
    unfold mm_removes
    rw [e2, bd2_some]
  rcases a2 with ⟨b1, ⟨s, v, b2, b3, b4⟩, b5⟩ | ⟨b1, ⟨s, v, b2, b3, b4⟩, b5⟩ | ⟨b1, b2, b3⟩
  · obtain ⟨c3, τ', m2, d1, d2, d3, d4, d5, d6, -⟩ := tbl_take h.wy h.mw h.sz ht h.tP (by omega) b4
    have hT := d6 (Or.inl h.pr.symm)
    obtain ⟨τO, f1, f2⟩ := em_eq (x := rr_P' (rr_se' x1 se) τ') (t := t) (m := m2) (h.tO.oth d3 (by omega)) h.cap.z
    refine ⟨v, rr_O' (rr_P' (rr_se' x1 se) τ') τO, m2, n1, c3, c2, ?_, ?_, ⟨h.wy, ht, h.xw, (rst_way d3.1).trans h.mw, (rst_present d3.1).trans h.pr, h.sz, hT, f2, fun k0 v0 v1 g1 g2 => h.dis k0 v0 v1 ((d5 k0 v0).mp g1).1 g2, fun k0 v0 g1 => h.val k0 v0 (g1.elim (fun g => Or.inl ((d5 k0 v0).mp g).1) Or.inr), ⟨by omega, by omega, ?_⟩, h.ne⟩, e4.fx.tr (Fx.of rfl rfl d3.1), d3.1.trans e4.2.1⟩
    · rw [hC, show ss_hasFound se = some 1 from if_neg (by rw [b1]; exact fun z => by cases z), bd_some, it_F o10, b1, b2, t_value (by omega) (p1.2 s b3) b4]
      unfold dsp
      rw [if_pos rfl, bd_some, if_pos rfl, d1, bd_some, nm_eq, f1, bd_some]
    · rw [hM, (place_P h b4).1, bd_some, it_F (nI_m1 (by omega)), g512 (by omega), cl512 (by omega), nm_eq, (mk_some (p2.2 s (by omega)) b4).2.2, (div256 ht (by omega)).2, (div256 ht (by omega)).1, d2, bd_some]
    · rcases q3 with q3 | ⟨z1, z2, z3, z4, z5⟩
      · exact Or.inl q3
      · exact Or.inr ⟨z1, z2, z3, z4, by omega⟩
  · rcases q3 with rfl | ⟨z1, z2, z3, z4, z5⟩
    · omega
    have hO := z1.le
    obtain ⟨c3, τ', m2, d1, d2, d3, d4, d5, d6, d7⟩ := tbl_take h.wy h.mw z1 (t := 1 - t) (by omega) h.tO (by omega) b4
    have hP2 : Tbl nP w c1 (rr_P x1) t m2 := h.tP.oth d3 (by omega)
    have hpr : nI (1 - t) ≠ m_present m1 := by
      rw [h.pr]
      exact fun z => by rw [nI_eq (by omega) (by omega)] at z; omega
    have hdis : ∀ k0 v0 v1, Mem c1 k0 v0 → Mem c3 k0 v1 → False := fun k0 v0 v1 g1 g2 => h.dis k0 v0 v1 g1 ((d5 k0 v1).mp g2).1
    have hval : ∀ k0 v0, Mem c1 k0 v0 ∨ Mem c3 k0 v0 → 0 ≤ v0 := fun k0 v0 g1 => h.val k0 v0 (g1.elim Or.inl (fun g => Or.inr ((d5 k0 v0).mp g).1))
    have hM2 : mm_removes m k = some (v, m2) := by
      rw [hM, (place_O h b4).1, bd_some, it_F (nI_m1 (by omega)), g512 (by omega), cl512 (by omega), nm_eq, (mk_some (o2.2 s (by omega)) b4).2.2, (div256 (by omega) (by omega)).2, (div256 (by omega) (by omega)).1, d2, bd_some]
    have hC2 : rr_remove x k = bd (rr_endMoveIfOldIsEmpty (rr_O' (rr_se' x1 se) τ')) fun s31 => some (v, s31) := by
      rw [hC, show ss_hasFound se = some 1 from if_neg (by rw [b1]; exact fun z => by cases z), bd_some, it_F o10, b1, b2, t_value (τ := rr_O x1) (by omega) (o1.2 s b3) b4]
      unfold dsp
      have hne : ¬ some (rr_ao x1) = some (rr_ap x1) := fun z => h.ne (Option.some.inj z).symm
      rw [if_neg hne, if_pos rfl, bd_some, if_neg hne, if_pos rfl, d1, bd_some, nm_eq]
    by_cases hz0 : cnt n1 c3 = 0
    · obtain ⟨y1, y2, y3, y4⟩ := d7 hpr hz0
      obtain ⟨τO, f1, f2⟩ := tbl_empty (w := w) y1 y2 τ'
      have hcc : c3 = fun _ => none := funext y4
      refine ⟨v, rr_O' (rr_O' (rr_se' x1 se) τ') τO, m2, 0, c1, fun _ => none, ?_, hM2, ⟨h.wy, ht, h.xw, (rst_way d3.1).trans h.mw, (rst_present d3.1).trans h.pr, h.sz, hP2, f2, fun k0 v0 v1 g1 g2 => hdis k0 v0 v1 g1 (by rw [hcc]; exact g2), fun k0 v0 g1 => hval k0 v0 (by rw [hcc]; exact g1), ⟨?_, ?_, Or.inl rfl⟩, h.ne⟩, e4.fx.tr (Fx.of rfl rfl d3.1), d3.1.trans e4.2.1⟩
      · rw [hC2]
        unfold rr_endMoveIfOldIsEmpty
        rw [show tb_ct (rr_O (rr_O' (rr_se' x1 se) τ')) = 0 from y3, it_T rfl, show rr_O (rr_O' (rr_se' x1 se) τ') = τ' from rfl, f1, bd_some, nm_eq, bd_some]
      · show 8 * (cnt nP c1 + 0) ≤ _
        omega
      · show cnt nP c1 + 0 ≤ _
        omega
    · obtain ⟨τO, f1, f2⟩ := em_eq (x := rr_O' (rr_se' x1 se) τ') (t := t) (m := m2) (d6 (Or.inr hz0)) (Or.inr ⟨z1, by omega⟩)
      refine ⟨v, rr_O' (rr_O' (rr_se' x1 se) τ') τO, m2, n1, c1, c3, ?_, hM2, ⟨h.wy, ht, h.xw, (rst_way d3.1).trans h.mw, (rst_present d3.1).trans h.pr, h.sz, hP2, f2, hdis, hval, ⟨by omega, by omega, Or.inr ⟨z1, z2, by omega, by omega, by omega⟩⟩, h.ne⟩, e4.fx.tr (Fx.of rfl rfl d3.1), d3.1.trans e4.2.1⟩
      rw [hC2, f1, bd_some]
  · refine ⟨-1, rr_se' x1 se, m1, n1, c1, c2, ?_, ?_, h.se se, e4.fx, e4.2.1⟩
    · rw [hC, show ss_hasFound se = some 0 from if_pos b1, bd_some, it_T rfl]
    · rw [hM, (place_no h b2 b3).1, bd_some, it_T rfl]
/-! a new key -/
theorem put_new (h : TI w t nP nO cP cO x m) (h1 : No cP k) (h2 : No cO k) (hv : 0 ≤ v) (h3 : 8 * (cnt nP cP + cnt nO cO + 1) ≤ 7 * nP) (h4 : cnt nP cP + cnt nO cO + 1 ≤ 200) (h5 : nO = 0 ∨ 32 * (cnt nP cP + cnt nO cO + 1) + 8 * cnt nO cO ≤ 35 * nO + 32) : ∃ (x' : RR) (m' : MS) (cP' : Ct), rr_putNew_26 x k v = some x' ∧ mm_put_161 m k v = some (-1, m') ∧ TI w t nP nO cP' cO x' m' ∧ Fx x x' m m' ∧ rst m' = rst m := by
  have hsz := h.sz.le
  obtain ⟨q1, q2, q3⟩ := h.cap
  obtain ⟨c2, τ2, l2, m2, b1, b2, b3, b4, b5, b6⟩ := tbl_carry h.wy h.mw h.sz h.t2 h.tP (by omega) h1 v
  have ht := h.t2
  refine ⟨rr_P' x τ2, m2, c2, ?_, ?_, ⟨h.wy, ht, h.xw, (rst_way b4.1).trans h.mw, (rst_present b4.1).trans h.pr, h.sz, b3, h.tO.oth b4 (by omega), fun k0 v0 v1 g1 g2 => ?_, fun k0 v0 g1 => ?_, ⟨by omega, by omega, ?_⟩, h.ne⟩, Fx.of rfl rfl b4.1, b4.1⟩
  · unfold rr_putNew_26
    rw [hash_eq h.wy h.xw, bd_some, b1, bd_some, nm_eq]
  · unfold mm_put_161
    rw [h.pr, b2, bd2_some]
  · rcases (b6 k0 v0).mp g1 with g | ⟨rfl, -⟩
    · exact h.dis k0 v0 v1 g g2
    · obtain ⟨s, hs⟩ := g2
      exact h2 s v1 hs
  · rcases g1 with g | g
    · rcases (b6 k0 v0).mp g with g | ⟨-, rfl⟩
      · exact h.val k0 v0 (Or.inl g)
      · exact hv
    · exact h.val k0 v0 (Or.inr g)
  · rcases q3 with q3 | ⟨z1, z2, z3, z4, z5⟩
    · exact Or.inl q3
    · have := z1.le
      exact Or.inr ⟨z1, z2, z3, z4, by omega⟩
theorem sum_many (h : TI w t nP nO cP cO x m) : m_many m 0 + m_many m 1 = nI (cnt nP cP + cnt nO cO) := by
  have h1 := h.tP.2.2.2.1
  have h2 := h.tO.2.2.2.1
  have : t = 0 ∨ t = 1 := by have := h.t2; omega
  rcases this with rfl | rfl
  · rw [h1, show m_many m 1 = _ from h2, nI_add]
  · rw [h1, show m_many m 0 = _ from h2, nI_add, Nat.add_comm]
theorem size_eq (h : TI w t nP nO cP cO x m) : rr_size x = some (nI (cnt nP cP + cnt nO cO)) := by
  unfold rr_size
  rw [h.tP.2.2.1, h.tO.2.2.1, nI_add]
end PT
