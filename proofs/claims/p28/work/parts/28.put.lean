/-! remove, put, a new object -/
section PT
variable {n nP nO nO' : Nat} {w : Int32} {c cP cO cP' cO' : Ct} {τ : Tb} {x x' : RR} {k v : Int32}
theorem Kept.no (h : Kept x x' cP cO cP' cO' nP nO nO') (h1 : No cP k) (h2 : No cO k) : No cP' k ∧ No cO' k := by
  have : ∀ v, ¬ MemU cP' cO' k v := fun v q => by
    rcases (h.2.1 k v).mp q with ⟨s, hs⟩ | ⟨s, hs⟩
    · exact h1 s v hs
    · exact h2 s v hs
  exact ⟨fun s v hs => this v (Or.inl ⟨s, hs⟩), fun s v hs => this v (Or.inr ⟨s, hs⟩)⟩
theorem Kept.no' (h : Kept x x' cP cO cP' cO' nP nO nO') (h1 : No cP' k) (h2 : No cO' k) : No cP k ∧ No cO k := by
  have : ∀ v, ¬ MemU cP cO k v := fun v q => by
    rcases (h.2.1 k v).mpr q with ⟨s, hs⟩ | ⟨s, hs⟩
    · exact h1 s v hs
    · exact h2 s v hs
  exact ⟨fun s v hs => this v (Or.inl ⟨s, hs⟩), fun s v hs => this v (Or.inr ⟨s, hs⟩)⟩
theorem Val.kept (h : Kept x x' cP cO cP' cO' nP nO nO') {r : Int32} (hv : Val cP' cO' k r) : Val cP cO k r := by
  rcases hv with q | ⟨q1, q2, q3⟩
  · exact Or.inl ((h.2.1 k r).mp q)
  · exact Or.inr ⟨q1, h.no' q2 q3⟩
theorem em_eq (h : Tbl nO w cO (rr_O x)) (hz : nO = 0 ∨ (Sz nO ∧ 0 < cnt nO cO)) : ∃ τ, rr_endMoveIfOldIsEmpty x = some (rr_O' x τ) ∧ Tbl nO w cO τ := by
  rcases hz with rfl | ⟨hz, hp⟩
  · have hcc : cO = fun _ => none := funext h.none0
    subst hcc
    obtain ⟨τ, a1, a2⟩ := tbl_empty (w := w) (N := 0) (by omega) (rr_O x)
    refine ⟨τ, ?_, a2⟩
    unfold rr_endMoveIfOldIsEmpty
    rw [show tb_ct (rr_O x) = 0 from h.2.1, it_T rfl, show tt_emptyWith (rr_O x) 0 = some τ from a1, bd_some, nm_eq]
  · have hle := hz.le
    have hcl := cnt_le (n := nO) (c := cO)
    refine ⟨rr_O x, ?_, h⟩
    unfold rr_endMoveIfOldIsEmpty
    rw [h.2.1, it_F (nI_ne0 hp (by omega))]
    rfl
theorem Cap.z (h : Cap nP nO cP cO) : nO = 0 ∨ (Sz nO ∧ 0 < cnt nO cO) := by
  rcases h.2.2 with q | q
  · exact Or.inl q
  · exact Or.inr ⟨q.1, q.2.2.1⟩
theorem remove_eq (h0 : CI w nP nO cP cO x) (k : Int32) : ∃ (r : Int32) (x' : RR) (nO' : Nat) (cP' cO' : Ct), rr_remove x k = some (r, x') ∧ CI w nP nO' cP' cO' x' ∧ Val cP cO k r ∧ (∀ k0 v0, MemU cP' cO' k0 v0 ↔ MemU cP cO k0 v0 ∧ k0 ≠ k) ∧ cnt nP cP' + cnt nO' cO' + (if r = -1 then 0 else 1) = cnt nP cP + cnt nO cO := by
  obtain ⟨x1, n1, c1, c2, e1, h, e4, -, -⟩ := slice_eq h0
  obtain ⟨se, G, Q, a1, -, -, -, -, -, a2⟩ := rr_look h k
  have hsz := h.sz.le
  have h256 := h.nO256
  obtain ⟨p1, p3, p5, p6, p7⟩ := h.tP
  obtain ⟨o1, o3, o5, o6, o7⟩ := h.tO
  obtain ⟨q1, q2, q3⟩ := h.cap
  have hcnt := e4.2.2
  have hneg : ∀ v : Int32, 0 ≤ v → ¬ v = -1 := fun v hv z => by rw [z] at hv; exact absurd hv (by decide)
  have hC : rr_remove x k = bd (ss_hasFound se) (fun v5 => if v5 = 0 then some (-1, rr_se' x1 se) else dsp (se_tb se) (rr_ap x1) (rr_ao x1) (bd (tt_valueIn (rr_P x1) (se_slot se)) fun v8 => dsp (se_tb se) (rr_ap x1) (rr_ao x1) (bd (tt_takeOut (rr_P x1) (se_slot se)) fun s11 => nm (rr_P' (rr_se' x1 se) s11) fun s12 => bd (rr_endMoveIfOldIsEmpty s12) fun s14 => some (v8, s14)) (bd (tt_takeOut (rr_O x1) (se_slot se)) fun s16 => nm (rr_O' (rr_se' x1 se) s16) fun s17 => bd (rr_endMoveIfOldIsEmpty s17) fun s19 => some (v8, s19))) (bd (tt_valueIn (rr_O x1) (se_slot se)) fun v20 => dsp (se_tb se) (rr_ap x1) (rr_ao x1) (bd (tt_takeOut (rr_P x1) (se_slot se)) fun s23 => nm (rr_P' (rr_se' x1 se) s23) fun s24 => bd (rr_endMoveIfOldIsEmpty s24) fun s26 => some (v20, s26)) (bd (tt_takeOut (rr_O x1) (se_slot se)) fun s28 => nm (rr_O' (rr_se' x1 se) s28) fun s29 => bd (rr_endMoveIfOldIsEmpty s29) fun s31 => some (v20, s31)))) := by
    unfold rr_remove
    rw [e1, bd2_some, a1]
    rfl
  rcases a2 with ⟨b1, -, ⟨s, v, b2, b3, b4⟩, b5⟩ | ⟨b1, -, ⟨s, v, b2, b3, b4⟩, b5⟩ | ⟨b1, b2, b3⟩
  · have hv0 := h.val k v (Or.inl ⟨s, b4⟩)
    obtain ⟨c3, τ', d1, d4, d5, hT⟩ := tbl_take h.sz h.tP (by omega) b4
    obtain ⟨τO, f1, f2⟩ := em_eq (x := rr_P' (rr_se' x1 se) τ') h.tO h.cap.z
    refine ⟨v, rr_O' (rr_P' (rr_se' x1 se) τ') τO, n1, c3, c2, ?_, ⟨h.wy, h.xw, h.sz, hT, f2, fun k0 v0 v1 g1 g2 => h.dis k0 v0 v1 ((d5 k0 v0).mp g1).1 g2, fun k0 v0 g1 => h.val k0 v0 (g1.elim (fun g => Or.inl ((d5 k0 v0).mp g).1) Or.inr), ⟨by omega, by omega, ?_⟩, h.ne⟩, Or.inl ((e4.2.1 k v).mp (Or.inl ⟨s, b4⟩)), fun k0 v0 => ?_, ?_⟩
    · rw [hC, show ss_hasFound se = some 1 from if_neg (by rw [b1]; exact fun z => by cases z), bd_some, it_F o10, b1, b2, t_value (by omega) (p1.2 s b3) b4]
      unfold dsp
      rw [if_pos rfl, bd_some, if_pos rfl, d1, bd_some, nm_eq, f1, bd_some]
    · rcases q3 with q3 | ⟨z1, z2, z3, z4, z5⟩
      · exact Or.inl q3
      · exact Or.inr ⟨z1, z2, z3, z4, by omega⟩
    · rw [← e4.2.1 k0 v0]
      unfold MemU
      rw [d5 k0 v0]
      constructor
      · rintro (⟨g1, g2⟩ | g1)
        · exact ⟨Or.inl g1, g2⟩
        · refine ⟨Or.inr g1, fun z => ?_⟩
          subst z
          obtain ⟨s', hs'⟩ := g1
          exact b5 s' v0 hs'
      · rintro ⟨g1 | g1, g2⟩
        · exact Or.inl ⟨g1, g2⟩
        · exact Or.inr g1
    · rw [if_neg (hneg v hv0)]
      omega
  · have hv0 := h.val k v (Or.inr ⟨s, b4⟩)
    rcases q3 with rfl | ⟨z1, z2, z3, z4, z5⟩
    · omega
    have hO := z1.le
    obtain ⟨c3, τ', d1, d4, d5, hT⟩ := tbl_take z1 h.tO (by omega) b4
    have hdis : ∀ k0 v0 v1, Mem c1 k0 v0 → Mem c3 k0 v1 → False := fun k0 v0 v1 g1 g2 => h.dis k0 v0 v1 g1 ((d5 k0 v1).mp g2).1
    have hval : ∀ k0 v0, Mem c1 k0 v0 ∨ Mem c3 k0 v0 → 0 ≤ v0 := fun k0 v0 g1 => h.val k0 v0 (g1.elim Or.inl (fun g => Or.inr ((d5 k0 v0).mp g).1))
    have hC2 : rr_remove x k = bd (rr_endMoveIfOldIsEmpty (rr_O' (rr_se' x1 se) τ')) fun s31 => some (v, s31) := by
      rw [hC, show ss_hasFound se = some 1 from if_neg (by rw [b1]; exact fun z => by cases z), bd_some, it_F o10, b1, b2, t_value (τ := rr_O x1) (by omega) (o1.2 s b3) b4]
      unfold dsp
      have hne : ¬ some (rr_ao x1) = some (rr_ap x1) := fun z => h.ne (Option.some.inj z).symm
      rw [if_neg hne, if_pos rfl, bd_some, if_neg hne, if_pos rfl, d1, bd_some, nm_eq]
    have hmem : ∀ k0 v0, MemU c1 c3 k0 v0 ↔ MemU cP cO k0 v0 ∧ k0 ≠ k := by
      intro k0 v0
      rw [← e4.2.1 k0 v0]
      unfold MemU
      rw [d5 k0 v0]
      constructor
      · rintro (g1 | ⟨g1, g2⟩)
        · refine ⟨Or.inl g1, fun z => ?_⟩
          subst z
          obtain ⟨s', hs'⟩ := g1
          exact b5 s' v0 hs'
        · exact ⟨Or.inr g1, g2⟩
      · rintro ⟨g1 | g1, g2⟩
        · exact Or.inl g1
        · exact Or.inr ⟨g1, g2⟩
    by_cases hz0 : cnt n1 c3 = 0
    · obtain ⟨τO, f1, f2⟩ := tbl_empty (w := w) (N := 0) (by omega) τ'
      have hcc : c3 = fun _ => none := all_none hT.2.2.1 hz0
      have y3 : tb_ct τ' = 0 := by
        rw [hT.2.1, hz0]
        rfl
      refine ⟨v, rr_O' (rr_O' (rr_se' x1 se) τ') τO, 0, c1, fun _ => none, ?_, ⟨h.wy, h.xw, h.sz, h.tP, f2, fun k0 v0 v1 g1 g2 => hdis k0 v0 v1 g1 (by rw [hcc]; exact g2), fun k0 v0 g1 => hval k0 v0 (by rw [hcc]; exact g1), ⟨?_, ?_, Or.inl rfl⟩, h.ne⟩, Or.inl ((e4.2.1 k v).mp (Or.inr ⟨s, b4⟩)), fun k0 v0 => by rw [← hcc]; exact hmem k0 v0, ?_⟩
      · rw [hC2]
        unfold rr_endMoveIfOldIsEmpty
        rw [show tb_ct (rr_O (rr_O' (rr_se' x1 se) τ')) = 0 from y3, it_T rfl, show rr_O (rr_O' (rr_se' x1 se) τ') = τ' from rfl, show tt_emptyWith τ' 0 = some τO from f1, bd_some, nm_eq, bd_some]
      · show 8 * (cnt nP c1 + 0) ≤ _
        omega
      · show cnt nP c1 + 0 ≤ _
        omega
      · rw [if_neg (hneg v hv0)]
        show cnt nP c1 + 0 + 1 = _
        omega
    · obtain ⟨τO, f1, f2⟩ := em_eq (x := rr_O' (rr_se' x1 se) τ') hT (Or.inr ⟨z1, by omega⟩)
      refine ⟨v, rr_O' (rr_O' (rr_se' x1 se) τ') τO, n1, c1, c3, ?_, ⟨h.wy, h.xw, h.sz, h.tP, f2, hdis, hval, ⟨by omega, by omega, Or.inr ⟨z1, z2, by omega, by omega, by omega⟩⟩, h.ne⟩, Or.inl ((e4.2.1 k v).mp (Or.inr ⟨s, b4⟩)), hmem, ?_⟩
      · rw [hC2, f1, bd_some]
      · rw [if_neg (hneg v hv0)]
        omega
  · refine ⟨-1, rr_se' x1 se, n1, c1, c2, ?_, h.se se, Or.inr ⟨rfl, e4.no' b2 b3⟩, fun k0 v0 => ?_, ?_⟩
    · rw [hC, show ss_hasFound se = some 0 from if_pos b1, bd_some, it_T rfl]
    · rw [← e4.2.1 k0 v0]
      refine ⟨fun g => ⟨g, fun z => ?_⟩, fun g => g.1⟩
      subst z
      rcases g with ⟨s', hs'⟩ | ⟨s', hs'⟩
      · exact b2 s' v0 hs'
      · exact b3 s' v0 hs'
    · rw [if_pos rfl]
      omega
/-! a new key -/
theorem put_new (h : CI w nP nO cP cO x) (h1 : No cP k) (h2 : No cO k) (hv : 0 ≤ v) (h3 : 8 * (cnt nP cP + cnt nO cO + 1) ≤ 7 * nP) (h4 : cnt nP cP + cnt nO cO + 1 ≤ 200) (h5 : nO = 0 ∨ 32 * (cnt nP cP + cnt nO cO + 1) + 8 * cnt nO cO ≤ 35 * nO + 32) : ∃ (x' : RR) (cP' : Ct), rr_putNew_26 x k v = some x' ∧ CI w nP nO cP' cO x' ∧ (∀ k0 v0, MemU cP' cO k0 v0 ↔ MemU cP cO k0 v0 ∨ (k0 = k ∧ v0 = v)) ∧ cnt nP cP' = cnt nP cP + 1 := by
  have hsz := h.sz.le
  obtain ⟨q1, q2, q3⟩ := h.cap
  obtain ⟨c2, τ2, b1, b3, b5, b6⟩ := tbl_carry h.sz h.tP (by omega) h1 v
  refine ⟨rr_P' x τ2, c2, ?_, ⟨h.wy, h.xw, h.sz, b3, h.tO, fun k0 v0 v1 g1 g2 => ?_, fun k0 v0 g1 => ?_, ⟨by omega, by omega, ?_⟩, h.ne⟩, fun k0 v0 => ?_, b5⟩
  · unfold rr_putNew_26
    rw [hash_eq h.wy h.xw, bd_some, b1, bd_some, nm_eq]
  · rcases (b6 k0 v0).mp g1 with g | ⟨rfl, -⟩
    · exact h.dis k0 v0 v1 g g2
    · obtain ⟨s, hs⟩ := g2
      exact h2 s v1 hs
  · rcases g1 with g | g
    · rcases (b6 k0 v0).mp g with g | ⟨-, rfl⟩
      · exact h.val k0 v0 (Or.inl g)
      · exact hv
    · exact h.val k0 v0 (Or.inr g)
  · rcases q3 with q3 | ⟨z1, z2, z3, z4, z5⟩
    · exact Or.inl q3
    · have := z1.le
      exact Or.inr ⟨z1, z2, z3, z4, by omega⟩
  · unfold MemU
    rw [b6 k0 v0]
    constructor
    · rintro ((g | g) | g)
      · exact Or.inl (Or.inl g)
      · exact Or.inr g
      · exact Or.inl (Or.inr g)
    · rintro ((g | g) | g)
      · exact Or.inl (Or.inl g)
      · exact Or.inr g
      · exact Or.inl (Or.inr g)
theorem size_eq (h : CI w nP nO cP cO x) : rr_size x = some (nI (cnt nP cP + cnt nO cO)) := by
  unfold rr_size
  rw [h.tP.2.1, h.tO.2.1, nI_add]
theorem cnt_none : ∀ N, cnt N (fun _ => none) = 0 := by
  intro N
  induction N with
  | zero => rfl
  | succ N ih => exact ih
/-- a move begins -/
theorem begin_eq (h : CI w nP 0 cP (fun _ => none) x) (h3 : ¬ 8 * (cnt nP cP + 1) ≤ 7 * nP) (h4 : cnt nP cP + 1 ≤ 200) : ∃ (x' : RR), rr_beginMove x = some x' ∧ CI w (2 * nP) nP (fun _ => none) cP x' := by
  have hsz := h.sz.le
  obtain ⟨q1, q2, -⟩ := h.cap
  rw [cnt_none] at q1 q2
  have h2n : Sz (2 * nP) ∧ 7 * nP = 8 * cnt nP cP := by
    rcases h.sz with rfl | rfl | rfl | rfl | rfl | rfl
    · exact ⟨Or.inr (Or.inl rfl), by omega⟩
    · exact ⟨Or.inr (Or.inr (Or.inl rfl)), by omega⟩
    · exact ⟨Or.inr (Or.inr (Or.inr (Or.inl rfl))), by omega⟩
    · exact ⟨Or.inr (Or.inr (Or.inr (Or.inr (Or.inl rfl)))), by omega⟩
    · exact ⟨Or.inr (Or.inr (Or.inr (Or.inr (Or.inr rfl)))), by omega⟩
    · omega
  have h2 := h2n.1.le
  obtain ⟨τ', a1, a2⟩ := tbl_empty (w := w) (N := 2 * nP) h2.2 (rr_O x)
  refine ⟨rr_begun' (rr_P' (rr_swap x) τ') (rr_begun x + 1), ?_, ⟨h.wy, h.xw, h2n.1, a2, h.tP, fun k0 v0 v1 g1 g2 => h.dis k0 v1 v0 g2 g1, fun k0 v0 g1 => h.val k0 v0 g1.symm, ⟨?_, ?_, Or.inr ⟨h.sz, rfl, ?_, ?_, ?_⟩⟩, fun z => h.ne z.symm⟩⟩
  · unfold rr_beginMove
    rw [nm_eq, show rr_P (rr_swap x) = rr_O x from rfl, show tb_sl (rr_O (rr_swap x)) = nI nP from h.tP.1.1, show (2 : Int32) = nI 2 from rfl, pk_mul, a1, bd_some, nm_eq, nm_eq]
    rfl
  · rw [cnt_none]; omega
  · rw [cnt_none]; omega
  · omega
  · omega
  · rw [cnt_none]; omega
theorem nI8 {a b n : Nat} : 8 * (nI (a + b) + 1) = nI (8 * (a + b + 1)) ∧ 7 * nI n = nI (7 * n) := by
  constructor
  · rw [nI_1, show (8 : Int32) = nI 8 from rfl, pk_mul]
  · rw [show (7 : Int32) = nI 7 from rfl, pk_mul]
def PutOk (w : Int32) (cP cO : Ct) (nP nO : Nat) (k v r : Int32) (x' : RR) : Prop := ∃ (nP' nO' : Nat) (cP' cO' : Ct), CI w nP' nO' cP' cO' x' ∧ Val cP cO k r ∧ (∀ k0 v0, MemU cP' cO' k0 v0 ↔ (MemU cP cO k0 v0 ∧ k0 ≠ k) ∨ (k0 = k ∧ v0 = v)) ∧ cnt nP' cP' + cnt nO' cO' = cnt nP cP + cnt nO cO + (if r = -1 then 1 else 0)
theorem put_eq (h0 : CI w nP nO cP cO x) (hv : 0 ≤ v) (hroom : cnt nP cP + cnt nO cO < 200) : ∃ (r : Int32) (x' : RR), rr_put x k v = some (r, x') ∧ PutOk w cP cO nP nO k v r x' := by
  obtain ⟨x1, n1, c1, c2, e1, h, e4, -, e5⟩ := slice_eq h0
  obtain ⟨se, G, Q, a1, -, -, -, -, -, a2⟩ := rr_look h k
  have hsz := h.sz.le
  have h256 := h.nO256
  obtain ⟨p1, p3, p5, p6, p7⟩ := h.tP
  obtain ⟨o1, o3, o5, o6, o7⟩ := h.tO
  obtain ⟨q1, q2, q3⟩ := h.cap
  have hcnt := e4.2.2
  have hneg : ∀ v : Int32, 0 ≤ v → ¬ v = -1 := fun v hv z => by rw [z] at hv; exact absurd hv (by decide)
  have hput : rr_put x k v = rr_put_43 x k v := by
    unfold rr_put
    rw [it_T hv, size_eq h0, bd_some, it_T (show nI (cnt nP cP + cnt nO cO) < 200 from nI_lt (b := 200) hroom (by omega))]
  have hC : rr_put x k v = bd (ss_hasFound se) (fun v11 => if v11 = 0 then bd (rr_putNew (rr_se' x1 se) k v) fun s14 => some (-1, s14) else dsp (se_tb se) (rr_ap x1) (rr_ao x1) (bd2 (tt_exchangeValue (rr_P x1) (se_slot se) v) fun v16 s17 => nm (rr_P' (rr_se' x1 se) s17) fun s18 => some (v16, s18)) (bd2 (tt_exchangeValue (rr_O x1) (se_slot se) v) fun v19 s20 => nm (rr_O' (rr_se' x1 se) s20) fun s21 => some (v19, s21))) := by
    rw [hput]
    unfold rr_put_43
    rw [e1, bd2_some, a1]
    rfl
  rcases a2 with ⟨b1, -, ⟨s, v0, b2, b3, b4⟩, b5⟩ | ⟨b1, -, ⟨s, v0, b2, b3, b4⟩, b5⟩ | ⟨b1, b2, b3⟩
  · obtain ⟨τ', d1, d3, hcn⟩ := tbl_xchg hsz.2 h.tP b4 v
    have hm := upd_Mem (v' := v) p6 b4
    refine ⟨v0, rr_P' (rr_se' x1 se) τ', ?_, nP, n1, upc c1 s (some (k, v)), c2, ⟨h.wy, h.xw, h.sz, d3, h.tO, fun k0 v1 v2 g1 g2 => ?_, fun k0 v1 g1 => ?_, ?_, h.ne⟩, Or.inl ((e4.2.1 k v0).mp (Or.inl ⟨s, b4⟩)), fun k0 v1 => ?_, ?_⟩
    · rw [hC, show ss_hasFound se = some 1 from if_neg (by rw [b1]; exact fun z => by cases z), bd_some, it_F o10, b1, b2, d1]
      unfold dsp
      rw [if_pos rfl, bd2_some, nm_eq]
    · rcases (hm k0 v1).mp g1 with ⟨g, -⟩ | ⟨rfl, -⟩
      · exact h.dis k0 v1 v2 g g2
      · exact h.dis k0 v0 v2 ⟨s, b4⟩ g2
    · rcases g1 with g | g
      · rcases (hm k0 v1).mp g with ⟨g, -⟩ | ⟨-, rfl⟩
        · exact h.val k0 v1 (Or.inl g)
        · exact hv
      · exact h.val k0 v1 (Or.inr g)
    · have := h.cap
      unfold Cap at this ⊢
      rw [hcn]
      exact this
    · rw [← e4.2.1 k0 v1]
      unfold MemU
      rw [hm k0 v1]
      constructor
      · rintro ((⟨g, g'⟩ | g) | g)
        · exact Or.inl ⟨Or.inl g, g'⟩
        · exact Or.inr g
        · refine Or.inl ⟨Or.inr g, fun z => ?_⟩
          subst z
          obtain ⟨s', hs'⟩ := g
          exact b5 s' v1 hs'
      · rintro (⟨g | g, g'⟩ | g)
        · exact Or.inl (Or.inl ⟨g, g'⟩)
        · exact Or.inr g
        · exact Or.inl (Or.inr g)
    · rw [hcn, if_neg (hneg v0 (h.val k v0 (Or.inl ⟨s, b4⟩)))]
      omega
  · obtain ⟨τ', d1, d3, hcn⟩ := tbl_xchg h256 h.tO b4 v
    have hm := upd_Mem (v' := v) o6 b4
    refine ⟨v0, rr_O' (rr_se' x1 se) τ', ?_, nP, n1, c1, upc c2 s (some (k, v)), ⟨h.wy, h.xw, h.sz, h.tP, d3, fun k0 v1 v2 g1 g2 => ?_, fun k0 v1 g1 => ?_, ?_, h.ne⟩, Or.inl ((e4.2.1 k v0).mp (Or.inr ⟨s, b4⟩)), fun k0 v1 => ?_, ?_⟩
    · rw [hC, show ss_hasFound se = some 1 from if_neg (by rw [b1]; exact fun z => by cases z), bd_some, it_F o10, b1, b2, d1]
      unfold dsp
      rw [if_neg (fun z => h.ne (Option.some.inj z).symm), if_pos rfl, bd2_some, nm_eq]
    · rcases (hm k0 v2).mp g2 with ⟨g, -⟩ | ⟨rfl, -⟩
      · exact h.dis k0 v1 v2 g1 g
      · exact h.dis k0 v1 v0 g1 ⟨s, b4⟩
    · rcases g1 with g | g
      · exact h.val k0 v1 (Or.inl g)
      · rcases (hm k0 v1).mp g with ⟨g, -⟩ | ⟨-, rfl⟩
        · exact h.val k0 v1 (Or.inr g)
        · exact hv
    · have := h.cap
      unfold Cap at this ⊢
      rw [hcn]
      exact this
    · rw [← e4.2.1 k0 v1]
      unfold MemU
      rw [hm k0 v1]
      constructor
      · rintro (g | ⟨g, g'⟩ | g)
        · refine Or.inl ⟨Or.inl g, fun z => ?_⟩
          subst z
          obtain ⟨s', hs'⟩ := g
          exact b5 s' v1 hs'
        · exact Or.inl ⟨Or.inr g, g'⟩
        · exact Or.inr g
      · rintro (⟨g | g, g'⟩ | g)
        · exact Or.inl g
        · exact Or.inr (Or.inl ⟨g, g'⟩)
        · exact Or.inr (Or.inr g)
    · rw [hcn, if_neg (hneg v0 (h.val k v0 (Or.inr ⟨s, b4⟩)))]
      omega
  · have hno := e4.no' b2 b3
    have hC2 : rr_put x k v = bd (if 8 * (cnt nP c1 + cnt n1 c2 + 1) ≤ 7 * nP then rr_putNew_26 (rr_se' x1 se) k v else bd (rr_beginMove (rr_se' x1 se)) fun s4 => rr_putNew_26 s4 k v) fun s11 => some (-1, s11) := by
      rw [hC, show ss_hasFound se = some 0 from if_pos b1, bd_some, it_T rfl]
      unfold rr_putNew
      rw [size_eq (h.se se), bd_some, show tb_sl (rr_P (rr_se' x1 se)) = nI nP from p1.1, (nI8 (a := cnt nP c1) (b := cnt n1 c2) (n := nP)).1, (nI8 (a := 0) (b := 0) (n := nP)).2]
      by_cases q : 8 * (cnt nP c1 + cnt n1 c2 + 1) ≤ 7 * nP
      · rw [it_T (nI_le q (by omega)), it_T q]
      · rw [it_F (nI_ge (by omega) (by omega)), it_F q]
    have hmm : ∀ k0 v1, MemU c1 c2 k0 v1 ∨ (k0 = k ∧ v1 = v) ↔ (MemU cP cO k0 v1 ∧ k0 ≠ k) ∨ (k0 = k ∧ v1 = v) := by
      intro k0 v1
      rw [← e4.2.1 k0 v1]
      constructor
      · rintro (g | g)
        · refine Or.inl ⟨g, fun z => ?_⟩
          subst z
          rcases g with ⟨s', hs'⟩ | ⟨s', hs'⟩
          · exact b2 s' v1 hs'
          · exact b3 s' v1 hs'
        · exact Or.inr g
      · rintro (g | g)
        · exact Or.inl g.1
        · exact Or.inr g
    rw [hC2]
    by_cases q : 8 * (cnt nP c1 + cnt n1 c2 + 1) ≤ 7 * nP
    · obtain ⟨x', c', f1, f3, f4, f5⟩ := put_new (h.se se) b2 b3 hv q (by omega) e5
      refine ⟨-1, x', ?_, nP, n1, c', c2, f3, Or.inr ⟨rfl, hno⟩, fun k0 v1 => (f4 k0 v1).trans (hmm k0 v1), ?_⟩
      · rw [it_T q, f1, bd_some]
      · rw [if_pos rfl, f5]
        omega
    · have hn0 : n1 = 0 := by
        rcases q3 with q3 | ⟨z1, z2, z3, z4, z5⟩
        · exact q3
        · have := z1.le
          rcases e5 with e5 | e5 <;> omega
      subst hn0
      have hcc : c2 = fun _ => none := funext h.tO.none0
      subst hcc
      have hc0 : cnt 0 (fun _ => none) = 0 := rfl
      rw [hc0] at q hcnt
      obtain ⟨x2, g1, g2'⟩ := begin_eq (h.se se) (by omega) (by omega)
      have hsz2 := g2'.sz.le
      obtain ⟨u1, u2, u3⟩ := g2'.cap
      have hz0 : cnt (2 * nP) (fun _ => none) = 0 := cnt_none _
      obtain ⟨x', c', f1, f3, f4, f5⟩ := put_new (v := v) g2' (fun s v z => (by cases z)) b2 hv (by rw [hz0]; omega) (by rw [hz0]; omega) (Or.inr (by
        rw [hz0] at u3 ⊢
        rcases h.sz with rfl | rfl | rfl | rfl | rfl | rfl <;> omega))
      refine ⟨-1, x', ?_, 2 * nP, nP, c', c1, f3, Or.inr ⟨rfl, hno⟩, fun k0 v1 => ?_, ?_⟩
      · rw [it_F (by rw [hc0]; exact q), g1, bd_some, f1, bd_some]
      · rw [f4 k0 v1, ← hmm k0 v1]
        unfold MemU
        constructor
        · rintro ((⟨s', g⟩ | g) | g)
          · cases g
          · exact Or.inl (Or.inl g)
          · exact Or.inr g
        · rintro ((g | ⟨s', g⟩) | g)
          · exact Or.inl (Or.inr g)
          · cases g
          · exact Or.inr g
      · rw [if_pos rfl, f5, hz0]
        omega
/-- a new object, and one that was cleared -/
theorem init_CI : ∃ τ8 τ0 : Tb, tt_emptyWith tb0 8 = some τ8 ∧ tt_emptyWith tb0 0 = some τ0 ∧ ∀ p o : Nat, p ≠ o → CI 1 8 0 (fun _ => none) (fun _ => none) (rr0 p o τ8 τ0) := by
  obtain ⟨τ8, a1, a2⟩ := tbl_empty (w := 1) (N := 8) (by omega) tb0
  obtain ⟨τ0, b1, b2⟩ := tbl_empty (w := 1) (N := 0) (by omega) tb0
  refine ⟨τ8, τ0, a1, b1, fun p o hne => ⟨Or.inr rfl, rfl, Or.inl rfl, a2, b2, ?_, ?_, ⟨?_, ?_, Or.inl rfl⟩, hne⟩⟩
  · rintro k v v' ⟨s, hs⟩
    cases hs
  · rintro k v (⟨s, hs⟩ | ⟨s, hs⟩) <;> cases hs
  · rw [cnt_none, cnt_none]
    omega
  · rw [cnt_none, cnt_none]
    omega
theorem clear_eq (hne : rr_ap x ≠ rr_ao x) : ∃ x', rr_clear x 0 = some x' ∧ CI 0 8 0 (fun _ => none) (fun _ => none) x' := by
  obtain ⟨τ8, a1, a2⟩ := tbl_empty (w := 0) (N := 8) (by omega) (rr_P x)
  obtain ⟨τ0, b1, b2⟩ := tbl_empty (w := 0) (N := 0) (by omega) (rr_O x)
  unfold rr_clear
  rw [it_T rfl, nm_eq, show tt_emptyWith (rr_P (rr_way' x 0)) 8 = some τ8 from a1, bd_some, nm_eq, show tt_emptyWith (rr_O (rr_P' (rr_way' x 0) τ8)) 0 = some τ0 from b1, bd_some]
  refine ⟨_, rfl, ⟨Or.inl rfl, rfl, Or.inl rfl, a2, b2, ?_, ?_, ⟨?_, ?_, Or.inl rfl⟩, hne⟩⟩
  · rintro k v v' ⟨s, hs⟩
    cases hs
  · rintro k v (⟨s, hs⟩ | ⟨s, hs⟩) <;> cases hs
  · rw [cnt_none, cnt_none]
    omega
  · rw [cnt_none, cnt_none]
    omega
end PT
