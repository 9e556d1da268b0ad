/-! put with all that belongs to it, clear -/
section PC
variable {n t nP nO : Nat} {w : Int32} {c cP cO : Ct} {τ : Tb} {x : RR} {m : MS} {k v : Int32}
def TIx (x : RR) (m : MS) : Prop := ∃ (w : Int32) (t nP nO : Nat) (cP cO : Ct), TI w t nP nO cP cO x m
/-- a move begins -/
theorem begin_eq (h : TI w t nP 0 cP (fun _ => none) x m) (h3 : ¬ 8 * (cnt nP cP + 1) ≤ 7 * nP) (h4 : cnt nP cP + 1 ≤ 200) : ∃ (x' : RR), rr_beginMove x = some x' ∧ TI w (1 - t) (2 * nP) nP (fun _ => none) cP x' (m_moves' (m_slots' (m_present' m (nI (1 - t))) (upd (m_slots m) (1 - t) (nI (2 * nP)))) (m_moves m + 1)) ∧ Fx x x' m (m_moves' (m_slots' (m_present' m (nI (1 - t))) (upd (m_slots m) (1 - t) (nI (2 * nP)))) (m_moves m + 1)) := by
  have hsz := h.sz.le
  have ht := h.t2
  obtain ⟨q1, q2, -⟩ := h.cap
  have h00 : ∀ N, cnt N (fun _ => none) = 0 := by
    intro N
    induction N with
    | zero => rfl
    | succ N ih =>
      show cnt N (fun _ => none) + 0 = 0
      rw [ih]
  rw [h00] at q1 q2
  have h2n : Sz (2 * nP) ∧ 7 * nP = 8 * cnt nP cP := by
    rcases h.sz with rfl | rfl | rfl | rfl | rfl | rfl
    · exact ⟨Or.inr (Or.inl rfl), by omega⟩
    · exact ⟨Or.inr (Or.inr (Or.inl rfl)), by omega⟩
    · exact ⟨Or.inr (Or.inr (Or.inr (Or.inl rfl))), by omega⟩
    · exact ⟨Or.inr (Or.inr (Or.inr (Or.inr (Or.inl rfl)))), by omega⟩
    · exact ⟨Or.inr (Or.inr (Or.inr (Or.inr (Or.inr rfl)))), by omega⟩
    · omega
  obtain ⟨p1, p2, p3, p4, p5, p6, p7⟩ := h.tP
  obtain ⟨o1, o2, o3, o4, o5, o6, o7⟩ := h.tO
  have h2 := h2n.1.le
  obtain ⟨τ', a1, a2, a3⟩ := t_emptyWith (n := 2 * nP) (hf := hsh w) h2.2 (rr_O x)
  have e1 : 1 - (1 - t) = t := by omega
  refine ⟨rr_begun' (rr_P' (rr_swap x) τ') (rr_begun x + 1), ?_, ⟨h.wy, by omega, h.xw, h.mw, rfl, h2n.1, ⟨a2, ⟨up_s _ _ _, o2.2⟩, ?_, ?_, fun _ _ => rfl, fun i j k v v' z => (by cases z), fun i hi k v z => (by cases z)⟩, ⟨p1, ?_, p3, ?_, p5, p6, p7⟩, fun k0 v0 v1 g1 g2 => h.dis k0 v1 v0 g2 g1, fun k0 v0 g1 => h.val k0 v0 g1.symm, ⟨?_, ?_, Or.inr ⟨h.sz, rfl, ?_, ?_, ?_⟩⟩, fun z => h.ne z.symm⟩, ⟨rfl, rfl, rfl, rfl, rfl, rfl, fun q => ?_⟩⟩
  · unfold rr_beginMove
    rw [nm_eq, show rr_P (rr_swap x) = rr_O x from rfl, show tb_sl (rr_O (rr_swap x)) = nI nP from p1.1, show (2 : Int32) = nI 2 from rfl, pk_mul, a1, bd_some, nm_eq, nm_eq]
    rfl
  · rw [h00]
    exact a3
  · rw [h00]
    have : m_many m (1 - t) = nI (cnt 0 (fun _ => none)) := o4
    rw [h00] at this
    exact this
  · rw [e1]
    exact ⟨(up_n (by omega)).trans p2.1, p2.2⟩
  · rw [e1]
    exact p4
  · rw [h00]; omega
  · rw [h00]; omega
  · omega
  · omega
  · rw [h00]; omega
  · show rr_begun x + 1 = m_moves m + 1
    rw [q]
theorem nI8 {a b n : Nat} : 8 * (nI (a + b) + 1) = nI (8 * (a + b + 1)) ∧ 7 * nI n = nI (7 * n) := by
  constructor
  · rw [nI_1, show (8 : Int32) = nI 8 from rfl, pk_mul]
  · rw [show (7 : Int32) = nI 7 from rfl, pk_mul]
/-- put behind its tests -/
def putC (y : RR) (k v : Int32) : Option (Ex (Int32 × RR)) := bd2 (rr_moveSlice y) fun v4 s5 =>
      bd (rr_lookUp s5 k) fun s7 =>
      bd (ss_hasFound (rr_se s7)) fun v8 =>
      if v8 = 0 then
        bd (rr_putNew s7 k v) fun s11 =>
        some (.inl ((-1), s11))
      else
        dsp (se_tb (rr_se s7)) (rr_ap s7) (rr_ao s7) (
          bd2 (tt_exchangeValue (rr_P s7) (se_slot (rr_se s7)) v) fun v13 s14 =>
          nm (rr_P' s7 s14) fun s15 =>
          some (.inl (v13, s15))) (
          bd2 (tt_exchangeValue (rr_O s7) (se_slot (rr_se s7)) v) fun v16 s17 =>
          nm (rr_O' s7 s17) fun s18 =>
          some (.inl (v16, s18)))
theorem putC_eq (h0 : TI w t nP nO cP cO x m) (hv : 0 ≤ v) {l3 : Int32} (hl : l3 = -1 ↔ No cP k ∧ No cO k) (hroom : No cP k → No cO k → cnt nP cP + cnt nO cO < 200) : ∃ (r : Int32) (x' : RR) (m' : MS), putC x k v = some (.inl (r, x')) ∧ mm_put_44 m k v l3 0 = some (r, m') ∧ TIx x' m' ∧ Fx x x' m m' ∧ m_thrown m' = 0 := by
  have h01 := h0.thr 0
  obtain ⟨r0, x1, m1, n1, c1, c2, e1, e2, h, e4, e5⟩ := slice_eq h01
  obtain ⟨se, G, Q, a1, -, -, -, -, -, a2⟩ := rr_look h k
  have hsz := h.sz.le
  have h256 := h.nO256
  have ht := h.t2
  obtain ⟨p1, p2, p3, p4, p5, p6, p7⟩ := h.tP
  obtain ⟨o1, o2, o3, o4, o5, o6, o7⟩ := h.tO
  obtain ⟨q1, q2, q3⟩ := h.cap
  have hfx : Fx x x1 m m1 := by
    have := e4.fx
    exact this
  have hth : m_thrown m1 = 0 := rst_thrown e4.2.1
  have hC : putC x k v = bd (ss_hasFound se) (fun v8 => if v8 = 0 then bd (rr_putNew (rr_se' x1 se) k v) fun s11 => some (.inl (-1, s11)) else dsp (se_tb se) (rr_ap x1) (rr_ao x1) (bd2 (tt_exchangeValue (rr_P x1) (se_slot se) v) fun v13 s14 => nm (rr_P' (rr_se' x1 se) s14) fun s15 => some (.inl (v13, s15))) (bd2 (tt_exchangeValue (rr_O x1) (se_slot se) v) fun v16 s17 => nm (rr_O' (rr_se' x1 se) s17) fun s18 => some (.inl (v16, s18)))) := by
    unfold putC
    rw [e1, bd2_some, a1]
    rfl
  have hM : mm_put_44 m k v l3 0 = if l3 = -1 then (gd 0 2 <| gd 1 2 <| gd (m_present m1) 2 <| if 8 * ((m_many m1 0 + m_many m1 1) + 1) ≤ 7 * (m_slots m1 (m_present m1).toNatClampNeg) then mm_put_161 m1 k v else nm (m_present' m1 (1 - (m_present m1))) fun s17 => gd (1 - (m_present s17)) 2 <| gd (m_present s17) 2 <| nm (m_slots' s17 (upd (m_slots s17) (m_present s17).toNatClampNeg (2 * (m_slots s17 (1 - (m_present s17)).toNatClampNeg)))) fun s20 => nm (m_moves' s20 ((m_moves s20) + 1)) fun s21 => mm_put_161 s21 k v) else bd (mm_placeOf m1 k) fun v22 => gd v22 512 <| nm (m_values m1 v22.toNatClampNeg) fun v24 => gd v22 512 <| nm (m_values' m1 (upd (m_values m1) v22.toNatClampNeg v)) fun s26 => some (v24, s26) := by
    unfold mm_put_44
    rw [show mm_isFine m 0 = some (1, m_thrown' m 0) from rfl, bd2_some, it_F o10, e2, bd2_some]
    rfl
  rcases a2 with ⟨b1, ⟨s, v0, b2, b3, b4⟩, b5⟩ | ⟨b1, ⟨s, v0, b2, b3, b4⟩, b5⟩ | ⟨b1, b2, b3⟩
  · have hl1 : ¬ l3 = -1 := fun z => (e4.no (hl.mp z).1 (hl.mp z).2).1 s v0 b4
    obtain ⟨τ', d1, d2, d3, d4⟩ := tbl_xchg hsz.2 ht h.tP b4 v
    have hm := upd_Mem (v' := v) p6 b4
    have hcnt : cnt nP (upc c1 s (some (k, v))) = cnt nP c1 := by
      refine cnt_congr (fun i hi => ?_)
      by_cases q : i = s
      · rw [q, upc_s, b4]
        rfl
      · rw [upc_n q]
    refine ⟨v0, rr_P' (rr_se' x1 se) τ', m_values' m1 (upd (m_values m1) (256 * t + s) v), ?_, ?_, ⟨w, t, nP, n1, upc c1 s (some (k, v)), c2, h.wy, ht, h.xw, h.mw, h.pr, h.sz, d3, h.tO.oth d4 (by omega), fun k0 v1 v2 g1 g2 => ?_, fun k0 v1 g1 => ?_, ?_, h.ne⟩, hfx.tr (Fx.of rfl rfl rfl), hth⟩
    · rw [hC, show ss_hasFound se = some 1 from if_neg (by rw [b1]; exact fun z => by cases z), bd_some, it_F o10, b1, b2, d1]
      unfold dsp
      rw [if_pos rfl, bd2_some, nm_eq]
    · rw [hM, it_F hl1, (place_P h b4).1, bd_some, g512 (by omega), nm_eq, g512 (by omega), nm_eq, cl512 (by omega), d2]
    · rcases (hm k0 v1).mp g1 with ⟨g, -⟩ | ⟨rfl, -⟩
      · exact h.dis k0 v1 v2 g g2
      · exact h.dis k0 v0 v2 ⟨s, b4⟩ g2
    · rcases g1 with g | g
      · rcases (hm k0 v1).mp g with ⟨g, -⟩ | ⟨-, rfl⟩
        · exact h.val k0 v1 (Or.inl g)
        · exact hv
      · exact h.val k0 v1 (Or.inr g)
    · have := h.cap
      unfold Cap at this ⊢
      rw [hcnt]
      exact this
  · have hl1 : ¬ l3 = -1 := fun z => (e4.no (hl.mp z).1 (hl.mp z).2).2 s v0 b4
    obtain ⟨τ', d1, d2, d3, d4⟩ := tbl_xchg h256 (t := 1 - t) (by omega) h.tO b4 v
    have hm := upd_Mem (v' := v) o6 b4
    have hcnt : cnt n1 (upc c2 s (some (k, v))) = cnt n1 c2 := by
      refine cnt_congr (fun i hi => ?_)
      by_cases q : i = s
      · rw [q, upc_s, b4]
        rfl
      · rw [upc_n q]
    refine ⟨v0, rr_O' (rr_se' x1 se) τ', m_values' m1 (upd (m_values m1) (256 * (1 - t) + s) v), ?_, ?_, ⟨w, t, nP, n1, c1, upc c2 s (some (k, v)), h.wy, ht, h.xw, h.mw, h.pr, h.sz, h.tP.oth d4 (by omega), d3, fun k0 v1 v2 g1 g2 => ?_, fun k0 v1 g1 => ?_, ?_, h.ne⟩, hfx.tr (Fx.of rfl rfl rfl), hth⟩
    · rw [hC, show ss_hasFound se = some 1 from if_neg (by rw [b1]; exact fun z => by cases z), bd_some, it_F o10, b1, b2, d1]
      unfold dsp
      rw [if_neg (fun z => h.ne (Option.some.inj z).symm), if_pos rfl, bd2_some, nm_eq]
    · rw [hM, it_F hl1, (place_O h b4).1, bd_some, g512 (by omega), nm_eq, g512 (by omega), nm_eq, cl512 (by omega), d2]
    · rcases (hm k0 v2).mp g2 with ⟨g, -⟩ | ⟨rfl, -⟩
      · exact h.dis k0 v1 v2 g1 g
      · exact h.dis k0 v1 v0 g1 ⟨s, b4⟩
    · rcases g1 with g | g
      · exact h.val k0 v1 (Or.inl g)
      · rcases (hm k0 v1).mp g with ⟨g, -⟩ | ⟨-, rfl⟩
        · exact h.val k0 v1 (Or.inr g)
        · exact hv
    · have := h.cap
      unfold Cap at this ⊢
      rw [hcnt]
      exact this
  · have hno := e4.no' b2 b3
    have hl1 : l3 = -1 := hl.mpr hno
    have htot : cnt nP c1 + cnt n1 c2 < 200 := by
      have := hroom hno.1 hno.2
      have := e4.2.2.2
      omega
    have hC2 : putC x k v = bd (if 8 * (cnt nP c1 + cnt n1 c2 + 1) ≤ 7 * nP then rr_putNew_26 (rr_se' x1 se) k v else bd (rr_beginMove (rr_se' x1 se)) fun s4 => rr_putNew_26 s4 k v) fun s11 => some (.inl (-1, s11)) := by
      rw [hC, show ss_hasFound se = some 0 from if_pos b1, bd_some, it_T rfl]
      unfold rr_putNew
      rw [size_eq (h.se se), bd_some, show tb_sl (rr_P (rr_se' x1 se)) = nI nP from p1.1, (nI8 (a := cnt nP c1) (b := cnt n1 c2) (n := nP)).1, (nI8 (a := 0) (b := 0) (n := nP)).2]
      by_cases q : 8 * (cnt nP c1 + cnt n1 c2 + 1) ≤ 7 * nP
      · rw [it_T (nI_le q (by omega)), it_T q]
      · rw [it_F (nI_ge (by omega) (by omega)), it_F q]
    rw [hC2, hM, it_T hl1, show gd (0 : Int32) 2 = fun x => x from rfl, show gd (1 : Int32) 2 = fun x => x from rfl, sum_many h, h.pr, g2 ht, cl2 ht, p2.1, (nI8 (a := cnt nP c1) (b := cnt n1 c2) (n := nP)).1, (nI8 (a := 0) (b := 0) (n := nP)).2]
    by_cases q : 8 * (cnt nP c1 + cnt n1 c2 + 1) ≤ 7 * nP
    · obtain ⟨x', m', c', f1, f2, f3, f4, f5⟩ := put_new (h.se se) b2 b3 hv q (by omega) e5
      refine ⟨-1, x', m', ?_, ?_, ⟨w, t, nP, n1, c', c2, f3⟩, hfx.tr (Fx.tr (Fx.of rfl rfl rfl) f4), (rst_thrown f5).trans hth⟩
      · rw [it_T q, f1, bd_some]
      · exact (if_pos (nI_le q (by omega))).trans f2
    · have hn0 : n1 = 0 := by
        rcases q3 with q3 | ⟨z1, z2, z3, z4, z5⟩
        · exact q3
        · have := z1.le
          rcases e5 with e5 | e5 <;> omega
      subst hn0
      have hcc : c2 = fun _ => none := funext h.tO.none0
      subst hcc
      have hc0 : cnt 0 (fun _ => none) = 0 := rfl
      rw [hc0] at q htot
      obtain ⟨x2, g1, g2', g3⟩ := begin_eq (h.se se) (by omega) (by omega)
      have hsz2 := g2'.sz.le
      obtain ⟨u1, u2, u3⟩ := g2'.cap
      have h00 := cnt_le (n := 2 * nP) (c := fun _ => none)
      have hz0 : cnt (2 * nP) (fun _ => none) = 0 := by
        rcases Nat.eq_zero_or_pos (cnt (2 * nP) (fun _ => none)) with z | z
        · exact z
        · obtain ⟨i, -, hi⟩ := cnt_pos z
          exact absurd rfl hi
      obtain ⟨x', m', c', f1, f2, f3, f4, f5⟩ := put_new g2' (fun s v z => (by cases z)) b2 hv (by rw [hz0]; omega) (by rw [hz0]; omega) (Or.inr (by
        rw [hz0] at u3 ⊢
        rcases h.sz with rfl | rfl | rfl | rfl | rfl | rfl <;> omega))
      refine ⟨-1, x', m', ?_, ?_, ⟨w, 1 - t, 2 * nP, nP, c', c1, f3⟩, hfx.tr (Fx.tr (Fx.tr (Fx.of rfl rfl rfl) g3) f4), (rst_thrown f5).trans hth⟩
      · rw [it_F (by rw [hc0]; exact q), g1, bd_some, f1, bd_some]
      · refine (if_neg (nI_ge (by rw [hc0]; omega) (by omega))).trans ?_
        rw [one_sub ht, nm_eq, show m_present (m_present' m1 (nI (1 - t))) = nI (1 - t) from rfl, one_sub (by omega), show 1 - (1 - t) = t by omega, g2 ht, cl2 ht, g2 (by omega), cl2 (by omega), nm_eq, nm_eq, show m_slots (m_present' m1 (nI (1 - t))) t = nI nP from p2.1, show (2 : Int32) = nI 2 from rfl, pk_mul]
        exact f2
end PC
