/-! what holds between two calls -/
def SI (x : RR) (m : MS) (B : Nat) : Prop := ∀ i, i < 4 → sw_open (rr_sws x i) = m_open m i ∧ (m_open m i ≠ 0 → ∃ q, q ≤ B ∧ sw_met (rr_sws x i) = nI q ∧ m_met m i = nI q ∧ sw_rank (rr_sws x i) = m_last m i ∧ (sw_may (rr_sws x i) = 0 ↔ q = 0 ∨ m_taken m i ≠ 0) ∧ (q ≠ 0 → sw_key (rr_sws x i) = m_lastKey m i))
def Inv (x : RR) (m : MS) (B : Nat) : Prop := TIx x m ∧ SI x m B ∧ rr_begun x = m_moves m
/-- both answer the same, or both refuse the same way -/
def Ag (c1 c2 : Nat) (z : Option (Ex (Int32 × RR))) (r : Option (Int32 × MS)) (B : Nat) : Prop := (∃ v x' m', z = some (.inl (v, x')) ∧ r = some (v, m') ∧ m_thrown m' = 0 ∧ Inv x' m' B) ∨ (∃ x' v m', z = some (.inr (c1, x')) ∧ r = some (v, m') ∧ m_thrown m' = 1 ∧ Inv x' m' B) ∨ ∃ x' v m', c1 ≠ c2 ∧ z = some (.inr (c2, x')) ∧ r = some (v, m') ∧ m_thrown m' = 2 ∧ Inv x' m' B
def Ag0 (z : Option (Int32 × RR)) (r : Option (Int32 × MS)) (B : Nat) : Prop := ∃ v x' m', z = some (v, x') ∧ r = some (v, m') ∧ Inv x' m' B
def Ag1 (x : RR) (z : Option Int32) (r : Option (Int32 × MS)) (B : Nat) : Prop := ∃ v m', z = some v ∧ r = some (v, m') ∧ Inv x m' B
theorem g2_0 {α : Type} {x : Option α} : gd 0 2 x = x := g2 (i := 0) (by omega)
theorem g2_1 {α : Type} {x : Option α} : gd 1 2 x = x := g2 (i := 1) (by omega)
theorem cl_0 : (0 : Int32).toNatClampNeg = 0 := rfl
theorem cl_1 : (1 : Int32).toNatClampNeg = 1 := rfl
section IV
variable {x x' : RR} {m m' : MS} {B : Nat} {k v : Int32}
theorem Inv.fx (h : Inv x m B) (ht : TIx x' m') (hf : Fx x x' m m') : Inv x' m' B := by
  obtain ⟨f1, f2, f3, f4, f5, f6, f7⟩ := hf
  refine ⟨ht, fun i hi => ?_, f7 h.2.2⟩
  rw [f1, f2, f3, f4, f5, f6]
  exact h.2.1 i hi
theorem Inv.mono (h : Inv x m B) {B' : Nat} (hb : B ≤ B') : Inv x m B' := ⟨h.1, fun i hi => ⟨(h.2.1 i hi).1, fun ho => by
  obtain ⟨q, h1, h2⟩ := (h.2.1 i hi).2 ho
  exact ⟨q, by omega, h2⟩⟩, h.2.2⟩
theorem fx_thr (z : Int32) : Fx x x m (m_thrown' m z) := ⟨rfl, rfl, rfl, rfl, rfl, rfl, id⟩
theorem fx_se (se : Se) (z : Int32) : Fx x (rr_se' x se) m (m_thrown' m z) := ⟨rfl, rfl, rfl, rfl, rfl, rfl, id⟩
theorem Inv.thr (h : Inv x m B) (z : Int32) : Inv x (m_thrown' m z) B := by
  obtain ⟨w, t, nP, nO, cP, cO, hT⟩ := h.1
  exact h.fx ⟨w, t, nP, nO, cP, cO, hT.thr z⟩ (fx_thr z)
theorem Inv.set (h : Inv x m B) (se : Se) (z : Int32) : Inv (rr_se' x se) (m_thrown' m z) B := by
  obtain ⟨w, t, nP, nO, cP, cO, hT⟩ := h.1
  exact h.fx ⟨w, t, nP, nO, cP, cO, (hT.se se).thr z⟩ (fx_se se z)
theorem get_ag (h : Inv x m B) (k : Int32) : Ag0 (rr_get x k) (mm_get m k) B := by
  obtain ⟨w, t, nP, nO, cP, cO, hT⟩ := h.1
  obtain ⟨r, se, a1, a2, -⟩ := get_eq hT k
  exact ⟨r, rr_se' x se, m_thrown' m 0, a1, a2, h.set se 0⟩
theorem remove_ag (h : Inv x m B) (k : Int32) : Ag0 (rr_remove x k) (mm_remove m k) B := by
  obtain ⟨w, t, nP, nO, cP, cO, hT⟩ := h.1
  obtain ⟨r, x', m', nO', cP', cO', a1, a2, a3, a4, -⟩ := remove_eq (hT.thr 0) k
  refine ⟨r, x', m', a1, ?_, (h.thr 0).fx ⟨w, t, nP, nO', cP', cO', a3⟩ a4⟩
  unfold mm_remove
  rw [nm_eq, a2, bd2_some]
theorem move_ag (h : Inv x m B) : Ag0 (rr_move x) (mm_move m) B := by
  obtain ⟨w, t, nP, nO, cP, cO, hT⟩ := h.1
  obtain ⟨r, x', m', nO', cP', cO', a1, a2, a3, a4, -⟩ := slice_eq (hT.thr 0)
  refine ⟨r, x', m', ?_, ?_, (h.thr 0).fx ⟨w, t, nP, nO', cP', cO', a3⟩ a4.fx⟩
  · unfold rr_move
    rw [a1, bd2_some]
  · unfold mm_move
    rw [nm_eq, a2, bd2_some]
theorem size_ag (h : Inv x m B) : Ag1 x (rr_size x) (mm_size m) B := by
  obtain ⟨w, t, nP, nO, cP, cO, hT⟩ := h.1
  refine ⟨_, m_thrown' m 0, size_eq hT, ?_, h.thr 0⟩
  unfold mm_size
  rw [nm_eq, g2_0, g2_1, cl_0, cl_1, sum_many (hT.thr 0)]
theorem moves_ag (h : Inv x m B) : Ag1 x (rr_moves x) (mm_moves m) B := by
  refine ⟨rr_begun x, m_thrown' m 0, rfl, ?_, h.thr 0⟩
  rw [h.2.2]
  rfl
theorem hash_ag (h : Inv x m B) (k : Int32) : Ag1 x (rr_hash x k) (mm_hash m k) B := by
  obtain ⟨w, t, nP, nO, cP, cO, hT⟩ := h.1
  refine ⟨hsh w k, m_thrown' m 0, hash_eq hT.wy hT.xw k, ?_, h.thr 0⟩
  unfold mm_hash
  rw [nm_eq, m_hash hT.wy (hT.thr 0).mw, bd_some]
theorem longest_ag (h : Inv x m B) : Ag1 x (rr_longest x) (mm_longest m) B := by
  obtain ⟨w, t, nP, nO, cP, cO, hT⟩ := h.1
  obtain ⟨r, a1, a2⟩ := longest_eq hT
  exact ⟨r, _, a1, a2, h.thr 0⟩
theorem total_ag (h : Inv x m B) : Ag1 x (rr_total x) (mm_total m) B := by
  obtain ⟨w, t, nP, nO, cP, cO, hT⟩ := h.1
  obtain ⟨r, a1, a2⟩ := total_eq hT
  exact ⟨r, _, a1, a2, h.thr 0⟩
theorem groups_ag (h : Inv x m B) (k : Int32) : Ag0 (rr_groups x k) (mm_groups m k) B := by
  obtain ⟨w, t, nP, nO, cP, cO, hT⟩ := h.1
  obtain ⟨se, G, Q, a1, a2, a3, a4, a5, a6, -⟩ := rr_look (hT.thr 0) k
  refine ⟨nI G, rr_se' x se, m_thrown' m 0, ?_, ?_, h.set se 0⟩
  · unfold rr_groups
    rw [a1, bd_some]
    exact congrArg (fun z => some (z, rr_se' x se)) a3
  · unfold mm_groups
    rw [nm_eq, a2, bd_some, show (1000 : Int32) = nI 1000 from rfl, pk_div (by omega) (by omega) (by omega), show (1000 * G + Q) / 1000 = G by omega]
theorem comparisons_ag (h : Inv x m B) (k : Int32) : Ag0 (rr_comparisons x k) (mm_comparisons m k) B := by
  obtain ⟨w, t, nP, nO, cP, cO, hT⟩ := h.1
  obtain ⟨se, G, Q, a1, a2, a3, a4, a5, a6, -⟩ := rr_look (hT.thr 0) k
  refine ⟨nI Q, rr_se' x se, m_thrown' m 0, ?_, ?_, h.set se 0⟩
  · unfold rr_comparisons
    rw [a1, bd_some]
    exact congrArg (fun z => some (z, rr_se' x se)) a4
  · unfold mm_comparisons
    rw [nm_eq, a2, bd_some, show (1000 : Int32) = nI 1000 from rfl, pk_rem (by omega) (by omega) (by omega), show (1000 * G + Q) % 1000 = Q by omega]
theorem plainTotal_ag (h : Inv x m B) : Ag0 (rr_plainTotal x) (mm_plainTotal m) B := by
  obtain ⟨w, t, nP, nO, cP, cO, hT⟩ := h.1
  obtain ⟨r, p, F, a, b, a1, a2⟩ := plainTotal_eq hT
  exact ⟨r, rr_pl' x p, _, a1, a2, (h.thr 0).fx ⟨w, t, nP, nO, cP, cO, plS_TI (hT.thr 0) p F a b⟩ (plS_Fx p F a b)⟩
theorem plainLongest_ag (h : Inv x m B) : Ag0 (rr_plainLongest x) (mm_plainLongest m) B := by
  obtain ⟨w, t, nP, nO, cP, cO, hT⟩ := h.1
  obtain ⟨r, p, F, a, b, a1, a2⟩ := plainLongest_eq hT
  exact ⟨r, rr_pl' x p, _, a1, a2, (h.thr 0).fx ⟨w, t, nP, nO, cP, cO, plS_TI (hT.thr 0) p F a b⟩ (plS_Fx p F a b)⟩
theorem place_any {w : Int32} {t nP nO : Nat} {cP cO : Ct} (h : TI w t nP nO cP cO x m) (k : Int32) : ∃ l3, mm_placeOf m k = some l3 ∧ (l3 = -1 ↔ No cP k ∧ No cO k) ∧ mm_isThere m k = some (if l3 = -1 then 0 else 1) := by
  have hsz := h.sz.le
  have h256 := h.nO256
  have ht := h.t2
  obtain ⟨se, G, Q, a1, -, -, -, -, -, a2⟩ := rr_look h k
  rcases a2 with ⟨b1, ⟨s, v, b2, b3, b4⟩, b5⟩ | ⟨b1, ⟨s, v, b2, b3, b4⟩, b5⟩ | ⟨b1, b2, b3⟩
  · have hp := place_P h b4
    have hn : ¬ nI (256 * t + s) = -1 := nI_m1 (by omega)
    exact ⟨_, hp.1, ⟨fun z => absurd z hn, fun z => absurd b4 (z.1 s v)⟩, by rw [if_neg hn]; exact hp.2.1⟩
  · have hp := place_O h b4
    have hn : ¬ nI (256 * (1 - t) + s) = -1 := nI_m1 (by omega)
    exact ⟨_, hp.1, ⟨fun z => absurd z hn, fun z => absurd b4 (z.2 s v)⟩, by rw [if_neg hn]; exact hp.2.1⟩
  · have hp := place_no h b2 b3
    exact ⟨_, hp.1, ⟨fun _ => ⟨b2, b3⟩, fun _ => rfl⟩, by rw [if_pos rfl]; exact hp.2.1⟩
theorem put_ag (h : Inv x m B) (k v : Int32) : Ag 1 2 (rx_put x k v) (mm_put m k v) B := by
  obtain ⟨w, t, nP, nO, cP, cO, hT⟩ := h.1
  obtain ⟨l3, hp, hl, -⟩ := place_any hT k
  by_cases hv : 0 ≤ v
  · have hcap := hT.cap.2.1
    have hM : mm_put m k v = if l3 = -1 then (if m_many m 0 + m_many m 1 = 200 then mm_put_44 m k v l3 2 else mm_put_44 m k v l3 0) else mm_put_44 m k v l3 0 := by
      unfold mm_put
      rw [hp, bd_some, it_T hv, g2_0, g2_1, cl_0, cl_1]
    have hX : rx_put x k v = if nI (cnt nP cP + cnt nO cO) < 200 then putC x k v else bd2 (rr_get x k) fun v19 s20 => if v19 = -1 then some (.inr (2, s20)) else putC s20 k v := by
      unfold rx_put
      rw [it_T hv, size_eq hT, bd_some]
      rfl
    rw [hX, hM, sum_many hT]
    by_cases hs : cnt nP cP + cnt nO cO < 200
    · obtain ⟨r, x', m', a1, a2, a3, a4, a5⟩ := putC_eq hT hv hl (fun _ _ => hs)
      refine Or.inl ⟨r, x', m', ?_, ?_, a5, h.fx a3 a4⟩
      · rw [it_T (show nI (cnt nP cP + cnt nO cO) < (200 : Int32) from nI_lt (b := 200) hs (by omega)), a1]
      · have hne : ¬ nI (cnt nP cP + cnt nO cO) = 200 := fun z => by
          have := (nI_eq (by omega) (by omega)).mp (show nI (cnt nP cP + cnt nO cO) = nI 200 from z)
          omega
        rw [it_F hne, a2]
        split <;> rfl
    · have hs2 : cnt nP cP + cnt nO cO = 200 := by omega
      rw [hs2, it_F (show ¬ nI 200 < (200 : Int32) from by decide), it_T (show nI 200 = (200 : Int32) from rfl)]
      obtain ⟨r, se, b1, b2, b3⟩ := get_eq hT k
      rw [b1, bd2_some]
      by_cases q : l3 = -1
      · rw [it_T (b3.mpr (hl.mp q)), it_T q]
        exact Or.inr (Or.inr ⟨rr_se' x se, 0, m_thrown' m 2, by decide, rfl, rfl, rfl, h.set se 2⟩)
      · rw [it_F (fun z => q (hl.mpr (b3.mp z))), it_F q]
        obtain ⟨r', x', m', a1, a2, a3, a4, a5⟩ := putC_eq (hT.se se) hv hl (fun z1 z2 => absurd (hl.mpr ⟨z1, z2⟩) q)
        refine Or.inl ⟨r', x', m', a1, a2, a5, h.fx a3 ?_⟩
        exact a4
  · refine Or.inr (Or.inl ⟨x, 0, m_thrown' m 1, ?_, ?_, rfl, h.thr 1⟩)
    · unfold rx_put
      rw [it_F hv]
    · unfold mm_put
      rw [hp, bd_some, it_F hv]
      rfl
end IV
