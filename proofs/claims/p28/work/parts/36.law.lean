/-! the law's map beside the class's tables -/
def MapI (N : Nat) (kf vf : Nat → Int32) (cP cO : Ct) : Prop := (∀ i j, i < N → j < N → kf i = kf j → i = j) ∧ (∀ i, i < N → vf i = -1 ∨ 0 ≤ vf i) ∧ ∀ k v, MemU cP cO k v ↔ 0 ≤ v ∧ ∃ i, i < N ∧ kf i = k ∧ vf i = v
def its (vf : Nat → Int32) (r : Int32) : Int32 := if 0 ≤ r then vf r.toNatClampNeg else -1
/-- what holds between two of the law's rounds -/
def LI (e : Nat) (σ : HS) : Prop := ∃ (w : Int32) (nP nO : Nat) (cP cO : Ct) (N : Nat), CI w nP nO cP cO (hs_x σ) ∧ hs_n σ 0 = nI N ∧ N ≤ e ∧ MapI N (hs_k σ) (hs_v σ) cP cO ∧ sm N (lvs (hs_v σ)) = cnt nP cP + cnt nO cO
section LW
variable {w : Int32} {nP nO N : Nat} {cP cO : Ct} {x : RR} {kf vf : Nat → Int32} {k v r : Int32} {σ : HS} {e : Nat}
theorem i0_neg {v : Int32} (h : 0 ≤ v) : ¬ v = -1 := fun z => by
  rw [z] at h
  exact absurd h (by decide)
theorem its_no (h : PlR N kf k (-1)) (hN : N ≤ 64) : ∀ i, i < N → kf i ≠ k := by
  rcases h with ⟨-, h⟩ | ⟨i, h1, h2, h3⟩
  · exact h
  · exact absurd h2.symm (nI_m1 (by omega))
/-- the law's value of a key is the class's -/
theorem its_eq (hm : MapI N kf vf cP cO) (hN : N ≤ 64) {p : Int32} (hp : PlR N kf k p) (hv : Val cP cO k r) : r = its vf p := by
  obtain ⟨m1, m2, m3⟩ := hm
  rcases hp with ⟨rfl, hp⟩ | ⟨i, h1, rfl, h3⟩
  · have e : its vf (-1) = -1 := if_neg (by decide)
    rw [e]
    rcases hv with hv | ⟨hv, -⟩
    · obtain ⟨-, i, a1, a2, -⟩ := (m3 k r).mp hv
      exact absurd a2 (hp i a1)
    · exact hv
  · have e : its vf (nI i) = vf i := by
      unfold its
      rw [if_pos (nI_pos' (by omega)), cl64 (by omega)]
    rw [e]
    rcases hv with hv | ⟨rfl, n1, n2⟩
    · obtain ⟨-, j, a1, a2, a3⟩ := (m3 k r).mp hv
      have := m1 i j h1 a1 (h3.trans a2.symm)
      rw [this, a3]
    · rcases m2 i h1 with q | q
      · exact q.symm
      · rcases (m3 k (vf i)).mpr ⟨q, i, h1, h3, rfl⟩ with ⟨s, hs⟩ | ⟨s, hs⟩
        · exact absurd hs (n1 s _)
        · exact absurd hs (n2 s _)
theorem its_mem (hm : MapI N kf vf cP cO) (hN : N ≤ 64) {p : Int32} (hp : PlR N kf k p) (h : ¬ its vf p < 0) : MemU cP cO k (its vf p) := by
  obtain ⟨m1, m2, m3⟩ := hm
  rcases hp with ⟨rfl, hp⟩ | ⟨i, h1, rfl, h3⟩
  · exact absurd (show its vf (-1) < 0 from by
      rw [show its vf (-1) = -1 from if_neg (by decide)]
      decide) h
  · have e : its vf (nI i) = vf i := by
      unfold its
      rw [if_pos (nI_pos' (by omega)), cl64 (by omega)]
    rw [e] at h ⊢
    exact (m3 k (vf i)).mpr ⟨i_ge h, i, h1, h3, rfl⟩
theorem groups_eq (h : CI w nP nO cP cO x) (k : Int32) : ∃ (G : Nat) (se : Se), rr_groups x k = some (nI G, rr_se' x se) ∧ 1 ≤ G ∧ G ≤ 64 := by
  obtain ⟨se, G, Q, a1, a2, -, a3, a4, -, -⟩ := rr_look h k
  refine ⟨G, se, ?_, a3, a4⟩
  unfold rr_groups
  rw [a1, bd_some, ← a2]
  rfl
theorem comps_eq (h : CI w nP nO cP cO x) {v : Int32} (hm : MemU cP cO k v) : ∃ (Q : Nat) (se : Se), rr_comparisons x k = some (nI Q, rr_se' x se) ∧ 1 ≤ Q ∧ Q ≤ 512 := by
  obtain ⟨se, G, Q, a1, -, a2, -, -, a4, a5⟩ := rr_look h k
  refine ⟨Q, se, ?_, ?_, a4⟩
  · unfold rr_comparisons
    rw [a1, bd_some, ← a2]
    rfl
  · rcases a5 with ⟨-, b, -⟩ | ⟨-, b, -⟩ | ⟨-, b1, b2⟩
    · exact b
    · exact b
    · rcases hm with ⟨s, hs⟩ | ⟨s, hs⟩
      · exact absurd hs (b1 s v)
      · exact absurd hs (b2 s v)
theorem so_147 (h : CI w nP nO cP cO (hs_x σ)) (hm : MapI N (hs_k σ) (hs_v σ) cP cO) (hN : N ≤ 64) {p : Int32} (hp : PlR N (hs_k σ) k p) : ∃ x', hh_isSo_147 σ k 1 (its (hs_v σ) p) = some (1, hs_x' σ x') ∧ CI w nP nO cP cO x' := by
  obtain ⟨r, s1, a1, a2⟩ := get_eq h k
  have e := its_eq hm hN hp a2
  obtain ⟨G, s2, b1, b2, b3⟩ := groups_eq (h.se s1) k
  unfold hh_isSo_147
  rw [it_F o10, a1, bd2_some, nm_eq, it_T e, show hs_x (hs_x' σ (rr_se' (hs_x σ) s1)) = rr_se' (hs_x σ) s1 from rfl, b1, bd2_some, nm_eq, it_F (show ¬ nI G < 1 from nI_nlt (b := 1) b2 (by omega))]
  by_cases q : its (hs_v σ) p < 0
  · rw [it_T q]
    exact ⟨_, rfl, (h.se s1).se s2⟩
  · rw [it_F q]
    obtain ⟨Q, s3, c1, c2, c3⟩ := comps_eq ((h.se s1).se s2) (its_mem hm hN hp q)
    rw [show hs_x (hs_x' (hs_x' σ (rr_se' (hs_x σ) s1)) (rr_se' (rr_se' (hs_x σ) s1) s2)) = rr_se' (rr_se' (hs_x σ) s1) s2 from rfl, c1, bd2_some, nm_eq, it_F (show ¬ nI Q < 1 from nI_nlt (b := 1) c2 (by omega))]
    exact ⟨_, rfl, ((h.se s1).se s2).se s3⟩
theorem so_123 (h : CI w nP nO cP cO (hs_x σ)) (hm : MapI N (hs_k σ) (hs_v σ) cP cO) (hN : N ≤ 64) (k : Int32) : ∃ x', hh_isSo_123 σ (nI N) k 1 = some (1, hs_x' σ x') ∧ CI w nP nO cP cO x' := by
  obtain ⟨p, a1, a2⟩ := place_eq hN (hs_k σ) k
  obtain ⟨x', b1, b2⟩ := so_147 h hm hN a2
  refine ⟨x', ?_, b2⟩
  unfold hh_isSo_123
  rw [a1, bd_some]
  by_cases q : 0 ≤ p
  · have hin : vp_in p 64 := by
      rcases a2 with ⟨rfl, -⟩ | ⟨i, h1, rfl, -⟩
      · exact absurd q (by decide)
      · exact vp_in_nI (by omega) (by omega)
    rw [it_T q, gd_of hin]
    have e : its (hs_v σ) p = hs_v σ p.toNatClampNeg := if_pos q
    rw [e] at b1
    exact b1
  · rw [it_F q]
    have e : its (hs_v σ) p = -1 := if_neg q
    rw [e] at b1
    exact b1
theorem so_eq (h : CI w nP nO cP cO (hs_x σ)) (hmm : MapI N (hs_k σ) (hs_v σ) cP cO) (hN : N ≤ 64) (hs : sm N (lvs (hs_v σ)) = cnt nP cP + cnt nO cO) (k : Int32) : ∃ x', hh_isSo σ (nI N) k = some (1, hs_x' σ x') ∧ CI w nP nO cP cO x' := by
  have hsz := h.sz.le
  obtain ⟨q1, q2, q3⟩ := h.cap
  obtain ⟨L, l1, l2, l3⟩ := longest_eq h
  have hslots := (tab_P h).1
  have htot : tot nP (TC nP (hm nP (hsh w)) cP) ≤ nP * nP := by
    refine sm_le (fun i hi => ?_)
    unfold dT
    cases TC nP (hm nP (hsh w)) cP i with
    | none => exact Nat.zero_le _
    | some a => exact Nat.le_of_lt (dd_lt (by omega))
  have htot2 : tot nP (TC nP (hm nP (hsh w)) cP) < 2 ^ 31 := by
    have : nP * nP ≤ 256 * 256 := Nat.mul_le_mul hsz.2 hsz.2
    omega
  have hL : ¬ nI nP ≤ L := by
    rcases l2 with rfl | ⟨m, hm9, rfl⟩
    · exact fun z => by
        have := Int32.le_iff_toInt_le.mp z
        rw [nI_toInt (by omega)] at this
        have e : (-1 : Int32).toInt = -1 := by decide
        omega
    · exact nI_ge hm9 (by omega)
  unfold hh_isSo
  rw [sz_eq hN, bd_some, keysOf_P h, bd_some, size_eq h, bd_some, hs, it_T rfl, keysOf_O h, bd_some, nI_add, it_T rfl, hslots, bd_some]
  rw [show (7 : Int32) = nI 7 from rfl, show (8 : Int32) = nI 8 from rfl, pk_mul, pk_mul, it_F (nI_nlt q1 (by omega))]
  unfold hh_isSo_57
  rw [it_F o10, l1, bd_some, hslots, bd_some, it_F hL]
  by_cases q : cnt nP cP = 0
  · obtain ⟨r, p, b1, b2⟩ := plainLongest_eq h
    rw [q, it_T (show nI 0 = 0 from rfl), bd_some, it_T (l3 q), b1, bd2_some, nm_eq, it_T (b2 q)]
    obtain ⟨x', c1, c2⟩ := so_123 (σ := hs_x' σ (rr_pl' (hs_x σ) p)) (h.pl p) hmm hN k
    exact ⟨x', c1, c2⟩
  · obtain ⟨p, b1⟩ := plainTotal_eq h
    obtain ⟨p2, b2⟩ := plainTotal_eq (h.pl p)
    have hcn := cnt_le (n := nP) (c := cP)
    rw [it_F (nI_ne0 (by omega) (by omega)), b1, bd2_some, nm_eq, it_F (nI_pos htot2), show hs_x (hs_x' σ (rr_pl' (hs_x σ) p)) = rr_pl' (hs_x σ) p from rfl, total_eq (h.pl p), bd_some, b2, bd2_some, nm_eq, it_T rfl]
    obtain ⟨x', c1, c2⟩ := so_123 (σ := hs_x' (hs_x' σ (rr_pl' (hs_x σ) p)) (rr_pl' (rr_pl' (hs_x σ) p) p2)) ((h.pl p).pl p2) hmm hN k
    exact ⟨x', c1, c2⟩
/-! put and remove by the law -/
theorem lvs_up {f g : Nat → Int32} {i : Nat} (hi : i < N) (h : ∀ j, j < N → j ≠ i → g j = f j) : sm N (lvs g) + lvs f i = sm N (lvs f) + lvs g i := by
  refine sm_up hi (fun j hj q => ?_)
  unfold lvs
  rw [h j hj q]
theorem lvs_neg (h : vf k.toNatClampNeg = -1) : lvs vf k.toNatClampNeg = 0 := by
  unfold lvs
  rw [h]
  exact if_pos (by decide)
theorem lvs_m1 {i : Nat} (h : vf i = -1) : lvs vf i = 0 := by
  unfold lvs
  rw [h]
  exact if_pos (by decide)
theorem lvs_0 {i : Nat} (h : 0 ≤ vf i) : lvs vf i = 1 := by
  unfold lvs
  exact if_neg (fun z => i_nle z h)
theorem val_det (hm : MapI N kf vf cP cO) (h : MemU cP cO k v) (hv : Val cP cO k r) : r = v := by
  obtain ⟨m1, m2, m3⟩ := hm
  obtain ⟨-, i, a1, a2, a3⟩ := (m3 k v).mp h
  rcases hv with hv | ⟨-, n1, n2⟩
  · obtain ⟨-, j, b1, b2, b3⟩ := (m3 k r).mp hv
    have := m1 i j a1 b1 (a2.trans b2.symm)
    rw [← b3, ← a3, this]
  · rcases h with ⟨s, hs⟩ | ⟨s, hs⟩
    · exact absurd hs (n1 s _)
    · exact absurd hs (n2 s _)
theorem put_59 {i : Nat} (hi : i < N) (hN : N ≤ 60) {cP' cO' : Ct} {nP' nO' : Nat} (h : CI w nP' nO' cP' cO' (hs_x σ)) (hm : MapI N (hs_k σ) (hs_v σ) cP cO) (hk : hs_k σ i = k) (hv : 0 ≤ v) (hmem : ∀ k0 v0, MemU cP' cO' k0 v0 ↔ (MemU cP cO k0 v0 ∧ k0 ≠ k) ∨ (k0 = k ∧ v0 = v)) (hs : sm N (lvs (hs_v σ)) + (if hs_v σ i = -1 then 1 else 0) = cnt nP' cP' + cnt nO' cO') (hn : hs_n σ 0 = nI N) : ∃ σ', hh_isPut_59 σ k v (nI i) 1 = some (1, σ') ∧ LI N σ' := by
  obtain ⟨m1, m2, m3⟩ := hm
  have hm' : MapI N (hs_k σ) (upd (hs_v σ) i v) cP' cO' := by
    refine ⟨m1, fun j hj => ?_, fun k0 v0 => ?_⟩
    · by_cases q : j = i
      · rw [q, up_s]
        exact Or.inr hv
      · rw [up_n q]
        exact m2 j hj
    · rw [hmem k0 v0, m3 k0 v0]
      constructor
      · rintro (⟨⟨g1, j, g2, g3, g4⟩, g5⟩ | ⟨rfl, rfl⟩)
        · exact ⟨g1, j, g2, g3, by rw [up_n (fun z => g5 (by rw [← g3, z, hk]))]; exact g4⟩
        · exact ⟨hv, i, hi, hk, up_s _ _ _⟩
      · rintro ⟨g1, j, g2, g3, g4⟩
        by_cases q : j = i
        · rw [q, up_s] at g4
          rw [q, hk] at g3
          exact Or.inr ⟨g3.symm, g4.symm⟩
        · rw [up_n q] at g4
          exact Or.inl ⟨⟨g1, j, g2, g3, g4⟩, fun z => q (m1 j i g2 hi (by rw [g3, hk, z]))⟩
  have hs' : sm N (lvs (upd (hs_v σ) i v)) = cnt nP' cP' + cnt nO' cO' := by
    have h1 := lvs_up (f := hs_v σ) (g := upd (hs_v σ) i v) hi (fun j _ q => up_n q)
    have h2 : lvs (upd (hs_v σ) i v) i = 1 := lvs_0 (by rw [up_s]; exact hv)
    rw [h2] at h1
    rcases m2 i hi with q | q
    · rw [if_pos q] at hs
      rw [lvs_m1 q] at h1
      omega
    · rw [if_neg (i0_neg q)] at hs
      rw [lvs_0 q] at h1
      omega
  obtain ⟨r, se, a1, a2⟩ := get_eq h k
  have hr : r = v := val_det hm' ((hmem k v).mpr (Or.inr ⟨rfl, rfl⟩)) a2
  refine ⟨hs_x' (hs_v' σ (upd (hs_v σ) i v)) (rr_se' (hs_x σ) se), ?_, w, nP', nO', cP', cO', N, h.se se, hn, Nat.le_refl _, hm', hs'⟩
  unfold hh_isPut_59
  rw [g64 (by omega), nm_eq, cl64 (by omega), it_F o10, show hs_x (hs_v' σ (upd (hs_v σ) i v)) = hs_x σ from rfl, a1, bd2_some, nm_eq, it_T hr]
theorem put_39 {i : Nat} (hi : i < N) (hN : N ≤ 60) (h : CI w nP nO cP cO (hs_x σ)) (hm : MapI N (hs_k σ) (hs_v σ) cP cO) (hk : hs_k σ i = k) (hv : 0 ≤ v) (hs : sm N (lvs (hs_v σ)) = cnt nP cP + cnt nO cO) (hn : hs_n σ 0 = nI N) : ∃ σ', hh_isPut σ k v = hh_isPut σ k v ∧ hh_isPut_39 σ k v (nI i) = some (1, σ') ∧ LI N σ' := by
  have hle : sm N (lvs (hs_v σ)) ≤ N * 1 := sm_le (fun j _ => by
    unfold lvs
    split <;> omega)
  obtain ⟨r, x', a1, nP', nO', cP', cO', b1, b2, b3, b4⟩ := put_eq h hv (by omega)
  have hp : PlR N (hs_k σ) k (nI i) := Or.inr ⟨i, hi, rfl, hk⟩
  have hr := its_eq hm (by omega) hp b2
  have e : its (hs_v σ) (nI i) = hs_v σ i := by
    unfold its
    rw [if_pos (nI_pos' (by omega)), cl64 (by omega)]
  rw [e] at hr
  obtain ⟨σ', c1, c2⟩ := put_59 (σ := hs_x' σ x') hi hN b1 hm hk hv b3 (by
    rw [b4, show hs_v (hs_x' σ x') = hs_v σ from rfl, hs, ← hr]) hn
  refine ⟨σ', rfl, ?_, c2⟩
  unfold hh_isPut_39
  rw [a1, bd2_some, nm_eq, g64 (by omega), cl64 (by omega), it_T (show r = hs_v (hs_x' σ x') i from hr)]
  exact c1
theorem isPut_eq (h : LI e σ) (he : e < 60) (hv : 0 ≤ v) (k : Int32) : ∃ σ', hh_isPut σ k v = some (1, σ') ∧ LI (e + 1) σ' := by
  obtain ⟨w, nP, nO, cP, cO, N, h1, h2, h3, hm, h5⟩ := h
  have hup : ∀ {N' σ'}, LI N' σ' → N' ≤ e + 1 → LI (e + 1) σ' := by
    rintro N' σ' ⟨w, nP, nO, cP, cO, N, h1, h2, h3, hm, h5⟩ hle
    exact ⟨w, nP, nO, cP, cO, N, h1, h2, by omega, hm, h5⟩
  obtain ⟨p, a1, a2⟩ := place_eq (N := N) (by omega) (hs_k σ) k
  have e0 : hs_n σ (0 : Int32).toNatClampNeg = nI N := h2
  unfold hh_isPut
  rw [gd01, e0, a1, bd_some]
  rcases a2 with ⟨rfl, hp⟩ | ⟨i, hi, rfl, hk⟩
  · rw [it_F (show ¬ (0 : Int32) ≤ -1 by decide), gd01, nm_eq, g64 (by omega), nm_eq, g64 (by omega), nm_eq, gd01, gd01, nm_eq, cl64 (by omega)]
    obtain ⟨m1, m2, m3⟩ := hm
    have hin : ∀ i, i < N → i ≠ N := fun i hi => by omega
    have hm' : MapI (N + 1) (upd (hs_k σ) N k) (upd (hs_v σ) N (-1)) cP cO := by
      refine ⟨fun i j hi hj hij => ?_, fun i hi => ?_, fun k0 v0 => ?_⟩
      · by_cases q1 : i = N <;> by_cases q2 : j = N
        · rw [q1, q2]
        · rw [q1, up_s, up_n q2] at hij
          exact absurd hij.symm (hp j (by omega))
        · rw [q2, up_s, up_n q1] at hij
          exact absurd hij (hp i (by omega))
        · rw [up_n q1, up_n q2] at hij
          exact m1 i j (by omega) (by omega) hij
      · by_cases q : i = N
        · rw [q, up_s]
          exact Or.inl rfl
        · rw [up_n q]
          exact m2 i (by omega)
      · rw [m3 k0 v0]
        constructor
        · rintro ⟨g1, j, g2, g3, g4⟩
          exact ⟨g1, j, by omega, by rw [up_n (hin j g2)]; exact g3, by rw [up_n (hin j g2)]; exact g4⟩
        · rintro ⟨g1, j, g2, g3, g4⟩
          by_cases q : j = N
          · rw [q, up_s] at g4
            exact absurd g4.symm (i0_neg g1)
          · rw [up_n q] at g3 g4
            exact ⟨g1, j, by omega, g3, g4⟩
    have hs' : sm (N + 1) (lvs (upd (hs_v σ) N (-1))) = cnt nP cP + cnt nO cO := by
      show sm N (lvs (upd (hs_v σ) N (-1))) + lvs (upd (hs_v σ) N (-1)) N = _
      rw [lvs_m1 (up_s _ _ _), ← h5, Nat.add_zero]
      refine sm_congr (fun i hi => ?_)
      unfold lvs
      rw [up_n (hin i hi)]
    obtain ⟨σ', -, c1, c2⟩ := put_39 (σ := hs_n' (hs_v' (hs_k' σ (upd (hs_k σ) N k)) (upd (hs_v σ) N (-1))) (upd (hs_n σ) 0 (nI N + 1))) (i := N) (N := N + 1) (by omega) (by omega) h1 hm' (up_s _ _ _) hv hs' (by
      show upd (hs_n σ) 0 (nI N + 1) 0 = _
      rw [up_s, nI_1])
    refine ⟨σ', ?_, hup c2 (by omega)⟩
    rw [← c1]
    show hh_isPut_39 (hs_n' (hs_v' (hs_k' σ (upd (hs_k σ) N k)) (upd (hs_v σ) N (-1))) (upd (hs_n σ) 0 (hs_n σ 0 + 1))) k v (nI N) = _
    rw [h2]
  · rw [it_T (nI_pos' (by omega))]
    obtain ⟨σ', -, c1, c2⟩ := put_39 (σ := σ) hi (by omega) h1 hm hk hv h5 h2
    exact ⟨σ', c1, hup c2 (by omega)⟩
theorem isRem_eq (h : LI e σ) (he : e < 60) (hN : hs_n σ 0 = nI N) (hN2 : N ≤ e) (k : Int32) : ∃ σ', hh_isRemoved σ (nI N) k = some (1, σ') ∧ LI e σ' := by
  obtain ⟨w, nP, nO, cP, cO, N', h1, h2, h3, hm, h5⟩ := h
  obtain rfl : N' = N := by
    rw [hN] at h2
    exact ((nI_eq (by omega) (by omega)).mp h2).symm
  obtain ⟨p, a1, a2⟩ := place_eq (N := N') (by omega) (hs_k σ) k
  obtain ⟨r, x', nO', cP', cO', b1, b2, b3, b4, b5⟩ := remove_eq h1 k
  have hr := its_eq hm (by omega) a2 b3
  obtain ⟨g, se, d1, d2⟩ := get_eq b2 k
  have hg : g = -1 := by
    rcases d2 with q | q
    · exact absurd rfl ((b4 k g).mp q).2
    · exact q.1
  unfold hh_isRemoved
  rw [a1, bd_some, b1, bd2_some, nm_eq]
  obtain ⟨m1, m2, m3⟩ := hm
  rcases a2 with ⟨rfl, hp⟩ | ⟨i, hi, rfl, hk⟩
  · have e1 : its (hs_v σ) (-1) = -1 := if_neg (by decide)
    rw [e1] at hr
    rw [it_F (show ¬ (0 : Int32) ≤ -1 by decide)]
    unfold hh_isRemoved_28 hh_isRemoved_46
    rw [it_T hr, show hs_x (hs_x' σ x') = x' from rfl, d1, bd2_some, nm_eq, it_T hg, it_T (show (-1 : Int32) < 0 by decide), gn_of (show vp_nar .boolean 1 = 1 from nar_z 1 (Nat.le_refl _))]
    refine ⟨_, rfl, w, nP, nO', cP', cO', N', b2.se se, h2, h3, ⟨m1, m2, fun k0 v0 => ?_⟩, ?_⟩
    · rw [b4 k0 v0, m3 k0 v0]
      constructor
      · rintro ⟨g1, -⟩
        exact g1
      · rintro ⟨g1, j, g2, g3, g4⟩
        exact ⟨⟨g1, j, g2, g3, g4⟩, fun z => hp j g2 (g3.trans z)⟩
    · rw [if_pos hr] at b5
      show sm N' (lvs (hs_v σ)) = _
      omega
  · have e1 : its (hs_v σ) (nI i) = hs_v σ i := by
      unfold its
      rw [if_pos (nI_pos' (by omega)), cl64 (by omega)]
    rw [e1] at hr
    rw [it_T (nI_pos' (by omega)), g64 (by omega), cl64 (by omega)]
    unfold hh_isRemoved_28 hh_isRemoved_46
    rw [it_T (show r = hs_v (hs_x' σ x') i from hr), show hs_x (hs_x' σ x') = x' from rfl, d1, bd2_some, nm_eq, it_T hg, it_F (nI_pos (by omega)), g64 (by omega), nm_eq, cl64 (by omega), gn_of (show vp_nar .boolean 1 = 1 from nar_z 1 (Nat.le_refl _))]
    refine ⟨_, rfl, w, nP, nO', cP', cO', N', b2.se se, h2, h3, ⟨m1, fun j hj => ?_, fun k0 v0 => ?_⟩, ?_⟩
    · show upd (hs_v σ) i (-1) j = -1 ∨ 0 ≤ upd (hs_v σ) i (-1) j
      by_cases q : j = i
      · rw [q, up_s]
        exact Or.inl rfl
      · rw [up_n q]
        exact m2 j hj
    · show MemU cP' cO' k0 v0 ↔ 0 ≤ v0 ∧ ∃ j, j < N' ∧ hs_k σ j = k0 ∧ upd (hs_v σ) i (-1) j = v0
      rw [b4 k0 v0, m3 k0 v0]
      constructor
      · rintro ⟨⟨g1, j, g2, g3, g4⟩, g5⟩
        exact ⟨g1, j, g2, g3, by rw [up_n (fun z => g5 (by rw [← g3, z, hk]))]; exact g4⟩
      · rintro ⟨g1, j, g2, g3, g4⟩
        by_cases q : j = i
        · rw [q, up_s] at g4
          exact absurd g4.symm (i0_neg g1)
        · rw [up_n q] at g4
          exact ⟨⟨g1, j, g2, g3, g4⟩, fun z => q (m1 j i g2 hi (by rw [g3, hk, z]))⟩
    · show sm N' (lvs (upd (hs_v σ) i (-1))) = _
      have h7 := lvs_up (f := hs_v σ) (g := upd (hs_v σ) i (-1)) hi (fun j _ q => up_n q)
      rw [lvs_m1 (vf := upd (hs_v σ) i (-1)) (up_s _ _ _)] at h7
      rcases m2 i hi with q | q
      · rw [if_pos (hr.trans q)] at b5
        rw [lvs_m1 q] at h7
        omega
      · rw [if_neg (fun z => i0_neg q (hr.symm.trans z))] at b5
        rw [lvs_0 q] at h7
        omega
end LW
