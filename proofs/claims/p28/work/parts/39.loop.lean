/-! the law's loop -/
section LP
variable {σ : HS} {e : Nat} {xs : Nat → Int32} {L : Nat}
theorem drawn_ex (hL : L ≤ 260) {i : Nat} (hi : i < 100) : ∃ r, jj_drawn xs L (nI i) = some r := by
  unfold jj_drawn
  by_cases q : (Int32.ofNat L) ≤ nI i
  · rw [it_T q]
    exact ⟨_, rfl⟩
  · rw [it_F q]
    have hlt : i < L := by
      rcases Nat.lt_or_ge i L with z | z
      · exact z
      · exact absurd (show (Int32.ofNat L) ≤ nI i from nI_le z (by omega)) q
    rw [gd_of (vp_in_nI hlt (by omega))]
    exact ⟨_, rfl⟩
theorem low_ex9 (v : Int32) {m : Nat} (h0 : 0 < m) (hm : m < 2 ^ 31) : ∃ j, j < m ∧ jj_low v (nI m) = some (nI j) := by
  refine ⟨v.toBitVec.toNat % 2 ^ 31 % m, Nat.mod_lt _ h0, ?_⟩
  unfold jj_low g0
  rw [if_neg (nI_ne0 h0 hm), pk_and v (m := 2147483647) 31 (by decide), pk_rem (Nat.mod_lt _ (by omega)) h0 hm]
theorem LI.up {e' : Nat} (h : LI e σ) (he : e ≤ e') : LI e' σ := by
  obtain ⟨w, nP, nO, cP, cO, N, h1, h2, h3, h4, h5⟩ := h
  exact ⟨w, nP, nO, cP, cO, N, h1, h2, by omega, h4, h5⟩
/-- behind a round's call -/
theorem st_278 (h : LI e σ) (he : e ≤ 60) (K : HS → Int32 → Option Int32) (l5 k : Int32) (hK : ∀ σ', LI e σ' → K σ' (l5 + 1) = some 1) : zz_law_278 xs L K σ l5 k 1 = some 1 := by
  obtain ⟨w, nP, nO, cP, cO, N, h1, h2, h3, h4, h5⟩ := h
  obtain ⟨x', a1, a2⟩ := so_eq h1 h4 (by omega) h5 k
  unfold zz_law_278
  rw [it_F o10, gd01, show hs_n σ (0 : Int32).toNatClampNeg = nI N from h2, a1, bd2_some, it_F o10, nm_eq]
  exact hK _ ⟨w, nP, nO, cP, cO, N, a2, h2, h3, h4, h5⟩
theorem st_move (h : LI e σ) (he : e ≤ 60) (K : HS → Int32 → Option Int32) (l5 l6 k : Int32) (hq : ¬ (l6 &&& 14) = 12) (hK : ∀ σ', LI e σ' → K σ' (l5 + 1) = some 1) : zz_law_172 xs L K σ l5 l6 k = some 1 := by
  obtain ⟨w, nP, nO, cP, cO, N, h1, h2, h3, ⟨m1, m2, m3⟩, h5⟩ := h
  have h256 := h1.nO256
  have hcl := cnt_le (n := nO) (c := cO)
  obtain ⟨x', nO', cP', cO', b1, b2, b3, b4, -⟩ := slice_eq h1
  have h256' := b2.nO256
  have hcl' := cnt_le (n := nO') (c := cO')
  have hLI : LI e (hs_x' σ x') := ⟨w, nP, nO', cP', cO', N, b2, h2, h3, ⟨m1, m2, fun k v => (b3.2.1 k v).trans (m3 k v)⟩, h5.trans b3.2.2.symm⟩
  have t1 := tab_O h1
  have t2 := tab_O b2
  have hfin := st_278 (xs := xs) (L := L) hLI he K l5 k hK
  have hz : nO' = 0 ↔ cnt nO' cO' = 0 := by
    rcases b2.cap.2.2 with q | ⟨q1, -, q2, -⟩
    · constructor
      · intro _
        omega
      · exact fun _ => q
    · have := q1.le
      omega
  have h255 : ∀ t, (t = if cnt nO' cO' = 0 then (1 : Int32) else 0) → zz_law_255 xs L K (hs_x' σ x') l5 k t = some 1 := by
    intro t ht
    unfold zz_law_255
    rw [show rr_keysIn (hs_x (hs_x' σ x')) 1 = some (nI (cnt nO' cO')) from t2.2.1, bd_some]
    by_cases q : cnt nO' cO' = 0
    · rw [if_pos q] at ht
      rw [q, it_T (show nI 0 = 0 from rfl), ht]
      unfold zz_law_268
      rw [it_T rfl]
      exact hfin
    · rw [if_neg q] at ht
      rw [it_F (nI_ne0 (by omega) (by omega)), ht]
      unfold zz_law_268
      rw [it_T rfl]
      exact hfin
  have h226 : ∀ t1 : Int32, t1 = nI (if cnt nO cO ≤ 4 then cnt nO cO else 4) → zz_law_226 xs L K (hs_x' σ x') l5 k (nI (cnt nO cO)) (nI (if cnt nO cO ≤ 4 then cnt nO cO else 4)) (nI (if cnt nO cO ≤ 4 then cnt nO cO else 4)) t1 = some 1 := by
    intro t1 ht
    unfold zz_law_226
    rw [it_T ht.symm, show rr_keysIn (hs_x (hs_x' σ x')) 1 = some (nI (cnt nO' cO')) from t2.2.1, bd_some]
    have e1 : nI (cnt nO cO) - nI (if cnt nO cO ≤ 4 then cnt nO cO else 4) = nI (cnt nO' cO') := by
      rw [pk_sub (by split <;> omega)]
      congr 1
      split <;> omega
    rw [it_T e1.symm, show rr_slots (hs_x (hs_x' σ x')) 1 = some (nI nO') from t2.1, bd_some]
    by_cases q : cnt nO' cO' = 0
    · rw [hz.mpr q, it_T (show nI 0 = 0 from rfl)]
      exact h255 1 (if_pos q).symm
    · rw [it_F (nI_ne0 (by have : nO' ≠ 0 := fun z => q (hz.mp z); omega) (by omega))]
      exact h255 0 (if_neg q).symm
  have hmv : rr_move (hs_x σ) = some (nI (if cnt nO cO ≤ 4 then cnt nO cO else 4), x') := by
    unfold rr_move
    rw [b1, bd2_some]
  unfold zz_law_172
  rw [it_F hq, t1.2.1, bd_some, hmv, bd2_some, nm_eq]
  by_cases q : 4 ≤ cnt nO cO
  · rw [it_T (show (4 : Int32) ≤ nI (cnt nO cO) from nI_le (a := 4) q (by omega))]
    refine h226 4 ?_
    by_cases q2 : cnt nO cO ≤ 4
    · rw [if_pos q2, show cnt nO cO = 4 by omega]
      rfl
    · rw [if_neg q2]
      rfl
  · rw [it_F (show ¬ (4 : Int32) ≤ nI (cnt nO cO) from nI_ge (b := 4) (by omega) (by omega))]
    refine h226 _ ?_
    rw [if_pos (by omega)]
theorem st_172 (h : LI e σ) (he : e < 60) (K : HS → Int32 → Option Int32) (l5 l6 k : Int32) (hK : ∀ σ', LI e σ' → K σ' (l5 + 1) = some 1) : zz_law_172 xs L K σ l5 l6 k = some 1 := by
  by_cases q : (l6 &&& 14) = 12
  · obtain ⟨w, nP, nO, cP, cO, N, h1, h2, h3, h4, h5⟩ := id h
    obtain ⟨σ', a1, a2⟩ := isRem_eq h he h2 h3 k
    unfold zz_law_172
    rw [it_T q, gd01, show hs_n σ (0 : Int32).toNatClampNeg = nI N from h2, a1, bd2_some]
    exact st_278 a2 (by omega) K l5 k hK
  · exact st_move h (by omega) K l5 l6 k q hK
theorem st_88 (h : LI e σ) (he : e < 59) (K : HS → Int32 → Option Int32) (l5 l6 k : Int32) (hK : ∀ σ', LI (e + 1) σ' → K σ' (l5 + 1) = some 1) : zz_law_88 xs L K σ l5 l6 k = some 1 := by
  have hK' : ∀ σ', LI e σ' → K σ' (l5 + 1) = some 1 := fun σ' z => hK σ' (z.up (by omega))
  unfold zz_law_88
  by_cases q : 10 ≤ (l6 &&& 14)
  · rw [it_T q]
    by_cases q2 : (l6 &&& 14) = 10
    · obtain ⟨w, nP, nO, cP, cO, N, h1, h2, h3, h4, h5⟩ := id h
      rw [it_T q2, gd01, show hs_n σ (0 : Int32).toNatClampNeg = nI N from h2]
      by_cases q3 : nI N ≤ 0
      · rw [it_T q3]
        exact st_172 h (by omega) K l5 l6 k hK'
      · have hN : 0 < N := by
          rcases Nat.eq_zero_or_pos N with z | z
          · rw [z] at q3
            exact absurd (show nI 0 ≤ 0 by decide) q3
          · exact z
        obtain ⟨i, hi, a1⟩ := low_ex9 (l6 >>> (4 &&& 31)) hN (by omega)
        rw [it_F q3, gd01, gd01, a1, bd_some, g64 (by omega), cl64 (by omega)]
        obtain ⟨σ', b1, b2⟩ := isRem_eq h (by omega) h2 h3 (hs_k σ i)
        rw [b1, bd2_some]
        exact st_278 b2 (by omega) K l5 k hK'
    · rw [it_F q2]
      exact st_172 h (by omega) K l5 l6 k hK'
  · obtain ⟨i, hi, a1⟩ := low_ex9 (l6 >>> (4 &&& 31)) (m := 1000000) (by omega) (by omega)
    rw [it_F q, show jj_low (l6 >>> (4 &&& 31)) 1000000 = some (nI i) from a1, bd_some]
    obtain ⟨σ', b1, b2⟩ := isPut_eq h (by omega) (nI_pos' (n := i) (by omega)) k
    rw [b1, bd2_some]
    exact st_278 b2 (by omega) K l5 k hK
theorem loop_eq (hL : L ≤ 260) : ∀ d i f (σ : HS), i + d = 60 → d < f → 1 ≤ i → LI (i - 1) σ → zz_law_lp43 xs L f σ (nI i) = some 1 := by
  intro d
  induction d with
  | zero =>
    intro i f σ hi hf h1 h
    obtain ⟨f, rfl⟩ : ∃ f2, f = f2 + 1 := ⟨f - 1, by omega⟩
    show zz_law_43 xs L (zz_law_lp43 xs L f) σ (nI i) = _
    unfold zz_law_43
    rw [it_T (show (60 : Int32) ≤ nI i from nI_le (a := 60) (by omega) (by omega))]
  | succ d ih =>
    intro i f σ hi hf h1 h
    obtain ⟨f, rfl⟩ : ∃ f2, f = f2 + 1 := ⟨f - 1, by omega⟩
    have hK : ∀ σ', LI (i - 1 + 1) σ' → zz_law_lp43 xs L f σ' (nI i + 1) = some 1 := by
      intro σ' z
      rw [nI_1]
      exact ih (i + 1) f σ' (by omega) (by omega) (by omega) (z.up (by omega))
    show zz_law_43 xs L (zz_law_lp43 xs L f) σ (nI i) = _
    unfold zz_law_43
    obtain ⟨v8, a1⟩ := drawn_ex (xs := xs) hL (i := i) (by omega)
    rw [it_F (show ¬ (60 : Int32) ≤ nI i from nI_ge (b := 60) (by omega) (by omega)), a1, bd_some]
    by_cases q : (v8 &&& 1) = 0
    · obtain ⟨j, hj, b1⟩ := low_ex9 (v8 >>> (1 &&& 31)) (m := 40) (by omega) (by omega)
      rw [it_T q, show jj_low (v8 >>> (1 &&& 31)) 40 = some (nI j) from b1, bd_some]
      exact st_88 h (by omega) _ _ _ _ hK
    · obtain ⟨v10, b1⟩ := drawn_ex (xs := xs) hL (i := i + 5) (by omega)
      rw [it_F q, show (5 : Int32) = nI 5 from rfl, nI_add, b1, bd_some]
      exact st_88 h (by omega) _ _ _ _ hK
theorem start_LI {w : Int32} {x : RR} (h : CI w 8 0 (fun _ => none) (fun _ => none) x) : LI 0 (x, (fun _ => 0), (fun _ => 0), (fun _ => 0)) := by
  refine ⟨w, 8, 0, _, _, 0, h, rfl, Nat.le_refl _, ⟨fun i j hi => absurd hi (Nat.not_lt_zero i), fun i hi => absurd hi (Nat.not_lt_zero i), fun k v => ⟨?_, ?_⟩⟩, ?_⟩
  · rintro (⟨s, hs⟩ | ⟨s, hs⟩) <;> cases hs
  · rintro ⟨-, i, hi, -⟩
    exact absurd hi (Nat.not_lt_zero i)
  · rw [cnt_none, cnt_none]
    rfl
theorem all_math (hL : L ≤ 260) : ∃ τ8 τ0 : Tb, tt_emptyWith tb0 8 = some τ8 ∧ tt_emptyWith tb0 0 = some τ0 ∧ ∀ p o : Nat, p ≠ o → zz_law xs L (rr0 p o τ8 τ0, (fun _ => 0), (fun _ => 0), (fun _ => 0)) = some 1 := by
  obtain ⟨τ8, τ0, a1, a2, a3⟩ := init_CI
  refine ⟨τ8, τ0, a1, a2, fun p o hne => ?_⟩
  have h0 := a3 p o hne
  obtain ⟨v1, b1⟩ := drawn_ex (xs := xs) hL (i := 0) (by omega)
  obtain ⟨j, hj, b2⟩ := low_ex9 v1 (m := 3) (by omega) (by omega)
  have hlp : ∀ σ, LI 0 σ → zz_law_40 xs L σ = some 1 := fun σ h => loop_eq hL 59 1 FU σ (by omega) (by decide) (by omega) h
  unfold zz_law
  rw [show jj_drawn xs L 0 = some v1 from b1, bd_some, show jj_low v1 3 = some (nI j) from b2, bd_some]
  by_cases q : nI j = 0
  · obtain ⟨x', c1, c2⟩ := clear_eq (x := rr0 p o τ8 τ0) h0.ne
    rw [it_T q, show rr_clear (hs_x (rr0 p o τ8 τ0, (fun _ => 0), (fun _ => 0), (fun _ => 0))) 0 = some x' from c1, bd_some, nm_eq]
    exact hlp _ (start_LI c2)
  · rw [it_F q]
    exact hlp _ (start_LI h0)
end LP
