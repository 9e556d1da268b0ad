/-! distances, longest and total; the same keys without Robin Hood -/
theorem i_ge {a b : Int32} (h : ¬ a < b) : b ≤ a := by
  rw [Int32.le_iff_toInt_le]
  rw [Int32.lt_iff_toInt_lt] at h
  omega
theorem i_nle {a b : Int32} (h : a < b) : ¬ b ≤ a := by
  rw [Int32.le_iff_toInt_le]
  rw [Int32.lt_iff_toInt_lt] at h
  omega
theorem mx_eq (a b : Int32) : (if a < b then b else a) = (if b ≤ a then a else b) := by
  by_cases q : a < b
  · rw [if_pos q, if_neg (i_nle q)]
  · rw [if_neg q, if_pos (i_ge q)]
section LT
variable {w : Int32} {t nP nO : Nat} {cP cO : Ct} {x : RR} {m : MS}
theorem longest_lp (h : TI w t nP nO cP cO x m) : ∀ d i f f' (a : Int32), i + d = nP → d < f → d < f' → -1 ≤ a → ∃ r, rr_longest_lp4 x f a (nI i) = some r ∧ mm_longest_lp9 f' m a (nI i) = some (r, m) := by
  have hsz := h.sz.le
  have ht := h.t2
  obtain ⟨p1, p2, p3, p4, p5, p6, p7⟩ := h.tP
  intro d
  induction d with
  | zero =>
    intro i f f' a hi hf hf' ha
    obtain ⟨f, rfl⟩ : ∃ f2, f = f2 + 1 := ⟨f - 1, by omega⟩
    obtain ⟨f', rfl⟩ : ∃ f2, f' = f2 + 1 := ⟨f' - 1, by omega⟩
    refine ⟨a, ?_, ?_⟩
    · show rr_longest_4 x (rr_longest_lp4 x f) a (nI i) = _
      unfold rr_longest_4
      rw [p1.1, it_T (nI_le (by omega) (by omega))]
    · show mm_longest_9 (mm_longest_lp9 f') m a (nI i) = _
      unfold mm_longest_9
      rw [h.pr, g2 ht, cl2 ht, p2.1, it_T (nI_le (by omega) (by omega))]
  | succ d ih =>
    intro i f f' a hi hf hf' ha
    obtain ⟨f, rfl⟩ : ∃ f2, f = f2 + 1 := ⟨f - 1, by omega⟩
    obtain ⟨f', rfl⟩ : ∃ f2, f' = f2 + 1 := ⟨f' - 1, by omega⟩
    have e1 : rr_longest_lp4 x (f + 1) a (nI i) = rr_longest_4 x (rr_longest_lp4 x f) a (nI i) := rfl
    have e2 : mm_longest_lp9 (f' + 1) m a (nI i) = mm_longest_9 (mm_longest_lp9 f') m a (nI i) := rfl
    rw [e1, e2]
    unfold rr_longest_4 mm_longest_9 mm_longest_66
    rw [p1.1, it_F (nI_ge (by omega) (by omega)), h.pr, g2 ht, cl2 ht, p2.1, it_F (nI_ge (by omega) (by omega)), ixe, g512 (by omega), cl512 (by omega)]
    cases hc : cP i with
    | none =>
      rw [t_distN (by omega) (p1.2 i (by omega)) hc, bd_some, nm_eq, nm_eq, if_neg (fun z => i_nle z ha), mk_none (p2.2 i (by omega)) hc, it_T rfl, nm_eq, nI_1]
      exact ih (i + 1) f f' a (by omega) (by omega) (by omega) ha
    | some b =>
      have hd : dd nP (hm nP (hsh w) b.1) i < nP := dd_lt (by omega)
      rw [t_distS (k := b.1) (v := b.2) h.sz p1.1 (by omega) (p1.2 i (by omega)) hc, bd_some, nm_eq, nm_eq, (mk_some (k := b.1) (v := b.2) (p2.2 i (by omega)) hc).1, it_F o10, m_dist (k := b.1) (v := b.2) h.wy h.mw h.sz ht p2 (by omega) hc, bd_some, bd_some, nm_eq, nm_eq, nI_1]
      by_cases q : a < nI (dd nP (hm nP (hsh w) b.1) i)
      · rw [if_pos q, if_neg (i_nle q)]
        exact ih (i + 1) f f' _ (by omega) (by omega) (by omega) (m1_nI (by omega))
      · rw [if_neg q, if_pos (i_ge q)]
        exact ih (i + 1) f f' a (by omega) (by omega) (by omega) ha
theorem longest_eq (h : TI w t nP nO cP cO x m) : ∃ r, rr_longest x = some r ∧ mm_longest m = some (r, m_thrown' m 0) := by
  have hsz := h.sz.le
  obtain ⟨r, a, b⟩ := longest_lp (h.thr 0) nP 0 FU FU (-1) (by omega) (by show nP < 1024; omega) (by show nP < 1024; omega) (by decide)
  refine ⟨r, a, ?_⟩
  unfold mm_longest
  rw [nm_eq]
  exact b
theorem total_lp (h : TI w t nP nO cP cO x m) : ∀ d i f f' (a : Int32), i + d = nP → d < f → d < f' → ∃ r, rr_total_lp4 x f a (nI i) = some r ∧ mm_total_lp9 f' m a (nI i) = some (r, m) := by
  have hsz := h.sz.le
  have ht := h.t2
  obtain ⟨p1, p2, p3, p4, p5, p6, p7⟩ := h.tP
  intro d
  induction d with
  | zero =>
    intro i f f' a hi hf hf'
    obtain ⟨f, rfl⟩ : ∃ f2, f = f2 + 1 := ⟨f - 1, by omega⟩
    obtain ⟨f', rfl⟩ : ∃ f2, f' = f2 + 1 := ⟨f' - 1, by omega⟩
    refine ⟨a, ?_, ?_⟩
    · show rr_total_4 x (rr_total_lp4 x f) a (nI i) = _
      unfold rr_total_4
      rw [p1.1, it_T (nI_le (by omega) (by omega))]
    · show mm_total_9 (mm_total_lp9 f') m a (nI i) = _
      unfold mm_total_9
      rw [h.pr, g2 ht, cl2 ht, p2.1, it_T (nI_le (by omega) (by omega))]
  | succ d ih =>
    intro i f f' a hi hf hf'
    obtain ⟨f, rfl⟩ : ∃ f2, f = f2 + 1 := ⟨f - 1, by omega⟩
    obtain ⟨f', rfl⟩ : ∃ f2, f' = f2 + 1 := ⟨f' - 1, by omega⟩
    have e1 : rr_total_lp4 x (f + 1) a (nI i) = rr_total_4 x (rr_total_lp4 x f) a (nI i) := rfl
    have e2 : mm_total_lp9 (f' + 1) m a (nI i) = mm_total_9 (mm_total_lp9 f') m a (nI i) := rfl
    rw [e1, e2]
    unfold rr_total_4 mm_total_9 mm_total_54
    rw [p1.1, it_F (nI_ge (by omega) (by omega)), h.pr, g2 ht, cl2 ht, p2.1, it_F (nI_ge (by omega) (by omega)), ixe, g512 (by omega), cl512 (by omega)]
    cases hc : cP i with
    | none =>
      rw [t_distN (by omega) (p1.2 i (by omega)) hc, bd_some, nm_eq, nm_eq, if_neg (by decide), mk_none (p2.2 i (by omega)) hc, it_T rfl, nm_eq, nm_eq, nI_1]
      exact ih (i + 1) f f' _ (by omega) (by omega) (by omega)
    | some b =>
      have hd : dd nP (hm nP (hsh w) b.1) i < nP := dd_lt (by omega)
      rw [t_distS (k := b.1) (v := b.2) h.sz p1.1 (by omega) (p1.2 i (by omega)) hc, bd_some, nm_eq, nm_eq, (mk_some (k := b.1) (v := b.2) (p2.2 i (by omega)) hc).1, it_F o10, m_dist (k := b.1) (v := b.2) h.wy h.mw h.sz ht p2 (by omega) hc, bd_some, nm_eq, nm_eq, nI_1]
      have e0 : (if 0 < nI (dd nP (hm nP (hsh w) b.1) i) then nI (dd nP (hm nP (hsh w) b.1) i) else 0) = nI (dd nP (hm nP (hsh w) b.1) i) := by
        by_cases q : 0 < dd nP (hm nP (hsh w) b.1) i
        · exact if_pos (nI_lt (a := 0) q (by omega))
        · have : dd nP (hm nP (hsh w) b.1) i = 0 := by omega
          rw [this]
          exact if_neg (by decide)
      rw [e0]
      exact ih (i + 1) f f' _ (by omega) (by omega) (by omega)
theorem total_eq (h : TI w t nP nO cP cO x m) : ∃ r, rr_total x = some r ∧ mm_total m = some (r, m_thrown' m 0) := by
  have hsz := h.sz.le
  obtain ⟨r, a, b⟩ := total_lp (h.thr 0) nP 0 FU FU 0 (by omega) (by show nP < 1024; omega) (by show nP < 1024; omega)
  refine ⟨r, a, ?_⟩
  unfold mm_total
  rw [nm_eq]
  exact b
end LT
/-! rising keys -/
def kO (c : Ct) (s : Nat) : Int32 := match c s with
  | none => 0
  | some a => a.1
theorem kO_at {c : Ct} {s : Nat} {k v : Int32} (h : c s = some (k, v)) : kO c s = k := by
  unfold kO
  rw [h]
def Srt (c : Ct) (i N : Nat) (r : Nat → Nat) : Prop := (∀ j, j < N → r j < i ∧ c (r j) ≠ none) ∧ (∀ s, s < i → c s ≠ none → ∃ j, j < N ∧ r j = s) ∧ ∀ j j', j < j' → j' < N → kO c (r j) < kO c (r j')
theorem i_lt_tr {a b c : Int32} (h : a < b) (h2 : b < c) : a < c := by
  rw [Int32.lt_iff_toInt_lt] at *
  omega
theorem i_le_lt {a b c : Int32} (h : a ≤ b) (h2 : b < c) : a < c := by
  rw [Int32.lt_iff_toInt_lt] at *
  rw [Int32.le_iff_toInt_le] at h
  omega
theorem i_irr (a : Int32) : ¬ a < a := by
  rw [Int32.lt_iff_toInt_lt]
  omega
theorem i_lt_of {a b : Int32} (h : ¬ b ≤ a) : a < b := by
  rw [Int32.le_iff_toInt_le] at h
  rw [Int32.lt_iff_toInt_lt]
  omega
theorem i_lt_of_le {a b : Int32} (h : a ≤ b) (hne : a ≠ b) : a < b := by
  rw [Int32.le_iff_toInt_le] at h
  rw [Int32.lt_iff_toInt_lt]
  have : a.toInt ≠ b.toInt := fun z => hne (Int32.toInt_inj.mp z)
  omega
section SO
variable {n : Nat} {w : Int32} {c : Ct} {τ : Tb}
def insF (r : Nat → Nat) (p i j : Nat) : Nat := if j < p then r j else if j = p then i else r (j - 1)
theorem insF_lt {r : Nat → Nat} {p i j : Nat} (h : j < p) : insF r p i j = r j := if_pos h
theorem insF_eq {r : Nat → Nat} {p i j : Nat} (h : j = p) : insF r p i j = i := by
  unfold insF
  rw [if_neg (by omega), if_pos h]
theorem insF_gt {r : Nat → Nat} {p i j : Nat} (h : p < j) : insF r p i j = r (j - 1) := by
  unfold insF
  rw [if_neg (by omega), if_neg (by omega)]
/-- the new slot goes to its place -/
theorem ins_srt (hdj : Dj c) {i N p : Nat} {r : Nat → Nat} {k v : Int32} (hs : Srt c i N r) (hc : c i = some (k, v)) (hp : p ≤ N) (hlo : ∀ j, j < p → kO c (r j) < k) (hhi : ∀ j, p ≤ j → j < N → k < kO c (r j)) : Srt c (i + 1) (N + 1) (insF r p i) := by
  obtain ⟨h1, h2, h3⟩ := hs
  refine ⟨fun j hj => ?_, fun s hs hcs => ?_, fun j j' hjj hj' => ?_⟩
  · by_cases q1 : j < p
    · rw [insF_lt q1]
      have := h1 j (by omega)
      exact ⟨by omega, this.2⟩
    · by_cases q2 : j = p
      · rw [insF_eq q2]
        exact ⟨by omega, by rw [hc]; exact fun z => by cases z⟩
      · rw [insF_gt (by omega)]
        have := h1 (j - 1) (by omega)
        exact ⟨by omega, this.2⟩
  · by_cases q : s = i
    · refine ⟨p, by omega, ?_⟩
      rw [insF_eq rfl, q]
    · obtain ⟨j, hj, hr⟩ := h2 s (by omega) hcs
      by_cases q1 : j < p
      · exact ⟨j, by omega, by rw [insF_lt q1]; exact hr⟩
      · refine ⟨j + 1, by omega, ?_⟩
        rw [insF_gt (by omega)]
        exact hr
  · have hki := kO_at hc
    by_cases q1 : j < p
    · by_cases q2 : j' < p
      · rw [insF_lt q1, insF_lt q2]
        exact h3 j j' hjj (by omega)
      · by_cases q3 : j' = p
        · rw [insF_lt q1, insF_eq q3, hki]
          exact hlo j q1
        · rw [insF_lt q1, insF_gt (show p < j' by omega)]
          exact i_lt_tr (hlo j q1) (hhi (j' - 1) (by omega) (by omega))
    · by_cases q2 : j = p
      · rw [insF_eq q2, insF_gt (show p < j' by omega), hki]
        exact hhi (j' - 1) (by omega) (by omega)
      · rw [insF_gt (show p < j by omega), insF_gt (show p < j' by omega)]
        exact h3 (j - 1) (j' - 1) (by omega) (by omega)
theorem nI_p1 {p : Nat} : nI (p + 1) - 1 = nI p := nI_pred p
theorem ins_lp (hn : n ≤ 256) (htr : TR n (hsh w) c τ) (hdj : Dj c) {i N : Nat} {r : Nat → Nat} {k v : Int32} (hi : i < n) (hN : N ≤ i) (hs : Srt c i N r) (hc : c i = some (k, v)) (K : Pl → Int32 → Int32 → Option (Int32 × Pl)) (T : Nat → Int32) (tot lon : Int32) : ∀ p f (R : Nat → Int32), p ≤ N → p < f → (∀ j, j < p → R j = nI (r j)) → (∀ j, p < j → j ≤ N → R j = nI (r (j - 1))) → (∀ j, p ≤ j → j < N → k < kO c (r j)) → ∃ (R' : Nat → Int32) (r' : Nat → Nat), pp_sortByKeys_lp23 τ K f (R, T, tot, lon) (nI N) (nI i) (nI p) = K (R', T, tot, lon) (nI (N + 1)) (nI (i + 1)) ∧ Srt c (i + 1) (N + 1) r' ∧ ∀ j, j < N + 1 → R' j = nI (r' j) := by
  have hfin : ∀ p (R : Nat → Int32), p ≤ N → (∀ j, j < p → R j = nI (r j)) → (∀ j, p < j → j ≤ N → R j = nI (r (j - 1))) → (∀ j, p ≤ j → j < N → k < kO c (r j)) → (∀ j, j < p → kO c (r j) < k) → ∃ (R' : Nat → Int32) (r' : Nat → Nat), pp_sortByKeys_71 τ K (R, T, tot, lon) (nI N) (nI i) (nI p) = K (R', T, tot, lon) (nI (N + 1)) (nI (i + 1)) ∧ Srt c (i + 1) (N + 1) r' ∧ ∀ j, j < N + 1 → R' j = nI (r' j) := by
    intro p R hp hR1 hR2 hhi hlo
    refine ⟨upd R p (nI i), _, ?_, ins_srt hdj hs hc hp hlo hhi, fun j hj => ?_⟩
    · unfold pp_sortByKeys_71 pp_sortByKeys_82
      rw [g256 (by omega), cl256 (by omega), nm_eq, nm_eq, nm_eq, nI_1, nI_1]
      rfl
    · by_cases q1 : j < p
      · rw [insF_lt q1, up_n (by omega)]
        exact hR1 j q1
      · by_cases q2 : j = p
        · rw [insF_eq q2, q2, up_s]
        · rw [insF_gt (by omega), up_n q2]
          exact hR2 j (by omega) (by omega)
  intro p
  induction p with
  | zero =>
    intro f R hp hf hR1 hR2 hhi
    obtain ⟨f, rfl⟩ : ∃ f2, f = f2 + 1 := ⟨f - 1, by omega⟩
    have e : pp_sortByKeys_lp23 τ K (f + 1) (R, T, tot, lon) (nI N) (nI i) (nI 0) = pp_sortByKeys_23 τ K (pp_sortByKeys_lp23 τ K f) (R, T, tot, lon) (nI N) (nI i) (nI 0) := rfl
    rw [e]
    unfold pp_sortByKeys_23
    rw [it_T (show nI 0 ≤ 0 by decide)]
    exact hfin 0 R hp hR1 hR2 hhi (fun j hj => by omega)
  | succ p ih =>
    intro f R hp hf hR1 hR2 hhi
    obtain ⟨f, rfl⟩ : ∃ f2, f = f2 + 1 := ⟨f - 1, by omega⟩
    have e : pp_sortByKeys_lp23 τ K (f + 1) (R, T, tot, lon) (nI N) (nI i) (nI (p + 1)) = pp_sortByKeys_23 τ K (pp_sortByKeys_lp23 τ K f) (R, T, tot, lon) (nI N) (nI i) (nI (p + 1)) := rfl
    rw [e]
    obtain ⟨s1, s2, s3⟩ := hs
    obtain ⟨hrp, hcp⟩ := s1 p (by omega)
    cases hcr : c (r p) with
    | none => exact absurd hcr hcp
    | some a =>
      obtain ⟨kp, vp⟩ := a
      have hkp := kO_at hcr
      unfold pp_sortByKeys_23
      rw [it_F (nI_nle (by omega) (by omega)), nI_p1, g256 (by omega), cl256 (by omega), show pl_rising (R, T, tot, lon) p = nI (r p) from hR1 p (by omega), t_key (by omega) (htr.2 _ (by omega)) hcr, bd_some, t_key (by omega) (htr.2 i hi) hc, bd_some]
      by_cases q : kp ≤ k
      · rw [it_T q]
        have hne : kp ≠ k := fun z => by
          have := hdj (r p) i kp vp v hcr (by rw [z]; exact hc)
          omega
        refine hfin (p + 1) R hp hR1 hR2 hhi (fun j hj => ?_)
        by_cases q2 : j = p
        · rw [q2, hkp]
          exact i_lt_of_le q hne
        · have := s3 j p (by omega) (by omega)
          rw [hkp] at this
          exact i_lt_tr this (i_lt_of_le q hne)
      · rw [it_F q, g256 (by omega), g256 (by omega), cl256 (by omega), nm_eq, pk_m1, nm_eq]
        refine ih f (upd R (p + 1) (nI (r p))) (by omega) (by omega) (fun j hj => ?_) (fun j h1 h2 => ?_) (fun j h1 h2 => ?_)
        · rw [up_n (by omega)]
          exact hR1 j (by omega)
        · by_cases q2 : j = p + 1
          · rw [q2, up_s, show p + 1 - 1 = p by omega]
          · rw [up_n q2]
            exact hR2 j (by omega) h2
        · by_cases q2 : j = p
          · rw [q2, hkp]
            exact i_lt_of q
          · exact hhi j (by omega) h2
theorem cnt_le_i (c : Ct) (i : Nat) : cnt i c ≤ i := cnt_le
theorem sort_lp (hn : n ≤ 256) (htr : TR n (hsh w) c τ) (hdj : Dj c) (T : Nat → Int32) (tot lon : Int32) : ∀ d i f (R : Nat → Int32) (r : Nat → Nat), i + d = n → d < f → Srt c i (cnt i c) r → (∀ j, j < cnt i c → R j = nI (r j)) → ∃ (R' : Nat → Int32) (r' : Nat → Nat), pp_sortByKeys_lp4 τ f (R, T, tot, lon) (nI (cnt i c)) (nI i) = some (nI (cnt n c), (R', T, tot, lon)) ∧ Srt c n (cnt n c) r' ∧ ∀ j, j < cnt n c → R' j = nI (r' j) := by
  intro d
  induction d with
  | zero =>
    intro i f R r hi hf hs hR
    obtain ⟨f, rfl⟩ : ∃ f2, f = f2 + 1 := ⟨f - 1, by omega⟩
    have : i = n := by omega
    subst this
    refine ⟨R, r, ?_, hs, hR⟩
    show pp_sortByKeys_4 τ (pp_sortByKeys_lp4 τ f) (R, T, tot, lon) _ _ = _
    unfold pp_sortByKeys_4
    rw [htr.1, it_T (nI_le (Nat.le_refl _) (by omega))]
  | succ d ih =>
    intro i f R r hi hf hs hR
    obtain ⟨f, rfl⟩ : ∃ f2, f = f2 + 1 := ⟨f - 1, by omega⟩
    have e : pp_sortByKeys_lp4 τ (f + 1) (R, T, tot, lon) (nI (cnt i c)) (nI i) = pp_sortByKeys_4 τ (pp_sortByKeys_lp4 τ f) (R, T, tot, lon) (nI (cnt i c)) (nI i) := rfl
    rw [e]
    unfold pp_sortByKeys_4
    rw [htr.1, it_F (nI_ge (by omega) (by omega))]
    have hcl := cnt_le_i c i
    cases hc : c i with
    | none =>
      have hcn : cnt (i + 1) c = cnt i c := by
        show cnt i c + (if (c i).isSome then 1 else 0) = _
        rw [hc]
        rfl
      rw [t_emptyN (by omega) (htr.2 i (by omega)) hc, bd_some, it_F o10]
      unfold pp_sortByKeys_82
      rw [nm_eq, nI_1, ← hcn]
      refine ih (i + 1) f R r (by omega) (by omega) ?_ (by rw [hcn]; exact hR)
      rw [hcn]
      obtain ⟨s1, s2, s3⟩ := hs
      refine ⟨fun j hj => ⟨by have := (s1 j hj).1; omega, (s1 j hj).2⟩, fun s hs hcs => s2 s ?_ hcs, s3⟩
      have : s ≠ i := fun z => hcs (by rw [z]; exact hc)
      omega
    | some a =>
      obtain ⟨k, v⟩ := a
      have hcn : cnt (i + 1) c = cnt i c + 1 := by
        show cnt i c + (if (c i).isSome then 1 else 0) = _
        rw [hc]
        rfl
      rw [t_emptyS (by omega) (htr.2 i (by omega)) hc, bd_some, it_T rfl]
      obtain ⟨R', r', a1, a2, a3⟩ := ins_lp hn htr hdj (by omega) hcl hs hc (pp_sortByKeys_lp4 τ f) T tot lon (cnt i c) FU R (Nat.le_refl _) (by show cnt i c < 1024; omega) hR (fun j h1 h2 => by omega) (fun j h1 h2 => by omega)
      rw [a1, ← hcn]
      exact ih (i + 1) f R' r' (by omega) (by omega) (by rw [hcn]; exact a2) (by rw [hcn]; exact a3)
end SO
