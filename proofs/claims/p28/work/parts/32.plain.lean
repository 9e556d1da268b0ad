/-! distances, longest and total; the same keys without Robin Hood -/
theorem i_ge {a b : Int32} (h : ¬ a < b) : b ≤ a := by
  rw [Int32.le_iff_toInt_le]
  rw [Int32.lt_iff_toInt_lt] at h
  omega
theorem i_nle {a b : Int32} (h : a < b) : ¬ b ≤ a := by
  rw [Int32.le_iff_toInt_le]
  rw [Int32.lt_iff_toInt_lt] at h
  omega
section LT
variable {w : Int32} {nP nO : Nat} {cP cO : Ct} {x : RR}
def Lg (n : Nat) (a : Int32) : Prop := a = -1 ∨ ∃ m, m < n ∧ a = nI m
theorem longest_lp (h : CI w nP nO cP cO x) : ∀ d i f (a : Int32), i + d = nP → d < f → Lg nP a → ∃ r, rr_longest_lp4 x f a (nI i) = some r ∧ Lg nP r ∧ ((∀ s, s < nP → cP s = none) → r = a) := by
  have hsz := h.sz.le
  obtain ⟨p1, p3, p5, p6, p7⟩ := h.tP
  intro d
  induction d with
  | zero =>
    intro i f a hi hf ha
    obtain ⟨f, rfl⟩ : ∃ f2, f = f2 + 1 := ⟨f - 1, by omega⟩
    refine ⟨a, ?_, ha, fun _ => rfl⟩
    show rr_longest_4 x (rr_longest_lp4 x f) a (nI i) = _
    unfold rr_longest_4
    rw [p1.1, it_T (nI_le (by omega) (by omega))]
  | succ d ih =>
    intro i f a hi hf ha
    obtain ⟨f, rfl⟩ : ∃ f2, f = f2 + 1 := ⟨f - 1, by omega⟩
    have e1 : rr_longest_lp4 x (f + 1) a (nI i) = rr_longest_4 x (rr_longest_lp4 x f) a (nI i) := rfl
    rw [e1]
    unfold rr_longest_4
    rw [p1.1, it_F (nI_ge (by omega) (by omega))]
    have hma : -1 ≤ a := by
      rcases ha with rfl | ⟨m, hm, rfl⟩
      · decide
      · exact m1_nI (by omega)
    cases hc : cP i with
    | none =>
      rw [t_distN (by omega) (p1.2 i (by omega)) hc, bd_some, nm_eq, nm_eq, if_neg (fun z => i_nle z hma), nI_1]
      exact ih (i + 1) f a (by omega) (by omega) ha
    | some b =>
      have hd : dd nP (hm nP (hsh w) b.1) i < nP := dd_lt (by omega)
      rw [t_distS (k := b.1) (v := b.2) h.sz p1.1 (by omega) (p1.2 i (by omega)) hc, bd_some, nm_eq, nm_eq, nI_1]
      have hno : ¬ ∀ s, s < nP → cP s = none := fun z => by
        rw [z i (by omega)] at hc
        cases hc
      by_cases q : a < nI (dd nP (hm nP (hsh w) b.1) i)
      · rw [if_pos q]
        obtain ⟨r, r1, r2, r3⟩ := ih (i + 1) f (nI (dd nP (hm nP (hsh w) b.1) i)) (by omega) (by omega) (Or.inr ⟨_, hd, rfl⟩)
        exact ⟨r, r1, r2, fun z => absurd z hno⟩
      · rw [if_neg q]
        obtain ⟨r, r1, r2, r3⟩ := ih (i + 1) f a (by omega) (by omega) ha
        exact ⟨r, r1, r2, fun z => absurd z hno⟩
theorem longest_eq (h : CI w nP nO cP cO x) : ∃ r, rr_longest x = some r ∧ Lg nP r ∧ (cnt nP cP = 0 → r = -1) := by
  have hsz := h.sz.le
  obtain ⟨r, a, b, c⟩ := longest_lp h nP 0 FU (-1) (by omega) (by show nP < 1024; omega) (Or.inl rfl)
  exact ⟨r, a, b, fun z => c (fun s hs => cnt_zero z s hs)⟩
theorem total_lp (h : CI w nP nO cP cO x) : ∀ d i f, i + d = nP → d < f → rr_total_lp4 x f (nI (sm i (dT nP (TC nP (hm nP (hsh w)) cP)))) (nI i) = some (nI (tot nP (TC nP (hm nP (hsh w)) cP))) := by
  have hsz := h.sz.le
  obtain ⟨p1, p3, p5, p6, p7⟩ := h.tP
  intro d
  induction d with
  | zero =>
    intro i f hi hf
    obtain ⟨f, rfl⟩ : ∃ f2, f = f2 + 1 := ⟨f - 1, by omega⟩
    have : i = nP := by omega
    subst this
    show rr_total_4 x (rr_total_lp4 x f) _ (nI i) = _
    unfold rr_total_4
    rw [p1.1, it_T (nI_le (by omega) (by omega))]
    rfl
  | succ d ih =>
    intro i f hi hf
    obtain ⟨f, rfl⟩ : ∃ f2, f = f2 + 1 := ⟨f - 1, by omega⟩
    show rr_total_4 x (rr_total_lp4 x f) _ (nI i) = _
    have hst : ∀ z, z = dT nP (TC nP (hm nP (hsh w)) cP) i → nI (sm i (dT nP (TC nP (hm nP (hsh w)) cP)) + z) = nI (sm (i + 1) (dT nP (TC nP (hm nP (hsh w)) cP))) := by
      intro z hz
      rw [hz]
      rfl
    unfold rr_total_4
    rw [p1.1, it_F (nI_ge (by omega) (by omega))]
    cases hc : cP i with
    | none =>
      have e0 : dT nP (TC nP (hm nP (hsh w)) cP) i = 0 := by
        unfold dT
        rw [TC_none.mpr hc]
      rw [t_distN (by omega) (p1.2 i (by omega)) hc, bd_some, nm_eq, nm_eq, if_neg (by decide), nI_1, Int32.add_zero]
      have := ih (i + 1) f (by omega) (by omega)
      rw [← hst 0 e0.symm, Nat.add_zero] at this
      exact this
    | some b =>
      have hd : dd nP (hm nP (hsh w) b.1) i < nP := dd_lt (by omega)
      have e0 : dT nP (TC nP (hm nP (hsh w)) cP) i = dd nP (hm nP (hsh w) b.1) i := by
        unfold dT
        rw [TC_some (k := b.1) (v := b.2) hc]
      rw [t_distS (k := b.1) (v := b.2) h.sz p1.1 (by omega) (p1.2 i (by omega)) hc, bd_some, nm_eq, nm_eq, nI_1]
      have e1 : (if 0 < nI (dd nP (hm nP (hsh w) b.1) i) then nI (dd nP (hm nP (hsh w) b.1) i) else 0) = nI (dd nP (hm nP (hsh w) b.1) i) := by
        by_cases q : 0 < dd nP (hm nP (hsh w) b.1) i
        · exact if_pos (nI_lt (a := 0) q (by omega))
        · have : dd nP (hm nP (hsh w) b.1) i = 0 := by omega
          rw [this]
          exact if_neg (by decide)
      rw [e1, nI_add, hst _ e0.symm]
      exact ih (i + 1) f (by omega) (by omega)
theorem total_eq (h : CI w nP nO cP cO x) : rr_total x = some (nI (tot nP (TC nP (hm nP (hsh w)) cP))) := by
  have hsz := h.sz.le
  exact total_lp h nP 0 FU (by omega) (by show nP < 1024; omega)
end LT
/-! rising keys -/
def kO (c : Ct) (s : Nat) : Int32 := match c s with
  | none => 0
  | some a => a.1
theorem kO_at {c : Ct} {s : Nat} {k v : Int32} (h : c s = some (k, v)) : kO c s = k := by
  unfold kO
  rw [h]
def Srt (c : Ct) (i N : Nat) (r : Nat → Nat) : Prop := (∀ j, j < N → r j < i ∧ c (r j) ≠ none) ∧ (∀ s, s < i → c s ≠ none → ∃ j, j < N ∧ r j = s) ∧ ∀ j j', j < j' → j' < N → kO c (r j) < kO c (r j')
theorem i_lt_tr {a b c : Int32} (h : a < b) (h2 : b < c) : a < c := by
  rw [Int32.lt_iff_toInt_lt] at *
  omega
theorem i_le_lt {a b c : Int32} (h : a ≤ b) (h2 : b < c) : a < c := by
  rw [Int32.lt_iff_toInt_lt] at *
  rw [Int32.le_iff_toInt_le] at h
  omega
theorem i_irr (a : Int32) : ¬ a < a := by
  rw [Int32.lt_iff_toInt_lt]
  omega
theorem i_lt_of {a b : Int32} (h : ¬ b ≤ a) : a < b := by
  rw [Int32.le_iff_toInt_le] at h
  rw [Int32.lt_iff_toInt_lt]
  omega
theorem i_lt_of_le {a b : Int32} (h : a ≤ b) (hne : a ≠ b) : a < b := by
  rw [Int32.le_iff_toInt_le] at h
  rw [Int32.lt_iff_toInt_lt]
  have : a.toInt ≠ b.toInt := fun z => hne (Int32.toInt_inj.mp z)
  omega
section SO
variable {n : Nat} {w : Int32} {c : Ct} {τ : Tb}
def insF (r : Nat → Nat) (p i j : Nat) : Nat := if j < p then r j else if j = p then i else r (j - 1)
theorem insF_lt {r : Nat → Nat} {p i j : Nat} (h : j < p) : insF r p i j = r j := if_pos h
theorem insF_eq {r : Nat → Nat} {p i j : Nat} (h : j = p) : insF r p i j = i := by
  unfold insF
  rw [if_neg (by omega), if_pos h]
theorem insF_gt {r : Nat → Nat} {p i j : Nat} (h : p < j) : insF r p i j = r (j - 1) := by
  unfold insF
  rw [if_neg (by omega), if_neg (by omega)]
/-- the new slot goes to its place -/
theorem ins_srt (hdj : Dj c) {i N p : Nat} {r : Nat → Nat} {k v : Int32} (hs : Srt c i N r) (hc : c i = some (k, v)) (hp : p ≤ N) (hlo : ∀ j, j < p → kO c (r j) < k) (hhi : ∀ j, p ≤ j → j < N → k < kO c (r j)) : Srt c (i + 1) (N + 1) (insF r p i) := by
  obtain ⟨h1, h2, h3⟩ := hs
  refine ⟨fun j hj => ?_, fun s hs hcs => ?_, fun j j' hjj hj' => ?_⟩
  · by_cases q1 : j < p
    · rw [insF_lt q1]
      have := h1 j (by omega)
      exact ⟨by omega, this.2⟩
    · by_cases q2 : j = p
      · rw [insF_eq q2]
        exact ⟨by omega, by rw [hc]; exact fun z => by cases z⟩
      · rw [insF_gt (by omega)]
        have := h1 (j - 1) (by omega)
        exact ⟨by omega, this.2⟩
  · by_cases q : s = i
    · refine ⟨p, by omega, ?_⟩
      rw [insF_eq rfl, q]
    · obtain ⟨j, hj, hr⟩ := h2 s (by omega) hcs
      by_cases q1 : j < p
      · exact ⟨j, by omega, by rw [insF_lt q1]; exact hr⟩
      · refine ⟨j + 1, by omega, ?_⟩
        rw [insF_gt (by omega)]
        exact hr
  · have hki := kO_at hc
    by_cases q1 : j < p
    · by_cases q2 : j' < p
      · rw [insF_lt q1, insF_lt q2]
        exact h3 j j' hjj (by omega)
      · by_cases q3 : j' = p
        · rw [insF_lt q1, insF_eq q3, hki]
          exact hlo j q1
        · rw [insF_lt q1, insF_gt (show p < j' by omega)]
          exact i_lt_tr (hlo j q1) (hhi (j' - 1) (by omega) (by omega))
    · by_cases q2 : j = p
      · rw [insF_eq q2, insF_gt (show p < j' by omega), hki]
        exact hhi (j' - 1) (by omega) (by omega)
      · rw [insF_gt (show p < j by omega), insF_gt (show p < j' by omega)]
        exact h3 (j - 1) (j' - 1) (by omega) (by omega)
theorem nI_p1 {p : Nat} : nI (p + 1) - 1 = nI p := nI_pred p
theorem ins_lp (hn : n ≤ 256) (htr : TR n (hsh w) c τ) (hdj : Dj c) {i N : Nat} {r : Nat → Nat} {k v : Int32} (hi : i < n) (hN : N ≤ i) (hs : Srt c i N r) (hc : c i = some (k, v)) (K : Pl → Int32 → Int32 → Option (Int32 × Pl)) (T : Nat → Int32) (tot lon : Int32) : ∀ p f (R : Nat → Int32), p ≤ N → p < f → (∀ j, j < p → R j = nI (r j)) → (∀ j, p < j → j ≤ N → R j = nI (r (j - 1))) → (∀ j, p ≤ j → j < N → k < kO c (r j)) → ∃ (R' : Nat → Int32) (r' : Nat → Nat), pp_sortByKeys_lp23 τ K f (R, T, tot, lon) (nI N) (nI i) (nI p) = K (R', T, tot, lon) (nI (N + 1)) (nI (i + 1)) ∧ Srt c (i + 1) (N + 1) r' ∧ ∀ j, j < N + 1 → R' j = nI (r' j) := by
  have hfin : ∀ p (R : Nat → Int32), p ≤ N → (∀ j, j < p → R j = nI (r j)) → (∀ j, p < j → j ≤ N → R j = nI (r (j - 1))) → (∀ j, p ≤ j → j < N → k < kO c (r j)) → (∀ j, j < p → kO c (r j) < k) → ∃ (R' : Nat → Int32) (r' : Nat → Nat), pp_sortByKeys_71 τ K (R, T, tot, lon) (nI N) (nI i) (nI p) = K (R', T, tot, lon) (nI (N + 1)) (nI (i + 1)) ∧ Srt c (i + 1) (N + 1) r' ∧ ∀ j, j < N + 1 → R' j = nI (r' j) := by
    intro p R hp hR1 hR2 hhi hlo
    refine ⟨upd R p (nI i), _, ?_, ins_srt hdj hs hc hp hlo hhi, fun j hj => ?_⟩
    · unfold pp_sortByKeys_71 pp_sortByKeys_82
      rw [g256 (by omega), cl256 (by omega), nm_eq, nm_eq, nm_eq, nI_1, nI_1]
      rfl
    · by_cases q1 : j < p
      · rw [insF_lt q1, up_n (by omega)]
        exact hR1 j q1
      · by_cases q2 : j = p
        · rw [insF_eq q2, q2, up_s]
        · rw [insF_gt (by omega), up_n q2]
          exact hR2 j (by omega) (by omega)
  intro p
  induction p with
  | zero =>
    intro f R hp hf hR1 hR2 hhi
    obtain ⟨f, rfl⟩ : ∃ f2, f = f2 + 1 := ⟨f - 1, by omega⟩
    have e : pp_sortByKeys_lp23 τ K (f + 1) (R, T, tot, lon) (nI N) (nI i) (nI 0) = pp_sortByKeys_23 τ K (pp_sortByKeys_lp23 τ K f) (R, T, tot, lon) (nI N) (nI i) (nI 0) := rfl
    rw [e]
    unfold pp_sortByKeys_23
    rw [it_T (show nI 0 ≤ 0 by decide)]
    exact hfin 0 R hp hR1 hR2 hhi (fun j hj => by omega)
  | succ p ih =>
    intro f R hp hf hR1 hR2 hhi
    obtain ⟨f, rfl⟩ : ∃ f2, f = f2 + 1 := ⟨f - 1, by omega⟩
    have e : pp_sortByKeys_lp23 τ K (f + 1) (R, T, tot, lon) (nI N) (nI i) (nI (p + 1)) = pp_sortByKeys_23 τ K (pp_sortByKeys_lp23 τ K f) (R, T, tot, lon) (nI N) (nI i) (nI (p + 1)) := rfl
    rw [e]
    obtain ⟨s1, s2, s3⟩ := hs
    obtain ⟨hrp, hcp⟩ := s1 p (by omega)
    cases hcr : c (r p) with
    | none => exact absurd hcr hcp
    | some a =>
      obtain ⟨kp, vp⟩ := a
      have hkp := kO_at hcr
      unfold pp_sortByKeys_23
      rw [it_F (nI_nle (by omega) (by omega)), nI_p1, g256 (by omega), cl256 (by omega), show pl_rising (R, T, tot, lon) p = nI (r p) from hR1 p (by omega), t_key (by omega) (htr.2 _ (by omega)) hcr, bd_some, t_key (by omega) (htr.2 i hi) hc, bd_some]
      by_cases q : kp ≤ k
      · rw [it_T q]
        have hne : kp ≠ k := fun z => by
          have := hdj (r p) i kp vp v hcr (by rw [z]; exact hc)
          omega
        refine hfin (p + 1) R hp hR1 hR2 hhi (fun j hj => ?_)
        by_cases q2 : j = p
        · rw [q2, hkp]
          exact i_lt_of_le q hne
        · have := s3 j p (by omega) (by omega)
          rw [hkp] at this
          exact i_lt_tr this (i_lt_of_le q hne)
      · rw [it_F q, g256 (by omega), g256 (by omega), cl256 (by omega), nm_eq, pk_m1, nm_eq]
        refine ih f (upd R (p + 1) (nI (r p))) (by omega) (by omega) (fun j hj => ?_) (fun j h1 h2 => ?_) (fun j h1 h2 => ?_)
        · rw [up_n (by omega)]
          exact hR1 j (by omega)
        · by_cases q2 : j = p + 1
          · rw [q2, up_s, show p + 1 - 1 = p by omega]
          · rw [up_n q2]
            exact hR2 j (by omega) h2
        · by_cases q2 : j = p
          · rw [q2, hkp]
            exact i_lt_of q
          · exact hhi j (by omega) h2
theorem cnt_le_i (c : Ct) (i : Nat) : cnt i c ≤ i := cnt_le
theorem sort_lp (hn : n ≤ 256) (htr : TR n (hsh w) c τ) (hdj : Dj c) (T : Nat → Int32) (tot lon : Int32) : ∀ d i f (R : Nat → Int32) (r : Nat → Nat), i + d = n → d < f → Srt c i (cnt i c) r → (∀ j, j < cnt i c → R j = nI (r j)) → ∃ (R' : Nat → Int32) (r' : Nat → Nat), pp_sortByKeys_lp4 τ f (R, T, tot, lon) (nI (cnt i c)) (nI i) = some (nI (cnt n c), (R', T, tot, lon)) ∧ Srt c n (cnt n c) r' ∧ ∀ j, j < cnt n c → R' j = nI (r' j) := by
  intro d
  induction d with
  | zero =>
    intro i f R r hi hf hs hR
    obtain ⟨f, rfl⟩ : ∃ f2, f = f2 + 1 := ⟨f - 1, by omega⟩
    have : i = n := by omega
    subst this
    refine ⟨R, r, ?_, hs, hR⟩
    show pp_sortByKeys_4 τ (pp_sortByKeys_lp4 τ f) (R, T, tot, lon) _ _ = _
    unfold pp_sortByKeys_4
    rw [htr.1, it_T (nI_le (Nat.le_refl _) (by omega))]
  | succ d ih =>
    intro i f R r hi hf hs hR
    obtain ⟨f, rfl⟩ : ∃ f2, f = f2 + 1 := ⟨f - 1, by omega⟩
    have e : pp_sortByKeys_lp4 τ (f + 1) (R, T, tot, lon) (nI (cnt i c)) (nI i) = pp_sortByKeys_4 τ (pp_sortByKeys_lp4 τ f) (R, T, tot, lon) (nI (cnt i c)) (nI i) := rfl
    rw [e]
    unfold pp_sortByKeys_4
    rw [htr.1, it_F (nI_ge (by omega) (by omega))]
    have hcl := cnt_le_i c i
    cases hc : c i with
    | none =>
      have hcn : cnt (i + 1) c = cnt i c := by
        show cnt i c + (if (c i).isSome then 1 else 0) = _
        rw [hc]
        rfl
      rw [t_emptyN (by omega) (htr.2 i (by omega)) hc, bd_some, it_F o10]
      unfold pp_sortByKeys_82
      rw [nm_eq, nI_1, ← hcn]
      refine ih (i + 1) f R r (by omega) (by omega) ?_ (by rw [hcn]; exact hR)
      rw [hcn]
      obtain ⟨s1, s2, s3⟩ := hs
      refine ⟨fun j hj => ⟨by have := (s1 j hj).1; omega, (s1 j hj).2⟩, fun s hs hcs => s2 s ?_ hcs, s3⟩
      have : s ≠ i := fun z => hcs (by rw [z]; exact hc)
      omega
    | some a =>
      obtain ⟨k, v⟩ := a
      have hcn : cnt (i + 1) c = cnt i c + 1 := by
        show cnt i c + (if (c i).isSome then 1 else 0) = _
        rw [hc]
        rfl
      rw [t_emptyS (by omega) (htr.2 i (by omega)) hc, bd_some, it_T rfl]
      obtain ⟨R', r', a1, a2, a3⟩ := ins_lp hn htr hdj (by omega) hcl hs hc (pp_sortByKeys_lp4 τ f) T tot lon (cnt i c) FU R (Nat.le_refl _) (by show cnt i c < 1024; omega) hR (fun j h1 h2 => by omega) (fun j h1 h2 => by omega)
      rw [a1, ← hcn]
      exact ih (i + 1) f R' r' (by omega) (by omega) (by rw [hcn]; exact a2) (by rw [hcn]; exact a3)
end SO
/-- what is taken -/
def PF (e : Ct) (T : Nat → Int32) : Prop := ∀ i, i < 256 → (e i = none ∧ T i = 0) ∨ (e i ≠ none ∧ T i = 1)
theorem PF.up {e : Ct} {T : Nat → Int32} (h : PF e T) (i : Nat) : PF (upc e i (some (0, 0))) (upd T i 1) := by
  intro j hj
  by_cases q : j = i
  · rw [q, upc_s, up_s]
    exact Or.inr ⟨fun z => (by cases z), rfl⟩
  · rw [upc_n q, up_n q]
    exact h j hj
section FL
variable {n : Nat} {w : Int32} {c : Ct} {τ : Tb}
theorem first_lp (hz : Sz n) (htr : TR n (hsh w) c τ) {e : Ct} (R T : Nat → Int32) (tot lon : Int32) (hT : PF e T) (h : Int32) {g : Nat} (hg : Gap n e (bn h % n) g) : ∀ d j f, j + d = g → d < f → pp_takeFirstFree_lp2 τ f (R, T, tot, lon) h (nI j) = some (nI g, (R, upd T ((bn h % n + g) % n) 1, tot, lon)) := by
  have hle := hz.le
  have har : ∀ j, j ≤ g → tt_around τ (h + nI j) = some (nI ((bn h % n + j) % n)) := by
    intro j hj
    have hgn := hg.2.2
    have := bn_sh hz h (o := 0) (j := j) (by omega)
    rw [t_around hz htr.1]
    rw [show h + nI 0 = h from Int32.add_zero h, Nat.zero_add] at this
    rw [this]
  have hlt : ∀ a, a % n < n := fun a => Nat.mod_lt _ (by omega)
  have hend : pp_takeFirstFree_31 τ (R, T, tot, lon) h (nI g) = some (nI g, (R, upd T ((bn h % n + g) % n) 1, tot, lon)) := by
    have := hlt (bn h % n + g)
    unfold pp_takeFirstFree_31
    rw [har g (Nat.le_refl _), bd_some, g256 (by omega), cl256 (by omega), nm_eq]
    rfl
  intro d
  induction d with
  | zero =>
    intro j f hj hf
    obtain ⟨f, rfl⟩ : ∃ f2, f = f2 + 1 := ⟨f - 1, by omega⟩
    have : j = g := by omega
    subst this
    have h1 := hlt (bn h % n + j)
    show pp_takeFirstFree_2 τ (pp_takeFirstFree_lp2 τ f) (R, T, tot, lon) h (nI j) = _
    unfold pp_takeFirstFree_2
    rw [htr.1, it_F (nI_ge hg.2.2 (by omega)), har j (Nat.le_refl _), bd_some, g256 (by omega), cl256 (by omega)]
    have h2 : T ((bn h % n + j) % n) = 0 := by
      rcases hT _ (show (bn h % n + j) % n < 256 by omega) with z | z
      · exact z.2
      · exact absurd hg.2.1 z.1
    rw [show pl_taken (R, T, tot, lon) ((bn h % n + j) % n) = 0 from h2, it_T rfl]
    exact hend
  | succ d ih =>
    intro j f hj hf
    obtain ⟨f, rfl⟩ : ∃ f2, f = f2 + 1 := ⟨f - 1, by omega⟩
    have h1 := hlt (bn h % n + j)
    have hgn := hg.2.2
    show pp_takeFirstFree_2 τ (pp_takeFirstFree_lp2 τ f) (R, T, tot, lon) h (nI j) = _
    unfold pp_takeFirstFree_2
    rw [htr.1, it_F (nI_ge (by omega) (by omega)), har j (by omega), bd_some, g256 (by omega), cl256 (by omega)]
    have h2 : T ((bn h % n + j) % n) = 1 := by
      rcases hT _ (show (bn h % n + j) % n < 256 by omega) with z | z
      · exact absurd z.1 (hg.1 j (by omega))
      · exact z.2
    rw [show pl_taken (R, T, tot, lon) ((bn h % n + j) % n) = 1 from h2, it_F o10, nm_eq, nI_1]
    exact ih (j + 1) f (by omega) (by omega)
end FL
theorem clr_lp (τ : Tb) (R : Nat → Int32) (a b : Int32) : ∀ d i f (T : Nat → Int32), i + d = 256 → d < f → (∀ j, j < i → T j = 0) → ∃ T' : Nat → Int32, pp_fillFrom_lp12 τ f (R, T, a, b) (nI i) = (bd2 (pp_sortByKeys τ (R, T', a, b)) fun v4 s5 => pp_fillFrom_lp40 τ FU s5 v4 0) ∧ ∀ j, j < 256 → T' j = 0 := by
  intro d
  induction d with
  | zero =>
    intro i f T hi hf h
    obtain ⟨f, rfl⟩ : ∃ f2, f = f2 + 1 := ⟨f - 1, by omega⟩
    refine ⟨T, ?_, fun j hj => h j (by omega)⟩
    show pp_fillFrom_12 τ (pp_fillFrom_lp12 τ f) (R, T, a, b) (nI i) = _
    unfold pp_fillFrom_12
    rw [it_T (show (256 : Int32) ≤ nI i from nI_le (a := 256) (by omega) (by omega))]
  | succ d ih =>
    intro i f T hi hf h
    obtain ⟨f, rfl⟩ : ∃ f2, f = f2 + 1 := ⟨f - 1, by omega⟩
    have e1 : pp_fillFrom_lp12 τ (f + 1) (R, T, a, b) (nI i) = pp_fillFrom_12 τ (pp_fillFrom_lp12 τ f) (R, T, a, b) (nI i) := rfl
    rw [e1]
    unfold pp_fillFrom_12
    rw [it_F (show ¬ (256 : Int32) ≤ nI i from nI_ge (b := 256) (by omega) (by omega)), g256 (by omega), cl256 (by omega), nm_eq, nm_eq, nI_1]
    refine ih (i + 1) f (upd T i 0) (by omega) (by omega) (fun j hj => ?_)
    by_cases q : j = i
    · rw [q, up_s]
    · rw [up_n q]
      exact h j (by omega)
/-- a table of homes as one of keys -/
def ect (P : Hm) : Ct := fun s => match P s with
  | none => none
  | some _ => some (0, 0)
theorem ect_none {P : Hm} {s : Nat} : ect P s = none ↔ P s = none := by
  unfold ect
  cases P s with
  | none => exact ⟨fun _ => rfl, fun _ => rfl⟩
  | some a => exact ⟨fun z => (by cases z), fun z => (by cases z)⟩
theorem ect_put (P : Hm) (y h : Nat) : ect (puT P y h) = upc (ect P) y (some (0, 0)) := by
  funext s
  by_cases q : s = y
  · rw [q, upc_s]
    unfold ect
    rw [puT_s]
  · rw [upc_n q]
    unfold ect
    rw [puT_n q]
section FI
variable {w : Int32} {nP nO : Nat} {cP cO : Ct} {x : RR}
/-- the slots of a list are in S, no other -/
def Sub (T S : Hm) (r : Nat → Nat) (j : Nat) : Prop := (∀ i, i < j → S (r i) = T (r i)) ∧ ∀ s, (∀ i, i < j → r i ≠ s) → S s = none
theorem fill_lp (h : CI w nP nO cP cO x) {r : Nat → Nat} (hs : Srt cP nP (cnt nP cP) r) {R : Nat → Int32} (hR : ∀ j, j < cnt nP cP → R j = nI (r j)) : ∀ d j f (P S : Hm) (T : Nat → Int32) (lon : Int32), j + d = cnt nP cP → d < f → PF (ect P) T → cnt nP (ect P) = j → GT nP P → PC nP P → Sub (TC nP (hm nP (hsh w)) cP) S r j → (∀ x, x < nP → HT nP P x = HT nP S x) → ∃ (T' : Nat → Int32) (lon' : Int32), pp_fillFrom_lp40 (rr_P x) f (R, T, nI (tot nP P), lon) (nI (cnt nP cP)) (nI j) = some (R, T', nI (tot nP (TC nP (hm nP (hsh w)) cP)), lon') ∧ (d = 0 → lon' = lon) := by
  have hsz := h.sz.le
  have hcn := cnt_le (n := nP) (c := cP)
  have hlt : cnt nP cP < nP := by
    have := h.cap.1
    omega
  obtain ⟨p1, p3, p5, p6, p7⟩ := h.tP
  have hH : ∀ k, hm nP (hsh w) k < nP := fun k => hm_lt (by omega) k
  intro d
  induction d with
  | zero =>
    intro j f P S T lon hj hf hPF he hG hP hS hHT
    obtain ⟨f, rfl⟩ : ∃ f2, f = f2 + 1 := ⟨f - 1, by omega⟩
    have hj2 : j = cnt nP cP := by omega
    refine ⟨T, lon, ?_, fun _ => rfl⟩
    show pp_fillFrom_40 (rr_P x) (pp_fillFrom_lp40 (rr_P x) f) (R, T, nI (tot nP P), lon) (nI (cnt nP cP)) (nI j) = _
    unfold pp_fillFrom_40
    rw [it_T (nI_le (by omega) (by omega))]
    have hfull : ∀ s, s < nP → S s = TC nP (hm nP (hsh w)) cP s := by
      intro s hsn
      cases hc : cP s with
      | none =>
        rw [TC_none.mpr hc]
        refine hS.2 s (fun i hi z => ?_)
        exact (hs.1 i (by omega)).2 (by rw [z]; exact hc)
      | some a =>
        obtain ⟨i, hi, hri⟩ := hs.2.1 s hsn (by rw [hc]; exact fun z => by cases z)
        rw [← hri]
        exact hS.1 i (by omega)
    have hHc : ∀ y, y < nP → HT nP P y = HT nP (TC nP (hm nP (hsh w)) cP) y := by
      intro y hy
      rw [hHT y hy]
      unfold HT
      refine sm_congr (fun s hsn => ?_)
      unfold hT
      rw [hfull s hsn]
    have hfr : ∃ i, i < nP ∧ P i = none := by
      obtain ⟨i, hi, hi2⟩ := cnt_free (c := ect P) (n := nP) (by omega)
      exact ⟨i, hi, ect_none.mp hi2⟩
    have hfr2 : ∃ i, i < nP ∧ TC nP (hm nP (hsh w)) cP i = none := by
      obtain ⟨i, hi, hi2⟩ := cnt_free (c := cP) (n := nP) hlt
      exact ⟨i, hi, TC_none.mpr hi2⟩
    rw [tot_uniq hG hP (TC_G hH cP) (TC_P hH p7) hHc hfr hfr2]
  | succ d ih =>
    intro j f P S T lon hj hf hPF he hG hP hS hHT
    obtain ⟨f, rfl⟩ : ∃ f2, f = f2 + 1 := ⟨f - 1, by omega⟩
    have hjn : j < cnt nP cP := by omega
    show ∃ (T' : Nat → Int32) (lon' : Int32), pp_fillFrom_40 (rr_P x) (pp_fillFrom_lp40 (rr_P x) f) (R, T, nI (tot nP P), lon) (nI (cnt nP cP)) (nI j) = _ ∧ _
    obtain ⟨hr1, hr2⟩ := hs.1 j hjn
    obtain ⟨k, v, hc⟩ : ∃ k v, cP (r j) = some (k, v) := by
      cases q : cP (r j) with
      | none => exact absurd q hr2
      | some a => exact ⟨a.1, a.2, rfl⟩
    have hHk : bn (hsh w k) % nP < nP := Nat.mod_lt _ (by omega)
    obtain ⟨g, hg⟩ := gap_ex hHk (cnt_free (c := ect P) (n := nP) (by omega))
    have hgn := hg.2.2
    have hfi := first_lp h.sz p1 R T (nI (tot nP P)) lon hPF (hsh w k) hg g 0 FU (by omega) (by show g < 1024; omega)
    have hy : (bn (hsh w k) % nP + g) % nP < nP := Nat.mod_lt _ (by omega)
    have hPf : P ((bn (hsh w k) % nP + g) % nP) = none := ect_none.mp hg.2.1
    have hne : ∀ i, i < j → r i ≠ r j := fun i hi z => by
      have := hs.2.2 i j hi hjn
      rw [z] at this
      exact i_irr _ this
    have hSr : S (r j) = none := hS.2 (r j) hne
    have hS2 : Sub (TC nP (hm nP (hsh w)) cP) (puT S (r j) (hm nP (hsh w) k)) r (j + 1) := by
      refine ⟨fun i hi => ?_, fun s hsn => ?_⟩
      · by_cases q : i = j
        · rw [q, puT_s, TC_some hc]
        · rw [puT_n (hne i (by omega))]
          exact hS.1 i (by omega)
      · rw [puT_n (fun z => hsn j (by omega) z.symm)]
        exact hS.2 s (fun i hi => hsn i (by omega))
    have hH2 : ∀ y, y < nP → HT nP (puT P ((bn (hsh w k) % nP + g) % nP) (hm nP (hsh w) k)) y = HT nP (puT S (r j) (hm nP (hsh w) k)) y := fun y hyn => by rw [put_H hy hPf, put_H hr1 hSr, hHT y hyn]
    obtain ⟨T', lon', i1, i2⟩ := ih (j + 1) f (puT P ((bn (hsh w k) % nP + g) % nP) (hm nP (hsh w) k)) (puT S (r j) (hm nP (hsh w) k)) (upd T ((bn (hsh w k) % nP + g) % nP) 1) (if lon < nI g then nI g else lon) (by omega) (by omega) (by rw [ect_put]; exact hPF.up _) (by rw [ect_put, cnt_add hy hg.2.1, he]) (put_G hG (hH k) _) (put_P hP (hH k) hgn (fun i hi z => hg.1 i hi (ect_none.mpr z))) hS2 hH2
    refine ⟨T', lon', ?_, fun z => by omega⟩
    unfold pp_fillFrom_40
    rw [it_F (nI_ge (by omega) (by omega)), g256 (by omega), cl256 (by omega)]
    rw [show pl_rising (R, T, nI (tot nP P), lon) j = nI (r j) from hR j hjn, t_hash (by omega) (p1.2 (r j) hr1) hc, bd_some]
    unfold pp_takeFirstFree
    rw [show (0 : Int32) = nI 0 from rfl, hfi, bd2_some, nm_eq, nm_eq, nm_eq, nI_1]
    have ht : tot nP (puT P ((bn (hsh w k) % nP + g) % nP) (hm nP (hsh w) k)) = tot nP P + g := put_T (hH k) hgn hPf
    rw [ht, ← nI_add] at i1
    exact i1
theorem plain_eq (h : CI w nP nO cP cO x) : ∃ (p : Pl), pp_fillFrom (rr_P x) (rr_pl x) = some p ∧ pl_total p = nI (tot nP (TC nP (hm nP (hsh w)) cP)) ∧ (cnt nP cP = 0 → pl_longest p = -1) := by
  have hsz := h.sz.le
  obtain ⟨p1, p3, p5, p6, p7⟩ := h.tP
  obtain ⟨R, T, tt, lon⟩ := rr_pl x
  obtain ⟨T1, a1, a2⟩ := clr_lp (rr_P x) R 0 (-1) 256 0 FU T (by omega) (by show 256 < 1024; omega) (fun j hj => by omega)
  obtain ⟨R', r', c1, c2, c3⟩ := sort_lp (by omega) p1 p6 T1 0 (-1) nP 0 FU R (fun _ => 0) (by omega) (by show nP < 1024; omega) ⟨fun j hj => by exact absurd hj (Nat.not_lt_zero j), fun s hs _ => by omega, fun j j' _ hj => absurd hj (Nat.not_lt_zero j')⟩ (fun j hj => absurd hj (Nat.not_lt_zero j))
  have hcn := cnt_le (n := nP) (c := cP)
  have e0 : ect (fun _ => none) = fun _ => none := rfl
  have t0 : tot nP (fun _ => none) = 0 := sm_zero
  have h0 : ∀ y, HT nP (fun _ => none) y = 0 := fun y => sm_zero
  obtain ⟨T', lon', d1, d2⟩ := fill_lp h c2 c3 (cnt nP cP) 0 FU (fun _ => none) (fun _ => none) T1 (-1) (by omega) (by show cnt nP cP < 1024; omega) (fun i hi => Or.inl ⟨rfl, a2 i hi⟩) (by rw [e0]; exact cnt_none nP) (fun s hs a z => by cases z) (fun s hs a z => by cases z) ⟨fun i hi => absurd hi (Nat.not_lt_zero i), fun s _ => rfl⟩ (fun y hy => rfl)
  rw [t0] at d1
  refine ⟨(R', T', nI (tot nP (TC nP (hm nP (hsh w)) cP)), lon'), ?_, rfl, fun z => d2 z⟩
  unfold pp_fillFrom
  rw [nm_eq, nm_eq]
  refine (show _ = _ from a1).trans ?_
  rw [show pp_sortByKeys (rr_P x) (R, T1, 0, -1) = _ from c1, bd2_some]
  exact d1
theorem plainTotal_eq (h : CI w nP nO cP cO x) : ∃ (p : Pl), rr_plainTotal x = some (nI (tot nP (TC nP (hm nP (hsh w)) cP)), rr_pl' x p) := by
  obtain ⟨p, h1, h2, -⟩ := plain_eq h
  refine ⟨p, ?_⟩
  unfold rr_plainTotal
  rw [h1, bd_some, nm_eq, ← h2]
  rfl
theorem plainLongest_eq (h : CI w nP nO cP cO x) : ∃ (r : Int32) (p : Pl), rr_plainLongest x = some (r, rr_pl' x p) ∧ (cnt nP cP = 0 → r = -1) := by
  obtain ⟨p, h1, -, h2⟩ := plain_eq h
  refine ⟨pl_longest p, p, ?_, h2⟩
  unfold rr_plainLongest
  rw [h1, bd_some, nm_eq]
  rfl
end FI
