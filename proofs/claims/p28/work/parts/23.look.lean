theorem bn_add (x y : Int32) : bn (x + y) = (bn x + bn y) % 2 ^ 32 := by
  unfold bn
  rw [Int32.toBitVec_add, BitVec.toNat_add]
theorem bn_sh {n : Nat} (hz : Sz n) (x : Int32) {o j : Nat} (ho : o + j < 1024) : bn (x + nI o + nI j) % n = (bn x % n + (o + j)) % n := by
  rw [bn_add, bn_add, bn_nI (by omega), bn_nI (by omega)]
  rcases hz with rfl | rfl | rfl | rfl | rfl | rfl <;> omega
theorem nar_z : ∀ e : Nat, e ≤ 1 → vp_nar .boolean (nI e) = nI e := by
  intro e he
  have : e = 0 ∨ e = 1 := by omega
  rcases this with rfl | rfl
  · decide
  · decide
theorem gn_z {α : Type} {e : Nat} (he : e ≤ 1) (x : Option α) : gn .boolean (nI e) x = x := gn_of (nar_z e he)
theorem m128 : ¬ (-128 : Int32) = (0 : Int32) := by decide
theorem ctlv_N (hf : Int32 → Int32) : ctlv hf none = -128 := rfl
theorem ctlv_S (hf : Int32 → Int32) (a : Int32 × Int32) : ctlv hf (some a) = tg (hf a.1) := rfl
/-- how a found key stands in the search -/
def seF (wh : Nat) (sl G Q : Int32) (fd : Option Nat) : Se := match fd with
  | none => (none, sl, G, Q)
  | some s => (some wh, nI s, G, Q)
section LK
variable {n : Nat} {w : Int32} {c : Ct} {τ : Tb} {i : Nat}
theorem e01 {e : Nat} (he : e ≤ 1) : nI e = 0 ∨ nI e = 1 := by
  have : e = 0 ∨ e = 1 := by omega
  rcases this with rfl | rfl
  · exact Or.inl rfl
  · exact Or.inr rfl
/-- one group -/
theorem look_grp (hz : Sz n) (htr : TR n (hsh w) c τ) (wh : Nat) (sl G : Int32) (Q : Nat) (k : Int32) {g : Nat} (hg : g < 64) : ∀ d j f e q, j + d = 8 → d < f → e ≤ 1 → Q + q + d < 2 ^ 20 → ∃ (q' e' : Nat) (fd : Option Nat),
    ss_lookAtGroup_lp6 wh τ f (none, sl, G, nI (Q + q)) (hsh w k + nI (8 * g)) k (tg (hsh w k)) (nI e) (nI j) = some (nI e', seF wh sl G (nI (Q + q')) fd) ∧ q ≤ q' ∧ q' ≤ q + d ∧ e' ≤ 1 ∧
    (∀ s, fd = some s → s < n ∧ 1 ≤ q' ∧ ∃ v, c s = some (k, v)) ∧ (fd = none → (∀ i, j ≤ i → i < 8 → ∀ v, c ((hm n (hsh w) k + (8 * g + i)) % n) ≠ some (k, v)) ∧ (e' = 1 → e = 1 ∨ ∃ i, j ≤ i ∧ i < 8 ∧ c ((hm n (hsh w) k + (8 * g + i)) % n) = none)) := by
  have hle := hz.le
  have hh := hm_lt (n := n) (hf := hsh w) (by omega) k
  intro d
  induction d with
  | zero =>
    intro j f e q hj hf he hq
    obtain ⟨f, rfl⟩ : ∃ f2, f = f2 + 1 := ⟨f - 1, by omega⟩
    have : j = 8 := by omega
    subst this
    refine ⟨q, e, none, ?_, Nat.le_refl _, Nat.le_refl _, he, fun s h => (by cases h), fun _ => ⟨fun i h1 h2 => by omega, fun h => Or.inl h⟩⟩
    show ss_lookAtGroup_6 wh τ (ss_lookAtGroup_lp6 wh τ f) (none, sl, G, nI (Q + q)) (hsh w k + nI (8 * g)) k (tg (hsh w k)) (nI e) (nI 8) = _
    unfold ss_lookAtGroup_6
    rw [it_T (show (8 : Int32) ≤ nI 8 by decide), gn_z he]
    rfl
  | succ d ih =>
    intro j f e q hj hf he hq
    obtain ⟨f, rfl⟩ : ∃ f2, f = f2 + 1 := ⟨f - 1, by omega⟩
    have hsn : (hm n (hsh w) k + (8 * g + j)) % n < n := Nat.mod_lt _ (by omega)
    have har : tt_around τ (hsh w k + nI (8 * g) + nI j) = some (nI ((hm n (hsh w) k + (8 * g + j)) % n)) := by
      rw [t_around hz htr.1, bn_sh hz _ (by omega)]
      rfl
    obtain ⟨S, hS⟩ : ∃ S, S = (hm n (hsh w) k + (8 * g + j)) % n := ⟨_, rfl⟩
    rw [← hS] at hsn har
    have hS256 : S < 256 := by omega
    -- the head
    obtain ⟨e2, he2, hC, he2e⟩ : ∃ e2 : Nat, e2 ≤ 1 ∧ ss_lookAtGroup_lp6 wh τ (f + 1) (none, sl, G, nI (Q + q)) (hsh w k + nI (8 * g)) k (tg (hsh w k)) (nI e) (nI j) = ss_lookAtGroup_49 wh τ (ss_lookAtGroup_lp6 wh τ f) (none, sl, G, nI (Q + q)) (hsh w k + nI (8 * g)) k (tg (hsh w k)) (nI j) (nI S) (nI e2) ∧ (e2 = 1 → e = 1 ∨ c S = none) := by
      have h1 : ss_lookAtGroup_lp6 wh τ (f + 1) (none, sl, G, nI (Q + q)) (hsh w k + nI (8 * g)) k (tg (hsh w k)) (nI e) (nI j) = ss_lookAtGroup_6 wh τ (ss_lookAtGroup_lp6 wh τ f) (none, sl, G, nI (Q + q)) (hsh w k + nI (8 * g)) k (tg (hsh w k)) (nI e) (nI j) := rfl
      have hge : ¬ (8 : Int32) ≤ nI j := nI_ge (b := 8) (by omega) (by omega)
      unfold ss_lookAtGroup_6 at h1
      rw [it_F hge, show ss_hasFound (none, sl, G, nI (Q + q)) = some 0 from rfl, bd_some, it_T rfl, har, bd_some] at h1
      have hcase : e = 1 ∨ e = 0 := by omega
      rcases hcase with rfl | rfl
      · rw [it_F (show ¬ nI 1 = 0 from o10)] at h1
        exact ⟨1, Nat.le_refl _, h1, fun _ => Or.inl rfl⟩
      · rw [it_T (show nI 0 = 0 from rfl)] at h1
        cases hc : c S with
        | none =>
          rw [t_emptyN hS256 (htr.2 S hsn) hc, bd_some, it_F o10] at h1
          exact ⟨1, Nat.le_refl _, h1, fun _ => Or.inr rfl⟩
        | some a =>
          rw [t_emptyS (k := a.1) (v := a.2) hS256 (htr.2 S hsn) hc, bd_some, it_T rfl] at h1
          exact ⟨0, by omega, h1, fun h => by omega⟩
    rw [hC]
    unfold ss_lookAtGroup_49
    rw [t_ctl hS256 (htr.2 S hsn), bd_some]
    -- what comes after a slot that is not compared or not the key
    have go : ∀ q1, q ≤ q1 → q1 ≤ q + 1 → (∀ v, c S ≠ some (k, v)) → ∃ (q' e' : Nat) (fd : Option Nat), ss_lookAtGroup_lp6 wh τ f (none, sl, G, nI (Q + q1)) (hsh w k + nI (8 * g)) k (tg (hsh w k)) (nI e2) (nI (j + 1)) = some (nI e', seF wh sl G (nI (Q + q')) fd) ∧ q ≤ q' ∧ q' ≤ q + (d + 1) ∧ e' ≤ 1 ∧
    (∀ s, fd = some s → s < n ∧ 1 ≤ q' ∧ ∃ v, c s = some (k, v)) ∧ (fd = none → (∀ i, j ≤ i → i < 8 → ∀ v, c ((hm n (hsh w) k + (8 * g + i)) % n) ≠ some (k, v)) ∧ (e' = 1 → e = 1 ∨ ∃ i, j ≤ i ∧ i < 8 ∧ c ((hm n (hsh w) k + (8 * g + i)) % n) = none)) := by
      intro q1 hq1 hq2 hno
      obtain ⟨q', e', fd, a1, a3, a4, a5, a6, a7⟩ := ih (j + 1) f e2 q1 (by omega) (by omega) he2 (by omega)
      refine ⟨q', e', fd, a1, by omega, by omega, a5, a6, fun hfd => ?_⟩
      obtain ⟨b1, b2⟩ := a7 hfd
      refine ⟨fun i h1 h2 => ?_, fun he1 => ?_⟩
      · by_cases q : i = j
        · subst q
          rw [← hS]
          exact hno
        · exact b1 i (by omega) h2
      · rcases b2 he1 with h | ⟨i, h1, h2, h3⟩
        · rcases he2e h with h | h
          · exact Or.inl h
          · exact Or.inr ⟨j, Nat.le_refl _, by omega, by rw [← hS]; exact h⟩
        · exact Or.inr ⟨i, by omega, h2, h3⟩
    by_cases htg : ctlv (hsh w) (c S) = tg (hsh w k)
    · cases hc : c S with
      | none =>
        rw [hc, ctlv_N] at htg
        exact absurd htg.symm (tg_ne _)
      | some a =>
        obtain ⟨k', v'⟩ := a
        rw [hc] at htg
        rw [it_T htg, nm_eq, t_key hS256 (htr.2 S hsn) hc, bd_some]
        by_cases hkk : k' = k
        · rw [it_T hkk]
          subst hkk
          refine ⟨q + 1, e2, some S, ?_, by omega, by omega, he2, fun s h => (by cases h; exact ⟨hsn, by omega, v', hc⟩), fun h => (by cases h)⟩
          unfold ss_lookAtGroup_93
          rw [nm_eq, nm_eq, nm_eq, nI_1]
          obtain ⟨f, rfl⟩ : ∃ f2, f = f2 + 1 := ⟨f - 1, by omega⟩
          show ss_lookAtGroup_6 wh τ (ss_lookAtGroup_lp6 wh τ f) (some wh, nI S, G, nI (Q + q) + 1) (hsh w k' + nI (8 * g)) k' (tg (hsh w k')) (nI e2) (nI (j + 1)) = _
          unfold ss_lookAtGroup_6
          rw [show ss_hasFound (some wh, nI S, G, nI (Q + q) + 1) = some 1 from rfl, bd_some, it_F o10, gn_z he2, nI_1]
          split <;> rfl
        · rw [it_F hkk]
          unfold ss_lookAtGroup_93
          rw [nm_eq, nI_1]
          have hadd : se_comps' (none, sl, G, nI (Q + q)) (se_comps (none, sl, G, nI (Q + q)) + 1) = (none, sl, G, nI (Q + (q + 1))) := by
            show (none, sl, G, nI (Q + q) + 1) = _
            rw [nI_1]
            rfl
          rw [hadd]
          exact go (q + 1) (by omega) (Nat.le_refl _) (fun v h => by rw [hc] at h; cases h; exact hkk rfl)
    · rw [it_F htg]
      unfold ss_lookAtGroup_93
      rw [nm_eq, nI_1]
      exact go q (Nat.le_refl _) (by omega) (fun v h => by rw [h] at htg; exact htg rfl)
end LK
section LU
variable {n : Nat} {w : Int32} {c : Ct} {τ : Tb} {i : Nat}
theorem sz8 {n : Nat} (hz : Sz n) : ∃ d, n = 8 * d ∧ d ≤ 32 ∧ 0 < d := by
  rcases hz with rfl | rfl | rfl | rfl | rfl | rfl
  · exact ⟨1, rfl, by omega, by omega⟩
  · exact ⟨2, rfl, by omega, by omega⟩
  · exact ⟨4, rfl, by omega, by omega⟩
  · exact ⟨8, rfl, by omega, by omega⟩
  · exact ⟨16, rfl, by omega, by omega⟩
  · exact ⟨32, rfl, by omega, by omega⟩
/-- every slot lies on the way round from a home -/
theorem on_way {n h s : Nat} (hh : h < n) (hs : s < n) : (h + dd n h s) % n = s := by
  rw [dd_val hh hs]
  split
  · rw [md_lt (by omega)]
    omega
  · rw [md_ge (by omega) (by omega)]
    omega
/-- an empty slot on the way, no key before it: the key is not there -/
theorem not_there {n : Nat} {H : Int32 → Nat} (hH : ∀ k, H k < n) {c : Ct} (hsup : Sup n c) (hrh : RH n H c) {k : Int32} {m i : Nat} (him : i < m) (hc : c ((H k + i) % n) = none) (hno : ∀ i, i < m → ∀ v, c ((H k + i) % n) ≠ some (k, v)) : ∀ s v, c s ≠ some (k, v) := by
  intro s v h
  have hsn : s < n := by
    rcases Nat.lt_or_ge s n with q | q
    · exact q
    · rw [hsup s q] at h
      cases h
  have hw := on_way (hH k) hsn
  have hd := dd_lt (n := n) (h := H k) (s := s) (by omega)
  rcases Nat.lt_or_ge (dd n (H k) s) m with q | q
  · exact hno _ q v (by rw [hw]; exact h)
  · obtain ⟨p, hp, hps, hcp⟩ := way_full (n := n) (hm := H) hH hrh (k := k) (v := v) (dd n (H k) s - i) s hsn k v h (by omega)
    have hb : (H k + i) % n < n := Nat.mod_lt _ (by omega)
    have h2 : ((H k + i) % n + (dd n (H k) s - i)) % n = s := by
      rw [Nat.mod_add_mod, show H k + i + (dd n (H k) s - i) = H k + dd n (H k) s by omega, hw]
    have : p = (H k + i) % n := by
      have e1 : (p + (dd n (H k) s - i)) % n = ((H k + i) % n + (dd n (H k) s - i)) % n := hps.trans h2.symm
      have hz0 : dd n (H k) s - i < n := by omega
      generalize (H k + i) % n = b at *
      generalize dd n (H k) s - i = z at *
      rcases Nat.lt_or_ge (p + z) n with q1 | q1 <;> rcases Nat.lt_or_ge (b + z) n with q2 | q2
      · rw [md_lt q1, md_lt q2] at e1
        omega
      · rw [md_lt q1, md_ge q2 (by omega)] at e1
        omega
      · rw [md_ge q1 (by omega), md_lt q2] at e1
        omega
      · rw [md_ge q1 (by omega), md_ge q2 (by omega)] at e1
        omega
    rw [this] at hcp
    exact hcp hc
theorem look_lp (hz : Sz n) (htr : TR n (hsh w) c τ) (hsup : Sup n c) (hrh : RH n (hm n (hsh w)) c) (wh : Nat) (sl : Int32) (G Q : Nat) (k : Int32) : ∀ d g f q, 8 * g + 8 * d = n → d < f → (∀ i, i < 8 * g → ∀ v, c ((hm n (hsh w) k + i) % n) ≠ some (k, v)) → Q + q + 8 * d < 2 ^ 20 → ∃ (g' q' : Nat) (fd : Option Nat),
    ss_lookIn_lp6 wh τ f (none, sl, nI (G + g), nI (Q + q)) k (hsh w k) 0 (nI (8 * g)) = some (seF wh sl (nI (G + g')) (nI (Q + q')) fd) ∧ q' ≤ q + 8 * d ∧ g' ≤ g + d ∧ g + (if d = 0 then 0 else 1) ≤ g' ∧
    (∀ s, fd = some s → s < n ∧ 1 ≤ q' ∧ ∃ v, c s = some (k, v)) ∧ (fd = none → ∀ s v, c s ≠ some (k, v)) := by
  have hle := hz.le
  have hh := hm_lt (n := n) (hf := hsh w) (by omega) k
  intro d
  induction d with
  | zero =>
    intro g f q hg hf hno hq
    obtain ⟨f, rfl⟩ : ∃ f2, f = f2 + 1 := ⟨f - 1, by omega⟩
    have hg8 : 8 * g = n := by omega
    refine ⟨g, q, none, ?_, Nat.le_refl _, Nat.le_refl _, Nat.le_refl _, fun s h => (by cases h), fun _ s v h => ?_⟩
    · show ss_lookIn_6 wh τ (ss_lookIn_lp6 wh τ f) (none, sl, nI (G + g), nI (Q + q)) k (hsh w k) 0 (nI (8 * g)) = _
      unfold ss_lookIn_6
      rw [htr.1, it_T (nI_le (by omega) (by omega))]
      rfl
    · have hsn : s < n := by
        rcases Nat.lt_or_ge s n with q | q
        · exact q
        · rw [hsup s q] at h
          cases h
      have hd := dd_lt (n := n) (h := hm n (hsh w) k) (s := s) (by omega)
      exact hno (dd n (hm n (hsh w) k) s) (by omega) v (by rw [on_way hh hsn]; exact h)
  | succ d ih =>
    intro g f q hg hf hno hq
    obtain ⟨f, rfl⟩ : ∃ f2, f = f2 + 1 := ⟨f - 1, by omega⟩
    obtain ⟨q', e', fd, a1, a3, a4, a5, a6, a7⟩ := look_grp (τ := τ) (c := c) hz htr wh sl (nI (G + (g + 1))) Q k (g := g) (by omega) 8 0 FU 0 q rfl (by decide) (by omega) (by omega)
    have hC : ss_lookIn_lp6 wh τ (f + 1) (none, sl, nI (G + g), nI (Q + q)) k (hsh w k) 0 (nI (8 * g)) = bd2 (ss_lookAtGroup wh τ (none, sl, nI (G + (g + 1)), nI (Q + q)) (hsh w k + nI (8 * g)) k (tg (hsh w k))) (fun v4 s5 => if v4 = 0 then bd (ss_hasFound s5) (fun v7 => if v7 = 0 then ss_lookIn_63 wh τ (ss_lookIn_lp6 wh τ f) s5 k (hsh w k) (nI (8 * g)) 0 else ss_lookIn_63 wh τ (ss_lookIn_lp6 wh τ f) s5 k (hsh w k) (nI (8 * g)) 1) else ss_lookIn_63 wh τ (ss_lookIn_lp6 wh τ f) s5 k (hsh w k) (nI (8 * g)) 1) := by
      show ss_lookIn_6 wh τ (ss_lookIn_lp6 wh τ f) (none, sl, nI (G + g), nI (Q + q)) k (hsh w k) 0 (nI (8 * g)) = _
      unfold ss_lookIn_6
      rw [htr.1, it_F (nI_ge (by omega) (by omega)), it_T rfl, nm_eq]
      have : se_groups' (none, sl, nI (G + g), nI (Q + q)) (se_groups (none, sl, nI (G + g), nI (Q + q)) + 1) = (none, sl, nI (G + (g + 1)), nI (Q + q)) := by
        show (none, sl, nI (G + g) + 1, nI (Q + q)) = _
        rw [nI_1]
        rfl
      rw [this]
      rfl
    have hend : ∀ fd', ss_lookIn_63 wh τ (ss_lookIn_lp6 wh τ f) (seF wh sl (nI (G + (g + 1))) (nI (Q + q')) fd') k (hsh w k) (nI (8 * g)) 1 = some (seF wh sl (nI (G + (g + 1))) (nI (Q + q')) fd') := by
      intro fd'
      obtain ⟨f, rfl⟩ : ∃ f2, f = f2 + 1 := ⟨f - 1, by omega⟩
      unfold ss_lookIn_63
      rw [nm_eq]
      show ss_lookIn_6 wh τ (ss_lookIn_lp6 wh τ f) (seF wh sl (nI (G + (g + 1))) (nI (Q + q')) fd') k (hsh w k) 1 _ = _
      unfold ss_lookIn_6
      rw [it_F o10]
      split <;> rfl
    rw [hC, show ss_lookAtGroup wh τ (none, sl, nI (G + (g + 1)), nI (Q + q)) (hsh w k + nI (8 * g)) k (tg (hsh w k)) = some (nI e', seF wh sl (nI (G + (g + 1))) (nI (Q + q')) fd) from a1, bd2_some]
    cases fd with
    | some s =>
      refine ⟨g + 1, q', some s, ?_, by omega, by omega, by rw [if_neg (by omega)]; omega, a6, fun h => (by cases h)⟩
      rw [hend (some s), show ss_hasFound (seF wh sl (nI (G + (g + 1))) (nI (Q + q')) (some s)) = some 1 from rfl, bd_some, it_F o10]
      split <;> rfl
    | none =>
      obtain ⟨b1, b2⟩ := a7 rfl
      have he : e' = 1 ∨ e' = 0 := by omega
      have hno2 : ∀ i, i < 8 * (g + 1) → ∀ v, c ((hm n (hsh w) k + i) % n) ≠ some (k, v) := by
        intro i hi
        by_cases q : i < 8 * g
        · exact hno i q
        · have := b1 (i - 8 * g) (by omega) (by omega)
          rw [show 8 * g + (i - 8 * g) = i by omega] at this
          exact this
      rcases he with rfl | rfl
      · refine ⟨g + 1, q', none, ?_, by omega, by omega, by rw [if_neg (by omega)]; omega, fun s h => (by cases h), fun _ => ?_⟩
        · rw [it_F (show ¬ nI 1 = 0 from o10)]
          exact hend none
        · rcases b2 rfl with h | ⟨i, h1, h2, h3⟩
          · omega
          · exact not_there (fun k => hm_lt (by omega) k) hsup hrh (m := 8 * (g + 1)) (i := 8 * g + i) (by omega) h3 hno2
      · obtain ⟨g', q2, fd, c1, c3, c4, c7, c5, c6⟩ := ih (g + 1) f q' (by omega) (by omega) hno2 (by omega)
        refine ⟨g', q2, fd, ?_, by omega, by omega, by rw [if_neg (by omega)]; split at c7 <;> omega, c5, c6⟩
        rw [it_T (show nI 0 = 0 from rfl), show ss_hasFound (seF wh sl (nI (G + (g + 1))) (nI (Q + q')) none) = some 0 from rfl, bd_some, it_T (show (0 : Int32) = 0 from rfl)]
        unfold ss_lookIn_63
        rw [nm_eq, show (8 : Int32) = nI 8 from rfl, nI_add, show 8 * g + 8 = 8 * (g + 1) by omega]
        exact c1
/-- one table: a size or nothing -/
theorem look_tab (hz : n = 0 ∨ Sz n) (htr : TR n (hsh w) c τ) (hsup : Sup n c) (hrh : RH n (hm n (hsh w)) c) (wh : Nat) (sl : Int32) {G Q : Nat} (hQ : Q < 2 ^ 16) (k : Int32) : ∃ (g q : Nat) (fd : Option Nat),
    ss_lookIn wh τ (none, sl, nI G, nI Q) k (hsh w k) = some (seF wh sl (nI (G + g)) (nI (Q + q)) fd) ∧ q ≤ 256 ∧ g ≤ 32 ∧ (Sz n → 1 ≤ g) ∧
    (∀ s, fd = some s → s < n ∧ 1 ≤ q ∧ ∃ v, c s = some (k, v)) ∧ (fd = none → ∀ s v, c s ≠ some (k, v)) := by
  rcases hz with rfl | hz
  · refine ⟨0, 0, none, ?_, by omega, by omega, fun h => by have := h.le; omega, fun s h => (by cases h), fun _ s v h => ?_⟩
    · show ss_lookIn_6 wh τ (ss_lookIn_lp6 wh τ 1023) (none, sl, nI G, nI Q) k (hsh w k) 0 (nI 0) = _
      unfold ss_lookIn_6
      rw [htr.1, it_T (nI_le (by omega) (by omega))]
      rfl
    · rw [hsup s (by omega)] at h
      cases h
  · have hle := hz.le
    obtain ⟨d, hd, hd2, hd3⟩ := sz8 hz
    obtain ⟨g, q, fd, a1, a3, a4, a7, a5, a6⟩ := look_lp hz htr hsup hrh wh sl G Q k d 0 FU 0 (by omega) (by show d < 1024; omega) (fun i hi => by omega) (by omega)
    rw [if_neg (by omega)] at a7
    exact ⟨g, q, fd, a1, by omega, by omega, fun _ => by omega, a5, a6⟩
end LU
