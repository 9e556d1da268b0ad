/-! a look-up in one table, and in both -/
section LU
variable {n t : Nat} {w : Int32} {c : Ct} {σ : MS} {τ : Tb} {i : Nat}
theorem sz8 {n : Nat} (hz : Sz n) : ∃ d, n = 8 * d ∧ d ≤ 32 ∧ 0 < d := by
  rcases hz with rfl | rfl | rfl | rfl | rfl | rfl
  · exact ⟨1, rfl, by omega, by omega⟩
  · exact ⟨2, rfl, by omega, by omega⟩
  · exact ⟨4, rfl, by omega, by omega⟩
  · exact ⟨8, rfl, by omega, by omega⟩
  · exact ⟨16, rfl, by omega, by omega⟩
  · exact ⟨32, rfl, by omega, by omega⟩
/-- every slot lies on the way round from a home -/
theorem on_way {n h s : Nat} (hh : h < n) (hs : s < n) : (h + dd n h s) % n = s := by
  rw [dd_val hh hs]
  split
  · rw [md_lt (by omega)]
    omega
  · rw [md_ge (by omega) (by omega)]
    omega
/-- an empty slot on the way, no key before it: the key is not there -/
theorem not_there {n : Nat} {H : Int32 → Nat} (hH : ∀ k, H k < n) {c : Ct} (hsup : Sup n c) (hrh : RH n H c) {k : Int32} {m i : Nat} (him : i < m) (hc : c ((H k + i) % n) = none) (hno : ∀ i, i < m → ∀ v, c ((H k + i) % n) ≠ some (k, v)) : ∀ s v, c s ≠ some (k, v) := by
  intro s v h
  have hsn : s < n := by
    rcases Nat.lt_or_ge s n with q | q
    · exact q
    · rw [hsup s q] at h
      cases h
  have hw := on_way (hH k) hsn
  have hd := dd_lt (n := n) (h := H k) (s := s) (by omega)
  rcases Nat.lt_or_ge (dd n (H k) s) m with q | q
  · exact hno _ q v (by rw [hw]; exact h)
  · obtain ⟨p, hp, hps, hcp⟩ := way_full (n := n) (hm := H) hH hrh (k := k) (v := v) (dd n (H k) s - i) s hsn k v h (by omega)
    have hb : (H k + i) % n < n := Nat.mod_lt _ (by omega)
    have h2 : ((H k + i) % n + (dd n (H k) s - i)) % n = s := by
      rw [Nat.mod_add_mod, show H k + i + (dd n (H k) s - i) = H k + dd n (H k) s by omega, hw]
    have : p = (H k + i) % n := by
      have e1 : (p + (dd n (H k) s - i)) % n = ((H k + i) % n + (dd n (H k) s - i)) % n := hps.trans h2.symm
      have hz0 : dd n (H k) s - i < n := by omega
      generalize (H k + i) % n = b at *
      generalize dd n (H k) s - i = z at *
      rcases Nat.lt_or_ge (p + z) n with q1 | q1 <;> rcases Nat.lt_or_ge (b + z) n with q2 | q2
      · rw [md_lt q1, md_lt q2] at e1
        omega
      · rw [md_lt q1, md_ge q2 (by omega)] at e1
        omega
      · rw [md_ge q1 (by omega), md_lt q2] at e1
        omega
      · rw [md_ge q1 (by omega), md_ge q2 (by omega)] at e1
        omega
    rw [this] at hcp
    exact hcp hc
theorem look_lp (hw : Way w) (hs : m_way σ = w) (hz : Sz n) (ht : t < 2) (htr : TR n (hsh w) c τ) (hmt : MT t n c σ) (hsup : Sup n c) (hrh : RH n (hm n (hsh w)) c) (wh : Nat) (sl : Int32) (G Q : Nat) (k : Int32) : ∀ d g f f' q, 8 * g + 8 * d = n → d < f → d < f' → (∀ i, i < 8 * g → ∀ v, c ((hm n (hsh w) k + i) % n) ≠ some (k, v)) → Q + q + 8 * d < 2 ^ 20 → ∃ (g' q' : Nat) (fd : Option Nat),
    ss_lookIn_lp6 wh τ f (none, sl, nI (G + g), nI (Q + q)) k (hsh w k) 0 (nI (8 * g)) = some (seF wh sl (nI (G + g')) (nI (Q + q')) fd) ∧
    mm_looks_lp39 σ f' (nI t) k (tg (hsh w k)) (nI (hm n (hsh w) k)) (nI g) (nI q) 0 = some (nI (1000 * g' + q')) ∧ q' ≤ q + 8 * d ∧ g' ≤ g + d ∧
    (∀ s, fd = some s → s < n ∧ ∃ v, c s = some (k, v)) ∧ (fd = none → ∀ s v, c s ≠ some (k, v)) := by
  have hle := hz.le
  have hh := hm_lt (n := n) (hf := hsh w) (by omega) k
  intro d
  induction d with
  | zero =>
    intro g f f' q hg hf hf' hno hq
    obtain ⟨f, rfl⟩ : ∃ f2, f = f2 + 1 := ⟨f - 1, by omega⟩
    obtain ⟨f', rfl⟩ : ∃ f2, f' = f2 + 1 := ⟨f' - 1, by omega⟩
    have hg8 : 8 * g = n := by omega
    refine ⟨g, q, none, ?_, ?_, Nat.le_refl _, Nat.le_refl _, fun s h => (by cases h), fun _ s v h => ?_⟩
    · show ss_lookIn_6 wh τ (ss_lookIn_lp6 wh τ f) (none, sl, nI (G + g), nI (Q + q)) k (hsh w k) 0 (nI (8 * g)) = _
      unfold ss_lookIn_6
      rw [htr.1, it_T (nI_le (by omega) (by omega))]
      rfl
    · show mm_looks_39 σ (mm_looks_lp39 σ f') (nI t) k (tg (hsh w k)) (nI (hm n (hsh w) k)) (nI g) (nI q) 0 = _
      unfold mm_looks_39 mm_looks_209
      rw [it_T (show (0 : Int32) = 0 from rfl), g2 ht, cl2 ht, hmt.1, show (8 : Int32) = nI 8 from rfl, pk_mul, it_T (nI_le (by omega) (by omega)), show (1000 : Int32) = nI 1000 from rfl, pk_mul, nI_add]
    · have hsn : s < n := by
        rcases Nat.lt_or_ge s n with q | q
        · exact q
        · rw [hsup s q] at h
          cases h
      have hd := dd_lt (n := n) (h := hm n (hsh w) k) (s := s) (by omega)
      exact hno (dd n (hm n (hsh w) k) s) (by omega) v (by rw [on_way hh hsn]; exact h)
  | succ d ih =>
    intro g f f' q hg hf hf' hno hq
    obtain ⟨f, rfl⟩ : ∃ f2, f = f2 + 1 := ⟨f - 1, by omega⟩
    obtain ⟨f', rfl⟩ : ∃ f2, f' = f2 + 1 := ⟨f' - 1, by omega⟩
    obtain ⟨q', e', fd, a1, a2, a3, a4, a5, a6, a7⟩ := look_grp (τ := τ) (c := c) hw hs hz ht htr hmt (mm_looks_lp39 σ f') wh sl (nI (G + (g + 1))) Q k (g := g) (by omega) 8 0 FU FU 0 q rfl (by decide) (by decide) (by omega) (by omega)
    have hC : ss_lookIn_lp6 wh τ (f + 1) (none, sl, nI (G + g), nI (Q + q)) k (hsh w k) 0 (nI (8 * g)) = bd2 (ss_lookAtGroup wh τ (none, sl, nI (G + (g + 1)), nI (Q + q)) (hsh w k + nI (8 * g)) k (tg (hsh w k))) (fun v4 s5 => if v4 = 0 then bd (ss_hasFound s5) (fun v7 => if v7 = 0 then ss_lookIn_63 wh τ (ss_lookIn_lp6 wh τ f) s5 k (hsh w k) (nI (8 * g)) 0 else ss_lookIn_63 wh τ (ss_lookIn_lp6 wh τ f) s5 k (hsh w k) (nI (8 * g)) 1) else ss_lookIn_63 wh τ (ss_lookIn_lp6 wh τ f) s5 k (hsh w k) (nI (8 * g)) 1) := by
      show ss_lookIn_6 wh τ (ss_lookIn_lp6 wh τ f) (none, sl, nI (G + g), nI (Q + q)) k (hsh w k) 0 (nI (8 * g)) = _
      unfold ss_lookIn_6
      rw [htr.1, it_F (nI_ge (by omega) (by omega)), it_T rfl, nm_eq]
      have : se_groups' (none, sl, nI (G + g), nI (Q + q)) (se_groups (none, sl, nI (G + g), nI (Q + q)) + 1) = (none, sl, nI (G + (g + 1)), nI (Q + q)) := by
        show (none, sl, nI (G + g) + 1, nI (Q + q)) = _
        rw [nI_1]
        rfl
      rw [this]
      rfl
    have hM : mm_looks_lp39 σ (f' + 1) (nI t) k (tg (hsh w k)) (nI (hm n (hsh w) k)) (nI g) (nI q) 0 = mm_looks_lp67 σ (mm_looks_lp39 σ f') FU (nI t) k (tg (hsh w k)) (nI (hm n (hsh w) k)) (nI g) (nI q) 0 (nI 0) (nI 0) := by
      show mm_looks_39 σ (mm_looks_lp39 σ f') (nI t) k (tg (hsh w k)) (nI (hm n (hsh w) k)) (nI g) (nI q) 0 = _
      unfold mm_looks_39
      rw [it_T (show (0 : Int32) = 0 from rfl), g2 ht, cl2 ht, hmt.1, show (8 : Int32) = nI 8 from rfl, pk_mul, it_F (nI_ge (by omega) (by omega))]
      rfl
    have hend : ∀ fd', ss_lookIn_63 wh τ (ss_lookIn_lp6 wh τ f) (seF wh sl (nI (G + (g + 1))) (nI (Q + q')) fd') k (hsh w k) (nI (8 * g)) 1 = some (seF wh sl (nI (G + (g + 1))) (nI (Q + q')) fd') := by
      intro fd'
      obtain ⟨f, rfl⟩ : ∃ f2, f = f2 + 1 := ⟨f - 1, by omega⟩
      unfold ss_lookIn_63
      rw [nm_eq]
      show ss_lookIn_6 wh τ (ss_lookIn_lp6 wh τ f) (seF wh sl (nI (G + (g + 1))) (nI (Q + q')) fd') k (hsh w k) 1 _ = _
      unfold ss_lookIn_6
      rw [it_F o10]
      split <;> rfl
    have hmend : mm_looks_lp39 σ f' (nI t) k (tg (hsh w k)) (nI (hm n (hsh w) k)) (nI (g + 1)) (nI q') 1 = some (nI (1000 * (g + 1) + q')) := by
      obtain ⟨f', rfl⟩ : ∃ f2, f' = f2 + 1 := ⟨f' - 1, by omega⟩
      show mm_looks_39 σ (mm_looks_lp39 σ f') (nI t) k (tg (hsh w k)) (nI (hm n (hsh w) k)) (nI (g + 1)) (nI q') 1 = _
      unfold mm_looks_39 mm_looks_209
      rw [it_F o10, show (1000 : Int32) = nI 1000 from rfl, pk_mul, nI_add]
    rw [hC, hM, a2, show ss_lookAtGroup wh τ (none, sl, nI (G + (g + 1)), nI (Q + q)) (hsh w k + nI (8 * g)) k (tg (hsh w k)) = some (nI e', seF wh sl (nI (G + (g + 1))) (nI (Q + q')) fd) from a1, bd2_some]
    cases fd with
    | some s =>
      refine ⟨g + 1, q', some s, ?_, ?_, by omega, by omega, a6, fun h => (by cases h)⟩
      · rw [hend (some s), show ss_hasFound (seF wh sl (nI (G + (g + 1))) (nI (Q + q')) (some s)) = some 1 from rfl, bd_some, it_F o10]
        split <;> rfl
      · rw [it_F (show ¬ (some s = none) from fun h => by cases h)]
        exact hmend
    | none =>
      obtain ⟨b1, b2⟩ := a7 rfl
      rw [it_T (show (none : Option Nat) = none from rfl)]
      have he : e' = 1 ∨ e' = 0 := by omega
      have hno2 : ∀ i, i < 8 * (g + 1) → ∀ v, c ((hm n (hsh w) k + i) % n) ≠ some (k, v) := by
        intro i hi
        by_cases q : i < 8 * g
        · exact hno i q
        · have := b1 (i - 8 * g) (by omega) (by omega)
          rw [show 8 * g + (i - 8 * g) = i by omega] at this
          exact this
      rcases he with rfl | rfl
      · refine ⟨g + 1, q', none, ?_, hmend, by omega, by omega, fun s h => (by cases h), fun _ => ?_⟩
        · rw [it_F (show ¬ nI 1 = 0 from o10)]
          exact hend none
        · rcases b2 rfl with h | ⟨i, h1, h2, h3⟩
          · omega
          · exact not_there (fun k => hm_lt (by omega) k) hsup hrh (m := 8 * (g + 1)) (i := 8 * g + i) (by omega) h3 hno2
      · obtain ⟨g', q2, fd, c1, c2, c3, c4, c5, c6⟩ := ih (g + 1) f f' q' (by omega) (by omega) (by omega) hno2 (by omega)
        refine ⟨g', q2, fd, ?_, c2, by omega, by omega, c5, c6⟩
        rw [it_T (show nI 0 = 0 from rfl), show ss_hasFound (seF wh sl (nI (G + (g + 1))) (nI (Q + q')) none) = some 0 from rfl, bd_some, it_T (show (0 : Int32) = 0 from rfl)]
        unfold ss_lookIn_63
        rw [nm_eq, show (8 : Int32) = nI 8 from rfl, nI_add, show 8 * g + 8 = 8 * (g + 1) by omega]
        exact c1
/-- one table: a size or nothing -/
theorem look_tab (hw : Way w) (hs : m_way σ = w) (hz : n = 0 ∨ Sz n) (ht : t < 2) (htr : TR n (hsh w) c τ) (hmt : MT t n c σ) (hsup : Sup n c) (hrh : RH n (hm n (hsh w)) c) (wh : Nat) (sl : Int32) {G Q : Nat} (hQ : Q < 2 ^ 16) (k : Int32) : ∃ (g q : Nat) (fd : Option Nat),
    ss_lookIn wh τ (none, sl, nI G, nI Q) k (hsh w k) = some (seF wh sl (nI (G + g)) (nI (Q + q)) fd) ∧ mm_looks σ (nI t) k = some (nI (1000 * g + q)) ∧ q ≤ 256 ∧ g ≤ 32 ∧
    (∀ s, fd = some s → s < n ∧ ∃ v, c s = some (k, v)) ∧ (fd = none → ∀ s v, c s ≠ some (k, v)) := by
  have hlk : mm_looks σ (nI t) k = if nI n = 0 then mm_looks_28 σ (nI t) k (tg (hsh w k)) 0 else bd (mm_home σ (nI t) k) (fun v5 => mm_looks_28 σ (nI t) k (tg (hsh w k)) v5) := by
    unfold mm_looks
    rw [m_hash hw hs, bd_some, nm_eq, g2 ht, cl2 ht, hmt.1]
    rfl
  rcases hz with rfl | hz
  · refine ⟨0, 0, none, ?_, ?_, by omega, by omega, fun s h => (by cases h), fun _ s v h => ?_⟩
    · show ss_lookIn_6 wh τ (ss_lookIn_lp6 wh τ 1023) (none, sl, nI G, nI Q) k (hsh w k) 0 (nI 0) = _
      unfold ss_lookIn_6
      rw [htr.1, it_T (nI_le (by omega) (by omega))]
      rfl
    · rw [hlk, it_T (show nI 0 = 0 from rfl)]
      unfold mm_looks_28
      show mm_looks_39 σ (mm_looks_lp39 σ 1023) (nI t) k (tg (hsh w k)) 0 0 0 0 = _
      unfold mm_looks_39
      rw [it_T (show (0 : Int32) = 0 from rfl), g2 ht, cl2 ht, hmt.1, it_T (by decide)]
      rfl
    · rw [hsup s (by omega)] at h
      cases h
  · have hle := hz.le
    obtain ⟨d, hd, hd2, hd3⟩ := sz8 hz
    obtain ⟨g, q, fd, a1, a2, a3, a4, a5, a6⟩ := look_lp hw hs hz ht htr hmt hsup hrh wh sl G Q k d 0 FU FU 0 (by omega) (by show d < 1024; omega) (by show d < 1024; omega) (fun i hi => by omega) (by omega)
    refine ⟨g, q, fd, a1, ?_, by omega, by omega, a5, a6⟩
    rw [hlk, it_F (nI_ne0 (by omega) (by omega)), m_home hw hs hz ht hmt.1, bd_some]
    exact a2
end LU
