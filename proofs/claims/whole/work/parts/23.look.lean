/-! a key is looked up in a table: the class's search against the reference's -/
theorem bn_add (x y : Int32) : bn (x + y) = (bn x + bn y) % 2 ^ 32 := by
  unfold bn
  rw [Int32.toBitVec_add, BitVec.toNat_add]
theorem bn_sh {n : Nat} (hz : Sz n) (x : Int32) {o j : Nat} (ho : o + j < 1024) : bn (x + nI o + nI j) % n = (bn x % n + (o + j)) % n := by
  rw [bn_add, bn_add, bn_nI (by omega), bn_nI (by omega)]
  rcases hz with rfl | rfl | rfl | rfl | rfl | rfl <;> omega
theorem nar_z : ∀ e : Nat, e ≤ 1 → vp_nar .boolean (nI e) = nI e := by
  intro e he
  have : e = 0 ∨ e = 1 := by omega
  rcases this with rfl | rfl
  · decide
  · decide
theorem gn_z {α : Type} {e : Nat} (he : e ≤ 1) (x : Option α) : gn .boolean (nI e) x = x := gn_of (nar_z e he)
theorem m128 : ¬ (-128 : Int32) = (0 : Int32) := by decide
theorem ctlv_N (hf : Int32 → Int32) : ctlv hf none = -128 := rfl
theorem ctlv_S (hf : Int32 → Int32) (a : Int32 × Int32) : ctlv hf (some a) = tg (hf a.1) := rfl
/-- how a found key stands in the search -/
def seF (wh : Nat) (sl G Q : Int32) (fd : Option Nat) : Se := match fd with
  | none => (none, sl, G, Q)
  | some s => (some wh, nI s, G, Q)
section LK
variable {n t : Nat} {w : Int32} {c : Ct} {σ : MS} {τ : Tb} {i : Nat}
theorem m_ctl (hw : Way w) (hs : m_way σ = w) (ht : t < 2) (hmt : MT t n c σ) (hi : i < 256) : mm_controlOf σ (nI t) (nI i) = some (ctlv (hsh w) (c i)) := by
  unfold mm_controlOf
  rw [ixe, g512 (by omega), cl512 (by omega)]
  cases hc : c i with
  | none =>
    rw [mk_none (hmt.2 i hi) hc, it_T rfl]
    rfl
  | some a =>
    have hk := mk_some (hmt.2 i hi) (k := a.1) (v := a.2) hc
    rw [hk.1, it_F o10, g512 (by omega), hk.2.1, m_hash hw hs, bd_some]
    show some (i2b (tg (hsh w a.1))) = _
    rw [i2b_tg]
    rfl
/-- after the key is found the reference goes on to the group's end and counts nothing -/
theorem look_rest (hw : Way w) (hs : m_way σ = w) (hz : Sz n) (ht : t < 2) (hmt : MT t n c σ) (K : Int32 → Int32 → Int32 → Int32 → Int32 → Int32 → Int32 → Option Int32) (k tag : Int32) {h g : Nat} (hh : h < 256) (hg : g < 64) (q : Int32) : ∀ d j f (e : Int32), j + d = 8 → d < f → (e = 0 ∨ e = 1) → mm_looks_lp67 σ K f (nI t) k tag (nI h) (nI g) q 1 e (nI j) = K (nI t) k tag (nI h) (nI (g + 1)) q 1 := by
  have hle := hz.le
  intro d
  induction d with
  | zero =>
    intro j f e hj hf he
    obtain ⟨f, rfl⟩ : ∃ f', f = f' + 1 := ⟨f - 1, by omega⟩
    have : j = 8 := by omega
    subst this
    show mm_looks_67 σ K (mm_looks_lp67 σ K f) (nI t) k tag (nI h) (nI g) q 1 e (nI 8) = _
    unfold mm_looks_67 mm_looks_204
    rw [it_T (show (8 : Int32) ≤ nI 8 by decide), nm_eq, it_F o10, nI_1]
  | succ d ih =>
    intro j f e hj hf he
    obtain ⟨f, rfl⟩ : ∃ f', f = f' + 1 := ⟨f - 1, by omega⟩
    show mm_looks_67 σ K (mm_looks_lp67 σ K f) (nI t) k tag (nI h) (nI g) q 1 e (nI j) = _
    have hsn : (h + (8 * g + j)) % n < n := Nat.mod_lt _ (by omega)
    have hix : (nI h + 8 * nI g + nI j) &&& (nI n - 1) = nI ((h + (8 * g + j)) % n) := by
      rw [show (8 : Int32) = nI 8 from rfl, pk_mul, nI_add, nI_add, mk_and _ hz, bn_nI (by omega)]
      congr 2
      omega
    have htail : ∀ e2 : Int32, (e2 = 0 ∨ e2 = 1) → mm_looks_122 σ K (mm_looks_lp67 σ K f) (nI t) k tag (nI h) (nI g) q 1 (nI j) (nI ((h + (8 * g + j)) % n)) (ctlv (hsh w) (c ((h + (8 * g + j)) % n))) e2 = K (nI t) k tag (nI h) (nI (g + 1)) q 1 := by
      intro e2 he2
      unfold mm_looks_122 mm_looks_142 mm_looks_178
      rw [it_F o10, nm_eq, it_F o10, nm_eq, nI_1]
      have := ih (j + 1) f e2 (by omega) (by omega) he2
      rw [← this]
      congr 1
      exact Int32.add_zero q
    unfold mm_looks_67
    rw [it_F (show ¬ (8 : Int32) ≤ nI j from nI_ge (b := 8) (by omega) (by omega)), g2 ht, cl2 ht, hmt.1, nm_eq, hix, m_ctl hw hs ht hmt (by omega), bd_some]
    split
    · split
      · exact htail 1 (Or.inr rfl)
      · exact htail 0 (Or.inl rfl)
    · exact htail 1 (Or.inr rfl)
theorem e01 {e : Nat} (he : e ≤ 1) : nI e = 0 ∨ nI e = 1 := by
  have : e = 0 ∨ e = 1 := by omega
  rcases this with rfl | rfl
  · exact Or.inl rfl
  · exact Or.inr rfl
/-- one group -/
theorem look_grp (hw : Way w) (hs : m_way σ = w) (hz : Sz n) (ht : t < 2) (htr : TR n (hsh w) c τ) (hmt : MT t n c σ) (K : Int32 → Int32 → Int32 → Int32 → Int32 → Int32 → Int32 → Option Int32) (wh : Nat) (sl G : Int32) (Q : Nat) (k : Int32) {g : Nat} (hg : g < 64) : ∀ d j f f' e q, j + d = 8 → d < f → d < f' → e ≤ 1 → Q + q + d < 2 ^ 20 → ∃ (q' e' : Nat) (fd : Option Nat),
    ss_lookAtGroup_lp6 wh τ f (none, sl, G, nI (Q + q)) (hsh w k + nI (8 * g)) k (tg (hsh w k)) (nI e) (nI j) = some (nI e', seF wh sl G (nI (Q + q')) fd) ∧
    mm_looks_lp67 σ K f' (nI t) k (tg (hsh w k)) (nI (hm n (hsh w) k)) (nI g) (nI q) 0 (nI e) (nI j) = K (nI t) k (tg (hsh w k)) (nI (hm n (hsh w) k)) (nI (g + 1)) (nI q') (if fd = none then nI e' else 1) ∧ q ≤ q' ∧ q' ≤ q + d ∧ e' ≤ 1 ∧
    (∀ s, fd = some s → s < n ∧ ∃ v, c s = some (k, v)) ∧ (fd = none → (∀ i, j ≤ i → i < 8 → ∀ v, c ((hm n (hsh w) k + (8 * g + i)) % n) ≠ some (k, v)) ∧ (e' = 1 → e = 1 ∨ ∃ i, j ≤ i ∧ i < 8 ∧ c ((hm n (hsh w) k + (8 * g + i)) % n) = none)) := by
  have hle := hz.le
  have hh := hm_lt (n := n) (hf := hsh w) (by omega) k
  intro d
  induction d with
  | zero =>
    intro j f f' e q hj hf hf' he hq
    obtain ⟨f, rfl⟩ : ∃ f2, f = f2 + 1 := ⟨f - 1, by omega⟩
    obtain ⟨f', rfl⟩ : ∃ f2, f' = f2 + 1 := ⟨f' - 1, by omega⟩
    have : j = 8 := by omega
    subst this
    refine ⟨q, e, none, ?_, ?_, Nat.le_refl _, Nat.le_refl _, he, fun s h => (by cases h), fun _ => ⟨fun i h1 h2 => by omega, fun h => Or.inl h⟩⟩
    · show ss_lookAtGroup_6 wh τ (ss_lookAtGroup_lp6 wh τ f) (none, sl, G, nI (Q + q)) (hsh w k + nI (8 * g)) k (tg (hsh w k)) (nI e) (nI 8) = _
      unfold ss_lookAtGroup_6
      rw [it_T (show (8 : Int32) ≤ nI 8 by decide), gn_z he]
      rfl
    · show mm_looks_67 σ K (mm_looks_lp67 σ K f') (nI t) k (tg (hsh w k)) (nI (hm n (hsh w) k)) (nI g) (nI q) 0 (nI e) (nI 8) = _
      unfold mm_looks_67 mm_looks_204
      rw [it_T (show (8 : Int32) ≤ nI 8 by decide), nm_eq, it_T rfl, nI_1, it_T (show (none : Option Nat) = none from rfl)]
      rcases e01 he with h | h
      · rw [h, it_T rfl]
      · rw [h, it_F o10]
  | succ d ih =>
    intro j f f' e q hj hf hf' he hq
    obtain ⟨f, rfl⟩ : ∃ f2, f = f2 + 1 := ⟨f - 1, by omega⟩
    obtain ⟨f', rfl⟩ : ∃ f2, f' = f2 + 1 := ⟨f' - 1, by omega⟩
    have hsn : (hm n (hsh w) k + (8 * g + j)) % n < n := Nat.mod_lt _ (by omega)
    have hix : (nI (hm n (hsh w) k) + 8 * nI g + nI j) &&& (nI n - 1) = nI ((hm n (hsh w) k + (8 * g + j)) % n) := by
      rw [show (8 : Int32) = nI 8 from rfl, pk_mul, nI_add, nI_add, mk_and _ hz, bn_nI (by omega)]
      congr 2
      omega
    have har : tt_around τ (hsh w k + nI (8 * g) + nI j) = some (nI ((hm n (hsh w) k + (8 * g + j)) % n)) := by
      rw [t_around hz htr.1, bn_sh hz _ (by omega)]
      rfl
    obtain ⟨S, hS⟩ : ∃ S, S = (hm n (hsh w) k + (8 * g + j)) % n := ⟨_, rfl⟩
    rw [← hS] at hsn hix har
    have hS256 : S < 256 := by omega
    -- the two heads
    obtain ⟨e2, he2, hC, hM, he2e⟩ : ∃ e2 : Nat, e2 ≤ 1 ∧ ss_lookAtGroup_lp6 wh τ (f + 1) (none, sl, G, nI (Q + q)) (hsh w k + nI (8 * g)) k (tg (hsh w k)) (nI e) (nI j) = ss_lookAtGroup_49 wh τ (ss_lookAtGroup_lp6 wh τ f) (none, sl, G, nI (Q + q)) (hsh w k + nI (8 * g)) k (tg (hsh w k)) (nI j) (nI S) (nI e2) ∧ mm_looks_lp67 σ K (f' + 1) (nI t) k (tg (hsh w k)) (nI (hm n (hsh w) k)) (nI g) (nI q) 0 (nI e) (nI j) = mm_looks_122 σ K (mm_looks_lp67 σ K f') (nI t) k (tg (hsh w k)) (nI (hm n (hsh w) k)) (nI g) (nI q) 0 (nI j) (nI S) (ctlv (hsh w) (c S)) (nI e2) ∧ (e2 = 1 → e = 1 ∨ c S = none) := by
      have h1 : ss_lookAtGroup_lp6 wh τ (f + 1) (none, sl, G, nI (Q + q)) (hsh w k + nI (8 * g)) k (tg (hsh w k)) (nI e) (nI j) = ss_lookAtGroup_6 wh τ (ss_lookAtGroup_lp6 wh τ f) (none, sl, G, nI (Q + q)) (hsh w k + nI (8 * g)) k (tg (hsh w k)) (nI e) (nI j) := rfl
      have h2 : mm_looks_lp67 σ K (f' + 1) (nI t) k (tg (hsh w k)) (nI (hm n (hsh w) k)) (nI g) (nI q) 0 (nI e) (nI j) = mm_looks_67 σ K (mm_looks_lp67 σ K f') (nI t) k (tg (hsh w k)) (nI (hm n (hsh w) k)) (nI g) (nI q) 0 (nI e) (nI j) := rfl
      have hge : ¬ (8 : Int32) ≤ nI j := nI_ge (b := 8) (by omega) (by omega)
      unfold ss_lookAtGroup_6 at h1
      unfold mm_looks_67 at h2
      rw [it_F hge, show ss_hasFound (none, sl, G, nI (Q + q)) = some 0 from rfl, bd_some, it_T rfl, har, bd_some] at h1
      rw [it_F hge, g2 ht, cl2 ht, hmt.1, nm_eq, hix, m_ctl hw hs ht hmt hS256, bd_some] at h2
      have hcase : e = 1 ∨ e = 0 := by omega
      rcases hcase with rfl | rfl
      · rw [it_F (show ¬ nI 1 = 0 from o10)] at h1 h2
        exact ⟨1, Nat.le_refl _, h1, h2, fun _ => Or.inl rfl⟩
      · rw [it_T (show nI 0 = 0 from rfl)] at h1 h2
        cases hc : c S with
        | none =>
          rw [hc, it_T (ctlv_N _)] at h2
          rw [t_emptyN hS256 (htr.2 S hsn) hc, bd_some, it_F o10] at h1
          exact ⟨1, Nat.le_refl _, h1, h2, fun _ => Or.inr rfl⟩
        | some a =>
          rw [hc, it_F (by rw [ctlv_S]; exact tg_ne _)] at h2
          rw [t_emptyS (k := a.1) (v := a.2) hS256 (htr.2 S hsn) hc, bd_some, it_T rfl] at h1
          exact ⟨0, by omega, h1, h2, fun h => by omega⟩
    rw [hC, hM]
    unfold ss_lookAtGroup_49 mm_looks_122
    rw [t_ctl hS256 (htr.2 S hsn), bd_some, it_T (show (0 : Int32) = 0 from rfl)]
    -- what comes after a slot that is not compared or not the key
    have go : ∀ q1, q ≤ q1 → q1 ≤ q + 1 → (∀ v, c S ≠ some (k, v)) → ∃ (q' e' : Nat) (fd : Option Nat), ss_lookAtGroup_lp6 wh τ f (none, sl, G, nI (Q + q1)) (hsh w k + nI (8 * g)) k (tg (hsh w k)) (nI e2) (nI (j + 1)) = some (nI e', seF wh sl G (nI (Q + q')) fd) ∧ mm_looks_lp67 σ K f' (nI t) k (tg (hsh w k)) (nI (hm n (hsh w) k)) (nI g) (nI q1) 0 (nI e2) (nI (j + 1)) = K (nI t) k (tg (hsh w k)) (nI (hm n (hsh w) k)) (nI (g + 1)) (nI q') (if fd = none then nI e' else 1) ∧ q ≤ q' ∧ q' ≤ q + (d + 1) ∧ e' ≤ 1 ∧
    (∀ s, fd = some s → s < n ∧ ∃ v, c s = some (k, v)) ∧ (fd = none → (∀ i, j ≤ i → i < 8 → ∀ v, c ((hm n (hsh w) k + (8 * g + i)) % n) ≠ some (k, v)) ∧ (e' = 1 → e = 1 ∨ ∃ i, j ≤ i ∧ i < 8 ∧ c ((hm n (hsh w) k + (8 * g + i)) % n) = none)) := by
      intro q1 hq1 hq2 hno
      obtain ⟨q', e', fd, a1, a2, a3, a4, a5, a6, a7⟩ := ih (j + 1) f f' e2 q1 (by omega) (by omega) (by omega) he2 (by omega)
      refine ⟨q', e', fd, a1, a2, by omega, by omega, a5, a6, fun hfd => ?_⟩
      obtain ⟨b1, b2⟩ := a7 hfd
      refine ⟨fun i h1 h2 => ?_, fun he1 => ?_⟩
      · by_cases q : i = j
        · subst q
          rw [← hS]
          exact hno
        · exact b1 i (by omega) h2
      · rcases b2 he1 with h | ⟨i, h1, h2, h3⟩
        · rcases he2e h with h | h
          · exact Or.inl h
          · exact Or.inr ⟨j, Nat.le_refl _, by omega, by rw [← hS]; exact h⟩
        · exact Or.inr ⟨i, by omega, h2, h3⟩
    by_cases htg : ctlv (hsh w) (c S) = tg (hsh w k)
    · cases hc : c S with
      | none =>
        rw [hc, ctlv_N] at htg
        exact absurd htg.symm (tg_ne _)
      | some a =>
        obtain ⟨k', v'⟩ := a
        rw [hc] at htg
        have hk := mk_some (hmt.2 S hS256) hc
        rw [it_T htg, it_T htg, nm_eq, t_key hS256 (htr.2 S hsn) hc, bd_some]
        unfold mm_looks_142
        rw [nm_eq (α := Int32) (β := Int32), it_T (show (0 : Int32) = 0 from rfl), it_T htg, ixe, g512 (by omega), cl512 (by omega), hk.2.1]
        by_cases hkk : k' = k
        · rw [it_T hkk, it_T hkk]
          subst hkk
          refine ⟨q + 1, e2, some S, ?_, ?_, by omega, by omega, he2, fun s h => (by cases h; exact ⟨hsn, v', hc⟩), fun h => (by cases h)⟩
          · unfold ss_lookAtGroup_93
            rw [nm_eq, nm_eq, nm_eq, nI_1]
            obtain ⟨f, rfl⟩ : ∃ f2, f = f2 + 1 := ⟨f - 1, by omega⟩
            show ss_lookAtGroup_6 wh τ (ss_lookAtGroup_lp6 wh τ f) (some wh, nI S, G, nI (Q + q) + 1) (hsh w k' + nI (8 * g)) k' (tg (hsh w k')) (nI e2) (nI (j + 1)) = _
            unfold ss_lookAtGroup_6
            rw [show ss_hasFound (some wh, nI S, G, nI (Q + q) + 1) = some 1 from rfl, bd_some, it_F o10, gn_z he2, nI_1]
            split <;> rfl
          · unfold mm_looks_178
            rw [nm_eq, nI_1, nI_1, look_rest hw hs hz ht hmt K k' _ (by omega) hg _ d (j + 1) f' (nI e2) (by omega) (by omega) (e01 he2), it_F (show ¬ (some S = none) from fun h => by cases h)]
        · rw [it_F hkk, it_F hkk]
          unfold ss_lookAtGroup_93 mm_looks_178
          rw [nm_eq, nm_eq, nI_1, nI_1]
          have hadd : se_comps' (none, sl, G, nI (Q + q)) (se_comps (none, sl, G, nI (Q + q)) + 1) = (none, sl, G, nI (Q + (q + 1))) := by
            show (none, sl, G, nI (Q + q) + 1) = _
            rw [nI_1]
            rfl
          rw [hadd]
          exact go (q + 1) (by omega) (Nat.le_refl _) (fun v h => by rw [hc] at h; cases h; exact hkk rfl)
    · rw [it_F htg, it_F htg]
      unfold mm_looks_142
      rw [nm_eq, it_T (show (0 : Int32) = 0 from rfl), it_F htg]
      unfold ss_lookAtGroup_93 mm_looks_178
      rw [nm_eq, nm_eq, nI_1, Int32.add_zero]
      exact go q (Nat.le_refl _) (by omega) (fun v h => by rw [h] at htg; exact htg rfl)
end LK
