/-! the class's table against the mathematical one -/
theorem bd_some {α β : Type} (a : α) (f : α → Option β) : bd (some a) f = f a := rfl
theorem bd2_some {α β γ : Type} (a : α) (b : β) (f : α → β → Option γ) : bd2 (some (a, b)) f = f a b := rfl
theorem nm_eq {α β : Type} (a : α) (f : α → Option β) : nm a f = f a := rfl
theorem it_T {α : Type} {c : Prop} {_ : Decidable c} {a b : α} (h : c) : (if c then a else b) = a := if_pos h
theorem it_F {α : Type} {c : Prop} {_ : Decidable c} {a b : α} (h : ¬ c) : (if c then a else b) = b := if_neg h
def Sz (n : Nat) : Prop := n = 8 ∨ n = 16 ∨ n = 32 ∨ n = 64 ∨ n = 128 ∨ n = 256
theorem Sz.le {n : Nat} (h : Sz n) : 8 ≤ n ∧ n ≤ 256 := by
  rcases h with rfl | rfl | rfl | rfl | rfl | rfl <;> omega
def bn (x : Int32) : Nat := x.toBitVec.toNat
theorem bn_lt (x : Int32) : bn x < 2 ^ 32 := x.toBitVec.isLt
theorem bn_nI {n : Nat} (h : n < 2 ^ 32) : bn (nI n) = n := pk_tn h
theorem bn_inj {x y : Int32} (h : bn x = bn y) : x = y := Int32.toBitVec_inj.mp (BitVec.eq_of_toNat_eq h)
theorem nI_bn (x : Int32) : nI (bn x) = x := bn_inj (bn_nI (bn_lt x))
theorem bn_sub (x y : Int32) : bn (x - y) = (2 ^ 32 - bn y + bn x) % 2 ^ 32 := by
  unfold bn
  rw [Int32.toBitVec_sub, BitVec.toNat_sub]
theorem mk_and (x : Int32) {n : Nat} (h : Sz n) : x &&& (nI n - 1) = nI (bn x % n) := by
  rcases h with rfl | rfl | rfl | rfl | rfl | rfl
  · exact pk_and x 3 (by decide)
  · exact pk_and x 4 (by decide)
  · exact pk_and x 5 (by decide)
  · exact pk_and x 6 (by decide)
  · exact pk_and x 7 (by decide)
  · exact pk_and x 8 (by decide)
theorem dist_eq {n s : Nat} (h : Sz n) (hs : s < n) (x : Int32) : bn (nI s - x) % n = dd n (bn x % n) s := by
  have h1 := bn_lt x
  have h2 := h.le
  rw [bn_sub, bn_nI (by omega)]
  unfold dd
  rcases h with rfl | rfl | rfl | rfl | rfl | rfl <;> omega
theorem nI_m1 {n : Nat} (h : n < 2 ^ 31) : ¬ nI n = -1 := by
  intro q
  have := nI_toInt h
  rw [q] at this
  have e : (-1 : Int32).toInt = -1 := by decide
  omega
theorem m1_nI {n : Nat} (h : n < 2 ^ 31) : (-1 : Int32) ≤ nI n := by
  rw [Int32.le_iff_toInt_le, nI_toInt h]
  have e : (-1 : Int32).toInt = -1 := by decide
  omega
def tg (x : Int32) : Int32 := ushr x 25
theorem tg_nI (x : Int32) : tg x = nI (bn x / 2 ^ 25) := by
  have h := pk_ushrN (n := bn x) (bn_lt x) 25 25 (by decide)
  rw [nI_bn] at h
  exact h
theorem tg_lt (x : Int32) : bn x / 2 ^ 25 < 128 := by
  have := bn_lt x
  omega
theorem b128 : ∀ j, j < 128 → (nI j).toInt8.toInt32 = nI j := by decide +kernel
theorem i2b_tg (x : Int32) : i2b (tg x) = tg x := by
  rw [tg_nI]
  exact b128 _ (tg_lt x)
theorem tg_ne (x : Int32) : ¬ tg x = -128 := by
  intro q
  rw [tg_nI] at q
  have h := nI_toInt (n := bn x / 2 ^ 25) (by have := tg_lt x; omega)
  rw [q] at h
  have e : (-128 : Int32).toInt = -128 := by decide
  omega
theorem tg_nar (x : Int32) : vp_nar .byte (i2b (tg x)) = tg x := by
  show vp_nar .byte (tg x).toInt8.toInt32 = tg x
  rw [pk_vb]
  exact i2b_tg x
def hm (n : Nat) (hf : Int32 → Int32) (k : Int32) : Nat := bn (hf k) % n
theorem hm_lt {n : Nat} {hf : Int32 → Int32} (h : 0 < n) (k : Int32) : hm n hf k < n := Nat.mod_lt _ h
def TRs (hf : Int32 → Int32) (c : Ct) (τ : Tb) (i : Nat) : Prop := (c i = none ∧ tb_ctl τ i = -128) ∨ ∃ k v, c i = some (k, v) ∧ tb_ctl τ i = tg (hf k) ∧ tb_hs τ i = hf k ∧ tb_ks τ i = k ∧ tb_vs τ i = v
def TR (n : Nat) (hf : Int32 → Int32) (c : Ct) (τ : Tb) : Prop := tb_sl τ = nI n ∧ ∀ i, i < n → TRs hf c τ i
def TRx (n : Nat) (hf : Int32 → Int32) (c : Ct) (e : Nat) (τ : Tb) : Prop := tb_sl τ = nI n ∧ ∀ i, i < n → i ≠ e → TRs hf c τ i
theorem TR.x {n : Nat} {hf : Int32 → Int32} {c : Ct} {τ : Tb} (h : TR n hf c τ) (e : Nat) : TRx n hf c e τ := ⟨h.1, fun i hi _ => h.2 i hi⟩
section TB
variable {n : Nat} {hf : Int32 → Int32} {c : Ct} {τ : Tb} {i : Nat}
theorem tk_none (h : TRs hf c τ i) (hc : c i = none) : tb_ctl τ i = -128 := by
  rcases h with h | ⟨k, v, h, -⟩
  · exact h.2
  · rw [hc] at h
    cases h
theorem tk_some {k v : Int32} (h : TRs hf c τ i) (hc : c i = some (k, v)) : tb_ctl τ i = tg (hf k) ∧ tb_hs τ i = hf k ∧ tb_ks τ i = k ∧ tb_vs τ i = v := by
  rcases h with h | ⟨k', v', h, h2⟩
  · rw [hc] at h
    cases h.1
  · rw [hc] at h
    cases h
    exact h2
theorem g256 {α : Type} {x : Option α} (hi : i < 256) : gd (nI i) 256 x = x := gd_of (vp_in_nI hi (by omega))
theorem cl256 (hi : i < 256) : (nI i).toNatClampNeg = i := nI_clamp (by omega)
theorem t_around (hz : Sz n) (hs : tb_sl τ = nI n) (x : Int32) : tt_around τ x = some (nI (bn x % n)) := by
  unfold tt_around
  have := hz.le
  rw [hs, it_F (nI_nle (by omega) (by omega)), mk_and x hz]
theorem t_around1 (hz : Sz n) (hs : tb_sl τ = nI n) (hi : i < n) : tt_around τ (nI i + 1) = some (nI (nx n i)) := by
  have := hz.le
  rw [t_around hz hs, nI_1, bn_nI (by omega)]
  rfl
theorem t_emptyN (hi : i < 256) (h : TRs hf c τ i) (hc : c i = none) : tt_isEmptyIn τ (nI i) = some 1 := by
  unfold tt_isEmptyIn
  rw [g256 hi, cl256 hi, tk_none h hc]
  rfl
theorem t_emptyS {k v : Int32} (hi : i < 256) (h : TRs hf c τ i) (hc : c i = some (k, v)) : tt_isEmptyIn τ (nI i) = some 0 := by
  unfold tt_isEmptyIn
  rw [g256 hi, cl256 hi, (tk_some h hc).1, it_F (tg_ne _)]
theorem t_distN (hi : i < 256) (h : TRs hf c τ i) (hc : c i = none) : tt_distanceIn τ (nI i) = some (-1) := by
  unfold tt_distanceIn
  rw [t_emptyN hi h hc, bd_some, it_F (by decide)]
theorem t_distS {k v : Int32} (hz : Sz n) (hs : tb_sl τ = nI n) (hi : i < n) (h : TRs hf c τ i) (hc : c i = some (k, v)) : tt_distanceIn τ (nI i) = some (nI (dd n (hm n hf k) i)) := by
  have := hz.le
  unfold tt_distanceIn
  rw [t_emptyS (by omega) h hc, bd_some, it_T rfl, g256 (by omega), cl256 (by omega), (tk_some h hc).2.1, t_around hz hs, bd_some, dist_eq hz hi]
  rfl
theorem t_key {k v : Int32} (hi : i < 256) (h : TRs hf c τ i) (hc : c i = some (k, v)) : tt_keyIn τ (nI i) = some k := by
  unfold tt_keyIn
  rw [g256 hi, cl256 hi, (tk_some h hc).2.2.1]
theorem t_value {k v : Int32} (hi : i < 256) (h : TRs hf c τ i) (hc : c i = some (k, v)) : tt_valueIn τ (nI i) = some v := by
  unfold tt_valueIn
  rw [g256 hi, cl256 hi, (tk_some h hc).2.2.2]
theorem t_hash {k v : Int32} (hi : i < 256) (h : TRs hf c τ i) (hc : c i = some (k, v)) : tt_hashIn τ (nI i) = some (hf k) := by
  unfold tt_hashIn
  rw [g256 hi, cl256 hi, (tk_some h hc).2.1]
/-- the tag as control() shows it -/
def ctlv (hf : Int32 → Int32) (x : Option (Int32 × Int32)) : Int32 := match x with
  | none => -128
  | some a => tg (hf a.1)
theorem ctl_at (h : TRs hf c τ i) : tb_ctl τ i = ctlv hf (c i) := by
  rcases h with ⟨h1, h2⟩ | ⟨k, v, h1, h2, -⟩
  · rw [h1, h2]
    rfl
  · rw [h1, h2]
    rfl
theorem ctlv_nar (x : Option (Int32 × Int32)) : vp_nar .byte (ctlv hf x) = ctlv hf x := by
  cases x with
  | none =>
    show vp_nar .byte (-128) = -128
    decide
  | some a =>
    show vp_nar .byte (tg (hf a.1)) = tg (hf a.1)
    have h := tg_nar (hf a.1)
    rw [i2b_tg] at h
    exact h
theorem t_ctl (hi : i < 256) (h : TRs hf c τ i) : tt_controlIn τ (nI i) = some (ctlv hf (c i)) := by
  unfold tt_controlIn
  rw [g256 hi, cl256 hi, ctl_at h, gn_of (ctlv_nar _)]
theorem t_fill (hn : n ≤ 256) (hi : i < n) (h : TRx n hf c i τ) (k v : Int32) : ∃ τ', tt_fill τ (nI i) k v (hf k) = some τ' ∧ TR n hf (upc c i (some (k, v))) τ' ∧ tb_ct τ' = tb_ct τ := by
  have hi2 : i < 256 := by omega
  refine ⟨tb_vs' (tb_ks' (tb_hs' (tb_ctl' τ (upd (tb_ctl τ) i (tg (hf k)))) (upd (tb_hs τ) i (hf k))) (upd (tb_ks τ) i k)) (upd (tb_vs τ) i v), ?_, ⟨h.1, fun j hj => ?_⟩, rfl⟩
  · unfold tt_fill
    simp only [g256 hi2, cl256 hi2, nm_eq]
    rw [show vp_nar .byte (i2b (ushr (hf k) 25)) = tg (hf k) from tg_nar _]
    rfl
  · by_cases q : j = i
    · subst q
      refine Or.inr ⟨k, v, upc_s _ _ _, ?_, ?_, ?_, ?_⟩
      · show upd (tb_ctl τ) j (tg (hf k)) j = _
        exact if_pos rfl
      · show upd (tb_hs τ) j (hf k) j = _
        exact if_pos rfl
      · show upd (tb_ks τ) j k j = _
        exact if_pos rfl
      · show upd (tb_vs τ) j v j = _
        exact if_pos rfl
    · have h2 := h.2 j hj q
      unfold TRs at h2 ⊢
      rw [upc_n q]
      have e1 : ∀ (f : Nat → Int32) (x : Int32), upd f i x j = f j := fun f x => if_neg q
      show (c j = none ∧ upd (tb_ctl τ) i (tg (hf k)) j = -128) ∨ ∃ k1 v1, c j = some (k1, v1) ∧ upd (tb_ctl τ) i (tg (hf k)) j = tg (hf k1) ∧ upd (tb_hs τ) i (hf k) j = hf k1 ∧ upd (tb_ks τ) i k j = k1 ∧ upd (tb_vs τ) i v j = v1
      rw [e1, e1, e1, e1]
      exact h2
theorem t_carry_lp (hz : Sz n) : ∀ (g f : Nat) (τ : Tb) (c : Ct) (s far : Nat) (k v : Int32) (step : Nat), g < f → TR n hf c τ → s < n → Gap n c s g → step + g < n → far + g < 2 ^ 20 → ∃ τ', tt_carryIn_lp23 f τ k v (hf k) (nI far) (nI s) (nI step) = some τ' ∧ TR n hf (carry n (hm n hf) g c s far k v) τ' ∧ tb_ct τ' = tb_ct τ + 1 := by
  have hle := hz.le
  intro g
  induction g with
  | zero =>
    intro f τ c s far k v step hgf ht hs hg hst hfar
    obtain ⟨f, rfl⟩ : ∃ f', f = f' + 1 := ⟨f - 1, by omega⟩
    have hc := gap_0 hs hg
    obtain ⟨τ', e1, e2, e3⟩ := t_fill (τ := τ) (c := c) (by omega) hs (ht.x s) k v
    refine ⟨tb_ct' τ' (tb_ct τ' + 1), ?_, ?_, ?_⟩
    · show tt_carryIn_23 (tt_carryIn_lp23 f) τ k v (hf k) (nI far) (nI s) (nI step) = _
      unfold tt_carryIn_23
      rw [ht.1, it_F (nI_ge (by omega) (by omega)), t_distN (by omega) (ht.2 s hs) hc, bd_some, it_T rfl, e1, bd_some, nm_eq]
    · exact e2
    · show tb_ct τ' + 1 = _
      rw [e3]
  | succ g ih =>
    intro f τ c s far k v step hgf ht hs hg hst hfar
    obtain ⟨f, rfl⟩ : ∃ f', f = f' + 1 := ⟨f - 1, by omega⟩
    have hcs := gap_s hs hg
    cases hc : c s with
    | none => exact absurd hc hcs
    | some a =>
      obtain ⟨k', v'⟩ := a
      have hns := nx_lt hs
      have hd : dd n (hm n hf k') s < n := dd_lt (by omega)
      have hk := tk_some (ht.2 s hs) hc
      have hun : tt_carryIn_lp23 (f + 1) τ k v (hf k) (nI far) (nI s) (nI step) = tt_carryIn_23 (tt_carryIn_lp23 f) τ k v (hf k) (nI far) (nI s) (nI step) := rfl
      by_cases q : dd n (hm n hf k') s < far
      · have e : carry n (hm n hf) (g + 1) c s far k v = carry n (hm n hf) g (upc c s (some (k, v))) (nx n s) (dd n (hm n hf k') s + 1) k' v' := by
          show (match c s with
            | none => upc c s (some (k, v))
            | some a => if dd n (hm n hf a.1) s < far then carry n (hm n hf) g (upc c s (some (k, v))) (nx n s) (dd n (hm n hf a.1) s + 1) a.1 a.2 else carry n (hm n hf) g c (nx n s) (far + 1) k v) = _
          rw [hc]
          exact if_pos q
        rw [e]
        obtain ⟨τ1, e1, e2, e3⟩ := t_fill (τ := τ) (c := c) (by omega) hs (ht.x s) k v
        obtain ⟨τ', i1, i2, i3⟩ := ih f τ1 (upc c s (some (k, v))) (nx n s) (dd n (hm n hf k') s + 1) k' v' (step + 1) (by omega) e2 hns (gap_n hs hg) (by omega) (by omega)
        refine ⟨τ', ?_, i2, by rw [i3, e3]⟩
        rw [hun]
        unfold tt_carryIn_23 tt_carryIn_131
        rw [ht.1, it_F (nI_ge (by omega) (by omega)), t_distS hz ht.1 hs (ht.2 s hs) hc, bd_some, it_F (nI_m1 (by omega)), it_F (nI_ge q (by omega))]
        simp only [g256 (show s < 256 by omega), cl256 (show s < 256 by omega), nm_eq, hk.2.1, hk.2.2.1, hk.2.2.2]
        rw [e1, bd_some, t_around1 hz e2.1 hs, bd_some, nI_1, nI_1]
        exact i1
      · have e : carry n (hm n hf) (g + 1) c s far k v = carry n (hm n hf) g c (nx n s) (far + 1) k v := by
          show (match c s with
            | none => upc c s (some (k, v))
            | some a => if dd n (hm n hf a.1) s < far then carry n (hm n hf) g (upc c s (some (k, v))) (nx n s) (dd n (hm n hf a.1) s + 1) a.1 a.2 else carry n (hm n hf) g c (nx n s) (far + 1) k v) = _
          rw [hc]
          exact if_neg q
        rw [e]
        obtain ⟨τ', i1, i2, i3⟩ := ih f τ c (nx n s) (far + 1) k v (step + 1) (by omega) ht hns (gap_n' hg) (by omega) (by omega)
        refine ⟨τ', ?_, i2, i3⟩
        rw [hun]
        unfold tt_carryIn_23 tt_carryIn_131
        rw [ht.1, it_F (nI_ge (by omega) (by omega)), t_distS hz ht.1 hs (ht.2 s hs) hc, bd_some, it_F (nI_m1 (by omega)), it_T (nI_le (by omega) (by omega)), t_around1 hz ht.1 hs, bd_some, nm_eq, nm_eq, nI_1, nI_1]
        exact i1
theorem t_carry (hz : Sz n) {g : Nat} (ht : TR n hf c τ) (k v : Int32) (hg : Gap n c (hm n hf k) g) : ∃ τ', tt_carryIn τ k v (hf k) = some τ' ∧ TR n hf (carry n (hm n hf) g c (hm n hf k) 0 k v) τ' ∧ tb_ct τ' = tb_ct τ + 1 := by
  have hle := hz.le
  have hgn := hg.2.2
  obtain ⟨τ', e1, e2, e3⟩ := t_carry_lp hz g FU τ c (hm n hf k) 0 k v 0 (by show g < 1024; omega) ht (hm_lt (by omega) k) hg (by omega) (by omega)
  refine ⟨τ', ?_, e2, e3⟩
  unfold tt_carryIn
  rw [t_around hz ht.1, bd_some]
  exact e1
theorem t_take_lp (hz : Sz n) : ∀ (g f : Nat) (τ : Tb) (c : Ct) (e step : Nat), g < f → TRx n hf c e τ → c e = none → e < n → Run n (hm n hf) c e g → step + g < n → ∃ τ', tt_takeOut_lp13 f τ (nI e) (nI (nx n e)) (nI step) = some τ' ∧ TR n hf (hole n g c e) τ' ∧ tb_ct τ' = tb_ct τ - 1 := by
  have hle := hz.le
  have hend : ∀ (τ : Tb) (c : Ct) (e : Nat), TRx n hf c e τ → c e = none → e < n → ∃ τ', tt_takeOut_69 τ (nI e) = some τ' ∧ TR n hf c τ' ∧ tb_ct τ' = tb_ct τ - 1 := by
    intro τ c e ht hc he
    refine ⟨tb_ct' (tb_ctl' τ (upd (tb_ctl τ) e (-128))) (tb_ct τ - 1), ?_, ⟨ht.1, fun j hj => ?_⟩, rfl⟩
    · unfold tt_takeOut_69
      simp only [g256 (show e < 256 by omega), cl256 (show e < 256 by omega), nm_eq]
      rfl
    · by_cases q : j = e
      · subst q
        exact Or.inl ⟨hc, if_pos rfl⟩
      · have h2 := ht.2 j hj q
        unfold TRs at h2 ⊢
        have e1 : upd (tb_ctl τ) e (-128) j = tb_ctl τ j := if_neg q
        show (c j = none ∧ upd (tb_ctl τ) e (-128) j = -128) ∨ ∃ k1 v1, c j = some (k1, v1) ∧ upd (tb_ctl τ) e (-128) j = tg (hf k1) ∧ tb_hs τ j = hf k1 ∧ tb_ks τ j = k1 ∧ tb_vs τ j = v1
        rw [e1]
        exact h2
  intro g
  induction g with
  | zero =>
    intro f τ c e step hgf ht hc he hr hst
    obtain ⟨f, rfl⟩ : ∃ f', f = f' + 1 := ⟨f - 1, by omega⟩
    have hne := nx_lt he
    have hnn := nx_ne (n := n) (by omega) he
    obtain ⟨τ', e1, e2, e3⟩ := hend τ c e ht hc he
    refine ⟨τ', ?_, e2, e3⟩
    show tt_takeOut_13 (tt_takeOut_lp13 f) τ (nI e) (nI (nx n e)) (nI step) = _
    unfold tt_takeOut_13
    rw [ht.1, it_F (nI_ge (by omega) (by omega))]
    rcases run_0 hr with h | ⟨k1, v1, h, hz0⟩
    · rw [t_distN (by omega) (ht.2 _ hne hnn) h, bd_some, it_T (by decide)]
      exact e1
    · rw [t_distS hz ht.1 hne (ht.2 _ hne hnn) h, bd_some, hz0, it_T (by decide)]
      exact e1
  | succ g ih =>
    intro f τ c e step hgf ht hc he hr hst
    obtain ⟨f, rfl⟩ : ∃ f', f = f' + 1 := ⟨f - 1, by omega⟩
    have hne := nx_lt he
    have hnn := nx_ne (n := n) (by omega) he
    have hns := run_s hr
    cases hb : c (nx n e) with
    | none => exact absurd (Or.inl hb) hns
    | some a =>
      obtain ⟨k, v⟩ := a
      have hp : 0 < dd n (hm n hf k) (nx n e) := by
        rcases Nat.eq_zero_or_pos (dd n (hm n hf k) (nx n e)) with q | q
        · exact absurd (Or.inr ⟨k, v, hb, q⟩) hns
        · exact q
      have hd : dd n (hm n hf k) (nx n e) < n := dd_lt (by omega)
      have hk := tk_some (ht.2 _ hne hnn) hb
      obtain ⟨τ1, e1, e2, e3⟩ := t_fill (τ := τ) (c := c) (by omega) he ht k v
      obtain ⟨τ', i1, i2, i3⟩ := ih f τ1 (upc (upc c e (c (nx n e))) (nx n e) none) (nx n e) (step + 1) (by omega) ⟨e2.1, fun j hj hj2 => by
        have := e2.2 j hj
        unfold TRs at this ⊢
        rw [upc_n hj2, hb]
        exact this⟩ (upc_s _ _ _) hne (run_n he hr) (by omega)
      refine ⟨τ', ?_, i2, by rw [i3, e3]⟩
      show tt_takeOut_13 (tt_takeOut_lp13 f) τ (nI e) (nI (nx n e)) (nI step) = _
      unfold tt_takeOut_13
      rw [ht.1, it_F (nI_ge (by omega) (by omega)), t_distS hz ht.1 hne (ht.2 _ hne hnn) hb, bd_some, it_F (nI_nle hp (by omega))]
      simp only [g256 (show nx n e < 256 by omega), cl256 (show nx n e < 256 by omega), hk.2.1, hk.2.2.1, hk.2.2.2]
      rw [e1, bd_some, t_around1 hz e2.1 hne, bd_some, nm_eq, nI_1]
      exact i1
theorem t_take (hz : Sz n) {g s : Nat} (ht : TR n hf c τ) (hs : s < n) (hr : Run n (hm n hf) (upc c s none) s g) : ∃ τ', tt_takeOut τ (nI s) = some τ' ∧ TR n hf (hole n g (upc c s none) s) τ' ∧ tb_ct τ' = tb_ct τ - 1 := by
  have hle := hz.le
  have hgn := hr.2.2
  obtain ⟨τ', e1, e2, e3⟩ := t_take_lp hz g FU τ (upc c s none) s 1 (by show g < 1024; omega) ⟨ht.1, fun j hj hj2 => by
    have := ht.2 j hj
    unfold TRs at this ⊢
    rw [upc_n hj2]
    exact this⟩ (upc_s _ _ _) hs hr (by omega)
  refine ⟨τ', ?_, e2, e3⟩
  unfold tt_takeOut
  rw [t_around1 hz ht.1 hs, bd_some]
  exact e1
/-- the lowest slot with a key -/
theorem t_low_lp (hn : n ≤ 256) (ht : TR n hf c τ) {s : Nat} (hs : s < n) (hc : c s ≠ none) (hmin : ∀ j, j < s → c j = none) : ∀ (d f i : Nat), i + d = s → d < f → tt_lowestSlotWithKey_lp2 τ f (nI i) = some (nI s) := by
  intro d
  induction d with
  | zero =>
    intro f i hi hf
    obtain ⟨f, rfl⟩ : ∃ f', f = f' + 1 := ⟨f - 1, by omega⟩
    have : i = s := by omega
    subst this
    show tt_lowestSlotWithKey_2 τ (tt_lowestSlotWithKey_lp2 τ f) (nI i) = _
    unfold tt_lowestSlotWithKey_2
    rw [ht.1, it_F (nI_ge hs (by omega))]
    cases h : c i with
    | none => exact absurd h hc
    | some a =>
      rw [t_emptyS (by omega) (ht.2 i hs) (k := a.1) (v := a.2) h, bd_some, it_T rfl]
  | succ d ih =>
    intro f i hi hf
    obtain ⟨f, rfl⟩ : ∃ f', f = f' + 1 := ⟨f - 1, by omega⟩
    show tt_lowestSlotWithKey_2 τ (tt_lowestSlotWithKey_lp2 τ f) (nI i) = _
    unfold tt_lowestSlotWithKey_2
    rw [ht.1, it_F (nI_ge (by omega) (by omega)), t_emptyN (by omega) (ht.2 i (by omega)) (hmin i (by omega)), bd_some, it_F (by decide), nm_eq, nI_1]
    exact ih f (i + 1) (by omega) (by omega)
theorem t_low (hn : n ≤ 256) (ht : TR n hf c τ) {s : Nat} (hs : s < n) (hc : c s ≠ none) (hmin : ∀ j, j < s → c j = none) : tt_lowestSlotWithKey τ = some (nI s) :=
  t_low_lp hn ht hs hc hmin s FU 0 (by omega) (by show s < 1024; omega)
theorem t_emptyWith_lp : ∀ (d f : Nat) (τ : Tb) (i : Nat), i + d = n → n ≤ 256 → d < f → tb_sl τ = nI n → (∀ j, j < i → tb_ctl τ j = -128) → ∃ τ', tt_emptyWith_lp18 f τ (nI i) = some τ' ∧ TR n hf (fun _ => none) τ' ∧ tb_ct τ' = tb_ct τ := by
  intro d
  induction d with
  | zero =>
    intro f τ i hi hn hf hs hj
    obtain ⟨f, rfl⟩ : ∃ f', f = f' + 1 := ⟨f - 1, by omega⟩
    refine ⟨τ, ?_, ⟨hs, fun j hj2 => Or.inl ⟨rfl, hj j (by omega)⟩⟩, rfl⟩
    show tt_emptyWith_18 (tt_emptyWith_lp18 f) τ (nI i) = _
    unfold tt_emptyWith_18
    rw [hs, it_T (nI_le (by omega) (by omega))]
  | succ d ih =>
    intro f τ i hi hn hf hs hj
    obtain ⟨f, rfl⟩ : ∃ f', f = f' + 1 := ⟨f - 1, by omega⟩
    obtain ⟨τ', e1, e2, e3⟩ := ih f (tb_ctl' τ (upd (tb_ctl τ) i (-128))) (i + 1) (by omega) hn (by omega) hs (fun j hj2 => by
      show upd (tb_ctl τ) i (-128) j = -128
      by_cases q : j = i
      · exact if_pos q
      · exact (if_neg q).trans (hj j (by omega)))
    refine ⟨τ', ?_, e2, e3⟩
    show tt_emptyWith_18 (tt_emptyWith_lp18 f) τ (nI i) = _
    unfold tt_emptyWith_18
    rw [hs, it_F (nI_ge (by omega) (by omega)), g256 (by omega), cl256 (by omega), nm_eq, nm_eq, nI_1]
    exact e1
theorem t_emptyWith (hn : n ≤ 256) (τ : Tb) : ∃ τ', tt_emptyWith τ (nI n) = some τ' ∧ TR n hf (fun _ => none) τ' ∧ tb_ct τ' = 0 := by
  obtain ⟨τ', e1, e2, e3⟩ := t_emptyWith_lp (n := n) (hf := hf) n FU (tb_ct' (tb_sl' τ (nI n)) 0) 0 (by omega) hn (by show n < 1024; omega) rfl (fun j hj => by omega)
  refine ⟨τ', ?_, e2, e3⟩
  unfold tt_emptyWith
  rw [it_F (show ¬ (256 : Int32) < nI n from nI_nlt (b := n) (a := 256) hn (by omega)), nm_eq, nm_eq]
  exact e1
end TB
/-! ways to hash; a table of the class with all that holds of it -/
def hsh (w k : Int32) : Int32 := if w = 0 then k else (k * (-1640531535)) ^^^ ushr (k * (-1640531535)) 15
def Way (w : Int32) : Prop := w = 0 ∨ w = 1
theorem o10 : ¬ (1 : Int32) = 0 := by decide
theorem up_s (f : Nat → Int32) (i : Nat) (x : Int32) : upd f i x i = x := if_pos rfl
theorem up_n {f : Nat → Int32} {i j : Nat} {x : Int32} (h : j ≠ i) : upd f i x j = f j := if_neg h
theorem hash_eq {w : Int32} {x : RR} (hw : Way w) (hx : rr_way x = w) (k : Int32) : rr_hash x k = some (hsh w k) := by
  unfold rr_hash hsh
  rcases hw with rfl | rfl
  · rw [hx, it_T rfl, it_T rfl]
  · rw [hx, it_F o10, nm_eq, it_F o10]
def Tbl (n : Nat) (w : Int32) (c : Ct) (τ : Tb) : Prop := TR n (hsh w) c τ ∧ tb_ct τ = nI (cnt n c) ∧ Sup n c ∧ Dj c ∧ RH n (hm n (hsh w)) c
def No (c : Ct) (k : Int32) : Prop := ∀ s v, c s ≠ some (k, v)
def Cap (nP nO : Nat) (cP cO : Ct) : Prop := 8 * (cnt nP cP + cnt nO cO) ≤ 7 * nP ∧ cnt nP cP + cnt nO cO ≤ 200 ∧ (nO = 0 ∨ (Sz nO ∧ nP = 2 * nO ∧ 0 < cnt nO cO ∧ 8 * cnt nO cO ≤ 7 * nO ∧ 32 * (cnt nP cP + cnt nO cO) + 8 * cnt nO cO ≤ 35 * nO + 32))
def CI (w : Int32) (nP nO : Nat) (cP cO : Ct) (x : RR) : Prop := Way w ∧ rr_way x = w ∧ Sz nP ∧ Tbl nP w cP (rr_P x) ∧ Tbl nO w cO (rr_O x) ∧ (∀ k v v', Mem cP k v → Mem cO k v' → False) ∧ (∀ k v, Mem cP k v ∨ Mem cO k v → 0 ≤ v) ∧ Cap nP nO cP cO ∧ rr_ap x ≠ rr_ao x
section CI
variable {w : Int32} {nP nO : Nat} {cP cO : Ct} {x : RR} {k v : Int32}
theorem CI.se (h : CI w nP nO cP cO x) (s : Se) : CI w nP nO cP cO (rr_se' x s) := h
theorem CI.pl (h : CI w nP nO cP cO x) (p : Pl) : CI w nP nO cP cO (rr_pl' x p) := h
theorem CI.wy (h : CI w nP nO cP cO x) : Way w := h.1
theorem CI.xw (h : CI w nP nO cP cO x) : rr_way x = w := h.2.1
theorem CI.sz (h : CI w nP nO cP cO x) : Sz nP := h.2.2.1
theorem CI.tP (h : CI w nP nO cP cO x) : Tbl nP w cP (rr_P x) := h.2.2.2.1
theorem CI.tO (h : CI w nP nO cP cO x) : Tbl nO w cO (rr_O x) := h.2.2.2.2.1
theorem CI.dis (h : CI w nP nO cP cO x) : ∀ k v v', Mem cP k v → Mem cO k v' → False := h.2.2.2.2.2.1
theorem CI.val (h : CI w nP nO cP cO x) : ∀ k v, Mem cP k v ∨ Mem cO k v → 0 ≤ v := h.2.2.2.2.2.2.1
theorem CI.cap (h : CI w nP nO cP cO x) : Cap nP nO cP cO := h.2.2.2.2.2.2.2.1
theorem CI.ne (h : CI w nP nO cP cO x) : rr_ap x ≠ rr_ao x := h.2.2.2.2.2.2.2.2
theorem CI.nOz (h : CI w nP nO cP cO x) : nO = 0 ∨ Sz nO := by
  rcases h.cap.2.2 with q | q
  · exact Or.inl q
  · exact Or.inr q.1
theorem CI.nO256 (h : CI w nP nO cP cO x) : nO ≤ 256 := by
  rcases h.nOz with q | q
  · omega
  · exact q.le.2
theorem No.of {c c' : Ct} (hd : ∀ k v v', Mem c k v → Mem c' k v' → False) {s : Nat} (h : c s = some (k, v)) : No c' k := fun s' v' h' => hd k v v' ⟨s, h⟩ ⟨s', h'⟩
theorem No.of' {c c' : Ct} (hd : ∀ k v v', Mem c k v → Mem c' k v' → False) {s : Nat} (h : c' s = some (k, v)) : No c k := fun s' v' h' => hd k v' v ⟨s', h'⟩ ⟨s, h⟩
theorem in_lt {n : Nat} {c : Ct} (hs : Sup n c) {s : Nat} (h : c s = some (k, v)) : s < n := by
  rcases Nat.lt_or_ge s n with q | q
  · exact q
  · rw [hs s q] at h
    cases h
theorem Tbl.none0 {c : Ct} {τ : Tb} (h : Tbl 0 w c τ) : ∀ i, c i = none := fun i => h.2.2.1 i (by omega)
end CI
