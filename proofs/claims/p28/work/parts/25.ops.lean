/-! look-ups in both tables; the tables' operations; a slice of a move -/
section LK2
variable {w : Int32} {nP nO : Nat} {cP cO : Ct} {x : RR} {k v : Int32}
/-- the answer of a look-up: in the present table, in the old one, or nowhere -/
def LkA (nP nO : Nat) (cP cO : Ct) (x : RR) (k : Int32) (se : Se) (Q : Nat) : Prop := (se_tb se = some (rr_ap x) ∧ 1 ≤ Q ∧ (∃ s v, se_slot se = nI s ∧ s < nP ∧ cP s = some (k, v)) ∧ No cO k) ∨ (se_tb se = some (rr_ao x) ∧ 1 ≤ Q ∧ (∃ s v, se_slot se = nI s ∧ s < nO ∧ cO s = some (k, v)) ∧ No cP k) ∨ (se_tb se = none ∧ No cP k ∧ No cO k)
theorem rr_look (h : CI w nP nO cP cO x) (k : Int32) : ∃ (se : Se) (G Q : Nat), rr_lookUp x k = some (rr_se' x se) ∧ se_groups se = nI G ∧ se_comps se = nI Q ∧ 1 ≤ G ∧ G ≤ 64 ∧ Q ≤ 512 ∧ LkA nP nO cP cO x k se Q := by
  have hsz := h.sz.le
  obtain ⟨p1, p3, p5, p6, p7⟩ := h.tP
  obtain ⟨o1, o3, o5, o6, o7⟩ := h.tO
  obtain ⟨g, q, fd, a1, a3, a4, a7, a5, a6⟩ := look_tab (τ := rr_P x) (Or.inr h.sz) p1 p5 p7 (rr_ap x) (se_slot (rr_se x)) (G := 0) (Q := 0) (by omega) k
  rw [Nat.zero_add, Nat.zero_add] at a1
  have hg1 := a7 h.sz
  have hlook : rr_lookUp x k = bd (some (seF (rr_ap x) (se_slot (rr_se x)) (nI g) (nI q) fd)) (fun s6 => nm (rr_se' x s6) fun s7 => bd (ss_hasFound (rr_se s7)) fun v8 => if v8 = 0 then bd (ss_lookIn (rr_ao s7) (rr_O s7) (rr_se s7) k (hsh w k)) fun s11 => nm (rr_se' s7 s11) fun s12 => some s12 else some s7) := by
    unfold rr_lookUp
    rw [hash_eq h.wy h.xw, bd_some, ← a1]
    rfl
  cases fd with
  | some s =>
    obtain ⟨hsn, hq1, v, hv⟩ := a5 s rfl
    refine ⟨(some (rr_ap x), nI s, nI g, nI q), g, q, ?_, rfl, rfl, hg1, by omega, by omega, Or.inl ⟨rfl, hq1, ⟨s, v, rfl, hsn, hv⟩, No.of h.dis hv⟩⟩
    rw [hlook, bd_some, nm_eq]
    rfl
  | none =>
    have hno : No cP k := a6 rfl
    obtain ⟨g2', q2, fd2, b1, b3, b4, b7, b5, b6⟩ := look_tab (τ := rr_O x) h.nOz o1 o5 o7 (rr_ao x) (se_slot (rr_se x)) (G := g) (Q := q) (by omega) k
    refine ⟨seF (rr_ao x) (se_slot (rr_se x)) (nI (g + g2')) (nI (q + q2)) fd2, g + g2', q + q2, ?_, by cases fd2 <;> rfl, by cases fd2 <;> rfl, by omega, by omega, by omega, ?_⟩
    · rw [hlook, bd_some, nm_eq, show ss_hasFound (rr_se (rr_se' x (seF (rr_ap x) (se_slot (rr_se x)) (nI g) (nI q) none))) = some 0 from rfl, bd_some, it_T rfl, show ss_lookIn (rr_ao (rr_se' x (seF (rr_ap x) (se_slot (rr_se x)) (nI g) (nI q) none))) (rr_O (rr_se' x (seF (rr_ap x) (se_slot (rr_se x)) (nI g) (nI q) none))) (rr_se (rr_se' x (seF (rr_ap x) (se_slot (rr_se x)) (nI g) (nI q) none))) k (hsh w k) = some (seF (rr_ao x) (se_slot (rr_se x)) (nI (g + g2')) (nI (q + q2)) fd2) from b1, bd_some]
      rfl
    · cases fd2 with
      | some s =>
        obtain ⟨hsn, hq1, v, hv⟩ := b5 s rfl
        exact Or.inr (Or.inl ⟨rfl, by omega, ⟨s, v, rfl, hsn, hv⟩, hno⟩)
      | none => exact Or.inr (Or.inr ⟨rfl, hno, b6 rfl⟩)
def MemU (cP cO : Ct) (k v : Int32) : Prop := Mem cP k v ∨ Mem cO k v
/-- an answer of the map: the key's value, or -1 -/
def Val (cP cO : Ct) (k r : Int32) : Prop := MemU cP cO k r ∨ (r = -1 ∧ No cP k ∧ No cO k)
theorem get_eq (h : CI w nP nO cP cO x) (k : Int32) : ∃ (r : Int32) (se : Se), rr_get x k = some (r, rr_se' x se) ∧ Val cP cO k r := by
  have hsz := h.sz.le
  have h256 := h.nO256
  obtain ⟨p1, p3, p5, p6, p7⟩ := h.tP
  obtain ⟨o1, o3, o5, o6, o7⟩ := h.tO
  obtain ⟨se, G, Q, a1, -, -, -, -, -, a2⟩ := rr_look h k
  have hc : rr_get x k = bd (ss_hasFound se) (fun v3 => if v3 = 0 then some (-1, rr_se' x se) else dsp (se_tb se) (rr_ap x) (rr_ao x) (bd (tt_valueIn (rr_P x) (se_slot se)) fun v6 => some (v6, rr_se' x se)) (bd (tt_valueIn (rr_O x) (se_slot se)) fun v7 => some (v7, rr_se' x se))) := by
    unfold rr_get
    rw [a1]
    rfl
  rcases a2 with ⟨b1, -, ⟨s, v, b2, b3, b4⟩, b5⟩ | ⟨b1, -, ⟨s, v, b2, b3, b4⟩, b5⟩ | ⟨b1, b2, b3⟩
  · refine ⟨v, se, ?_, Or.inl (Or.inl ⟨s, b4⟩)⟩
    rw [hc, show ss_hasFound se = some 1 from if_neg (by rw [b1]; exact fun z => by cases z), bd_some, it_F o10, b1, b2, t_value (by omega) (p1.2 s b3) b4]
    exact if_pos rfl
  · refine ⟨v, se, ?_, Or.inl (Or.inr ⟨s, b4⟩)⟩
    rw [hc, show ss_hasFound se = some 1 from if_neg (by rw [b1]; exact fun z => by cases z), bd_some, it_F o10, b1, b2, t_value (by omega) (o1.2 s b3) b4]
    unfold dsp
    rw [if_neg (fun z => h.ne (Option.some.inj z).symm), if_pos rfl]
    rfl
  · refine ⟨-1, se, ?_, Or.inr ⟨rfl, b2, b3⟩⟩
    rw [hc, show ss_hasFound se = some 0 from if_pos b1, bd_some, it_T rfl]
end LK2
section OP
variable {n : Nat} {w : Int32} {c : Ct} {τ : Tb} {k v : Int32}
theorem tbl_carry (hz : Sz n) (h : Tbl n w c τ) (hcn : cnt n c < n) (hno : No c k) (v : Int32) : ∃ (c' : Ct) (τ' : Tb), tt_carryIn τ k v (hsh w k) = some τ' ∧ Tbl n w c' τ' ∧ cnt n c' = cnt n c + 1 ∧ ∀ k0 v0, Mem c' k0 v0 ↔ Mem c k0 v0 ∨ (k0 = k ∧ v0 = v) := by
  have hle := hz.le
  obtain ⟨p1, p3, p5, p6, p7⟩ := h
  have hh := hm_lt (n := n) (hf := hsh w) (by omega) k
  obtain ⟨g, hg⟩ := gap_ex (c := c) hh (cnt_free hcn)
  obtain ⟨τ', a1, a2, a3⟩ := t_carry (τ := τ) hz p1 k v hg
  obtain ⟨c1, c2, c3, c4, c5⟩ := carry_ok (hm := hm n (hsh w)) (by omega) (fun k => hm_lt (by omega) k) g c _ 0 k v hh hg (by have := hg.2.2; omega) (dd_self hh).symm (Or.inl rfl) p5 p6 hno p7
  refine ⟨_, τ', a1, ⟨a2, ?_, c1, c2, c3⟩, c4, c5⟩
  rw [a3, p3, c4, nI_1]
theorem tbl_take (hz : Sz n) (h : Tbl n w c τ) (hcn : cnt n c < n) {s : Nat} (hc : c s = some (k, v)) : ∃ (c' : Ct) (τ' : Tb), tt_takeOut τ (nI s) = some τ' ∧ cnt n c' + 1 = cnt n c ∧ (∀ k0 v0, Mem c' k0 v0 ↔ Mem c k0 v0 ∧ k0 ≠ k) ∧ Tbl n w c' τ' := by
  have hle := hz.le
  obtain ⟨p1, p3, p5, p6, p7⟩ := h
  have hsn := in_lt p5 hc
  obtain ⟨i, hi, hin⟩ := cnt_free hcn
  obtain ⟨g, hg⟩ := run_ex (c := c) (e := s) (hm := hm n (hsh w)) hsn ⟨i, hi, fun z => (by rw [z, hc] at hin; cases hin), hin⟩
  have hg1 : Run n (hm n (hsh w)) (upc c s none) s g := by
    obtain ⟨h1, h2, h3⟩ := hg
    refine ⟨fun j h0 hj q => h1 j h0 hj ?_, ?_, h3⟩
    · unfold Stop at q ⊢
      rw [upc_n (ad_ne hsn h0 (by omega))] at q
      exact q
    · unfold Stop at h2 ⊢
      rw [upc_n (ad_ne hsn (by omega) (by omega))]
      exact h2
  obtain ⟨τ', a1, a2, a3⟩ := t_take (τ := τ) hz p1 hsn hg1
  obtain ⟨c1, c2, c3, c4, c5⟩ := take_ok (hm := hm n (hsh w)) (by omega) (fun k => hm_lt (by omega) k) hsn hg hc p5 p6 p7
  refine ⟨hole n g (upc c s none) s, τ', a1, c4, c5, a2, ?_, c1, c2, c3⟩
  rw [a3, p3, ← c4, nI_pred]
theorem tbl_empty {N : Nat} (hN : N ≤ 256) (τ : Tb) : ∃ τ', tt_emptyWith τ (nI N) = some τ' ∧ Tbl N w (fun _ => none) τ' := by
  obtain ⟨τ', a1, a2, a3⟩ := t_emptyWith (n := N) (hf := hsh w) hN τ
  have cz : ∀ n, cnt n (fun _ => none) = 0 := by
    intro n
    induction n with
    | zero => rfl
    | succ n ih => exact ih
  exact ⟨τ', a1, a2, by rw [a3, cz]; rfl, fun _ _ => rfl, fun i j k v v' h => (by cases h), fun i hi k v h => (by cases h)⟩
theorem all_none (hsup : Sup n c) (h : cnt n c = 0) : c = fun _ => none := by
  funext i
  rcases Nat.lt_or_ge i n with q | q
  · exact cnt_zero h i q
  · exact hsup i q
theorem upd_RH {H : Int32 → Nat} {s : Nat} {v' : Int32} (hc : c s = some (k, v)) (h : RH n H c) : RH n H (upc c s (some (k, v'))) := by
  intro i hi k0 v0 h1 h2
  have h3 : ∃ v1, c (nx n i) = some (k0, v1) := by
    by_cases q : nx n i = s
    · rw [q, upc_s] at h1
      cases h1
      rw [q]
      exact ⟨v, hc⟩
    · rw [upc_n q] at h1
      exact ⟨v0, h1⟩
  obtain ⟨v1, h3⟩ := h3
  obtain ⟨k', v2, h4, h5⟩ := h i hi k0 v1 h3 h2
  by_cases q : i = s
  · subst q
    rw [hc] at h4
    cases h4
    exact ⟨k, v', upc_s _ _ _, h5⟩
  · exact ⟨k', v2, by rw [upc_n q]; exact h4, h5⟩
theorem upd_Mem {s : Nat} {v' : Int32} (hdj : Dj c) (hc : c s = some (k, v)) (k0 v0 : Int32) : Mem (upc c s (some (k, v'))) k0 v0 ↔ (Mem c k0 v0 ∧ k0 ≠ k) ∨ (k0 = k ∧ v0 = v') := by
  constructor
  · rintro ⟨i, hi⟩
    by_cases q : i = s
    · rw [q, upc_s] at hi
      cases hi
      exact Or.inr ⟨rfl, rfl⟩
    · rw [upc_n q] at hi
      exact Or.inl ⟨⟨i, hi⟩, fun z => q (hdj i s k v0 v (by rw [← z]; exact hi) hc)⟩
  · rintro (⟨⟨i, hi⟩, hne⟩ | ⟨rfl, rfl⟩)
    · refine ⟨i, ?_⟩
      rw [upc_n (fun z => by rw [z, hc] at hi; cases hi; exact hne rfl)]
      exact hi
    · exact ⟨s, upc_s _ _ _⟩
theorem tbl_xchg (hn : n ≤ 256) (h : Tbl n w c τ) {s : Nat} (hc : c s = some (k, v)) (v' : Int32) : ∃ τ', tt_exchangeValue τ (nI s) v' = some (v, τ') ∧ Tbl n w (upc c s (some (k, v'))) τ' ∧ cnt n (upc c s (some (k, v'))) = cnt n c := by
  obtain ⟨p1, p3, p5, p6, p7⟩ := h
  have hsn := in_lt p5 hc
  have hk := tk_some (p1.2 s hsn) hc
  have hcnt : cnt n (upc c s (some (k, v'))) = cnt n c := by
    refine cnt_congr (fun i hi => ?_)
    by_cases q : i = s
    · rw [q, upc_s, hc]
      rfl
    · rw [upc_n q]
  refine ⟨tb_vs' τ (upd (tb_vs τ) s v'), ?_, ⟨⟨p1.1, fun j hj => ?_⟩, ?_, ?_, ?_, upd_RH hc p7⟩, hcnt⟩
  · unfold tt_exchangeValue
    rw [g256 (by omega), cl256 (by omega), nm_eq, g256 (by omega), nm_eq, hk.2.2.2]
  · by_cases q : j = s
    · subst q
      exact Or.inr ⟨k, v', upc_s _ _ _, hk.1, hk.2.1, hk.2.2.1, up_s _ _ _⟩
    · have h2 := p1.2 j hj
      unfold TRs at h2 ⊢
      rw [upc_n q]
      show (c j = none ∧ tb_ctl τ j = -128) ∨ ∃ k1 v1, c j = some (k1, v1) ∧ tb_ctl τ j = tg (hsh w k1) ∧ tb_hs τ j = hsh w k1 ∧ tb_ks τ j = k1 ∧ upd (tb_vs τ) s v' j = v1
      rw [up_n q]
      exact h2
  · rw [hcnt]
    exact p3
  · intro i hi
    rw [upc_n (by omega)]
    exact p5 i hi
  · intro i j k0 v0 v1 h1 h2
    have hx : ∀ i v0, upc c s (some (k, v')) i = some (k0, v0) → ∃ v1, c i = some (k0, v1) := by
      intro i v0 h
      by_cases q : i = s
      · rw [q, upc_s] at h
        cases h
        exact ⟨v, by rw [q]; exact hc⟩
      · rw [upc_n q] at h
        exact ⟨v0, h⟩
    obtain ⟨a, ha⟩ := hx i v0 h1
    obtain ⟨b, hb⟩ := hx j v1 h2
    exact p6 i j k0 a b ha hb
end OP
section SL
variable {n nP nO : Nat} {w : Int32} {c cP cO : Ct} {τ : Tb} {x : RR} {k v : Int32}
theorem low_ex {n : Nat} {c : Ct} (h : 0 < cnt n c) : ∃ s k v, s < n ∧ c s = some (k, v) ∧ ∀ j, j < s → c j = none := by
  obtain ⟨i, hi, hc⟩ := cnt_pos h
  obtain ⟨s, ⟨h1, h2⟩, hmin⟩ := pk_least (fun s => s < n ∧ c s ≠ none) ⟨i, hi, hc⟩
  cases hs : c s with
  | none => exact absurd hs h2
  | some a =>
    refine ⟨s, a.1, a.2, h1, hs, fun j hj => ?_⟩
    cases hj2 : c j with
    | none => rfl
    | some b => exact absurd ⟨by omega, by rw [hj2]; exact fun z => by cases z⟩ (hmin j hj)
theorem ct_pos {n : Nat} {c : Ct} (h : 0 < cnt n c) (hn : n ≤ 256) : ¬ nI (cnt n c) ≤ 0 := nI_nle h (by have := cnt_le (n := n) (c := c); omega)
/-- what a slice keeps -/
def Kept (x x' : RR) (cP cO cP' cO' : Ct) (nP nO nO' : Nat) : Prop := x'.2.2 = x.2.2 ∧ (∀ k v, MemU cP' cO' k v ↔ MemU cP cO k v) ∧ cnt nP cP' + cnt nO' cO' = cnt nP cP + cnt nO cO
theorem Kept.rf : Kept x x cP cO cP cO nP nO nO := ⟨rfl, fun _ _ => Iff.rfl, rfl⟩
theorem Kept.tr {x1 x2 : RR} {a1 a2 b1 b2 : Ct} {n1 n2 : Nat} (h : Kept x x1 cP cO a1 b1 nP nO n1) (h2 : Kept x1 x2 a1 b1 a2 b2 nP n1 n2) : Kept x x2 cP cO a2 b2 nP nO n2 :=
  ⟨h2.1.trans h.1, fun k v => (h2.2.1 k v).trans (h.2.1 k v), h2.2.2.trans h.2.2⟩
theorem slice_lp : ∀ d j f x cP cO, j + d = 4 → d < f → CI w nP nO cP cO x → 0 < cnt nO cO → Sz nO → ∃ (x' : RR) (nO' : Nat) (cP' cO' : Ct), rr_moveSlice_lp2 f x (nI j) = some (nI (j + (if cnt nO cO ≤ d then cnt nO cO else d)), x') ∧ CI w nP nO' cP' cO' x' ∧ Kept x x' cP cO cP' cO' nP nO nO' ∧ cnt nO' cO' = cnt nO cO - d ∧ (nO' = 0 ∨ (nO' = nO ∧ cnt nO' cO' + d = cnt nO cO)) := by
  intro d
  induction d with
  | zero =>
    intro j f x cP cO hj hf h hpos hzO
    obtain ⟨f, rfl⟩ : ∃ f2, f = f2 + 1 := ⟨f - 1, by omega⟩
    have : j = 4 := by omega
    subst this
    have hO := hzO.le
    have hcl := cnt_le (n := nO) (c := cO)
    refine ⟨x, nO, cP, cO, ?_, h, Kept.rf, by omega, Or.inr ⟨rfl, rfl⟩⟩
    rw [if_neg (by omega)]
    show rr_moveSlice_2 (rr_moveSlice_lp2 f) x (nI 4) = _
    unfold rr_moveSlice_2 rr_moveSlice_70 rr_endMoveIfOldIsEmpty
    rw [it_T (show (4 : Int32) ≤ nI 4 by decide), h.tO.2.1, it_F (nI_ne0 hpos (by omega)), bd_some]
  | succ d ih =>
    intro j f x cP cO hj hf h hpos hzO
    obtain ⟨f, rfl⟩ : ∃ f2, f = f2 + 1 := ⟨f - 1, by omega⟩
    have hO := hzO.le
    have hP := h.sz.le
    have hcl := cnt_le (n := nO) (c := cO)
    obtain ⟨s, k, v, hs, hc, hmin⟩ := low_ex hpos
    obtain ⟨q1, q2, q3⟩ := h.cap
    obtain ⟨-, hn2, -, q4, q5⟩ := q3.resolve_left (by omega)
    obtain ⟨p1, p3, p5, p6, p7⟩ := h.tP
    obtain ⟨o1, o3, o5, o6, o7⟩ := h.tO
    obtain ⟨c1, τ1, a1, a4, a5, a6⟩ := tbl_take hzO h.tO (by omega) hc
    have hno : No cP k := No.of' h.dis hc
    obtain ⟨c2, τ2, b1, b3, b5, b6⟩ := tbl_carry h.sz h.tP (by omega) hno v
    have hx1 : rr_moveSlice_lp2 (f + 1) x (nI j) = rr_moveSlice_lp2 f (rr_O' (rr_P' x τ2) τ1) (nI (j + 1)) := by
      show rr_moveSlice_2 (rr_moveSlice_lp2 f) x (nI j) = _
      unfold rr_moveSlice_2
      rw [it_F (show ¬ (4 : Int32) ≤ nI j from nI_ge (b := 4) (by omega) (by omega)), o3, it_F (ct_pos hpos hO.2), t_low hO.2 o1 hs (by rw [hc]; exact fun z => by cases z) hmin, bd_some, t_key (by omega) (o1.2 s hs) hc, bd_some, t_value (by omega) (o1.2 s hs) hc, bd_some, t_hash (by omega) (o1.2 s hs) hc, bd_some, b1, bd_some, nm_eq, show tt_takeOut (rr_O (rr_P' x τ2)) (nI s) = some τ1 from a1, bd_some, nm_eq, nm_eq, nI_1]
    have hmem : ∀ k0 v0, MemU c2 c1 k0 v0 ↔ MemU cP cO k0 v0 := by
      intro k0 v0
      unfold MemU
      rw [b6, a5]
      constructor
      · rintro ((h1 | ⟨rfl, rfl⟩) | h1)
        · exact Or.inl h1
        · exact Or.inr ⟨s, hc⟩
        · exact Or.inr h1.1
      · rintro (h1 | h1)
        · exact Or.inl (Or.inl h1)
        · by_cases q : k0 = k
          · obtain ⟨i, hi⟩ := h1
            subst q
            have := o6 i s k0 v0 v hi hc
            subst this
            rw [hc] at hi
            cases hi
            exact Or.inl (Or.inr ⟨rfl, rfl⟩)
          · exact Or.inr ⟨h1, q⟩
    have hdis : ∀ k0 v0 v1, Mem c2 k0 v0 → Mem c1 k0 v1 → False := by
      intro k0 v0 v1 h1 h2
      obtain ⟨h3, h4⟩ := (a5 k0 v1).mp h2
      rcases (b6 k0 v0).mp h1 with h5 | ⟨h5, -⟩
      · exact h.dis k0 v0 v1 h5 h3
      · exact h4 h5
    have hval : ∀ k0 v0, Mem c2 k0 v0 ∨ Mem c1 k0 v0 → 0 ≤ v0 := fun k0 v0 hh => h.val k0 v0 ((hmem k0 v0).mp hh)
    rw [hx1]
    by_cases h0 : cnt nO c1 = 0
    · -- the last key went over
      obtain ⟨τ3, y1, y2⟩ := tbl_empty (w := w) (N := 0) (by omega) τ1
      have hcc : c1 = fun _ => none := all_none a6.2.2.1 h0
      have z3 : tb_ct τ1 = 0 := by
        rw [a6.2.1, h0]
        rfl
      refine ⟨rr_O' (rr_O' (rr_P' x τ2) τ1) τ3, 0, c2, fun _ => none, ?_, ⟨h.wy, h.xw, h.sz, b3, y2, fun k0 v0 v1 h1 h2 => hdis k0 v0 v1 h1 (by rw [hcc]; exact h2), fun k0 v0 h1 => hval k0 v0 (by rw [hcc]; exact h1), ?_, h.ne⟩, ⟨rfl, fun k0 v0 => by rw [← hcc]; exact hmem k0 v0, ?_⟩, ?_, Or.inl rfl⟩
      · rw [if_pos (show cnt nO cO ≤ d + 1 by omega), show j + cnt nO cO = j + 1 by omega]
        obtain ⟨f, rfl⟩ : ∃ f2, f = f2 + 1 := ⟨f - 1, by omega⟩
        show rr_moveSlice_2 (rr_moveSlice_lp2 f) (rr_O' (rr_P' x τ2) τ1) (nI (j + 1)) = _
        unfold rr_moveSlice_2
        have e70 : rr_moveSlice_70 (rr_O' (rr_P' x τ2) τ1) (nI (j + 1)) = some (nI (j + 1), rr_O' (rr_O' (rr_P' x τ2) τ1) τ3) := by
          unfold rr_moveSlice_70 rr_endMoveIfOldIsEmpty
          rw [show tb_ct (rr_O (rr_O' (rr_P' x τ2) τ1)) = 0 from z3, it_T rfl, show rr_O (rr_O' (rr_P' x τ2) τ1) = τ1 from rfl, show tt_emptyWith τ1 0 = some τ3 from y1, bd_some, nm_eq, bd_some]
        rw [e70, show tb_ct (rr_O (rr_O' (rr_P' x τ2) τ1)) = 0 from z3]
        split
        · rfl
        · exact if_pos (by decide)
      · have h00 : cnt 0 (fun _ => none) = 0 := rfl
        exact ⟨by rw [h00, b5]; omega, by rw [h00, b5]; omega, Or.inl rfl⟩
      · show cnt nP c2 + 0 = _
        rw [b5]
        omega
      · show 0 = _
        omega
    · -- keys are left
      have hTI : CI w nP nO c2 c1 (rr_O' (rr_P' x τ2) τ1) := by
        refine ⟨h.wy, h.xw, h.sz, b3, a6, hdis, hval, ⟨?_, ?_, Or.inr ⟨hzO, hn2, by omega, ?_, ?_⟩⟩, h.ne⟩
        · rw [b5]; omega
        · rw [b5]; omega
        · omega
        · rw [b5]; omega
      obtain ⟨x', nO', cP', cO', e1, e3, e4, e6, e5⟩ := ih (j + 1) f _ c2 c1 (by omega) (by omega) hTI (by omega) hzO
      refine ⟨x', nO', cP', cO', ?_, e3, Kept.tr ⟨rfl, hmem, by rw [b5]; omega⟩ e4, by omega, ?_⟩
      · rw [e1]
        congr 3
        by_cases q : cnt nO c1 ≤ d
        · rw [if_pos q, if_pos (by omega)]
          omega
        · rw [if_neg q, if_neg (by omega)]
          omega
      · rcases e5 with e5 | ⟨e5, e6⟩
        · exact Or.inl e5
        · exact Or.inr ⟨e5, by omega⟩
theorem slice_eq (h : CI w nP nO cP cO x) : ∃ (x' : RR) (nO' : Nat) (cP' cO' : Ct), rr_moveSlice x = some (nI (if cnt nO cO ≤ 4 then cnt nO cO else 4), x') ∧ CI w nP nO' cP' cO' x' ∧ Kept x x' cP cO cP' cO' nP nO nO' ∧ cnt nO' cO' = cnt nO cO - 4 ∧ (nO' = 0 ∨ 32 * (cnt nP cP' + cnt nO' cO' + 1) + 8 * cnt nO' cO' ≤ 35 * nO' + 32) := by
  obtain ⟨q1, q2, q3⟩ := h.cap
  rcases q3 with rfl | ⟨hzO, hn2, hpos, q4, q5⟩
  · have hcc : cO = fun _ => none := funext h.tO.none0
    subst hcc
    obtain ⟨τ3, y1, y2⟩ := tbl_empty (w := w) (N := 0) (by omega) (rr_O x)
    refine ⟨rr_O' x τ3, 0, cP, fun _ => none, ?_, ⟨h.wy, h.xw, h.sz, h.tP, y2, h.dis, h.val, h.cap, h.ne⟩, ⟨rfl, fun _ _ => Iff.rfl, rfl⟩, rfl, Or.inl rfl⟩
    show rr_moveSlice_2 (rr_moveSlice_lp2 1023) x 0 = _
    unfold rr_moveSlice_2 rr_moveSlice_70 rr_endMoveIfOldIsEmpty
    rw [it_F (show ¬ (4 : Int32) ≤ 0 by decide), show tb_ct (rr_O x) = 0 from h.tO.2.1, it_T (show (0 : Int32) ≤ 0 by decide), it_T rfl, show tt_emptyWith (rr_O x) 0 = some τ3 from y1, bd_some, nm_eq, bd_some]
    rfl
  · obtain ⟨x', nO', cP', cO', e1, e3, e4, e6, e5⟩ := slice_lp 4 0 FU x cP cO rfl (by decide) h hpos hzO
    rw [Nat.zero_add] at e1
    refine ⟨x', nO', cP', cO', e1, e3, e4, e6, ?_⟩
    rcases e5 with e5 | ⟨e5, e6⟩
    · exact Or.inl e5
    · have := e4.2.2
      subst e5
      exact Or.inr (by omega)
end SL
