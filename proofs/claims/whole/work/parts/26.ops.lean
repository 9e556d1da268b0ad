/-! both sides' table operations at once, and a slice -/
theorem Kp.many {t t' : Nat} {σ σ' : MS} (h : Kp t σ σ') (hne : t' ≠ t) : m_many σ' t' = m_many σ t' := (h.2.2 t' hne).1
theorem Tbl.oth {n t t' : Nat} {w : Int32} {c : Ct} {τ : Tb} {m m' : MS} (h : Tbl n w c τ t' m) (hk : Kp t m m') (hne : t' ≠ t) : Tbl n w c τ t' m' := by
  obtain ⟨p1, p2, p3, p4, p5, p6, p7⟩ := h
  exact ⟨p1, hk.oth hne p2, p3, (hk.many hne).trans p4, p5, p6, p7⟩
section OP
variable {n t : Nat} {w : Int32} {c : Ct} {τ : Tb} {m : MS} {k v : Int32}
theorem tbl_carry (hw : Way w) (hs : m_way m = w) (hz : Sz n) (ht : t < 2) (h : Tbl n w c τ t m) (hcn : cnt n c < n) (hno : No c k) (v : Int32) : ∃ (c' : Ct) (τ' : Tb) (l' : Int32) (m' : MS), tt_carryIn τ k v (hsh w k) = some τ' ∧ mm_carries m (nI t) k v 0 = some (l', m') ∧ Tbl n w c' τ' t m' ∧ Kp t m m' ∧ cnt n c' = cnt n c + 1 ∧ ∀ k0 v0, Mem c' k0 v0 ↔ Mem c k0 v0 ∨ (k0 = k ∧ v0 = v) := by
  have hle := hz.le
  obtain ⟨p1, p2, p3, p4, p5, p6, p7⟩ := h
  have hh := hm_lt (n := n) (hf := hsh w) (by omega) k
  obtain ⟨g, hg⟩ := gap_ex (c := c) hh (cnt_free hcn)
  obtain ⟨τ', a1, a2, a3⟩ := t_carry (τ := τ) hz p1 k v hg
  obtain ⟨l', m', b1, b2, b3, b4⟩ := m_carry hw hz ht hs p2 k v hg
  obtain ⟨c1, c2, c3, c4, c5⟩ := carry_ok (hm := hm n (hsh w)) (by omega) (fun k => hm_lt (by omega) k) g c _ 0 k v hh hg (by have := hg.2.2; omega) (dd_self hh).symm (Or.inl rfl) p5 p6 hno p7
  refine ⟨_, τ', l', m', a1, b1, ⟨a2, b2, ?_, ?_, c1, c2, c3⟩, b3, c4, c5⟩
  · rw [a3, p3, c4, nI_1]
  · rw [b4, p4, c4, nI_1]
theorem tkEnd_Kp {m0 : MS} (t : Nat) (hk : Kp t m m0) : Kp t m (tkEnd t m0) := by
  refine hk.tr ?_
  unfold tkEnd
  split
  · exact ⟨rfl, fun j _ => ⟨rfl, rfl, rfl⟩, fun j hj => ⟨up_n hj, rfl⟩⟩
  · split
    · exact ⟨rfl, fun j _ => ⟨rfl, rfl, rfl⟩, fun j hj => ⟨up_n hj, up_n hj⟩⟩
    · exact ⟨rfl, fun j _ => ⟨rfl, rfl, rfl⟩, fun j hj => ⟨up_n hj, rfl⟩⟩
theorem tbl_take (hw : Way w) (hs : m_way m = w) (hz : Sz n) (ht : t < 2) (h : Tbl n w c τ t m) (hcn : cnt n c < n) {s : Nat} (hc : c s = some (k, v)) : ∃ (c' : Ct) (τ' : Tb) (m' : MS), tt_takeOut τ (nI s) = some τ' ∧ mm_takes m (nI t) (nI s) = some m' ∧ Kp t m m' ∧ cnt n c' + 1 = cnt n c ∧ (∀ k0 v0, Mem c' k0 v0 ↔ Mem c k0 v0 ∧ k0 ≠ k) ∧ ((nI t = m_present m ∨ cnt n c' ≠ 0) → Tbl n w c' τ' t m') ∧ (nI t ≠ m_present m → cnt n c' = 0 → MT t 0 (fun _ => none) m' ∧ m_many m' t = 0 ∧ tb_ct τ' = 0 ∧ ∀ i, c' i = none) := by
  have hle := hz.le
  obtain ⟨p1, p2, p3, p4, p5, p6, p7⟩ := h
  have hsn := in_lt p5 hc
  obtain ⟨i, hi, hin⟩ := cnt_free hcn
  obtain ⟨g, hg⟩ := run_ex (c := c) (e := s) (hm := hm n (hsh w)) hsn ⟨i, hi, fun z => (by rw [z, hc] at hin; cases hin), hin⟩
  have hg1 : Run n (hm n (hsh w)) (upc c s none) s g := by
    obtain ⟨h1, h2, h3⟩ := hg
    refine ⟨fun j h0 hj q => h1 j h0 hj ?_, ?_, h3⟩
    · unfold Stop at q ⊢
      rw [upc_n (ad_ne hsn h0 (by omega))] at q
      exact q
    · unfold Stop at h2 ⊢
      rw [upc_n (ad_ne hsn (by omega) (by omega))]
      exact h2
  obtain ⟨τ', a1, a2, a3⟩ := t_take (τ := τ) hz p1 hsn hg1
  obtain ⟨m0, b1, b2, b3, b4⟩ := m_take hw hz ht hs p2 hsn hg1
  obtain ⟨c1, c2, c3, c4, c5⟩ := take_ok (hm := hm n (hsh w)) (by omega) (fun k => hm_lt (by omega) k) hsn hg hc p5 p6 p7
  have hm1 : m_many m0 t - 1 = nI (cnt n (hole n g (upc c s none) s)) := by
    rw [b4, p4, ← c4, nI_pred]
  have ht1 : tb_ct τ' = nI (cnt n (hole n g (upc c s none) s)) := by
    rw [a3, p3, ← c4, nI_pred]
  have hpr : m_present m0 = m_present m := rst_present b3.1
  have hcl : cnt n (hole n g (upc c s none) s) ≤ n := cnt_le
  refine ⟨hole n g (upc c s none) s, τ', tkEnd t m0, a1, b1, tkEnd_Kp t b3, c4, c5, fun hor => ?_, fun hne h0 => ?_⟩
  · refine ⟨a2, ?_, ht1, ?_, c1, c2, c3⟩
    · unfold tkEnd
      rw [hpr, hm1]
      split
      · exact ⟨b2.1, b2.2⟩
      · rename_i q
        have hc0 : cnt n (hole n g (upc c s none) s) ≠ 0 := hor.resolve_left q
        rw [if_neg (nI_ne0 (by omega) (by omega))]
        exact ⟨b2.1, b2.2⟩
    · unfold tkEnd
      rw [hm1]
      split
      · exact up_s _ _ _
      · split <;> exact up_s _ _ _
  · have hall : ∀ i, hole n g (upc c s none) s i = none := by
      intro i
      rcases Nat.lt_or_ge i n with q | q
      · exact cnt_zero h0 i q
      · exact c1 i q
    have htk : tkEnd t m0 = m_slots' (m_many' m0 (upd (m_many m0) t (m_many m0 t - 1))) (upd (m_slots m0) t 0) := by
      unfold tkEnd
      rw [if_neg (by rw [hpr]; exact hne), hm1, h0]
      rfl
    rw [htk]
    refine ⟨⟨up_s _ _ _, fun i hi => Or.inl ⟨rfl, mk_none (b2.2 i hi) (hall i)⟩⟩, ?_, ?_, hall⟩
    · refine (up_s _ _ _).trans ?_
      rw [hm1, h0]
      rfl
    · rw [ht1, h0]
      rfl
theorem tbl_empty {σ : MS} (hmt : MT t 0 (fun _ => none) σ) (hm : m_many σ t = 0) (τ : Tb) : ∃ τ', tt_emptyWith τ 0 = some τ' ∧ Tbl 0 w (fun _ => none) τ' t σ := by
  obtain ⟨τ', a1, a2, a3⟩ := t_emptyWith (n := 0) (hf := hsh w) (by omega) τ
  refine ⟨τ', a1, a2, hmt, by rw [a3]; rfl, by rw [hm]; rfl, fun _ _ => rfl, fun i j k v v' h => (by cases h), fun i hi => (by omega)⟩
/-- a table without slots has no keys -/
theorem Tbl.none0 (h : Tbl 0 w c τ t m) : ∀ i, c i = none := fun i => h.2.2.2.2.1 i (by omega)
theorem upd_RH {H : Int32 → Nat} {s : Nat} {v' : Int32} (hc : c s = some (k, v)) (h : RH n H c) : RH n H (upc c s (some (k, v'))) := by
  intro i hi k0 v0 h1 h2
  have h3 : ∃ v1, c (nx n i) = some (k0, v1) := by
    by_cases q : nx n i = s
    · rw [q, upc_s] at h1
      cases h1
      rw [q]
      exact ⟨v, hc⟩
    · rw [upc_n q] at h1
      exact ⟨v0, h1⟩
  obtain ⟨v1, h3⟩ := h3
  obtain ⟨k', v2, h4, h5⟩ := h i hi k0 v1 h3 h2
  by_cases q : i = s
  · subst q
    rw [hc] at h4
    cases h4
    exact ⟨k, v', upc_s _ _ _, h5⟩
  · exact ⟨k', v2, by rw [upc_n q]; exact h4, h5⟩
theorem upd_Mem {s : Nat} {v' : Int32} (hdj : Dj c) (hc : c s = some (k, v)) (k0 v0 : Int32) : Mem (upc c s (some (k, v'))) k0 v0 ↔ (Mem c k0 v0 ∧ k0 ≠ k) ∨ (k0 = k ∧ v0 = v') := by
  constructor
  · rintro ⟨i, hi⟩
    by_cases q : i = s
    · rw [q, upc_s] at hi
      cases hi
      exact Or.inr ⟨rfl, rfl⟩
    · rw [upc_n q] at hi
      exact Or.inl ⟨⟨i, hi⟩, fun z => q (hdj i s k v0 v (by rw [← z]; exact hi) hc)⟩
  · rintro (⟨⟨i, hi⟩, hne⟩ | ⟨rfl, rfl⟩)
    · refine ⟨i, ?_⟩
      rw [upc_n (fun z => by rw [z, hc] at hi; cases hi; exact hne rfl)]
      exact hi
    · exact ⟨s, upc_s _ _ _⟩
theorem tbl_xchg (hn : n ≤ 256) (ht : t < 2) (h : Tbl n w c τ t m) {s : Nat} (hc : c s = some (k, v)) (v' : Int32) : ∃ τ', tt_exchangeValue τ (nI s) v' = some (v, τ') ∧ m_values m (256 * t + s) = v ∧ Tbl n w (upc c s (some (k, v'))) τ' t (m_values' m (upd (m_values m) (256 * t + s) v')) ∧ Kp t m (m_values' m (upd (m_values m) (256 * t + s) v')) := by
  obtain ⟨p1, p2, p3, p4, p5, p6, p7⟩ := h
  have hsn := in_lt p5 hc
  have hk := tk_some (p1.2 s hsn) hc
  have hk2 := mk_some (p2.2 s (by omega)) hc
  have hcnt : cnt n (upc c s (some (k, v'))) = cnt n c := by
    refine cnt_congr (fun i hi => ?_)
    by_cases q : i = s
    · rw [q, upc_s, hc]
      rfl
    · rw [upc_n q]
  refine ⟨tb_vs' τ (upd (tb_vs τ) s v'), ?_, hk2.2.2, ⟨⟨p1.1, fun j hj => ?_⟩, ?_, ?_, ?_, ?_, ?_, upd_RH hc p7⟩, ⟨rfl, fun j hj => ⟨rfl, rfl, up_n (by omega)⟩, fun j hj => ⟨rfl, rfl⟩⟩⟩
  · unfold tt_exchangeValue
    rw [g256 (by omega), cl256 (by omega), nm_eq, g256 (by omega), nm_eq, hk.2.2.2]
  · by_cases q : j = s
    · subst q
      exact Or.inr ⟨k, v', upc_s _ _ _, hk.1, hk.2.1, hk.2.2.1, up_s _ _ _⟩
    · have h2 := p1.2 j hj
      unfold TRs at h2 ⊢
      rw [upc_n q]
      show (c j = none ∧ tb_ctl τ j = -128) ∨ ∃ k1 v1, c j = some (k1, v1) ∧ tb_ctl τ j = tg (hsh w k1) ∧ tb_hs τ j = hsh w k1 ∧ tb_ks τ j = k1 ∧ upd (tb_vs τ) s v' j = v1
      rw [up_n q]
      exact h2
  · refine MT_put (σ := m) p2 (by omega) rfl (fun j hj => ⟨rfl, rfl, up_n hj⟩) hk2.1 hk2.2.1 (up_s _ _ _)
  · rw [hcnt]
    exact p3
  · rw [hcnt]
    exact p4
  · intro i hi
    rw [upc_n (by omega)]
    exact p5 i hi
  · intro i j k0 v0 v1 h1 h2
    have hx : ∀ i v0, upc c s (some (k, v')) i = some (k0, v0) → ∃ v1, c i = some (k0, v1) := by
      intro i v0 h
      by_cases q : i = s
      · rw [q, upc_s] at h
        cases h
        exact ⟨v, by rw [q]; exact hc⟩
      · rw [upc_n q] at h
        exact ⟨v0, h⟩
    obtain ⟨a, ha⟩ := hx i v0 h1
    obtain ⟨b, hb⟩ := hx j v1 h2
    exact p6 i j k0 a b ha hb
end OP
