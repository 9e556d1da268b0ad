/-! the reference's tables against the mathematical ones -/
def hsh (w k : Int32) : Int32 := if w = 0 then k else (k * (-1640531535)) ^^^ ushr (k * (-1640531535)) 15
def Way (w : Int32) : Prop := w = 0 ∨ w = 1
def MTs (t : Nat) (c : Ct) (σ : MS) (i : Nat) : Prop := (c i = none ∧ m_full σ (256 * t + i) = 0) ∨ ∃ k v, c i = some (k, v) ∧ m_full σ (256 * t + i) = 1 ∧ m_keys σ (256 * t + i) = k ∧ m_values σ (256 * t + i) = v
def MT (t n : Nat) (c : Ct) (σ : MS) : Prop := m_slots σ t = nI n ∧ ∀ i, i < 256 → MTs t c σ i
def rst (σ : MS) := σ.2.2.2.2.2
/-- table t alone has changed -/
def Kp (t : Nat) (σ σ' : MS) : Prop := rst σ' = rst σ ∧ (∀ j, (j < 256 * t ∨ 256 * t + 256 ≤ j) → m_full σ' j = m_full σ j ∧ m_keys σ' j = m_keys σ j ∧ m_values σ' j = m_values σ j) ∧ ∀ j, j ≠ t → m_many σ' j = m_many σ j ∧ m_slots σ' j = m_slots σ j
theorem Kp.rf {t : Nat} {σ : MS} : Kp t σ σ := ⟨rfl, fun _ _ => ⟨rfl, rfl, rfl⟩, fun _ _ => ⟨rfl, rfl⟩⟩
theorem Kp.tr {t : Nat} {σ σ1 σ2 : MS} (h : Kp t σ σ1) (h2 : Kp t σ1 σ2) : Kp t σ σ2 :=
  ⟨h2.1.trans h.1, fun j hj => ⟨(h2.2.1 j hj).1.trans (h.2.1 j hj).1, (h2.2.1 j hj).2.1.trans (h.2.1 j hj).2.1, (h2.2.1 j hj).2.2.trans (h.2.1 j hj).2.2⟩, fun j hj => ⟨(h2.2.2 j hj).1.trans (h.2.2 j hj).1, (h2.2.2 j hj).2.trans (h.2.2 j hj).2⟩⟩
theorem Kp.oth {t t' n : Nat} {c : Ct} {σ σ' : MS} (h : Kp t σ σ') (hne : t' ≠ t) (hmt : MT t' n c σ) : MT t' n c σ' := by
  refine ⟨(h.2.2 t' hne).2.trans hmt.1, fun i hi => ?_⟩
  have h2 := h.2.1 (256 * t' + i) (by omega)
  have h3 := hmt.2 i hi
  unfold MTs at h3 ⊢
  rw [h2.1, h2.2.1, h2.2.2]
  exact h3
theorem rst_present {σ σ' : MS} (h : rst σ' = rst σ) : m_present σ' = m_present σ := congrArg (fun r => r.1) h
theorem rst_way {σ σ' : MS} (h : rst σ' = rst σ) : m_way σ' = m_way σ := congrArg (fun r => r.2.1) h
theorem ixe {t i : Nat} : (256 : Int32) * nI t + nI i = nI (256 * t + i) := by
  rw [show (256 : Int32) = nI 256 from rfl, pk_mul, nI_add]
theorem g512 {α : Type} {i : Nat} {x : Option α} (hi : i < 512) : gd (nI i) 512 x = x := gd_of (vp_in_nI hi (by omega))
theorem cl512 {i : Nat} (hi : i < 512) : (nI i).toNatClampNeg = i := nI_clamp (by omega)
theorem g2 {α : Type} {i : Nat} {x : Option α} (hi : i < 2) : gd (nI i) 2 x = x := gd_of (vp_in_nI hi (by omega))
theorem cl2 {i : Nat} (hi : i < 2) : (nI i).toNatClampNeg = i := nI_clamp (by omega)
section MB
variable {n t : Nat} {w : Int32} {c : Ct} {σ : MS} {i : Nat}
theorem mk_none (h : MTs t c σ i) (hc : c i = none) : m_full σ (256 * t + i) = 0 := by
  rcases h with h | ⟨k, v, h, -⟩
  · exact h.2
  · rw [hc] at h
    cases h
theorem mk_some {k v : Int32} (h : MTs t c σ i) (hc : c i = some (k, v)) : m_full σ (256 * t + i) = 1 ∧ m_keys σ (256 * t + i) = k ∧ m_values σ (256 * t + i) = v := by
  rcases h with h | ⟨k', v', h, h2⟩
  · rw [hc] at h
    cases h.1
  · rw [hc] at h
    cases h
    exact h2
theorem nx_and (hz : Sz n) (hi : i < n) : (nI i + 1) &&& (nI n - 1) = nI (nx n i) := by
  have := hz.le
  rw [nI_1, mk_and _ hz, bn_nI (by omega)]
  rfl
theorem nx_and1 (hz : Sz n) (hi : i < n) : nI (i + 1) &&& (nI n - 1) = nI (nx n i) := by
  rw [← nI_1]
  exact nx_and hz hi
theorem o10 : ¬ (1 : Int32) = 0 := by decide
theorem m_hash (hw : Way w) (hs : m_way σ = w) (k : Int32) : mm_hashOf σ k = some (hsh w k) := by
  unfold mm_hashOf hsh
  rcases hw with rfl | rfl
  · rw [hs, it_F (by decide), it_T rfl]
  · rw [hs, it_T rfl, nm_eq, it_F o10]
theorem m_home (hw : Way w) (hs : m_way σ = w) (hz : Sz n) (ht : t < 2) (hsl : m_slots σ t = nI n) (k : Int32) : mm_home σ (nI t) k = some (nI (hm n (hsh w) k)) := by
  unfold mm_home
  rw [m_hash hw hs, bd_some, g2 ht, cl2 ht, hsl, mk_and _ hz]
  rfl
theorem m_dist {k v : Int32} (hw : Way w) (hs : m_way σ = w) (hz : Sz n) (ht : t < 2) (hmt : MT t n c σ) (hi : i < n) (hc : c i = some (k, v)) : mm_distance σ (nI t) (nI i) = some (nI (dd n (hm n (hsh w) k) i)) := by
  have hle := hz.le
  unfold mm_distance
  rw [ixe, g512 (by omega), cl512 (by omega), (mk_some (hmt.2 i (by omega)) hc).2.1, m_home hw hs hz ht hmt.1, bd_some, g2 ht, cl2 ht, hmt.1, mk_and _ hz, dist_eq hz hi, bn_nI (by have := hm_lt (hf := hsh w) (n := n) (by omega) k; omega), md_lt (hm_lt (by omega) k)]
/-- a slot is written -/
theorem MT_put {σ' : MS} {k v : Int32} (hmt : MT t n c σ) (hi : i < 256) (hsl : m_slots σ' t = m_slots σ t) (hj : ∀ j, j ≠ 256 * t + i → m_full σ' j = m_full σ j ∧ m_keys σ' j = m_keys σ j ∧ m_values σ' j = m_values σ j) (h1 : m_full σ' (256 * t + i) = 1) (h2 : m_keys σ' (256 * t + i) = k) (h3 : m_values σ' (256 * t + i) = v) : MT t n (upc c i (some (k, v))) σ' := by
  refine ⟨hsl.trans hmt.1, fun j hj2 => ?_⟩
  by_cases q : j = i
  · subst q
    exact Or.inr ⟨k, v, upc_s _ _ _, h1, h2, h3⟩
  · have h := hmt.2 j hj2
    have e := hj (256 * t + j) (by omega)
    unfold MTs at h ⊢
    rw [upc_n q, e.1, e.2.1, e.2.2]
    exact h
theorem MT_clr {σ' : MS} (hmt : MT t n c σ) (hsl : m_slots σ' t = m_slots σ t) (hj : ∀ j, j ≠ 256 * t + i → m_full σ' j = m_full σ j ∧ m_keys σ' j = m_keys σ j ∧ m_values σ' j = m_values σ j) (h1 : m_full σ' (256 * t + i) = 0) : MT t n (upc c i none) σ' := by
  refine ⟨hsl.trans hmt.1, fun j hj2 => ?_⟩
  by_cases q : j = i
  · subst q
    exact Or.inl ⟨upc_s _ _ _, h1⟩
  · have h := hmt.2 j hj2
    have e := hj (256 * t + j) (by omega)
    unfold MTs at h ⊢
    rw [upc_n q, e.1, e.2.1, e.2.2]
    exact h
theorem up_s (f : Nat → Int32) (i : Nat) (x : Int32) : upd f i x i = x := if_pos rfl
theorem up_n {f : Nat → Int32} {i j : Nat} {x : Int32} (h : j ≠ i) : upd f i x j = f j := if_neg h
theorem m_carry_lp (hw : Way w) (hz : Sz n) (ht : t < 2) : ∀ (g f : Nat) (σ : MS) (c : Ct) (s far : Nat) (k v l : Int32), g < f → m_way σ = w → MT t n c σ → s < n → Gap n c s g → far + g < 2 ^ 20 → ∃ l' σ', mm_carries_lp20 f σ (nI t) 0 k v (nI s) l (nI far) = some (l', σ') ∧ MT t n (carry n (hm n (hsh w)) g c s far k v) σ' ∧ Kp t σ σ' ∧ m_many σ' t = m_many σ t + 1 := by
  have hle := hz.le
  intro g
  induction g with
  | zero =>
    intro f σ c s far k v l hgf hs hmt hsn hg hfar
    obtain ⟨f, rfl⟩ : ∃ f', f = f' + 1 := ⟨f - 1, by omega⟩
    have hc := gap_0 hsn hg
    have hix : 256 * t + s < 512 := by omega
    refine ⟨l, m_many' (m_full' (m_values' (m_keys' σ (upd (m_keys σ) (256 * t + s) k)) (upd (m_values σ) (256 * t + s) v)) (upd (m_full σ) (256 * t + s) 1)) (upd (m_many σ) t (m_many σ t + 1)), ?_, ?_, ⟨rfl, fun j hj => ⟨up_n (by omega), up_n (by omega), up_n (by omega)⟩, fun j hj => ⟨up_n hj, rfl⟩⟩, up_s _ _ _⟩
    · show mm_carries_20 (mm_carries_lp20 f) σ (nI t) 0 k v (nI s) l (nI far) = _
      unfold mm_carries_20
      simp only [ixe, g512 hix, cl512 hix, nm_eq, g2 ht, cl2 ht]
      rw [mk_none (hmt.2 s (by omega)) hc, it_T rfl, it_T trivial]
      rfl
    · exact MT_put (σ := σ) hmt (by omega) rfl (fun j hj => ⟨up_n hj, up_n hj, up_n hj⟩) (up_s _ _ _) (up_s _ _ _) (up_s _ _ _)
  | succ g ih =>
    intro f σ c s far k v l hgf hs hmt hsn hg hfar
    obtain ⟨f, rfl⟩ : ∃ f', f = f' + 1 := ⟨f - 1, by omega⟩
    have hix : 256 * t + s < 512 := by omega
    have hcs := gap_s hsn hg
    cases hc : c s with
    | none => exact absurd hc hcs
    | some a =>
      obtain ⟨k', v'⟩ := a
      have hns := nx_lt hsn
      have hd : dd n (hm n (hsh w) k') s < n := dd_lt (by omega)
      have hk := mk_some (hmt.2 s (by omega)) hc
      have hdst := m_dist hw hs hz ht hmt hsn hc
      have hun : mm_carries_lp20 (f + 1) σ (nI t) 0 k v (nI s) l (nI far) = mm_carries_20 (mm_carries_lp20 f) σ (nI t) 0 k v (nI s) l (nI far) := rfl
      by_cases q : dd n (hm n (hsh w) k') s < far
      · have e : carry n (hm n (hsh w)) (g + 1) c s far k v = carry n (hm n (hsh w)) g (upc c s (some (k, v))) (nx n s) (dd n (hm n (hsh w) k') s + 1) k' v' := by
          show (match c s with
            | none => upc c s (some (k, v))
            | some a => if dd n (hm n (hsh w) a.1) s < far then carry n (hm n (hsh w)) g (upc c s (some (k, v))) (nx n s) (dd n (hm n (hsh w) a.1) s + 1) a.1 a.2 else carry n (hm n (hsh w)) g c (nx n s) (far + 1) k v) = _
          rw [hc]
          exact if_pos q
        rw [e]
        obtain ⟨σ1, hσ1⟩ : ∃ z, z = m_values' (m_keys' σ (upd (m_keys σ) (256 * t + s) k)) (upd (m_values (m_keys' σ (upd (m_keys σ) (256 * t + s) k))) (256 * t + s) v) := ⟨_, rfl⟩
        have hsl : m_slots σ1 t = nI n := by rw [hσ1]; exact hmt.1
        have hm1 : MT t n (upc c s (some (k, v))) σ1 := by
          rw [hσ1]
          exact MT_put (σ := σ) hmt (by omega) rfl (fun j hj => ⟨rfl, up_n hj, up_n hj⟩) hk.1 (up_s _ _ _) (up_s _ _ _)
        have hk1 : Kp t σ σ1 := by
          rw [hσ1]
          exact ⟨rfl, fun j hj => ⟨rfl, up_n (by omega), up_n (by omega)⟩, fun j hj => ⟨rfl, rfl⟩⟩
        obtain ⟨l', σ', i1, i2, i3, i4⟩ := ih f σ1 (upc c s (some (k, v))) (nx n s) (dd n (hm n (hsh w) k') s + 1) k' v' (l + 1) (by omega) ((rst_way hk1.1).trans hs) hm1 hns (gap_n hsn hg) (by omega)
        refine ⟨l', σ', ?_, i2, hk1.tr i3, by rw [i4, hσ1]; rfl⟩
        rw [hun]
        unfold mm_carries_20 mm_carries_119 mm_carries_108
        simp only [ixe, g512 hix, cl512 hix, nm_eq, hk.1, hk.2.1, hk.2.2, hdst, bd_some]
        rw [it_F o10, it_F (nI_ge q (by omega)), it_T trivial, ← hσ1]
        unfold mm_carries_119
        simp only [g2 ht, cl2 ht, nm_eq, hsl, nI_1, nx_and1 hz hsn]
        exact i1
      · have e : carry n (hm n (hsh w)) (g + 1) c s far k v = carry n (hm n (hsh w)) g c (nx n s) (far + 1) k v := by
          show (match c s with
            | none => upc c s (some (k, v))
            | some a => if dd n (hm n (hsh w) a.1) s < far then carry n (hm n (hsh w)) g (upc c s (some (k, v))) (nx n s) (dd n (hm n (hsh w) a.1) s + 1) a.1 a.2 else carry n (hm n (hsh w)) g c (nx n s) (far + 1) k v) = _
          rw [hc]
          exact if_neg q
        rw [e]
        obtain ⟨l', σ', i1, i2, i3, i4⟩ := ih f σ c (nx n s) (far + 1) k v l (by omega) hs hmt hns (gap_n' hg) (by omega)
        refine ⟨l', σ', ?_, i2, i3, i4⟩
        rw [hun]
        unfold mm_carries_20
        simp only [ixe, g512 hix, cl512 hix, nm_eq, hk.1, hdst, bd_some]
        rw [it_F o10, it_T (nI_le (by omega) (by omega))]
        unfold mm_carries_119
        simp only [g2 ht, cl2 ht, nm_eq, hmt.1, nI_1, nx_and1 hz hsn]
        exact i1
theorem m_carry (hw : Way w) (hz : Sz n) (ht : t < 2) (hs : m_way σ = w) (hmt : MT t n c σ) {g : Nat} (k v : Int32) (hg : Gap n c (hm n (hsh w) k) g) : ∃ l' σ', mm_carries σ (nI t) k v 0 = some (l', σ') ∧ MT t n (carry n (hm n (hsh w)) g c (hm n (hsh w) k) 0 k v) σ' ∧ Kp t σ σ' ∧ m_many σ' t = m_many σ t + 1 := by
  have hle := hz.le
  have hgn := hg.2.2
  obtain ⟨l', σ', e1, e2, e3, e4⟩ := m_carry_lp hw hz ht g FU σ c (hm n (hsh w) k) 0 k v 0 (by show g < 1024; omega) hs hmt (hm_lt (by omega) k) hg (by omega)
  refine ⟨l', σ', ?_, e2, e3, e4⟩
  unfold mm_carries
  rw [m_home hw hs hz ht hmt.1, bd_some]
  exact e1
/-- only counted -/
theorem m_count_lp (hw : Way w) (hz : Sz n) (ht : t < 2) (hs : m_way σ = w) (hmt : MT t n c σ) : ∀ (g f s far : Nat) (k v : Int32) (l : Nat), g < f → s < n → Gap n c s g → far + g < 2 ^ 20 → mm_carries_lp20 f σ (nI t) 1 k v (nI s) (nI l) (nI far) = some (nI (l + lostf n (hm n (hsh w)) g c s far), σ) := by
  have hle := hz.le
  intro g
  induction g with
  | zero =>
    intro f s far k v l hgf hsn hg hfar
    obtain ⟨f, rfl⟩ : ∃ f', f = f' + 1 := ⟨f - 1, by omega⟩
    have hc := gap_0 hsn hg
    have hix : 256 * t + s < 512 := by omega
    show mm_carries_20 (mm_carries_lp20 f) σ (nI t) 1 k v (nI s) (nI l) (nI far) = _
    unfold mm_carries_20
    simp only [ixe, g512 hix, cl512 hix]
    rw [mk_none (hmt.2 s (by omega)) hc, it_T rfl, it_F o10]
    rfl
  | succ g ih =>
    intro f s far k v l hgf hsn hg hfar
    obtain ⟨f, rfl⟩ : ∃ f', f = f' + 1 := ⟨f - 1, by omega⟩
    have hix : 256 * t + s < 512 := by omega
    have hcs := gap_s hsn hg
    cases hc : c s with
    | none => exact absurd hc hcs
    | some a =>
      obtain ⟨k', v'⟩ := a
      have hns := nx_lt hsn
      have hd : dd n (hm n (hsh w) k') s < n := dd_lt (by omega)
      have hk := mk_some (hmt.2 s (by omega)) hc
      have hdst := m_dist hw hs hz ht hmt hsn hc
      have hun : mm_carries_lp20 (f + 1) σ (nI t) 1 k v (nI s) (nI l) (nI far) = mm_carries_20 (mm_carries_lp20 f) σ (nI t) 1 k v (nI s) (nI l) (nI far) := rfl
      have he : lostf n (hm n (hsh w)) (g + 1) c s far = if dd n (hm n (hsh w) k') s < far then lostf n (hm n (hsh w)) g c (nx n s) (dd n (hm n (hsh w) k') s + 1) + 1 else lostf n (hm n (hsh w)) g c (nx n s) (far + 1) := by
        show (match c s with
          | none => 0
          | some a => if dd n (hm n (hsh w) a.1) s < far then lostf n (hm n (hsh w)) g c (nx n s) (dd n (hm n (hsh w) a.1) s + 1) + 1 else lostf n (hm n (hsh w)) g c (nx n s) (far + 1)) = _
        rw [hc]
      rw [hun, he]
      unfold mm_carries_20
      simp only [ixe, g512 hix, cl512 hix, nm_eq, hk.1, hk.2.1, hk.2.2, hdst, bd_some]
      rw [it_F o10]
      by_cases q : dd n (hm n (hsh w) k') s < far
      · rw [it_T q, it_F (nI_ge q (by omega)), it_F o10]
        unfold mm_carries_108 mm_carries_119
        simp only [g2 ht, cl2 ht, nm_eq, hmt.1, nI_1, nx_and1 hz hsn]
        rw [ih f (nx n s) (dd n (hm n (hsh w) k') s + 1) k' v' (l + 1) (by omega) hns (gap_n' hg) (by omega)]
        congr 3
        omega
      · rw [it_F q, it_T (nI_le (by omega) (by omega))]
        unfold mm_carries_119
        simp only [g2 ht, cl2 ht, nm_eq, hmt.1, nI_1, nx_and1 hz hsn]
        rw [ih f (nx n s) (far + 1) k v l (by omega) hns (gap_n' hg) (by omega)]
theorem m_count (hw : Way w) (hz : Sz n) (ht : t < 2) (hs : m_way σ = w) (hmt : MT t n c σ) {g : Nat} (k v : Int32) (hg : Gap n c (hm n (hsh w) k) g) : mm_carries σ (nI t) k v 1 = some (nI (lostf n (hm n (hsh w)) g c (hm n (hsh w) k) 0), σ) := by
  have hle := hz.le
  have hgn := hg.2.2
  unfold mm_carries
  rw [m_home hw hs hz ht hmt.1, bd_some]
  have := m_count_lp hw hz ht hs hmt g FU (hm n (hsh w) k) 0 k v 0 (by show g < 1024; omega) (hm_lt (by omega) k) hg (by omega)
  rw [Nat.zero_add] at this
  exact this
/-- what a table's end of a taking out does -/
def tkEnd (t : Nat) (σ : MS) : MS := if nI t = m_present σ then m_many' σ (upd (m_many σ) t (m_many σ t - 1)) else if m_many σ t - 1 = 0 then m_slots' (m_many' σ (upd (m_many σ) t (m_many σ t - 1))) (upd (m_slots σ) t 0) else m_many' σ (upd (m_many σ) t (m_many σ t - 1))
theorem m_tkEnd (ht : t < 2) : mm_takes_152 σ (nI t) = some (tkEnd t σ) := by
  unfold mm_takes_152 tkEnd
  simp only [g2 ht, cl2 ht, nm_eq]
  show (if nI t = m_present σ then _ else if upd (m_many σ) t (m_many σ t - 1) t = 0 then _ else _) = _
  rw [up_s]
  split
  · rfl
  · split <;> rfl
theorem m_take_lp (hw : Way w) (hz : Sz n) (ht : t < 2) : ∀ (g f : Nat) (σ : MS) (c : Ct) (e : Nat), g < f → m_way σ = w → MT t n c σ → c e = none → e < n → Run n (hm n (hsh w)) c e g → ∃ σ', mm_takes_lp29 f σ (nI t) (nI e) (nI (nx n e)) = some (tkEnd t σ') ∧ MT t n (hole n g c e) σ' ∧ Kp t σ σ' ∧ m_many σ' t = m_many σ t := by
  have hle := hz.le
  intro g
  induction g with
  | zero =>
    intro f σ c e hgf hs hmt hc he hr
    obtain ⟨f, rfl⟩ : ∃ f', f = f' + 1 := ⟨f - 1, by omega⟩
    have hne := nx_lt he
    have hix : 256 * t + nx n e < 512 := by omega
    refine ⟨σ, ?_, hmt, Kp.rf, rfl⟩
    show mm_takes_29 (mm_takes_lp29 f) σ (nI t) (nI e) (nI (nx n e)) = _
    unfold mm_takes_29
    rw [ixe, g512 hix, cl512 hix]
    rcases run_0 hr with h | ⟨k1, v1, h, hz0⟩
    · rw [mk_none (hmt.2 _ (by omega)) h, it_T rfl]
      exact m_tkEnd ht
    · rw [(mk_some (hmt.2 _ (by omega)) h).1, it_F o10, m_dist hw hs hz ht hmt hne h, bd_some, hz0, it_T (by decide)]
      exact m_tkEnd ht
  | succ g ih =>
    intro f σ c e hgf hs hmt hc he hr
    obtain ⟨f, rfl⟩ : ∃ f', f = f' + 1 := ⟨f - 1, by omega⟩
    have hne := nx_lt he
    have hnn := nx_ne (n := n) (by omega) he
    have hns := run_s hr
    have hix : 256 * t + nx n e < 512 := by omega
    have hie : 256 * t + e < 512 := by omega
    cases hb : c (nx n e) with
    | none => exact absurd (Or.inl hb) hns
    | some a =>
      obtain ⟨k, v⟩ := a
      have hp : 0 < dd n (hm n (hsh w) k) (nx n e) := by
        rcases Nat.eq_zero_or_pos (dd n (hm n (hsh w) k) (nx n e)) with q | q
        · exact absurd (Or.inr ⟨k, v, hb, q⟩) hns
        · exact q
      have hd : dd n (hm n (hsh w) k) (nx n e) < n := dd_lt (by omega)
      have hk := mk_some (hmt.2 _ (show nx n e < 256 by omega)) hb
      obtain ⟨σ1, hσ1⟩ : ∃ z, z = m_full' (m_values' (m_keys' σ (upd (m_keys σ) (256 * t + e) k)) (upd (m_values σ) (256 * t + e) v)) (upd (m_full σ) (256 * t + e) 1) := ⟨_, rfl⟩
      have hm1 : MT t n (upc c e (c (nx n e))) σ1 := by
        rw [hσ1, hb]
        exact MT_put (σ := σ) hmt (by omega) rfl (fun j hj => ⟨up_n hj, up_n hj, up_n hj⟩) (up_s _ _ _) (up_s _ _ _) (up_s _ _ _)
      obtain ⟨σ2, hσ2⟩ : ∃ z, z = m_full' σ1 (upd (m_full σ1) (256 * t + nx n e) 0) := ⟨_, rfl⟩
      have hm2 : MT t n (upc (upc c e (c (nx n e))) (nx n e) none) σ2 := by
        rw [hσ2]
        exact MT_clr (σ := σ1) hm1 rfl (fun j hj => ⟨up_n hj, rfl, rfl⟩) (up_s _ _ _)
      have hk2 : Kp t σ σ2 := by
        rw [hσ2, hσ1]
        refine ⟨rfl, fun j hj => ⟨?_, up_n (by omega), up_n (by omega)⟩, fun j hj => ⟨rfl, rfl⟩⟩
        exact (up_n (by omega)).trans (up_n (by omega))
      obtain ⟨σ', i1, i2, i3, i4⟩ := ih f σ2 (upc (upc c e (c (nx n e))) (nx n e) none) (nx n e) (by omega) ((rst_way hk2.1).trans hs) hm2 (upc_s _ _ _) hne (run_n he hr)
      refine ⟨σ', ?_, i2, hk2.tr i3, by rw [i4, hσ2, hσ1]; rfl⟩
      show mm_takes_29 (mm_takes_lp29 f) σ (nI t) (nI e) (nI (nx n e)) = _
      unfold mm_takes_29
      simp only [ixe, g512 hix, cl512 hix, g512 hie, cl512 hie, nm_eq, g2 ht, cl2 ht, m_dist hw hs hz ht hmt hne hb, bd_some]
      rw [hk.1, it_F o10, it_F (nI_nle hp (by omega))]
      have hv1 : m_values (m_keys' σ (upd (m_keys σ) (256 * t + e) (m_keys σ (256 * t + nx n e)))) (256 * t + nx n e) = v := hk.2.2
      rw [hv1, hk.2.1]
      have hs2 : m_full' (m_full' (m_values' (m_keys' σ (upd (m_keys σ) (256 * t + e) k)) (upd (m_values (m_keys' σ (upd (m_keys σ) (256 * t + e) k))) (256 * t + e) v)) (upd (m_full (m_values' (m_keys' σ (upd (m_keys σ) (256 * t + e) k)) (upd (m_values (m_keys' σ (upd (m_keys σ) (256 * t + e) k))) (256 * t + e) v))) (256 * t + e) 1)) (upd (m_full (m_full' (m_values' (m_keys' σ (upd (m_keys σ) (256 * t + e) k)) (upd (m_values (m_keys' σ (upd (m_keys σ) (256 * t + e) k))) (256 * t + e) v)) (upd (m_full (m_values' (m_keys' σ (upd (m_keys σ) (256 * t + e) k)) (upd (m_values (m_keys' σ (upd (m_keys σ) (256 * t + e) k))) (256 * t + e) v))) (256 * t + e) 1))) (256 * t + nx n e) 0) = σ2 := by
        rw [hσ2, hσ1]
        rfl
      rw [hs2, hm2.1, nx_and hz hne]
      exact i1
theorem m_take (hw : Way w) (hz : Sz n) (ht : t < 2) (hs : m_way σ = w) (hmt : MT t n c σ) {g s : Nat} (hsn : s < n) (hr : Run n (hm n (hsh w)) (upc c s none) s g) : ∃ σ', mm_takes σ (nI t) (nI s) = some (tkEnd t σ') ∧ MT t n (hole n g (upc c s none) s) σ' ∧ Kp t σ σ' ∧ m_many σ' t = m_many σ t := by
  have hle := hz.le
  have hgn := hr.2.2
  have hie : 256 * t + s < 512 := by omega
  obtain ⟨σ1, hσ1⟩ : ∃ z, z = m_full' σ (upd (m_full σ) (256 * t + s) 0) := ⟨_, rfl⟩
  have hm1 : MT t n (upc c s none) σ1 := by
    rw [hσ1]
    exact MT_clr (σ := σ) hmt rfl (fun j hj => ⟨up_n hj, rfl, rfl⟩) (up_s _ _ _)
  have hk1 : Kp t σ σ1 := by
    rw [hσ1]
    exact ⟨rfl, fun j hj => ⟨up_n (by omega), rfl, rfl⟩, fun j hj => ⟨rfl, rfl⟩⟩
  obtain ⟨σ', e1, e2, e3, e4⟩ := m_take_lp hw hz ht g FU σ1 (upc c s none) s (by show g < 1024; omega) ((rst_way hk1.1).trans hs) hm1 (upc_s _ _ _) hsn hr
  refine ⟨σ', ?_, e2, hk1.tr e3, by rw [e4, hσ1]; rfl⟩
  unfold mm_takes
  rw [g2 ht, cl2 ht, hmt.1, nx_and hz hsn, nm_eq, ixe, g512 hie, cl512 hie, nm_eq, ← hσ1]
  exact e1
/-- a key's slot by a look at all slots -/
def fnd (c : Ct) (k : Int32) : Nat → Int32
  | 0 => -1
  | i + 1 => match c i with
    | none => fnd c k i
    | some a => if a.1 = k then nI i else fnd c k i
theorem m_slotOf_lp (hn : n ≤ 256) (ht : t < 2) (hmt : MT t n c σ) (k : Int32) : ∀ (d i f : Nat), i + d = n → d < f → mm_slotOf_lp5 σ f (nI t) k (fnd c k i) (nI i) = some (fnd c k n) := by
  intro d
  induction d with
  | zero =>
    intro i f hi hf
    obtain ⟨f, rfl⟩ : ∃ f', f = f' + 1 := ⟨f - 1, by omega⟩
    have : i = n := by omega
    subst this
    show mm_slotOf_5 σ (mm_slotOf_lp5 σ f) (nI t) k (fnd c k i) (nI i) = _
    unfold mm_slotOf_5
    rw [g2 ht, cl2 ht, hmt.1, it_T (nI_le (Nat.le_refl _) (by omega))]
  | succ d ih =>
    intro i f hi hf
    obtain ⟨f, rfl⟩ : ∃ f', f = f' + 1 := ⟨f - 1, by omega⟩
    have hix : 256 * t + i < 512 := by omega
    have hun : mm_slotOf_lp5 σ (f + 1) (nI t) k (fnd c k i) (nI i) = mm_slotOf_5 σ (mm_slotOf_lp5 σ f) (nI t) k (fnd c k i) (nI i) := rfl
    have hstep := ih (i + 1) f (by omega) (by omega)
    have he : fnd c k (i + 1) = match c i with
      | none => fnd c k i
      | some a => if a.1 = k then nI i else fnd c k i := rfl
    rw [hun]
    unfold mm_slotOf_5 mm_slotOf_55
    simp only [g2 ht, cl2 ht, hmt.1, ixe, g512 hix, cl512 hix, nm_eq, nI_1]
    rw [it_F (nI_ge (by omega) (by omega))]
    cases hc : c i with
    | none =>
      rw [hc] at he
      rw [mk_none (hmt.2 i (by omega)) hc, it_T rfl, ← show fnd c k (i + 1) = fnd c k i from he]
      exact hstep
    | some a =>
      rw [hc] at he
      have hk := mk_some (hmt.2 i (by omega)) (k := a.1) (v := a.2) hc
      rw [hk.1, it_F o10, hk.2.1]
      by_cases q : a.1 = k
      · rw [it_T q, ← show fnd c k (i + 1) = nI i from he.trans (if_pos q)]
        exact hstep
      · rw [it_F q, ← show fnd c k (i + 1) = fnd c k i from he.trans (if_neg q)]
        exact hstep
theorem m_slotOf (hn : n ≤ 256) (ht : t < 2) (hmt : MT t n c σ) (k : Int32) : mm_slotOf σ (nI t) k = some (fnd c k n) :=
  m_slotOf_lp hn ht hmt k n 0 FU (by omega) (by show n < 1024; omega)
theorem fnd_no {k : Int32} (h : ∀ i v, c i ≠ some (k, v)) : ∀ m : Nat, fnd c k m = -1
  | 0 => rfl
  | m + 1 => by
    show (match c m with
      | none => fnd c k m
      | some a => if a.1 = k then nI m else fnd c k m) = -1
    cases hc : c m with
    | none => exact fnd_no h m
    | some a =>
      show (if a.1 = k then nI m else fnd c k m) = -1
      rw [if_neg (fun z => h m a.2 (by rw [hc, ← z])), fnd_no h m]
theorem fnd_at {k v : Int32} {s : Nat} (hdj : Dj c) (h : c s = some (k, v)) : ∀ m : Nat, s < m → fnd c k m = nI s
  | 0, hm => by omega
  | m + 1, hm => by
    show (match c m with
      | none => fnd c k m
      | some a => if a.1 = k then nI m else fnd c k m) = nI s
    by_cases q : m = s
    · rw [q, h]
      exact if_pos rfl
    · cases hc : c m with
      | none => exact fnd_at hdj h m (by omega)
      | some a =>
        show (if a.1 = k then nI m else fnd c k m) = nI s
        rw [if_neg (fun z => q (hdj m s k a.2 v (by rw [hc, ← z]) h))]
        exact fnd_at hdj h m (by omega)
end MB
