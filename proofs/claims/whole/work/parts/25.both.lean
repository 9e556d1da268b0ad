/-! both tables together: the class's object against the reference's -/
def Tbl (n : Nat) (w : Int32) (c : Ct) (τ : Tb) (t : Nat) (m : MS) : Prop := TR n (hsh w) c τ ∧ MT t n c m ∧ tb_ct τ = nI (cnt n c) ∧ m_many m t = nI (cnt n c) ∧ Sup n c ∧ Dj c ∧ RH n (hm n (hsh w)) c
def No (c : Ct) (k : Int32) : Prop := ∀ s v, c s ≠ some (k, v)
def Cap (nP nO : Nat) (cP cO : Ct) : Prop := 8 * (cnt nP cP + cnt nO cO) ≤ 7 * nP ∧ cnt nP cP + cnt nO cO ≤ 200 ∧ (nO = 0 ∨ (Sz nO ∧ nP = 2 * nO ∧ 0 < cnt nO cO ∧ 8 * cnt nO cO ≤ 7 * nO ∧ 32 * (cnt nP cP + cnt nO cO) + 8 * cnt nO cO ≤ 35 * nO + 32))
def TI (w : Int32) (t nP nO : Nat) (cP cO : Ct) (x : RR) (m : MS) : Prop := Way w ∧ t < 2 ∧ rr_way x = w ∧ m_way m = w ∧ m_present m = nI t ∧ Sz nP ∧ Tbl nP w cP (rr_P x) t m ∧ Tbl nO w cO (rr_O x) (1 - t) m ∧ (∀ k v v', Mem cP k v → Mem cO k v' → False) ∧ (∀ k v, Mem cP k v ∨ Mem cO k v → 0 ≤ v) ∧ Cap nP nO cP cO ∧ rr_ap x ≠ rr_ao x
section TI
variable {w : Int32} {t nP nO : Nat} {cP cO : Ct} {x : RR} {m : MS} {k v : Int32}
theorem TI.se (h : TI w t nP nO cP cO x m) (s : Se) : TI w t nP nO cP cO (rr_se' x s) m := h
theorem TI.thr (h : TI w t nP nO cP cO x m) (z : Int32) : TI w t nP nO cP cO x (m_thrown' m z) := h
theorem TI.wy (h : TI w t nP nO cP cO x m) : Way w := h.1
theorem TI.t2 (h : TI w t nP nO cP cO x m) : t < 2 := h.2.1
theorem TI.xw (h : TI w t nP nO cP cO x m) : rr_way x = w := h.2.2.1
theorem TI.mw (h : TI w t nP nO cP cO x m) : m_way m = w := h.2.2.2.1
theorem TI.pr (h : TI w t nP nO cP cO x m) : m_present m = nI t := h.2.2.2.2.1
theorem TI.sz (h : TI w t nP nO cP cO x m) : Sz nP := h.2.2.2.2.2.1
theorem TI.tP (h : TI w t nP nO cP cO x m) : Tbl nP w cP (rr_P x) t m := h.2.2.2.2.2.2.1
theorem TI.tO (h : TI w t nP nO cP cO x m) : Tbl nO w cO (rr_O x) (1 - t) m := h.2.2.2.2.2.2.2.1
theorem TI.dis (h : TI w t nP nO cP cO x m) : ∀ k v v', Mem cP k v → Mem cO k v' → False := h.2.2.2.2.2.2.2.2.1
theorem TI.val (h : TI w t nP nO cP cO x m) : ∀ k v, Mem cP k v ∨ Mem cO k v → 0 ≤ v := h.2.2.2.2.2.2.2.2.2.1
theorem TI.cap (h : TI w t nP nO cP cO x m) : Cap nP nO cP cO := h.2.2.2.2.2.2.2.2.2.2.1
theorem TI.ne (h : TI w t nP nO cP cO x m) : rr_ap x ≠ rr_ao x := h.2.2.2.2.2.2.2.2.2.2.2
theorem TI.nOz (h : TI w t nP nO cP cO x m) : nO = 0 ∨ Sz nO := by
  rcases h.cap.2.2 with q | q
  · exact Or.inl q
  · exact Or.inr q.1
theorem TI.nO256 (h : TI w t nP nO cP cO x m) : nO ≤ 256 := by
  rcases h.nOz with q | q
  · omega
  · exact q.le.2
theorem one_sub {t : Nat} (h : t < 2) : (1 : Int32) - nI t = nI (1 - t) := by
  rw [show (1 : Int32) = nI 1 from rfl, pk_sub (by omega)]
theorem No.of {c c' : Ct} (hd : ∀ k v v', Mem c k v → Mem c' k v' → False) {s : Nat} (h : c s = some (k, v)) : No c' k := fun s' v' h' => hd k v v' ⟨s, h⟩ ⟨s', h'⟩
theorem No.of' {c c' : Ct} (hd : ∀ k v v', Mem c k v → Mem c' k v' → False) {s : Nat} (h : c' s = some (k, v)) : No c k := fun s' v' h' => hd k v' v ⟨s', h'⟩ ⟨s, h⟩
theorem in_lt {n : Nat} {c : Ct} (hs : Sup n c) {s : Nat} (h : c s = some (k, v)) : s < n := by
  rcases Nat.lt_or_ge s n with q | q
  · exact q
  · rw [hs s q] at h
    cases h
theorem slot_no {n : Nat} {c : Ct} (hn : n ≤ 256) (ht : t < 2) (hmt : MT t n c m) (h : No c k) : mm_slotOf m (nI t) k = some (-1) := by
  rw [m_slotOf hn ht hmt, fnd_no h]
theorem slot_at {n : Nat} {c : Ct} (hn : n ≤ 256) (ht : t < 2) (hmt : MT t n c m) (hsup : Sup n c) (hdj : Dj c) {s : Nat} (h : c s = some (k, v)) : mm_slotOf m (nI t) k = some (nI s) := by
  rw [m_slotOf hn ht hmt, fnd_at hdj h n (in_lt hsup h)]
theorem slot_m1 {n : Nat} {c : Ct} (hn : n ≤ 256) (hsup : Sup n c) {s : Nat} (h : c s = some (k, v)) : ¬ nI s = -1 := nI_m1 (by have := in_lt hsup h; omega)
theorem hash_eq (hw : Way w) (hx : rr_way x = w) (k : Int32) : rr_hash x k = some (hsh w k) := by
  unfold rr_hash hsh
  rcases hw with rfl | rfl
  · rw [hx, it_T rfl, it_T rfl]
  · rw [hx, it_F o10, nm_eq, it_F o10]
/-- the answer of a look-up: in the present table, in the old one, or nowhere -/
def LkA (nP nO : Nat) (cP cO : Ct) (x : RR) (k : Int32) (se : Se) : Prop := (se_tb se = some (rr_ap x) ∧ (∃ s v, se_slot se = nI s ∧ s < nP ∧ cP s = some (k, v)) ∧ No cO k) ∨ (se_tb se = some (rr_ao x) ∧ (∃ s v, se_slot se = nI s ∧ s < nO ∧ cO s = some (k, v)) ∧ No cP k) ∨ (se_tb se = none ∧ No cP k ∧ No cO k)
theorem rr_look (h : TI w t nP nO cP cO x m) (k : Int32) : ∃ (se : Se) (G Q : Nat), rr_lookUp x k = some (rr_se' x se) ∧ mm_looksBoth m k = some (nI (1000 * G + Q)) ∧ se_groups se = nI G ∧ se_comps se = nI Q ∧ G ≤ 64 ∧ Q ≤ 512 ∧ LkA nP nO cP cO x k se := by
  have ht := h.t2
  have hsz := h.sz.le
  obtain ⟨p1, p2, p3, p4, p5, p6, p7⟩ := h.tP
  obtain ⟨o1, o2, o3, o4, o5, o6, o7⟩ := h.tO
  obtain ⟨g, q, fd, a1, a2, a3, a4, a5, a6⟩ := look_tab (τ := rr_P x) h.wy h.mw (Or.inr h.sz) ht p1 p2 p5 p7 (rr_ap x) (se_slot (rr_se x)) (G := 0) (Q := 0) (by omega) k
  rw [Nat.zero_add, Nat.zero_add] at a1
  have hlook : rr_lookUp x k = bd (some (seF (rr_ap x) (se_slot (rr_se x)) (nI g) (nI q) fd)) (fun s6 => nm (rr_se' x s6) fun s7 => bd (ss_hasFound (rr_se s7)) fun v8 => if v8 = 0 then bd (ss_lookIn (rr_ao s7) (rr_O s7) (rr_se s7) k (hsh w k)) fun s11 => nm (rr_se' s7 s11) fun s12 => some s12 else some s7) := by
    unfold rr_lookUp
    rw [hash_eq h.wy h.xw, bd_some, ← a1]
    rfl
  have hboth : mm_looksBoth m k = bd (mm_slotOf m (nI t) k) (fun v2 => if v2 = -1 then bd (mm_looks m (nI (1 - t)) k) (fun v4 => some (nI (1000 * g + q) + v4)) else some (nI (1000 * g + q))) := by
    unfold mm_looksBoth
    rw [h.pr, a2, bd_some, one_sub ht]
  cases fd with
  | some s =>
    obtain ⟨hsn, v, hv⟩ := a5 s rfl
    refine ⟨(some (rr_ap x), nI s, nI g, nI q), g, q, ?_, ?_, rfl, rfl, by omega, by omega, Or.inl ⟨rfl, ⟨s, v, rfl, hsn, hv⟩, No.of h.dis hv⟩⟩
    · rw [hlook, bd_some, nm_eq]
      rfl
    · rw [hboth, slot_at hsz.2 ht p2 p5 p6 hv, bd_some, it_F (slot_m1 hsz.2 p5 hv)]
  | none =>
    have hno : No cP k := a6 rfl
    obtain ⟨g2', q2, fd2, b1, b2, b3, b4, b5, b6⟩ := look_tab (τ := rr_O x) h.wy h.mw h.nOz (t := 1 - t) (by omega) o1 o2 o5 o7 (rr_ao x) (se_slot (rr_se x)) (G := g) (Q := q) (by omega) k
    refine ⟨seF (rr_ao x) (se_slot (rr_se x)) (nI (g + g2')) (nI (q + q2)) fd2, g + g2', q + q2, ?_, ?_, by cases fd2 <;> rfl, by cases fd2 <;> rfl, by omega, by omega, ?_⟩
    · rw [hlook, bd_some, nm_eq, show ss_hasFound (rr_se (rr_se' x (seF (rr_ap x) (se_slot (rr_se x)) (nI g) (nI q) none))) = some 0 from rfl, bd_some, it_T rfl, show ss_lookIn (rr_ao (rr_se' x (seF (rr_ap x) (se_slot (rr_se x)) (nI g) (nI q) none))) (rr_O (rr_se' x (seF (rr_ap x) (se_slot (rr_se x)) (nI g) (nI q) none))) (rr_se (rr_se' x (seF (rr_ap x) (se_slot (rr_se x)) (nI g) (nI q) none))) k (hsh w k) = some (seF (rr_ao x) (se_slot (rr_se x)) (nI (g + g2')) (nI (q + q2)) fd2) from b1, bd_some]
      rfl
    · rw [hboth, slot_no hsz.2 ht p2 hno, bd_some, it_T rfl, b2, bd_some, nI_add]
      congr 2
      omega
    · cases fd2 with
      | some s =>
        obtain ⟨hsn, v, hv⟩ := b5 s rfl
        exact Or.inr (Or.inl ⟨rfl, ⟨s, v, rfl, hsn, hv⟩, hno⟩)
      | none => exact Or.inr (Or.inr ⟨rfl, hno, b6 rfl⟩)
/-! the reference's place of a key -/
theorem place_15 (hs : ∃ s, mm_isThere m k = some 1 ∧ mm_slotOf m (nI t) k = some (nI s)) : ∃ s, mm_slotOf m (nI t) k = some (nI s) ∧ mm_placeOf_15 m k (nI t) = some (nI (256 * t + s)) := by
  obtain ⟨s, h1, h2⟩ := hs
  refine ⟨s, h2, ?_⟩
  unfold mm_placeOf_15
  rw [h1, bd_some, it_F o10, h2, bd_some, show (256 : Int32) = nI 256 from rfl, pk_mul, nI_add]
theorem place_gen (ht : t < 2) {s : Nat} (hs : s < 256) (h1 : mm_slotOf m (nI t) k = some (nI s)) (h2 : mm_slotOf m (nI (1 - t)) k = some (-1)) : mm_placeOf m k = some (nI (256 * t + s)) ∧ mm_isThere m k = some 1 := by
  have hm1 : ¬ nI s = -1 := nI_m1 (by omega)
  have hth : mm_isThere m k = some 1 := by
    unfold mm_isThere
    have : t = 0 ∨ t = 1 := by omega
    rcases this with rfl | rfl
    · rw [show (0 : Int32) = nI 0 from rfl, h1, bd_some, it_F hm1]
    · rw [show mm_slotOf m 0 k = some (-1) from h2, bd_some, it_T rfl, show mm_slotOf m 1 k = some (nI s) from h1, bd_some, it_F hm1]
  refine ⟨?_, hth⟩
  unfold mm_placeOf
  have : t = 0 ∨ t = 1 := by omega
  rcases this with rfl | rfl
  · rw [show mm_slotOf m 0 k = some (nI s) from h1, bd_some, it_F hm1]
    unfold mm_placeOf_15
    rw [hth, bd_some, it_F o10, show mm_slotOf m 0 k = some (nI s) from h1, bd_some, show (256 : Int32) = nI 256 from rfl, show (0 : Int32) = nI 0 from rfl, pk_mul, nI_add]
  · rw [show mm_slotOf m 0 k = some (-1) from h2, bd_some, it_T rfl]
    unfold mm_placeOf_15
    rw [hth, bd_some, it_F o10, show mm_slotOf m 1 k = some (nI s) from h1, bd_some, show (256 : Int32) = nI 256 from rfl, show (1 : Int32) = nI 1 from rfl, pk_mul, nI_add]
theorem place_non (ht : t < 2) (h1 : mm_slotOf m (nI t) k = some (-1)) (h2 : mm_slotOf m (nI (1 - t)) k = some (-1)) : mm_placeOf m k = some (-1) ∧ mm_isThere m k = some 0 := by
  have h0 : mm_slotOf m 0 k = some (-1) ∧ mm_slotOf m 1 k = some (-1) := by
    have : t = 0 ∨ t = 1 := by omega
    rcases this with rfl | rfl
    · exact ⟨h1, h2⟩
    · exact ⟨h2, h1⟩
  have hth : mm_isThere m k = some 0 := by
    unfold mm_isThere
    rw [h0.1, bd_some, it_T rfl, h0.2, bd_some, it_T rfl]
  refine ⟨?_, hth⟩
  unfold mm_placeOf mm_placeOf_15
  rw [h0.1, bd_some, it_T rfl, hth, bd_some, it_T rfl]
theorem place_P (h : TI w t nP nO cP cO x m) {s : Nat} (hv : cP s = some (k, v)) : mm_placeOf m k = some (nI (256 * t + s)) ∧ mm_isThere m k = some 1 ∧ mm_slotOf m (nI t) k = some (nI s) := by
  have hsz := h.sz.le
  obtain ⟨p1, p2, p3, p4, p5, p6, p7⟩ := h.tP
  obtain ⟨o1, o2, o3, o4, o5, o6, o7⟩ := h.tO
  have h1 := slot_at hsz.2 h.t2 p2 p5 p6 hv
  obtain ⟨a, b⟩ := place_gen h.t2 (by have := in_lt p5 hv; omega) h1 (slot_no h.nO256 (by omega) o2 (No.of h.dis hv))
  exact ⟨a, b, h1⟩
theorem place_O (h : TI w t nP nO cP cO x m) {s : Nat} (hv : cO s = some (k, v)) : mm_placeOf m k = some (nI (256 * (1 - t) + s)) ∧ mm_isThere m k = some 1 ∧ mm_slotOf m (nI t) k = some (-1) := by
  have hsz := h.sz.le
  have ht := h.t2
  have h256 := h.nO256
  obtain ⟨p1, p2, p3, p4, p5, p6, p7⟩ := h.tP
  obtain ⟨o1, o2, o3, o4, o5, o6, o7⟩ := h.tO
  have h1 := slot_no hsz.2 h.t2 p2 (No.of' h.dis hv)
  obtain ⟨a, b⟩ := place_gen (t := 1 - t) (by omega) (by have := in_lt o5 hv; omega) (slot_at h.nO256 (by omega) o2 o5 o6 hv) (by rw [show 1 - (1 - t) = t by omega]; exact h1)
  exact ⟨a, b, h1⟩
theorem place_no (h : TI w t nP nO cP cO x m) (h1 : No cP k) (h2 : No cO k) : mm_placeOf m k = some (-1) ∧ mm_isThere m k = some 0 ∧ mm_slotOf m (nI t) k = some (-1) := by
  have hsz := h.sz.le
  have ht := h.t2
  obtain ⟨p1, p2, p3, p4, p5, p6, p7⟩ := h.tP
  obtain ⟨o1, o2, o3, o4, o5, o6, o7⟩ := h.tO
  have e1 := slot_no hsz.2 h.t2 p2 h1
  obtain ⟨a, b⟩ := place_non h.t2 e1 (slot_no h.nO256 (by omega) o2 h2)
  exact ⟨a, b, e1⟩
/-! get -/
theorem get_eq (h : TI w t nP nO cP cO x m) (k : Int32) : ∃ (r : Int32) (se : Se), rr_get x k = some (r, rr_se' x se) ∧ mm_get m k = some (r, m_thrown' m 0) ∧ (r = -1 ↔ (No cP k ∧ No cO k)) := by
  have hsz := h.sz.le
  have h256 := h.nO256
  have ht := h.t2
  obtain ⟨p1, p2, p3, p4, p5, p6, p7⟩ := h.tP
  obtain ⟨o1, o2, o3, o4, o5, o6, o7⟩ := h.tO
  obtain ⟨se, G, Q, a1, -, -, -, -, -, a2⟩ := rr_look h k
  have hm : mm_get m k = bd (mm_placeOf (m_thrown' m 0) k) (fun v2 => if v2 = -1 then some (-1, m_thrown' m 0) else gd v2 512 (some (m_values m v2.toNatClampNeg, m_thrown' m 0))) := rfl
  have hc : rr_get x k = bd (ss_hasFound se) (fun v3 => if v3 = 0 then some (-1, rr_se' x se) else dsp (se_tb se) (rr_ap x) (rr_ao x) (bd (tt_valueIn (rr_P x) (se_slot se)) fun v6 => some (v6, rr_se' x se)) (bd (tt_valueIn (rr_O x) (se_slot se)) fun v7 => some (v7, rr_se' x se))) := by
    unfold rr_get
    rw [a1]
    rfl
  have hneg : ∀ v : Int32, 0 ≤ v → v ≠ -1 := fun v hv z => by rw [z] at hv; exact absurd hv (by decide)
  rcases a2 with ⟨b1, ⟨s, v, b2, b3, b4⟩, b5⟩ | ⟨b1, ⟨s, v, b2, b3, b4⟩, b5⟩ | ⟨b1, b2, b3⟩
  · refine ⟨v, se, ?_, ?_, fun z => absurd z (hneg v (h.val k v (Or.inl ⟨s, b4⟩))), fun z => absurd b4 (z.1 s v)⟩
    · rw [hc, show ss_hasFound se = some 1 from if_neg (by rw [b1]; exact fun z => by cases z), bd_some, it_F o10, b1, b2, t_value (by omega) (p1.2 s b3) b4]
      exact if_pos rfl
    · rw [hm, (place_P (h.thr 0) b4).1, bd_some, it_F (nI_m1 (by omega)), g512 (by omega), cl512 (by omega), (mk_some (p2.2 s (by omega)) b4).2.2]
  · refine ⟨v, se, ?_, ?_, fun z => absurd z (hneg v (h.val k v (Or.inr ⟨s, b4⟩))), fun z => absurd b4 (z.2 s v)⟩
    · rw [hc, show ss_hasFound se = some 1 from if_neg (by rw [b1]; exact fun z => by cases z), bd_some, it_F o10, b1, b2, t_value (by omega) (o1.2 s b3) b4]
      unfold dsp
      rw [if_neg (fun z => h.ne (Option.some.inj z).symm), if_pos rfl]
      rfl
    · rw [hm, (place_O (h.thr 0) b4).1, bd_some, it_F (nI_m1 (by omega)), g512 (by omega), cl512 (by omega), (mk_some (o2.2 s (by omega)) b4).2.2]
  · refine ⟨-1, se, ?_, ?_, fun _ => ⟨b2, b3⟩, fun _ => rfl⟩
    · rw [hc, show ss_hasFound se = some 0 from if_pos b1, bd_some, it_T rfl]
    · rw [hm, (place_no (h.thr 0) b2 b3).1, bd_some, it_T rfl]
end TI
