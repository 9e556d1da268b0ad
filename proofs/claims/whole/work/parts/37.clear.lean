/-! a fresh table, clear -/
def Nn : Ct := fun _ => none
theorem cnt_Nn (n : Nat) : cnt n Nn = 0 := by
  induction n with
  | zero => rfl
  | succ n ih => exact ih
section FR
variable {x x' : RR} {m m' : MS} {B : Nat} {w : Int32}
theorem tbl_fresh {n t : Nat} {τ : Tb} (h : TR n (hsh w) Nn τ) (hc : tb_ct τ = 0) (hs : m_slots m t = nI n) (hm : m_many m t = 0) (hf : ∀ j, j < 512 → m_full m j = 0) (ht : t < 2) : Tbl n w Nn τ t m := ⟨h, ⟨hs, fun i hi => Or.inl ⟨rfl, hf _ (by omega)⟩⟩, by rw [hc, cnt_Nn]; rfl, by rw [hm, cnt_Nn]; rfl, fun _ _ => rfl, fun i j k v v' z => (by cases z), fun i hi k v z => (by cases z)⟩
theorem ti_fresh (hw : Way w) (h1 : rr_way x = w) (h2 : m_way m = w) (h3 : m_present m = 0) (hP : TR 8 (hsh w) Nn (rr_P x)) (hPc : tb_ct (rr_P x) = 0) (hO : TR 0 (hsh w) Nn (rr_O x)) (hOc : tb_ct (rr_O x) = 0) (s0 : m_slots m 0 = 8) (s1 : m_slots m 1 = 0) (n0 : m_many m 0 = 0) (n1 : m_many m 1 = 0) (hf : ∀ j, j < 512 → m_full m j = 0) (hne : rr_ap x ≠ rr_ao x) : TI w 0 8 0 Nn Nn x m := by
  refine ⟨hw, by omega, h1, h2, h3, Or.inl rfl, tbl_fresh hP hPc s0 n0 hf (by omega), tbl_fresh hO hOc s1 n1 hf (by omega), fun k v v' z => ?_, fun k v z => ?_, ?_, hne⟩
  · obtain ⟨i, z⟩ := z
    cases z
  · rcases z with ⟨i, z⟩ | ⟨i, z⟩
    · cases z
    · cases z
  · unfold Cap
    rw [cnt_Nn, cnt_Nn]
    exact ⟨by omega, by omega, Or.inl rfl⟩
theorem si_closed (hx : ∀ i, i < 4 → sw_open (rr_sws x i) = 0) (hm : ∀ i, i < 4 → m_open m i = 0) : SI x m B := fun i hi => ⟨by rw [hx i hi, hm i hi], fun z => absurd (hm i hi) z⟩
def clrB (x : RR) (a : Int32) : Option (Ex RR) := nm (rr_way' x a) fun s2 =>
    bd (tt_emptyWith (rr_P s2) 8) fun s4 =>
    nm (rr_P' s2 s4) fun s5 =>
    bd (tt_emptyWith (rr_O s5) 0) fun s7 =>
    nm (rr_O' s5 s7) fun s8 =>
    nm (rr_begun' s8 0) fun s9 =>
    bd (ww_end (rr_sws s9 0)) fun s12 =>
    nm (rr_sws' s9 (va_up (rr_sws s9) 0 s12)) fun s13 =>
    bd (ww_end (rr_sws s13 1)) fun s16 =>
    nm (rr_sws' s13 (va_up (rr_sws s13) 1 s16)) fun s17 =>
    bd (ww_end (rr_sws s17 2)) fun s20 =>
    nm (rr_sws' s17 (va_up (rr_sws s17) 2 s20)) fun s21 =>
    bd (ww_end (rr_sws s21 3)) fun s24 =>
    nm (rr_sws' s21 (va_up (rr_sws s21) 3 s24)) fun s25 =>
    some (.inl s25)
theorem clr_cls (x : RR) (a : Int32) : ∃ x', clrB x a = some (.inl x') ∧ rr_way x' = a ∧ TR 8 (hsh a) Nn (rr_P x') ∧ tb_ct (rr_P x') = 0 ∧ TR 0 (hsh a) Nn (rr_O x') ∧ tb_ct (rr_O x') = 0 ∧ rr_ap x' = rr_ap x ∧ rr_ao x' = rr_ao x ∧ rr_begun x' = 0 ∧ ∀ i, i < 4 → sw_open (rr_sws x' i) = 0 := by
  obtain ⟨y1, y2, y3, y4, S, y6, y7, y8, y9⟩ := x
  obtain ⟨τ8, e1, e2, e3⟩ := t_emptyWith (n := 8) (hf := hsh a) (by omega) y1
  obtain ⟨τ0, f1, f2, f3⟩ := t_emptyWith (n := 0) (hf := hsh a) (by omega) y2
  obtain ⟨S1, hS1⟩ : ∃ S1, va_up S 0 (sw_open' (S 0) 0) = S1 := ⟨_, rfl⟩
  obtain ⟨S2, hS2⟩ : ∃ S2, va_up S1 1 (sw_open' (S1 1) 0) = S2 := ⟨_, rfl⟩
  obtain ⟨S3, hS3⟩ : ∃ S3, va_up S2 2 (sw_open' (S2 2) 0) = S3 := ⟨_, rfl⟩
  obtain ⟨S4, hS4⟩ : ∃ S4, va_up S3 3 (sw_open' (S3 3) 0) = S4 := ⟨_, rfl⟩
  refine ⟨(τ8, τ0, y3, y4, S4, y6, y7, a, 0), ?_, rfl, e2, e3, f2, f3, rfl, rfl, rfl, fun i hi => ?_⟩
  · unfold clrB
    rw [nm_eq]
    refine (congrArg (fun o => bd o _) (show tt_emptyWith (rr_P (rr_way' (y1, y2, y3, y4, S, y6, y7, y8, y9) a)) 8 = some τ8 from e1)).trans ?_
    rw [bd_some, nm_eq]
    refine (congrArg (fun o => bd o _) (show tt_emptyWith (rr_O (rr_P' (rr_way' (y1, y2, y3, y4, S, y6, y7, y8, y9) a) τ8)) 0 = some τ0 from f1)).trans ?_
    rw [bd_some, nm_eq, nm_eq]
    subst hS4 hS3 hS2 hS1
    rfl
  · show sw_open (S4 i) = 0
    rcases (show i = 0 ∨ i = 1 ∨ i = 2 ∨ i = 3 by omega) with rfl | rfl | rfl | rfl <;> subst hS4 hS3 hS2 hS1 <;> rfl
theorem mF_F (m : MS) (F F' : Nat → Int32) : m_full' (m_full' m F) F' = m_full' m F' := by
  obtain ⟨q1, q2, q3, q4, q5, q6, q7, q8, q9, q10, q11, q12, q13, q14, q15, q16, q17⟩ := m
  rfl
theorem mF_self (m : MS) : m_full' m (m_full m) = m := by
  obtain ⟨q1, q2, q3, q4, q5, q6, q7, q8, q9, q10, q11, q12, q13, q14, q15, q16, q17⟩ := m
  rfl
theorem mO_O (m : MS) (F F' : Nat → Int32) : m_open' (m_open' m F) F' = m_open' m F' := by
  obtain ⟨q1, q2, q3, q4, q5, q6, q7, q8, q9, q10, q11, q12, q13, q14, q15, q16, q17⟩ := m
  rfl
theorem mO_self (m : MS) : m_open' m (m_open m) = m := by
  obtain ⟨q1, q2, q3, q4, q5, q6, q7, q8, q9, q10, q11, q12, q13, q14, q15, q16, q17⟩ := m
  rfl
def ClM (a z : Int32) (m : MS) : Prop := m_way m = a ∧ m_present m = 0 ∧ m_slots m 0 = 8 ∧ m_slots m 1 = 0 ∧ m_many m 0 = 0 ∧ m_many m 1 = 0 ∧ (∀ j, j < 512 → m_full m j = 0) ∧ m_moves m = 0 ∧ m_thrown m = z
theorem cl29_end (k : MS → Int32 → Option MS) (m : MS) (h : ∀ j, j < 512 → m_full m j = 0) : ∃ m', mm_clear_29 k m (nI 512) = mm_clear_lp90 FU m' 0 ∧ ClM (m_way m) (m_thrown m) m' := by
  obtain ⟨q1, q2, q3, q4, q5, q6, q7, q8, q9, q10, q11, q12, q13, q14, q15, q16, q17⟩ := m
  refine ⟨(q1, q2, q3, upd (upd q4 0 8) 1 0, upd (upd q5 0 0) 1 0, 0, q7, 0, q9, q10, q11, q12, q13, q14, q15, q16, q17), ?_, rfl, rfl, rfl, rfl, rfl, rfl, h, rfl, rfl⟩
  unfold mm_clear_29
  rw [it_T (show (512 : Int32) ≤ nI 512 from Int32.le_refl _), nm_eq, g2_0, nm_eq, g2_1, nm_eq, g2_0, nm_eq, g2_1, nm_eq, nm_eq]
  rfl
theorem cl29_lp (m : MS) : ∀ d i f (F : Nat → Int32), i + d = 512 → d < f → (∀ j, j < i → F j = 0) → ∃ m', mm_clear_lp29 f (m_full' m F) (nI i) = mm_clear_lp90 FU m' 0 ∧ ClM (m_way m) (m_thrown m) m' := by
  intro d
  induction d with
  | zero =>
    intro i f F hi hf h
    obtain ⟨f, rfl⟩ : ∃ f2, f = f2 + 1 := ⟨f - 1, by omega⟩
    obtain rfl : i = 512 := by omega
    exact cl29_end (mm_clear_lp29 f) (m_full' m F) h
  | succ d ih =>
    intro i f F hi hf h
    obtain ⟨f, rfl⟩ : ∃ f2, f = f2 + 1 := ⟨f - 1, by omega⟩
    have e1 : mm_clear_lp29 (f + 1) (m_full' m F) (nI i) = mm_clear_29 (mm_clear_lp29 f) (m_full' m F) (nI i) := rfl
    rw [e1]
    unfold mm_clear_29
    rw [it_F (show ¬ (512 : Int32) ≤ nI i from nI_ge (b := 512) (by omega) (by omega)), g512 (by omega), cl512 (by omega), nm_eq, mF_F, nm_eq, nI_1]
    refine ih (i + 1) f (upd F i 0) (by omega) (by omega) (fun j hj => ?_)
    by_cases q : j = i
    · rw [q, up_s]
    · rw [up_n q]
      exact h j (by omega)
theorem g4 {α : Type} {i : Nat} {z : Option α} (hi : i < 4) : gd (nI i) 4 z = z := gd_of (vp_in_nI hi (by omega))
theorem cl4 {i : Nat} (hi : i < 4) : (nI i).toNatClampNeg = i := nI_clamp (by omega)
theorem cl90_lp (m : MS) : ∀ d i f (F : Nat → Int32), i + d = 4 → d < f → (∀ j, j < i → F j = 0) → ∃ F' : Nat → Int32, mm_clear_lp90 f (m_open' m F) (nI i) = some (m_open' m F') ∧ ∀ j, j < 4 → F' j = 0 := by
  intro d
  induction d with
  | zero =>
    intro i f F hi hf h
    obtain ⟨f, rfl⟩ : ∃ f2, f = f2 + 1 := ⟨f - 1, by omega⟩
    refine ⟨F, ?_, fun j hj => h j (by omega)⟩
    show mm_clear_90 (mm_clear_lp90 f) (m_open' m F) (nI i) = _
    unfold mm_clear_90
    rw [it_T (show (4 : Int32) ≤ nI i from nI_le (a := 4) (by omega) (by omega))]
  | succ d ih =>
    intro i f F hi hf h
    obtain ⟨f, rfl⟩ : ∃ f2, f = f2 + 1 := ⟨f - 1, by omega⟩
    have e1 : mm_clear_lp90 (f + 1) (m_open' m F) (nI i) = mm_clear_90 (mm_clear_lp90 f) (m_open' m F) (nI i) := rfl
    rw [e1]
    unfold mm_clear_90
    rw [it_F (show ¬ (4 : Int32) ≤ nI i from nI_ge (b := 4) (by omega) (by omega)), g4 (by omega), cl4 (by omega), nm_eq, mO_O, nm_eq, nI_1]
    refine ih (i + 1) f (upd F i 0) (by omega) (by omega) (fun j hj => ?_)
    by_cases q : j = i
    · rw [q, up_s]
    · rw [up_n q]
      exact h j (by omega)
theorem mm_clr (m : MS) (a : Int32) : ∃ m', mm_clear_15 m a 0 = some m' ∧ ClM a 0 m' ∧ ∀ i, i < 4 → m_open m' i = 0 := by
  obtain ⟨m1, a1, a2⟩ := cl29_lp (m_way' (m_thrown' m 0) a) 512 0 FU (m_full m) (by omega) (by show 512 < 1024; omega) (fun j hj => absurd hj (Nat.not_lt_zero j))
  obtain ⟨F, b1, b2⟩ := cl90_lp m1 4 0 FU (m_open m1) (by omega) (by show 4 < 1024; omega) (fun j hj => absurd hj (Nat.not_lt_zero j))
  rw [mO_self] at b1
  refine ⟨m_open' m1 F, ?_, a2, b2⟩
  unfold mm_clear_15
  rw [fine0, bd2_some, it_F o10, nm_eq]
  refine Eq.trans ?_ b1
  refine Eq.trans ?_ a1
  rw [show m_full m = m_full (m_way' (m_thrown' m 0) a) from rfl, mF_self]
  rfl
theorem clear_ag (h : Inv x m B) (a : Int32) : (∃ x' m', rx_clear x a = some (.inl x') ∧ mm_clear m a = some m' ∧ m_thrown m' = 0 ∧ Inv x' m' B) ∨ ∃ m', rx_clear x a = some (.inr (1, x)) ∧ mm_clear m a = some m' ∧ m_thrown m' = 1 ∧ Inv x m' B := by
  obtain ⟨w, t, nP, nO, cP, cO, hT⟩ := h.1
  have key : ∀ a, Way a → mm_clear m a = mm_clear_15 m a 0 → rx_clear x a = clrB x a → ∃ x' m', rx_clear x a = some (.inl x') ∧ mm_clear m a = some m' ∧ m_thrown m' = 0 ∧ Inv x' m' B := by
    intro a hw hM hX
    obtain ⟨x', b1, b2, b3, b4, b5, b6, b7, b8, b9, b10⟩ := clr_cls x a
    obtain ⟨m', c1, ⟨c2, c3, c4, c5, c6, c7, c8, c9, c10⟩, c11⟩ := mm_clr m a
    refine ⟨x', m', hX.trans b1, hM.trans c1, c10, ⟨a, 0, 8, 0, Nn, Nn, ti_fresh hw b2 c2 c3 b3 b4 b5 b6 c4 c5 c6 c7 c8 ?_⟩, si_closed b10 c11, ?_⟩
    · rw [b7, b8]
      exact hT.ne
    · rw [b9, c9]
  by_cases q0 : a = 0
  · subst q0
    refine Or.inl (key 0 (Or.inl rfl) ?_ ?_)
    · unfold mm_clear
      rw [in_0, bd_some, it_F o10]
    · unfold rx_clear
      rw [it_T rfl]
      rfl
  · by_cases q1 : a = 1
    · subst q1
      refine Or.inl (key 1 (Or.inr rfl) ?_ ?_)
      · unfold mm_clear
        rw [in_1, bd_some, it_F o10]
      · unfold rx_clear
        rw [it_F o10, it_T rfl]
        rfl
    · refine Or.inr ⟨m_thrown' m 1, ?_, ?_, rfl, h.thr 1⟩
      · unfold rx_clear
        rw [it_F q0, it_F q1]
      · unfold mm_clear mm_clear_15
        rw [in_out q0 q1, bd_some, it_T rfl, fine1, bd2_some, it_T rfl]
end FR
