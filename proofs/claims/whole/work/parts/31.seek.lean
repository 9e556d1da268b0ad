/-! the first key behind a place in the order: on both sides -/
def Bst (w : Int32) (S : Int32 → Prop) (l : Int64) : Option Int32 → Prop
  | none => ∀ k, S k → ¬ l < rkL (hsh w k)
  | some b => S b ∧ l < rkL (hsh w b) ∧ ∀ k, S k → l < rkL (hsh w k) → rkL (hsh w b) ≤ rkL (hsh w k)
theorem l_irr (a : Int64) : ¬ a < a := fun h => lg_lt_not h h
theorem l_antisym {a b : Int64} (h1 : a ≤ b) (h2 : b ≤ a) : a = b := by
  rcases lg_tri a b with h | h | h
  · exact absurd h2 (lg_lt_not_le h)
  · exact h
  · exact absurd h1 (lg_lt_not_le h)
theorem l_ge {a b : Int64} (h : ¬ a < b) : b ≤ a := by
  rw [Int64.le_iff_toInt_le]
  rw [Int64.lt_iff_toInt_lt] at h
  omega
theorem l_lt {a b : Int64} (h : ¬ b ≤ a) : a < b := by
  rw [Int64.lt_iff_toInt_lt]
  rw [Int64.le_iff_toInt_le] at h
  omega
theorem l_le_lt {a b : Int64} (h : a < b) : a ≤ b := by
  rw [Int64.le_iff_toInt_le]
  rw [Int64.lt_iff_toInt_lt] at h
  omega
theorem l_tr {a b c : Int64} (h : a ≤ b) (h2 : b ≤ c) : a ≤ c := by
  rw [Int64.le_iff_toInt_le] at *
  omega
theorem l_rf (a : Int64) : a ≤ a := by
  rw [Int64.le_iff_toInt_le]
  omega
section SK
variable {w : Int32} {S S' : Int32 → Prop} {l : Int64} {k : Int32}
theorem Bst.iff (h : ∀ k, S k ↔ S' k) {o : Option Int32} (hb : Bst w S l o) : Bst w S' l o := by
  cases o with
  | none => exact fun k hk => hb k ((h k).mpr hk)
  | some b => exact ⟨(h b).mp hb.1, hb.2.1, fun k hk => hb.2.2 k ((h k).mpr hk)⟩
/-- a key that is not behind -/
theorem Bst.skip {o : Option Int32} (h : Bst w S l o) (hk : rkL (hsh w k) ≤ l) : Bst w (fun z => S z ∨ z = k) l o := by
  have hn : ¬ l < rkL (hsh w k) := fun z => lg_lt_not_le z hk
  cases o with
  | none => exact fun z hz => hz.elim (h z) (fun e => by rw [e]; exact hn)
  | some b => exact ⟨Or.inl h.1, h.2.1, fun z hz hl => hz.elim (fun q => h.2.2 z q hl) (fun e => absurd (by rw [← e]; exact hl) hn)⟩
/-- a key that is behind the best -/
theorem Bst.more {b : Int32} (h : Bst w S l (some b)) (hk : rkL (hsh w b) ≤ rkL (hsh w k)) : Bst w (fun z => S z ∨ z = k) l (some b) :=
  ⟨Or.inl h.1, h.2.1, fun z hz hl => hz.elim (fun q => h.2.2 z q hl) (fun e => by rw [e]; exact hk)⟩
theorem Bst.new (h : Bst w S l none) (hk : l < rkL (hsh w k)) : Bst w (fun z => S z ∨ z = k) l (some k) :=
  ⟨Or.inr rfl, hk, fun z hz hl => hz.elim (fun q => absurd hl (h z q)) (fun e => by rw [e]; exact l_rf _)⟩
theorem Bst.less {b : Int32} (h : Bst w S l (some b)) (hk : l < rkL (hsh w k)) (hl : rkL (hsh w k) < rkL (hsh w b)) : Bst w (fun z => S z ∨ z = k) l (some k) :=
  ⟨Or.inr rfl, hk, fun z hz hz2 => hz.elim (fun q => l_tr (l_le_lt hl) (h.2.2 z q hz2)) (fun e => by rw [e]; exact l_rf _)⟩
theorem Bst.uniq {o o' : Option Int32} (h : Bst w S l o) (h' : Bst w S l o') : o = o' := by
  cases o with
  | none =>
    cases o' with
    | none => rfl
    | some b' => exact absurd h'.2.1 (h b' h'.1)
  | some b =>
    cases o' with
    | none => exact absurd h.2.1 (h' b h.1)
    | some b' => exact congrArg some (rk_inj (l_antisym (h.2.2 b' h'.1 h'.2.1) (h'.2.2 b h.1 h.2.1)))
/-- where the class's search stands -/
def Loc (a : Nat) (c : Ct) (n : Nat) (b : Nat) (c' : Ct) (n' : Nat) (se : Se) : Option Int32 → Prop
  | none => se_tb se = none
  | some k => (se_tb se = some a ∧ ∃ s v, se_slot se = nI s ∧ s < n ∧ c s = some (k, v)) ∨ (se_tb se = some b ∧ ∃ s v, se_slot se = nI s ∧ s < n' ∧ c' s = some (k, v))
theorem Loc.sw {a b n n' : Nat} {c c' : Ct} {se : Se} {o : Option Int32} (h : Loc a c n b c' n' se o) : Loc b c' n' a c n se o := by
  cases o with
  | none => exact h
  | some k => exact h.symm
theorem Loc.none {a b n n' : Nat} {c c' : Ct} {se : Se} {o : Option Int32} (h : Loc a c n b c' n' se o) (hs : se_tb se = none) : o = none := by
  cases o with
  | none => rfl
  | some k =>
    rcases h with h | h
    · rw [hs] at h
      cases h.1
    · rw [hs] at h
      cases h.1
theorem seek_lp {n n' wh wo : Nat} {c c' : Ct} {τ υ : Tb} (hn : n ≤ 256) (hn' : n' ≤ 256) (hne : wh ≠ wo) (htr : TR n (hsh w) c τ) (hur : TR n' (hsh w) c' υ) (l : Int64) : ∀ d i f (se : Se) (S : Int32 → Prop) (o : Option Int32), i + d = n → d < f → Loc wh c n wo c' n' se o → Bst w S l o → ∃ (se' : Se) (o' : Option Int32), ss_seekIn_lp3 wh τ wo υ f se l (nI i) = some se' ∧ Loc wh c n wo c' n' se' o' ∧ Bst w (fun k => S k ∨ ∃ j v, i ≤ j ∧ j < n ∧ c j = some (k, v)) l o' := by
  intro d
  induction d with
  | zero =>
    intro i f se S o hi hf hloc hb
    obtain ⟨f, rfl⟩ : ∃ f', f = f' + 1 := ⟨f - 1, by omega⟩
    refine ⟨se, o, ?_, hloc, hb.iff (fun k => ⟨Or.inl, fun z => z.elim id (fun ⟨j, v, h1, h2, _⟩ => by omega)⟩)⟩
    show ss_seekIn_3 wh τ wo υ (ss_seekIn_lp3 wh τ wo υ f) se l (nI i) = _
    unfold ss_seekIn_3
    rw [htr.1, it_T (nI_le (by omega) (by omega))]
  | succ d ih =>
    intro i f se S o hi hf hloc hb
    obtain ⟨f, rfl⟩ : ∃ f', f = f' + 1 := ⟨f - 1, by omega⟩
    have hun : ss_seekIn_lp3 wh τ wo υ (f + 1) se l (nI i) = ss_seekIn_3 wh τ wo υ (ss_seekIn_lp3 wh τ wo υ f) se l (nI i) := rfl
    have hin : i < n := by omega
    -- the step, whatever becomes of this slot
    have go : ∀ (se1 : Se) (S1 : Int32 → Prop) (o1 : Option Int32), Loc wh c n wo c' n' se1 o1 → Bst w S1 l o1 → (∀ k, S1 k ↔ S k ∨ ∃ v, c i = some (k, v)) → ∃ (se' : Se) (o' : Option Int32), ss_seekIn_71 wh τ wo υ (ss_seekIn_lp3 wh τ wo υ f) se1 l (nI i) = some se' ∧ Loc wh c n wo c' n' se' o' ∧ Bst w (fun k => S k ∨ ∃ j v, i ≤ j ∧ j < n ∧ c j = some (k, v)) l o' := by
      intro se1 S1 o1 h1 h2 h3
      obtain ⟨se', o', a1, a2, a3⟩ := ih (i + 1) f se1 S1 o1 (by omega) (by omega) h1 h2
      refine ⟨se', o', ?_, a2, a3.iff (fun k => ?_)⟩
      · unfold ss_seekIn_71
        rw [nm_eq, nI_1]
        exact a1
      · rw [h3]
        constructor
        · rintro ((h | ⟨v, h⟩) | ⟨j, v, h4, h5, h6⟩)
          · exact Or.inl h
          · exact Or.inr ⟨i, v, Nat.le_refl _, hin, h⟩
          · exact Or.inr ⟨j, v, by omega, h5, h6⟩
        · rintro (h | ⟨j, v, h4, h5, h6⟩)
          · exact Or.inl (Or.inl h)
          · by_cases q : j = i
            · subst q
              exact Or.inl (Or.inr ⟨v, h6⟩)
            · exact Or.inr ⟨j, v, by omega, h5, h6⟩
    rw [hun]
    unfold ss_seekIn_3
    rw [htr.1, it_F (nI_ge hin (by omega))]
    cases hc : c i with
    | none =>
      rw [t_emptyN (by omega) (htr.2 i hin) hc, bd_some, it_F o10]
      exact go se S o hloc hb (fun k => ⟨Or.inl, fun z => z.elim id (fun ⟨v, h⟩ => by rw [hc] at h; cases h)⟩)
    | some a =>
      obtain ⟨k, v⟩ := a
      have hS : ∀ z, (S z ∨ z = k) ↔ S z ∨ ∃ v, c i = some (z, v) := fun z => ⟨fun h => h.elim Or.inl (fun e => Or.inr ⟨v, by rw [e]; exact hc⟩), fun h => h.elim Or.inl (fun ⟨v', h⟩ => by rw [hc] at h; cases h; exact Or.inr rfl)⟩
      have hnew : Loc wh c n wo c' n' (se_slot' (se_tb' se (some wh)) (nI i)) (some k) := Or.inl ⟨rfl, i, v, rfl, hin, hc⟩
      rw [t_emptyS (by omega) (htr.2 i hin) hc, bd_some, it_T rfl, class_rank (by omega) (htr.2 i hin) hc, bd_some]
      by_cases q1 : rkL (hsh w k) ≤ l
      · rw [it_T ((lg_cmp_le _ _).mpr q1)]
        exact go se _ o hloc (hb.skip q1) hS
      · rw [it_F (fun z => q1 ((lg_cmp_le _ _).mp z))]
        have q1' := l_lt q1
        cases o with
        | none =>
          rw [show ss_hasFound se = some 0 from if_pos hloc, bd_some, it_T rfl]
          unfold ss_seekIn_60
          rw [nm_eq, nm_eq]
          exact go _ _ (some k) hnew (Bst.new hb q1') hS
        | some b =>
          have hsome : ss_hasFound se = some 1 := by
            refine if_neg (fun z => ?_)
            rcases hloc with h | h
            · rw [z] at h
              cases h.1
            · rw [z] at h
              cases h.1
          rw [hsome, bd_some, it_F o10, bd_some]
          have hpick : ∃ (se' : Se) (o' : Option Int32), (if 0 ≤ lg_cmp (rkL (hsh w k)) (rkL (hsh w b)) then ss_seekIn_71 wh τ wo υ (ss_seekIn_lp3 wh τ wo υ f) se l (nI i) else ss_seekIn_60 wh τ wo υ (ss_seekIn_lp3 wh τ wo υ f) se l (nI i)) = some se' ∧ Loc wh c n wo c' n' se' o' ∧ Bst w (fun k => S k ∨ ∃ j v, i ≤ j ∧ j < n ∧ c j = some (k, v)) l o' := by
            by_cases q2 : rkL (hsh w b) ≤ rkL (hsh w k)
            · rw [it_T ((lg_cmp_ge _ _).mpr q2)]
              exact go se _ (some b) hloc (hb.more q2) hS
            · rw [it_F (fun z => q2 ((lg_cmp_ge _ _).mp z))]
              unfold ss_seekIn_60
              rw [nm_eq, nm_eq]
              exact go _ _ (some k) hnew (hb.less q1' (l_lt q2)) hS
          unfold dsp
          rcases hloc with ⟨h1, s, v', h2, h3, h4⟩ | ⟨h1, s, v', h2, h3, h4⟩
          · rw [h1, if_pos rfl, h2, class_rank (by omega) (htr.2 s h3) h4, bd_some]
            exact hpick
          · rw [h1, if_neg (fun z => hne (Option.some.inj z).symm), if_pos rfl, h2, class_rank (by omega) (hur.2 s h3) h4, bd_some]
            exact hpick
/-- the reference's search over all its places -/
theorem behind_lp {C : Nat → Ct} {m : MS} (hw : Way w) (hs : m_way m = w) (hmt : ∀ T, T < 2 → ∀ i, i < 256 → MTs T (C T) m i) (l : Int64) : ∀ d i f (b : Int32) (S : Int32 → Prop) (o : Option Int32), i + d = 512 → d < f → (o = none → b = -1) → (∀ k, o = some k → ∃ T j v, T < 2 ∧ j < 256 ∧ b = nI (256 * T + j) ∧ C T j = some (k, v)) → Bst w S l o → ∃ (b' : Int32) (o' : Option Int32), mm_behind_lp5 m f l b (nI i) = some b' ∧ (o' = none → b' = -1) ∧ (∀ k, o' = some k → ∃ T j v, T < 2 ∧ j < 256 ∧ b' = nI (256 * T + j) ∧ C T j = some (k, v)) ∧ Bst w (fun k => S k ∨ ∃ T j v, T < 2 ∧ j < 256 ∧ i ≤ 256 * T + j ∧ C T j = some (k, v)) l o' := by
  intro d
  induction d with
  | zero =>
    intro i f b S o hi hf h1 h2 hb
    obtain ⟨f, rfl⟩ : ∃ f', f = f' + 1 := ⟨f - 1, by omega⟩
    have : i = 512 := by omega
    subst this
    refine ⟨b, o, ?_, h1, h2, hb.iff (fun k => ⟨Or.inl, fun z => z.elim id (fun ⟨T, j, v, h1, h2, h3, _⟩ => by omega)⟩)⟩
    show mm_behind_5 m (mm_behind_lp5 m f) l b (nI 512) = _
    unfold mm_behind_5
    exact if_pos (by decide)
  | succ d ih =>
    intro i f b S o hi hf h1 h2 hb
    obtain ⟨f, rfl⟩ : ∃ f', f = f' + 1 := ⟨f - 1, by omega⟩
    have hun : mm_behind_lp5 m (f + 1) l b (nI i) = mm_behind_5 m (mm_behind_lp5 m f) l b (nI i) := rfl
    obtain ⟨T, I, hT, hI, hTI⟩ : ∃ T I, T < 2 ∧ I < 256 ∧ i = 256 * T + I := ⟨i / 256, i % 256, by omega, by omega, by omega⟩
    have hcell := hmt T hT I hI
    have huq : ∀ T' j, T' < 2 → j < 256 → 256 * T' + j = i → T' = T ∧ j = I := fun T' j a b c => by omega
    have go : ∀ (b1 : Int32) (S1 : Int32 → Prop) (o1 : Option Int32), (o1 = none → b1 = -1) → (∀ k, o1 = some k → ∃ T j v, T < 2 ∧ j < 256 ∧ b1 = nI (256 * T + j) ∧ C T j = some (k, v)) → Bst w S1 l o1 → (∀ k, S1 k ↔ S k ∨ ∃ v, C T I = some (k, v)) → ∃ (b' : Int32) (o' : Option Int32), mm_behind_72 m (mm_behind_lp5 m f) l b1 (nI i) = some b' ∧ (o' = none → b' = -1) ∧ (∀ k, o' = some k → ∃ T j v, T < 2 ∧ j < 256 ∧ b' = nI (256 * T + j) ∧ C T j = some (k, v)) ∧ Bst w (fun k => S k ∨ ∃ T j v, T < 2 ∧ j < 256 ∧ i ≤ 256 * T + j ∧ C T j = some (k, v)) l o' := by
      intro b1 S1 o1 g1 g2 g3 g4
      obtain ⟨b', o', a1, a2, a3, a4⟩ := ih (i + 1) f b1 S1 o1 (by omega) (by omega) g1 g2 g3
      refine ⟨b', o', ?_, a2, a3, a4.iff (fun k => ?_)⟩
      · unfold mm_behind_72
        rw [nm_eq, nI_1]
        exact a1
      · rw [g4]
        constructor
        · rintro ((h | ⟨v, h⟩) | ⟨T', j, v, h4, h5, h6, h7⟩)
          · exact Or.inl h
          · exact Or.inr ⟨T, I, v, hT, hI, by omega, h⟩
          · exact Or.inr ⟨T', j, v, h4, h5, by omega, h7⟩
        · rintro (h | ⟨T', j, v, h4, h5, h6, h7⟩)
          · exact Or.inl (Or.inl h)
          · by_cases q : 256 * T' + j = i
            · obtain ⟨rfl, rfl⟩ := huq T' j h4 h5 q
              exact Or.inl (Or.inr ⟨v, h7⟩)
            · exact Or.inr ⟨T', j, v, h4, h5, by omega, h7⟩
    rw [hun]
    unfold mm_behind_5
    rw [it_F (show ¬ (512 : Int32) ≤ nI i from nI_ge (b := 512) (by omega) (by omega)), g512 (by omega), cl512 (by omega), hTI]
    rw [hTI] at go
    cases hc : C T I with
    | none =>
      rw [mk_none hcell hc, it_T rfl]
      exact go b S o h1 h2 hb (fun k => ⟨Or.inl, fun z => z.elim id (fun ⟨v, h⟩ => by rw [hc] at h; cases h)⟩)
    | some a =>
      obtain ⟨k, v⟩ := a
      have hk := mk_some hcell hc
      have hS : ∀ z, (S z ∨ z = k) ↔ S z ∨ ∃ v, C T I = some (z, v) := fun z => ⟨fun h => h.elim Or.inl (fun e => Or.inr ⟨v, by rw [e]; exact hc⟩), fun h => h.elim Or.inl (fun ⟨v', h⟩ => by rw [hc] at h; cases h; exact Or.inr rfl)⟩
      have hnew1 : (some k = none → nI (256 * T + I) = -1) := fun z => (by cases z)
      have hnew2 : ∀ k', some k = some k' → ∃ T' j v, T' < 2 ∧ j < 256 ∧ nI (256 * T + I) = nI (256 * T' + j) ∧ C T' j = some (k', v) := fun k' z => (by cases z; exact ⟨T, I, v, hT, hI, rfl, hc⟩)
      rw [hk.1, it_F o10, g512 (by omega), hk.2.1, order_eq hw hs, bd_some]
      by_cases q1 : rkL (hsh w k) ≤ l
      · rw [it_T ((lg_cmp_le _ _).mpr q1)]
        exact go b _ o h1 h2 (hb.skip q1) hS
      · rw [it_F (fun z => q1 ((lg_cmp_le _ _).mp z))]
        have q1' := l_lt q1
        cases o with
        | none =>
          rw [it_T (h1 rfl)]
          unfold mm_behind_69
          exact go _ _ (some k) hnew1 hnew2 (Bst.new hb q1') hS
        | some b0 =>
          obtain ⟨T', j, v', u1, u2, u3, u4⟩ := h2 b0 rfl
          have hk' := mk_some (hmt T' u1 j u2) u4
          rw [u3, it_F (nI_m1 (by omega)), g512 (by omega), bd_some, g512 (by omega), cl512 (by omega), hk'.2.1, order_eq hw hs, bd_some]
          by_cases q2 : rkL (hsh w b0) ≤ rkL (hsh w k)
          · rw [it_T ((lg_cmp_ge _ _).mpr q2)]
            exact go _ _ (some b0) (fun z => (by cases z)) (fun k' z => (by cases z; exact ⟨T', j, v', u1, u2, rfl, u4⟩)) (hb.more q2) hS
          · rw [it_F (fun z => q2 ((lg_cmp_ge _ _).mp z))]
            unfold mm_behind_69
            exact go _ _ (some k) hnew1 hnew2 (hb.less q1' (l_lt q2)) hS
end SK
section SQ
variable {w : Int32} {t nP nO : Nat} {cP cO : Ct} {x : RR} {m : MS}
theorem seek_eq (h : TI w t nP nO cP cO x m) (l : Int64) : ∃ (se : Se) (b : Int32) (o : Option Int32), rr_seekBehind x l = some (rr_se' x se) ∧ mm_behind m l = some b ∧ Loc (rr_ap x) cP nP (rr_ao x) cO nO se o ∧ (o = none → b = -1) ∧ (∀ k, o = some k → ∃ i, i < 512 ∧ b = nI i ∧ m_keys m i = k) := by
  have hsz := h.sz.le
  have h256 := h.nO256
  have ht := h.t2
  obtain ⟨p1, p2, p3, p4, p5, p6, p7⟩ := h.tP
  obtain ⟨o1, o2, o3, o4, o5, o6, o7⟩ := h.tO
  obtain ⟨s1, f1, a1, a2, a3⟩ := seek_lp (w := w) hsz.2 h256 h.ne p1 o1 l nP 0 FU (none, se_slot (rr_se x), 0, 0) (fun _ => False) none (by omega) (by show nP < 1024; omega) rfl (fun k hk => hk.elim)
  obtain ⟨s2, f2, b1, b2, b3⟩ := seek_lp (w := w) h256 hsz.2 h.ne.symm o1 p1 l nO 0 FU s1 _ f1 (by omega) (by show nO < 1024; omega) a2.sw a3
  let C : Nat → Ct := fun T => if T = t then cP else cO
  have hC1 : C t = cP := if_pos rfl
  have hC2 : C (1 - t) = cO := if_neg (by omega)
  have hmt : ∀ T, T < 2 → ∀ i, i < 256 → MTs T (C T) m i := by
    intro T hT i hi
    by_cases q : T = t
    · rw [q, hC1]
      exact p2.2 i hi
    · rw [show T = 1 - t by omega, hC2]
      exact o2.2 i hi
  obtain ⟨b, f3, c1, c2, c3, c4⟩ := behind_lp (w := w) (C := C) h.wy h.mw hmt l 512 0 FU (-1) (fun _ => False) none rfl (by decide) (fun _ => rfl) (fun k z => (by cases z)) (fun k hk => hk.elim)
  have hsame : ∀ k, ((False ∨ ∃ T j v, T < 2 ∧ j < 256 ∧ 0 ≤ 256 * T + j ∧ C T j = some (k, v)) ↔ ((False ∨ ∃ j v, 0 ≤ j ∧ j < nP ∧ cP j = some (k, v)) ∨ ∃ j v, 0 ≤ j ∧ j < nO ∧ cO j = some (k, v))) := by
    intro k
    constructor
    · rintro (z | ⟨T, j, v, h1, h2, h3, h4⟩)
      · exact z.elim
      · by_cases q : T = t
        · rw [q, hC1] at h4
          exact Or.inl (Or.inr ⟨j, v, by omega, in_lt p5 h4, h4⟩)
        · rw [show T = 1 - t by omega, hC2] at h4
          exact Or.inr ⟨j, v, by omega, in_lt o5 h4, h4⟩
    · rintro ((z | ⟨j, v, h1, h2, h3⟩) | ⟨j, v, h1, h2, h3⟩)
      · exact z.elim
      · exact Or.inr ⟨t, j, v, ht, by omega, by omega, by rw [hC1]; exact h3⟩
      · exact Or.inr ⟨1 - t, j, v, by omega, by omega, by omega, by rw [hC2]; exact h3⟩
  have hof : f3 = f2 := (c4.iff hsame).uniq b3
  subst hof
  refine ⟨s2, b, f3, ?_, c1, b2.sw, c2, fun k hk => ?_⟩
  · unfold rr_seekBehind
    rw [show ss_begin (rr_se x) = some (none, se_slot (rr_se x), 0, 0) from rfl, bd_some, nm_eq]
    rw [show ss_seekIn (rr_ap (rr_se' x (none, se_slot (rr_se x), 0, 0))) (rr_P (rr_se' x (none, se_slot (rr_se x), 0, 0))) (rr_ao (rr_se' x (none, se_slot (rr_se x), 0, 0))) (rr_O (rr_se' x (none, se_slot (rr_se x), 0, 0))) (rr_se (rr_se' x (none, se_slot (rr_se x), 0, 0))) l = some s1 from a1, bd_some, nm_eq]
    rw [show ss_seekIn (rr_ao (rr_se' (rr_se' x (none, se_slot (rr_se x), 0, 0)) s1)) (rr_O (rr_se' (rr_se' x (none, se_slot (rr_se x), 0, 0)) s1)) (rr_ap (rr_se' (rr_se' x (none, se_slot (rr_se x), 0, 0)) s1)) (rr_P (rr_se' (rr_se' x (none, se_slot (rr_se x), 0, 0)) s1)) (rr_se (rr_se' (rr_se' x (none, se_slot (rr_se x), 0, 0)) s1)) l = some s2 from b1, bd_some, nm_eq]
    rfl
  · obtain ⟨T, j, v, h1, h2, h3, h4⟩ := c3 k hk
    exact ⟨256 * T + j, by omega, h3, (mk_some (hmt T h1 j h2) h4).2.1⟩
end SQ
