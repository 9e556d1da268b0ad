/-! the same keys without Robin Hood: both sides fill the same slots -/
def plS (m : MS) (F : Nat → Int32) (most sum : Int32) : MS := (m.1, m.2.1, m.2.2.1, m.2.2.2.1, m.2.2.2.2.1, m.2.2.2.2.2.1, m.2.2.2.2.2.2.1, m.2.2.2.2.2.2.2.1, m.2.2.2.2.2.2.2.2.1, m.2.2.2.2.2.2.2.2.2.1, m.2.2.2.2.2.2.2.2.2.2.1, m.2.2.2.2.2.2.2.2.2.2.2.1, m.2.2.2.2.2.2.2.2.2.2.2.2.1, F, most, sum, m.2.2.2.2.2.2.2.2.2.2.2.2.2.2.2.2)
theorem plS_f (m : MS) (F F' : Nat → Int32) (a b : Int32) : m_plainFull' (plS m F a b) F' = plS m F' a b := rfl
theorem plS_s (m : MS) (F : Nat → Int32) (a b b' : Int32) : m_plainSum' (plS m F a b) b' = plS m F a b' := rfl
theorem plS_m (m : MS) (F : Nat → Int32) (a a' b : Int32) : m_plainMost' (plS m F a b) a' = plS m F a' b := rfl
theorem plG_f (m : MS) (F : Nat → Int32) (a b : Int32) : m_plainFull (plS m F a b) = F := rfl
theorem plG_s (m : MS) (F : Nat → Int32) (a b : Int32) : m_plainSum (plS m F a b) = b := rfl
theorem plG_m (m : MS) (F : Nat → Int32) (a b : Int32) : m_plainMost (plS m F a b) = a := rfl
theorem plG_p (m : MS) (F : Nat → Int32) (a b : Int32) : m_present (plS m F a b) = m_present m := rfl
theorem plG_l (m : MS) (F : Nat → Int32) (a b : Int32) : m_slots (plS m F a b) = m_slots m := rfl
/-- what is taken -/
def PF (e : Ct) (T : Nat → Int32) : Prop := ∀ i, i < 256 → (e i = none ∧ T i = 0) ∨ (e i ≠ none ∧ T i = 1)
theorem PF.up {e : Ct} {T : Nat → Int32} (h : PF e T) (i : Nat) : PF (upc e i (some (0, 0))) (upd T i 1) := by
  intro j hj
  by_cases q : j = i
  · rw [q, upc_s, up_s]
    exact Or.inr ⟨fun z => (by cases z), rfl⟩
  · rw [upc_n q, up_n q]
    exact h j hj
section FL
variable {n t : Nat} {w : Int32} {c : Ct} {τ : Tb} {m : MS}
theorem first_lp (hz : Sz n) (htr : TR n (hsh w) c τ) {e : Ct} (R T : Nat → Int32) (tot lon : Int32) (hT : PF e T) (h : Int32) {g : Nat} (hg : Gap n e (bn h % n) g) : ∀ d j f, j + d = g → d < f → pp_takeFirstFree_lp2 τ f (R, T, tot, lon) h (nI j) = some (nI g, (R, upd T ((bn h % n + g) % n) 1, tot, lon)) := by
  have hle := hz.le
  have har : ∀ j, j ≤ g → tt_around τ (h + nI j) = some (nI ((bn h % n + j) % n)) := by
    intro j hj
    have hgn := hg.2.2
    have := bn_sh hz h (o := 0) (j := j) (by omega)
    rw [t_around hz htr.1]
    rw [show h + nI 0 = h from Int32.add_zero h, Nat.zero_add] at this
    rw [this]
  have hlt : ∀ a, a % n < n := fun a => Nat.mod_lt _ (by omega)
  have hend : pp_takeFirstFree_31 τ (R, T, tot, lon) h (nI g) = some (nI g, (R, upd T ((bn h % n + g) % n) 1, tot, lon)) := by
    have := hlt (bn h % n + g)
    unfold pp_takeFirstFree_31
    rw [har g (Nat.le_refl _), bd_some, g256 (by omega), cl256 (by omega), nm_eq]
    rfl
  intro d
  induction d with
  | zero =>
    intro j f hj hf
    obtain ⟨f, rfl⟩ : ∃ f2, f = f2 + 1 := ⟨f - 1, by omega⟩
    have : j = g := by omega
    subst this
    have h1 := hlt (bn h % n + j)
    show pp_takeFirstFree_2 τ (pp_takeFirstFree_lp2 τ f) (R, T, tot, lon) h (nI j) = _
    unfold pp_takeFirstFree_2
    rw [htr.1, it_F (nI_ge hg.2.2 (by omega)), har j (Nat.le_refl _), bd_some, g256 (by omega), cl256 (by omega)]
    have h2 : T ((bn h % n + j) % n) = 0 := by
      rcases hT _ (show (bn h % n + j) % n < 256 by omega) with z | z
      · exact z.2
      · exact absurd hg.2.1 z.1
    rw [show pl_taken (R, T, tot, lon) ((bn h % n + j) % n) = 0 from h2, it_T rfl]
    exact hend
  | succ d ih =>
    intro j f hj hf
    obtain ⟨f, rfl⟩ : ∃ f2, f = f2 + 1 := ⟨f - 1, by omega⟩
    have h1 := hlt (bn h % n + j)
    have hgn := hg.2.2
    show pp_takeFirstFree_2 τ (pp_takeFirstFree_lp2 τ f) (R, T, tot, lon) h (nI j) = _
    unfold pp_takeFirstFree_2
    rw [htr.1, it_F (nI_ge (by omega) (by omega)), har j (by omega), bd_some, g256 (by omega), cl256 (by omega)]
    have h2 : T ((bn h % n + j) % n) = 1 := by
      rcases hT _ (show (bn h % n + j) % n < 256 by omega) with z | z
      · exact absurd z.1 (hg.1 j (by omega))
      · exact z.2
    rw [show pl_taken (R, T, tot, lon) ((bn h % n + j) % n) = 1 from h2, it_F o10, nm_eq, nI_1]
    exact ih (j + 1) f (by omega) (by omega)
theorem place_lp (hz : Sz n) (ht : t < 2) (hpr : m_present m = nI t) (hsl : m_slots m t = nI n) {e : Ct} (F : Nat → Int32) (most sum : Int32) (hF : PF e F) {H : Nat} (hH : H < n) {g : Nat} (hg : Gap n e H g) (K : MS → Int64 → Int32 → Option MS) (l1 : Int64) (l3 : Int32) : ∀ d j f, j + d = g → d < f → mm_plain_lp169 K f (plS m F most sum) l1 l3 (nI ((H + j) % n)) (nI j) = K (plS m (upd F ((H + g) % n) 1) (if most < nI g then nI g else most) (sum + nI g)) l1 (l3 + 1) := by
  have hle := hz.le
  have hlt : ∀ a, a % n < n := fun a => Nat.mod_lt _ (by omega)
  intro d
  induction d with
  | zero =>
    intro j f hj hf
    obtain ⟨f, rfl⟩ : ∃ f2, f = f2 + 1 := ⟨f - 1, by omega⟩
    have : j = g := by omega
    subst this
    have h1 := hlt (H + j)
    show mm_plain_169 K (mm_plain_lp169 K f) (plS m F most sum) l1 l3 (nI ((H + j) % n)) (nI j) = _
    unfold mm_plain_169 mm_plain_241
    have h2 : F ((H + j) % n) = 0 := by
      rcases hF _ (show (H + j) % n < 256 by omega) with z | z
      · exact z.2
      · exact absurd hg.2.1 z.1
    rw [g256 (by omega), cl256 (by omega), plG_f, h2, it_T rfl, g256 (by omega), nm_eq, plS_f, nm_eq, plG_s, plS_s, plG_m, mx_eq]
    split
    · rw [nm_eq, plS_m, nm_eq]
    · rw [nm_eq, plS_m, nm_eq]
  | succ d ih =>
    intro j f hj hf
    obtain ⟨f, rfl⟩ : ∃ f2, f = f2 + 1 := ⟨f - 1, by omega⟩
    have h1 := hlt (H + j)
    have hgn := hg.2.2
    show mm_plain_169 K (mm_plain_lp169 K f) (plS m F most sum) l1 l3 (nI ((H + j) % n)) (nI j) = _
    unfold mm_plain_169
    have h2 : F ((H + j) % n) = 1 := by
      rcases hF _ (show (H + j) % n < 256 by omega) with z | z
      · exact absurd z.1 (hg.1 j (by omega))
      · exact z.2
    have h3 : (nI ((H + j) % n) + 1) &&& (m_slots m t - 1) = nI ((H + (j + 1)) % n) := by
      rw [hsl, nx_and hz h1]
      unfold nx
      rw [Nat.mod_add_mod]
      congr 1
    rw [g256 (by omega), cl256 (by omega), plG_f, h2, it_F o10, plG_p, plG_l, hpr, g2 ht, cl2 ht, nm_eq, nm_eq, h3, nI_1]
    exact ih (j + 1) f (by omega) (by omega)
/-- the reference picks the least key above the last one -/
def Pk (c : Ct) (i : Nat) (l1 : Int64) (t : Nat) (b : Int32) : Option Nat → Prop
  | none => b = -1 ∧ ∀ s, s < i → c s ≠ none → (kO c s).toInt64 ≤ l1
  | some s => b = nI (256 * t + s) ∧ s < i ∧ c s ≠ none ∧ l1 < (kO c s).toInt64 ∧ ∀ s', s' < i → c s' ≠ none → l1 < (kO c s').toInt64 → kO c s ≤ kO c s'
theorem pick_lp (hn : n ≤ 256) (ht : t < 2) (hpr : m_present m = nI t) (hmt : MT t n c m) (K : MS → Int64 → Int32 → Option MS) (l1 : Int64) (l3 : Int32) : ∀ d i f (b : Int32) (o : Option Nat), i + d = n → d < f → Pk c i l1 t b o → ∃ (b' : Int32) (o' : Option Nat), mm_plain_lp57 K f m l1 l3 b (nI i) = (gd b' 512 <| nm ((m_keys m b'.toNatClampNeg).toInt64) fun v12 => gd b' 512 <| bd (mm_home m (nI t) (m_keys m b'.toNatClampNeg)) fun v14 => mm_plain_lp169 K FU m v12 l3 v14 0) ∧ Pk c n l1 t b' o' := by
  intro d
  induction d with
  | zero =>
    intro i f b o hi hf hp
    obtain ⟨f, rfl⟩ : ∃ f2, f = f2 + 1 := ⟨f - 1, by omega⟩
    have : i = n := by omega
    subst this
    refine ⟨b, o, ?_, hp⟩
    show mm_plain_57 K (mm_plain_lp57 K f) m l1 l3 b (nI i) = _
    unfold mm_plain_57
    rw [hpr, g2 ht, cl2 ht, hmt.1, it_T (nI_le (Nat.le_refl _) (by omega))]
  | succ d ih =>
    intro i f b o hi hf hp
    obtain ⟨f, rfl⟩ : ∃ f2, f = f2 + 1 := ⟨f - 1, by omega⟩
    have e : mm_plain_lp57 K (f + 1) m l1 l3 b (nI i) = mm_plain_57 K (mm_plain_lp57 K f) m l1 l3 b (nI i) := rfl
    rw [e]
    unfold mm_plain_57
    rw [hpr, g2 ht, cl2 ht, hmt.1, it_F (nI_ge (by omega) (by omega)), ixe, nm_eq, g512 (by omega), cl512 (by omega)]
    have go : ∀ b1 o1, Pk c (i + 1) l1 t b1 o1 → ∃ (b' : Int32) (o' : Option Nat), mm_plain_134 K (mm_plain_lp57 K f) m l1 l3 b1 (nI i) = (gd b' 512 <| nm ((m_keys m b'.toNatClampNeg).toInt64) fun v12 => gd b' 512 <| bd (mm_home m (nI t) (m_keys m b'.toNatClampNeg)) fun v14 => mm_plain_lp169 K FU m v12 l3 v14 0) ∧ Pk c n l1 t b' o' := by
      intro b1 o1 h1
      unfold mm_plain_134
      rw [nm_eq, nI_1]
      exact ih (i + 1) f b1 o1 (by omega) (by omega) h1
    cases hc : c i with
    | none =>
      rw [mk_none (hmt.2 i (by omega)) hc, it_T rfl]
      refine go b o ?_
      have hlt : ∀ s, s < i + 1 → c s ≠ none → s < i := fun s hs hcs => by
        have : s ≠ i := fun z => hcs (by rw [z]; exact hc)
        omega
      cases o with
      | none => exact ⟨hp.1, fun s hs hcs => hp.2 s (hlt s hs hcs) hcs⟩
      | some s0 => exact ⟨hp.1, by have := hp.2.1; omega, hp.2.2.1, hp.2.2.2.1, fun s hs hcs => hp.2.2.2.2 s (hlt s hs hcs) hcs⟩
    | some a =>
      obtain ⟨k, v⟩ := a
      have hk := mk_some (hmt.2 i (by omega)) hc
      have hki := kO_at hc
      have hcn : c i ≠ none := by rw [hc]; exact fun z => by cases z
      rw [hk.1, it_F o10, g512 (by omega), hk.2.1]
      by_cases q1 : k.toInt64 ≤ l1
      · rw [it_T ((lg_cmp_le _ _).mpr q1)]
        refine go b o ?_
        cases o with
        | none =>
          refine ⟨hp.1, fun s hs hcs => ?_⟩
          by_cases q : s = i
          · rw [q, hki]
            exact q1
          · exact hp.2 s (by omega) hcs
        | some s0 =>
          refine ⟨hp.1, by have := hp.2.1; omega, hp.2.2.1, hp.2.2.2.1, fun s hs hcs hl => ?_⟩
          by_cases q : s = i
          · rw [q, hki] at hl
            exact absurd q1 (lg_lt_not_le hl)
          · exact hp.2.2.2.2 s (by omega) hcs hl
      · rw [it_F (fun z => q1 ((lg_cmp_le _ _).mp z))]
        have q1' := l_lt q1
        cases o with
        | none =>
          rw [it_T hp.1]
          unfold mm_plain_130
          refine go _ (some i) ⟨rfl, by omega, hcn, by rw [hki]; exact q1', fun s hs hcs hl => ?_⟩
          by_cases q : s = i
          · rw [q]
            exact Int32.le_refl _
          · exact absurd hl (fun z => lg_lt_not_le z (hp.2 s (by omega) hcs))
        | some s0 =>
          obtain ⟨u1, u2, u3, u4, u5⟩ := hp
          cases hc0 : c s0 with
          | none => exact absurd hc0 u3
          | some a0 =>
            obtain ⟨k0, v0⟩ := a0
            have hk0 := mk_some (hmt.2 s0 (by omega)) hc0
            have hk0' := kO_at hc0
            rw [u1, it_F (nI_m1 (by omega)), g512 (by omega), g512 (by omega), cl512 (by omega), hk0.2.1]
            by_cases q2 : k0 ≤ k
            · rw [it_T q2]
              refine go _ (some s0) ⟨rfl, by omega, u3, u4, fun s hs hcs hl => ?_⟩
              by_cases q : s = i
              · rw [q, hki, hk0']
                exact q2
              · exact u5 s (by omega) hcs hl
            · rw [it_F q2]
              unfold mm_plain_130
              refine go _ (some i) ⟨rfl, by omega, hcn, by rw [hki]; exact q1', fun s hs hcs hl => ?_⟩
              by_cases q : s = i
              · rw [q]
                exact Int32.le_refl _
              · have h1 := u5 s (by omega) hcs hl
                have h2 := i_lt_of q2
                rw [hk0'] at h1
                rw [hki]
                exact Int32.le_of_lt (by
                  rw [Int32.lt_iff_toInt_lt] at *
                  rw [Int32.le_iff_toInt_le] at h1
                  omega)
end FL
