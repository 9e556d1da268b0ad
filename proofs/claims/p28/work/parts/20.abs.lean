/-! tables as mathematics: slots 0 .. n-1 with keys and values; no machine here -/
abbrev Ct : Type := Nat → Option (Int32 × Int32)
def upc (c : Ct) (i : Nat) (x : Option (Int32 × Int32)) : Ct := fun j => if j = i then x else c j
theorem upc_s (c : Ct) (i : Nat) (x : Option (Int32 × Int32)) : upc c i x i = x := if_pos rfl
theorem upc_n {c : Ct} {i j : Nat} {x : Option (Int32 × Int32)} (h : j ≠ i) : upc c i x j = c j := if_neg h
def nx (n i : Nat) : Nat := (i + 1) % n
def dd (n h s : Nat) : Nat := (s + n - h) % n
def Sup (n : Nat) (c : Ct) : Prop := ∀ i, n ≤ i → c i = none
def Mem (c : Ct) (k v : Int32) : Prop := ∃ i, c i = some (k, v)
def Dj (c : Ct) : Prop := ∀ i j k v v', c i = some (k, v) → c j = some (k, v') → i = j
def RH (n : Nat) (hm : Int32 → Nat) (c : Ct) : Prop := ∀ i, i < n → ∀ k v, c (nx n i) = some (k, v) → 0 < dd n (hm k) (nx n i) → ∃ k' v', c i = some (k', v') ∧ dd n (hm k) (nx n i) ≤ dd n (hm k') i + 1
def cnt : Nat → Ct → Nat
  | 0, _ => 0
  | n + 1, c => cnt n c + (if (c n).isSome then 1 else 0)
theorem md_lt {a n : Nat} (h : a < n) : a % n = a := Nat.mod_eq_of_lt h
theorem md_ge {a n : Nat} (h1 : n ≤ a) (h2 : a < n + n) : a % n = a - n := by
  rw [Nat.mod_eq_sub_mod h1, Nat.mod_eq_of_lt (by omega)]
theorem nx_lt {n i : Nat} (h : i < n) : nx n i < n := Nat.mod_lt _ (by omega)
theorem nx_val {n i : Nat} (h : i < n) : nx n i = if i + 1 = n then 0 else i + 1 := by
  unfold nx
  by_cases q : i + 1 = n
  · rw [if_pos q, q, Nat.mod_self]
  · rw [if_neg q, md_lt (by omega)]
theorem nx_inj {n i j : Nat} (hi : i < n) (hj : j < n) (h : nx n i = nx n j) : i = j := by
  rw [nx_val hi, nx_val hj] at h
  split at h <;> split at h <;> omega
theorem nx_ne {n i : Nat} (hn : 2 ≤ n) (h : i < n) : nx n i ≠ i := by
  rw [nx_val h]
  split <;> omega
theorem dd_val {n h s : Nat} (hh : h < n) (hs : s < n) : dd n h s = if h ≤ s then s - h else s + n - h := by
  unfold dd
  by_cases q : h ≤ s
  · rw [if_pos q, md_ge (by omega) (by omega)]
    omega
  · rw [if_neg q, md_lt (by omega)]
theorem dd_lt {n h s : Nat} (hn : 0 < n) : dd n h s < n := Nat.mod_lt _ hn
theorem dd_self {n h : Nat} (hh : h < n) : dd n h h = 0 := by
  rw [dd_val hh hh, if_pos (Nat.le_refl _), Nat.sub_self]
theorem dd_nx {n h s : Nat} (hh : h < n) (hs : s < n) (hl : dd n h s + 1 < n) : dd n h (nx n s) = dd n h s + 1 := by
  have h1 := nx_val hs
  have h2 := nx_lt hs
  rw [dd_val hh h2]
  rw [dd_val hh hs] at hl ⊢
  split at h1 <;> split at hl <;> split <;> omega
theorem dd_nxp {n h s : Nat} (hh : h < n) (hs : s < n) (hp : 0 < dd n h (nx n s)) : dd n h (nx n s) = dd n h s + 1 := by
  have h1 := nx_val hs
  have h2 := nx_lt hs
  rw [dd_val hh h2] at hp ⊢
  rw [dd_val hh hs]
  split at h1 <;> split at hp <;> split <;> first | omega | (split <;> omega)
theorem ad_nx {n s j : Nat} : (nx n s + j) % n = (s + (j + 1)) % n := by
  unfold nx
  rw [Nat.mod_add_mod]
  congr 1
  omega
theorem ad_ne {n s j : Nat} (hs : s < n) (h0 : 0 < j) (hj : j < n) : (s + j) % n ≠ s := by
  by_cases q : s + j < n
  · rw [md_lt q]
    omega
  · rw [md_ge (by omega) (by omega)]
    omega
theorem ad_lt {n a : Nat} (hn : 0 < n) : a % n < n := Nat.mod_lt _ hn
/-! counting -/
theorem cnt_congr {c c' : Ct} : ∀ {n : Nat}, (∀ i, i < n → (c i).isSome = (c' i).isSome) → cnt n c = cnt n c'
  | 0, _ => rfl
  | n + 1, h => by
    unfold cnt
    rw [cnt_congr (fun i hi => h i (by omega)), h n (by omega)]
theorem cnt_up {c : Ct} {i : Nat} {x : Option (Int32 × Int32)} : ∀ {n : Nat}, i < n → cnt n (upc c i x) + (if (c i).isSome then 1 else 0) = cnt n c + (if x.isSome then 1 else 0)
  | 0, h => by omega
  | n + 1, h => by
    unfold cnt
    by_cases q : n = i
    · subst q
      rw [upc_s, cnt_congr (c := upc c n x) (c' := c) (fun i hi => by rw [upc_n (by omega)])]
      omega
    · rw [upc_n q]
      have := cnt_up (c := c) (x := x) (n := n) (i := i) (by omega)
      omega
theorem cnt_add {c : Ct} {i n : Nat} {x : Int32 × Int32} (hi : i < n) (h : c i = none) : cnt n (upc c i (some x)) = cnt n c + 1 := by
  have := cnt_up (c := c) (x := some x) hi
  rw [h] at this
  simpa using this
theorem cnt_sub {c : Ct} {i n : Nat} (hi : i < n) (h : c i ≠ none) : cnt n (upc c i none) + 1 = cnt n c := by
  have := cnt_up (c := c) (x := none) hi
  cases hc : c i with
  | none => exact absurd hc h
  | some x =>
    rw [hc] at this
    simpa using this
theorem cnt_le {c : Ct} : ∀ {n : Nat}, cnt n c ≤ n
  | 0 => Nat.le_refl _
  | n + 1 => by
    unfold cnt
    have := cnt_le (c := c) (n := n)
    split <;> omega
theorem cnt_free {c : Ct} : ∀ {n : Nat}, cnt n c < n → ∃ i, i < n ∧ c i = none
  | 0, h => by omega
  | n + 1, h => by
    unfold cnt at h
    cases hc : c n with
    | none => exact ⟨n, by omega, hc⟩
    | some x =>
      rw [hc] at h
      have h : cnt n c + 1 < n + 1 := h
      obtain ⟨i, h1, h2⟩ := cnt_free (n := n) (c := c) (by omega)
      exact ⟨i, by omega, h2⟩
theorem cnt_pos {c : Ct} : ∀ {n : Nat}, 0 < cnt n c → ∃ i, i < n ∧ c i ≠ none
  | 0, h => by unfold cnt at h; omega
  | n + 1, h => by
    unfold cnt at h
    cases hc : c n with
    | some x => exact ⟨n, by omega, by rw [hc]; exact fun h => by cases h⟩
    | none =>
      rw [hc] at h
      have h : 0 < cnt n c + 0 := h
      obtain ⟨i, h1, h2⟩ := cnt_pos (n := n) (c := c) (by omega)
      exact ⟨i, by omega, h2⟩
theorem cnt_pos' {c : Ct} {i : Nat} : ∀ {n : Nat}, i < n → c i ≠ none → 0 < cnt n c
  | 0, h, _ => by omega
  | n + 1, h, hc => by
    unfold cnt
    by_cases q : n = i
    · subst q
      cases hx : c n with
      | none => exact absurd hx hc
      | some x => show 0 < cnt n c + 1; omega
    · have := cnt_pos' (n := n) (c := c) (i := i) (by omega) hc
      omega
theorem cnt_zero {c : Ct} {n : Nat} (h : cnt n c = 0) : ∀ i, i < n → c i = none := by
  intro i hi
  cases hc : c i with
  | none => rfl
  | some x =>
    have := cnt_pos' (c := c) hi (by rw [hc]; exact fun h => by cases h)
    omega
/-! a key is carried in -/
def Gap (n : Nat) (c : Ct) (s g : Nat) : Prop := (∀ j, j < g → c ((s + j) % n) ≠ none) ∧ c ((s + g) % n) = none ∧ g < n
theorem gap_0 {n : Nat} {c : Ct} {s : Nat} (hs : s < n) (h : Gap n c s 0) : c s = none := by
  have := h.2.1
  rw [Nat.add_zero, md_lt hs] at this
  exact this
theorem gap_s {n : Nat} {c : Ct} {s g : Nat} (hs : s < n) (h : Gap n c s (g + 1)) : c s ≠ none := by
  have := h.1 0 (by omega)
  rw [Nat.add_zero, md_lt hs] at this
  exact this
theorem gap_n {n : Nat} {c : Ct} {s g : Nat} {x : Option (Int32 × Int32)} (hs : s < n) (h : Gap n c s (g + 1)) : Gap n (upc c s x) (nx n s) g := by
  obtain ⟨h1, h2, h3⟩ := h
  refine ⟨fun j hj => ?_, ?_, by omega⟩
  · rw [ad_nx, upc_n (ad_ne hs (by omega) (by omega))]
    exact h1 (j + 1) (by omega)
  · rw [ad_nx, upc_n (ad_ne hs (by omega) (by omega))]
    exact h2
theorem gap_n' {n : Nat} {c : Ct} {s g : Nat} (h : Gap n c s (g + 1)) : Gap n c (nx n s) g := by
  obtain ⟨h1, h2, h3⟩ := h
  refine ⟨fun j hj => ?_, ?_, by omega⟩
  · rw [ad_nx]
    exact h1 (j + 1) (by omega)
  · rw [ad_nx]
    exact h2
theorem gap_ex {n : Nat} {c : Ct} {s : Nat} (hs : s < n) (h : ∃ i, i < n ∧ c i = none) : ∃ g, Gap n c s g := by
  obtain ⟨i, hi, hc⟩ := h
  have h0 : ∃ g, g < n ∧ c ((s + g) % n) = none := by
    refine ⟨dd n s i, dd_lt (by omega), ?_⟩
    have : (s + dd n s i) % n = i := by
      rw [dd_val hs hi]
      split
      · rw [md_lt (by omega)]
        omega
      · rw [md_ge (by omega) (by omega)]
        omega
    rw [this]
    exact hc
  obtain ⟨g, ⟨hg, hg2⟩, hmin⟩ := pk_least (fun g => g < n ∧ c ((s + g) % n) = none) h0
  exact ⟨g, fun j hj q => hmin j hj ⟨by omega, q⟩, hg2, hg⟩
def carry (n : Nat) (hm : Int32 → Nat) : Nat → Ct → Nat → Nat → Int32 → Int32 → Ct
  | 0, c, s, _, k, v => upc c s (some (k, v))
  | g + 1, c, s, far, k, v => match c s with
    | none => upc c s (some (k, v))
    | some a => if dd n (hm a.1) s < far then carry n hm g (upc c s (some (k, v))) (nx n s) (dd n (hm a.1) s + 1) a.1 a.2 else carry n hm g c (nx n s) (far + 1) k v
def Lft (n : Nat) (hm : Int32 → Nat) (c : Ct) (s far : Nat) : Prop := far = 0 ∨ ∃ p k1 v1, p < n ∧ nx n p = s ∧ c p = some (k1, v1) ∧ far ≤ dd n (hm k1) p + 1
def CarryOk (n : Nat) (hm : Int32 → Nat) (c c' : Ct) (k v : Int32) : Prop := Sup n c' ∧ Dj c' ∧ RH n hm c' ∧ cnt n c' = cnt n c + 1 ∧ ∀ k0 v0, Mem c' k0 v0 ↔ Mem c k0 v0 ∨ (k0 = k ∧ v0 = v)
theorem carry_ok {n : Nat} {hm : Int32 → Nat} (hn : 2 ≤ n) (hH : ∀ k, hm k < n) : ∀ (g : Nat) (c : Ct) (s far : Nat) (k v : Int32), s < n → Gap n c s g → far + g < n → far = dd n (hm k) s → Lft n hm c s far → Sup n c → Dj c → (∀ i v', c i ≠ some (k, v')) → RH n hm c → CarryOk n hm c (carry n hm g c s far k v) k v := by
  intro g
  induction g with
  | zero =>
    intro c s far k v hs hg hfg hfar hl hsup hdj hk hrh
    have hc := gap_0 hs hg
    show CarryOk n hm c (upc c s (some (k, v))) k v
    refine ⟨fun i hi => ?_, fun i j k0 v0 v1 h1 h2 => ?_, fun i hi k0 v0 h1 h2 => ?_, cnt_add hs hc, fun k0 v0 => ⟨?_, ?_⟩⟩
    · rw [upc_n (by omega)]
      exact hsup i hi
    · by_cases q1 : i = s <;> by_cases q2 : j = s
      · rw [q1, q2]
      · subst q1
        rw [upc_s] at h1
        rw [upc_n q2] at h2
        cases h1
        exact absurd h2 (hk j v1)
      · subst q2
        rw [upc_s] at h2
        rw [upc_n q1] at h1
        cases h2
        exact absurd h1 (hk i v0)
      · rw [upc_n q1] at h1
        rw [upc_n q2] at h2
        exact hdj i j k0 v0 v1 h1 h2
    · by_cases q1 : nx n i = s
      · rw [q1, upc_s] at h1
        cases h1
        rw [q1] at h2 ⊢
        rcases hl with h0 | ⟨p, k1, v1, hp, hps, hcp, hle⟩
        · omega
        · have hpi : p = i := nx_inj hp hi (hps.trans q1.symm)
          subst hpi
          refine ⟨k1, v1, ?_, by omega⟩
          rw [upc_n (fun z => by rw [z, hc] at hcp; cases hcp)]
          exact hcp
      · rw [upc_n q1] at h1
        obtain ⟨k', v', h3, h4⟩ := hrh i hi k0 v0 h1 h2
        refine ⟨k', v', ?_, h4⟩
        rw [upc_n (fun z => by rw [z, hc] at h3; cases h3)]
        exact h3
    · rintro ⟨i, hi⟩
      by_cases q : i = s
      · subst q
        rw [upc_s] at hi
        cases hi
        exact Or.inr ⟨rfl, rfl⟩
      · rw [upc_n q] at hi
        exact Or.inl ⟨i, hi⟩
    · rintro (⟨i, hi⟩ | ⟨rfl, rfl⟩)
      · refine ⟨i, ?_⟩
        rw [upc_n (fun z => by rw [z, hc] at hi; cases hi)]
        exact hi
      · exact ⟨s, upc_s _ _ _⟩
  | succ g ih =>
    intro c s far k v hs hg hfg hfar hl hsup hdj hk hrh
    have hcs := gap_s hs hg
    have hns := nx_lt hs
    cases hc : c s with
    | none => exact absurd hc hcs
    | some a =>
      obtain ⟨k', v'⟩ := a
      have hd' : dd n (hm k') s < n := dd_lt (by omega)
      by_cases q : dd n (hm k') s < far
      · have e : carry n hm (g + 1) c s far k v = carry n hm g (upc c s (some (k, v))) (nx n s) (dd n (hm k') s + 1) k' v' := by
          show (match c s with
            | none => upc c s (some (k, v))
            | some a => if dd n (hm a.1) s < far then carry n hm g (upc c s (some (k, v))) (nx n s) (dd n (hm a.1) s + 1) a.1 a.2 else carry n hm g c (nx n s) (far + 1) k v) = _
          rw [hc]
          exact if_pos q
        rw [e]
        have hrh1 : RH n hm (upc c s (some (k, v))) := by
          intro i hi k0 v0 h1 h2
          by_cases q1 : nx n i = s
          · rw [q1, upc_s] at h1
            cases h1
            rw [q1] at h2 ⊢
            rcases hl with h0 | ⟨p, k1, v1, hp, hps, hcp, hle⟩
            · omega
            · have hpi : p = i := nx_inj hp hi (hps.trans q1.symm)
              subst hpi
              refine ⟨k1, v1, ?_, by omega⟩
              rw [upc_n (fun z => nx_ne hn hi (q1.trans z.symm))]
              exact hcp
          · rw [upc_n q1] at h1
            obtain ⟨k2, v2, h3, h4⟩ := hrh i hi k0 v0 h1 h2
            by_cases q2 : i = s
            · subst q2
              rw [hc] at h3
              cases h3
              exact ⟨k, v, upc_s _ _ _, by omega⟩
            · exact ⟨k2, v2, by rw [upc_n q2]; exact h3, h4⟩
        obtain ⟨r1, r2, r3, r4, r5⟩ := ih (upc c s (some (k, v))) (nx n s) (dd n (hm k') s + 1) k' v' hns (gap_n hs hg) (by omega) (dd_nx (hH k') hs (by omega)).symm (Or.inr ⟨s, k, v, hs, rfl, upc_s _ _ _, by omega⟩)
          (fun i hi => by rw [upc_n (by omega)]; exact hsup i hi)
          (fun i j k0 v0 v1 h1 h2 => by
            by_cases q1 : i = s <;> by_cases q2 : j = s
            · rw [q1, q2]
            · subst q1
              rw [upc_s] at h1
              rw [upc_n q2] at h2
              cases h1
              exact absurd h2 (hk j v1)
            · subst q2
              rw [upc_s] at h2
              rw [upc_n q1] at h1
              cases h2
              exact absurd h1 (hk i v0)
            · rw [upc_n q1] at h1
              rw [upc_n q2] at h2
              exact hdj i j k0 v0 v1 h1 h2)
          (fun i v0 h1 => by
            by_cases q1 : i = s
            · subst q1
              rw [upc_s] at h1
              cases h1
              exact hk i v' hc
            · rw [upc_n q1] at h1
              exact q1 (hdj i s k' v0 v' h1 hc)) hrh1
        refine ⟨r1, r2, r3, ?_, fun k0 v0 => (r5 k0 v0).trans ⟨?_, ?_⟩⟩
        · rw [r4]
          have := cnt_up (c := c) (x := some (k, v)) hs
          rw [hc] at this
          have : cnt n (upc c s (some (k, v))) + 1 = cnt n c + 1 := this
          omega
        · rintro (⟨i, hi⟩ | ⟨rfl, rfl⟩)
          · by_cases q1 : i = s
            · subst q1
              rw [upc_s] at hi
              cases hi
              exact Or.inr ⟨rfl, rfl⟩
            · rw [upc_n q1] at hi
              exact Or.inl ⟨i, hi⟩
          · exact Or.inl ⟨s, hc⟩
        · rintro (⟨i, hi⟩ | ⟨rfl, rfl⟩)
          · by_cases q1 : i = s
            · subst q1
              rw [hc] at hi
              cases hi
              exact Or.inr ⟨rfl, rfl⟩
            · exact Or.inl ⟨i, by rw [upc_n q1]; exact hi⟩
          · exact Or.inl ⟨s, upc_s _ _ _⟩
      · have e : carry n hm (g + 1) c s far k v = carry n hm g c (nx n s) (far + 1) k v := by
          show (match c s with
            | none => upc c s (some (k, v))
            | some a => if dd n (hm a.1) s < far then carry n hm g (upc c s (some (k, v))) (nx n s) (dd n (hm a.1) s + 1) a.1 a.2 else carry n hm g c (nx n s) (far + 1) k v) = _
          rw [hc]
          exact if_neg q
        rw [e]
        exact ih c (nx n s) (far + 1) k v hns (gap_n' hg) (by omega) (by rw [hfar]; exact (dd_nx (hH k) hs (by omega)).symm) (Or.inr ⟨s, k', v', hs, rfl, hc, by omega⟩) hsup hdj hk hrh
/-! a key is taken out: the hole goes on -/
def Stop (n : Nat) (hm : Int32 → Nat) (c : Ct) (i : Nat) : Prop := c i = none ∨ ∃ k v, c i = some (k, v) ∧ dd n (hm k) i = 0
def Run (n : Nat) (hm : Int32 → Nat) (c : Ct) (e g : Nat) : Prop := (∀ j, 0 < j → j ≤ g → ¬ Stop n hm c ((e + j) % n)) ∧ Stop n hm c ((e + (g + 1)) % n) ∧ g + 1 < n
def hole (n : Nat) : Nat → Ct → Nat → Ct
  | 0, c, _ => c
  | g + 1, c, e => hole n g (upc (upc c e (c (nx n e))) (nx n e) none) (nx n e)
theorem run_0 {n : Nat} {hm : Int32 → Nat} {c : Ct} {e : Nat} (h : Run n hm c e 0) : Stop n hm c (nx n e) := h.2.1
theorem run_s {n : Nat} {hm : Int32 → Nat} {c : Ct} {e g : Nat} (h : Run n hm c e (g + 1)) : ¬ Stop n hm c (nx n e) := h.1 1 (by omega) (by omega)
theorem run_n {n : Nat} {hm : Int32 → Nat} {c : Ct} {e g : Nat} {x : Option (Int32 × Int32)} (he : e < n) (h : Run n hm c e (g + 1)) : Run n hm (upc (upc c e x) (nx n e) none) (nx n e) g := by
  obtain ⟨h1, h2, h3⟩ := h
  have hne := nx_lt he
  have key : ∀ j, 0 < j → j < n - 1 → upc (upc c e x) (nx n e) none ((nx n e + j) % n) = c ((e + (j + 1)) % n) := by
    intro j h0 hj
    rw [upc_n (ad_ne hne h0 (by omega)), ad_nx, upc_n (ad_ne he (by omega) (by omega))]
  refine ⟨fun j h0 hj q => ?_, ?_, by omega⟩
  · refine h1 (j + 1) (by omega) (by omega) ?_
    unfold Stop at q ⊢
    rw [key j h0 (by omega)] at q
    rw [ad_nx] at q
    exact q
  · unfold Stop at h2 ⊢
    rw [key (g + 1) (by omega) (by omega), ad_nx]
    exact h2
theorem run_ex {n : Nat} {hm : Int32 → Nat} {c : Ct} {e : Nat} (he : e < n) (h : ∃ i, i < n ∧ i ≠ e ∧ c i = none) : ∃ g, Run n hm c e g := by
  obtain ⟨i, hi, hie, hc⟩ := h
  have hd := dd_lt (n := n) (h := e) (s := i) (by omega)
  have hv := dd_val he hi
  have h0 : ∃ g, g + 1 < n ∧ Stop n hm c ((e + (g + 1)) % n) := by
    have hp : 0 < dd n e i := by
      rw [hv]
      split <;> omega
    refine ⟨dd n e i - 1, by omega, Or.inl ?_⟩
    have : (e + (dd n e i - 1 + 1)) % n = i := by
      rw [show dd n e i - 1 + 1 = dd n e i by omega, hv]
      split
      · rw [md_lt (by omega)]
        omega
      · rw [md_ge (by omega) (by omega)]
        omega
    rw [this]
    exact hc
  obtain ⟨g, ⟨hg, hg2⟩, hmin⟩ := pk_least (fun g => g + 1 < n ∧ Stop n hm c ((e + (g + 1)) % n)) h0
  refine ⟨g, fun j h1 hj q => hmin (j - 1) (by omega) ⟨by omega, ?_⟩, hg2, hg⟩
  rw [show j - 1 + 1 = j by omega]
  exact q
def HoleOk (n : Nat) (hm : Int32 → Nat) (c c' : Ct) : Prop := Sup n c' ∧ Dj c' ∧ RH n hm c' ∧ cnt n c' = cnt n c ∧ ∀ k0 v0, Mem c' k0 v0 ↔ Mem c k0 v0
/-- the hole at e stands where something with the distance D stood -/
def RHh (n : Nat) (hm : Int32 → Nat) (c : Ct) (e D : Nat) : Prop := (∀ i, i < n → i ≠ e → ∀ k v, c (nx n i) = some (k, v) → 0 < dd n (hm k) (nx n i) → ∃ k' v', c i = some (k', v') ∧ dd n (hm k) (nx n i) ≤ dd n (hm k') i + 1) ∧ (∀ k v, c (nx n e) = some (k, v) → 0 < dd n (hm k) (nx n e) → dd n (hm k) (nx n e) ≤ D + 1) ∧ (0 < D → ∃ p k1 v1, p < n ∧ nx n p = e ∧ c p = some (k1, v1) ∧ D ≤ dd n (hm k1) p + 1)
theorem hole_ok {n : Nat} {hm : Int32 → Nat} (hn : 3 ≤ n) (hH : ∀ k, hm k < n) : ∀ (g : Nat) (c : Ct) (e D : Nat), e < n → Run n hm c e g → c e = none → Sup n c → Dj c → RHh n hm c e D → HoleOk n hm c (hole n g c e) := by
  intro g
  induction g with
  | zero =>
    intro c e D he hr hc hsup hdj hrh
    refine ⟨hsup, hdj, fun i hi k v h1 h2 => ?_, rfl, fun k0 v0 => Iff.rfl⟩
    by_cases q : i = e
    · subst q
      rcases run_0 hr with h | ⟨k1, v1, h, hz⟩
      · show ∃ k' v', _
        rw [show hole n 0 c i = c from rfl, h] at h1
        cases h1
      · rw [show hole n 0 c i = c from rfl, h] at h1
        cases h1
        omega
    · exact hrh.1 i hi q k v h1 h2
  | succ g ih =>
    intro c e D he hr hc hsup hdj hrh
    have hne := nx_lt he
    have hnne := nx_ne (n := n) (by omega) he
    have hns := run_s hr
    cases hb : c (nx n e) with
    | none => exact absurd (Or.inl hb) hns
    | some a =>
      obtain ⟨k, v⟩ := a
      have hp : 0 < dd n (hm k) (nx n e) := by
        rcases Nat.eq_zero_or_pos (dd n (hm k) (nx n e)) with q | q
        · exact absurd (Or.inr ⟨k, v, hb, q⟩) hns
        · exact q
      have hde := dd_nxp (hH k) he hp
      obtain ⟨r1, r2, r3⟩ := hrh
      have hD := r2 k v hb hp
      have e1 : ∀ j, j ≠ e → j ≠ nx n e → upc (upc c e (c (nx n e))) (nx n e) none j = c j := fun j h1 h2 => by rw [upc_n h2, upc_n h1]
      have e2 : upc (upc c e (c (nx n e))) (nx n e) none e = some (k, v) := by rw [upc_n (Ne.symm hnne), upc_s, hb]
      have e3 : upc (upc c e (c (nx n e))) (nx n e) none (nx n e) = none := upc_s _ _ _
      have hdj1 : Dj (upc (upc c e (c (nx n e))) (nx n e) none) := by
        intro i j k0 v0 v1 h1 h2
        by_cases i1 : i = nx n e
        · rw [i1, e3] at h1
          cases h1
        by_cases j1 : j = nx n e
        · rw [j1, e3] at h2
          cases h2
        by_cases i2 : i = e <;> by_cases j2 : j = e
        · rw [i2, j2]
        · rw [i2, e2] at h1
          cases h1
          rw [e1 j j2 j1] at h2
          exact absurd (hdj j (nx n e) k v1 v h2 hb) j1
        · rw [j2, e2] at h2
          cases h2
          rw [e1 i i2 i1] at h1
          exact absurd (hdj i (nx n e) k v0 v h1 hb) i1
        · rw [e1 i i2 i1] at h1
          rw [e1 j j2 j1] at h2
          exact hdj i j k0 v0 v1 h1 h2
      obtain ⟨t1, t2, t3, t4, t5⟩ := ih (upc (upc c e (c (nx n e))) (nx n e) none) (nx n e) (dd n (hm k) (nx n e)) hne (run_n he hr) e3
        (fun i hi => by rw [e1 i (by omega) (by omega)]; exact hsup i hi) hdj1
        ⟨fun i hi hi1 k0 v0 h1 h2 => by
          by_cases q1 : nx n i = e
          · rw [q1, e2] at h1
            cases h1
            rw [q1] at h2 ⊢
            obtain ⟨p, k1, v1, hp1, hpe, hcp, hle⟩ := r3 (by omega)
            have : p = i := nx_inj hp1 hi (hpe.trans q1.symm)
            subst this
            have hpne : p ≠ e := fun z => nx_ne (n := n) (by omega) he (by rw [← z]; exact hpe.trans z.symm)
            exact ⟨k1, v1, by rw [e1 p hpne hi1]; exact hcp, by omega⟩
          · have q2 : nx n i ≠ nx n e := fun z => by
              have := nx_inj hi he z
              rw [this, e3] at h1
              cases h1
            rw [e1 _ q1 q2] at h1
            by_cases q3 : i = e
            · exact absurd (by rw [q3]) q2
            · obtain ⟨k', v', h3, h4⟩ := r1 i hi q3 k0 v0 h1 h2
              exact ⟨k', v', by rw [e1 i q3 hi1]; exact h3, h4⟩, fun k0 v0 h1 h2 => by
          by_cases q1 : nx n (nx n e) = e
          · rw [nx_val hne, nx_val he] at q1
            split at q1 <;> split at q1 <;> omega
          · rw [e1 _ q1 (nx_ne (by omega) hne)] at h1
            obtain ⟨k', v', h3, h4⟩ := r1 (nx n e) hne hnne k0 v0 h1 h2
            rw [hb] at h3
            cases h3
            exact h4, fun _ => ⟨e, k, v, he, rfl, e2, by omega⟩⟩
      have hc1 : cnt n (upc (upc c e (c (nx n e))) (nx n e) none) = cnt n c := by
        have h1 := cnt_add (c := c) (x := (k, v)) he hc
        have h2 := cnt_sub (c := upc c e (c (nx n e))) hne (by rw [upc_n hnne, hb]; exact fun h => by cases h)
        rw [hb] at h2 ⊢
        omega
      refine ⟨t1, t2, t3, t4.trans hc1, fun k0 v0 => (t5 k0 v0).trans ⟨?_, ?_⟩⟩
      · rintro ⟨i, hi⟩
        by_cases i1 : i = nx n e
        · rw [i1, e3] at hi
          cases hi
        by_cases i2 : i = e
        · rw [i2, e2] at hi
          cases hi
          exact ⟨nx n e, hb⟩
        · rw [e1 i i2 i1] at hi
          exact ⟨i, hi⟩
      · rintro ⟨i, hi⟩
        by_cases i1 : i = nx n e
        · rw [i1, hb] at hi
          cases hi
          exact ⟨e, e2⟩
        by_cases i2 : i = e
        · rw [i2, hc] at hi
          cases hi
        · exact ⟨i, by rw [e1 i i2 i1]; exact hi⟩
/-- the key of slot s taken out of a good table -/
theorem take_ok {n : Nat} {hm : Int32 → Nat} (hn : 3 ≤ n) (hH : ∀ k, hm k < n) {c : Ct} {s g : Nat} {k v : Int32} (hs : s < n) (hr : Run n hm c s g) (hc : c s = some (k, v)) (hsup : Sup n c) (hdj : Dj c) (hrh : RH n hm c) :
    Sup n (hole n g (upc c s none) s) ∧ Dj (hole n g (upc c s none) s) ∧ RH n hm (hole n g (upc c s none) s) ∧ cnt n (hole n g (upc c s none) s) + 1 = cnt n c ∧ ∀ k0 v0, Mem (hole n g (upc c s none) s) k0 v0 ↔ Mem c k0 v0 ∧ k0 ≠ k := by
  have hr1 : Run n hm (upc c s none) s g := by
    obtain ⟨h1, h2, h3⟩ := hr
    refine ⟨fun j h0 hj q => h1 j h0 hj ?_, ?_, h3⟩
    · unfold Stop at q ⊢
      rw [upc_n (ad_ne hs h0 (by omega))] at q
      exact q
    · unfold Stop at h2 ⊢
      rw [upc_n (ad_ne hs (by omega) (by omega))]
      exact h2
  obtain ⟨t1, t2, t3, t4, t5⟩ := hole_ok hn hH g (upc c s none) s (dd n (hm k) s) hs hr1 (upc_s _ _ _)
    (fun i hi => by rw [upc_n (by omega)]; exact hsup i hi)
    (fun i j k0 v0 v1 h1 h2 => by
      by_cases i1 : i = s
      · rw [i1, upc_s] at h1
        cases h1
      by_cases j1 : j = s
      · rw [j1, upc_s] at h2
        cases h2
      rw [upc_n i1] at h1
      rw [upc_n j1] at h2
      exact hdj i j k0 v0 v1 h1 h2)
    ⟨fun i hi hi1 k0 v0 h1 h2 => by
      by_cases q : nx n i = s
      · rw [q, upc_s] at h1
        cases h1
      · rw [upc_n q] at h1
        obtain ⟨k', v', h3, h4⟩ := hrh i hi k0 v0 h1 h2
        exact ⟨k', v', by rw [upc_n hi1]; exact h3, h4⟩, fun k0 v0 h1 h2 => by
      rw [upc_n (nx_ne (by omega) hs)] at h1
      obtain ⟨k', v', h3, h4⟩ := hrh s hs k0 v0 h1 h2
      rw [hc] at h3
      cases h3
      exact h4, fun hD => by
      have : ∃ p, p < n ∧ nx n p = s := by
        refine ⟨if s = 0 then n - 1 else s - 1, by split <;> omega, ?_⟩
        rw [nx_val (by split <;> omega)]
        split <;> split at * <;> omega
      obtain ⟨p, hp, hps⟩ := this
      obtain ⟨k', v', h3, h4⟩ := hrh p hp k v (by rw [hps]; exact hc) (by rw [hps]; exact hD)
      rw [hps] at h4
      exact ⟨p, k', v', hp, hps, by rw [upc_n (fun z => nx_ne (n := n) (by omega) hp (by rw [hps, z]))]; exact h3, h4⟩⟩
  refine ⟨t1, t2, t3, ?_, fun k0 v0 => (t5 k0 v0).trans ⟨?_, ?_⟩⟩
  · rw [t4]
    exact cnt_sub hs (by rw [hc]; exact fun h => by cases h)
  · rintro ⟨i, hi⟩
    by_cases q : i = s
    · rw [q, upc_s] at hi
      cases hi
    · rw [upc_n q] at hi
      exact ⟨⟨i, hi⟩, fun z => q (hdj i s k v0 v (by rw [← z]; exact hi) hc)⟩
  · rintro ⟨⟨i, hi⟩, hne⟩
    refine ⟨i, ?_⟩
    rw [upc_n (fun z => by rw [z, hc] at hi; cases hi; exact hne rfl)]
    exact hi
/-- on the way from its home to a key every slot has a key -/
theorem way_full {n : Nat} {hm : Int32 → Nat} (hH : ∀ k, hm k < n) {c : Ct} (hrh : RH n hm c) {k v : Int32} : ∀ (d s : Nat), s < n → ∀ k1 v1, c s = some (k1, v1) → d ≤ dd n (hm k1) s → ∃ p, p < n ∧ (p + d) % n = s ∧ c p ≠ none := by
  intro d
  induction d with
  | zero =>
    intro s hs k1 v1 h1 h2
    exact ⟨s, hs, md_lt hs, by rw [h1]; exact fun h => by cases h⟩
  | succ d ih =>
    intro s hs k1 v1 h1 h2
    have : ∃ p, p < n ∧ nx n p = s := by
      refine ⟨if s = 0 then n - 1 else s - 1, by split <;> omega, ?_⟩
      rw [nx_val (by split <;> omega)]
      split <;> split at * <;> omega
    obtain ⟨p, hp, hps⟩ := this
    subst hps
    obtain ⟨k', v', h3, h4⟩ := hrh p hp k1 v1 h1 (by omega)
    obtain ⟨p2, hp2, he, hne⟩ := ih p hp k' v' h3 (by omega)
    refine ⟨p2, hp2, ?_, hne⟩
    have : (p2 + (d + 1)) % n = nx n ((p2 + d) % n) := by
      unfold nx
      rw [Nat.mod_add_mod]
      congr 1
    rw [this, he]
