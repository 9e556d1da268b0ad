/-! sums; how many keys go over from a slot to the next: it is told by the homes alone -/
def sm : Nat → (Nat → Nat) → Nat
  | 0, _ => 0
  | n + 1, f => sm n f + f n
theorem sm_congr {f g : Nat → Nat} : ∀ {n : Nat}, (∀ i, i < n → f i = g i) → sm n f = sm n g
  | 0, _ => rfl
  | n + 1, h => by
    unfold sm
    rw [sm_congr (fun i hi => h i (by omega)), h n (by omega)]
theorem sm_add {f g : Nat → Nat} : ∀ {n : Nat}, sm n (fun i => f i + g i) = sm n f + sm n g
  | 0 => rfl
  | n + 1 => by
    show sm n (fun i => f i + g i) + (f n + g n) = sm n f + f n + (sm n g + g n)
    rw [sm_add (f := f) (g := g) (n := n)]
    omega
theorem sm_zero : ∀ {n : Nat}, sm n (fun _ => 0) = 0
  | 0 => rfl
  | n + 1 => by
    show sm n (fun _ => 0) + 0 = 0
    rw [sm_zero (n := n)]
theorem sm_swap {f : Nat → Nat → Nat} {m : Nat} : ∀ {n : Nat}, sm n (fun i => sm m (fun j => f i j)) = sm m (fun j => sm n (fun i => f i j))
  | 0 => sm_zero.symm
  | n + 1 => by
    show sm n (fun i => sm m (fun j => f i j)) + sm m (fun j => f n j) = sm m (fun j => sm n (fun i => f i j) + f n j)
    rw [sm_swap (f := f) (m := m) (n := n), ← sm_add]
theorem sm_up {f g : Nat → Nat} {y : Nat} : ∀ {n : Nat}, y < n → (∀ i, i < n → i ≠ y → g i = f i) → sm n g + f y = sm n f + g y
  | 0, h, _ => by omega
  | n + 1, h, hg => by
    unfold sm
    by_cases q : n = y
    · subst q
      rw [sm_congr (fun i hi => hg i (by omega) (by omega))]
      omega
    · have := sm_up (f := f) (g := g) (y := y) (n := n) (by omega) (fun i hi => hg i (by omega))
      rw [hg n (by omega) q]
      omega
theorem sm_one {n y : Nat} (hy : y < n) : sm n (fun i => if i = y then 1 else 0) = 1 := by
  have := sm_up (f := fun _ => 0) (g := fun i => if i = y then 1 else 0) hy (fun i _ h => if_neg h)
  have e : (if y = y then 1 else 0) = 1 := if_pos rfl
  rw [sm_zero] at this
  omega
theorem sm_ex {f : Nat → Nat} : ∀ {n : Nat}, 0 < sm n f → ∃ i, i < n ∧ 0 < f i
  | 0, h => by
    unfold sm at h
    omega
  | n + 1, h => by
    unfold sm at h
    rcases Nat.eq_zero_or_pos (f n) with q | q
    · obtain ⟨i, hi, h2⟩ := sm_ex (f := f) (n := n) (by omega)
      exact ⟨i, by omega, h2⟩
    · exact ⟨n, by omega, q⟩
theorem sm_le {f : Nat → Nat} {b : Nat} : ∀ {n : Nat}, (∀ i, i < n → f i ≤ b) → sm n f ≤ n * b
  | 0, _ => by
    unfold sm
    omega
  | n + 1, h => by
    unfold sm
    have h1 := sm_le (f := f) (b := b) (n := n) (fun i hi => h i (by omega))
    have h2 := h n (by omega)
    rw [Nat.succ_mul]
    omega
abbrev Hm : Type := Nat → Option Nat
def dT (n : Nat) (T : Hm) (s : Nat) : Nat := match T s with
  | none => 0
  | some h => dd n h s
def tot (n : Nat) (T : Hm) : Nat := sm n (dT n T)
def fT (n : Nat) (T : Hm) (x s : Nat) : Nat := match T s with
  | none => 0
  | some h => if dd n x s < dd n h s then 1 else 0
def FT (n : Nat) (T : Hm) (x : Nat) : Nat := sm n (fT n T x)
def hT (T : Hm) (x s : Nat) : Nat := match T s with
  | none => 0
  | some h => if h = x then 1 else 0
def HT (n : Nat) (T : Hm) (x : Nat) : Nat := sm n (hT T x)
def oT (T : Hm) (x s : Nat) : Nat := match T s with
  | none => 0
  | some _ => if s = x then 1 else 0
def GT (n : Nat) (T : Hm) : Prop := ∀ s, s < n → ∀ h, T s = some h → h < n
def PC (n : Nat) (T : Hm) : Prop := ∀ s, s < n → ∀ h, T s = some h → ∀ j, j ≤ dd n h s → T ((h + j) % n) ≠ none
section CR
variable {n : Nat} {T T' : Hm} {x s h : Nat}
theorem dd_zero (hh : h < n) (hs : s < n) : dd n h s = 0 ↔ h = s := by
  rw [dd_val hh hs]
  split <;> omega
theorem dd_same (hx : x < n) (hh : h < n) (hs : s < n) (e : dd n x s = dd n h s) : x = h := by
  rw [dd_val hx hs, dd_val hh hs] at e
  split at e <;> split at e <;> omega
theorem dd_back (hx : x < n) (hs : s < n) (hne : s ≠ x) : dd n (nx n x) s + 1 = dd n x s := by
  have h1 := nx_val hx
  have h2 := nx_lt hx
  rw [dd_val hx hs, dd_val h2 hs]
  split at h1 <;> split <;> split <;> omega
theorem dd_last (hx : x < n) : dd n (nx n x) x + 1 = n := by
  have h1 := nx_val hx
  have h2 := nx_lt hx
  rw [dd_val h2 hx]
  split at h1 <;> split <;> omega
theorem dd_at (hh : h < n) {g : Nat} (hg : g < n) : dd n h ((h + g) % n) = g := by
  have h2 : (h + g) % n < n := Nat.mod_lt _ (by omega)
  rw [dd_val hh h2]
  by_cases q : h + g < n
  · rw [md_lt q]
    split <;> omega
  · rw [md_ge (by omega) (by omega)]
    split <;> omega
theorem at_dd (hh : h < n) (hs : s < n) : (h + dd n h s) % n = s := by
  rw [dd_val hh hs]
  split
  · rw [md_lt (by omega)]
    omega
  · rw [md_ge (by omega) (by omega)]
    omega
theorem add_inj {p b z : Nat} (hp : p < n) (hb : b < n) (hz : z < n) (e : (p + z) % n = (b + z) % n) : p = b := by
  rcases Nat.lt_or_ge (p + z) n with q1 | q1 <;> rcases Nat.lt_or_ge (b + z) n with q2 | q2
  · rw [md_lt q1, md_lt q2] at e
    omega
  · rw [md_lt q1, md_ge q2 (by omega)] at e
    omega
  · rw [md_ge q1 (by omega), md_lt q2] at e
    omega
  · rw [md_ge q1 (by omega), md_ge q2 (by omega)] at e
    omega
/-- one slot's part in the balance of a slot -/
theorem bal1 (hg : GT n T) (hx : x < n) (hs : s < n) : fT n T (nx n x) s + oT T x s = fT n T x s + hT T x s := by
  unfold fT oT hT
  cases hT : T s with
  | none => rfl
  | some h =>
    have hh := hg s hs h hT
    have hD := dd_lt (n := n) (h := h) (s := s) (by omega)
    show (if dd n (nx n x) s < dd n h s then 1 else 0) + (if s = x then 1 else 0) = (if dd n x s < dd n h s then 1 else 0) + (if h = x then 1 else 0)
    by_cases q : s = x
    · subst q
      have h1 := dd_last hx
      have h2 := dd_zero hh hx
      rw [if_neg (by omega), if_pos rfl, dd_self hx]
      by_cases q2 : h = s
      · rw [if_neg (by have := h2.mpr q2; omega), if_pos q2]
      · rw [if_pos (by have : dd n h s ≠ 0 := fun z => q2 (h2.mp z); omega), if_neg q2]
    · have h1 := dd_back hx hs q
      by_cases q2 : h = x
      · subst q2
        rw [if_pos (by omega), if_neg q, if_neg (by omega), if_pos rfl]
      · have h3 : dd n x s ≠ dd n h s := fun z => q2 (dd_same hx hh hs z).symm
        rw [if_neg q, if_neg q2]
        by_cases q3 : dd n x s < dd n h s
        · rw [if_pos q3, if_pos (by omega)]
        · rw [if_neg q3, if_neg (by omega)]
theorem bal (hg : GT n T) (hx : x < n) : FT n T (nx n x) + sm n (oT T x) = FT n T x + HT n T x := by
  unfold FT HT
  rw [← sm_add, ← sm_add]
  exact sm_congr (fun s hs => bal1 hg hx hs)
theorem o_none (h : T x = none) : sm n (oT T x) = 0 := by
  rw [sm_congr (g := fun _ => 0) (fun s hs => ?_)]
  · exact sm_zero
  · unfold oT
    cases hT : T s with
    | none => rfl
    | some a => exact if_neg (fun z => by rw [z, h] at hT; cases hT)
theorem o_some (hx : x < n) (h : T x ≠ none) : sm n (oT T x) = 1 := by
  rw [sm_congr (g := fun s => if s = x then 1 else 0) (fun s hs => ?_)]
  · exact sm_one hx
  · unfold oT
    cases hT : T s with
    | none => exact (if_neg (fun z => h (by rw [← z]; exact hT))).symm
    | some a => rfl
theorem free_F (hg : GT n T) (hp : PC n T) (hx : x < n) (h : T x = none) : FT n T x = 0 ∧ HT n T x = 0 := by
  constructor
  · rcases Nat.eq_zero_or_pos (FT n T x) with q | q
    · exact q
    · obtain ⟨s, hs, h2⟩ := sm_ex q
      unfold fT at h2
      cases hT : T s with
      | none =>
        rw [hT] at h2
        exact absurd h2 (Nat.lt_irrefl 0)
      | some a =>
        rw [hT] at h2
        have h3 : dd n x s < dd n a s := by
          by_cases z : dd n x s < dd n a s
          · exact z
          · rw [show (match some a with | none => 0 | some h => if dd n x s < dd n h s then 1 else 0) = (if dd n x s < dd n a s then 1 else 0) from rfl, if_neg z] at h2
            exact absurd h2 (Nat.lt_irrefl 0)
        have ha := hg s hs a hT
        have h4 := hp s hs a hT (dd n a s - dd n x s) (by omega)
        have h5 : (a + (dd n a s - dd n x s)) % n = x := by
          have hb : (a + (dd n a s - dd n x s)) % n < n := Nat.mod_lt _ (by omega)
          refine add_inj (z := dd n x s) hb hx (dd_lt (by omega)) ?_
          rw [Nat.mod_add_mod, at_dd hx hs, show a + (dd n a s - dd n x s) + dd n x s = a + dd n a s by omega, at_dd ha hs]
        rw [h5] at h4
        exact absurd h h4
  · rcases Nat.eq_zero_or_pos (HT n T x) with q | q
    · exact q
    · obtain ⟨s, hs, h2⟩ := sm_ex q
      unfold hT at h2
      cases hT : T s with
      | none =>
        rw [hT] at h2
        exact absurd h2 (Nat.lt_irrefl 0)
      | some a =>
        rw [hT] at h2
        have h3 : a = x := by
          by_cases z : a = x
          · exact z
          · rw [show (match some a with | none => 0 | some h => if h = x then 1 else 0) = (if a = x then 1 else 0) from rfl, if_neg z] at h2
            exact absurd h2 (Nat.lt_irrefl 0)
        subst h3
        have h4 := hp s hs a hT 0 (Nat.zero_le _)
        rw [Nat.add_zero, md_lt hx] at h4
        exact absurd h h4
theorem F_nx (hg : GT n T) (hp : PC n T) (hx : x < n) : FT n T (nx n x) = FT n T x + HT n T x - 1 := by
  have hb := bal hg hx
  cases hT : T x with
  | none =>
    obtain ⟨h1, h2⟩ := free_F hg hp hx hT
    rw [o_none hT] at hb
    omega
  | some a =>
    rw [o_some hx (by rw [hT]; exact fun z => by cases z)] at hb
    omega
theorem F_le (hg : GT n T) (hp : PC n T) (hg' : GT n T') (hp' : PC n T') (hH : ∀ x, x < n → HT n T x = HT n T' x) {x0 : Nat} (h0 : x0 < n) (hT : T x0 = none) : ∀ x, x < n → FT n T x ≤ FT n T' x := by
  have hj : ∀ j, FT n T ((x0 + j) % n) ≤ FT n T' ((x0 + j) % n) := by
    intro j
    induction j with
    | zero =>
      rw [Nat.add_zero, md_lt h0, (free_F hg hp h0 hT).1]
      exact Nat.zero_le _
    | succ j ih =>
      have hy : (x0 + j) % n < n := Nat.mod_lt _ (by omega)
      have e : (x0 + (j + 1)) % n = nx n ((x0 + j) % n) := by
        unfold nx
        rw [Nat.mod_add_mod]
        congr 1
      rw [e, F_nx hg hp hy, F_nx hg' hp' hy, hH _ hy]
      omega
  intro x hx
  have := hj (dd n x0 x)
  rw [at_dd h0 hx] at this
  exact this
theorem lt_count (hs : s < n) : ∀ D, D ≤ n → sm n (fun x => if dd n x s < D then 1 else 0) = D
  | 0, _ => by
    rw [sm_congr (g := fun _ => 0) (fun x _ => if_neg (by omega))]
    exact sm_zero
  | D + 1, hD => by
    have h1 : (s + n - D) % n < n := Nat.mod_lt _ (by omega)
    have h2 : dd n ((s + n - D) % n) s = D := by
      rw [dd_val h1 hs]
      by_cases q : s + n - D < n
      · rw [md_lt q]
        split <;> omega
      · rw [md_ge (by omega) (by omega)]
        split <;> omega
    rw [sm_congr (g := fun x => (if dd n x s < D then 1 else 0) + (if x = (s + n - D) % n then 1 else 0)) (fun x hx => ?_), sm_add, lt_count hs D (by omega), sm_one h1]
    by_cases q : x = (s + n - D) % n
    · rw [if_pos q, q, h2, if_neg (Nat.lt_irrefl D), if_pos (by omega)]
    · have h3 : dd n x s ≠ D := fun z => q (dd_same hx h1 hs (by rw [z, h2]))
      rw [if_neg q]
      by_cases q2 : dd n x s < D
      · rw [if_pos q2, if_pos (by omega)]
      · rw [if_neg q2, if_neg (by omega)]
theorem tot_F (hg : GT n T) : tot n T = sm n (FT n T) := by
  unfold tot FT
  rw [sm_swap]
  refine sm_congr (fun s hs => ?_)
  unfold dT fT
  cases hT : T s with
  | none => exact sm_zero.symm
  | some h =>
    have hh := hg s hs h hT
    exact (lt_count hs (dd n h s) (Nat.le_of_lt (dd_lt (by omega)))).symm
theorem tot_uniq (hg : GT n T) (hp : PC n T) (hg' : GT n T') (hp' : PC n T') (hH : ∀ x, x < n → HT n T x = HT n T' x) (h1 : ∃ i, i < n ∧ T i = none) (h2 : ∃ i, i < n ∧ T' i = none) : tot n T = tot n T' := by
  obtain ⟨i, hi, hi2⟩ := h1
  obtain ⟨j, hj, hj2⟩ := h2
  rw [tot_F hg, tot_F hg']
  refine sm_congr (fun x hx => ?_)
  have a := F_le hg hp hg' hp' hH hi hi2 x hx
  have b := F_le hg' hp' hg hp (fun x hx => (hH x hx).symm) hj hj2 x hx
  omega
/-! a key goes into the first free slot from its home on -/
def puT (T : Hm) (y h : Nat) : Hm := fun s => if s = y then some h else T s
theorem puT_s {y : Nat} : puT T y h y = some h := if_pos rfl
theorem puT_n {y : Nat} (q : s ≠ y) : puT T y h s = T s := if_neg q
theorem put_G (hg : GT n T) (hh : h < n) (y : Nat) : GT n (puT T y h) := by
  intro s hs a ha
  by_cases q : s = y
  · rw [q, puT_s] at ha
    cases ha
    exact hh
  · rw [puT_n q] at ha
    exact hg s hs a ha
theorem put_P (hp : PC n T) (hh : h < n) {g : Nat} (hg : g < n) (hocc : ∀ j, j < g → T ((h + j) % n) ≠ none) : PC n (puT T ((h + g) % n) h) := by
  have hk : ∀ s, T s ≠ none → puT T ((h + g) % n) h s ≠ none := by
    intro s hs
    by_cases q : s = (h + g) % n
    · rw [q, puT_s]
      exact fun z => by cases z
    · rw [puT_n q]
      exact hs
  intro s hs a ha j hj
  by_cases q : s = (h + g) % n
  · rw [q, puT_s] at ha
    cases ha
    rw [q, dd_at hh hg] at hj
    by_cases q2 : j = g
    · rw [q2, puT_s]
      exact fun z => by cases z
    · exact hk _ (hocc j (by omega))
  · rw [puT_n q] at ha
    exact hk _ (hp s hs a ha j hj)
theorem put_T (hh : h < n) {g : Nat} (hg : g < n) (hf : T ((h + g) % n) = none) : tot n (puT T ((h + g) % n) h) = tot n T + g := by
  have hy : (h + g) % n < n := Nat.mod_lt _ (by omega)
  have := sm_up (f := dT n T) (g := dT n (puT T ((h + g) % n) h)) hy (fun i _ q => by
    unfold dT
    rw [puT_n q])
  have e1 : dT n T ((h + g) % n) = 0 := by
    unfold dT
    rw [hf]
  have e2 : dT n (puT T ((h + g) % n) h) ((h + g) % n) = g := by
    unfold dT
    rw [puT_s]
    exact dd_at hh hg
  unfold tot
  omega
theorem put_H {y : Nat} (hy : y < n) (hf : T y = none) (x : Nat) : HT n (puT T y h) x = HT n T x + (if h = x then 1 else 0) := by
  have := sm_up (f := hT T x) (g := hT (puT T y h) x) hy (fun i _ q => by
    unfold hT
    rw [puT_n q])
  have e1 : hT T x y = 0 := by
    unfold hT
    rw [hf]
  have e2 : hT (puT T y h) x y = if h = x then 1 else 0 := by
    unfold hT
    rw [puT_s]
  unfold HT
  omega
end CR
/-! the class's table -/
def TC (n : Nat) (H : Int32 → Nat) (c : Ct) : Hm := fun s => match c s with
  | none => none
  | some a => some (H a.1)
theorem TC_none {n : Nat} {H : Int32 → Nat} {c : Ct} {s : Nat} : TC n H c s = none ↔ c s = none := by
  unfold TC
  cases c s with
  | none => exact ⟨fun _ => rfl, fun _ => rfl⟩
  | some a => exact ⟨fun z => (by cases z), fun z => (by cases z)⟩
theorem TC_some {n : Nat} {H : Int32 → Nat} {c : Ct} {s : Nat} {k v : Int32} (h : c s = some (k, v)) : TC n H c s = some (H k) := by
  unfold TC
  rw [h]
theorem TC_G {n : Nat} {H : Int32 → Nat} (hH : ∀ k, H k < n) (c : Ct) : GT n (TC n H c) := by
  intro s hs h hh
  unfold TC at hh
  cases hc : c s with
  | none =>
    rw [hc] at hh
    cases hh
  | some a =>
    rw [hc] at hh
    cases hh
    exact hH a.1
theorem TC_P {n : Nat} {H : Int32 → Nat} (hH : ∀ k, H k < n) {c : Ct} (hrh : RH n H c) : PC n (TC n H c) := by
  intro s hs h hh j hj
  cases hc : c s with
  | none =>
    rw [TC_none.mpr hc] at hh
    cases hh
  | some a =>
    obtain ⟨k, v⟩ := a
    rw [TC_some hc] at hh
    cases hh
    have hn := hH k
    have hd := dd_lt (n := n) (h := H k) (s := s) (by omega)
    obtain ⟨p, hp, hps, hcp⟩ := way_full (n := n) (hm := H) hH hrh (k := k) (v := v) (dd n (H k) s - j) s hs k v hc (by omega)
    have hb : (H k + j) % n < n := Nat.mod_lt _ (by omega)
    have : p = (H k + j) % n := by
      refine add_inj (z := dd n (H k) s - j) hp hb (by omega) ?_
      rw [hps, Nat.mod_add_mod, show H k + j + (dd n (H k) s - j) = H k + dd n (H k) s by omega, at_dd hn hs]
    rw [← this]
    exact fun z => hcp (TC_none.mp z)
