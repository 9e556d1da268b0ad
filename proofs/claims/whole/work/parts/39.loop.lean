/-! the law's loop -/
theorem g1_0 {α : Type} {z : Option α} : gd 0 1 z = z := gd_of (vp_in_nI (n := 0) (by omega) (by omega))
theorem o20 : ¬ (2 : Int32) = 0 := by decide
theorem hcl_eq {α δ : Type} {o : Option α} {z : α} {g : α → Option (Int32 × RR × (Nat → Int64))} {k : Int32} {u : RR} {f : Nat → Int64} (F : Int32 → RR → (Nat → Int64) → Option δ) (h1 : o = some z) (h2 : g z = some (k, u, f)) : hcl o g F = F k u f := by
  rw [h1]
  show (g z).bind _ = _
  rw [h2]
  rfl
def tlC (M : MS → Option (Int32 × MS)) (K : LZ → Option Int32) (C : (Nat → Int64) → Int32 → LZ → Option Int32) (k : Int32) (s6 : LZ) : Option Int32 := bd2 (M (ls_m s6)) fun v8 s9 => nm (ls_m' s6 s9) fun s10 => bd (mm_thrown (ls_m s10)) fun v11 => if v11 = k then if k = 0 then gd 0 1 <| C (ls_out s10) v8 s10 else K s10 else some 0
section LO
variable {x x' : RR} {m m' : MS} {B : Nat} {out : Nat → Int64}
theorem tlC_eq {M : MS → Option (Int32 × MS)} {K : LZ → Option Int32} {C : (Nat → Int64) → Int32 → LZ → Option Int32} {k v : Int32} (h1 : M m = some (v, m')) (h2 : m_thrown m' = k) : tlC M K C k (x, out, m) = if k = 0 then C out v (x, out, m') else K (x, out, m') := by
  unfold tlC
  rw [show M (ls_m (x, out, m)) = some (v, m') from h1, bd2_some, nm_eq, show mm_thrown (ls_m (ls_m' (x, out, m) m')) = some k from congrArg some h2, bd_some, it_T rfl, g1_0]
  rfl
theorem tail_g {c1 c2 : Nat} {o : Option (Ex (Int32 × RR))} {M : MS → Option (Int32 × MS)} (g : Int32 → Int64) (K : LZ → Option Int32) (C : (Nat → Int64) → Int32 → LZ → Option Int32) (h : Ag c1 c2 o (M m) B) (hC : ∀ (f : Nat → Int64) v s, f 0 = g v → C f v s = K s) (hK : ∀ x' out' m', Inv x' m' B → K (x', out', m') = some 1) : hcl o (fun z => hres c1 c2 g z out) (fun v2 u3 f4 => nm (ls_out' (ls_x' (x, out, m) u3) f4) fun s6 => tlC M K C v2 s6) = some 1 := by
  rcases h with ⟨v, x', m', h1, h2, h3, h4⟩ | ⟨x', v, m', h1, h2, h3, h4⟩ | ⟨x', v, m', h0, h1, h2, h3, h4⟩
  · refine (hcl_eq (k := 0) (u := x') (f := vp_updL out 0 (g v)) _ h1 rfl).trans ?_
    refine (show _ = tlC M K C 0 (x', vp_updL out 0 (g v), m) from rfl).trans ?_
    rw [tlC_eq h2 h3, it_T rfl, hC _ v _ (if_pos rfl)]
    exact hK _ _ _ h4
  · refine (hcl_eq (k := 1) (u := x') (f := out) _ h1 (if_pos rfl)).trans ?_
    refine (show _ = tlC M K C 1 (x', out, m) from rfl).trans ?_
    rw [tlC_eq h2 h3, it_F o10]
    exact hK _ _ _ h4
  · refine (hcl_eq (k := 2) (u := x') (f := out) _ h1 ((if_neg (fun z => h0 z.symm)).trans (if_pos rfl))).trans ?_
    refine (show _ = tlC M K C 2 (x', out, m) from rfl).trans ?_
    rw [tlC_eq h2 h3, it_F o20]
    exact hK _ _ _ h4
theorem tailX {c1 c2 : Nat} {σ : LZ} {o : Option (Ex (Int32 × RR))} {M : MS → Option (Int32 × MS)} (K : LZ → Option Int32) (h : Ag c1 c2 o (M (ls_m σ)) B) (hK : ∀ x' out' m', Inv x' m' B → K (x', out', m') = some 1) : hcl o (fun z => hres c1 c2 Int32.toInt64 z (ls_out σ)) (fun v2 u3 f4 => nm (ls_out' (ls_x' σ u3) f4) fun s6 => bd2 (M (ls_m s6)) fun v8 s9 => nm (ls_m' s6 s9) fun s10 => bd (mm_thrown (ls_m s10)) fun v11 => if v11 = v2 then if v2 = 0 then gd 0 1 <| if (lg_cmp (ls_out s10 (0 : Int32).toNatClampNeg) (v8.toInt64)) = 0 then K s10 else some 0 else K s10 else some 0) = some 1 := by
  obtain ⟨x, out, m⟩ := σ
  exact tail_g Int32.toInt64 K (fun f v s => if (lg_cmp (f (0 : Int32).toNatClampNeg) (v.toInt64)) = 0 then K s else some 0) h (fun f v s hf => if_pos (by rw [cl_0, hf]; exact (lg_cmp_eq _ _).mpr rfl)) hK
theorem tailB {c1 c2 : Nat} {σ : LZ} {o : Option (Ex (Int32 × RR))} {M : MS → Option (Int32 × MS)} (K : LZ → Option Int32) (h : Ag c1 c2 o (M (ls_m σ)) B) (hK : ∀ x' out' m', Inv x' m' B → K (x', out', m') = some 1) : hcl o (fun z => hres c1 c2 gB z (ls_out σ)) (fun v2 u3 f4 => nm (ls_out' (ls_x' σ u3) f4) fun s6 => bd2 (M (ls_m s6)) fun v8 s9 => nm (ls_m' s6 s9) fun s10 => bd (mm_thrown (ls_m s10)) fun v11 => if v11 = v2 then if v2 = 0 then gd 0 1 <| if v8 = 0 then if (lg_cmp (ls_out s10 (0 : Int32).toNatClampNeg) 0) = 0 then K s10 else some 0 else if (lg_cmp (ls_out s10 (0 : Int32).toNatClampNeg) 1) = 0 then K s10 else some 0 else K s10 else some 0) = some 1 := by
  obtain ⟨x, out, m⟩ := σ
  refine tail_g gB K (fun f v s => if v = 0 then if (lg_cmp (f (0 : Int32).toNatClampNeg) 0) = 0 then K s else some 0 else if (lg_cmp (f (0 : Int32).toNatClampNeg) 1) = 0 then K s else some 0) h (fun f v s hf => ?_) hK
  by_cases q : v = 0
  · refine (if_pos q).trans (if_pos ?_)
    rw [cl_0, hf, show gB v = 0 from if_pos q]
    exact (lg_cmp_eq _ _).mpr rfl
  · refine (if_neg q).trans (if_pos ?_)
    rw [cl_0, hf, show gB v = 1 from if_neg q]
    exact (lg_cmp_eq _ _).mpr rfl
theorem tail0 {σ : LZ} {o : Option (Int32 × RR)} {M : MS → Option (Int32 × MS)} (K : LZ → Option Int32) (h : Ag0 o (M (ls_m σ)) B) (hK : ∀ x' out' m', Inv x' m' B → K (x', out', m') = some 1) : (bd2 o fun v2 s3 => nm (ls_x' σ s3) fun s4 => bd2 (M (ls_m s4)) fun v6 s7 => nm (ls_m' s4 s7) fun s8 => if v2 = v6 then K s8 else some 0) = some 1 := by
  obtain ⟨x, out, m⟩ := σ
  obtain ⟨v, x', m', h1, h2, h3⟩ := h
  rw [h1, bd2_some, nm_eq, show M (ls_m (ls_x' (x, out, m) x')) = some (v, m') from h2, bd2_some, nm_eq, it_T rfl]
  exact hK _ _ _ h3
theorem tail1 {σ : LZ} {o : Option Int32} {M : MS → Option (Int32 × MS)} (K : LZ → Option Int32) (h : Ag1 (ls_x σ) o (M (ls_m σ)) B) (hK : ∀ x' out' m', Inv x' m' B → K (x', out', m') = some 1) : (bd o fun v1 => bd2 (M (ls_m σ)) fun v2 s3 => nm (ls_m' σ s3) fun s4 => if v1 = v2 then K s4 else some 0) = some 1 := by
  obtain ⟨x, out, m⟩ := σ
  obtain ⟨v, m', h1, h2, h3⟩ := h
  rw [h1, bd_some, h2, bd2_some, nm_eq, it_T rfl]
  exact hK _ _ _ h3
theorem tailC {σ : LZ} {o : Option (Ex RR)} {M : MS → Option MS} (K : LZ → Option Int32) (h : (∃ x' m', o = some (.inl x') ∧ M (ls_m σ) = some m' ∧ m_thrown m' = 0 ∧ Inv x' m' B) ∨ ∃ m', o = some (.inr (1, ls_x σ)) ∧ M (ls_m σ) = some m' ∧ m_thrown m' = 1 ∧ Inv (ls_x σ) m' B) (hK : ∀ x' out' m', Inv x' m' B → K (x', out', m') = some 1) : hcl o (fun z => hresV 1 z (ls_out σ)) (fun v2 u3 f4 => nm (ls_x' σ u3) fun s6 => bd (M (ls_m s6)) fun s9 => nm (ls_m' s6 s9) fun s10 => bd (mm_thrown (ls_m s10)) fun v11 => if v11 = v2 then K s10 else some 0) = some 1 := by
  obtain ⟨x, out, m⟩ := σ
  have fin : ∀ (k : Int32) (x' : RR) (m' : MS), M m = some m' → m_thrown m' = k → Inv x' m' B → (nm (ls_x' (x, out, m) x') fun s6 => bd (M (ls_m s6)) fun s9 => nm (ls_m' s6 s9) fun s10 => bd (mm_thrown (ls_m s10)) fun v11 => if v11 = k then K s10 else some 0) = some 1 := by
    intro k x' m' h1 h2 h3
    rw [nm_eq, show M (ls_m (ls_x' (x, out, m) x')) = some m' from h1, bd_some, nm_eq, show mm_thrown (ls_m (ls_m' (ls_x' (x, out, m) x') m')) = some k from congrArg some h2, bd_some, it_T rfl]
    exact hK _ _ _ h3
  rcases h with ⟨x', m', h1, h2, h3, h4⟩ | ⟨m', h1, h2, h3, h4⟩
  · refine (hcl_eq (k := 0) (u := x') (f := out) _ h1 rfl).trans ?_
    exact fin 0 x' m' h2 h3 h4
  · refine (hcl_eq (k := 1) (u := x) (f := out) _ h1 rfl).trans ?_
    exact fin 1 x m' h2 h3 h4
theorem ite_1 {c : Prop} {_ : Decidable c} {a b : Option Int32} (h1 : a = some 1) (h2 : b = some 1) : (if c then a else b) = some 1 := by
  split
  · exact h1
  · exact h2
theorem sub3 {L : Nat} : nI (L + 3) - 3 = nI L := by
  rw [show (3 : Int32) = nI 3 from rfl, ← nI_add, Int32.add_sub_cancel]
theorem end_L {L j : Nat} (h : L ≤ j + 2) (hj : j < 2 ^ 20) : Int32.ofNat L - 3 < nI j := by
  show nI L - 3 < nI j
  by_cases q : L < 3
  · rw [Int32.lt_iff_toInt_lt, nI_toInt (by omega)]
    have : (nI L - 3).toInt < 0 := by
      rcases (show L = 0 ∨ L = 1 ∨ L = 2 by omega) with rfl | rfl | rfl <;> decide +kernel
    omega
  · obtain ⟨L, rfl⟩ : ∃ L2, L = L2 + 3 := ⟨L - 3, by omega⟩
    rw [sub3]
    exact nI_lt (by omega) (by omega)
theorem law_round {xs : Nat → Int32} {L : Nat} {k23 : LZ → Int32 → Option Int32} {σ : LZ} {j : Nat} (h : Inv (ls_x σ) (ls_m σ) B) (hB : B < 2 ^ 20) (hj : j + 3 ≤ L) (hL : L ≤ 1536) (hK : ∀ s : LZ, Inv (ls_x s) (ls_m s) (B + 1) → k23 s (nI (j + 3)) = some 1) : zz_23 xs L k23 σ (nI j) = some 1 := by
  have e3 : nI j + 3 = nI (j + 3) := nI_add j 3
  have e2 : nI j + 2 = nI (j + 2) := nI_add j 2
  have e1 : nI j + 1 = nI (j + 1) := nI_add j 1
  have gL : ∀ (i : Nat), i < L → ∀ {α : Type} (z : Option α), gd (nI i) L z = z := fun i hi α z => gd_of (vp_in_nI hi (by omega))
  have g0 : ∀ {α : Type} (z : Option α), gd (nI j) L z = z := gL j (by omega)
  have g1 : ∀ {α : Type} (z : Option α), gd (nI j + 1) L z = z := by
    rw [e1]
    exact gL (j + 1) (by omega)
  have g2' : ∀ {α : Type} (z : Option α), gd (nI j + 2) L z = z := by
    rw [e2]
    exact gL (j + 2) (by omega)
  have hend : ∀ x' out' m', Inv x' m' (B + 1) → zz_1119 xs L k23 (x', out', m') (nI j) = some 1 := by
    intro x' out' m' hh
    unfold zz_1119
    rw [nm_eq, e3]
    exact hK _ hh
  have hend0 : ∀ x' out' m', Inv x' m' B → zz_1119 xs L k23 (x', out', m') (nI j) = some 1 := fun x' out' m' hh => hend x' out' m' (hh.mono (by omega))
  have hge : ¬ Int32.ofNat L - 3 < nI j := by
    obtain ⟨L, rfl⟩ : ∃ L2, L = L2 + 3 := ⟨L - 3, by omega⟩
    show ¬ nI (L + 3) - 3 < nI j
    rw [sub3]
    exact nI_nlt (by omega) (by omega)
  unfold zz_23
  rw [it_F hge, g0, nm_eq]
  refine ite_1 ?_ (ite_1 ?_ (ite_1 ?_ (ite_1 ?_ (ite_1 ?_ (ite_1 ?_ (ite_1 ?_ (ite_1 ?_ (ite_1 ?_ (ite_1 ?_ (ite_1 ?_ (ite_1 ?_ (ite_1 ?_ (ite_1 ?_ (ite_1 ?_ (ite_1 ?_ (ite_1 ?_ (ite_1 ?_ (ite_1 ?_ (ite_1 ?_ (ite_1 ?_ (ite_1 ?_ (ite_1 ?_ (ite_1 ?_ (ite_1 ?_ ?_))))))))))))))))))))))))
  · unfold zz_152
    simp only [g1, g2']
    exact tailC (M := fun m => mm_clear m _) (fun s => zz_1119 xs L k23 s (nI j)) (clear_ag h _) hend0
  · unfold zz_188
    simp only [g1, g2']
    exact tailX (M := fun m => mm_put m _ _) (fun s => zz_1119 xs L k23 s (nI j)) (put_ag h _ _) hend0
  · unfold zz_256
    simp only [g1, g2']
    exact tail0 (M := fun m => mm_get m _) (fun s => zz_1119 xs L k23 s (nI j)) (get_ag h _) hend0
  · unfold zz_281
    simp only [g1, g2']
    exact tail0 (M := fun m => mm_remove m _) (fun s => zz_1119 xs L k23 s (nI j)) (remove_ag h _) hend0
  · unfold zz_306
    exact tail0 (M := fun m => mm_move m) (fun s => zz_1119 xs L k23 s (nI j)) (move_ag h) hend0
  · unfold zz_319
    exact tail1 (M := fun m => mm_size m) (fun s => zz_1119 xs L k23 s (nI j)) (size_ag h) hend0
  · unfold zz_332
    exact tail1 (M := fun m => mm_moves m) (fun s => zz_1119 xs L k23 s (nI j)) (moves_ag h) hend0
  · unfold zz_345
    exact tailX (M := fun m => mm_openSweep m) (fun s => zz_1119 xs L k23 s (nI j)) (openSweep_ag h) hend0
  · unfold zz_389
    simp only [g1, g2']
    exact tailB (M := fun m => mm_hasNext m _) (fun s => zz_1119 xs L k23 s (nI j)) (hasNext_ag h _) hend0
  · unfold zz_452
    simp only [g1, g2']
    exact tailX (M := fun m => mm_next m _) (fun s => zz_1119 xs L k23 s (nI j)) (next_ag h _) hend
  · unfold zz_508
    simp only [g1, g2']
    exact tailX (M := fun m => mm_removeMet m _) (fun s => zz_1119 xs L k23 s (nI j)) (removeMet_ag h hB _) hend0
  · unfold zz_564
    simp only [g1, g2']
    exact tailX (M := fun m => mm_closeSweep m _) (fun s => zz_1119 xs L k23 s (nI j)) (closeSweep_ag h _) hend0
  · unfold zz_620
    simp only [g1, g2']
    exact tail1 (M := fun m => mm_hash m _) (fun s => zz_1119 xs L k23 s (nI j)) (hash_ag h _) hend0
  · unfold zz_645
    simp only [g1, g2']
    exact tailX (M := fun m => mm_slots m _) (fun s => zz_1119 xs L k23 s (nI j)) (slots_ag h _) hend0
  · unfold zz_701
    simp only [g1, g2']
    exact tailX (M := fun m => mm_keysIn m _) (fun s => zz_1119 xs L k23 s (nI j)) (keysIn_ag h _) hend0
  · unfold zz_757
    simp only [g1, g2']
    exact tailX (M := fun m => mm_control m _ _) (fun s => zz_1119 xs L k23 s (nI j)) (control_ag h _ _) hend0
  · unfold zz_825
    simp only [g1, g2']
    exact tailX (M := fun m => mm_keyAt m _ _) (fun s => zz_1119 xs L k23 s (nI j)) (keyAt_ag h _ _) hend0
  · unfold zz_893
    simp only [g1, g2']
    exact tailX (M := fun m => mm_distanceAt m _ _) (fun s => zz_1119 xs L k23 s (nI j)) (distanceAt_ag h _ _) hend0
  · unfold zz_961
    exact tail1 (M := fun m => mm_longest m) (fun s => zz_1119 xs L k23 s (nI j)) (longest_ag h) hend0
  · unfold zz_974
    exact tail1 (M := fun m => mm_total m) (fun s => zz_1119 xs L k23 s (nI j)) (total_ag h) hend0
  · unfold zz_987
    simp only [g1, g2']
    exact tail0 (M := fun m => mm_groups m _) (fun s => zz_1119 xs L k23 s (nI j)) (groups_ag h _) hend0
  · unfold zz_1012
    simp only [g1, g2']
    exact tail0 (M := fun m => mm_comparisons m _) (fun s => zz_1119 xs L k23 s (nI j)) (comparisons_ag h _) hend0
  · unfold zz_1037
    simp only [g1, g2']
    exact tailX (M := fun m => mm_displaced m _) (fun s => zz_1119 xs L k23 s (nI j)) (displaced_ag h _) hend0
  · unfold zz_1093
    exact tail0 (M := fun m => mm_plainTotal m) (fun s => zz_1119 xs L k23 s (nI j)) (plainTotal_ag h) hend0
  · unfold zz_1106
    exact tail0 (M := fun m => mm_plainLongest m) (fun s => zz_1119 xs L k23 s (nI j)) (plainLongest_ag h) hend0
  · obtain ⟨x, out, m⟩ := σ
    exact hend0 x out m h
theorem law_lp {xs : Nat → Int32} {L : Nat} (hL : L ≤ 1536) : ∀ d j f B (σ : LZ), L ≤ j + 3 * d + 2 → d < f → j < 4000 → B + d < 2 ^ 20 → Inv (ls_x σ) (ls_m σ) B → zz_lp xs L f σ (nI j) = some 1 := by
  intro d
  induction d with
  | zero =>
    intro j f B σ h1 h2 h3 h4 h5
    obtain ⟨f, rfl⟩ : ∃ f2, f = f2 + 1 := ⟨f - 1, by omega⟩
    show zz_23 xs L (zz_lp xs L f) σ (nI j) = some 1
    unfold zz_23
    rw [it_T (end_L (by omega) (by omega))]
  | succ d ih =>
    intro j f B σ h1 h2 h3 h4 h5
    obtain ⟨f, rfl⟩ : ∃ f2, f = f2 + 1 := ⟨f - 1, by omega⟩
    have e : zz_lp xs L (f + 1) σ (nI j) = zz_23 xs L (zz_lp xs L f) σ (nI j) := rfl
    rw [e]
    by_cases q : j + 3 ≤ L
    · exact law_round h5 (by omega) q hL (fun s hs => ih (j + 3) f (B + 1) s (by omega) (by omega) (by omega) (by omega) hs)
    · unfold zz_23
      rw [it_T (end_L (by omega) (by omega))]
theorem all_math {xs : Nat → Int32} {L : Nat} (hL : L ≤ 1536) : ∃ τ8 τ0 : Tb, tt_emptyWith tb0 8 = some τ8 ∧ tt_emptyWith tb0 0 = some τ0 ∧ ∀ p o : Nat, p ≠ o → zz_lp xs L FU (rr0 p o τ8 τ0, (fun _ => 0), ms0) 0 = some 1 := by
  obtain ⟨τ8, e1, e2, e3⟩ := t_emptyWith (n := 8) (hf := hsh 1) (by omega) tb0
  obtain ⟨τ0, f1, f2, f3⟩ := t_emptyWith (n := 0) (hf := hsh 1) (by omega) tb0
  refine ⟨τ8, τ0, e1, f1, fun p o hpo => ?_⟩
  refine law_lp hL 512 0 FU 0 (rr0 p o τ8 τ0, (fun _ => 0), ms0) (by omega) (by show 512 < 1024; omega) (by omega) (by omega) ⟨⟨1, 0, 8, 0, Nn, Nn, ?_⟩, ?_, rfl⟩
  · exact ti_fresh (Or.inr rfl) rfl rfl rfl e2 e3 f2 f3 rfl rfl rfl rfl (fun j _ => rfl) hpo
  · exact si_closed (fun i hi => rfl) (fun i hi => rfl)
end LO
