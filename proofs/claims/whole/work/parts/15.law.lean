/-! the law: its world, its cases one by one, its loop -/
abbrev LZ : Type := RR × (Nat → Int64) × MS
def ls_x (s : LZ) : RR := s.1
def ls_x' (s : LZ) (v : RR) : LZ := (v, s.2)
def ls_out (s : LZ) : Nat → Int64 := s.2.1
def ls_out' (s : LZ) (v : Nat → Int64) : LZ := (s.1, v, s.2.2)
def ls_m (s : LZ) : MS := s.2.2
def ls_m' (s : LZ) (v : MS) : LZ := (s.1, s.2.1, v)
def wZ (ca : Nat → ClassId) (B : Nat → Nat) (ar : Nat → Nat → Nat) (o : Nat) (Ad : Nat → Nat) (s9 : LZ) : va_W := wRR ca B ar (ls_x s9) ++ ((o, .inl (ca 3, 1, .inr (.inl (ls_out s9)))) :: wM ca Ad (ls_m s9))
theorem fr_ZX (ca : Nat → ClassId) (B : Nat → Nat) (ar : Nat → Nat → Nat) (o : Nat) (Ad : Nat → Nat) (s9 : LZ) (v : RR) : Fr (wZ ca B ar o Ad s9) (wRR ca B ar (ls_x s9)) (wRR ca B ar v) (wZ ca B ar o Ad (ls_x' s9 v)) := ⟨[0, 1, 2, 3, 4, 5, 6, 7, 8, 9, 10, 11, 12, 13, 14, 15, 16, 17, 18, 19], [20, 21, 22, 23, 24, 25, 26, 27, 28, 29, 30, 31, 32], [13, 14, 15, 16, 17, 18, 19, 20, 21, 22, 23, 24, 25, 26, 27, 28, 29, 30, 31, 32, 0, 1, 2, 3, 4, 5, 6, 7, 8, 9, 10, 11, 12], (o, .inl (ca 3, 1, .inr (.inl (ls_out s9)))) :: wM ca Ad (ls_m s9), rfl, rfl, rfl, rfl, by decide, rfl, rfl⟩
theorem fr_ZXp (ca : Nat → ClassId) (B : Nat → Nat) (ar : Nat → Nat → Nat) (o : Nat) (Ad : Nat → Nat) (s9 : LZ) : Fr (wZ ca B ar o Ad s9) (wRR ca B ar (ls_x s9)) (wRR ca B ar (ls_x s9)) (wZ ca B ar o Ad s9) := ⟨[0, 1, 2, 3, 4, 5, 6, 7, 8, 9, 10, 11, 12, 13, 14, 15, 16, 17, 18, 19], [20, 21, 22, 23, 24, 25, 26, 27, 28, 29, 30, 31, 32], [13, 14, 15, 16, 17, 18, 19, 20, 21, 22, 23, 24, 25, 26, 27, 28, 29, 30, 31, 32, 0, 1, 2, 3, 4, 5, 6, 7, 8, 9, 10, 11, 12], (o, .inl (ca 3, 1, .inr (.inl (ls_out s9)))) :: wM ca Ad (ls_m s9), rfl, rfl, rfl, rfl, by decide, rfl, rfl⟩
theorem fr_ZM (ca : Nat → ClassId) (B : Nat → Nat) (ar : Nat → Nat → Nat) (o : Nat) (Ad : Nat → Nat) (s9 : LZ) (v : MS) : Fr (wZ ca B ar o Ad s9) (wM ca Ad (ls_m s9)) (wM ca Ad v) (wZ ca B ar o Ad (ls_m' s9 v)) := ⟨[21, 22, 23, 24, 25, 26, 27, 28, 29, 30, 31, 32], [0, 1, 2, 3, 4, 5, 6, 7, 8, 9, 10, 11, 12, 13, 14, 15, 16, 17, 18, 19, 20], [0, 1, 2, 3, 4, 5, 6, 7, 8, 9, 10, 11, 12, 13, 14, 15, 16, 17, 18, 19, 20, 21, 22, 23, 24, 25, 26, 27, 28, 29, 30, 31, 32], wRL ca B ar o (ls_x s9) (ls_out s9), rfl, rfl, rfl, rfl, by decide, rfl, rfl⟩
theorem fr_ZMp (ca : Nat → ClassId) (B : Nat → Nat) (ar : Nat → Nat → Nat) (o : Nat) (Ad : Nat → Nat) (s9 : LZ) : Fr (wZ ca B ar o Ad s9) (wM ca Ad (ls_m s9)) (wM ca Ad (ls_m s9)) (wZ ca B ar o Ad s9) := ⟨[21, 22, 23, 24, 25, 26, 27, 28, 29, 30, 31, 32], [0, 1, 2, 3, 4, 5, 6, 7, 8, 9, 10, 11, 12, 13, 14, 15, 16, 17, 18, 19, 20], [0, 1, 2, 3, 4, 5, 6, 7, 8, 9, 10, 11, 12, 13, 14, 15, 16, 17, 18, 19, 20, 21, 22, 23, 24, 25, 26, 27, 28, 29, 30, 31, 32], wRL ca B ar o (ls_x s9) (ls_out s9), rfl, rfl, rfl, rfl, by decide, rfl, rfl⟩
theorem fr_ZL (ca : Nat → ClassId) (B : Nat → Nat) (ar : Nat → Nat → Nat) (o : Nat) (Ad : Nat → Nat) (s9 : LZ) (v : RR) (f : Nat → Int64) : Fr (wZ ca B ar o Ad s9) (wRL ca B ar o (ls_x s9) (ls_out s9)) (wRL ca B ar o v f) (wZ ca B ar o Ad (ls_out' (ls_x' s9 v) f)) := ⟨[0, 1, 2, 3, 4, 5, 6, 7, 8, 9, 10, 11, 12, 13, 14, 15, 16, 17, 18, 19, 20], [21, 22, 23, 24, 25, 26, 27, 28, 29, 30, 31, 32], [12, 13, 14, 15, 16, 17, 18, 19, 20, 21, 22, 23, 24, 25, 26, 27, 28, 29, 30, 31, 32, 0, 1, 2, 3, 4, 5, 6, 7, 8, 9, 10, 11], wM ca Ad (ls_m s9), rfl, rfl, rfl, rfl, by decide, rfl, rfl⟩
section LC9
variable {p : Program} {l : Launch} {e : Env} {R : Room} {s : State} {m : MethodId} {args : Array Value} {below : List Frame} {meth : Method} {c : Code} {H : Heap} {locs : List Loc} {cells slots mc ms : Nat} {Q : State → Prop} {D : va_G} {ca : Nat → ClassId} {A : Nat → Prop} {ws wc w1 ws2 : va_W} {cc bytes : ByteArray} {pc nL maxL index n : Nat} {ls : Array Slot} {st0 rest As : List Value} {Ts wy : List Cond} {own : String} {y : MethodName} {ret : Option FieldType} {rm : Room} {hh : List (Nat × Nat × Nat × Nat)}
theorem pre_H (hN : NX s) (hX : HX A s s.heap) (hC : NC s) (hK : va_K D vwCl (vt ca) s) (hS : va_S A s.heap H locs) (hPc : va_P D vwCl wc H) (hDc : va_D A wc) (hFc : ∀ q, va_A wc H.size q → A q) : PreS s H (va_Pc As (Ph D ca wc H.size)) As :=
  ⟨Ph_blind, fun U hU hW => ⟨rfl, ⟨⟨by rw [hU], by rw [hU]; exact hPc, va_K.moved hW.alike hK, hDc.weaken (fun _ _ _ _ => trivial), hN.warm hW⟩, by rw [hU]; exact HX.moved hW.alike ((hX.kept hS.2.1).narrow hFc)⟩, NC.moved hW.alike hC⟩⟩
theorem call_h {r : Int32} (S : CallFix p m c cc nL s args Ts own) (hM : Lh l D ca y wy rm As wc H.size r w1 mc ms) (cw : vx_CSW R s args own index y bytes maxL ret hh wy rm mc ms n) (hN : NX s) (hX : HX A s s.heap) (hC : NC s) (hK : va_K D vwCl (vt ca) s) (hP : va_P D vwCl ws H) (hD : va_D A ws) (hA : ∀ q : Nat, s.heap.size ≤ q → A q) (hS : va_S A s.heap H locs) (hF : Fr ws wc w1 ws2) (hn : As.length = n) (hsize : ls.size = nL) (hst : st0 = As.reverse ++ rest) (hW : 2 * (F0 m pc ls st0).monitorRoom + (rest.map fun v => v.category).sum ≤ 8) (hdg : decode cc pc = .ok (.invokestatic index, 3)) (hf : cells + mc ≤ R.cells ∧ slots + ms ≤ R.slots)
    (kk : ∀ (H1 : Heap) (locs1 : List Loc), va_P D vwCl ws2 H1 → va_D A ws2 → va_S A s.heap H1 locs1 → W p l e R s m args below meth c H1 locs1 (cells + mc) (slots + ms) Q (F0 m (pc + 3) ls (.int r :: rest))) : W p l e R s m args below meth c H locs cells slots Q (F0 m pc ls st0) := by
  obtain ⟨hPc, hDc, hFc, hback⟩ := hF.use hP hD hS hA
  refine va_calli (vx_runSW (As := As) (rest := rest) S hM cw (pre_H hN hX hC hK hS hPc hDc hFc) rfl hn hsize hst hW hdg hf) hS (fun q _ h => hFc q h) hFc (fun r1 u t H1 locs1 ht hvm hw hB hz1 hk1 hS1 => ?_)
  obtain ⟨hP1, hK1, hD1⟩ := hB
  rw [ht] at hP1
  obtain ⟨a1, a2⟩ := hback H1 hk1 hP1 hD1
  obtain rfl : r1 = r := hw
  exact kk H1 locs1 a1 a2 hS1
end LC9
theorem hb3_ob {α β : Type} {o : Option (Int32 × α × β)} {δ : Type} {F : Int32 → α → β → Option δ} {R : δ} (h : (o.bind fun z => F z.1 z.2.1 z.2.2) = some R) : ∃ a b c, o = some (a, b, c) ∧ F a b c = some R := by
  obtain ⟨⟨a, b, c⟩, h1, h2⟩ := ob h
  exact ⟨a, b, c, h1, h2⟩
/-- a helper's call, and what it makes of it -/
def hcl {α δ : Type} (o : Option α) (g : α → Option (Int32 × RR × (Nat → Int64))) (F : Int32 → RR → (Nat → Int64) → Option δ) : Option δ := o.bind fun z => (g z).bind fun w => F w.1 w.2.1 w.2.2
theorem hcl_ob {α δ : Type} {o : Option α} {g : α → Option (Int32 × RR × (Nat → Int64))} {F : Int32 → RR → (Nat → Int64) → Option δ} {R : δ} (h : hcl o g F = some R) : ∃ z k u f, o = some z ∧ g z = some (k, u, f) ∧ F k u f = some R := by
  obtain ⟨z, h1, h2⟩ := ob h
  obtain ⟨k, u, f, h3, h4⟩ := hb3_ob h2
  exact ⟨z, k, u, f, h1, h3, h4⟩

def zz_1119 (xs : Nat → Int32) (L : Nat) (k23 : LZ → Int32 → Option Int32) (σ : LZ) (l4 : Int32) : Option Int32 :=
  nm (l4 + 3) fun v1 =>
  k23 σ v1
set_option maxHeartbeats 4000000 in
set_option maxRecDepth 100000 in
theorem z1119 {p : Program} {l : Launch} {e : Env} {s : State} {m : MethodId} {below : List Frame} {meth : Method} {c : Code} {b L : Nat} {xs : Nat → Int32} {D : va_G} {ca : Nat → ClassId} {B : Nat → Nat} {ar : Nat → Nat → Nat} {o : Nat} {Ad : Nat → Nat} {k23 : LZ → Int32 → Option Int32} {n : Nat} {Q : State → Prop} (C0 : lw_At p s m meth c b L xs) (hT : l.stackTraces = false) (hN : NX s) (hX : HX (fun q : Nat => s.heap.size ≤ q) s s.heap) (hC : NC s) (hbA : ¬ (fun q : Nat => s.heap.size ≤ q) b) (hA : ∀ q : Nat, s.heap.size ≤ q → (fun q : Nat => s.heap.size ≤ q) q) (hK : va_K D vwCl (vt ca) s) (ih : ∀ (H : Heap) (locs : List Loc) (ls : Array Slot) (cells slots : Nat) (σ : LZ) (l4 : Int32), k23 σ l4 = some 1 → va_P D vwCl (wZ ca B ar o Ad σ) H → va_D (fun q : Nat => s.heap.size ≤ q) (wZ ca B ar o Ad σ) → va_S (fun q : Nat => s.heap.size ≤ q) s.heap H locs → lv_has ls 7 [(0, .ref b), (1, .ref (B 0)), (2, .ref (Ad 0)), (3, .ref o), (4, .int l4)] → cells + 3 * n ≤ 601024 → slots + 18 * n ≤ 7293034 → W p l e room_1 s m #[Value.ref b] below meth c H locs cells slots Q (F0 m 23 ls [])) : ∀ (H : Heap) (locs : List Loc) (ls : Array Slot) (cells slots : Nat) (σ : LZ) (l4 : Int32), zz_1119 xs L k23 σ l4 = some 1 → va_P D vwCl (wZ ca B ar o Ad σ) H → va_D (fun q : Nat => s.heap.size ≤ q) (wZ ca B ar o Ad σ) → va_S (fun q : Nat => s.heap.size ≤ q) s.heap H locs → lv_has ls 7 [(0, .ref b), (1, .ref (B 0)), (2, .ref (Ad 0)), (3, .ref o), (4, .int l4)] → cells + 3 * n ≤ 601024 → slots + 18 * n ≤ 7293034 → W p l e room_1 s m #[Value.ref b] below meth c H locs cells slots Q (F0 m 1119 ls []) := by
  intro H locs ls cells slots σ l4 hf hP hD hS hl hc9 hs9
  obtain ⟨hx, hb, hr, hml, hown, hts0, hXs, hbl, hlocks, hgv⟩ := id C0
  have hts : ∀ w ∈ wsL_law, w.before #[Value.ref b] s = true := fun w h => hts0 w (wsL_law_in w h)
  unfold zz_1119 at hf
  obtain ⟨v1, ev1, hf⟩ := nm_ob hf
  refine lv_iinc (v := v1) (lv' := [(4, .int v1), (0, .ref b), (1, .ref (B 0)), (2, .ref (Ad 0)), (3, .ref o)]) hx hb dL_law_1119 hl (k := 4) rfl (by rw [← ev1]; rfl) (by decide) rfl (fun ls hl => ?_)
  refine lv_goto (tgt := 23) hx hb dL_law_1122 (by decide) ?_
  exact ih _ _ _ _ _ _ _ hf hP hD hS (lv_sub hl [1, 2, 3, 4, 0] rfl) (by omega) (by omega)
def zz_152 (xs : Nat → Int32) (L : Nat) (k23 : LZ → Int32 → Option Int32) (σ : LZ) (l4 : Int32) : Option Int32 :=
  gd (l4 + 1) L <|
  hcl (rx_clear (ls_x σ) (xs (l4 + 1).toNatClampNeg)) (fun z => hresV 1 z (ls_out σ)) fun v2 u3 f4 =>
  nm (ls_x' σ u3) fun s6 =>
  gd (l4 + 1) L <|
  bd (mm_clear (ls_m s6) (xs (l4 + 1).toNatClampNeg)) fun s9 =>
  nm (ls_m' s6 s9) fun s10 =>
  bd (mm_thrown (ls_m s10)) fun v11 =>
  if v11 = v2 then
    zz_1119 xs L k23 s10 l4
  else
    some 0
set_option maxHeartbeats 4000000 in
set_option maxRecDepth 100000 in
theorem z152 {p : Program} {l : Launch} {e : Env} {s : State} {m : MethodId} {below : List Frame} {meth : Method} {c : Code} {b L : Nat} {xs : Nat → Int32} {D : va_G} {ca : Nat → ClassId} {B : Nat → Nat} {ar : Nat → Nat → Nat} {o : Nat} {Ad : Nat → Nat} {k23 : LZ → Int32 → Option Int32} {n : Nat} {Q : State → Prop} (C0 : lw_At p s m meth c b L xs) (hT : l.stackTraces = false) (hN : NX s) (hX : HX (fun q : Nat => s.heap.size ≤ q) s s.heap) (hC : NC s) (hbA : ¬ (fun q : Nat => s.heap.size ≤ q) b) (hA : ∀ q : Nat, s.heap.size ≤ q → (fun q : Nat => s.heap.size ≤ q) q) (hK : va_K D vwCl (vt ca) s) (ih : ∀ (H : Heap) (locs : List Loc) (ls : Array Slot) (cells slots : Nat) (σ : LZ) (l4 : Int32), k23 σ l4 = some 1 → va_P D vwCl (wZ ca B ar o Ad σ) H → va_D (fun q : Nat => s.heap.size ≤ q) (wZ ca B ar o Ad σ) → va_S (fun q : Nat => s.heap.size ≤ q) s.heap H locs → lv_has ls 7 [(0, .ref b), (1, .ref (B 0)), (2, .ref (Ad 0)), (3, .ref o), (4, .int l4)] → cells + 3 * n ≤ 601024 → slots + 18 * n ≤ 7293034 → W p l e room_1 s m #[Value.ref b] below meth c H locs cells slots Q (F0 m 23 ls [])) : ∀ (H : Heap) (locs : List Loc) (ls : Array Slot) (cells slots : Nat) (σ : LZ) (l4 : Int32), zz_152 xs L k23 σ l4 = some 1 → va_P D vwCl (wZ ca B ar o Ad σ) H → va_D (fun q : Nat => s.heap.size ≤ q) (wZ ca B ar o Ad σ) → va_S (fun q : Nat => s.heap.size ≤ q) s.heap H locs → lv_has ls 7 [(0, .ref b), (1, .ref (B 0)), (2, .ref (Ad 0)), (3, .ref o), (4, .int l4)] → cells + 3 * (n + 1) ≤ 601024 → slots + 18 * (n + 1) ≤ 7293034 → W p l e room_1 s m #[Value.ref b] below meth c H locs cells slots Q (F0 m 152 ls []) := by
  intro H locs ls cells slots σ l4 hf hP hD hS hl hc9 hs9
  obtain ⟨hx, hb, hr, hml, hown, hts0, hXs, hbl, hlocks, hgv⟩ := id C0
  have hts : ∀ w ∈ wsL_law, w.before #[Value.ref b] s = true := fun w h => hts0 w (wsL_law_in w h)
  unfold zz_152 at hf
  refine lv_aload_n hx hb dL_law_152 rfl (lv_at hl 1 rfl) ?_
  refine lv_aload_n hx hb dL_law_153 rfl (lv_at hl 0 rfl) ?_
  refine lv_iload hx hb dL_law_154 (lv_at hl 4 rfl) ?_
  refine lv_iconst (v := 1) hx hb dL_law_156 (by decide) ?_
  refine lv_iadd hx hb dL_law_157 ?_
  obtain ⟨g1, hf⟩ := gd_ob hf
  refine va_sld hx hb hXs hbl hbA hS g1 dL_law_158 ?_
  obtain ⟨z5, v2, u3, f4, ez5, hz5, hf⟩ := hcl_ob hf
  refine call_h (As := [.ref (B 0), .int (xs (l4 + 1).toNatClampNeg)]) (rest := []) ⟨hx, hb, hml, hown, hts⟩ (tL_clear l hT D ca B ar _ (ls_x σ) (ls_out σ) (xs (l4 + 1).toNatClampNeg) z5 ez5 v2 u3 f4 hz5) (vx_cwSW 2 hts gL_law_L_clear rfl rfl rfl (by decide +kernel) ⟨Nat.le_of_ble_eq_true rfl, Nat.le_of_ble_eq_true rfl⟩) hN hX hC hK hP hD hA hS (fr_ZX ca B ar o Ad σ u3) rfl hl.1 rfl (lv_room (Nat.le_of_ble_eq_true rfl)) dL_law_159 ⟨(show _ ≤ 601024 by omega), (show _ ≤ 7293034 by omega)⟩ (fun H locs hP hD hS => ?_)
  obtain ⟨s6, es6, hf⟩ := nm_ob hf
  have hP : va_P D vwCl (wZ ca B ar o Ad s6) H := by rw [← es6]; exact hP
  have hD : va_D (fun q : Nat => s.heap.size ≤ q) (wZ ca B ar o Ad s6) := by rw [← es6]; exact hD
  refine lv_istore (lv' := [(5, .int v2), (0, .ref b), (1, .ref (B 0)), (2, .ref (Ad 0)), (3, .ref o), (4, .int l4)]) hx hb dL_law_162 hl (by decide) rfl (fun ls hl => ?_)
  refine lv_aload_n hx hb dL_law_164 rfl (lv_at hl 3 rfl) ?_
  refine lv_aload_n hx hb dL_law_165 rfl (lv_at hl 1 rfl) ?_
  refine lv_iload hx hb dL_law_166 (lv_at hl 5 rfl) ?_
  refine lv_iconst (v := 1) hx hb dL_law_168 (by decide) ?_
  refine lv_iadd hx hb dL_law_169 ?_
  obtain ⟨g7, hf⟩ := gd_ob hf
  refine va_sld hx hb hXs hbl hbA hS g7 dL_law_170 ?_
  obtain ⟨s9, es9, hf⟩ := bd_ob hf
  refine call_v (As := [.int (xs (l4 + 1).toNatClampNeg)]) (rest := []) ⟨hx, hb, hml, hown, hts⟩ (tX5_clear l D ca Ad _ (ls_m s6) (xs (l4 + 1).toNatClampNeg) s9 es9) (cwV 1 hts gL_law_X5_clear rfl rfl rfl (by decide +kernel) ⟨Nat.le_of_ble_eq_true rfl, Nat.le_of_ble_eq_true rfl⟩) hN hK hP hD hA hS (fr_ZM ca B ar o Ad s6 s9) rfl rfl rfl hl.1 rfl (lv_room (Nat.le_of_ble_eq_true rfl)) dL_law_171 ⟨(show _ ≤ 601024 by omega), (show _ ≤ 7293034 by omega)⟩ (fun H locs hP hD hS => ?_)
  obtain ⟨s10, es10, hf⟩ := nm_ob hf
  have hP : va_P D vwCl (wZ ca B ar o Ad s10) H := by rw [← es10]; exact hP
  have hD : va_D (fun q : Nat => s.heap.size ≤ q) (wZ ca B ar o Ad s10) := by rw [← es10]; exact hD
  refine lv_aload_n hx hb dL_law_174 rfl (lv_at hl 3 rfl) ?_
  obtain ⟨v11, ev11, hf⟩ := bd_ob hf
  refine call_i (As := []) (rest := []) ⟨hx, hb, hml, hown, hts⟩ (tX5_thrown l D ca Ad _ (ls_m s10) v11 ev11) (cwV 0 hts gL_law_X5_thrown rfl rfl rfl (by decide +kernel) ⟨Nat.le_of_ble_eq_true rfl, Nat.le_of_ble_eq_true rfl⟩) hN hK hP hD hA hS (fr_ZMp ca B ar o Ad s10) rfl rfl rfl hl.1 rfl (lv_room (Nat.le_of_ble_eq_true rfl)) dL_law_175 ⟨(show _ ≤ 601024 by omega), (show _ ≤ 7293034 by omega)⟩ (fun H locs hP hD hS => ?_)
  refine lv_iload hx hb dL_law_178 (lv_at hl 0 rfl) ?_
  refine lv_icmp_eq (tgt := 185) hx hb dL_law_180 (by decide) (fun c12 => ?_) (fun c12 => ?_)
  · replace hf := it_p c12 hf
    refine lv_goto (tgt := 1119) hx hb dL_law_185 (by decide) ?_
    exact z1119 C0 hT hN hX hC hbA hA hK ih _ _ _ _ _ _ _ hf hP hD hS (lv_sub hl [1, 2, 3, 4, 5] rfl) (by omega) (by omega)
  · replace hf := it_n c12 hf
    refine lv_iconst (v := 0) hx hb dL_law_183 (by decide) ?_
    exact absurd (so1 hf) (by decide)
def zz_188 (xs : Nat → Int32) (L : Nat) (k23 : LZ → Int32 → Option Int32) (σ : LZ) (l4 : Int32) : Option Int32 :=
  gd (l4 + 1) L <|
  gd (l4 + 2) L <|
  hcl (rx_put (ls_x σ) (xs (l4 + 1).toNatClampNeg) (xs (l4 + 2).toNatClampNeg)) (fun z => hres 1 2 Int32.toInt64 z (ls_out σ)) fun v3 u4 f5 =>
  nm (ls_out' (ls_x' σ u4) f5) fun s7 =>
  gd (l4 + 1) L <|
  gd (l4 + 2) L <|
  bd2 (mm_put (ls_m s7) (xs (l4 + 1).toNatClampNeg) (xs (l4 + 2).toNatClampNeg)) fun v10 s11 =>
  nm (ls_m' s7 s11) fun s12 =>
  bd (mm_thrown (ls_m s12)) fun v13 =>
  if v13 = v3 then
    if v3 = 0 then
      gd 0 1 <|
      if (lg_cmp (ls_out s12 (0 : Int32).toNatClampNeg) (v10.toInt64)) = 0 then
        zz_1119 xs L k23 s12 l4
      else
        some 0
    else
      zz_1119 xs L k23 s12 l4
  else
    some 0
set_option maxHeartbeats 4000000 in
set_option maxRecDepth 100000 in
theorem z188 {p : Program} {l : Launch} {e : Env} {s : State} {m : MethodId} {below : List Frame} {meth : Method} {c : Code} {b L : Nat} {xs : Nat → Int32} {D : va_G} {ca : Nat → ClassId} {B : Nat → Nat} {ar : Nat → Nat → Nat} {o : Nat} {Ad : Nat → Nat} {k23 : LZ → Int32 → Option Int32} {n : Nat} {Q : State → Prop} (C0 : lw_At p s m meth c b L xs) (hT : l.stackTraces = false) (hN : NX s) (hX : HX (fun q : Nat => s.heap.size ≤ q) s s.heap) (hC : NC s) (hbA : ¬ (fun q : Nat => s.heap.size ≤ q) b) (hA : ∀ q : Nat, s.heap.size ≤ q → (fun q : Nat => s.heap.size ≤ q) q) (hK : va_K D vwCl (vt ca) s) (ih : ∀ (H : Heap) (locs : List Loc) (ls : Array Slot) (cells slots : Nat) (σ : LZ) (l4 : Int32), k23 σ l4 = some 1 → va_P D vwCl (wZ ca B ar o Ad σ) H → va_D (fun q : Nat => s.heap.size ≤ q) (wZ ca B ar o Ad σ) → va_S (fun q : Nat => s.heap.size ≤ q) s.heap H locs → lv_has ls 7 [(0, .ref b), (1, .ref (B 0)), (2, .ref (Ad 0)), (3, .ref o), (4, .int l4)] → cells + 3 * n ≤ 601024 → slots + 18 * n ≤ 7293034 → W p l e room_1 s m #[Value.ref b] below meth c H locs cells slots Q (F0 m 23 ls [])) : ∀ (H : Heap) (locs : List Loc) (ls : Array Slot) (cells slots : Nat) (σ : LZ) (l4 : Int32), zz_188 xs L k23 σ l4 = some 1 → va_P D vwCl (wZ ca B ar o Ad σ) H → va_D (fun q : Nat => s.heap.size ≤ q) (wZ ca B ar o Ad σ) → va_S (fun q : Nat => s.heap.size ≤ q) s.heap H locs → lv_has ls 7 [(0, .ref b), (1, .ref (B 0)), (2, .ref (Ad 0)), (3, .ref o), (4, .int l4)] → cells + 3 * (n + 1) ≤ 601024 → slots + 18 * (n + 1) ≤ 7293034 → W p l e room_1 s m #[Value.ref b] below meth c H locs cells slots Q (F0 m 188 ls []) := by
  intro H locs ls cells slots σ l4 hf hP hD hS hl hc9 hs9
  obtain ⟨hx, hb, hr, hml, hown, hts0, hXs, hbl, hlocks, hgv⟩ := id C0
  have hts : ∀ w ∈ wsL_law, w.before #[Value.ref b] s = true := fun w h => hts0 w (wsL_law_in w h)
  unfold zz_188 at hf
  refine lv_aload_n hx hb dL_law_188 rfl (lv_at hl 1 rfl) ?_
  refine lv_aload_n hx hb dL_law_189 rfl (lv_at hl 0 rfl) ?_
  refine lv_iload hx hb dL_law_190 (lv_at hl 4 rfl) ?_
  refine lv_iconst (v := 1) hx hb dL_law_192 (by decide) ?_
  refine lv_iadd hx hb dL_law_193 ?_
  obtain ⟨g1, hf⟩ := gd_ob hf
  refine va_sld hx hb hXs hbl hbA hS g1 dL_law_194 ?_
  refine lv_aload_n hx hb dL_law_195 rfl (lv_at hl 0 rfl) ?_
  refine lv_iload hx hb dL_law_196 (lv_at hl 4 rfl) ?_
  refine lv_iconst (v := 2) hx hb dL_law_198 (by decide) ?_
  refine lv_iadd hx hb dL_law_199 ?_
  obtain ⟨g2, hf⟩ := gd_ob hf
  refine va_sld hx hb hXs hbl hbA hS g2 dL_law_200 ?_
  refine lv_aload_n hx hb dL_law_201 rfl (lv_at hl 3 rfl) ?_
  obtain ⟨z6, v3, u4, f5, ez6, hz6, hf⟩ := hcl_ob hf
  refine call_h (As := [.ref (B 0), .int (xs (l4 + 1).toNatClampNeg), .int (xs (l4 + 2).toNatClampNeg), .ref o]) (rest := []) ⟨hx, hb, hml, hown, hts⟩ (tL_put l hT D ca B ar o _ (ls_x σ) (ls_out σ) (xs (l4 + 1).toNatClampNeg) (xs (l4 + 2).toNatClampNeg) z6 ez6 v3 u4 f5 hz6) (vx_cwSW 4 hts gL_law_L_put rfl rfl rfl (by decide +kernel) ⟨Nat.le_of_ble_eq_true rfl, Nat.le_of_ble_eq_true rfl⟩) hN hX hC hK hP hD hA hS (fr_ZL ca B ar o Ad σ u4 f5) rfl hl.1 rfl (lv_room (Nat.le_of_ble_eq_true rfl)) dL_law_202 ⟨(show _ ≤ 601024 by omega), (show _ ≤ 7293034 by omega)⟩ (fun H locs hP hD hS => ?_)
  obtain ⟨s7, es7, hf⟩ := nm_ob hf
  have hP : va_P D vwCl (wZ ca B ar o Ad s7) H := by rw [← es7]; exact hP
  have hD : va_D (fun q : Nat => s.heap.size ≤ q) (wZ ca B ar o Ad s7) := by rw [← es7]; exact hD
  refine lv_istore (lv' := [(5, .int v3), (0, .ref b), (1, .ref (B 0)), (2, .ref (Ad 0)), (3, .ref o), (4, .int l4)]) hx hb dL_law_205 hl (by decide) rfl (fun ls hl => ?_)
  refine lv_aload_n hx hb dL_law_207 rfl (lv_at hl 3 rfl) ?_
  refine lv_aload_n hx hb dL_law_208 rfl (lv_at hl 1 rfl) ?_
  refine lv_iload hx hb dL_law_209 (lv_at hl 5 rfl) ?_
  refine lv_iconst (v := 1) hx hb dL_law_211 (by decide) ?_
  refine lv_iadd hx hb dL_law_212 ?_
  obtain ⟨g8, hf⟩ := gd_ob hf
  refine va_sld hx hb hXs hbl hbA hS g8 dL_law_213 ?_
  refine lv_aload_n hx hb dL_law_214 rfl (lv_at hl 1 rfl) ?_
  refine lv_iload hx hb dL_law_215 (lv_at hl 5 rfl) ?_
  refine lv_iconst (v := 2) hx hb dL_law_217 (by decide) ?_
  refine lv_iadd hx hb dL_law_218 ?_
  obtain ⟨g9, hf⟩ := gd_ob hf
  refine va_sld hx hb hXs hbl hbA hS g9 dL_law_219 ?_
  obtain ⟨v10, s11, ev10, hf⟩ := bd2_ob hf
  refine call_i (As := [.int (xs (l4 + 1).toNatClampNeg), .int (xs (l4 + 2).toNatClampNeg)]) (rest := []) ⟨hx, hb, hml, hown, hts⟩ (tX5_put l D ca Ad _ (ls_m s7) (xs (l4 + 1).toNatClampNeg) (xs (l4 + 2).toNatClampNeg) v10 s11 ev10) (cwV 2 hts gL_law_X5_put rfl rfl rfl (by decide +kernel) ⟨Nat.le_of_ble_eq_true rfl, Nat.le_of_ble_eq_true rfl⟩) hN hK hP hD hA hS (fr_ZM ca B ar o Ad s7 s11) rfl rfl rfl hl.1 rfl (lv_room (Nat.le_of_ble_eq_true rfl)) dL_law_220 ⟨(show _ ≤ 601024 by omega), (show _ ≤ 7293034 by omega)⟩ (fun H locs hP hD hS => ?_)
  obtain ⟨s12, es12, hf⟩ := nm_ob hf
  have hP : va_P D vwCl (wZ ca B ar o Ad s12) H := by rw [← es12]; exact hP
  have hD : va_D (fun q : Nat => s.heap.size ≤ q) (wZ ca B ar o Ad s12) := by rw [← es12]; exact hD
  refine lv_istore (lv' := [(6, .int v10), (5, .int v3), (0, .ref b), (1, .ref (B 0)), (2, .ref (Ad 0)), (3, .ref o), (4, .int l4)]) hx hb dL_law_223 hl (by decide) rfl (fun ls hl => ?_)
  refine lv_aload_n hx hb dL_law_225 rfl (lv_at hl 4 rfl) ?_
  obtain ⟨v13, ev13, hf⟩ := bd_ob hf
  refine call_i (As := []) (rest := []) ⟨hx, hb, hml, hown, hts⟩ (tX5_thrown l D ca Ad _ (ls_m s12) v13 ev13) (cwV 0 hts gL_law_X5_thrown rfl rfl rfl (by decide +kernel) ⟨Nat.le_of_ble_eq_true rfl, Nat.le_of_ble_eq_true rfl⟩) hN hK hP hD hA hS (fr_ZMp ca B ar o Ad s12) rfl rfl rfl hl.1 rfl (lv_room (Nat.le_of_ble_eq_true rfl)) dL_law_226 ⟨(show _ ≤ 601024 by omega), (show _ ≤ 7293034 by omega)⟩ (fun H locs hP hD hS => ?_)
  refine lv_iload hx hb dL_law_229 (lv_at hl 1 rfl) ?_
  refine lv_icmp_eq (tgt := 236) hx hb dL_law_231 (by decide) (fun c14 => ?_) (fun c14 => ?_)
  · replace hf := it_p c14 hf
    refine lv_iload hx hb dL_law_236 (lv_at hl 1 rfl) ?_
    refine lv_if_ne (tgt := 253) hx hb dL_law_238 (by decide) (fun c15 => ?_) (fun c15 => ?_)
    · replace hf := it_n c15 hf
      refine lv_goto (tgt := 1119) hx hb dL_law_253 (by decide) ?_
      exact z1119 C0 hT hN hX hC hbA hA hK ih _ _ _ _ _ _ _ hf hP hD hS (lv_sub hl [2, 3, 4, 5, 6] rfl) (by omega) (by omega)
    · replace hf := it_p c15 hf
      refine lv_aload_n hx hb dL_law_241 rfl (lv_at hl 5 rfl) ?_
      refine lv_iconst (v := 0) hx hb dL_law_242 (by decide) ?_
      obtain ⟨g16, hf⟩ := gd_ob hf
      refine va_lald hx hb hK hP 20 3 rfl rfl g16 dL_law_243 ?_
      refine lv_iload hx hb dL_law_244 (lv_at hl 0 rfl) ?_
      refine lv_i2l (v := (v10.toInt64)) hx hb dL_law_246 rfl ?_
      refine W.lcmp hx hb dL_law_247 ?_
      refine lv_if_eq (tgt := 253) hx hb dL_law_248 (by decide) (fun c17 => ?_) (fun c17 => ?_)
      · replace hf := it_p c17 hf
        refine lv_goto (tgt := 1119) hx hb dL_law_253 (by decide) ?_
        exact z1119 C0 hT hN hX hC hbA hA hK ih _ _ _ _ _ _ _ hf hP hD hS (lv_sub hl [2, 3, 4, 5, 6] rfl) (by omega) (by omega)
      · replace hf := it_n c17 hf
        refine lv_iconst (v := 0) hx hb dL_law_251 (by decide) ?_
        exact absurd (so1 hf) (by decide)
  · replace hf := it_n c14 hf
    refine lv_iconst (v := 0) hx hb dL_law_234 (by decide) ?_
    exact absurd (so1 hf) (by decide)
def zz_256 (xs : Nat → Int32) (L : Nat) (k23 : LZ → Int32 → Option Int32) (σ : LZ) (l4 : Int32) : Option Int32 :=
  gd (l4 + 1) L <|
  bd2 (rr_get (ls_x σ) (xs (l4 + 1).toNatClampNeg)) fun v2 s3 =>
  nm (ls_x' σ s3) fun s4 =>
  gd (l4 + 1) L <|
  bd2 (mm_get (ls_m s4) (xs (l4 + 1).toNatClampNeg)) fun v6 s7 =>
  nm (ls_m' s4 s7) fun s8 =>
  if v2 = v6 then
    zz_1119 xs L k23 s8 l4
  else
    some 0
set_option maxHeartbeats 4000000 in
set_option maxRecDepth 100000 in
theorem z256 {p : Program} {l : Launch} {e : Env} {s : State} {m : MethodId} {below : List Frame} {meth : Method} {c : Code} {b L : Nat} {xs : Nat → Int32} {D : va_G} {ca : Nat → ClassId} {B : Nat → Nat} {ar : Nat → Nat → Nat} {o : Nat} {Ad : Nat → Nat} {k23 : LZ → Int32 → Option Int32} {n : Nat} {Q : State → Prop} (C0 : lw_At p s m meth c b L xs) (hT : l.stackTraces = false) (hN : NX s) (hX : HX (fun q : Nat => s.heap.size ≤ q) s s.heap) (hC : NC s) (hbA : ¬ (fun q : Nat => s.heap.size ≤ q) b) (hA : ∀ q : Nat, s.heap.size ≤ q → (fun q : Nat => s.heap.size ≤ q) q) (hK : va_K D vwCl (vt ca) s) (ih : ∀ (H : Heap) (locs : List Loc) (ls : Array Slot) (cells slots : Nat) (σ : LZ) (l4 : Int32), k23 σ l4 = some 1 → va_P D vwCl (wZ ca B ar o Ad σ) H → va_D (fun q : Nat => s.heap.size ≤ q) (wZ ca B ar o Ad σ) → va_S (fun q : Nat => s.heap.size ≤ q) s.heap H locs → lv_has ls 7 [(0, .ref b), (1, .ref (B 0)), (2, .ref (Ad 0)), (3, .ref o), (4, .int l4)] → cells + 3 * n ≤ 601024 → slots + 18 * n ≤ 7293034 → W p l e room_1 s m #[Value.ref b] below meth c H locs cells slots Q (F0 m 23 ls [])) : ∀ (H : Heap) (locs : List Loc) (ls : Array Slot) (cells slots : Nat) (σ : LZ) (l4 : Int32), zz_256 xs L k23 σ l4 = some 1 → va_P D vwCl (wZ ca B ar o Ad σ) H → va_D (fun q : Nat => s.heap.size ≤ q) (wZ ca B ar o Ad σ) → va_S (fun q : Nat => s.heap.size ≤ q) s.heap H locs → lv_has ls 7 [(0, .ref b), (1, .ref (B 0)), (2, .ref (Ad 0)), (3, .ref o), (4, .int l4)] → cells + 3 * (n + 1) ≤ 601024 → slots + 18 * (n + 1) ≤ 7293034 → W p l e room_1 s m #[Value.ref b] below meth c H locs cells slots Q (F0 m 256 ls []) := by
  intro H locs ls cells slots σ l4 hf hP hD hS hl hc9 hs9
  obtain ⟨hx, hb, hr, hml, hown, hts0, hXs, hbl, hlocks, hgv⟩ := id C0
  have hts : ∀ w ∈ wsL_law, w.before #[Value.ref b] s = true := fun w h => hts0 w (wsL_law_in w h)
  unfold zz_256 at hf
  refine lv_aload_n hx hb dL_law_256 rfl (lv_at hl 1 rfl) ?_
  refine lv_aload_n hx hb dL_law_257 rfl (lv_at hl 0 rfl) ?_
  refine lv_iload hx hb dL_law_258 (lv_at hl 4 rfl) ?_
  refine lv_iconst (v := 1) hx hb dL_law_260 (by decide) ?_
  refine lv_iadd hx hb dL_law_261 ?_
  obtain ⟨g1, hf⟩ := gd_ob hf
  refine va_sld hx hb hXs hbl hbA hS g1 dL_law_262 ?_
  obtain ⟨v2, s3, ev2, hf⟩ := bd2_ob hf
  refine call_i (As := [.int (xs (l4 + 1).toNatClampNeg)]) (rest := []) ⟨hx, hb, hml, hown, hts⟩ (tX4_get l D ca B ar _ (ls_x σ) (xs (l4 + 1).toNatClampNeg) v2 s3 ev2) (cwV 1 hts gL_law_X4_get rfl rfl rfl (by decide +kernel) ⟨Nat.le_of_ble_eq_true rfl, Nat.le_of_ble_eq_true rfl⟩) hN hK hP hD hA hS (fr_ZX ca B ar o Ad σ s3) rfl rfl rfl hl.1 rfl (lv_room (Nat.le_of_ble_eq_true rfl)) dL_law_263 ⟨(show _ ≤ 601024 by omega), (show _ ≤ 7293034 by omega)⟩ (fun H locs hP hD hS => ?_)
  obtain ⟨s4, es4, hf⟩ := nm_ob hf
  have hP : va_P D vwCl (wZ ca B ar o Ad s4) H := by rw [← es4]; exact hP
  have hD : va_D (fun q : Nat => s.heap.size ≤ q) (wZ ca B ar o Ad s4) := by rw [← es4]; exact hD
  refine lv_aload_n hx hb dL_law_266 rfl (lv_at hl 2 rfl) ?_
  refine lv_aload_n hx hb dL_law_267 rfl (lv_at hl 0 rfl) ?_
  refine lv_iload hx hb dL_law_268 (lv_at hl 4 rfl) ?_
  refine lv_iconst (v := 1) hx hb dL_law_270 (by decide) ?_
  refine lv_iadd hx hb dL_law_271 ?_
  obtain ⟨g5, hf⟩ := gd_ob hf
  refine va_sld hx hb hXs hbl hbA hS g5 dL_law_272 ?_
  obtain ⟨v6, s7, ev6, hf⟩ := bd2_ob hf
  refine call_i (As := [.int (xs (l4 + 1).toNatClampNeg)]) (rest := [.int v2]) ⟨hx, hb, hml, hown, hts⟩ (tX5_get l D ca Ad _ (ls_m s4) (xs (l4 + 1).toNatClampNeg) v6 s7 ev6) (cwV 1 hts gL_law_X5_get rfl rfl rfl (by decide +kernel) ⟨Nat.le_of_ble_eq_true rfl, Nat.le_of_ble_eq_true rfl⟩) hN hK hP hD hA hS (fr_ZM ca B ar o Ad s4 s7) rfl rfl rfl hl.1 rfl (lv_room (Nat.le_of_ble_eq_true rfl)) dL_law_273 ⟨(show _ ≤ 601024 by omega), (show _ ≤ 7293034 by omega)⟩ (fun H locs hP hD hS => ?_)
  obtain ⟨s8, es8, hf⟩ := nm_ob hf
  have hP : va_P D vwCl (wZ ca B ar o Ad s8) H := by rw [← es8]; exact hP
  have hD : va_D (fun q : Nat => s.heap.size ≤ q) (wZ ca B ar o Ad s8) := by rw [← es8]; exact hD
  refine lv_icmp_eq (tgt := 1119) hx hb dL_law_276 (by decide) (fun c9 => ?_) (fun c9 => ?_)
  · replace hf := it_p c9 hf
    exact z1119 C0 hT hN hX hC hbA hA hK ih _ _ _ _ _ _ _ hf hP hD hS (lv_sub hl [0, 1, 2, 3, 4] rfl) (by omega) (by omega)
  · replace hf := it_n c9 hf
    refine lv_iconst (v := 0) hx hb dL_law_279 (by decide) ?_
    exact absurd (so1 hf) (by decide)
def zz_281 (xs : Nat → Int32) (L : Nat) (k23 : LZ → Int32 → Option Int32) (σ : LZ) (l4 : Int32) : Option Int32 :=
  gd (l4 + 1) L <|
  bd2 (rr_remove (ls_x σ) (xs (l4 + 1).toNatClampNeg)) fun v2 s3 =>
  nm (ls_x' σ s3) fun s4 =>
  gd (l4 + 1) L <|
  bd2 (mm_remove (ls_m s4) (xs (l4 + 1).toNatClampNeg)) fun v6 s7 =>
  nm (ls_m' s4 s7) fun s8 =>
  if v2 = v6 then
    zz_1119 xs L k23 s8 l4
  else
    some 0
set_option maxHeartbeats 4000000 in
set_option maxRecDepth 100000 in
theorem z281 {p : Program} {l : Launch} {e : Env} {s : State} {m : MethodId} {below : List Frame} {meth : Method} {c : Code} {b L : Nat} {xs : Nat → Int32} {D : va_G} {ca : Nat → ClassId} {B : Nat → Nat} {ar : Nat → Nat → Nat} {o : Nat} {Ad : Nat → Nat} {k23 : LZ → Int32 → Option Int32} {n : Nat} {Q : State → Prop} (C0 : lw_At p s m meth c b L xs) (hT : l.stackTraces = false) (hN : NX s) (hX : HX (fun q : Nat => s.heap.size ≤ q) s s.heap) (hC : NC s) (hbA : ¬ (fun q : Nat => s.heap.size ≤ q) b) (hA : ∀ q : Nat, s.heap.size ≤ q → (fun q : Nat => s.heap.size ≤ q) q) (hK : va_K D vwCl (vt ca) s) (ih : ∀ (H : Heap) (locs : List Loc) (ls : Array Slot) (cells slots : Nat) (σ : LZ) (l4 : Int32), k23 σ l4 = some 1 → va_P D vwCl (wZ ca B ar o Ad σ) H → va_D (fun q : Nat => s.heap.size ≤ q) (wZ ca B ar o Ad σ) → va_S (fun q : Nat => s.heap.size ≤ q) s.heap H locs → lv_has ls 7 [(0, .ref b), (1, .ref (B 0)), (2, .ref (Ad 0)), (3, .ref o), (4, .int l4)] → cells + 3 * n ≤ 601024 → slots + 18 * n ≤ 7293034 → W p l e room_1 s m #[Value.ref b] below meth c H locs cells slots Q (F0 m 23 ls [])) : ∀ (H : Heap) (locs : List Loc) (ls : Array Slot) (cells slots : Nat) (σ : LZ) (l4 : Int32), zz_281 xs L k23 σ l4 = some 1 → va_P D vwCl (wZ ca B ar o Ad σ) H → va_D (fun q : Nat => s.heap.size ≤ q) (wZ ca B ar o Ad σ) → va_S (fun q : Nat => s.heap.size ≤ q) s.heap H locs → lv_has ls 7 [(0, .ref b), (1, .ref (B 0)), (2, .ref (Ad 0)), (3, .ref o), (4, .int l4)] → cells + 3 * (n + 1) ≤ 601024 → slots + 18 * (n + 1) ≤ 7293034 → W p l e room_1 s m #[Value.ref b] below meth c H locs cells slots Q (F0 m 281 ls []) := by
  intro H locs ls cells slots σ l4 hf hP hD hS hl hc9 hs9
  obtain ⟨hx, hb, hr, hml, hown, hts0, hXs, hbl, hlocks, hgv⟩ := id C0
  have hts : ∀ w ∈ wsL_law, w.before #[Value.ref b] s = true := fun w h => hts0 w (wsL_law_in w h)
  unfold zz_281 at hf
  refine lv_aload_n hx hb dL_law_281 rfl (lv_at hl 1 rfl) ?_
  refine lv_aload_n hx hb dL_law_282 rfl (lv_at hl 0 rfl) ?_
  refine lv_iload hx hb dL_law_283 (lv_at hl 4 rfl) ?_
  refine lv_iconst (v := 1) hx hb dL_law_285 (by decide) ?_
  refine lv_iadd hx hb dL_law_286 ?_
  obtain ⟨g1, hf⟩ := gd_ob hf
  refine va_sld hx hb hXs hbl hbA hS g1 dL_law_287 ?_
  obtain ⟨v2, s3, ev2, hf⟩ := bd2_ob hf
  refine call_i (As := [.int (xs (l4 + 1).toNatClampNeg)]) (rest := []) ⟨hx, hb, hml, hown, hts⟩ (tX4_remove l D ca B ar _ (ls_x σ) (xs (l4 + 1).toNatClampNeg) v2 s3 ev2) (cwV 1 hts gL_law_X4_remove rfl rfl rfl (by decide +kernel) ⟨Nat.le_of_ble_eq_true rfl, Nat.le_of_ble_eq_true rfl⟩) hN hK hP hD hA hS (fr_ZX ca B ar o Ad σ s3) rfl rfl rfl hl.1 rfl (lv_room (Nat.le_of_ble_eq_true rfl)) dL_law_288 ⟨(show _ ≤ 601024 by omega), (show _ ≤ 7293034 by omega)⟩ (fun H locs hP hD hS => ?_)
  obtain ⟨s4, es4, hf⟩ := nm_ob hf
  have hP : va_P D vwCl (wZ ca B ar o Ad s4) H := by rw [← es4]; exact hP
  have hD : va_D (fun q : Nat => s.heap.size ≤ q) (wZ ca B ar o Ad s4) := by rw [← es4]; exact hD
  refine lv_aload_n hx hb dL_law_291 rfl (lv_at hl 2 rfl) ?_
  refine lv_aload_n hx hb dL_law_292 rfl (lv_at hl 0 rfl) ?_
  refine lv_iload hx hb dL_law_293 (lv_at hl 4 rfl) ?_
  refine lv_iconst (v := 1) hx hb dL_law_295 (by decide) ?_
  refine lv_iadd hx hb dL_law_296 ?_
  obtain ⟨g5, hf⟩ := gd_ob hf
  refine va_sld hx hb hXs hbl hbA hS g5 dL_law_297 ?_
  obtain ⟨v6, s7, ev6, hf⟩ := bd2_ob hf
  refine call_i (As := [.int (xs (l4 + 1).toNatClampNeg)]) (rest := [.int v2]) ⟨hx, hb, hml, hown, hts⟩ (tX5_remove l D ca Ad _ (ls_m s4) (xs (l4 + 1).toNatClampNeg) v6 s7 ev6) (cwV 1 hts gL_law_X5_remove rfl rfl rfl (by decide +kernel) ⟨Nat.le_of_ble_eq_true rfl, Nat.le_of_ble_eq_true rfl⟩) hN hK hP hD hA hS (fr_ZM ca B ar o Ad s4 s7) rfl rfl rfl hl.1 rfl (lv_room (Nat.le_of_ble_eq_true rfl)) dL_law_298 ⟨(show _ ≤ 601024 by omega), (show _ ≤ 7293034 by omega)⟩ (fun H locs hP hD hS => ?_)
  obtain ⟨s8, es8, hf⟩ := nm_ob hf
  have hP : va_P D vwCl (wZ ca B ar o Ad s8) H := by rw [← es8]; exact hP
  have hD : va_D (fun q : Nat => s.heap.size ≤ q) (wZ ca B ar o Ad s8) := by rw [← es8]; exact hD
  refine lv_icmp_eq (tgt := 1119) hx hb dL_law_301 (by decide) (fun c9 => ?_) (fun c9 => ?_)
  · replace hf := it_p c9 hf
    exact z1119 C0 hT hN hX hC hbA hA hK ih _ _ _ _ _ _ _ hf hP hD hS (lv_sub hl [0, 1, 2, 3, 4] rfl) (by omega) (by omega)
  · replace hf := it_n c9 hf
    refine lv_iconst (v := 0) hx hb dL_law_304 (by decide) ?_
    exact absurd (so1 hf) (by decide)
def zz_306 (xs : Nat → Int32) (L : Nat) (k23 : LZ → Int32 → Option Int32) (σ : LZ) (l4 : Int32) : Option Int32 :=
  bd2 (rr_move (ls_x σ)) fun v1 s2 =>
  nm (ls_x' σ s2) fun s3 =>
  bd2 (mm_move (ls_m s3)) fun v4 s5 =>
  nm (ls_m' s3 s5) fun s6 =>
  if v1 = v4 then
    zz_1119 xs L k23 s6 l4
  else
    some 0
set_option maxHeartbeats 4000000 in
set_option maxRecDepth 100000 in
theorem z306 {p : Program} {l : Launch} {e : Env} {s : State} {m : MethodId} {below : List Frame} {meth : Method} {c : Code} {b L : Nat} {xs : Nat → Int32} {D : va_G} {ca : Nat → ClassId} {B : Nat → Nat} {ar : Nat → Nat → Nat} {o : Nat} {Ad : Nat → Nat} {k23 : LZ → Int32 → Option Int32} {n : Nat} {Q : State → Prop} (C0 : lw_At p s m meth c b L xs) (hT : l.stackTraces = false) (hN : NX s) (hX : HX (fun q : Nat => s.heap.size ≤ q) s s.heap) (hC : NC s) (hbA : ¬ (fun q : Nat => s.heap.size ≤ q) b) (hA : ∀ q : Nat, s.heap.size ≤ q → (fun q : Nat => s.heap.size ≤ q) q) (hK : va_K D vwCl (vt ca) s) (ih : ∀ (H : Heap) (locs : List Loc) (ls : Array Slot) (cells slots : Nat) (σ : LZ) (l4 : Int32), k23 σ l4 = some 1 → va_P D vwCl (wZ ca B ar o Ad σ) H → va_D (fun q : Nat => s.heap.size ≤ q) (wZ ca B ar o Ad σ) → va_S (fun q : Nat => s.heap.size ≤ q) s.heap H locs → lv_has ls 7 [(0, .ref b), (1, .ref (B 0)), (2, .ref (Ad 0)), (3, .ref o), (4, .int l4)] → cells + 3 * n ≤ 601024 → slots + 18 * n ≤ 7293034 → W p l e room_1 s m #[Value.ref b] below meth c H locs cells slots Q (F0 m 23 ls [])) : ∀ (H : Heap) (locs : List Loc) (ls : Array Slot) (cells slots : Nat) (σ : LZ) (l4 : Int32), zz_306 xs L k23 σ l4 = some 1 → va_P D vwCl (wZ ca B ar o Ad σ) H → va_D (fun q : Nat => s.heap.size ≤ q) (wZ ca B ar o Ad σ) → va_S (fun q : Nat => s.heap.size ≤ q) s.heap H locs → lv_has ls 7 [(0, .ref b), (1, .ref (B 0)), (2, .ref (Ad 0)), (3, .ref o), (4, .int l4)] → cells + 3 * (n + 1) ≤ 601024 → slots + 18 * (n + 1) ≤ 7293034 → W p l e room_1 s m #[Value.ref b] below meth c H locs cells slots Q (F0 m 306 ls []) := by
  intro H locs ls cells slots σ l4 hf hP hD hS hl hc9 hs9
  obtain ⟨hx, hb, hr, hml, hown, hts0, hXs, hbl, hlocks, hgv⟩ := id C0
  have hts : ∀ w ∈ wsL_law, w.before #[Value.ref b] s = true := fun w h => hts0 w (wsL_law_in w h)
  unfold zz_306 at hf
  refine lv_aload_n hx hb dL_law_306 rfl (lv_at hl 1 rfl) ?_
  obtain ⟨v1, s2, ev1, hf⟩ := bd2_ob hf
  refine call_i (As := []) (rest := []) ⟨hx, hb, hml, hown, hts⟩ (tX4_move l D ca B ar _ (ls_x σ) v1 s2 ev1) (cwV 0 hts gL_law_X4_move rfl rfl rfl (by decide +kernel) ⟨Nat.le_of_ble_eq_true rfl, Nat.le_of_ble_eq_true rfl⟩) hN hK hP hD hA hS (fr_ZX ca B ar o Ad σ s2) rfl rfl rfl hl.1 rfl (lv_room (Nat.le_of_ble_eq_true rfl)) dL_law_307 ⟨(show _ ≤ 601024 by omega), (show _ ≤ 7293034 by omega)⟩ (fun H locs hP hD hS => ?_)
  obtain ⟨s3, es3, hf⟩ := nm_ob hf
  have hP : va_P D vwCl (wZ ca B ar o Ad s3) H := by rw [← es3]; exact hP
  have hD : va_D (fun q : Nat => s.heap.size ≤ q) (wZ ca B ar o Ad s3) := by rw [← es3]; exact hD
  refine lv_aload_n hx hb dL_law_310 rfl (lv_at hl 2 rfl) ?_
  obtain ⟨v4, s5, ev4, hf⟩ := bd2_ob hf
  refine call_i (As := []) (rest := [.int v1]) ⟨hx, hb, hml, hown, hts⟩ (tX5_move l D ca Ad _ (ls_m s3) v4 s5 ev4) (cwV 0 hts gL_law_X5_move rfl rfl rfl (by decide +kernel) ⟨Nat.le_of_ble_eq_true rfl, Nat.le_of_ble_eq_true rfl⟩) hN hK hP hD hA hS (fr_ZM ca B ar o Ad s3 s5) rfl rfl rfl hl.1 rfl (lv_room (Nat.le_of_ble_eq_true rfl)) dL_law_311 ⟨(show _ ≤ 601024 by omega), (show _ ≤ 7293034 by omega)⟩ (fun H locs hP hD hS => ?_)
  obtain ⟨s6, es6, hf⟩ := nm_ob hf
  have hP : va_P D vwCl (wZ ca B ar o Ad s6) H := by rw [← es6]; exact hP
  have hD : va_D (fun q : Nat => s.heap.size ≤ q) (wZ ca B ar o Ad s6) := by rw [← es6]; exact hD
  refine lv_icmp_eq (tgt := 1119) hx hb dL_law_314 (by decide) (fun c7 => ?_) (fun c7 => ?_)
  · replace hf := it_p c7 hf
    exact z1119 C0 hT hN hX hC hbA hA hK ih _ _ _ _ _ _ _ hf hP hD hS (lv_sub hl [0, 1, 2, 3, 4] rfl) (by omega) (by omega)
  · replace hf := it_n c7 hf
    refine lv_iconst (v := 0) hx hb dL_law_317 (by decide) ?_
    exact absurd (so1 hf) (by decide)
def zz_319 (xs : Nat → Int32) (L : Nat) (k23 : LZ → Int32 → Option Int32) (σ : LZ) (l4 : Int32) : Option Int32 :=
  bd (rr_size (ls_x σ)) fun v1 =>
  bd2 (mm_size (ls_m σ)) fun v2 s3 =>
  nm (ls_m' σ s3) fun s4 =>
  if v1 = v2 then
    zz_1119 xs L k23 s4 l4
  else
    some 0
set_option maxHeartbeats 4000000 in
set_option maxRecDepth 100000 in
theorem z319 {p : Program} {l : Launch} {e : Env} {s : State} {m : MethodId} {below : List Frame} {meth : Method} {c : Code} {b L : Nat} {xs : Nat → Int32} {D : va_G} {ca : Nat → ClassId} {B : Nat → Nat} {ar : Nat → Nat → Nat} {o : Nat} {Ad : Nat → Nat} {k23 : LZ → Int32 → Option Int32} {n : Nat} {Q : State → Prop} (C0 : lw_At p s m meth c b L xs) (hT : l.stackTraces = false) (hN : NX s) (hX : HX (fun q : Nat => s.heap.size ≤ q) s s.heap) (hC : NC s) (hbA : ¬ (fun q : Nat => s.heap.size ≤ q) b) (hA : ∀ q : Nat, s.heap.size ≤ q → (fun q : Nat => s.heap.size ≤ q) q) (hK : va_K D vwCl (vt ca) s) (ih : ∀ (H : Heap) (locs : List Loc) (ls : Array Slot) (cells slots : Nat) (σ : LZ) (l4 : Int32), k23 σ l4 = some 1 → va_P D vwCl (wZ ca B ar o Ad σ) H → va_D (fun q : Nat => s.heap.size ≤ q) (wZ ca B ar o Ad σ) → va_S (fun q : Nat => s.heap.size ≤ q) s.heap H locs → lv_has ls 7 [(0, .ref b), (1, .ref (B 0)), (2, .ref (Ad 0)), (3, .ref o), (4, .int l4)] → cells + 3 * n ≤ 601024 → slots + 18 * n ≤ 7293034 → W p l e room_1 s m #[Value.ref b] below meth c H locs cells slots Q (F0 m 23 ls [])) : ∀ (H : Heap) (locs : List Loc) (ls : Array Slot) (cells slots : Nat) (σ : LZ) (l4 : Int32), zz_319 xs L k23 σ l4 = some 1 → va_P D vwCl (wZ ca B ar o Ad σ) H → va_D (fun q : Nat => s.heap.size ≤ q) (wZ ca B ar o Ad σ) → va_S (fun q : Nat => s.heap.size ≤ q) s.heap H locs → lv_has ls 7 [(0, .ref b), (1, .ref (B 0)), (2, .ref (Ad 0)), (3, .ref o), (4, .int l4)] → cells + 3 * (n + 1) ≤ 601024 → slots + 18 * (n + 1) ≤ 7293034 → W p l e room_1 s m #[Value.ref b] below meth c H locs cells slots Q (F0 m 319 ls []) := by
  intro H locs ls cells slots σ l4 hf hP hD hS hl hc9 hs9
  obtain ⟨hx, hb, hr, hml, hown, hts0, hXs, hbl, hlocks, hgv⟩ := id C0
  have hts : ∀ w ∈ wsL_law, w.before #[Value.ref b] s = true := fun w h => hts0 w (wsL_law_in w h)
  unfold zz_319 at hf
  refine lv_aload_n hx hb dL_law_319 rfl (lv_at hl 1 rfl) ?_
  obtain ⟨v1, ev1, hf⟩ := bd_ob hf
  refine call_i (As := []) (rest := []) ⟨hx, hb, hml, hown, hts⟩ (tX4_size l D ca B ar _ (ls_x σ) v1 ev1) (cwV 0 hts gL_law_X4_size rfl rfl rfl (by decide +kernel) ⟨Nat.le_of_ble_eq_true rfl, Nat.le_of_ble_eq_true rfl⟩) hN hK hP hD hA hS (fr_ZXp ca B ar o Ad σ) rfl rfl rfl hl.1 rfl (lv_room (Nat.le_of_ble_eq_true rfl)) dL_law_320 ⟨(show _ ≤ 601024 by omega), (show _ ≤ 7293034 by omega)⟩ (fun H locs hP hD hS => ?_)
  refine lv_aload_n hx hb dL_law_323 rfl (lv_at hl 2 rfl) ?_
  obtain ⟨v2, s3, ev2, hf⟩ := bd2_ob hf
  refine call_i (As := []) (rest := [.int v1]) ⟨hx, hb, hml, hown, hts⟩ (tX5_size l D ca Ad _ (ls_m σ) v2 s3 ev2) (cwV 0 hts gL_law_X5_size rfl rfl rfl (by decide +kernel) ⟨Nat.le_of_ble_eq_true rfl, Nat.le_of_ble_eq_true rfl⟩) hN hK hP hD hA hS (fr_ZM ca B ar o Ad σ s3) rfl rfl rfl hl.1 rfl (lv_room (Nat.le_of_ble_eq_true rfl)) dL_law_324 ⟨(show _ ≤ 601024 by omega), (show _ ≤ 7293034 by omega)⟩ (fun H locs hP hD hS => ?_)
  obtain ⟨s4, es4, hf⟩ := nm_ob hf
  have hP : va_P D vwCl (wZ ca B ar o Ad s4) H := by rw [← es4]; exact hP
  have hD : va_D (fun q : Nat => s.heap.size ≤ q) (wZ ca B ar o Ad s4) := by rw [← es4]; exact hD
  refine lv_icmp_eq (tgt := 1119) hx hb dL_law_327 (by decide) (fun c5 => ?_) (fun c5 => ?_)
  · replace hf := it_p c5 hf
    exact z1119 C0 hT hN hX hC hbA hA hK ih _ _ _ _ _ _ _ hf hP hD hS (lv_sub hl [0, 1, 2, 3, 4] rfl) (by omega) (by omega)
  · replace hf := it_n c5 hf
    refine lv_iconst (v := 0) hx hb dL_law_330 (by decide) ?_
    exact absurd (so1 hf) (by decide)
def zz_332 (xs : Nat → Int32) (L : Nat) (k23 : LZ → Int32 → Option Int32) (σ : LZ) (l4 : Int32) : Option Int32 :=
  bd (rr_moves (ls_x σ)) fun v1 =>
  bd2 (mm_moves (ls_m σ)) fun v2 s3 =>
  nm (ls_m' σ s3) fun s4 =>
  if v1 = v2 then
    zz_1119 xs L k23 s4 l4
  else
    some 0
set_option maxHeartbeats 4000000 in
set_option maxRecDepth 100000 in
theorem z332 {p : Program} {l : Launch} {e : Env} {s : State} {m : MethodId} {below : List Frame} {meth : Method} {c : Code} {b L : Nat} {xs : Nat → Int32} {D : va_G} {ca : Nat → ClassId} {B : Nat → Nat} {ar : Nat → Nat → Nat} {o : Nat} {Ad : Nat → Nat} {k23 : LZ → Int32 → Option Int32} {n : Nat} {Q : State → Prop} (C0 : lw_At p s m meth c b L xs) (hT : l.stackTraces = false) (hN : NX s) (hX : HX (fun q : Nat => s.heap.size ≤ q) s s.heap) (hC : NC s) (hbA : ¬ (fun q : Nat => s.heap.size ≤ q) b) (hA : ∀ q : Nat, s.heap.size ≤ q → (fun q : Nat => s.heap.size ≤ q) q) (hK : va_K D vwCl (vt ca) s) (ih : ∀ (H : Heap) (locs : List Loc) (ls : Array Slot) (cells slots : Nat) (σ : LZ) (l4 : Int32), k23 σ l4 = some 1 → va_P D vwCl (wZ ca B ar o Ad σ) H → va_D (fun q : Nat => s.heap.size ≤ q) (wZ ca B ar o Ad σ) → va_S (fun q : Nat => s.heap.size ≤ q) s.heap H locs → lv_has ls 7 [(0, .ref b), (1, .ref (B 0)), (2, .ref (Ad 0)), (3, .ref o), (4, .int l4)] → cells + 3 * n ≤ 601024 → slots + 18 * n ≤ 7293034 → W p l e room_1 s m #[Value.ref b] below meth c H locs cells slots Q (F0 m 23 ls [])) : ∀ (H : Heap) (locs : List Loc) (ls : Array Slot) (cells slots : Nat) (σ : LZ) (l4 : Int32), zz_332 xs L k23 σ l4 = some 1 → va_P D vwCl (wZ ca B ar o Ad σ) H → va_D (fun q : Nat => s.heap.size ≤ q) (wZ ca B ar o Ad σ) → va_S (fun q : Nat => s.heap.size ≤ q) s.heap H locs → lv_has ls 7 [(0, .ref b), (1, .ref (B 0)), (2, .ref (Ad 0)), (3, .ref o), (4, .int l4)] → cells + 3 * (n + 1) ≤ 601024 → slots + 18 * (n + 1) ≤ 7293034 → W p l e room_1 s m #[Value.ref b] below meth c H locs cells slots Q (F0 m 332 ls []) := by
  intro H locs ls cells slots σ l4 hf hP hD hS hl hc9 hs9
  obtain ⟨hx, hb, hr, hml, hown, hts0, hXs, hbl, hlocks, hgv⟩ := id C0
  have hts : ∀ w ∈ wsL_law, w.before #[Value.ref b] s = true := fun w h => hts0 w (wsL_law_in w h)
  unfold zz_332 at hf
  refine lv_aload_n hx hb dL_law_332 rfl (lv_at hl 1 rfl) ?_
  obtain ⟨v1, ev1, hf⟩ := bd_ob hf
  refine call_i (As := []) (rest := []) ⟨hx, hb, hml, hown, hts⟩ (tX4_moves l D ca B ar _ (ls_x σ) v1 ev1) (cwV 0 hts gL_law_X4_moves rfl rfl rfl (by decide +kernel) ⟨Nat.le_of_ble_eq_true rfl, Nat.le_of_ble_eq_true rfl⟩) hN hK hP hD hA hS (fr_ZXp ca B ar o Ad σ) rfl rfl rfl hl.1 rfl (lv_room (Nat.le_of_ble_eq_true rfl)) dL_law_333 ⟨(show _ ≤ 601024 by omega), (show _ ≤ 7293034 by omega)⟩ (fun H locs hP hD hS => ?_)
  refine lv_aload_n hx hb dL_law_336 rfl (lv_at hl 2 rfl) ?_
  obtain ⟨v2, s3, ev2, hf⟩ := bd2_ob hf
  refine call_i (As := []) (rest := [.int v1]) ⟨hx, hb, hml, hown, hts⟩ (tX5_moves l D ca Ad _ (ls_m σ) v2 s3 ev2) (cwV 0 hts gL_law_X5_moves rfl rfl rfl (by decide +kernel) ⟨Nat.le_of_ble_eq_true rfl, Nat.le_of_ble_eq_true rfl⟩) hN hK hP hD hA hS (fr_ZM ca B ar o Ad σ s3) rfl rfl rfl hl.1 rfl (lv_room (Nat.le_of_ble_eq_true rfl)) dL_law_337 ⟨(show _ ≤ 601024 by omega), (show _ ≤ 7293034 by omega)⟩ (fun H locs hP hD hS => ?_)
  obtain ⟨s4, es4, hf⟩ := nm_ob hf
  have hP : va_P D vwCl (wZ ca B ar o Ad s4) H := by rw [← es4]; exact hP
  have hD : va_D (fun q : Nat => s.heap.size ≤ q) (wZ ca B ar o Ad s4) := by rw [← es4]; exact hD
  refine lv_icmp_eq (tgt := 1119) hx hb dL_law_340 (by decide) (fun c5 => ?_) (fun c5 => ?_)
  · replace hf := it_p c5 hf
    exact z1119 C0 hT hN hX hC hbA hA hK ih _ _ _ _ _ _ _ hf hP hD hS (lv_sub hl [0, 1, 2, 3, 4] rfl) (by omega) (by omega)
  · replace hf := it_n c5 hf
    refine lv_iconst (v := 0) hx hb dL_law_343 (by decide) ?_
    exact absurd (so1 hf) (by decide)
def zz_345 (xs : Nat → Int32) (L : Nat) (k23 : LZ → Int32 → Option Int32) (σ : LZ) (l4 : Int32) : Option Int32 :=
  hcl (rx_openSweep (ls_x σ)) (fun z => hres 2 2 Int32.toInt64 z (ls_out σ)) fun v1 u2 f3 =>
  nm (ls_out' (ls_x' σ u2) f3) fun s5 =>
  bd2 (mm_openSweep (ls_m s5)) fun v6 s7 =>
  nm (ls_m' s5 s7) fun s8 =>
  bd (mm_thrown (ls_m s8)) fun v9 =>
  if v9 = v1 then
    if v1 = 0 then
      gd 0 1 <|
      if (lg_cmp (ls_out s8 (0 : Int32).toNatClampNeg) (v6.toInt64)) = 0 then
        zz_1119 xs L k23 s8 l4
      else
        some 0
    else
      zz_1119 xs L k23 s8 l4
  else
    some 0
set_option maxHeartbeats 4000000 in
set_option maxRecDepth 100000 in
theorem z345 {p : Program} {l : Launch} {e : Env} {s : State} {m : MethodId} {below : List Frame} {meth : Method} {c : Code} {b L : Nat} {xs : Nat → Int32} {D : va_G} {ca : Nat → ClassId} {B : Nat → Nat} {ar : Nat → Nat → Nat} {o : Nat} {Ad : Nat → Nat} {k23 : LZ → Int32 → Option Int32} {n : Nat} {Q : State → Prop} (C0 : lw_At p s m meth c b L xs) (hT : l.stackTraces = false) (hN : NX s) (hX : HX (fun q : Nat => s.heap.size ≤ q) s s.heap) (hC : NC s) (hbA : ¬ (fun q : Nat => s.heap.size ≤ q) b) (hA : ∀ q : Nat, s.heap.size ≤ q → (fun q : Nat => s.heap.size ≤ q) q) (hK : va_K D vwCl (vt ca) s) (ih : ∀ (H : Heap) (locs : List Loc) (ls : Array Slot) (cells slots : Nat) (σ : LZ) (l4 : Int32), k23 σ l4 = some 1 → va_P D vwCl (wZ ca B ar o Ad σ) H → va_D (fun q : Nat => s.heap.size ≤ q) (wZ ca B ar o Ad σ) → va_S (fun q : Nat => s.heap.size ≤ q) s.heap H locs → lv_has ls 7 [(0, .ref b), (1, .ref (B 0)), (2, .ref (Ad 0)), (3, .ref o), (4, .int l4)] → cells + 3 * n ≤ 601024 → slots + 18 * n ≤ 7293034 → W p l e room_1 s m #[Value.ref b] below meth c H locs cells slots Q (F0 m 23 ls [])) : ∀ (H : Heap) (locs : List Loc) (ls : Array Slot) (cells slots : Nat) (σ : LZ) (l4 : Int32), zz_345 xs L k23 σ l4 = some 1 → va_P D vwCl (wZ ca B ar o Ad σ) H → va_D (fun q : Nat => s.heap.size ≤ q) (wZ ca B ar o Ad σ) → va_S (fun q : Nat => s.heap.size ≤ q) s.heap H locs → lv_has ls 7 [(0, .ref b), (1, .ref (B 0)), (2, .ref (Ad 0)), (3, .ref o), (4, .int l4)] → cells + 3 * (n + 1) ≤ 601024 → slots + 18 * (n + 1) ≤ 7293034 → W p l e room_1 s m #[Value.ref b] below meth c H locs cells slots Q (F0 m 345 ls []) := by
  intro H locs ls cells slots σ l4 hf hP hD hS hl hc9 hs9
  obtain ⟨hx, hb, hr, hml, hown, hts0, hXs, hbl, hlocks, hgv⟩ := id C0
  have hts : ∀ w ∈ wsL_law, w.before #[Value.ref b] s = true := fun w h => hts0 w (wsL_law_in w h)
  unfold zz_345 at hf
  refine lv_aload_n hx hb dL_law_345 rfl (lv_at hl 1 rfl) ?_
  refine lv_aload_n hx hb dL_law_346 rfl (lv_at hl 3 rfl) ?_
  obtain ⟨z4, v1, u2, f3, ez4, hz4, hf⟩ := hcl_ob hf
  refine call_h (As := [.ref (B 0), .ref o]) (rest := []) ⟨hx, hb, hml, hown, hts⟩ (tL_openSweep l hT D ca B ar o _ (ls_x σ) (ls_out σ)  z4 ez4 v1 u2 f3 hz4) (vx_cwSW 2 hts gL_law_L_openSweep rfl rfl rfl (by decide +kernel) ⟨Nat.le_of_ble_eq_true rfl, Nat.le_of_ble_eq_true rfl⟩) hN hX hC hK hP hD hA hS (fr_ZL ca B ar o Ad σ u2 f3) rfl hl.1 rfl (lv_room (Nat.le_of_ble_eq_true rfl)) dL_law_347 ⟨(show _ ≤ 601024 by omega), (show _ ≤ 7293034 by omega)⟩ (fun H locs hP hD hS => ?_)
  obtain ⟨s5, es5, hf⟩ := nm_ob hf
  have hP : va_P D vwCl (wZ ca B ar o Ad s5) H := by rw [← es5]; exact hP
  have hD : va_D (fun q : Nat => s.heap.size ≤ q) (wZ ca B ar o Ad s5) := by rw [← es5]; exact hD
  refine lv_istore (lv' := [(5, .int v1), (0, .ref b), (1, .ref (B 0)), (2, .ref (Ad 0)), (3, .ref o), (4, .int l4)]) hx hb dL_law_350 hl (by decide) rfl (fun ls hl => ?_)
  refine lv_aload_n hx hb dL_law_352 rfl (lv_at hl 3 rfl) ?_
  obtain ⟨v6, s7, ev6, hf⟩ := bd2_ob hf
  refine call_i (As := []) (rest := []) ⟨hx, hb, hml, hown, hts⟩ (tX5_openSweep l D ca Ad _ (ls_m s5) v6 s7 ev6) (cwV 0 hts gL_law_X5_openSweep rfl rfl rfl (by decide +kernel) ⟨Nat.le_of_ble_eq_true rfl, Nat.le_of_ble_eq_true rfl⟩) hN hK hP hD hA hS (fr_ZM ca B ar o Ad s5 s7) rfl rfl rfl hl.1 rfl (lv_room (Nat.le_of_ble_eq_true rfl)) dL_law_353 ⟨(show _ ≤ 601024 by omega), (show _ ≤ 7293034 by omega)⟩ (fun H locs hP hD hS => ?_)
  obtain ⟨s8, es8, hf⟩ := nm_ob hf
  have hP : va_P D vwCl (wZ ca B ar o Ad s8) H := by rw [← es8]; exact hP
  have hD : va_D (fun q : Nat => s.heap.size ≤ q) (wZ ca B ar o Ad s8) := by rw [← es8]; exact hD
  refine lv_istore (lv' := [(6, .int v6), (5, .int v1), (0, .ref b), (1, .ref (B 0)), (2, .ref (Ad 0)), (3, .ref o), (4, .int l4)]) hx hb dL_law_356 hl (by decide) rfl (fun ls hl => ?_)
  refine lv_aload_n hx hb dL_law_358 rfl (lv_at hl 4 rfl) ?_
  obtain ⟨v9, ev9, hf⟩ := bd_ob hf
  refine call_i (As := []) (rest := []) ⟨hx, hb, hml, hown, hts⟩ (tX5_thrown l D ca Ad _ (ls_m s8) v9 ev9) (cwV 0 hts gL_law_X5_thrown rfl rfl rfl (by decide +kernel) ⟨Nat.le_of_ble_eq_true rfl, Nat.le_of_ble_eq_true rfl⟩) hN hK hP hD hA hS (fr_ZMp ca B ar o Ad s8) rfl rfl rfl hl.1 rfl (lv_room (Nat.le_of_ble_eq_true rfl)) dL_law_359 ⟨(show _ ≤ 601024 by omega), (show _ ≤ 7293034 by omega)⟩ (fun H locs hP hD hS => ?_)
  refine lv_iload hx hb dL_law_362 (lv_at hl 1 rfl) ?_
  refine lv_icmp_eq (tgt := 369) hx hb dL_law_364 (by decide) (fun c10 => ?_) (fun c10 => ?_)
  · replace hf := it_p c10 hf
    refine lv_iload hx hb dL_law_369 (lv_at hl 1 rfl) ?_
    refine lv_if_ne (tgt := 386) hx hb dL_law_371 (by decide) (fun c11 => ?_) (fun c11 => ?_)
    · replace hf := it_n c11 hf
      refine lv_goto (tgt := 1119) hx hb dL_law_386 (by decide) ?_
      exact z1119 C0 hT hN hX hC hbA hA hK ih _ _ _ _ _ _ _ hf hP hD hS (lv_sub hl [2, 3, 4, 5, 6] rfl) (by omega) (by omega)
    · replace hf := it_p c11 hf
      refine lv_aload_n hx hb dL_law_374 rfl (lv_at hl 5 rfl) ?_
      refine lv_iconst (v := 0) hx hb dL_law_375 (by decide) ?_
      obtain ⟨g12, hf⟩ := gd_ob hf
      refine va_lald hx hb hK hP 20 3 rfl rfl g12 dL_law_376 ?_
      refine lv_iload hx hb dL_law_377 (lv_at hl 0 rfl) ?_
      refine lv_i2l (v := (v6.toInt64)) hx hb dL_law_379 rfl ?_
      refine W.lcmp hx hb dL_law_380 ?_
      refine lv_if_eq (tgt := 386) hx hb dL_law_381 (by decide) (fun c13 => ?_) (fun c13 => ?_)
      · replace hf := it_p c13 hf
        refine lv_goto (tgt := 1119) hx hb dL_law_386 (by decide) ?_
        exact z1119 C0 hT hN hX hC hbA hA hK ih _ _ _ _ _ _ _ hf hP hD hS (lv_sub hl [2, 3, 4, 5, 6] rfl) (by omega) (by omega)
      · replace hf := it_n c13 hf
        refine lv_iconst (v := 0) hx hb dL_law_384 (by decide) ?_
        exact absurd (so1 hf) (by decide)
  · replace hf := it_n c10 hf
    refine lv_iconst (v := 0) hx hb dL_law_367 (by decide) ?_
    exact absurd (so1 hf) (by decide)
def zz_389 (xs : Nat → Int32) (L : Nat) (k23 : LZ → Int32 → Option Int32) (σ : LZ) (l4 : Int32) : Option Int32 :=
  gd (l4 + 1) L <|
  hcl (rx_hasNext (ls_x σ) (xs (l4 + 1).toNatClampNeg)) (fun z => hres 3 3 gB z (ls_out σ)) fun v2 u3 f4 =>
  nm (ls_out' (ls_x' σ u3) f4) fun s6 =>
  gd (l4 + 1) L <|
  bd2 (mm_hasNext (ls_m s6) (xs (l4 + 1).toNatClampNeg)) fun v8 s9 =>
  nm (ls_m' s6 s9) fun s10 =>
  bd (mm_thrown (ls_m s10)) fun v11 =>
  if v11 = v2 then
    if v2 = 0 then
      gd 0 1 <|
      if v8 = 0 then
        if (lg_cmp (ls_out s10 (0 : Int32).toNatClampNeg) 0) = 0 then
          zz_1119 xs L k23 s10 l4
        else
          some 0
      else
        if (lg_cmp (ls_out s10 (0 : Int32).toNatClampNeg) 1) = 0 then
          zz_1119 xs L k23 s10 l4
        else
          some 0
    else
      zz_1119 xs L k23 s10 l4
  else
    some 0
set_option maxHeartbeats 4000000 in
set_option maxRecDepth 100000 in
theorem z389 {p : Program} {l : Launch} {e : Env} {s : State} {m : MethodId} {below : List Frame} {meth : Method} {c : Code} {b L : Nat} {xs : Nat → Int32} {D : va_G} {ca : Nat → ClassId} {B : Nat → Nat} {ar : Nat → Nat → Nat} {o : Nat} {Ad : Nat → Nat} {k23 : LZ → Int32 → Option Int32} {n : Nat} {Q : State → Prop} (C0 : lw_At p s m meth c b L xs) (hT : l.stackTraces = false) (hN : NX s) (hX : HX (fun q : Nat => s.heap.size ≤ q) s s.heap) (hC : NC s) (hbA : ¬ (fun q : Nat => s.heap.size ≤ q) b) (hA : ∀ q : Nat, s.heap.size ≤ q → (fun q : Nat => s.heap.size ≤ q) q) (hK : va_K D vwCl (vt ca) s) (ih : ∀ (H : Heap) (locs : List Loc) (ls : Array Slot) (cells slots : Nat) (σ : LZ) (l4 : Int32), k23 σ l4 = some 1 → va_P D vwCl (wZ ca B ar o Ad σ) H → va_D (fun q : Nat => s.heap.size ≤ q) (wZ ca B ar o Ad σ) → va_S (fun q : Nat => s.heap.size ≤ q) s.heap H locs → lv_has ls 7 [(0, .ref b), (1, .ref (B 0)), (2, .ref (Ad 0)), (3, .ref o), (4, .int l4)] → cells + 3 * n ≤ 601024 → slots + 18 * n ≤ 7293034 → W p l e room_1 s m #[Value.ref b] below meth c H locs cells slots Q (F0 m 23 ls [])) : ∀ (H : Heap) (locs : List Loc) (ls : Array Slot) (cells slots : Nat) (σ : LZ) (l4 : Int32), zz_389 xs L k23 σ l4 = some 1 → va_P D vwCl (wZ ca B ar o Ad σ) H → va_D (fun q : Nat => s.heap.size ≤ q) (wZ ca B ar o Ad σ) → va_S (fun q : Nat => s.heap.size ≤ q) s.heap H locs → lv_has ls 7 [(0, .ref b), (1, .ref (B 0)), (2, .ref (Ad 0)), (3, .ref o), (4, .int l4)] → cells + 3 * (n + 1) ≤ 601024 → slots + 18 * (n + 1) ≤ 7293034 → W p l e room_1 s m #[Value.ref b] below meth c H locs cells slots Q (F0 m 389 ls []) := by
  intro H locs ls cells slots σ l4 hf hP hD hS hl hc9 hs9
  obtain ⟨hx, hb, hr, hml, hown, hts0, hXs, hbl, hlocks, hgv⟩ := id C0
  have hts : ∀ w ∈ wsL_law, w.before #[Value.ref b] s = true := fun w h => hts0 w (wsL_law_in w h)
  unfold zz_389 at hf
  refine lv_aload_n hx hb dL_law_389 rfl (lv_at hl 1 rfl) ?_
  refine lv_aload_n hx hb dL_law_390 rfl (lv_at hl 0 rfl) ?_
  refine lv_iload hx hb dL_law_391 (lv_at hl 4 rfl) ?_
  refine lv_iconst (v := 1) hx hb dL_law_393 (by decide) ?_
  refine lv_iadd hx hb dL_law_394 ?_
  obtain ⟨g1, hf⟩ := gd_ob hf
  refine va_sld hx hb hXs hbl hbA hS g1 dL_law_395 ?_
  refine lv_aload_n hx hb dL_law_396 rfl (lv_at hl 3 rfl) ?_
  obtain ⟨z5, v2, u3, f4, ez5, hz5, hf⟩ := hcl_ob hf
  refine call_h (As := [.ref (B 0), .int (xs (l4 + 1).toNatClampNeg), .ref o]) (rest := []) ⟨hx, hb, hml, hown, hts⟩ (tL_hasNext l hT D ca B ar o _ (ls_x σ) (ls_out σ) (xs (l4 + 1).toNatClampNeg) z5 ez5 v2 u3 f4 hz5) (vx_cwSW 3 hts gL_law_L_hasNext rfl rfl rfl (by decide +kernel) ⟨Nat.le_of_ble_eq_true rfl, Nat.le_of_ble_eq_true rfl⟩) hN hX hC hK hP hD hA hS (fr_ZL ca B ar o Ad σ u3 f4) rfl hl.1 rfl (lv_room (Nat.le_of_ble_eq_true rfl)) dL_law_397 ⟨(show _ ≤ 601024 by omega), (show _ ≤ 7293034 by omega)⟩ (fun H locs hP hD hS => ?_)
  obtain ⟨s6, es6, hf⟩ := nm_ob hf
  have hP : va_P D vwCl (wZ ca B ar o Ad s6) H := by rw [← es6]; exact hP
  have hD : va_D (fun q : Nat => s.heap.size ≤ q) (wZ ca B ar o Ad s6) := by rw [← es6]; exact hD
  refine lv_istore (lv' := [(5, .int v2), (0, .ref b), (1, .ref (B 0)), (2, .ref (Ad 0)), (3, .ref o), (4, .int l4)]) hx hb dL_law_400 hl (by decide) rfl (fun ls hl => ?_)
  refine lv_aload_n hx hb dL_law_402 rfl (lv_at hl 3 rfl) ?_
  refine lv_aload_n hx hb dL_law_403 rfl (lv_at hl 1 rfl) ?_
  refine lv_iload hx hb dL_law_404 (lv_at hl 5 rfl) ?_
  refine lv_iconst (v := 1) hx hb dL_law_406 (by decide) ?_
  refine lv_iadd hx hb dL_law_407 ?_
  obtain ⟨g7, hf⟩ := gd_ob hf
  refine va_sld hx hb hXs hbl hbA hS g7 dL_law_408 ?_
  obtain ⟨v8, s9, ev8, hf⟩ := bd2_ob hf
  refine call_i (As := [.int (xs (l4 + 1).toNatClampNeg)]) (rest := []) ⟨hx, hb, hml, hown, hts⟩ (tX5_hasNext l D ca Ad _ (ls_m s6) (xs (l4 + 1).toNatClampNeg) v8 s9 ev8) (cwV 1 hts gL_law_X5_hasNext rfl rfl rfl (by decide +kernel) ⟨Nat.le_of_ble_eq_true rfl, Nat.le_of_ble_eq_true rfl⟩) hN hK hP hD hA hS (fr_ZM ca B ar o Ad s6 s9) rfl rfl rfl hl.1 rfl (lv_room (Nat.le_of_ble_eq_true rfl)) dL_law_409 ⟨(show _ ≤ 601024 by omega), (show _ ≤ 7293034 by omega)⟩ (fun H locs hP hD hS => ?_)
  obtain ⟨s10, es10, hf⟩ := nm_ob hf
  have hP : va_P D vwCl (wZ ca B ar o Ad s10) H := by rw [← es10]; exact hP
  have hD : va_D (fun q : Nat => s.heap.size ≤ q) (wZ ca B ar o Ad s10) := by rw [← es10]; exact hD
  refine lv_istore (lv' := [(6, .int v8), (5, .int v2), (0, .ref b), (1, .ref (B 0)), (2, .ref (Ad 0)), (3, .ref o), (4, .int l4)]) hx hb dL_law_412 hl (by decide) rfl (fun ls hl => ?_)
  refine lv_aload_n hx hb dL_law_414 rfl (lv_at hl 4 rfl) ?_
  obtain ⟨v11, ev11, hf⟩ := bd_ob hf
  refine call_i (As := []) (rest := []) ⟨hx, hb, hml, hown, hts⟩ (tX5_thrown l D ca Ad _ (ls_m s10) v11 ev11) (cwV 0 hts gL_law_X5_thrown rfl rfl rfl (by decide +kernel) ⟨Nat.le_of_ble_eq_true rfl, Nat.le_of_ble_eq_true rfl⟩) hN hK hP hD hA hS (fr_ZMp ca B ar o Ad s10) rfl rfl rfl hl.1 rfl (lv_room (Nat.le_of_ble_eq_true rfl)) dL_law_415 ⟨(show _ ≤ 601024 by omega), (show _ ≤ 7293034 by omega)⟩ (fun H locs hP hD hS => ?_)
  refine lv_iload hx hb dL_law_418 (lv_at hl 1 rfl) ?_
  refine lv_icmp_eq (tgt := 425) hx hb dL_law_420 (by decide) (fun c12 => ?_) (fun c12 => ?_)
  · replace hf := it_p c12 hf
    refine lv_iload hx hb dL_law_425 (lv_at hl 1 rfl) ?_
    refine lv_if_ne (tgt := 449) hx hb dL_law_427 (by decide) (fun c13 => ?_) (fun c13 => ?_)
    · replace hf := it_n c13 hf
      refine lv_goto (tgt := 1119) hx hb dL_law_449 (by decide) ?_
      exact z1119 C0 hT hN hX hC hbA hA hK ih _ _ _ _ _ _ _ hf hP hD hS (lv_sub hl [2, 3, 4, 5, 6] rfl) (by omega) (by omega)
    · replace hf := it_p c13 hf
      refine lv_aload_n hx hb dL_law_430 rfl (lv_at hl 5 rfl) ?_
      refine lv_iconst (v := 0) hx hb dL_law_431 (by decide) ?_
      obtain ⟨g14, hf⟩ := gd_ob hf
      refine va_lald hx hb hK hP 20 3 rfl rfl g14 dL_law_432 ?_
      refine lv_iload hx hb dL_law_433 (lv_at hl 0 rfl) ?_
      refine lv_if_eq (tgt := 442) hx hb dL_law_435 (by decide) (fun c15 => ?_) (fun c15 => ?_)
      · replace hf := it_p c15 hf
        refine lv_lconst (v := 0) hx hb dL_law_442 (by decide) ?_
        refine W.lcmp hx hb dL_law_443 ?_
        refine lv_if_eq (tgt := 449) hx hb dL_law_444 (by decide) (fun c16 => ?_) (fun c16 => ?_)
        · replace hf := it_p c16 hf
          refine lv_goto (tgt := 1119) hx hb dL_law_449 (by decide) ?_
          exact z1119 C0 hT hN hX hC hbA hA hK ih _ _ _ _ _ _ _ hf hP hD hS (lv_sub hl [2, 3, 4, 5, 6] rfl) (by omega) (by omega)
        · replace hf := it_n c16 hf
          refine lv_iconst (v := 0) hx hb dL_law_447 (by decide) ?_
          exact absurd (so1 hf) (by decide)
      · replace hf := it_n c15 hf
        refine lv_lconst (v := 1) hx hb dL_law_438 (by decide) ?_
        refine lv_goto (tgt := 443) hx hb dL_law_439 (by decide) ?_
        refine W.lcmp hx hb dL_law_443 ?_
        refine lv_if_eq (tgt := 449) hx hb dL_law_444 (by decide) (fun c17 => ?_) (fun c17 => ?_)
        · replace hf := it_p c17 hf
          refine lv_goto (tgt := 1119) hx hb dL_law_449 (by decide) ?_
          exact z1119 C0 hT hN hX hC hbA hA hK ih _ _ _ _ _ _ _ hf hP hD hS (lv_sub hl [2, 3, 4, 5, 6] rfl) (by omega) (by omega)
        · replace hf := it_n c17 hf
          refine lv_iconst (v := 0) hx hb dL_law_447 (by decide) ?_
          exact absurd (so1 hf) (by decide)
  · replace hf := it_n c12 hf
    refine lv_iconst (v := 0) hx hb dL_law_423 (by decide) ?_
    exact absurd (so1 hf) (by decide)
def zz_452 (xs : Nat → Int32) (L : Nat) (k23 : LZ → Int32 → Option Int32) (σ : LZ) (l4 : Int32) : Option Int32 :=
  gd (l4 + 1) L <|
  hcl (rx_next (ls_x σ) (xs (l4 + 1).toNatClampNeg)) (fun z => hres 3 2 Int32.toInt64 z (ls_out σ)) fun v2 u3 f4 =>
  nm (ls_out' (ls_x' σ u3) f4) fun s6 =>
  gd (l4 + 1) L <|
  bd2 (mm_next (ls_m s6) (xs (l4 + 1).toNatClampNeg)) fun v8 s9 =>
  nm (ls_m' s6 s9) fun s10 =>
  bd (mm_thrown (ls_m s10)) fun v11 =>
  if v11 = v2 then
    if v2 = 0 then
      gd 0 1 <|
      if (lg_cmp (ls_out s10 (0 : Int32).toNatClampNeg) (v8.toInt64)) = 0 then
        zz_1119 xs L k23 s10 l4
      else
        some 0
    else
      zz_1119 xs L k23 s10 l4
  else
    some 0
set_option maxHeartbeats 4000000 in
set_option maxRecDepth 100000 in
theorem z452 {p : Program} {l : Launch} {e : Env} {s : State} {m : MethodId} {below : List Frame} {meth : Method} {c : Code} {b L : Nat} {xs : Nat → Int32} {D : va_G} {ca : Nat → ClassId} {B : Nat → Nat} {ar : Nat → Nat → Nat} {o : Nat} {Ad : Nat → Nat} {k23 : LZ → Int32 → Option Int32} {n : Nat} {Q : State → Prop} (C0 : lw_At p s m meth c b L xs) (hT : l.stackTraces = false) (hN : NX s) (hX : HX (fun q : Nat => s.heap.size ≤ q) s s.heap) (hC : NC s) (hbA : ¬ (fun q : Nat => s.heap.size ≤ q) b) (hA : ∀ q : Nat, s.heap.size ≤ q → (fun q : Nat => s.heap.size ≤ q) q) (hK : va_K D vwCl (vt ca) s) (ih : ∀ (H : Heap) (locs : List Loc) (ls : Array Slot) (cells slots : Nat) (σ : LZ) (l4 : Int32), k23 σ l4 = some 1 → va_P D vwCl (wZ ca B ar o Ad σ) H → va_D (fun q : Nat => s.heap.size ≤ q) (wZ ca B ar o Ad σ) → va_S (fun q : Nat => s.heap.size ≤ q) s.heap H locs → lv_has ls 7 [(0, .ref b), (1, .ref (B 0)), (2, .ref (Ad 0)), (3, .ref o), (4, .int l4)] → cells + 3 * n ≤ 601024 → slots + 18 * n ≤ 7293034 → W p l e room_1 s m #[Value.ref b] below meth c H locs cells slots Q (F0 m 23 ls [])) : ∀ (H : Heap) (locs : List Loc) (ls : Array Slot) (cells slots : Nat) (σ : LZ) (l4 : Int32), zz_452 xs L k23 σ l4 = some 1 → va_P D vwCl (wZ ca B ar o Ad σ) H → va_D (fun q : Nat => s.heap.size ≤ q) (wZ ca B ar o Ad σ) → va_S (fun q : Nat => s.heap.size ≤ q) s.heap H locs → lv_has ls 7 [(0, .ref b), (1, .ref (B 0)), (2, .ref (Ad 0)), (3, .ref o), (4, .int l4)] → cells + 3 * (n + 1) ≤ 601024 → slots + 18 * (n + 1) ≤ 7293034 → W p l e room_1 s m #[Value.ref b] below meth c H locs cells slots Q (F0 m 452 ls []) := by
  intro H locs ls cells slots σ l4 hf hP hD hS hl hc9 hs9
  obtain ⟨hx, hb, hr, hml, hown, hts0, hXs, hbl, hlocks, hgv⟩ := id C0
  have hts : ∀ w ∈ wsL_law, w.before #[Value.ref b] s = true := fun w h => hts0 w (wsL_law_in w h)
  unfold zz_452 at hf
  refine lv_aload_n hx hb dL_law_452 rfl (lv_at hl 1 rfl) ?_
  refine lv_aload_n hx hb dL_law_453 rfl (lv_at hl 0 rfl) ?_
  refine lv_iload hx hb dL_law_454 (lv_at hl 4 rfl) ?_
  refine lv_iconst (v := 1) hx hb dL_law_456 (by decide) ?_
  refine lv_iadd hx hb dL_law_457 ?_
  obtain ⟨g1, hf⟩ := gd_ob hf
  refine va_sld hx hb hXs hbl hbA hS g1 dL_law_458 ?_
  refine lv_aload_n hx hb dL_law_459 rfl (lv_at hl 3 rfl) ?_
  obtain ⟨z5, v2, u3, f4, ez5, hz5, hf⟩ := hcl_ob hf
  refine call_h (As := [.ref (B 0), .int (xs (l4 + 1).toNatClampNeg), .ref o]) (rest := []) ⟨hx, hb, hml, hown, hts⟩ (tL_next l hT D ca B ar o _ (ls_x σ) (ls_out σ) (xs (l4 + 1).toNatClampNeg) z5 ez5 v2 u3 f4 hz5) (vx_cwSW 3 hts gL_law_L_next rfl rfl rfl (by decide +kernel) ⟨Nat.le_of_ble_eq_true rfl, Nat.le_of_ble_eq_true rfl⟩) hN hX hC hK hP hD hA hS (fr_ZL ca B ar o Ad σ u3 f4) rfl hl.1 rfl (lv_room (Nat.le_of_ble_eq_true rfl)) dL_law_460 ⟨(show _ ≤ 601024 by omega), (show _ ≤ 7293034 by omega)⟩ (fun H locs hP hD hS => ?_)
  obtain ⟨s6, es6, hf⟩ := nm_ob hf
  have hP : va_P D vwCl (wZ ca B ar o Ad s6) H := by rw [← es6]; exact hP
  have hD : va_D (fun q : Nat => s.heap.size ≤ q) (wZ ca B ar o Ad s6) := by rw [← es6]; exact hD
  refine lv_istore (lv' := [(5, .int v2), (0, .ref b), (1, .ref (B 0)), (2, .ref (Ad 0)), (3, .ref o), (4, .int l4)]) hx hb dL_law_463 hl (by decide) rfl (fun ls hl => ?_)
  refine lv_aload_n hx hb dL_law_465 rfl (lv_at hl 3 rfl) ?_
  refine lv_aload_n hx hb dL_law_466 rfl (lv_at hl 1 rfl) ?_
  refine lv_iload hx hb dL_law_467 (lv_at hl 5 rfl) ?_
  refine lv_iconst (v := 1) hx hb dL_law_469 (by decide) ?_
  refine lv_iadd hx hb dL_law_470 ?_
  obtain ⟨g7, hf⟩ := gd_ob hf
  refine va_sld hx hb hXs hbl hbA hS g7 dL_law_471 ?_
  obtain ⟨v8, s9, ev8, hf⟩ := bd2_ob hf
  refine call_i (As := [.int (xs (l4 + 1).toNatClampNeg)]) (rest := []) ⟨hx, hb, hml, hown, hts⟩ (tX5_next l D ca Ad _ (ls_m s6) (xs (l4 + 1).toNatClampNeg) v8 s9 ev8) (cwV 1 hts gL_law_X5_next rfl rfl rfl (by decide +kernel) ⟨Nat.le_of_ble_eq_true rfl, Nat.le_of_ble_eq_true rfl⟩) hN hK hP hD hA hS (fr_ZM ca B ar o Ad s6 s9) rfl rfl rfl hl.1 rfl (lv_room (Nat.le_of_ble_eq_true rfl)) dL_law_472 ⟨(show _ ≤ 601024 by omega), (show _ ≤ 7293034 by omega)⟩ (fun H locs hP hD hS => ?_)
  obtain ⟨s10, es10, hf⟩ := nm_ob hf
  have hP : va_P D vwCl (wZ ca B ar o Ad s10) H := by rw [← es10]; exact hP
  have hD : va_D (fun q : Nat => s.heap.size ≤ q) (wZ ca B ar o Ad s10) := by rw [← es10]; exact hD
  refine lv_istore (lv' := [(6, .int v8), (5, .int v2), (0, .ref b), (1, .ref (B 0)), (2, .ref (Ad 0)), (3, .ref o), (4, .int l4)]) hx hb dL_law_475 hl (by decide) rfl (fun ls hl => ?_)
  refine lv_aload_n hx hb dL_law_477 rfl (lv_at hl 4 rfl) ?_
  obtain ⟨v11, ev11, hf⟩ := bd_ob hf
  refine call_i (As := []) (rest := []) ⟨hx, hb, hml, hown, hts⟩ (tX5_thrown l D ca Ad _ (ls_m s10) v11 ev11) (cwV 0 hts gL_law_X5_thrown rfl rfl rfl (by decide +kernel) ⟨Nat.le_of_ble_eq_true rfl, Nat.le_of_ble_eq_true rfl⟩) hN hK hP hD hA hS (fr_ZMp ca B ar o Ad s10) rfl rfl rfl hl.1 rfl (lv_room (Nat.le_of_ble_eq_true rfl)) dL_law_478 ⟨(show _ ≤ 601024 by omega), (show _ ≤ 7293034 by omega)⟩ (fun H locs hP hD hS => ?_)
  refine lv_iload hx hb dL_law_481 (lv_at hl 1 rfl) ?_
  refine lv_icmp_eq (tgt := 488) hx hb dL_law_483 (by decide) (fun c12 => ?_) (fun c12 => ?_)
  · replace hf := it_p c12 hf
    refine lv_iload hx hb dL_law_488 (lv_at hl 1 rfl) ?_
    refine lv_if_ne (tgt := 505) hx hb dL_law_490 (by decide) (fun c13 => ?_) (fun c13 => ?_)
    · replace hf := it_n c13 hf
      refine lv_goto (tgt := 1119) hx hb dL_law_505 (by decide) ?_
      exact z1119 C0 hT hN hX hC hbA hA hK ih _ _ _ _ _ _ _ hf hP hD hS (lv_sub hl [2, 3, 4, 5, 6] rfl) (by omega) (by omega)
    · replace hf := it_p c13 hf
      refine lv_aload_n hx hb dL_law_493 rfl (lv_at hl 5 rfl) ?_
      refine lv_iconst (v := 0) hx hb dL_law_494 (by decide) ?_
      obtain ⟨g14, hf⟩ := gd_ob hf
      refine va_lald hx hb hK hP 20 3 rfl rfl g14 dL_law_495 ?_
      refine lv_iload hx hb dL_law_496 (lv_at hl 0 rfl) ?_
      refine lv_i2l (v := (v8.toInt64)) hx hb dL_law_498 rfl ?_
      refine W.lcmp hx hb dL_law_499 ?_
      refine lv_if_eq (tgt := 505) hx hb dL_law_500 (by decide) (fun c15 => ?_) (fun c15 => ?_)
      · replace hf := it_p c15 hf
        refine lv_goto (tgt := 1119) hx hb dL_law_505 (by decide) ?_
        exact z1119 C0 hT hN hX hC hbA hA hK ih _ _ _ _ _ _ _ hf hP hD hS (lv_sub hl [2, 3, 4, 5, 6] rfl) (by omega) (by omega)
      · replace hf := it_n c15 hf
        refine lv_iconst (v := 0) hx hb dL_law_503 (by decide) ?_
        exact absurd (so1 hf) (by decide)
  · replace hf := it_n c12 hf
    refine lv_iconst (v := 0) hx hb dL_law_486 (by decide) ?_
    exact absurd (so1 hf) (by decide)
def zz_508 (xs : Nat → Int32) (L : Nat) (k23 : LZ → Int32 → Option Int32) (σ : LZ) (l4 : Int32) : Option Int32 :=
  gd (l4 + 1) L <|
  hcl (rx_removeMet (ls_x σ) (xs (l4 + 1).toNatClampNeg)) (fun z => hres 3 2 Int32.toInt64 z (ls_out σ)) fun v2 u3 f4 =>
  nm (ls_out' (ls_x' σ u3) f4) fun s6 =>
  gd (l4 + 1) L <|
  bd2 (mm_removeMet (ls_m s6) (xs (l4 + 1).toNatClampNeg)) fun v8 s9 =>
  nm (ls_m' s6 s9) fun s10 =>
  bd (mm_thrown (ls_m s10)) fun v11 =>
  if v11 = v2 then
    if v2 = 0 then
      gd 0 1 <|
      if (lg_cmp (ls_out s10 (0 : Int32).toNatClampNeg) (v8.toInt64)) = 0 then
        zz_1119 xs L k23 s10 l4
      else
        some 0
    else
      zz_1119 xs L k23 s10 l4
  else
    some 0
set_option maxHeartbeats 4000000 in
set_option maxRecDepth 100000 in
theorem z508 {p : Program} {l : Launch} {e : Env} {s : State} {m : MethodId} {below : List Frame} {meth : Method} {c : Code} {b L : Nat} {xs : Nat → Int32} {D : va_G} {ca : Nat → ClassId} {B : Nat → Nat} {ar : Nat → Nat → Nat} {o : Nat} {Ad : Nat → Nat} {k23 : LZ → Int32 → Option Int32} {n : Nat} {Q : State → Prop} (C0 : lw_At p s m meth c b L xs) (hT : l.stackTraces = false) (hN : NX s) (hX : HX (fun q : Nat => s.heap.size ≤ q) s s.heap) (hC : NC s) (hbA : ¬ (fun q : Nat => s.heap.size ≤ q) b) (hA : ∀ q : Nat, s.heap.size ≤ q → (fun q : Nat => s.heap.size ≤ q) q) (hK : va_K D vwCl (vt ca) s) (ih : ∀ (H : Heap) (locs : List Loc) (ls : Array Slot) (cells slots : Nat) (σ : LZ) (l4 : Int32), k23 σ l4 = some 1 → va_P D vwCl (wZ ca B ar o Ad σ) H → va_D (fun q : Nat => s.heap.size ≤ q) (wZ ca B ar o Ad σ) → va_S (fun q : Nat => s.heap.size ≤ q) s.heap H locs → lv_has ls 7 [(0, .ref b), (1, .ref (B 0)), (2, .ref (Ad 0)), (3, .ref o), (4, .int l4)] → cells + 3 * n ≤ 601024 → slots + 18 * n ≤ 7293034 → W p l e room_1 s m #[Value.ref b] below meth c H locs cells slots Q (F0 m 23 ls [])) : ∀ (H : Heap) (locs : List Loc) (ls : Array Slot) (cells slots : Nat) (σ : LZ) (l4 : Int32), zz_508 xs L k23 σ l4 = some 1 → va_P D vwCl (wZ ca B ar o Ad σ) H → va_D (fun q : Nat => s.heap.size ≤ q) (wZ ca B ar o Ad σ) → va_S (fun q : Nat => s.heap.size ≤ q) s.heap H locs → lv_has ls 7 [(0, .ref b), (1, .ref (B 0)), (2, .ref (Ad 0)), (3, .ref o), (4, .int l4)] → cells + 3 * (n + 1) ≤ 601024 → slots + 18 * (n + 1) ≤ 7293034 → W p l e room_1 s m #[Value.ref b] below meth c H locs cells slots Q (F0 m 508 ls []) := by
  intro H locs ls cells slots σ l4 hf hP hD hS hl hc9 hs9
  obtain ⟨hx, hb, hr, hml, hown, hts0, hXs, hbl, hlocks, hgv⟩ := id C0
  have hts : ∀ w ∈ wsL_law, w.before #[Value.ref b] s = true := fun w h => hts0 w (wsL_law_in w h)
  unfold zz_508 at hf
  refine lv_aload_n hx hb dL_law_508 rfl (lv_at hl 1 rfl) ?_
  refine lv_aload_n hx hb dL_law_509 rfl (lv_at hl 0 rfl) ?_
  refine lv_iload hx hb dL_law_510 (lv_at hl 4 rfl) ?_
  refine lv_iconst (v := 1) hx hb dL_law_512 (by decide) ?_
  refine lv_iadd hx hb dL_law_513 ?_
  obtain ⟨g1, hf⟩ := gd_ob hf
  refine va_sld hx hb hXs hbl hbA hS g1 dL_law_514 ?_
  refine lv_aload_n hx hb dL_law_515 rfl (lv_at hl 3 rfl) ?_
  obtain ⟨z5, v2, u3, f4, ez5, hz5, hf⟩ := hcl_ob hf
  refine call_h (As := [.ref (B 0), .int (xs (l4 + 1).toNatClampNeg), .ref o]) (rest := []) ⟨hx, hb, hml, hown, hts⟩ (tL_removeMet l hT D ca B ar o _ (ls_x σ) (ls_out σ) (xs (l4 + 1).toNatClampNeg) z5 ez5 v2 u3 f4 hz5) (vx_cwSW 3 hts gL_law_L_removeMet rfl rfl rfl (by decide +kernel) ⟨Nat.le_of_ble_eq_true rfl, Nat.le_of_ble_eq_true rfl⟩) hN hX hC hK hP hD hA hS (fr_ZL ca B ar o Ad σ u3 f4) rfl hl.1 rfl (lv_room (Nat.le_of_ble_eq_true rfl)) dL_law_516 ⟨(show _ ≤ 601024 by omega), (show _ ≤ 7293034 by omega)⟩ (fun H locs hP hD hS => ?_)
  obtain ⟨s6, es6, hf⟩ := nm_ob hf
  have hP : va_P D vwCl (wZ ca B ar o Ad s6) H := by rw [← es6]; exact hP
  have hD : va_D (fun q : Nat => s.heap.size ≤ q) (wZ ca B ar o Ad s6) := by rw [← es6]; exact hD
  refine lv_istore (lv' := [(5, .int v2), (0, .ref b), (1, .ref (B 0)), (2, .ref (Ad 0)), (3, .ref o), (4, .int l4)]) hx hb dL_law_519 hl (by decide) rfl (fun ls hl => ?_)
  refine lv_aload_n hx hb dL_law_521 rfl (lv_at hl 3 rfl) ?_
  refine lv_aload_n hx hb dL_law_522 rfl (lv_at hl 1 rfl) ?_
  refine lv_iload hx hb dL_law_523 (lv_at hl 5 rfl) ?_
  refine lv_iconst (v := 1) hx hb dL_law_525 (by decide) ?_
  refine lv_iadd hx hb dL_law_526 ?_
  obtain ⟨g7, hf⟩ := gd_ob hf
  refine va_sld hx hb hXs hbl hbA hS g7 dL_law_527 ?_
  obtain ⟨v8, s9, ev8, hf⟩ := bd2_ob hf
  refine call_i (As := [.int (xs (l4 + 1).toNatClampNeg)]) (rest := []) ⟨hx, hb, hml, hown, hts⟩ (tX5_removeMet l D ca Ad _ (ls_m s6) (xs (l4 + 1).toNatClampNeg) v8 s9 ev8) (cwV 1 hts gL_law_X5_removeMet rfl rfl rfl (by decide +kernel) ⟨Nat.le_of_ble_eq_true rfl, Nat.le_of_ble_eq_true rfl⟩) hN hK hP hD hA hS (fr_ZM ca B ar o Ad s6 s9) rfl rfl rfl hl.1 rfl (lv_room (Nat.le_of_ble_eq_true rfl)) dL_law_528 ⟨(show _ ≤ 601024 by omega), (show _ ≤ 7293034 by omega)⟩ (fun H locs hP hD hS => ?_)
  obtain ⟨s10, es10, hf⟩ := nm_ob hf
  have hP : va_P D vwCl (wZ ca B ar o Ad s10) H := by rw [← es10]; exact hP
  have hD : va_D (fun q : Nat => s.heap.size ≤ q) (wZ ca B ar o Ad s10) := by rw [← es10]; exact hD
  refine lv_istore (lv' := [(6, .int v8), (5, .int v2), (0, .ref b), (1, .ref (B 0)), (2, .ref (Ad 0)), (3, .ref o), (4, .int l4)]) hx hb dL_law_531 hl (by decide) rfl (fun ls hl => ?_)
  refine lv_aload_n hx hb dL_law_533 rfl (lv_at hl 4 rfl) ?_
  obtain ⟨v11, ev11, hf⟩ := bd_ob hf
  refine call_i (As := []) (rest := []) ⟨hx, hb, hml, hown, hts⟩ (tX5_thrown l D ca Ad _ (ls_m s10) v11 ev11) (cwV 0 hts gL_law_X5_thrown rfl rfl rfl (by decide +kernel) ⟨Nat.le_of_ble_eq_true rfl, Nat.le_of_ble_eq_true rfl⟩) hN hK hP hD hA hS (fr_ZMp ca B ar o Ad s10) rfl rfl rfl hl.1 rfl (lv_room (Nat.le_of_ble_eq_true rfl)) dL_law_534 ⟨(show _ ≤ 601024 by omega), (show _ ≤ 7293034 by omega)⟩ (fun H locs hP hD hS => ?_)
  refine lv_iload hx hb dL_law_537 (lv_at hl 1 rfl) ?_
  refine lv_icmp_eq (tgt := 544) hx hb dL_law_539 (by decide) (fun c12 => ?_) (fun c12 => ?_)
  · replace hf := it_p c12 hf
    refine lv_iload hx hb dL_law_544 (lv_at hl 1 rfl) ?_
    refine lv_if_ne (tgt := 561) hx hb dL_law_546 (by decide) (fun c13 => ?_) (fun c13 => ?_)
    · replace hf := it_n c13 hf
      refine lv_goto (tgt := 1119) hx hb dL_law_561 (by decide) ?_
      exact z1119 C0 hT hN hX hC hbA hA hK ih _ _ _ _ _ _ _ hf hP hD hS (lv_sub hl [2, 3, 4, 5, 6] rfl) (by omega) (by omega)
    · replace hf := it_p c13 hf
      refine lv_aload_n hx hb dL_law_549 rfl (lv_at hl 5 rfl) ?_
      refine lv_iconst (v := 0) hx hb dL_law_550 (by decide) ?_
      obtain ⟨g14, hf⟩ := gd_ob hf
      refine va_lald hx hb hK hP 20 3 rfl rfl g14 dL_law_551 ?_
      refine lv_iload hx hb dL_law_552 (lv_at hl 0 rfl) ?_
      refine lv_i2l (v := (v8.toInt64)) hx hb dL_law_554 rfl ?_
      refine W.lcmp hx hb dL_law_555 ?_
      refine lv_if_eq (tgt := 561) hx hb dL_law_556 (by decide) (fun c15 => ?_) (fun c15 => ?_)
      · replace hf := it_p c15 hf
        refine lv_goto (tgt := 1119) hx hb dL_law_561 (by decide) ?_
        exact z1119 C0 hT hN hX hC hbA hA hK ih _ _ _ _ _ _ _ hf hP hD hS (lv_sub hl [2, 3, 4, 5, 6] rfl) (by omega) (by omega)
      · replace hf := it_n c15 hf
        refine lv_iconst (v := 0) hx hb dL_law_559 (by decide) ?_
        exact absurd (so1 hf) (by decide)
  · replace hf := it_n c12 hf
    refine lv_iconst (v := 0) hx hb dL_law_542 (by decide) ?_
    exact absurd (so1 hf) (by decide)
def zz_564 (xs : Nat → Int32) (L : Nat) (k23 : LZ → Int32 → Option Int32) (σ : LZ) (l4 : Int32) : Option Int32 :=
  gd (l4 + 1) L <|
  hcl (rx_closeSweep (ls_x σ) (xs (l4 + 1).toNatClampNeg)) (fun z => hres 3 3 Int32.toInt64 z (ls_out σ)) fun v2 u3 f4 =>
  nm (ls_out' (ls_x' σ u3) f4) fun s6 =>
  gd (l4 + 1) L <|
  bd2 (mm_closeSweep (ls_m s6) (xs (l4 + 1).toNatClampNeg)) fun v8 s9 =>
  nm (ls_m' s6 s9) fun s10 =>
  bd (mm_thrown (ls_m s10)) fun v11 =>
  if v11 = v2 then
    if v2 = 0 then
      gd 0 1 <|
      if (lg_cmp (ls_out s10 (0 : Int32).toNatClampNeg) (v8.toInt64)) = 0 then
        zz_1119 xs L k23 s10 l4
      else
        some 0
    else
      zz_1119 xs L k23 s10 l4
  else
    some 0
set_option maxHeartbeats 4000000 in
set_option maxRecDepth 100000 in
theorem z564 {p : Program} {l : Launch} {e : Env} {s : State} {m : MethodId} {below : List Frame} {meth : Method} {c : Code} {b L : Nat} {xs : Nat → Int32} {D : va_G} {ca : Nat → ClassId} {B : Nat → Nat} {ar : Nat → Nat → Nat} {o : Nat} {Ad : Nat → Nat} {k23 : LZ → Int32 → Option Int32} {n : Nat} {Q : State → Prop} (C0 : lw_At p s m meth c b L xs) (hT : l.stackTraces = false) (hN : NX s) (hX : HX (fun q : Nat => s.heap.size ≤ q) s s.heap) (hC : NC s) (hbA : ¬ (fun q : Nat => s.heap.size ≤ q) b) (hA : ∀ q : Nat, s.heap.size ≤ q → (fun q : Nat => s.heap.size ≤ q) q) (hK : va_K D vwCl (vt ca) s) (ih : ∀ (H : Heap) (locs : List Loc) (ls : Array Slot) (cells slots : Nat) (σ : LZ) (l4 : Int32), k23 σ l4 = some 1 → va_P D vwCl (wZ ca B ar o Ad σ) H → va_D (fun q : Nat => s.heap.size ≤ q) (wZ ca B ar o Ad σ) → va_S (fun q : Nat => s.heap.size ≤ q) s.heap H locs → lv_has ls 7 [(0, .ref b), (1, .ref (B 0)), (2, .ref (Ad 0)), (3, .ref o), (4, .int l4)] → cells + 3 * n ≤ 601024 → slots + 18 * n ≤ 7293034 → W p l e room_1 s m #[Value.ref b] below meth c H locs cells slots Q (F0 m 23 ls [])) : ∀ (H : Heap) (locs : List Loc) (ls : Array Slot) (cells slots : Nat) (σ : LZ) (l4 : Int32), zz_564 xs L k23 σ l4 = some 1 → va_P D vwCl (wZ ca B ar o Ad σ) H → va_D (fun q : Nat => s.heap.size ≤ q) (wZ ca B ar o Ad σ) → va_S (fun q : Nat => s.heap.size ≤ q) s.heap H locs → lv_has ls 7 [(0, .ref b), (1, .ref (B 0)), (2, .ref (Ad 0)), (3, .ref o), (4, .int l4)] → cells + 3 * (n + 1) ≤ 601024 → slots + 18 * (n + 1) ≤ 7293034 → W p l e room_1 s m #[Value.ref b] below meth c H locs cells slots Q (F0 m 564 ls []) := by
  intro H locs ls cells slots σ l4 hf hP hD hS hl hc9 hs9
  obtain ⟨hx, hb, hr, hml, hown, hts0, hXs, hbl, hlocks, hgv⟩ := id C0
  have hts : ∀ w ∈ wsL_law, w.before #[Value.ref b] s = true := fun w h => hts0 w (wsL_law_in w h)
  unfold zz_564 at hf
  refine lv_aload_n hx hb dL_law_564 rfl (lv_at hl 1 rfl) ?_
  refine lv_aload_n hx hb dL_law_565 rfl (lv_at hl 0 rfl) ?_
  refine lv_iload hx hb dL_law_566 (lv_at hl 4 rfl) ?_
  refine lv_iconst (v := 1) hx hb dL_law_568 (by decide) ?_
  refine lv_iadd hx hb dL_law_569 ?_
  obtain ⟨g1, hf⟩ := gd_ob hf
  refine va_sld hx hb hXs hbl hbA hS g1 dL_law_570 ?_
  refine lv_aload_n hx hb dL_law_571 rfl (lv_at hl 3 rfl) ?_
  obtain ⟨z5, v2, u3, f4, ez5, hz5, hf⟩ := hcl_ob hf
  refine call_h (As := [.ref (B 0), .int (xs (l4 + 1).toNatClampNeg), .ref o]) (rest := []) ⟨hx, hb, hml, hown, hts⟩ (tL_closeSweep l hT D ca B ar o _ (ls_x σ) (ls_out σ) (xs (l4 + 1).toNatClampNeg) z5 ez5 v2 u3 f4 hz5) (vx_cwSW 3 hts gL_law_L_closeSweep rfl rfl rfl (by decide +kernel) ⟨Nat.le_of_ble_eq_true rfl, Nat.le_of_ble_eq_true rfl⟩) hN hX hC hK hP hD hA hS (fr_ZL ca B ar o Ad σ u3 f4) rfl hl.1 rfl (lv_room (Nat.le_of_ble_eq_true rfl)) dL_law_572 ⟨(show _ ≤ 601024 by omega), (show _ ≤ 7293034 by omega)⟩ (fun H locs hP hD hS => ?_)
  obtain ⟨s6, es6, hf⟩ := nm_ob hf
  have hP : va_P D vwCl (wZ ca B ar o Ad s6) H := by rw [← es6]; exact hP
  have hD : va_D (fun q : Nat => s.heap.size ≤ q) (wZ ca B ar o Ad s6) := by rw [← es6]; exact hD
  refine lv_istore (lv' := [(5, .int v2), (0, .ref b), (1, .ref (B 0)), (2, .ref (Ad 0)), (3, .ref o), (4, .int l4)]) hx hb dL_law_575 hl (by decide) rfl (fun ls hl => ?_)
  refine lv_aload_n hx hb dL_law_577 rfl (lv_at hl 3 rfl) ?_
  refine lv_aload_n hx hb dL_law_578 rfl (lv_at hl 1 rfl) ?_
  refine lv_iload hx hb dL_law_579 (lv_at hl 5 rfl) ?_
  refine lv_iconst (v := 1) hx hb dL_law_581 (by decide) ?_
  refine lv_iadd hx hb dL_law_582 ?_
  obtain ⟨g7, hf⟩ := gd_ob hf
  refine va_sld hx hb hXs hbl hbA hS g7 dL_law_583 ?_
  obtain ⟨v8, s9, ev8, hf⟩ := bd2_ob hf
  refine call_i (As := [.int (xs (l4 + 1).toNatClampNeg)]) (rest := []) ⟨hx, hb, hml, hown, hts⟩ (tX5_closeSweep l D ca Ad _ (ls_m s6) (xs (l4 + 1).toNatClampNeg) v8 s9 ev8) (cwV 1 hts gL_law_X5_closeSweep rfl rfl rfl (by decide +kernel) ⟨Nat.le_of_ble_eq_true rfl, Nat.le_of_ble_eq_true rfl⟩) hN hK hP hD hA hS (fr_ZM ca B ar o Ad s6 s9) rfl rfl rfl hl.1 rfl (lv_room (Nat.le_of_ble_eq_true rfl)) dL_law_584 ⟨(show _ ≤ 601024 by omega), (show _ ≤ 7293034 by omega)⟩ (fun H locs hP hD hS => ?_)
  obtain ⟨s10, es10, hf⟩ := nm_ob hf
  have hP : va_P D vwCl (wZ ca B ar o Ad s10) H := by rw [← es10]; exact hP
  have hD : va_D (fun q : Nat => s.heap.size ≤ q) (wZ ca B ar o Ad s10) := by rw [← es10]; exact hD
  refine lv_istore (lv' := [(6, .int v8), (5, .int v2), (0, .ref b), (1, .ref (B 0)), (2, .ref (Ad 0)), (3, .ref o), (4, .int l4)]) hx hb dL_law_587 hl (by decide) rfl (fun ls hl => ?_)
  refine lv_aload_n hx hb dL_law_589 rfl (lv_at hl 4 rfl) ?_
  obtain ⟨v11, ev11, hf⟩ := bd_ob hf
  refine call_i (As := []) (rest := []) ⟨hx, hb, hml, hown, hts⟩ (tX5_thrown l D ca Ad _ (ls_m s10) v11 ev11) (cwV 0 hts gL_law_X5_thrown rfl rfl rfl (by decide +kernel) ⟨Nat.le_of_ble_eq_true rfl, Nat.le_of_ble_eq_true rfl⟩) hN hK hP hD hA hS (fr_ZMp ca B ar o Ad s10) rfl rfl rfl hl.1 rfl (lv_room (Nat.le_of_ble_eq_true rfl)) dL_law_590 ⟨(show _ ≤ 601024 by omega), (show _ ≤ 7293034 by omega)⟩ (fun H locs hP hD hS => ?_)
  refine lv_iload hx hb dL_law_593 (lv_at hl 1 rfl) ?_
  refine lv_icmp_eq (tgt := 600) hx hb dL_law_595 (by decide) (fun c12 => ?_) (fun c12 => ?_)
  · replace hf := it_p c12 hf
    refine lv_iload hx hb dL_law_600 (lv_at hl 1 rfl) ?_
    refine lv_if_ne (tgt := 617) hx hb dL_law_602 (by decide) (fun c13 => ?_) (fun c13 => ?_)
    · replace hf := it_n c13 hf
      refine lv_goto (tgt := 1119) hx hb dL_law_617 (by decide) ?_
      exact z1119 C0 hT hN hX hC hbA hA hK ih _ _ _ _ _ _ _ hf hP hD hS (lv_sub hl [2, 3, 4, 5, 6] rfl) (by omega) (by omega)
    · replace hf := it_p c13 hf
      refine lv_aload_n hx hb dL_law_605 rfl (lv_at hl 5 rfl) ?_
      refine lv_iconst (v := 0) hx hb dL_law_606 (by decide) ?_
      obtain ⟨g14, hf⟩ := gd_ob hf
      refine va_lald hx hb hK hP 20 3 rfl rfl g14 dL_law_607 ?_
      refine lv_iload hx hb dL_law_608 (lv_at hl 0 rfl) ?_
      refine lv_i2l (v := (v8.toInt64)) hx hb dL_law_610 rfl ?_
      refine W.lcmp hx hb dL_law_611 ?_
      refine lv_if_eq (tgt := 617) hx hb dL_law_612 (by decide) (fun c15 => ?_) (fun c15 => ?_)
      · replace hf := it_p c15 hf
        refine lv_goto (tgt := 1119) hx hb dL_law_617 (by decide) ?_
        exact z1119 C0 hT hN hX hC hbA hA hK ih _ _ _ _ _ _ _ hf hP hD hS (lv_sub hl [2, 3, 4, 5, 6] rfl) (by omega) (by omega)
      · replace hf := it_n c15 hf
        refine lv_iconst (v := 0) hx hb dL_law_615 (by decide) ?_
        exact absurd (so1 hf) (by decide)
  · replace hf := it_n c12 hf
    refine lv_iconst (v := 0) hx hb dL_law_598 (by decide) ?_
    exact absurd (so1 hf) (by decide)
def zz_620 (xs : Nat → Int32) (L : Nat) (k23 : LZ → Int32 → Option Int32) (σ : LZ) (l4 : Int32) : Option Int32 :=
  gd (l4 + 1) L <|
  bd (rr_hash (ls_x σ) (xs (l4 + 1).toNatClampNeg)) fun v2 =>
  gd (l4 + 1) L <|
  bd2 (mm_hash (ls_m σ) (xs (l4 + 1).toNatClampNeg)) fun v4 s5 =>
  nm (ls_m' σ s5) fun s6 =>
  if v2 = v4 then
    zz_1119 xs L k23 s6 l4
  else
    some 0
set_option maxHeartbeats 4000000 in
set_option maxRecDepth 100000 in
theorem z620 {p : Program} {l : Launch} {e : Env} {s : State} {m : MethodId} {below : List Frame} {meth : Method} {c : Code} {b L : Nat} {xs : Nat → Int32} {D : va_G} {ca : Nat → ClassId} {B : Nat → Nat} {ar : Nat → Nat → Nat} {o : Nat} {Ad : Nat → Nat} {k23 : LZ → Int32 → Option Int32} {n : Nat} {Q : State → Prop} (C0 : lw_At p s m meth c b L xs) (hT : l.stackTraces = false) (hN : NX s) (hX : HX (fun q : Nat => s.heap.size ≤ q) s s.heap) (hC : NC s) (hbA : ¬ (fun q : Nat => s.heap.size ≤ q) b) (hA : ∀ q : Nat, s.heap.size ≤ q → (fun q : Nat => s.heap.size ≤ q) q) (hK : va_K D vwCl (vt ca) s) (ih : ∀ (H : Heap) (locs : List Loc) (ls : Array Slot) (cells slots : Nat) (σ : LZ) (l4 : Int32), k23 σ l4 = some 1 → va_P D vwCl (wZ ca B ar o Ad σ) H → va_D (fun q : Nat => s.heap.size ≤ q) (wZ ca B ar o Ad σ) → va_S (fun q : Nat => s.heap.size ≤ q) s.heap H locs → lv_has ls 7 [(0, .ref b), (1, .ref (B 0)), (2, .ref (Ad 0)), (3, .ref o), (4, .int l4)] → cells + 3 * n ≤ 601024 → slots + 18 * n ≤ 7293034 → W p l e room_1 s m #[Value.ref b] below meth c H locs cells slots Q (F0 m 23 ls [])) : ∀ (H : Heap) (locs : List Loc) (ls : Array Slot) (cells slots : Nat) (σ : LZ) (l4 : Int32), zz_620 xs L k23 σ l4 = some 1 → va_P D vwCl (wZ ca B ar o Ad σ) H → va_D (fun q : Nat => s.heap.size ≤ q) (wZ ca B ar o Ad σ) → va_S (fun q : Nat => s.heap.size ≤ q) s.heap H locs → lv_has ls 7 [(0, .ref b), (1, .ref (B 0)), (2, .ref (Ad 0)), (3, .ref o), (4, .int l4)] → cells + 3 * (n + 1) ≤ 601024 → slots + 18 * (n + 1) ≤ 7293034 → W p l e room_1 s m #[Value.ref b] below meth c H locs cells slots Q (F0 m 620 ls []) := by
  intro H locs ls cells slots σ l4 hf hP hD hS hl hc9 hs9
  obtain ⟨hx, hb, hr, hml, hown, hts0, hXs, hbl, hlocks, hgv⟩ := id C0
  have hts : ∀ w ∈ wsL_law, w.before #[Value.ref b] s = true := fun w h => hts0 w (wsL_law_in w h)
  unfold zz_620 at hf
  refine lv_aload_n hx hb dL_law_620 rfl (lv_at hl 1 rfl) ?_
  refine lv_aload_n hx hb dL_law_621 rfl (lv_at hl 0 rfl) ?_
  refine lv_iload hx hb dL_law_622 (lv_at hl 4 rfl) ?_
  refine lv_iconst (v := 1) hx hb dL_law_624 (by decide) ?_
  refine lv_iadd hx hb dL_law_625 ?_
  obtain ⟨g1, hf⟩ := gd_ob hf
  refine va_sld hx hb hXs hbl hbA hS g1 dL_law_626 ?_
  obtain ⟨v2, ev2, hf⟩ := bd_ob hf
  refine call_i (As := [.int (xs (l4 + 1).toNatClampNeg)]) (rest := []) ⟨hx, hb, hml, hown, hts⟩ (tX4_hash l D ca B ar _ (ls_x σ) (xs (l4 + 1).toNatClampNeg) v2 ev2) (cwV 1 hts gL_law_X4_hash rfl rfl rfl (by decide +kernel) ⟨Nat.le_of_ble_eq_true rfl, Nat.le_of_ble_eq_true rfl⟩) hN hK hP hD hA hS (fr_ZXp ca B ar o Ad σ) rfl rfl rfl hl.1 rfl (lv_room (Nat.le_of_ble_eq_true rfl)) dL_law_627 ⟨(show _ ≤ 601024 by omega), (show _ ≤ 7293034 by omega)⟩ (fun H locs hP hD hS => ?_)
  refine lv_aload_n hx hb dL_law_630 rfl (lv_at hl 2 rfl) ?_
  refine lv_aload_n hx hb dL_law_631 rfl (lv_at hl 0 rfl) ?_
  refine lv_iload hx hb dL_law_632 (lv_at hl 4 rfl) ?_
  refine lv_iconst (v := 1) hx hb dL_law_634 (by decide) ?_
  refine lv_iadd hx hb dL_law_635 ?_
  obtain ⟨g3, hf⟩ := gd_ob hf
  refine va_sld hx hb hXs hbl hbA hS g3 dL_law_636 ?_
  obtain ⟨v4, s5, ev4, hf⟩ := bd2_ob hf
  refine call_i (As := [.int (xs (l4 + 1).toNatClampNeg)]) (rest := [.int v2]) ⟨hx, hb, hml, hown, hts⟩ (tX5_hash l D ca Ad _ (ls_m σ) (xs (l4 + 1).toNatClampNeg) v4 s5 ev4) (cwV 1 hts gL_law_X5_hash rfl rfl rfl (by decide +kernel) ⟨Nat.le_of_ble_eq_true rfl, Nat.le_of_ble_eq_true rfl⟩) hN hK hP hD hA hS (fr_ZM ca B ar o Ad σ s5) rfl rfl rfl hl.1 rfl (lv_room (Nat.le_of_ble_eq_true rfl)) dL_law_637 ⟨(show _ ≤ 601024 by omega), (show _ ≤ 7293034 by omega)⟩ (fun H locs hP hD hS => ?_)
  obtain ⟨s6, es6, hf⟩ := nm_ob hf
  have hP : va_P D vwCl (wZ ca B ar o Ad s6) H := by rw [← es6]; exact hP
  have hD : va_D (fun q : Nat => s.heap.size ≤ q) (wZ ca B ar o Ad s6) := by rw [← es6]; exact hD
  refine lv_icmp_eq (tgt := 1119) hx hb dL_law_640 (by decide) (fun c7 => ?_) (fun c7 => ?_)
  · replace hf := it_p c7 hf
    exact z1119 C0 hT hN hX hC hbA hA hK ih _ _ _ _ _ _ _ hf hP hD hS (lv_sub hl [0, 1, 2, 3, 4] rfl) (by omega) (by omega)
  · replace hf := it_n c7 hf
    refine lv_iconst (v := 0) hx hb dL_law_643 (by decide) ?_
    exact absurd (so1 hf) (by decide)
def zz_645 (xs : Nat → Int32) (L : Nat) (k23 : LZ → Int32 → Option Int32) (σ : LZ) (l4 : Int32) : Option Int32 :=
  gd (l4 + 1) L <|
  hcl (rx_slots (ls_x σ) (xs (l4 + 1).toNatClampNeg)) (fun z => hres 3 3 Int32.toInt64 z (ls_out σ)) fun v2 u3 f4 =>
  nm (ls_out' (ls_x' σ u3) f4) fun s6 =>
  gd (l4 + 1) L <|
  bd2 (mm_slots (ls_m s6) (xs (l4 + 1).toNatClampNeg)) fun v8 s9 =>
  nm (ls_m' s6 s9) fun s10 =>
  bd (mm_thrown (ls_m s10)) fun v11 =>
  if v11 = v2 then
    if v2 = 0 then
      gd 0 1 <|
      if (lg_cmp (ls_out s10 (0 : Int32).toNatClampNeg) (v8.toInt64)) = 0 then
        zz_1119 xs L k23 s10 l4
      else
        some 0
    else
      zz_1119 xs L k23 s10 l4
  else
    some 0
set_option maxHeartbeats 4000000 in
set_option maxRecDepth 100000 in
theorem z645 {p : Program} {l : Launch} {e : Env} {s : State} {m : MethodId} {below : List Frame} {meth : Method} {c : Code} {b L : Nat} {xs : Nat → Int32} {D : va_G} {ca : Nat → ClassId} {B : Nat → Nat} {ar : Nat → Nat → Nat} {o : Nat} {Ad : Nat → Nat} {k23 : LZ → Int32 → Option Int32} {n : Nat} {Q : State → Prop} (C0 : lw_At p s m meth c b L xs) (hT : l.stackTraces = false) (hN : NX s) (hX : HX (fun q : Nat => s.heap.size ≤ q) s s.heap) (hC : NC s) (hbA : ¬ (fun q : Nat => s.heap.size ≤ q) b) (hA : ∀ q : Nat, s.heap.size ≤ q → (fun q : Nat => s.heap.size ≤ q) q) (hK : va_K D vwCl (vt ca) s) (ih : ∀ (H : Heap) (locs : List Loc) (ls : Array Slot) (cells slots : Nat) (σ : LZ) (l4 : Int32), k23 σ l4 = some 1 → va_P D vwCl (wZ ca B ar o Ad σ) H → va_D (fun q : Nat => s.heap.size ≤ q) (wZ ca B ar o Ad σ) → va_S (fun q : Nat => s.heap.size ≤ q) s.heap H locs → lv_has ls 7 [(0, .ref b), (1, .ref (B 0)), (2, .ref (Ad 0)), (3, .ref o), (4, .int l4)] → cells + 3 * n ≤ 601024 → slots + 18 * n ≤ 7293034 → W p l e room_1 s m #[Value.ref b] below meth c H locs cells slots Q (F0 m 23 ls [])) : ∀ (H : Heap) (locs : List Loc) (ls : Array Slot) (cells slots : Nat) (σ : LZ) (l4 : Int32), zz_645 xs L k23 σ l4 = some 1 → va_P D vwCl (wZ ca B ar o Ad σ) H → va_D (fun q : Nat => s.heap.size ≤ q) (wZ ca B ar o Ad σ) → va_S (fun q : Nat => s.heap.size ≤ q) s.heap H locs → lv_has ls 7 [(0, .ref b), (1, .ref (B 0)), (2, .ref (Ad 0)), (3, .ref o), (4, .int l4)] → cells + 3 * (n + 1) ≤ 601024 → slots + 18 * (n + 1) ≤ 7293034 → W p l e room_1 s m #[Value.ref b] below meth c H locs cells slots Q (F0 m 645 ls []) := by
  intro H locs ls cells slots σ l4 hf hP hD hS hl hc9 hs9
  obtain ⟨hx, hb, hr, hml, hown, hts0, hXs, hbl, hlocks, hgv⟩ := id C0
  have hts : ∀ w ∈ wsL_law, w.before #[Value.ref b] s = true := fun w h => hts0 w (wsL_law_in w h)
  unfold zz_645 at hf
  refine lv_aload_n hx hb dL_law_645 rfl (lv_at hl 1 rfl) ?_
  refine lv_aload_n hx hb dL_law_646 rfl (lv_at hl 0 rfl) ?_
  refine lv_iload hx hb dL_law_647 (lv_at hl 4 rfl) ?_
  refine lv_iconst (v := 1) hx hb dL_law_649 (by decide) ?_
  refine lv_iadd hx hb dL_law_650 ?_
  obtain ⟨g1, hf⟩ := gd_ob hf
  refine va_sld hx hb hXs hbl hbA hS g1 dL_law_651 ?_
  refine lv_aload_n hx hb dL_law_652 rfl (lv_at hl 3 rfl) ?_
  obtain ⟨z5, v2, u3, f4, ez5, hz5, hf⟩ := hcl_ob hf
  refine call_h (As := [.ref (B 0), .int (xs (l4 + 1).toNatClampNeg), .ref o]) (rest := []) ⟨hx, hb, hml, hown, hts⟩ (tL_slots l hT D ca B ar o _ (ls_x σ) (ls_out σ) (xs (l4 + 1).toNatClampNeg) z5 ez5 v2 u3 f4 hz5) (vx_cwSW 3 hts gL_law_L_slots rfl rfl rfl (by decide +kernel) ⟨Nat.le_of_ble_eq_true rfl, Nat.le_of_ble_eq_true rfl⟩) hN hX hC hK hP hD hA hS (fr_ZL ca B ar o Ad σ u3 f4) rfl hl.1 rfl (lv_room (Nat.le_of_ble_eq_true rfl)) dL_law_653 ⟨(show _ ≤ 601024 by omega), (show _ ≤ 7293034 by omega)⟩ (fun H locs hP hD hS => ?_)
  obtain ⟨s6, es6, hf⟩ := nm_ob hf
  have hP : va_P D vwCl (wZ ca B ar o Ad s6) H := by rw [← es6]; exact hP
  have hD : va_D (fun q : Nat => s.heap.size ≤ q) (wZ ca B ar o Ad s6) := by rw [← es6]; exact hD
  refine lv_istore (lv' := [(5, .int v2), (0, .ref b), (1, .ref (B 0)), (2, .ref (Ad 0)), (3, .ref o), (4, .int l4)]) hx hb dL_law_656 hl (by decide) rfl (fun ls hl => ?_)
  refine lv_aload_n hx hb dL_law_658 rfl (lv_at hl 3 rfl) ?_
  refine lv_aload_n hx hb dL_law_659 rfl (lv_at hl 1 rfl) ?_
  refine lv_iload hx hb dL_law_660 (lv_at hl 5 rfl) ?_
  refine lv_iconst (v := 1) hx hb dL_law_662 (by decide) ?_
  refine lv_iadd hx hb dL_law_663 ?_
  obtain ⟨g7, hf⟩ := gd_ob hf
  refine va_sld hx hb hXs hbl hbA hS g7 dL_law_664 ?_
  obtain ⟨v8, s9, ev8, hf⟩ := bd2_ob hf
  refine call_i (As := [.int (xs (l4 + 1).toNatClampNeg)]) (rest := []) ⟨hx, hb, hml, hown, hts⟩ (tX5_slots l D ca Ad _ (ls_m s6) (xs (l4 + 1).toNatClampNeg) v8 s9 ev8) (cwV 1 hts gL_law_X5_slots rfl rfl rfl (by decide +kernel) ⟨Nat.le_of_ble_eq_true rfl, Nat.le_of_ble_eq_true rfl⟩) hN hK hP hD hA hS (fr_ZM ca B ar o Ad s6 s9) rfl rfl rfl hl.1 rfl (lv_room (Nat.le_of_ble_eq_true rfl)) dL_law_665 ⟨(show _ ≤ 601024 by omega), (show _ ≤ 7293034 by omega)⟩ (fun H locs hP hD hS => ?_)
  obtain ⟨s10, es10, hf⟩ := nm_ob hf
  have hP : va_P D vwCl (wZ ca B ar o Ad s10) H := by rw [← es10]; exact hP
  have hD : va_D (fun q : Nat => s.heap.size ≤ q) (wZ ca B ar o Ad s10) := by rw [← es10]; exact hD
  refine lv_istore (lv' := [(6, .int v8), (5, .int v2), (0, .ref b), (1, .ref (B 0)), (2, .ref (Ad 0)), (3, .ref o), (4, .int l4)]) hx hb dL_law_668 hl (by decide) rfl (fun ls hl => ?_)
  refine lv_aload_n hx hb dL_law_670 rfl (lv_at hl 4 rfl) ?_
  obtain ⟨v11, ev11, hf⟩ := bd_ob hf
  refine call_i (As := []) (rest := []) ⟨hx, hb, hml, hown, hts⟩ (tX5_thrown l D ca Ad _ (ls_m s10) v11 ev11) (cwV 0 hts gL_law_X5_thrown rfl rfl rfl (by decide +kernel) ⟨Nat.le_of_ble_eq_true rfl, Nat.le_of_ble_eq_true rfl⟩) hN hK hP hD hA hS (fr_ZMp ca B ar o Ad s10) rfl rfl rfl hl.1 rfl (lv_room (Nat.le_of_ble_eq_true rfl)) dL_law_671 ⟨(show _ ≤ 601024 by omega), (show _ ≤ 7293034 by omega)⟩ (fun H locs hP hD hS => ?_)
  refine lv_iload hx hb dL_law_674 (lv_at hl 1 rfl) ?_
  refine lv_icmp_eq (tgt := 681) hx hb dL_law_676 (by decide) (fun c12 => ?_) (fun c12 => ?_)
  · replace hf := it_p c12 hf
    refine lv_iload hx hb dL_law_681 (lv_at hl 1 rfl) ?_
    refine lv_if_ne (tgt := 698) hx hb dL_law_683 (by decide) (fun c13 => ?_) (fun c13 => ?_)
    · replace hf := it_n c13 hf
      refine lv_goto (tgt := 1119) hx hb dL_law_698 (by decide) ?_
      exact z1119 C0 hT hN hX hC hbA hA hK ih _ _ _ _ _ _ _ hf hP hD hS (lv_sub hl [2, 3, 4, 5, 6] rfl) (by omega) (by omega)
    · replace hf := it_p c13 hf
      refine lv_aload_n hx hb dL_law_686 rfl (lv_at hl 5 rfl) ?_
      refine lv_iconst (v := 0) hx hb dL_law_687 (by decide) ?_
      obtain ⟨g14, hf⟩ := gd_ob hf
      refine va_lald hx hb hK hP 20 3 rfl rfl g14 dL_law_688 ?_
      refine lv_iload hx hb dL_law_689 (lv_at hl 0 rfl) ?_
      refine lv_i2l (v := (v8.toInt64)) hx hb dL_law_691 rfl ?_
      refine W.lcmp hx hb dL_law_692 ?_
      refine lv_if_eq (tgt := 698) hx hb dL_law_693 (by decide) (fun c15 => ?_) (fun c15 => ?_)
      · replace hf := it_p c15 hf
        refine lv_goto (tgt := 1119) hx hb dL_law_698 (by decide) ?_
        exact z1119 C0 hT hN hX hC hbA hA hK ih _ _ _ _ _ _ _ hf hP hD hS (lv_sub hl [2, 3, 4, 5, 6] rfl) (by omega) (by omega)
      · replace hf := it_n c15 hf
        refine lv_iconst (v := 0) hx hb dL_law_696 (by decide) ?_
        exact absurd (so1 hf) (by decide)
  · replace hf := it_n c12 hf
    refine lv_iconst (v := 0) hx hb dL_law_679 (by decide) ?_
    exact absurd (so1 hf) (by decide)
def zz_701 (xs : Nat → Int32) (L : Nat) (k23 : LZ → Int32 → Option Int32) (σ : LZ) (l4 : Int32) : Option Int32 :=
  gd (l4 + 1) L <|
  hcl (rx_keysIn (ls_x σ) (xs (l4 + 1).toNatClampNeg)) (fun z => hres 3 3 Int32.toInt64 z (ls_out σ)) fun v2 u3 f4 =>
  nm (ls_out' (ls_x' σ u3) f4) fun s6 =>
  gd (l4 + 1) L <|
  bd2 (mm_keysIn (ls_m s6) (xs (l4 + 1).toNatClampNeg)) fun v8 s9 =>
  nm (ls_m' s6 s9) fun s10 =>
  bd (mm_thrown (ls_m s10)) fun v11 =>
  if v11 = v2 then
    if v2 = 0 then
      gd 0 1 <|
      if (lg_cmp (ls_out s10 (0 : Int32).toNatClampNeg) (v8.toInt64)) = 0 then
        zz_1119 xs L k23 s10 l4
      else
        some 0
    else
      zz_1119 xs L k23 s10 l4
  else
    some 0
set_option maxHeartbeats 4000000 in
set_option maxRecDepth 100000 in
theorem z701 {p : Program} {l : Launch} {e : Env} {s : State} {m : MethodId} {below : List Frame} {meth : Method} {c : Code} {b L : Nat} {xs : Nat → Int32} {D : va_G} {ca : Nat → ClassId} {B : Nat → Nat} {ar : Nat → Nat → Nat} {o : Nat} {Ad : Nat → Nat} {k23 : LZ → Int32 → Option Int32} {n : Nat} {Q : State → Prop} (C0 : lw_At p s m meth c b L xs) (hT : l.stackTraces = false) (hN : NX s) (hX : HX (fun q : Nat => s.heap.size ≤ q) s s.heap) (hC : NC s) (hbA : ¬ (fun q : Nat => s.heap.size ≤ q) b) (hA : ∀ q : Nat, s.heap.size ≤ q → (fun q : Nat => s.heap.size ≤ q) q) (hK : va_K D vwCl (vt ca) s) (ih : ∀ (H : Heap) (locs : List Loc) (ls : Array Slot) (cells slots : Nat) (σ : LZ) (l4 : Int32), k23 σ l4 = some 1 → va_P D vwCl (wZ ca B ar o Ad σ) H → va_D (fun q : Nat => s.heap.size ≤ q) (wZ ca B ar o Ad σ) → va_S (fun q : Nat => s.heap.size ≤ q) s.heap H locs → lv_has ls 7 [(0, .ref b), (1, .ref (B 0)), (2, .ref (Ad 0)), (3, .ref o), (4, .int l4)] → cells + 3 * n ≤ 601024 → slots + 18 * n ≤ 7293034 → W p l e room_1 s m #[Value.ref b] below meth c H locs cells slots Q (F0 m 23 ls [])) : ∀ (H : Heap) (locs : List Loc) (ls : Array Slot) (cells slots : Nat) (σ : LZ) (l4 : Int32), zz_701 xs L k23 σ l4 = some 1 → va_P D vwCl (wZ ca B ar o Ad σ) H → va_D (fun q : Nat => s.heap.size ≤ q) (wZ ca B ar o Ad σ) → va_S (fun q : Nat => s.heap.size ≤ q) s.heap H locs → lv_has ls 7 [(0, .ref b), (1, .ref (B 0)), (2, .ref (Ad 0)), (3, .ref o), (4, .int l4)] → cells + 3 * (n + 1) ≤ 601024 → slots + 18 * (n + 1) ≤ 7293034 → W p l e room_1 s m #[Value.ref b] below meth c H locs cells slots Q (F0 m 701 ls []) := by
  intro H locs ls cells slots σ l4 hf hP hD hS hl hc9 hs9
  obtain ⟨hx, hb, hr, hml, hown, hts0, hXs, hbl, hlocks, hgv⟩ := id C0
  have hts : ∀ w ∈ wsL_law, w.before #[Value.ref b] s = true := fun w h => hts0 w (wsL_law_in w h)
  unfold zz_701 at hf
  refine lv_aload_n hx hb dL_law_701 rfl (lv_at hl 1 rfl) ?_
  refine lv_aload_n hx hb dL_law_702 rfl (lv_at hl 0 rfl) ?_
  refine lv_iload hx hb dL_law_703 (lv_at hl 4 rfl) ?_
  refine lv_iconst (v := 1) hx hb dL_law_705 (by decide) ?_
  refine lv_iadd hx hb dL_law_706 ?_
  obtain ⟨g1, hf⟩ := gd_ob hf
  refine va_sld hx hb hXs hbl hbA hS g1 dL_law_707 ?_
  refine lv_aload_n hx hb dL_law_708 rfl (lv_at hl 3 rfl) ?_
  obtain ⟨z5, v2, u3, f4, ez5, hz5, hf⟩ := hcl_ob hf
  refine call_h (As := [.ref (B 0), .int (xs (l4 + 1).toNatClampNeg), .ref o]) (rest := []) ⟨hx, hb, hml, hown, hts⟩ (tL_keysIn l hT D ca B ar o _ (ls_x σ) (ls_out σ) (xs (l4 + 1).toNatClampNeg) z5 ez5 v2 u3 f4 hz5) (vx_cwSW 3 hts gL_law_L_keysIn rfl rfl rfl (by decide +kernel) ⟨Nat.le_of_ble_eq_true rfl, Nat.le_of_ble_eq_true rfl⟩) hN hX hC hK hP hD hA hS (fr_ZL ca B ar o Ad σ u3 f4) rfl hl.1 rfl (lv_room (Nat.le_of_ble_eq_true rfl)) dL_law_709 ⟨(show _ ≤ 601024 by omega), (show _ ≤ 7293034 by omega)⟩ (fun H locs hP hD hS => ?_)
  obtain ⟨s6, es6, hf⟩ := nm_ob hf
  have hP : va_P D vwCl (wZ ca B ar o Ad s6) H := by rw [← es6]; exact hP
  have hD : va_D (fun q : Nat => s.heap.size ≤ q) (wZ ca B ar o Ad s6) := by rw [← es6]; exact hD
  refine lv_istore (lv' := [(5, .int v2), (0, .ref b), (1, .ref (B 0)), (2, .ref (Ad 0)), (3, .ref o), (4, .int l4)]) hx hb dL_law_712 hl (by decide) rfl (fun ls hl => ?_)
  refine lv_aload_n hx hb dL_law_714 rfl (lv_at hl 3 rfl) ?_
  refine lv_aload_n hx hb dL_law_715 rfl (lv_at hl 1 rfl) ?_
  refine lv_iload hx hb dL_law_716 (lv_at hl 5 rfl) ?_
  refine lv_iconst (v := 1) hx hb dL_law_718 (by decide) ?_
  refine lv_iadd hx hb dL_law_719 ?_
  obtain ⟨g7, hf⟩ := gd_ob hf
  refine va_sld hx hb hXs hbl hbA hS g7 dL_law_720 ?_
  obtain ⟨v8, s9, ev8, hf⟩ := bd2_ob hf
  refine call_i (As := [.int (xs (l4 + 1).toNatClampNeg)]) (rest := []) ⟨hx, hb, hml, hown, hts⟩ (tX5_keysIn l D ca Ad _ (ls_m s6) (xs (l4 + 1).toNatClampNeg) v8 s9 ev8) (cwV 1 hts gL_law_X5_keysIn rfl rfl rfl (by decide +kernel) ⟨Nat.le_of_ble_eq_true rfl, Nat.le_of_ble_eq_true rfl⟩) hN hK hP hD hA hS (fr_ZM ca B ar o Ad s6 s9) rfl rfl rfl hl.1 rfl (lv_room (Nat.le_of_ble_eq_true rfl)) dL_law_721 ⟨(show _ ≤ 601024 by omega), (show _ ≤ 7293034 by omega)⟩ (fun H locs hP hD hS => ?_)
  obtain ⟨s10, es10, hf⟩ := nm_ob hf
  have hP : va_P D vwCl (wZ ca B ar o Ad s10) H := by rw [← es10]; exact hP
  have hD : va_D (fun q : Nat => s.heap.size ≤ q) (wZ ca B ar o Ad s10) := by rw [← es10]; exact hD
  refine lv_istore (lv' := [(6, .int v8), (5, .int v2), (0, .ref b), (1, .ref (B 0)), (2, .ref (Ad 0)), (3, .ref o), (4, .int l4)]) hx hb dL_law_724 hl (by decide) rfl (fun ls hl => ?_)
  refine lv_aload_n hx hb dL_law_726 rfl (lv_at hl 4 rfl) ?_
  obtain ⟨v11, ev11, hf⟩ := bd_ob hf
  refine call_i (As := []) (rest := []) ⟨hx, hb, hml, hown, hts⟩ (tX5_thrown l D ca Ad _ (ls_m s10) v11 ev11) (cwV 0 hts gL_law_X5_thrown rfl rfl rfl (by decide +kernel) ⟨Nat.le_of_ble_eq_true rfl, Nat.le_of_ble_eq_true rfl⟩) hN hK hP hD hA hS (fr_ZMp ca B ar o Ad s10) rfl rfl rfl hl.1 rfl (lv_room (Nat.le_of_ble_eq_true rfl)) dL_law_727 ⟨(show _ ≤ 601024 by omega), (show _ ≤ 7293034 by omega)⟩ (fun H locs hP hD hS => ?_)
  refine lv_iload hx hb dL_law_730 (lv_at hl 1 rfl) ?_
  refine lv_icmp_eq (tgt := 737) hx hb dL_law_732 (by decide) (fun c12 => ?_) (fun c12 => ?_)
  · replace hf := it_p c12 hf
    refine lv_iload hx hb dL_law_737 (lv_at hl 1 rfl) ?_
    refine lv_if_ne (tgt := 754) hx hb dL_law_739 (by decide) (fun c13 => ?_) (fun c13 => ?_)
    · replace hf := it_n c13 hf
      refine lv_goto (tgt := 1119) hx hb dL_law_754 (by decide) ?_
      exact z1119 C0 hT hN hX hC hbA hA hK ih _ _ _ _ _ _ _ hf hP hD hS (lv_sub hl [2, 3, 4, 5, 6] rfl) (by omega) (by omega)
    · replace hf := it_p c13 hf
      refine lv_aload_n hx hb dL_law_742 rfl (lv_at hl 5 rfl) ?_
      refine lv_iconst (v := 0) hx hb dL_law_743 (by decide) ?_
      obtain ⟨g14, hf⟩ := gd_ob hf
      refine va_lald hx hb hK hP 20 3 rfl rfl g14 dL_law_744 ?_
      refine lv_iload hx hb dL_law_745 (lv_at hl 0 rfl) ?_
      refine lv_i2l (v := (v8.toInt64)) hx hb dL_law_747 rfl ?_
      refine W.lcmp hx hb dL_law_748 ?_
      refine lv_if_eq (tgt := 754) hx hb dL_law_749 (by decide) (fun c15 => ?_) (fun c15 => ?_)
      · replace hf := it_p c15 hf
        refine lv_goto (tgt := 1119) hx hb dL_law_754 (by decide) ?_
        exact z1119 C0 hT hN hX hC hbA hA hK ih _ _ _ _ _ _ _ hf hP hD hS (lv_sub hl [2, 3, 4, 5, 6] rfl) (by omega) (by omega)
      · replace hf := it_n c15 hf
        refine lv_iconst (v := 0) hx hb dL_law_752 (by decide) ?_
        exact absurd (so1 hf) (by decide)
  · replace hf := it_n c12 hf
    refine lv_iconst (v := 0) hx hb dL_law_735 (by decide) ?_
    exact absurd (so1 hf) (by decide)
def zz_757 (xs : Nat → Int32) (L : Nat) (k23 : LZ → Int32 → Option Int32) (σ : LZ) (l4 : Int32) : Option Int32 :=
  gd (l4 + 1) L <|
  gd (l4 + 2) L <|
  hcl (rx_control (ls_x σ) (xs (l4 + 1).toNatClampNeg) (xs (l4 + 2).toNatClampNeg)) (fun z => hres 3 3 Int32.toInt64 z (ls_out σ)) fun v3 u4 f5 =>
  nm (ls_out' (ls_x' σ u4) f5) fun s7 =>
  gd (l4 + 1) L <|
  gd (l4 + 2) L <|
  bd2 (mm_control (ls_m s7) (xs (l4 + 1).toNatClampNeg) (xs (l4 + 2).toNatClampNeg)) fun v10 s11 =>
  nm (ls_m' s7 s11) fun s12 =>
  bd (mm_thrown (ls_m s12)) fun v13 =>
  if v13 = v3 then
    if v3 = 0 then
      gd 0 1 <|
      if (lg_cmp (ls_out s12 (0 : Int32).toNatClampNeg) (v10.toInt64)) = 0 then
        zz_1119 xs L k23 s12 l4
      else
        some 0
    else
      zz_1119 xs L k23 s12 l4
  else
    some 0
set_option maxHeartbeats 4000000 in
set_option maxRecDepth 100000 in
theorem z757 {p : Program} {l : Launch} {e : Env} {s : State} {m : MethodId} {below : List Frame} {meth : Method} {c : Code} {b L : Nat} {xs : Nat → Int32} {D : va_G} {ca : Nat → ClassId} {B : Nat → Nat} {ar : Nat → Nat → Nat} {o : Nat} {Ad : Nat → Nat} {k23 : LZ → Int32 → Option Int32} {n : Nat} {Q : State → Prop} (C0 : lw_At p s m meth c b L xs) (hT : l.stackTraces = false) (hN : NX s) (hX : HX (fun q : Nat => s.heap.size ≤ q) s s.heap) (hC : NC s) (hbA : ¬ (fun q : Nat => s.heap.size ≤ q) b) (hA : ∀ q : Nat, s.heap.size ≤ q → (fun q : Nat => s.heap.size ≤ q) q) (hK : va_K D vwCl (vt ca) s) (ih : ∀ (H : Heap) (locs : List Loc) (ls : Array Slot) (cells slots : Nat) (σ : LZ) (l4 : Int32), k23 σ l4 = some 1 → va_P D vwCl (wZ ca B ar o Ad σ) H → va_D (fun q : Nat => s.heap.size ≤ q) (wZ ca B ar o Ad σ) → va_S (fun q : Nat => s.heap.size ≤ q) s.heap H locs → lv_has ls 7 [(0, .ref b), (1, .ref (B 0)), (2, .ref (Ad 0)), (3, .ref o), (4, .int l4)] → cells + 3 * n ≤ 601024 → slots + 18 * n ≤ 7293034 → W p l e room_1 s m #[Value.ref b] below meth c H locs cells slots Q (F0 m 23 ls [])) : ∀ (H : Heap) (locs : List Loc) (ls : Array Slot) (cells slots : Nat) (σ : LZ) (l4 : Int32), zz_757 xs L k23 σ l4 = some 1 → va_P D vwCl (wZ ca B ar o Ad σ) H → va_D (fun q : Nat => s.heap.size ≤ q) (wZ ca B ar o Ad σ) → va_S (fun q : Nat => s.heap.size ≤ q) s.heap H locs → lv_has ls 7 [(0, .ref b), (1, .ref (B 0)), (2, .ref (Ad 0)), (3, .ref o), (4, .int l4)] → cells + 3 * (n + 1) ≤ 601024 → slots + 18 * (n + 1) ≤ 7293034 → W p l e room_1 s m #[Value.ref b] below meth c H locs cells slots Q (F0 m 757 ls []) := by
  intro H locs ls cells slots σ l4 hf hP hD hS hl hc9 hs9
  obtain ⟨hx, hb, hr, hml, hown, hts0, hXs, hbl, hlocks, hgv⟩ := id C0
  have hts : ∀ w ∈ wsL_law, w.before #[Value.ref b] s = true := fun w h => hts0 w (wsL_law_in w h)
  unfold zz_757 at hf
  refine lv_aload_n hx hb dL_law_757 rfl (lv_at hl 1 rfl) ?_
  refine lv_aload_n hx hb dL_law_758 rfl (lv_at hl 0 rfl) ?_
  refine lv_iload hx hb dL_law_759 (lv_at hl 4 rfl) ?_
  refine lv_iconst (v := 1) hx hb dL_law_761 (by decide) ?_
  refine lv_iadd hx hb dL_law_762 ?_
  obtain ⟨g1, hf⟩ := gd_ob hf
  refine va_sld hx hb hXs hbl hbA hS g1 dL_law_763 ?_
  refine lv_aload_n hx hb dL_law_764 rfl (lv_at hl 0 rfl) ?_
  refine lv_iload hx hb dL_law_765 (lv_at hl 4 rfl) ?_
  refine lv_iconst (v := 2) hx hb dL_law_767 (by decide) ?_
  refine lv_iadd hx hb dL_law_768 ?_
  obtain ⟨g2, hf⟩ := gd_ob hf
  refine va_sld hx hb hXs hbl hbA hS g2 dL_law_769 ?_
  refine lv_aload_n hx hb dL_law_770 rfl (lv_at hl 3 rfl) ?_
  obtain ⟨z6, v3, u4, f5, ez6, hz6, hf⟩ := hcl_ob hf
  refine call_h (As := [.ref (B 0), .int (xs (l4 + 1).toNatClampNeg), .int (xs (l4 + 2).toNatClampNeg), .ref o]) (rest := []) ⟨hx, hb, hml, hown, hts⟩ (tL_control l hT D ca B ar o _ (ls_x σ) (ls_out σ) (xs (l4 + 1).toNatClampNeg) (xs (l4 + 2).toNatClampNeg) z6 ez6 v3 u4 f5 hz6) (vx_cwSW 4 hts gL_law_L_control rfl rfl rfl (by decide +kernel) ⟨Nat.le_of_ble_eq_true rfl, Nat.le_of_ble_eq_true rfl⟩) hN hX hC hK hP hD hA hS (fr_ZL ca B ar o Ad σ u4 f5) rfl hl.1 rfl (lv_room (Nat.le_of_ble_eq_true rfl)) dL_law_771 ⟨(show _ ≤ 601024 by omega), (show _ ≤ 7293034 by omega)⟩ (fun H locs hP hD hS => ?_)
  obtain ⟨s7, es7, hf⟩ := nm_ob hf
  have hP : va_P D vwCl (wZ ca B ar o Ad s7) H := by rw [← es7]; exact hP
  have hD : va_D (fun q : Nat => s.heap.size ≤ q) (wZ ca B ar o Ad s7) := by rw [← es7]; exact hD
  refine lv_istore (lv' := [(5, .int v3), (0, .ref b), (1, .ref (B 0)), (2, .ref (Ad 0)), (3, .ref o), (4, .int l4)]) hx hb dL_law_774 hl (by decide) rfl (fun ls hl => ?_)
  refine lv_aload_n hx hb dL_law_776 rfl (lv_at hl 3 rfl) ?_
  refine lv_aload_n hx hb dL_law_777 rfl (lv_at hl 1 rfl) ?_
  refine lv_iload hx hb dL_law_778 (lv_at hl 5 rfl) ?_
  refine lv_iconst (v := 1) hx hb dL_law_780 (by decide) ?_
  refine lv_iadd hx hb dL_law_781 ?_
  obtain ⟨g8, hf⟩ := gd_ob hf
  refine va_sld hx hb hXs hbl hbA hS g8 dL_law_782 ?_
  refine lv_aload_n hx hb dL_law_783 rfl (lv_at hl 1 rfl) ?_
  refine lv_iload hx hb dL_law_784 (lv_at hl 5 rfl) ?_
  refine lv_iconst (v := 2) hx hb dL_law_786 (by decide) ?_
  refine lv_iadd hx hb dL_law_787 ?_
  obtain ⟨g9, hf⟩ := gd_ob hf
  refine va_sld hx hb hXs hbl hbA hS g9 dL_law_788 ?_
  obtain ⟨v10, s11, ev10, hf⟩ := bd2_ob hf
  refine call_i (As := [.int (xs (l4 + 1).toNatClampNeg), .int (xs (l4 + 2).toNatClampNeg)]) (rest := []) ⟨hx, hb, hml, hown, hts⟩ (tX5_control l D ca Ad _ (ls_m s7) (xs (l4 + 1).toNatClampNeg) (xs (l4 + 2).toNatClampNeg) v10 s11 ev10) (cwV 2 hts gL_law_X5_control rfl rfl rfl (by decide +kernel) ⟨Nat.le_of_ble_eq_true rfl, Nat.le_of_ble_eq_true rfl⟩) hN hK hP hD hA hS (fr_ZM ca B ar o Ad s7 s11) rfl rfl rfl hl.1 rfl (lv_room (Nat.le_of_ble_eq_true rfl)) dL_law_789 ⟨(show _ ≤ 601024 by omega), (show _ ≤ 7293034 by omega)⟩ (fun H locs hP hD hS => ?_)
  obtain ⟨s12, es12, hf⟩ := nm_ob hf
  have hP : va_P D vwCl (wZ ca B ar o Ad s12) H := by rw [← es12]; exact hP
  have hD : va_D (fun q : Nat => s.heap.size ≤ q) (wZ ca B ar o Ad s12) := by rw [← es12]; exact hD
  refine lv_istore (lv' := [(6, .int v10), (5, .int v3), (0, .ref b), (1, .ref (B 0)), (2, .ref (Ad 0)), (3, .ref o), (4, .int l4)]) hx hb dL_law_792 hl (by decide) rfl (fun ls hl => ?_)
  refine lv_aload_n hx hb dL_law_794 rfl (lv_at hl 4 rfl) ?_
  obtain ⟨v13, ev13, hf⟩ := bd_ob hf
  refine call_i (As := []) (rest := []) ⟨hx, hb, hml, hown, hts⟩ (tX5_thrown l D ca Ad _ (ls_m s12) v13 ev13) (cwV 0 hts gL_law_X5_thrown rfl rfl rfl (by decide +kernel) ⟨Nat.le_of_ble_eq_true rfl, Nat.le_of_ble_eq_true rfl⟩) hN hK hP hD hA hS (fr_ZMp ca B ar o Ad s12) rfl rfl rfl hl.1 rfl (lv_room (Nat.le_of_ble_eq_true rfl)) dL_law_795 ⟨(show _ ≤ 601024 by omega), (show _ ≤ 7293034 by omega)⟩ (fun H locs hP hD hS => ?_)
  refine lv_iload hx hb dL_law_798 (lv_at hl 1 rfl) ?_
  refine lv_icmp_eq (tgt := 805) hx hb dL_law_800 (by decide) (fun c14 => ?_) (fun c14 => ?_)
  · replace hf := it_p c14 hf
    refine lv_iload hx hb dL_law_805 (lv_at hl 1 rfl) ?_
    refine lv_if_ne (tgt := 822) hx hb dL_law_807 (by decide) (fun c15 => ?_) (fun c15 => ?_)
    · replace hf := it_n c15 hf
      refine lv_goto (tgt := 1119) hx hb dL_law_822 (by decide) ?_
      exact z1119 C0 hT hN hX hC hbA hA hK ih _ _ _ _ _ _ _ hf hP hD hS (lv_sub hl [2, 3, 4, 5, 6] rfl) (by omega) (by omega)
    · replace hf := it_p c15 hf
      refine lv_aload_n hx hb dL_law_810 rfl (lv_at hl 5 rfl) ?_
      refine lv_iconst (v := 0) hx hb dL_law_811 (by decide) ?_
      obtain ⟨g16, hf⟩ := gd_ob hf
      refine va_lald hx hb hK hP 20 3 rfl rfl g16 dL_law_812 ?_
      refine lv_iload hx hb dL_law_813 (lv_at hl 0 rfl) ?_
      refine lv_i2l (v := (v10.toInt64)) hx hb dL_law_815 rfl ?_
      refine W.lcmp hx hb dL_law_816 ?_
      refine lv_if_eq (tgt := 822) hx hb dL_law_817 (by decide) (fun c17 => ?_) (fun c17 => ?_)
      · replace hf := it_p c17 hf
        refine lv_goto (tgt := 1119) hx hb dL_law_822 (by decide) ?_
        exact z1119 C0 hT hN hX hC hbA hA hK ih _ _ _ _ _ _ _ hf hP hD hS (lv_sub hl [2, 3, 4, 5, 6] rfl) (by omega) (by omega)
      · replace hf := it_n c17 hf
        refine lv_iconst (v := 0) hx hb dL_law_820 (by decide) ?_
        exact absurd (so1 hf) (by decide)
  · replace hf := it_n c14 hf
    refine lv_iconst (v := 0) hx hb dL_law_803 (by decide) ?_
    exact absurd (so1 hf) (by decide)
def zz_825 (xs : Nat → Int32) (L : Nat) (k23 : LZ → Int32 → Option Int32) (σ : LZ) (l4 : Int32) : Option Int32 :=
  gd (l4 + 1) L <|
  gd (l4 + 2) L <|
  hcl (rx_keyAt (ls_x σ) (xs (l4 + 1).toNatClampNeg) (xs (l4 + 2).toNatClampNeg)) (fun z => hres 3 2 Int32.toInt64 z (ls_out σ)) fun v3 u4 f5 =>
  nm (ls_out' (ls_x' σ u4) f5) fun s7 =>
  gd (l4 + 1) L <|
  gd (l4 + 2) L <|
  bd2 (mm_keyAt (ls_m s7) (xs (l4 + 1).toNatClampNeg) (xs (l4 + 2).toNatClampNeg)) fun v10 s11 =>
  nm (ls_m' s7 s11) fun s12 =>
  bd (mm_thrown (ls_m s12)) fun v13 =>
  if v13 = v3 then
    if v3 = 0 then
      gd 0 1 <|
      if (lg_cmp (ls_out s12 (0 : Int32).toNatClampNeg) (v10.toInt64)) = 0 then
        zz_1119 xs L k23 s12 l4
      else
        some 0
    else
      zz_1119 xs L k23 s12 l4
  else
    some 0
set_option maxHeartbeats 4000000 in
set_option maxRecDepth 100000 in
theorem z825 {p : Program} {l : Launch} {e : Env} {s : State} {m : MethodId} {below : List Frame} {meth : Method} {c : Code} {b L : Nat} {xs : Nat → Int32} {D : va_G} {ca : Nat → ClassId} {B : Nat → Nat} {ar : Nat → Nat → Nat} {o : Nat} {Ad : Nat → Nat} {k23 : LZ → Int32 → Option Int32} {n : Nat} {Q : State → Prop} (C0 : lw_At p s m meth c b L xs) (hT : l.stackTraces = false) (hN : NX s) (hX : HX (fun q : Nat => s.heap.size ≤ q) s s.heap) (hC : NC s) (hbA : ¬ (fun q : Nat => s.heap.size ≤ q) b) (hA : ∀ q : Nat, s.heap.size ≤ q → (fun q : Nat => s.heap.size ≤ q) q) (hK : va_K D vwCl (vt ca) s) (ih : ∀ (H : Heap) (locs : List Loc) (ls : Array Slot) (cells slots : Nat) (σ : LZ) (l4 : Int32), k23 σ l4 = some 1 → va_P D vwCl (wZ ca B ar o Ad σ) H → va_D (fun q : Nat => s.heap.size ≤ q) (wZ ca B ar o Ad σ) → va_S (fun q : Nat => s.heap.size ≤ q) s.heap H locs → lv_has ls 7 [(0, .ref b), (1, .ref (B 0)), (2, .ref (Ad 0)), (3, .ref o), (4, .int l4)] → cells + 3 * n ≤ 601024 → slots + 18 * n ≤ 7293034 → W p l e room_1 s m #[Value.ref b] below meth c H locs cells slots Q (F0 m 23 ls [])) : ∀ (H : Heap) (locs : List Loc) (ls : Array Slot) (cells slots : Nat) (σ : LZ) (l4 : Int32), zz_825 xs L k23 σ l4 = some 1 → va_P D vwCl (wZ ca B ar o Ad σ) H → va_D (fun q : Nat => s.heap.size ≤ q) (wZ ca B ar o Ad σ) → va_S (fun q : Nat => s.heap.size ≤ q) s.heap H locs → lv_has ls 7 [(0, .ref b), (1, .ref (B 0)), (2, .ref (Ad 0)), (3, .ref o), (4, .int l4)] → cells + 3 * (n + 1) ≤ 601024 → slots + 18 * (n + 1) ≤ 7293034 → W p l e room_1 s m #[Value.ref b] below meth c H locs cells slots Q (F0 m 825 ls []) := by
  intro H locs ls cells slots σ l4 hf hP hD hS hl hc9 hs9
  obtain ⟨hx, hb, hr, hml, hown, hts0, hXs, hbl, hlocks, hgv⟩ := id C0
  have hts : ∀ w ∈ wsL_law, w.before #[Value.ref b] s = true := fun w h => hts0 w (wsL_law_in w h)
  unfold zz_825 at hf
  refine lv_aload_n hx hb dL_law_825 rfl (lv_at hl 1 rfl) ?_
  refine lv_aload_n hx hb dL_law_826 rfl (lv_at hl 0 rfl) ?_
  refine lv_iload hx hb dL_law_827 (lv_at hl 4 rfl) ?_
  refine lv_iconst (v := 1) hx hb dL_law_829 (by decide) ?_
  refine lv_iadd hx hb dL_law_830 ?_
  obtain ⟨g1, hf⟩ := gd_ob hf
  refine va_sld hx hb hXs hbl hbA hS g1 dL_law_831 ?_
  refine lv_aload_n hx hb dL_law_832 rfl (lv_at hl 0 rfl) ?_
  refine lv_iload hx hb dL_law_833 (lv_at hl 4 rfl) ?_
  refine lv_iconst (v := 2) hx hb dL_law_835 (by decide) ?_
  refine lv_iadd hx hb dL_law_836 ?_
  obtain ⟨g2, hf⟩ := gd_ob hf
  refine va_sld hx hb hXs hbl hbA hS g2 dL_law_837 ?_
  refine lv_aload_n hx hb dL_law_838 rfl (lv_at hl 3 rfl) ?_
  obtain ⟨z6, v3, u4, f5, ez6, hz6, hf⟩ := hcl_ob hf
  refine call_h (As := [.ref (B 0), .int (xs (l4 + 1).toNatClampNeg), .int (xs (l4 + 2).toNatClampNeg), .ref o]) (rest := []) ⟨hx, hb, hml, hown, hts⟩ (tL_keyAt l hT D ca B ar o _ (ls_x σ) (ls_out σ) (xs (l4 + 1).toNatClampNeg) (xs (l4 + 2).toNatClampNeg) z6 ez6 v3 u4 f5 hz6) (vx_cwSW 4 hts gL_law_L_keyAt rfl rfl rfl (by decide +kernel) ⟨Nat.le_of_ble_eq_true rfl, Nat.le_of_ble_eq_true rfl⟩) hN hX hC hK hP hD hA hS (fr_ZL ca B ar o Ad σ u4 f5) rfl hl.1 rfl (lv_room (Nat.le_of_ble_eq_true rfl)) dL_law_839 ⟨(show _ ≤ 601024 by omega), (show _ ≤ 7293034 by omega)⟩ (fun H locs hP hD hS => ?_)
  obtain ⟨s7, es7, hf⟩ := nm_ob hf
  have hP : va_P D vwCl (wZ ca B ar o Ad s7) H := by rw [← es7]; exact hP
  have hD : va_D (fun q : Nat => s.heap.size ≤ q) (wZ ca B ar o Ad s7) := by rw [← es7]; exact hD
  refine lv_istore (lv' := [(5, .int v3), (0, .ref b), (1, .ref (B 0)), (2, .ref (Ad 0)), (3, .ref o), (4, .int l4)]) hx hb dL_law_842 hl (by decide) rfl (fun ls hl => ?_)
  refine lv_aload_n hx hb dL_law_844 rfl (lv_at hl 3 rfl) ?_
  refine lv_aload_n hx hb dL_law_845 rfl (lv_at hl 1 rfl) ?_
  refine lv_iload hx hb dL_law_846 (lv_at hl 5 rfl) ?_
  refine lv_iconst (v := 1) hx hb dL_law_848 (by decide) ?_
  refine lv_iadd hx hb dL_law_849 ?_
  obtain ⟨g8, hf⟩ := gd_ob hf
  refine va_sld hx hb hXs hbl hbA hS g8 dL_law_850 ?_
  refine lv_aload_n hx hb dL_law_851 rfl (lv_at hl 1 rfl) ?_
  refine lv_iload hx hb dL_law_852 (lv_at hl 5 rfl) ?_
  refine lv_iconst (v := 2) hx hb dL_law_854 (by decide) ?_
  refine lv_iadd hx hb dL_law_855 ?_
  obtain ⟨g9, hf⟩ := gd_ob hf
  refine va_sld hx hb hXs hbl hbA hS g9 dL_law_856 ?_
  obtain ⟨v10, s11, ev10, hf⟩ := bd2_ob hf
  refine call_i (As := [.int (xs (l4 + 1).toNatClampNeg), .int (xs (l4 + 2).toNatClampNeg)]) (rest := []) ⟨hx, hb, hml, hown, hts⟩ (tX5_keyAt l D ca Ad _ (ls_m s7) (xs (l4 + 1).toNatClampNeg) (xs (l4 + 2).toNatClampNeg) v10 s11 ev10) (cwV 2 hts gL_law_X5_keyAt rfl rfl rfl (by decide +kernel) ⟨Nat.le_of_ble_eq_true rfl, Nat.le_of_ble_eq_true rfl⟩) hN hK hP hD hA hS (fr_ZM ca B ar o Ad s7 s11) rfl rfl rfl hl.1 rfl (lv_room (Nat.le_of_ble_eq_true rfl)) dL_law_857 ⟨(show _ ≤ 601024 by omega), (show _ ≤ 7293034 by omega)⟩ (fun H locs hP hD hS => ?_)
  obtain ⟨s12, es12, hf⟩ := nm_ob hf
  have hP : va_P D vwCl (wZ ca B ar o Ad s12) H := by rw [← es12]; exact hP
  have hD : va_D (fun q : Nat => s.heap.size ≤ q) (wZ ca B ar o Ad s12) := by rw [← es12]; exact hD
  refine lv_istore (lv' := [(6, .int v10), (5, .int v3), (0, .ref b), (1, .ref (B 0)), (2, .ref (Ad 0)), (3, .ref o), (4, .int l4)]) hx hb dL_law_860 hl (by decide) rfl (fun ls hl => ?_)
  refine lv_aload_n hx hb dL_law_862 rfl (lv_at hl 4 rfl) ?_
  obtain ⟨v13, ev13, hf⟩ := bd_ob hf
  refine call_i (As := []) (rest := []) ⟨hx, hb, hml, hown, hts⟩ (tX5_thrown l D ca Ad _ (ls_m s12) v13 ev13) (cwV 0 hts gL_law_X5_thrown rfl rfl rfl (by decide +kernel) ⟨Nat.le_of_ble_eq_true rfl, Nat.le_of_ble_eq_true rfl⟩) hN hK hP hD hA hS (fr_ZMp ca B ar o Ad s12) rfl rfl rfl hl.1 rfl (lv_room (Nat.le_of_ble_eq_true rfl)) dL_law_863 ⟨(show _ ≤ 601024 by omega), (show _ ≤ 7293034 by omega)⟩ (fun H locs hP hD hS => ?_)
  refine lv_iload hx hb dL_law_866 (lv_at hl 1 rfl) ?_
  refine lv_icmp_eq (tgt := 873) hx hb dL_law_868 (by decide) (fun c14 => ?_) (fun c14 => ?_)
  · replace hf := it_p c14 hf
    refine lv_iload hx hb dL_law_873 (lv_at hl 1 rfl) ?_
    refine lv_if_ne (tgt := 890) hx hb dL_law_875 (by decide) (fun c15 => ?_) (fun c15 => ?_)
    · replace hf := it_n c15 hf
      refine lv_goto (tgt := 1119) hx hb dL_law_890 (by decide) ?_
      exact z1119 C0 hT hN hX hC hbA hA hK ih _ _ _ _ _ _ _ hf hP hD hS (lv_sub hl [2, 3, 4, 5, 6] rfl) (by omega) (by omega)
    · replace hf := it_p c15 hf
      refine lv_aload_n hx hb dL_law_878 rfl (lv_at hl 5 rfl) ?_
      refine lv_iconst (v := 0) hx hb dL_law_879 (by decide) ?_
      obtain ⟨g16, hf⟩ := gd_ob hf
      refine va_lald hx hb hK hP 20 3 rfl rfl g16 dL_law_880 ?_
      refine lv_iload hx hb dL_law_881 (lv_at hl 0 rfl) ?_
      refine lv_i2l (v := (v10.toInt64)) hx hb dL_law_883 rfl ?_
      refine W.lcmp hx hb dL_law_884 ?_
      refine lv_if_eq (tgt := 890) hx hb dL_law_885 (by decide) (fun c17 => ?_) (fun c17 => ?_)
      · replace hf := it_p c17 hf
        refine lv_goto (tgt := 1119) hx hb dL_law_890 (by decide) ?_
        exact z1119 C0 hT hN hX hC hbA hA hK ih _ _ _ _ _ _ _ hf hP hD hS (lv_sub hl [2, 3, 4, 5, 6] rfl) (by omega) (by omega)
      · replace hf := it_n c17 hf
        refine lv_iconst (v := 0) hx hb dL_law_888 (by decide) ?_
        exact absurd (so1 hf) (by decide)
  · replace hf := it_n c14 hf
    refine lv_iconst (v := 0) hx hb dL_law_871 (by decide) ?_
    exact absurd (so1 hf) (by decide)
def zz_893 (xs : Nat → Int32) (L : Nat) (k23 : LZ → Int32 → Option Int32) (σ : LZ) (l4 : Int32) : Option Int32 :=
  gd (l4 + 1) L <|
  gd (l4 + 2) L <|
  hcl (rx_distanceAt (ls_x σ) (xs (l4 + 1).toNatClampNeg) (xs (l4 + 2).toNatClampNeg)) (fun z => hres 3 3 Int32.toInt64 z (ls_out σ)) fun v3 u4 f5 =>
  nm (ls_out' (ls_x' σ u4) f5) fun s7 =>
  gd (l4 + 1) L <|
  gd (l4 + 2) L <|
  bd2 (mm_distanceAt (ls_m s7) (xs (l4 + 1).toNatClampNeg) (xs (l4 + 2).toNatClampNeg)) fun v10 s11 =>
  nm (ls_m' s7 s11) fun s12 =>
  bd (mm_thrown (ls_m s12)) fun v13 =>
  if v13 = v3 then
    if v3 = 0 then
      gd 0 1 <|
      if (lg_cmp (ls_out s12 (0 : Int32).toNatClampNeg) (v10.toInt64)) = 0 then
        zz_1119 xs L k23 s12 l4
      else
        some 0
    else
      zz_1119 xs L k23 s12 l4
  else
    some 0
set_option maxHeartbeats 4000000 in
set_option maxRecDepth 100000 in
theorem z893 {p : Program} {l : Launch} {e : Env} {s : State} {m : MethodId} {below : List Frame} {meth : Method} {c : Code} {b L : Nat} {xs : Nat → Int32} {D : va_G} {ca : Nat → ClassId} {B : Nat → Nat} {ar : Nat → Nat → Nat} {o : Nat} {Ad : Nat → Nat} {k23 : LZ → Int32 → Option Int32} {n : Nat} {Q : State → Prop} (C0 : lw_At p s m meth c b L xs) (hT : l.stackTraces = false) (hN : NX s) (hX : HX (fun q : Nat => s.heap.size ≤ q) s s.heap) (hC : NC s) (hbA : ¬ (fun q : Nat => s.heap.size ≤ q) b) (hA : ∀ q : Nat, s.heap.size ≤ q → (fun q : Nat => s.heap.size ≤ q) q) (hK : va_K D vwCl (vt ca) s) (ih : ∀ (H : Heap) (locs : List Loc) (ls : Array Slot) (cells slots : Nat) (σ : LZ) (l4 : Int32), k23 σ l4 = some 1 → va_P D vwCl (wZ ca B ar o Ad σ) H → va_D (fun q : Nat => s.heap.size ≤ q) (wZ ca B ar o Ad σ) → va_S (fun q : Nat => s.heap.size ≤ q) s.heap H locs → lv_has ls 7 [(0, .ref b), (1, .ref (B 0)), (2, .ref (Ad 0)), (3, .ref o), (4, .int l4)] → cells + 3 * n ≤ 601024 → slots + 18 * n ≤ 7293034 → W p l e room_1 s m #[Value.ref b] below meth c H locs cells slots Q (F0 m 23 ls [])) : ∀ (H : Heap) (locs : List Loc) (ls : Array Slot) (cells slots : Nat) (σ : LZ) (l4 : Int32), zz_893 xs L k23 σ l4 = some 1 → va_P D vwCl (wZ ca B ar o Ad σ) H → va_D (fun q : Nat => s.heap.size ≤ q) (wZ ca B ar o Ad σ) → va_S (fun q : Nat => s.heap.size ≤ q) s.heap H locs → lv_has ls 7 [(0, .ref b), (1, .ref (B 0)), (2, .ref (Ad 0)), (3, .ref o), (4, .int l4)] → cells + 3 * (n + 1) ≤ 601024 → slots + 18 * (n + 1) ≤ 7293034 → W p l e room_1 s m #[Value.ref b] below meth c H locs cells slots Q (F0 m 893 ls []) := by
  intro H locs ls cells slots σ l4 hf hP hD hS hl hc9 hs9
  obtain ⟨hx, hb, hr, hml, hown, hts0, hXs, hbl, hlocks, hgv⟩ := id C0
  have hts : ∀ w ∈ wsL_law, w.before #[Value.ref b] s = true := fun w h => hts0 w (wsL_law_in w h)
  unfold zz_893 at hf
  refine lv_aload_n hx hb dL_law_893 rfl (lv_at hl 1 rfl) ?_
  refine lv_aload_n hx hb dL_law_894 rfl (lv_at hl 0 rfl) ?_
  refine lv_iload hx hb dL_law_895 (lv_at hl 4 rfl) ?_
  refine lv_iconst (v := 1) hx hb dL_law_897 (by decide) ?_
  refine lv_iadd hx hb dL_law_898 ?_
  obtain ⟨g1, hf⟩ := gd_ob hf
  refine va_sld hx hb hXs hbl hbA hS g1 dL_law_899 ?_
  refine lv_aload_n hx hb dL_law_900 rfl (lv_at hl 0 rfl) ?_
  refine lv_iload hx hb dL_law_901 (lv_at hl 4 rfl) ?_
  refine lv_iconst (v := 2) hx hb dL_law_903 (by decide) ?_
  refine lv_iadd hx hb dL_law_904 ?_
  obtain ⟨g2, hf⟩ := gd_ob hf
  refine va_sld hx hb hXs hbl hbA hS g2 dL_law_905 ?_
  refine lv_aload_n hx hb dL_law_906 rfl (lv_at hl 3 rfl) ?_
  obtain ⟨z6, v3, u4, f5, ez6, hz6, hf⟩ := hcl_ob hf
  refine call_h (As := [.ref (B 0), .int (xs (l4 + 1).toNatClampNeg), .int (xs (l4 + 2).toNatClampNeg), .ref o]) (rest := []) ⟨hx, hb, hml, hown, hts⟩ (tL_distanceAt l hT D ca B ar o _ (ls_x σ) (ls_out σ) (xs (l4 + 1).toNatClampNeg) (xs (l4 + 2).toNatClampNeg) z6 ez6 v3 u4 f5 hz6) (vx_cwSW 4 hts gL_law_L_distanceAt rfl rfl rfl (by decide +kernel) ⟨Nat.le_of_ble_eq_true rfl, Nat.le_of_ble_eq_true rfl⟩) hN hX hC hK hP hD hA hS (fr_ZL ca B ar o Ad σ u4 f5) rfl hl.1 rfl (lv_room (Nat.le_of_ble_eq_true rfl)) dL_law_907 ⟨(show _ ≤ 601024 by omega), (show _ ≤ 7293034 by omega)⟩ (fun H locs hP hD hS => ?_)
  obtain ⟨s7, es7, hf⟩ := nm_ob hf
  have hP : va_P D vwCl (wZ ca B ar o Ad s7) H := by rw [← es7]; exact hP
  have hD : va_D (fun q : Nat => s.heap.size ≤ q) (wZ ca B ar o Ad s7) := by rw [← es7]; exact hD
  refine lv_istore (lv' := [(5, .int v3), (0, .ref b), (1, .ref (B 0)), (2, .ref (Ad 0)), (3, .ref o), (4, .int l4)]) hx hb dL_law_910 hl (by decide) rfl (fun ls hl => ?_)
  refine lv_aload_n hx hb dL_law_912 rfl (lv_at hl 3 rfl) ?_
  refine lv_aload_n hx hb dL_law_913 rfl (lv_at hl 1 rfl) ?_
  refine lv_iload hx hb dL_law_914 (lv_at hl 5 rfl) ?_
  refine lv_iconst (v := 1) hx hb dL_law_916 (by decide) ?_
  refine lv_iadd hx hb dL_law_917 ?_
  obtain ⟨g8, hf⟩ := gd_ob hf
  refine va_sld hx hb hXs hbl hbA hS g8 dL_law_918 ?_
  refine lv_aload_n hx hb dL_law_919 rfl (lv_at hl 1 rfl) ?_
  refine lv_iload hx hb dL_law_920 (lv_at hl 5 rfl) ?_
  refine lv_iconst (v := 2) hx hb dL_law_922 (by decide) ?_
  refine lv_iadd hx hb dL_law_923 ?_
  obtain ⟨g9, hf⟩ := gd_ob hf
  refine va_sld hx hb hXs hbl hbA hS g9 dL_law_924 ?_
  obtain ⟨v10, s11, ev10, hf⟩ := bd2_ob hf
  refine call_i (As := [.int (xs (l4 + 1).toNatClampNeg), .int (xs (l4 + 2).toNatClampNeg)]) (rest := []) ⟨hx, hb, hml, hown, hts⟩ (tX5_distanceAt l D ca Ad _ (ls_m s7) (xs (l4 + 1).toNatClampNeg) (xs (l4 + 2).toNatClampNeg) v10 s11 ev10) (cwV 2 hts gL_law_X5_distanceAt rfl rfl rfl (by decide +kernel) ⟨Nat.le_of_ble_eq_true rfl, Nat.le_of_ble_eq_true rfl⟩) hN hK hP hD hA hS (fr_ZM ca B ar o Ad s7 s11) rfl rfl rfl hl.1 rfl (lv_room (Nat.le_of_ble_eq_true rfl)) dL_law_925 ⟨(show _ ≤ 601024 by omega), (show _ ≤ 7293034 by omega)⟩ (fun H locs hP hD hS => ?_)
  obtain ⟨s12, es12, hf⟩ := nm_ob hf
  have hP : va_P D vwCl (wZ ca B ar o Ad s12) H := by rw [← es12]; exact hP
  have hD : va_D (fun q : Nat => s.heap.size ≤ q) (wZ ca B ar o Ad s12) := by rw [← es12]; exact hD
  refine lv_istore (lv' := [(6, .int v10), (5, .int v3), (0, .ref b), (1, .ref (B 0)), (2, .ref (Ad 0)), (3, .ref o), (4, .int l4)]) hx hb dL_law_928 hl (by decide) rfl (fun ls hl => ?_)
  refine lv_aload_n hx hb dL_law_930 rfl (lv_at hl 4 rfl) ?_
  obtain ⟨v13, ev13, hf⟩ := bd_ob hf
  refine call_i (As := []) (rest := []) ⟨hx, hb, hml, hown, hts⟩ (tX5_thrown l D ca Ad _ (ls_m s12) v13 ev13) (cwV 0 hts gL_law_X5_thrown rfl rfl rfl (by decide +kernel) ⟨Nat.le_of_ble_eq_true rfl, Nat.le_of_ble_eq_true rfl⟩) hN hK hP hD hA hS (fr_ZMp ca B ar o Ad s12) rfl rfl rfl hl.1 rfl (lv_room (Nat.le_of_ble_eq_true rfl)) dL_law_931 ⟨(show _ ≤ 601024 by omega), (show _ ≤ 7293034 by omega)⟩ (fun H locs hP hD hS => ?_)
  refine lv_iload hx hb dL_law_934 (lv_at hl 1 rfl) ?_
  refine lv_icmp_eq (tgt := 941) hx hb dL_law_936 (by decide) (fun c14 => ?_) (fun c14 => ?_)
  · replace hf := it_p c14 hf
    refine lv_iload hx hb dL_law_941 (lv_at hl 1 rfl) ?_
    refine lv_if_ne (tgt := 958) hx hb dL_law_943 (by decide) (fun c15 => ?_) (fun c15 => ?_)
    · replace hf := it_n c15 hf
      refine lv_goto (tgt := 1119) hx hb dL_law_958 (by decide) ?_
      exact z1119 C0 hT hN hX hC hbA hA hK ih _ _ _ _ _ _ _ hf hP hD hS (lv_sub hl [2, 3, 4, 5, 6] rfl) (by omega) (by omega)
    · replace hf := it_p c15 hf
      refine lv_aload_n hx hb dL_law_946 rfl (lv_at hl 5 rfl) ?_
      refine lv_iconst (v := 0) hx hb dL_law_947 (by decide) ?_
      obtain ⟨g16, hf⟩ := gd_ob hf
      refine va_lald hx hb hK hP 20 3 rfl rfl g16 dL_law_948 ?_
      refine lv_iload hx hb dL_law_949 (lv_at hl 0 rfl) ?_
      refine lv_i2l (v := (v10.toInt64)) hx hb dL_law_951 rfl ?_
      refine W.lcmp hx hb dL_law_952 ?_
      refine lv_if_eq (tgt := 958) hx hb dL_law_953 (by decide) (fun c17 => ?_) (fun c17 => ?_)
      · replace hf := it_p c17 hf
        refine lv_goto (tgt := 1119) hx hb dL_law_958 (by decide) ?_
        exact z1119 C0 hT hN hX hC hbA hA hK ih _ _ _ _ _ _ _ hf hP hD hS (lv_sub hl [2, 3, 4, 5, 6] rfl) (by omega) (by omega)
      · replace hf := it_n c17 hf
        refine lv_iconst (v := 0) hx hb dL_law_956 (by decide) ?_
        exact absurd (so1 hf) (by decide)
  · replace hf := it_n c14 hf
    refine lv_iconst (v := 0) hx hb dL_law_939 (by decide) ?_
    exact absurd (so1 hf) (by decide)
def zz_961 (xs : Nat → Int32) (L : Nat) (k23 : LZ → Int32 → Option Int32) (σ : LZ) (l4 : Int32) : Option Int32 :=
  bd (rr_longest (ls_x σ)) fun v1 =>
  bd2 (mm_longest (ls_m σ)) fun v2 s3 =>
  nm (ls_m' σ s3) fun s4 =>
  if v1 = v2 then
    zz_1119 xs L k23 s4 l4
  else
    some 0
set_option maxHeartbeats 4000000 in
set_option maxRecDepth 100000 in
theorem z961 {p : Program} {l : Launch} {e : Env} {s : State} {m : MethodId} {below : List Frame} {meth : Method} {c : Code} {b L : Nat} {xs : Nat → Int32} {D : va_G} {ca : Nat → ClassId} {B : Nat → Nat} {ar : Nat → Nat → Nat} {o : Nat} {Ad : Nat → Nat} {k23 : LZ → Int32 → Option Int32} {n : Nat} {Q : State → Prop} (C0 : lw_At p s m meth c b L xs) (hT : l.stackTraces = false) (hN : NX s) (hX : HX (fun q : Nat => s.heap.size ≤ q) s s.heap) (hC : NC s) (hbA : ¬ (fun q : Nat => s.heap.size ≤ q) b) (hA : ∀ q : Nat, s.heap.size ≤ q → (fun q : Nat => s.heap.size ≤ q) q) (hK : va_K D vwCl (vt ca) s) (ih : ∀ (H : Heap) (locs : List Loc) (ls : Array Slot) (cells slots : Nat) (σ : LZ) (l4 : Int32), k23 σ l4 = some 1 → va_P D vwCl (wZ ca B ar o Ad σ) H → va_D (fun q : Nat => s.heap.size ≤ q) (wZ ca B ar o Ad σ) → va_S (fun q : Nat => s.heap.size ≤ q) s.heap H locs → lv_has ls 7 [(0, .ref b), (1, .ref (B 0)), (2, .ref (Ad 0)), (3, .ref o), (4, .int l4)] → cells + 3 * n ≤ 601024 → slots + 18 * n ≤ 7293034 → W p l e room_1 s m #[Value.ref b] below meth c H locs cells slots Q (F0 m 23 ls [])) : ∀ (H : Heap) (locs : List Loc) (ls : Array Slot) (cells slots : Nat) (σ : LZ) (l4 : Int32), zz_961 xs L k23 σ l4 = some 1 → va_P D vwCl (wZ ca B ar o Ad σ) H → va_D (fun q : Nat => s.heap.size ≤ q) (wZ ca B ar o Ad σ) → va_S (fun q : Nat => s.heap.size ≤ q) s.heap H locs → lv_has ls 7 [(0, .ref b), (1, .ref (B 0)), (2, .ref (Ad 0)), (3, .ref o), (4, .int l4)] → cells + 3 * (n + 1) ≤ 601024 → slots + 18 * (n + 1) ≤ 7293034 → W p l e room_1 s m #[Value.ref b] below meth c H locs cells slots Q (F0 m 961 ls []) := by
  intro H locs ls cells slots σ l4 hf hP hD hS hl hc9 hs9
  obtain ⟨hx, hb, hr, hml, hown, hts0, hXs, hbl, hlocks, hgv⟩ := id C0
  have hts : ∀ w ∈ wsL_law, w.before #[Value.ref b] s = true := fun w h => hts0 w (wsL_law_in w h)
  unfold zz_961 at hf
  refine lv_aload_n hx hb dL_law_961 rfl (lv_at hl 1 rfl) ?_
  obtain ⟨v1, ev1, hf⟩ := bd_ob hf
  refine call_i (As := []) (rest := []) ⟨hx, hb, hml, hown, hts⟩ (tX4_longest l D ca B ar _ (ls_x σ) v1 ev1) (cwV 0 hts gL_law_X4_longest rfl rfl rfl (by decide +kernel) ⟨Nat.le_of_ble_eq_true rfl, Nat.le_of_ble_eq_true rfl⟩) hN hK hP hD hA hS (fr_ZXp ca B ar o Ad σ) rfl rfl rfl hl.1 rfl (lv_room (Nat.le_of_ble_eq_true rfl)) dL_law_962 ⟨(show _ ≤ 601024 by omega), (show _ ≤ 7293034 by omega)⟩ (fun H locs hP hD hS => ?_)
  refine lv_aload_n hx hb dL_law_965 rfl (lv_at hl 2 rfl) ?_
  obtain ⟨v2, s3, ev2, hf⟩ := bd2_ob hf
  refine call_i (As := []) (rest := [.int v1]) ⟨hx, hb, hml, hown, hts⟩ (tX5_longest l D ca Ad _ (ls_m σ) v2 s3 ev2) (cwV 0 hts gL_law_X5_longest rfl rfl rfl (by decide +kernel) ⟨Nat.le_of_ble_eq_true rfl, Nat.le_of_ble_eq_true rfl⟩) hN hK hP hD hA hS (fr_ZM ca B ar o Ad σ s3) rfl rfl rfl hl.1 rfl (lv_room (Nat.le_of_ble_eq_true rfl)) dL_law_966 ⟨(show _ ≤ 601024 by omega), (show _ ≤ 7293034 by omega)⟩ (fun H locs hP hD hS => ?_)
  obtain ⟨s4, es4, hf⟩ := nm_ob hf
  have hP : va_P D vwCl (wZ ca B ar o Ad s4) H := by rw [← es4]; exact hP
  have hD : va_D (fun q : Nat => s.heap.size ≤ q) (wZ ca B ar o Ad s4) := by rw [← es4]; exact hD
  refine lv_icmp_eq (tgt := 1119) hx hb dL_law_969 (by decide) (fun c5 => ?_) (fun c5 => ?_)
  · replace hf := it_p c5 hf
    exact z1119 C0 hT hN hX hC hbA hA hK ih _ _ _ _ _ _ _ hf hP hD hS (lv_sub hl [0, 1, 2, 3, 4] rfl) (by omega) (by omega)
  · replace hf := it_n c5 hf
    refine lv_iconst (v := 0) hx hb dL_law_972 (by decide) ?_
    exact absurd (so1 hf) (by decide)
def zz_974 (xs : Nat → Int32) (L : Nat) (k23 : LZ → Int32 → Option Int32) (σ : LZ) (l4 : Int32) : Option Int32 :=
  bd (rr_total (ls_x σ)) fun v1 =>
  bd2 (mm_total (ls_m σ)) fun v2 s3 =>
  nm (ls_m' σ s3) fun s4 =>
  if v1 = v2 then
    zz_1119 xs L k23 s4 l4
  else
    some 0
set_option maxHeartbeats 4000000 in
set_option maxRecDepth 100000 in
theorem z974 {p : Program} {l : Launch} {e : Env} {s : State} {m : MethodId} {below : List Frame} {meth : Method} {c : Code} {b L : Nat} {xs : Nat → Int32} {D : va_G} {ca : Nat → ClassId} {B : Nat → Nat} {ar : Nat → Nat → Nat} {o : Nat} {Ad : Nat → Nat} {k23 : LZ → Int32 → Option Int32} {n : Nat} {Q : State → Prop} (C0 : lw_At p s m meth c b L xs) (hT : l.stackTraces = false) (hN : NX s) (hX : HX (fun q : Nat => s.heap.size ≤ q) s s.heap) (hC : NC s) (hbA : ¬ (fun q : Nat => s.heap.size ≤ q) b) (hA : ∀ q : Nat, s.heap.size ≤ q → (fun q : Nat => s.heap.size ≤ q) q) (hK : va_K D vwCl (vt ca) s) (ih : ∀ (H : Heap) (locs : List Loc) (ls : Array Slot) (cells slots : Nat) (σ : LZ) (l4 : Int32), k23 σ l4 = some 1 → va_P D vwCl (wZ ca B ar o Ad σ) H → va_D (fun q : Nat => s.heap.size ≤ q) (wZ ca B ar o Ad σ) → va_S (fun q : Nat => s.heap.size ≤ q) s.heap H locs → lv_has ls 7 [(0, .ref b), (1, .ref (B 0)), (2, .ref (Ad 0)), (3, .ref o), (4, .int l4)] → cells + 3 * n ≤ 601024 → slots + 18 * n ≤ 7293034 → W p l e room_1 s m #[Value.ref b] below meth c H locs cells slots Q (F0 m 23 ls [])) : ∀ (H : Heap) (locs : List Loc) (ls : Array Slot) (cells slots : Nat) (σ : LZ) (l4 : Int32), zz_974 xs L k23 σ l4 = some 1 → va_P D vwCl (wZ ca B ar o Ad σ) H → va_D (fun q : Nat => s.heap.size ≤ q) (wZ ca B ar o Ad σ) → va_S (fun q : Nat => s.heap.size ≤ q) s.heap H locs → lv_has ls 7 [(0, .ref b), (1, .ref (B 0)), (2, .ref (Ad 0)), (3, .ref o), (4, .int l4)] → cells + 3 * (n + 1) ≤ 601024 → slots + 18 * (n + 1) ≤ 7293034 → W p l e room_1 s m #[Value.ref b] below meth c H locs cells slots Q (F0 m 974 ls []) := by
  intro H locs ls cells slots σ l4 hf hP hD hS hl hc9 hs9
  obtain ⟨hx, hb, hr, hml, hown, hts0, hXs, hbl, hlocks, hgv⟩ := id C0
  have hts : ∀ w ∈ wsL_law, w.before #[Value.ref b] s = true := fun w h => hts0 w (wsL_law_in w h)
  unfold zz_974 at hf
  refine lv_aload_n hx hb dL_law_974 rfl (lv_at hl 1 rfl) ?_
  obtain ⟨v1, ev1, hf⟩ := bd_ob hf
  refine call_i (As := []) (rest := []) ⟨hx, hb, hml, hown, hts⟩ (tX4_total l D ca B ar _ (ls_x σ) v1 ev1) (cwV 0 hts gL_law_X4_total rfl rfl rfl (by decide +kernel) ⟨Nat.le_of_ble_eq_true rfl, Nat.le_of_ble_eq_true rfl⟩) hN hK hP hD hA hS (fr_ZXp ca B ar o Ad σ) rfl rfl rfl hl.1 rfl (lv_room (Nat.le_of_ble_eq_true rfl)) dL_law_975 ⟨(show _ ≤ 601024 by omega), (show _ ≤ 7293034 by omega)⟩ (fun H locs hP hD hS => ?_)
  refine lv_aload_n hx hb dL_law_978 rfl (lv_at hl 2 rfl) ?_
  obtain ⟨v2, s3, ev2, hf⟩ := bd2_ob hf
  refine call_i (As := []) (rest := [.int v1]) ⟨hx, hb, hml, hown, hts⟩ (tX5_total l D ca Ad _ (ls_m σ) v2 s3 ev2) (cwV 0 hts gL_law_X5_total rfl rfl rfl (by decide +kernel) ⟨Nat.le_of_ble_eq_true rfl, Nat.le_of_ble_eq_true rfl⟩) hN hK hP hD hA hS (fr_ZM ca B ar o Ad σ s3) rfl rfl rfl hl.1 rfl (lv_room (Nat.le_of_ble_eq_true rfl)) dL_law_979 ⟨(show _ ≤ 601024 by omega), (show _ ≤ 7293034 by omega)⟩ (fun H locs hP hD hS => ?_)
  obtain ⟨s4, es4, hf⟩ := nm_ob hf
  have hP : va_P D vwCl (wZ ca B ar o Ad s4) H := by rw [← es4]; exact hP
  have hD : va_D (fun q : Nat => s.heap.size ≤ q) (wZ ca B ar o Ad s4) := by rw [← es4]; exact hD
  refine lv_icmp_eq (tgt := 1119) hx hb dL_law_982 (by decide) (fun c5 => ?_) (fun c5 => ?_)
  · replace hf := it_p c5 hf
    exact z1119 C0 hT hN hX hC hbA hA hK ih _ _ _ _ _ _ _ hf hP hD hS (lv_sub hl [0, 1, 2, 3, 4] rfl) (by omega) (by omega)
  · replace hf := it_n c5 hf
    refine lv_iconst (v := 0) hx hb dL_law_985 (by decide) ?_
    exact absurd (so1 hf) (by decide)
def zz_987 (xs : Nat → Int32) (L : Nat) (k23 : LZ → Int32 → Option Int32) (σ : LZ) (l4 : Int32) : Option Int32 :=
  gd (l4 + 1) L <|
  bd2 (rr_groups (ls_x σ) (xs (l4 + 1).toNatClampNeg)) fun v2 s3 =>
  nm (ls_x' σ s3) fun s4 =>
  gd (l4 + 1) L <|
  bd2 (mm_groups (ls_m s4) (xs (l4 + 1).toNatClampNeg)) fun v6 s7 =>
  nm (ls_m' s4 s7) fun s8 =>
  if v2 = v6 then
    zz_1119 xs L k23 s8 l4
  else
    some 0
set_option maxHeartbeats 4000000 in
set_option maxRecDepth 100000 in
theorem z987 {p : Program} {l : Launch} {e : Env} {s : State} {m : MethodId} {below : List Frame} {meth : Method} {c : Code} {b L : Nat} {xs : Nat → Int32} {D : va_G} {ca : Nat → ClassId} {B : Nat → Nat} {ar : Nat → Nat → Nat} {o : Nat} {Ad : Nat → Nat} {k23 : LZ → Int32 → Option Int32} {n : Nat} {Q : State → Prop} (C0 : lw_At p s m meth c b L xs) (hT : l.stackTraces = false) (hN : NX s) (hX : HX (fun q : Nat => s.heap.size ≤ q) s s.heap) (hC : NC s) (hbA : ¬ (fun q : Nat => s.heap.size ≤ q) b) (hA : ∀ q : Nat, s.heap.size ≤ q → (fun q : Nat => s.heap.size ≤ q) q) (hK : va_K D vwCl (vt ca) s) (ih : ∀ (H : Heap) (locs : List Loc) (ls : Array Slot) (cells slots : Nat) (σ : LZ) (l4 : Int32), k23 σ l4 = some 1 → va_P D vwCl (wZ ca B ar o Ad σ) H → va_D (fun q : Nat => s.heap.size ≤ q) (wZ ca B ar o Ad σ) → va_S (fun q : Nat => s.heap.size ≤ q) s.heap H locs → lv_has ls 7 [(0, .ref b), (1, .ref (B 0)), (2, .ref (Ad 0)), (3, .ref o), (4, .int l4)] → cells + 3 * n ≤ 601024 → slots + 18 * n ≤ 7293034 → W p l e room_1 s m #[Value.ref b] below meth c H locs cells slots Q (F0 m 23 ls [])) : ∀ (H : Heap) (locs : List Loc) (ls : Array Slot) (cells slots : Nat) (σ : LZ) (l4 : Int32), zz_987 xs L k23 σ l4 = some 1 → va_P D vwCl (wZ ca B ar o Ad σ) H → va_D (fun q : Nat => s.heap.size ≤ q) (wZ ca B ar o Ad σ) → va_S (fun q : Nat => s.heap.size ≤ q) s.heap H locs → lv_has ls 7 [(0, .ref b), (1, .ref (B 0)), (2, .ref (Ad 0)), (3, .ref o), (4, .int l4)] → cells + 3 * (n + 1) ≤ 601024 → slots + 18 * (n + 1) ≤ 7293034 → W p l e room_1 s m #[Value.ref b] below meth c H locs cells slots Q (F0 m 987 ls []) := by
  intro H locs ls cells slots σ l4 hf hP hD hS hl hc9 hs9
  obtain ⟨hx, hb, hr, hml, hown, hts0, hXs, hbl, hlocks, hgv⟩ := id C0
  have hts : ∀ w ∈ wsL_law, w.before #[Value.ref b] s = true := fun w h => hts0 w (wsL_law_in w h)
  unfold zz_987 at hf
  refine lv_aload_n hx hb dL_law_987 rfl (lv_at hl 1 rfl) ?_
  refine lv_aload_n hx hb dL_law_988 rfl (lv_at hl 0 rfl) ?_
  refine lv_iload hx hb dL_law_989 (lv_at hl 4 rfl) ?_
  refine lv_iconst (v := 1) hx hb dL_law_991 (by decide) ?_
  refine lv_iadd hx hb dL_law_992 ?_
  obtain ⟨g1, hf⟩ := gd_ob hf
  refine va_sld hx hb hXs hbl hbA hS g1 dL_law_993 ?_
  obtain ⟨v2, s3, ev2, hf⟩ := bd2_ob hf
  refine call_i (As := [.int (xs (l4 + 1).toNatClampNeg)]) (rest := []) ⟨hx, hb, hml, hown, hts⟩ (tX4_groups l D ca B ar _ (ls_x σ) (xs (l4 + 1).toNatClampNeg) v2 s3 ev2) (cwV 1 hts gL_law_X4_groups rfl rfl rfl (by decide +kernel) ⟨Nat.le_of_ble_eq_true rfl, Nat.le_of_ble_eq_true rfl⟩) hN hK hP hD hA hS (fr_ZX ca B ar o Ad σ s3) rfl rfl rfl hl.1 rfl (lv_room (Nat.le_of_ble_eq_true rfl)) dL_law_994 ⟨(show _ ≤ 601024 by omega), (show _ ≤ 7293034 by omega)⟩ (fun H locs hP hD hS => ?_)
  obtain ⟨s4, es4, hf⟩ := nm_ob hf
  have hP : va_P D vwCl (wZ ca B ar o Ad s4) H := by rw [← es4]; exact hP
  have hD : va_D (fun q : Nat => s.heap.size ≤ q) (wZ ca B ar o Ad s4) := by rw [← es4]; exact hD
  refine lv_aload_n hx hb dL_law_997 rfl (lv_at hl 2 rfl) ?_
  refine lv_aload_n hx hb dL_law_998 rfl (lv_at hl 0 rfl) ?_
  refine lv_iload hx hb dL_law_999 (lv_at hl 4 rfl) ?_
  refine lv_iconst (v := 1) hx hb dL_law_1001 (by decide) ?_
  refine lv_iadd hx hb dL_law_1002 ?_
  obtain ⟨g5, hf⟩ := gd_ob hf
  refine va_sld hx hb hXs hbl hbA hS g5 dL_law_1003 ?_
  obtain ⟨v6, s7, ev6, hf⟩ := bd2_ob hf
  refine call_i (As := [.int (xs (l4 + 1).toNatClampNeg)]) (rest := [.int v2]) ⟨hx, hb, hml, hown, hts⟩ (tX5_groups l D ca Ad _ (ls_m s4) (xs (l4 + 1).toNatClampNeg) v6 s7 ev6) (cwV 1 hts gL_law_X5_groups rfl rfl rfl (by decide +kernel) ⟨Nat.le_of_ble_eq_true rfl, Nat.le_of_ble_eq_true rfl⟩) hN hK hP hD hA hS (fr_ZM ca B ar o Ad s4 s7) rfl rfl rfl hl.1 rfl (lv_room (Nat.le_of_ble_eq_true rfl)) dL_law_1004 ⟨(show _ ≤ 601024 by omega), (show _ ≤ 7293034 by omega)⟩ (fun H locs hP hD hS => ?_)
  obtain ⟨s8, es8, hf⟩ := nm_ob hf
  have hP : va_P D vwCl (wZ ca B ar o Ad s8) H := by rw [← es8]; exact hP
  have hD : va_D (fun q : Nat => s.heap.size ≤ q) (wZ ca B ar o Ad s8) := by rw [← es8]; exact hD
  refine lv_icmp_eq (tgt := 1119) hx hb dL_law_1007 (by decide) (fun c9 => ?_) (fun c9 => ?_)
  · replace hf := it_p c9 hf
    exact z1119 C0 hT hN hX hC hbA hA hK ih _ _ _ _ _ _ _ hf hP hD hS (lv_sub hl [0, 1, 2, 3, 4] rfl) (by omega) (by omega)
  · replace hf := it_n c9 hf
    refine lv_iconst (v := 0) hx hb dL_law_1010 (by decide) ?_
    exact absurd (so1 hf) (by decide)
def zz_1012 (xs : Nat → Int32) (L : Nat) (k23 : LZ → Int32 → Option Int32) (σ : LZ) (l4 : Int32) : Option Int32 :=
  gd (l4 + 1) L <|
  bd2 (rr_comparisons (ls_x σ) (xs (l4 + 1).toNatClampNeg)) fun v2 s3 =>
  nm (ls_x' σ s3) fun s4 =>
  gd (l4 + 1) L <|
  bd2 (mm_comparisons (ls_m s4) (xs (l4 + 1).toNatClampNeg)) fun v6 s7 =>
  nm (ls_m' s4 s7) fun s8 =>
  if v2 = v6 then
    zz_1119 xs L k23 s8 l4
  else
    some 0
set_option maxHeartbeats 4000000 in
set_option maxRecDepth 100000 in
theorem z1012 {p : Program} {l : Launch} {e : Env} {s : State} {m : MethodId} {below : List Frame} {meth : Method} {c : Code} {b L : Nat} {xs : Nat → Int32} {D : va_G} {ca : Nat → ClassId} {B : Nat → Nat} {ar : Nat → Nat → Nat} {o : Nat} {Ad : Nat → Nat} {k23 : LZ → Int32 → Option Int32} {n : Nat} {Q : State → Prop} (C0 : lw_At p s m meth c b L xs) (hT : l.stackTraces = false) (hN : NX s) (hX : HX (fun q : Nat => s.heap.size ≤ q) s s.heap) (hC : NC s) (hbA : ¬ (fun q : Nat => s.heap.size ≤ q) b) (hA : ∀ q : Nat, s.heap.size ≤ q → (fun q : Nat => s.heap.size ≤ q) q) (hK : va_K D vwCl (vt ca) s) (ih : ∀ (H : Heap) (locs : List Loc) (ls : Array Slot) (cells slots : Nat) (σ : LZ) (l4 : Int32), k23 σ l4 = some 1 → va_P D vwCl (wZ ca B ar o Ad σ) H → va_D (fun q : Nat => s.heap.size ≤ q) (wZ ca B ar o Ad σ) → va_S (fun q : Nat => s.heap.size ≤ q) s.heap H locs → lv_has ls 7 [(0, .ref b), (1, .ref (B 0)), (2, .ref (Ad 0)), (3, .ref o), (4, .int l4)] → cells + 3 * n ≤ 601024 → slots + 18 * n ≤ 7293034 → W p l e room_1 s m #[Value.ref b] below meth c H locs cells slots Q (F0 m 23 ls [])) : ∀ (H : Heap) (locs : List Loc) (ls : Array Slot) (cells slots : Nat) (σ : LZ) (l4 : Int32), zz_1012 xs L k23 σ l4 = some 1 → va_P D vwCl (wZ ca B ar o Ad σ) H → va_D (fun q : Nat => s.heap.size ≤ q) (wZ ca B ar o Ad σ) → va_S (fun q : Nat => s.heap.size ≤ q) s.heap H locs → lv_has ls 7 [(0, .ref b), (1, .ref (B 0)), (2, .ref (Ad 0)), (3, .ref o), (4, .int l4)] → cells + 3 * (n + 1) ≤ 601024 → slots + 18 * (n + 1) ≤ 7293034 → W p l e room_1 s m #[Value.ref b] below meth c H locs cells slots Q (F0 m 1012 ls []) := by
  intro H locs ls cells slots σ l4 hf hP hD hS hl hc9 hs9
  obtain ⟨hx, hb, hr, hml, hown, hts0, hXs, hbl, hlocks, hgv⟩ := id C0
  have hts : ∀ w ∈ wsL_law, w.before #[Value.ref b] s = true := fun w h => hts0 w (wsL_law_in w h)
  unfold zz_1012 at hf
  refine lv_aload_n hx hb dL_law_1012 rfl (lv_at hl 1 rfl) ?_
  refine lv_aload_n hx hb dL_law_1013 rfl (lv_at hl 0 rfl) ?_
  refine lv_iload hx hb dL_law_1014 (lv_at hl 4 rfl) ?_
  refine lv_iconst (v := 1) hx hb dL_law_1016 (by decide) ?_
  refine lv_iadd hx hb dL_law_1017 ?_
  obtain ⟨g1, hf⟩ := gd_ob hf
  refine va_sld hx hb hXs hbl hbA hS g1 dL_law_1018 ?_
  obtain ⟨v2, s3, ev2, hf⟩ := bd2_ob hf
  refine call_i (As := [.int (xs (l4 + 1).toNatClampNeg)]) (rest := []) ⟨hx, hb, hml, hown, hts⟩ (tX4_comparisons l D ca B ar _ (ls_x σ) (xs (l4 + 1).toNatClampNeg) v2 s3 ev2) (cwV 1 hts gL_law_X4_comparisons rfl rfl rfl (by decide +kernel) ⟨Nat.le_of_ble_eq_true rfl, Nat.le_of_ble_eq_true rfl⟩) hN hK hP hD hA hS (fr_ZX ca B ar o Ad σ s3) rfl rfl rfl hl.1 rfl (lv_room (Nat.le_of_ble_eq_true rfl)) dL_law_1019 ⟨(show _ ≤ 601024 by omega), (show _ ≤ 7293034 by omega)⟩ (fun H locs hP hD hS => ?_)
  obtain ⟨s4, es4, hf⟩ := nm_ob hf
  have hP : va_P D vwCl (wZ ca B ar o Ad s4) H := by rw [← es4]; exact hP
  have hD : va_D (fun q : Nat => s.heap.size ≤ q) (wZ ca B ar o Ad s4) := by rw [← es4]; exact hD
  refine lv_aload_n hx hb dL_law_1022 rfl (lv_at hl 2 rfl) ?_
  refine lv_aload_n hx hb dL_law_1023 rfl (lv_at hl 0 rfl) ?_
  refine lv_iload hx hb dL_law_1024 (lv_at hl 4 rfl) ?_
  refine lv_iconst (v := 1) hx hb dL_law_1026 (by decide) ?_
  refine lv_iadd hx hb dL_law_1027 ?_
  obtain ⟨g5, hf⟩ := gd_ob hf
  refine va_sld hx hb hXs hbl hbA hS g5 dL_law_1028 ?_
  obtain ⟨v6, s7, ev6, hf⟩ := bd2_ob hf
  refine call_i (As := [.int (xs (l4 + 1).toNatClampNeg)]) (rest := [.int v2]) ⟨hx, hb, hml, hown, hts⟩ (tX5_comparisons l D ca Ad _ (ls_m s4) (xs (l4 + 1).toNatClampNeg) v6 s7 ev6) (cwV 1 hts gL_law_X5_comparisons rfl rfl rfl (by decide +kernel) ⟨Nat.le_of_ble_eq_true rfl, Nat.le_of_ble_eq_true rfl⟩) hN hK hP hD hA hS (fr_ZM ca B ar o Ad s4 s7) rfl rfl rfl hl.1 rfl (lv_room (Nat.le_of_ble_eq_true rfl)) dL_law_1029 ⟨(show _ ≤ 601024 by omega), (show _ ≤ 7293034 by omega)⟩ (fun H locs hP hD hS => ?_)
  obtain ⟨s8, es8, hf⟩ := nm_ob hf
  have hP : va_P D vwCl (wZ ca B ar o Ad s8) H := by rw [← es8]; exact hP
  have hD : va_D (fun q : Nat => s.heap.size ≤ q) (wZ ca B ar o Ad s8) := by rw [← es8]; exact hD
  refine lv_icmp_eq (tgt := 1119) hx hb dL_law_1032 (by decide) (fun c9 => ?_) (fun c9 => ?_)
  · replace hf := it_p c9 hf
    exact z1119 C0 hT hN hX hC hbA hA hK ih _ _ _ _ _ _ _ hf hP hD hS (lv_sub hl [0, 1, 2, 3, 4] rfl) (by omega) (by omega)
  · replace hf := it_n c9 hf
    refine lv_iconst (v := 0) hx hb dL_law_1035 (by decide) ?_
    exact absurd (so1 hf) (by decide)
def zz_1037 (xs : Nat → Int32) (L : Nat) (k23 : LZ → Int32 → Option Int32) (σ : LZ) (l4 : Int32) : Option Int32 :=
  gd (l4 + 1) L <|
  hcl (rx_displaced (ls_x σ) (xs (l4 + 1).toNatClampNeg)) (fun z => hres 2 2 Int32.toInt64 z (ls_out σ)) fun v2 u3 f4 =>
  nm (ls_out' (ls_x' σ u3) f4) fun s6 =>
  gd (l4 + 1) L <|
  bd2 (mm_displaced (ls_m s6) (xs (l4 + 1).toNatClampNeg)) fun v8 s9 =>
  nm (ls_m' s6 s9) fun s10 =>
  bd (mm_thrown (ls_m s10)) fun v11 =>
  if v11 = v2 then
    if v2 = 0 then
      gd 0 1 <|
      if (lg_cmp (ls_out s10 (0 : Int32).toNatClampNeg) (v8.toInt64)) = 0 then
        zz_1119 xs L k23 s10 l4
      else
        some 0
    else
      zz_1119 xs L k23 s10 l4
  else
    some 0
set_option maxHeartbeats 4000000 in
set_option maxRecDepth 100000 in
theorem z1037 {p : Program} {l : Launch} {e : Env} {s : State} {m : MethodId} {below : List Frame} {meth : Method} {c : Code} {b L : Nat} {xs : Nat → Int32} {D : va_G} {ca : Nat → ClassId} {B : Nat → Nat} {ar : Nat → Nat → Nat} {o : Nat} {Ad : Nat → Nat} {k23 : LZ → Int32 → Option Int32} {n : Nat} {Q : State → Prop} (C0 : lw_At p s m meth c b L xs) (hT : l.stackTraces = false) (hN : NX s) (hX : HX (fun q : Nat => s.heap.size ≤ q) s s.heap) (hC : NC s) (hbA : ¬ (fun q : Nat => s.heap.size ≤ q) b) (hA : ∀ q : Nat, s.heap.size ≤ q → (fun q : Nat => s.heap.size ≤ q) q) (hK : va_K D vwCl (vt ca) s) (ih : ∀ (H : Heap) (locs : List Loc) (ls : Array Slot) (cells slots : Nat) (σ : LZ) (l4 : Int32), k23 σ l4 = some 1 → va_P D vwCl (wZ ca B ar o Ad σ) H → va_D (fun q : Nat => s.heap.size ≤ q) (wZ ca B ar o Ad σ) → va_S (fun q : Nat => s.heap.size ≤ q) s.heap H locs → lv_has ls 7 [(0, .ref b), (1, .ref (B 0)), (2, .ref (Ad 0)), (3, .ref o), (4, .int l4)] → cells + 3 * n ≤ 601024 → slots + 18 * n ≤ 7293034 → W p l e room_1 s m #[Value.ref b] below meth c H locs cells slots Q (F0 m 23 ls [])) : ∀ (H : Heap) (locs : List Loc) (ls : Array Slot) (cells slots : Nat) (σ : LZ) (l4 : Int32), zz_1037 xs L k23 σ l4 = some 1 → va_P D vwCl (wZ ca B ar o Ad σ) H → va_D (fun q : Nat => s.heap.size ≤ q) (wZ ca B ar o Ad σ) → va_S (fun q : Nat => s.heap.size ≤ q) s.heap H locs → lv_has ls 7 [(0, .ref b), (1, .ref (B 0)), (2, .ref (Ad 0)), (3, .ref o), (4, .int l4)] → cells + 3 * (n + 1) ≤ 601024 → slots + 18 * (n + 1) ≤ 7293034 → W p l e room_1 s m #[Value.ref b] below meth c H locs cells slots Q (F0 m 1037 ls []) := by
  intro H locs ls cells slots σ l4 hf hP hD hS hl hc9 hs9
  obtain ⟨hx, hb, hr, hml, hown, hts0, hXs, hbl, hlocks, hgv⟩ := id C0
  have hts : ∀ w ∈ wsL_law, w.before #[Value.ref b] s = true := fun w h => hts0 w (wsL_law_in w h)
  unfold zz_1037 at hf
  refine lv_aload_n hx hb dL_law_1037 rfl (lv_at hl 1 rfl) ?_
  refine lv_aload_n hx hb dL_law_1038 rfl (lv_at hl 0 rfl) ?_
  refine lv_iload hx hb dL_law_1039 (lv_at hl 4 rfl) ?_
  refine lv_iconst (v := 1) hx hb dL_law_1041 (by decide) ?_
  refine lv_iadd hx hb dL_law_1042 ?_
  obtain ⟨g1, hf⟩ := gd_ob hf
  refine va_sld hx hb hXs hbl hbA hS g1 dL_law_1043 ?_
  refine lv_aload_n hx hb dL_law_1044 rfl (lv_at hl 3 rfl) ?_
  obtain ⟨z5, v2, u3, f4, ez5, hz5, hf⟩ := hcl_ob hf
  refine call_h (As := [.ref (B 0), .int (xs (l4 + 1).toNatClampNeg), .ref o]) (rest := []) ⟨hx, hb, hml, hown, hts⟩ (tL_displaced l hT D ca B ar o _ (ls_x σ) (ls_out σ) (xs (l4 + 1).toNatClampNeg) z5 ez5 v2 u3 f4 hz5) (vx_cwSW 3 hts gL_law_L_displaced rfl rfl rfl (by decide +kernel) ⟨Nat.le_of_ble_eq_true rfl, Nat.le_of_ble_eq_true rfl⟩) hN hX hC hK hP hD hA hS (fr_ZL ca B ar o Ad σ u3 f4) rfl hl.1 rfl (lv_room (Nat.le_of_ble_eq_true rfl)) dL_law_1045 ⟨(show _ ≤ 601024 by omega), (show _ ≤ 7293034 by omega)⟩ (fun H locs hP hD hS => ?_)
  obtain ⟨s6, es6, hf⟩ := nm_ob hf
  have hP : va_P D vwCl (wZ ca B ar o Ad s6) H := by rw [← es6]; exact hP
  have hD : va_D (fun q : Nat => s.heap.size ≤ q) (wZ ca B ar o Ad s6) := by rw [← es6]; exact hD
  refine lv_istore (lv' := [(5, .int v2), (0, .ref b), (1, .ref (B 0)), (2, .ref (Ad 0)), (3, .ref o), (4, .int l4)]) hx hb dL_law_1048 hl (by decide) rfl (fun ls hl => ?_)
  refine lv_aload_n hx hb dL_law_1050 rfl (lv_at hl 3 rfl) ?_
  refine lv_aload_n hx hb dL_law_1051 rfl (lv_at hl 1 rfl) ?_
  refine lv_iload hx hb dL_law_1052 (lv_at hl 5 rfl) ?_
  refine lv_iconst (v := 1) hx hb dL_law_1054 (by decide) ?_
  refine lv_iadd hx hb dL_law_1055 ?_
  obtain ⟨g7, hf⟩ := gd_ob hf
  refine va_sld hx hb hXs hbl hbA hS g7 dL_law_1056 ?_
  obtain ⟨v8, s9, ev8, hf⟩ := bd2_ob hf
  refine call_i (As := [.int (xs (l4 + 1).toNatClampNeg)]) (rest := []) ⟨hx, hb, hml, hown, hts⟩ (tX5_displaced l D ca Ad _ (ls_m s6) (xs (l4 + 1).toNatClampNeg) v8 s9 ev8) (cwV 1 hts gL_law_X5_displaced rfl rfl rfl (by decide +kernel) ⟨Nat.le_of_ble_eq_true rfl, Nat.le_of_ble_eq_true rfl⟩) hN hK hP hD hA hS (fr_ZM ca B ar o Ad s6 s9) rfl rfl rfl hl.1 rfl (lv_room (Nat.le_of_ble_eq_true rfl)) dL_law_1057 ⟨(show _ ≤ 601024 by omega), (show _ ≤ 7293034 by omega)⟩ (fun H locs hP hD hS => ?_)
  obtain ⟨s10, es10, hf⟩ := nm_ob hf
  have hP : va_P D vwCl (wZ ca B ar o Ad s10) H := by rw [← es10]; exact hP
  have hD : va_D (fun q : Nat => s.heap.size ≤ q) (wZ ca B ar o Ad s10) := by rw [← es10]; exact hD
  refine lv_istore (lv' := [(6, .int v8), (5, .int v2), (0, .ref b), (1, .ref (B 0)), (2, .ref (Ad 0)), (3, .ref o), (4, .int l4)]) hx hb dL_law_1060 hl (by decide) rfl (fun ls hl => ?_)
  refine lv_aload_n hx hb dL_law_1062 rfl (lv_at hl 4 rfl) ?_
  obtain ⟨v11, ev11, hf⟩ := bd_ob hf
  refine call_i (As := []) (rest := []) ⟨hx, hb, hml, hown, hts⟩ (tX5_thrown l D ca Ad _ (ls_m s10) v11 ev11) (cwV 0 hts gL_law_X5_thrown rfl rfl rfl (by decide +kernel) ⟨Nat.le_of_ble_eq_true rfl, Nat.le_of_ble_eq_true rfl⟩) hN hK hP hD hA hS (fr_ZMp ca B ar o Ad s10) rfl rfl rfl hl.1 rfl (lv_room (Nat.le_of_ble_eq_true rfl)) dL_law_1063 ⟨(show _ ≤ 601024 by omega), (show _ ≤ 7293034 by omega)⟩ (fun H locs hP hD hS => ?_)
  refine lv_iload hx hb dL_law_1066 (lv_at hl 1 rfl) ?_
  refine lv_icmp_eq (tgt := 1073) hx hb dL_law_1068 (by decide) (fun c12 => ?_) (fun c12 => ?_)
  · replace hf := it_p c12 hf
    refine lv_iload hx hb dL_law_1073 (lv_at hl 1 rfl) ?_
    refine lv_if_ne (tgt := 1090) hx hb dL_law_1075 (by decide) (fun c13 => ?_) (fun c13 => ?_)
    · replace hf := it_n c13 hf
      refine lv_goto (tgt := 1119) hx hb dL_law_1090 (by decide) ?_
      exact z1119 C0 hT hN hX hC hbA hA hK ih _ _ _ _ _ _ _ hf hP hD hS (lv_sub hl [2, 3, 4, 5, 6] rfl) (by omega) (by omega)
    · replace hf := it_p c13 hf
      refine lv_aload_n hx hb dL_law_1078 rfl (lv_at hl 5 rfl) ?_
      refine lv_iconst (v := 0) hx hb dL_law_1079 (by decide) ?_
      obtain ⟨g14, hf⟩ := gd_ob hf
      refine va_lald hx hb hK hP 20 3 rfl rfl g14 dL_law_1080 ?_
      refine lv_iload hx hb dL_law_1081 (lv_at hl 0 rfl) ?_
      refine lv_i2l (v := (v8.toInt64)) hx hb dL_law_1083 rfl ?_
      refine W.lcmp hx hb dL_law_1084 ?_
      refine lv_if_eq (tgt := 1090) hx hb dL_law_1085 (by decide) (fun c15 => ?_) (fun c15 => ?_)
      · replace hf := it_p c15 hf
        refine lv_goto (tgt := 1119) hx hb dL_law_1090 (by decide) ?_
        exact z1119 C0 hT hN hX hC hbA hA hK ih _ _ _ _ _ _ _ hf hP hD hS (lv_sub hl [2, 3, 4, 5, 6] rfl) (by omega) (by omega)
      · replace hf := it_n c15 hf
        refine lv_iconst (v := 0) hx hb dL_law_1088 (by decide) ?_
        exact absurd (so1 hf) (by decide)
  · replace hf := it_n c12 hf
    refine lv_iconst (v := 0) hx hb dL_law_1071 (by decide) ?_
    exact absurd (so1 hf) (by decide)
def zz_1093 (xs : Nat → Int32) (L : Nat) (k23 : LZ → Int32 → Option Int32) (σ : LZ) (l4 : Int32) : Option Int32 :=
  bd2 (rr_plainTotal (ls_x σ)) fun v1 s2 =>
  nm (ls_x' σ s2) fun s3 =>
  bd2 (mm_plainTotal (ls_m s3)) fun v4 s5 =>
  nm (ls_m' s3 s5) fun s6 =>
  if v1 = v4 then
    zz_1119 xs L k23 s6 l4
  else
    some 0
set_option maxHeartbeats 4000000 in
set_option maxRecDepth 100000 in
theorem z1093 {p : Program} {l : Launch} {e : Env} {s : State} {m : MethodId} {below : List Frame} {meth : Method} {c : Code} {b L : Nat} {xs : Nat → Int32} {D : va_G} {ca : Nat → ClassId} {B : Nat → Nat} {ar : Nat → Nat → Nat} {o : Nat} {Ad : Nat → Nat} {k23 : LZ → Int32 → Option Int32} {n : Nat} {Q : State → Prop} (C0 : lw_At p s m meth c b L xs) (hT : l.stackTraces = false) (hN : NX s) (hX : HX (fun q : Nat => s.heap.size ≤ q) s s.heap) (hC : NC s) (hbA : ¬ (fun q : Nat => s.heap.size ≤ q) b) (hA : ∀ q : Nat, s.heap.size ≤ q → (fun q : Nat => s.heap.size ≤ q) q) (hK : va_K D vwCl (vt ca) s) (ih : ∀ (H : Heap) (locs : List Loc) (ls : Array Slot) (cells slots : Nat) (σ : LZ) (l4 : Int32), k23 σ l4 = some 1 → va_P D vwCl (wZ ca B ar o Ad σ) H → va_D (fun q : Nat => s.heap.size ≤ q) (wZ ca B ar o Ad σ) → va_S (fun q : Nat => s.heap.size ≤ q) s.heap H locs → lv_has ls 7 [(0, .ref b), (1, .ref (B 0)), (2, .ref (Ad 0)), (3, .ref o), (4, .int l4)] → cells + 3 * n ≤ 601024 → slots + 18 * n ≤ 7293034 → W p l e room_1 s m #[Value.ref b] below meth c H locs cells slots Q (F0 m 23 ls [])) : ∀ (H : Heap) (locs : List Loc) (ls : Array Slot) (cells slots : Nat) (σ : LZ) (l4 : Int32), zz_1093 xs L k23 σ l4 = some 1 → va_P D vwCl (wZ ca B ar o Ad σ) H → va_D (fun q : Nat => s.heap.size ≤ q) (wZ ca B ar o Ad σ) → va_S (fun q : Nat => s.heap.size ≤ q) s.heap H locs → lv_has ls 7 [(0, .ref b), (1, .ref (B 0)), (2, .ref (Ad 0)), (3, .ref o), (4, .int l4)] → cells + 3 * (n + 1) ≤ 601024 → slots + 18 * (n + 1) ≤ 7293034 → W p l e room_1 s m #[Value.ref b] below meth c H locs cells slots Q (F0 m 1093 ls []) := by
  intro H locs ls cells slots σ l4 hf hP hD hS hl hc9 hs9
  obtain ⟨hx, hb, hr, hml, hown, hts0, hXs, hbl, hlocks, hgv⟩ := id C0
  have hts : ∀ w ∈ wsL_law, w.before #[Value.ref b] s = true := fun w h => hts0 w (wsL_law_in w h)
  unfold zz_1093 at hf
  refine lv_aload_n hx hb dL_law_1093 rfl (lv_at hl 1 rfl) ?_
  obtain ⟨v1, s2, ev1, hf⟩ := bd2_ob hf
  refine call_i (As := []) (rest := []) ⟨hx, hb, hml, hown, hts⟩ (tX4_plainTotal l D ca B ar _ (ls_x σ) v1 s2 ev1) (cwV 0 hts gL_law_X4_plainTotal rfl rfl rfl (by decide +kernel) ⟨Nat.le_of_ble_eq_true rfl, Nat.le_of_ble_eq_true rfl⟩) hN hK hP hD hA hS (fr_ZX ca B ar o Ad σ s2) rfl rfl rfl hl.1 rfl (lv_room (Nat.le_of_ble_eq_true rfl)) dL_law_1094 ⟨(show _ ≤ 601024 by omega), (show _ ≤ 7293034 by omega)⟩ (fun H locs hP hD hS => ?_)
  obtain ⟨s3, es3, hf⟩ := nm_ob hf
  have hP : va_P D vwCl (wZ ca B ar o Ad s3) H := by rw [← es3]; exact hP
  have hD : va_D (fun q : Nat => s.heap.size ≤ q) (wZ ca B ar o Ad s3) := by rw [← es3]; exact hD
  refine lv_aload_n hx hb dL_law_1097 rfl (lv_at hl 2 rfl) ?_
  obtain ⟨v4, s5, ev4, hf⟩ := bd2_ob hf
  refine call_i (As := []) (rest := [.int v1]) ⟨hx, hb, hml, hown, hts⟩ (tX5_plainTotal l D ca Ad _ (ls_m s3) v4 s5 ev4) (cwV 0 hts gL_law_X5_plainTotal rfl rfl rfl (by decide +kernel) ⟨Nat.le_of_ble_eq_true rfl, Nat.le_of_ble_eq_true rfl⟩) hN hK hP hD hA hS (fr_ZM ca B ar o Ad s3 s5) rfl rfl rfl hl.1 rfl (lv_room (Nat.le_of_ble_eq_true rfl)) dL_law_1098 ⟨(show _ ≤ 601024 by omega), (show _ ≤ 7293034 by omega)⟩ (fun H locs hP hD hS => ?_)
  obtain ⟨s6, es6, hf⟩ := nm_ob hf
  have hP : va_P D vwCl (wZ ca B ar o Ad s6) H := by rw [← es6]; exact hP
  have hD : va_D (fun q : Nat => s.heap.size ≤ q) (wZ ca B ar o Ad s6) := by rw [← es6]; exact hD
  refine lv_icmp_eq (tgt := 1119) hx hb dL_law_1101 (by decide) (fun c7 => ?_) (fun c7 => ?_)
  · replace hf := it_p c7 hf
    exact z1119 C0 hT hN hX hC hbA hA hK ih _ _ _ _ _ _ _ hf hP hD hS (lv_sub hl [0, 1, 2, 3, 4] rfl) (by omega) (by omega)
  · replace hf := it_n c7 hf
    refine lv_iconst (v := 0) hx hb dL_law_1104 (by decide) ?_
    exact absurd (so1 hf) (by decide)
def zz_1106 (xs : Nat → Int32) (L : Nat) (k23 : LZ → Int32 → Option Int32) (σ : LZ) (l4 : Int32) : Option Int32 :=
  bd2 (rr_plainLongest (ls_x σ)) fun v1 s2 =>
  nm (ls_x' σ s2) fun s3 =>
  bd2 (mm_plainLongest (ls_m s3)) fun v4 s5 =>
  nm (ls_m' s3 s5) fun s6 =>
  if v1 = v4 then
    zz_1119 xs L k23 s6 l4
  else
    some 0
set_option maxHeartbeats 4000000 in
set_option maxRecDepth 100000 in
theorem z1106 {p : Program} {l : Launch} {e : Env} {s : State} {m : MethodId} {below : List Frame} {meth : Method} {c : Code} {b L : Nat} {xs : Nat → Int32} {D : va_G} {ca : Nat → ClassId} {B : Nat → Nat} {ar : Nat → Nat → Nat} {o : Nat} {Ad : Nat → Nat} {k23 : LZ → Int32 → Option Int32} {n : Nat} {Q : State → Prop} (C0 : lw_At p s m meth c b L xs) (hT : l.stackTraces = false) (hN : NX s) (hX : HX (fun q : Nat => s.heap.size ≤ q) s s.heap) (hC : NC s) (hbA : ¬ (fun q : Nat => s.heap.size ≤ q) b) (hA : ∀ q : Nat, s.heap.size ≤ q → (fun q : Nat => s.heap.size ≤ q) q) (hK : va_K D vwCl (vt ca) s) (ih : ∀ (H : Heap) (locs : List Loc) (ls : Array Slot) (cells slots : Nat) (σ : LZ) (l4 : Int32), k23 σ l4 = some 1 → va_P D vwCl (wZ ca B ar o Ad σ) H → va_D (fun q : Nat => s.heap.size ≤ q) (wZ ca B ar o Ad σ) → va_S (fun q : Nat => s.heap.size ≤ q) s.heap H locs → lv_has ls 7 [(0, .ref b), (1, .ref (B 0)), (2, .ref (Ad 0)), (3, .ref o), (4, .int l4)] → cells + 3 * n ≤ 601024 → slots + 18 * n ≤ 7293034 → W p l e room_1 s m #[Value.ref b] below meth c H locs cells slots Q (F0 m 23 ls [])) : ∀ (H : Heap) (locs : List Loc) (ls : Array Slot) (cells slots : Nat) (σ : LZ) (l4 : Int32), zz_1106 xs L k23 σ l4 = some 1 → va_P D vwCl (wZ ca B ar o Ad σ) H → va_D (fun q : Nat => s.heap.size ≤ q) (wZ ca B ar o Ad σ) → va_S (fun q : Nat => s.heap.size ≤ q) s.heap H locs → lv_has ls 7 [(0, .ref b), (1, .ref (B 0)), (2, .ref (Ad 0)), (3, .ref o), (4, .int l4)] → cells + 3 * (n + 1) ≤ 601024 → slots + 18 * (n + 1) ≤ 7293034 → W p l e room_1 s m #[Value.ref b] below meth c H locs cells slots Q (F0 m 1106 ls []) := by
  intro H locs ls cells slots σ l4 hf hP hD hS hl hc9 hs9
  obtain ⟨hx, hb, hr, hml, hown, hts0, hXs, hbl, hlocks, hgv⟩ := id C0
  have hts : ∀ w ∈ wsL_law, w.before #[Value.ref b] s = true := fun w h => hts0 w (wsL_law_in w h)
  unfold zz_1106 at hf
  refine lv_aload_n hx hb dL_law_1106 rfl (lv_at hl 1 rfl) ?_
  obtain ⟨v1, s2, ev1, hf⟩ := bd2_ob hf
  refine call_i (As := []) (rest := []) ⟨hx, hb, hml, hown, hts⟩ (tX4_plainLongest l D ca B ar _ (ls_x σ) v1 s2 ev1) (cwV 0 hts gL_law_X4_plainLongest rfl rfl rfl (by decide +kernel) ⟨Nat.le_of_ble_eq_true rfl, Nat.le_of_ble_eq_true rfl⟩) hN hK hP hD hA hS (fr_ZX ca B ar o Ad σ s2) rfl rfl rfl hl.1 rfl (lv_room (Nat.le_of_ble_eq_true rfl)) dL_law_1107 ⟨(show _ ≤ 601024 by omega), (show _ ≤ 7293034 by omega)⟩ (fun H locs hP hD hS => ?_)
  obtain ⟨s3, es3, hf⟩ := nm_ob hf
  have hP : va_P D vwCl (wZ ca B ar o Ad s3) H := by rw [← es3]; exact hP
  have hD : va_D (fun q : Nat => s.heap.size ≤ q) (wZ ca B ar o Ad s3) := by rw [← es3]; exact hD
  refine lv_aload_n hx hb dL_law_1110 rfl (lv_at hl 2 rfl) ?_
  obtain ⟨v4, s5, ev4, hf⟩ := bd2_ob hf
  refine call_i (As := []) (rest := [.int v1]) ⟨hx, hb, hml, hown, hts⟩ (tX5_plainLongest l D ca Ad _ (ls_m s3) v4 s5 ev4) (cwV 0 hts gL_law_X5_plainLongest rfl rfl rfl (by decide +kernel) ⟨Nat.le_of_ble_eq_true rfl, Nat.le_of_ble_eq_true rfl⟩) hN hK hP hD hA hS (fr_ZM ca B ar o Ad s3 s5) rfl rfl rfl hl.1 rfl (lv_room (Nat.le_of_ble_eq_true rfl)) dL_law_1111 ⟨(show _ ≤ 601024 by omega), (show _ ≤ 7293034 by omega)⟩ (fun H locs hP hD hS => ?_)
  obtain ⟨s6, es6, hf⟩ := nm_ob hf
  have hP : va_P D vwCl (wZ ca B ar o Ad s6) H := by rw [← es6]; exact hP
  have hD : va_D (fun q : Nat => s.heap.size ≤ q) (wZ ca B ar o Ad s6) := by rw [← es6]; exact hD
  refine lv_icmp_eq (tgt := 1119) hx hb dL_law_1114 (by decide) (fun c7 => ?_) (fun c7 => ?_)
  · replace hf := it_p c7 hf
    exact z1119 C0 hT hN hX hC hbA hA hK ih _ _ _ _ _ _ _ hf hP hD hS (lv_sub hl [0, 1, 2, 3, 4] rfl) (by omega) (by omega)
  · replace hf := it_n c7 hf
    refine lv_iconst (v := 0) hx hb dL_law_1117 (by decide) ?_
    exact absurd (so1 hf) (by decide)
def zz_23 (xs : Nat → Int32) (L : Nat) (k23 : LZ → Int32 → Option Int32) (σ : LZ) (l4 : Int32) : Option Int32 :=
  if ((Int32.ofNat L) - 3) < l4 then some 1 else
  gd l4 L <|
  nm ((xs l4.toNatClampNeg) &&& 31) fun v1 =>
  if v1 = 0 then zz_152 xs L k23 σ l4
  else if v1 = 1 then zz_188 xs L k23 σ l4
  else if v1 = 2 then zz_256 xs L k23 σ l4
  else if v1 = 3 then zz_281 xs L k23 σ l4
  else if v1 = 4 then zz_306 xs L k23 σ l4
  else if v1 = 5 then zz_319 xs L k23 σ l4
  else if v1 = 6 then zz_332 xs L k23 σ l4
  else if v1 = 7 then zz_345 xs L k23 σ l4
  else if v1 = 8 then zz_389 xs L k23 σ l4
  else if v1 = 9 then zz_452 xs L k23 σ l4
  else if v1 = 10 then zz_508 xs L k23 σ l4
  else if v1 = 11 then zz_564 xs L k23 σ l4
  else if v1 = 12 then zz_620 xs L k23 σ l4
  else if v1 = 13 then zz_645 xs L k23 σ l4
  else if v1 = 14 then zz_701 xs L k23 σ l4
  else if v1 = 15 then zz_757 xs L k23 σ l4
  else if v1 = 16 then zz_825 xs L k23 σ l4
  else if v1 = 17 then zz_893 xs L k23 σ l4
  else if v1 = 18 then zz_961 xs L k23 σ l4
  else if v1 = 19 then zz_974 xs L k23 σ l4
  else if v1 = 20 then zz_987 xs L k23 σ l4
  else if v1 = 21 then zz_1012 xs L k23 σ l4
  else if v1 = 22 then zz_1037 xs L k23 σ l4
  else if v1 = 23 then zz_1093 xs L k23 σ l4
  else if v1 = 24 then zz_1106 xs L k23 σ l4
  else zz_1119 xs L k23 σ l4
def zz_lp (xs : Nat → Int32) (L : Nat) : Nat → LZ → Int32 → Option Int32 := itF (fun _ _ => none) (fun k => zz_23 xs L k)
theorem sw31 (x : Int32) : ¬ (x &&& 31).toInt < 0 ∧ (x &&& 31).toInt < 32 := by
  obtain ⟨j, hj, he⟩ := pk_andE x (m := 31) 5 (by decide)
  rw [he, nI_toInt (by omega)]
  omega
theorem sw_ne {x : Int32} {k : Nat} (hk : k < 32) (h : ¬ x = nI k) (h0 : ¬ x.toInt < 0) : x.toInt ≠ (k : Int) := by
  intro q
  apply h
  apply Int32.toInt_inj.mp
  rw [q, nI_toInt (by omega)]
set_option maxHeartbeats 4000000 in
set_option maxRecDepth 100000 in
theorem law_loop {p : Program} {l : Launch} {e : Env} {s : State} {m : MethodId} {below : List Frame} {meth : Method} {c : Code} {b L : Nat} {xs : Nat → Int32} {D : va_G} {ca : Nat → ClassId} {B : Nat → Nat} {ar : Nat → Nat → Nat} {o : Nat} {Ad : Nat → Nat} (C0 : lw_At p s m meth c b L xs) (hT : l.stackTraces = false) (hN : NX s) (hX : HX (fun q : Nat => s.heap.size ≤ q) s s.heap) (hC : NC s) (hbA : ¬ (fun q : Nat => s.heap.size ≤ q) b) (hA : ∀ q : Nat, s.heap.size ≤ q → (fun q : Nat => s.heap.size ≤ q) q) (hK : va_K D vwCl (vt ca) s) (hr9 : meth.sig.returnType = ret) (n : Nat) : ∀ (H : Heap) (locs : List Loc) (ls : Array Slot) (cells slots : Nat) (σ : LZ) (l4 : Int32), zz_lp xs L n σ l4 = some 1 → va_P D vwCl (wZ ca B ar o Ad σ) H → va_D (fun q : Nat => s.heap.size ≤ q) (wZ ca B ar o Ad σ) → va_S (fun q : Nat => s.heap.size ≤ q) s.heap H locs → lv_has ls 7 [(0, .ref b), (1, .ref (B 0)), (2, .ref (Ad 0)), (3, .ref o), (4, .int l4)] → cells + 3 * n ≤ 601024 → slots + 18 * n ≤ 7293034 → W p l e room_1 s m #[Value.ref b] below meth c H locs cells slots (lw_Z below #[Value.ref b] s) (F0 m 23 ls []) := by
  induction n with
  | zero =>
    intro H locs ls cells slots σ l4 hf
    exact absurd hf (fun h => by cases h)
  | succ n ih =>
    intro H locs ls cells slots σ l4 hf hP hD hS hl hc9 hs9
    obtain ⟨hx, hb, hr, hml, hown, hts0, hXs, hbl, hlocks, hgv⟩ := id C0
    have hts : ∀ w ∈ wsL_law, w.before #[Value.ref b] s = true := fun w h => hts0 w (wsL_law_in w h)
    replace hf : zz_23 xs L (zz_lp xs L n) σ l4 = some 1 := hf
    unfold zz_23 at hf
    refine lv_iload hx hb dL_law_23 (lv_at hl 4 rfl) ?_
    refine lv_aload_n hx hb dL_law_25 rfl (lv_at hl 0 rfl) ?_
    refine va_slen hx hb hXs hbl hbA hS dL_law_26 ?_
    refine lv_iconst (v := 3) hx hb dL_law_27 (by decide) ?_
    refine lv_isub hx hb dL_law_28 ?_
    refine lv_icmp_gt (tgt := 1125) hx hb dL_law_29 (by decide) (fun c1 => ?_) (fun c1 => ?_)
    · refine lv_iconst (v := 1) hx hb dL_law_1125 (by decide) ?_
      refine va_forget (fun q hq => hS.2.2 q hq) ?_
      refine W.widen (k := 601024) (n := 7293034) (by omega) (by omega) ?_
      exact lw_ret hx hb hr hlocks dL_law_1126
    · replace hf := it_n c1 hf
      obtain ⟨g1, hf⟩ := gd_ob hf
      obtain ⟨v1, e1, hf⟩ := nm_ob hf
      refine lv_aload_n hx hb dL_law_32 rfl (lv_at hl 0 rfl) ?_
      refine lv_iload hx hb dL_law_33 (lv_at hl 4 rfl) ?_
      refine va_sld hx hb hXs hbl hbA hS g1 dL_law_35 ?_
      refine lv_bipush (v := 31) hx hb dL_law_36 (by decide) ?_
      refine lv_iand hx hb dL_law_38 ?_
      refine tp_i e1 ?_
      obtain ⟨h0, h32⟩ : ¬ v1.toInt < 0 ∧ v1.toInt < 32 := by rw [← e1]; exact sw31 _
      by_cases d0 : v1 = 0
      · replace hf := it_p d0 hf
        subst d0
        refine lv_tableIn (off := 113) (tgt := 152) hx hb dL_law_39 (by decide) (by decide) rfl (by decide) ?_
        exact z152 C0 hT hN hX hC hbA hA hK ih _ _ _ _ _ _ _ hf hP hD hS (lv_sub hl [0, 1, 2, 3, 4] rfl) (by omega) (by omega)
      replace hf := it_n d0 hf
      by_cases d1 : v1 = 1
      · replace hf := it_p d1 hf
        subst d1
        refine lv_tableIn (off := 149) (tgt := 188) hx hb dL_law_39 (by decide) (by decide) rfl (by decide) ?_
        exact z188 C0 hT hN hX hC hbA hA hK ih _ _ _ _ _ _ _ hf hP hD hS (lv_sub hl [0, 1, 2, 3, 4] rfl) (by omega) (by omega)
      replace hf := it_n d1 hf
      by_cases d2 : v1 = 2
      · replace hf := it_p d2 hf
        subst d2
        refine lv_tableIn (off := 217) (tgt := 256) hx hb dL_law_39 (by decide) (by decide) rfl (by decide) ?_
        exact z256 C0 hT hN hX hC hbA hA hK ih _ _ _ _ _ _ _ hf hP hD hS (lv_sub hl [0, 1, 2, 3, 4] rfl) (by omega) (by omega)
      replace hf := it_n d2 hf
      by_cases d3 : v1 = 3
      · replace hf := it_p d3 hf
        subst d3
        refine lv_tableIn (off := 242) (tgt := 281) hx hb dL_law_39 (by decide) (by decide) rfl (by decide) ?_
        exact z281 C0 hT hN hX hC hbA hA hK ih _ _ _ _ _ _ _ hf hP hD hS (lv_sub hl [0, 1, 2, 3, 4] rfl) (by omega) (by omega)
      replace hf := it_n d3 hf
      by_cases d4 : v1 = 4
      · replace hf := it_p d4 hf
        subst d4
        refine lv_tableIn (off := 267) (tgt := 306) hx hb dL_law_39 (by decide) (by decide) rfl (by decide) ?_
        exact z306 C0 hT hN hX hC hbA hA hK ih _ _ _ _ _ _ _ hf hP hD hS (lv_sub hl [0, 1, 2, 3, 4] rfl) (by omega) (by omega)
      replace hf := it_n d4 hf
      by_cases d5 : v1 = 5
      · replace hf := it_p d5 hf
        subst d5
        refine lv_tableIn (off := 280) (tgt := 319) hx hb dL_law_39 (by decide) (by decide) rfl (by decide) ?_
        exact z319 C0 hT hN hX hC hbA hA hK ih _ _ _ _ _ _ _ hf hP hD hS (lv_sub hl [0, 1, 2, 3, 4] rfl) (by omega) (by omega)
      replace hf := it_n d5 hf
      by_cases d6 : v1 = 6
      · replace hf := it_p d6 hf
        subst d6
        refine lv_tableIn (off := 293) (tgt := 332) hx hb dL_law_39 (by decide) (by decide) rfl (by decide) ?_
        exact z332 C0 hT hN hX hC hbA hA hK ih _ _ _ _ _ _ _ hf hP hD hS (lv_sub hl [0, 1, 2, 3, 4] rfl) (by omega) (by omega)
      replace hf := it_n d6 hf
      by_cases d7 : v1 = 7
      · replace hf := it_p d7 hf
        subst d7
        refine lv_tableIn (off := 306) (tgt := 345) hx hb dL_law_39 (by decide) (by decide) rfl (by decide) ?_
        exact z345 C0 hT hN hX hC hbA hA hK ih _ _ _ _ _ _ _ hf hP hD hS (lv_sub hl [0, 1, 2, 3, 4] rfl) (by omega) (by omega)
      replace hf := it_n d7 hf
      by_cases d8 : v1 = 8
      · replace hf := it_p d8 hf
        subst d8
        refine lv_tableIn (off := 350) (tgt := 389) hx hb dL_law_39 (by decide) (by decide) rfl (by decide) ?_
        exact z389 C0 hT hN hX hC hbA hA hK ih _ _ _ _ _ _ _ hf hP hD hS (lv_sub hl [0, 1, 2, 3, 4] rfl) (by omega) (by omega)
      replace hf := it_n d8 hf
      by_cases d9 : v1 = 9
      · replace hf := it_p d9 hf
        subst d9
        refine lv_tableIn (off := 413) (tgt := 452) hx hb dL_law_39 (by decide) (by decide) rfl (by decide) ?_
        exact z452 C0 hT hN hX hC hbA hA hK ih _ _ _ _ _ _ _ hf hP hD hS (lv_sub hl [0, 1, 2, 3, 4] rfl) (by omega) (by omega)
      replace hf := it_n d9 hf
      by_cases d10 : v1 = 10
      · replace hf := it_p d10 hf
        subst d10
        refine lv_tableIn (off := 469) (tgt := 508) hx hb dL_law_39 (by decide) (by decide) rfl (by decide) ?_
        exact z508 C0 hT hN hX hC hbA hA hK ih _ _ _ _ _ _ _ hf hP hD hS (lv_sub hl [0, 1, 2, 3, 4] rfl) (by omega) (by omega)
      replace hf := it_n d10 hf
      by_cases d11 : v1 = 11
      · replace hf := it_p d11 hf
        subst d11
        refine lv_tableIn (off := 525) (tgt := 564) hx hb dL_law_39 (by decide) (by decide) rfl (by decide) ?_
        exact z564 C0 hT hN hX hC hbA hA hK ih _ _ _ _ _ _ _ hf hP hD hS (lv_sub hl [0, 1, 2, 3, 4] rfl) (by omega) (by omega)
      replace hf := it_n d11 hf
      by_cases d12 : v1 = 12
      · replace hf := it_p d12 hf
        subst d12
        refine lv_tableIn (off := 581) (tgt := 620) hx hb dL_law_39 (by decide) (by decide) rfl (by decide) ?_
        exact z620 C0 hT hN hX hC hbA hA hK ih _ _ _ _ _ _ _ hf hP hD hS (lv_sub hl [0, 1, 2, 3, 4] rfl) (by omega) (by omega)
      replace hf := it_n d12 hf
      by_cases d13 : v1 = 13
      · replace hf := it_p d13 hf
        subst d13
        refine lv_tableIn (off := 606) (tgt := 645) hx hb dL_law_39 (by decide) (by decide) rfl (by decide) ?_
        exact z645 C0 hT hN hX hC hbA hA hK ih _ _ _ _ _ _ _ hf hP hD hS (lv_sub hl [0, 1, 2, 3, 4] rfl) (by omega) (by omega)
      replace hf := it_n d13 hf
      by_cases d14 : v1 = 14
      · replace hf := it_p d14 hf
        subst d14
        refine lv_tableIn (off := 662) (tgt := 701) hx hb dL_law_39 (by decide) (by decide) rfl (by decide) ?_
        exact z701 C0 hT hN hX hC hbA hA hK ih _ _ _ _ _ _ _ hf hP hD hS (lv_sub hl [0, 1, 2, 3, 4] rfl) (by omega) (by omega)
      replace hf := it_n d14 hf
      by_cases d15 : v1 = 15
      · replace hf := it_p d15 hf
        subst d15
        refine lv_tableIn (off := 718) (tgt := 757) hx hb dL_law_39 (by decide) (by decide) rfl (by decide) ?_
        exact z757 C0 hT hN hX hC hbA hA hK ih _ _ _ _ _ _ _ hf hP hD hS (lv_sub hl [0, 1, 2, 3, 4] rfl) (by omega) (by omega)
      replace hf := it_n d15 hf
      by_cases d16 : v1 = 16
      · replace hf := it_p d16 hf
        subst d16
        refine lv_tableIn (off := 786) (tgt := 825) hx hb dL_law_39 (by decide) (by decide) rfl (by decide) ?_
        exact z825 C0 hT hN hX hC hbA hA hK ih _ _ _ _ _ _ _ hf hP hD hS (lv_sub hl [0, 1, 2, 3, 4] rfl) (by omega) (by omega)
      replace hf := it_n d16 hf
      by_cases d17 : v1 = 17
      · replace hf := it_p d17 hf
        subst d17
        refine lv_tableIn (off := 854) (tgt := 893) hx hb dL_law_39 (by decide) (by decide) rfl (by decide) ?_
        exact z893 C0 hT hN hX hC hbA hA hK ih _ _ _ _ _ _ _ hf hP hD hS (lv_sub hl [0, 1, 2, 3, 4] rfl) (by omega) (by omega)
      replace hf := it_n d17 hf
      by_cases d18 : v1 = 18
      · replace hf := it_p d18 hf
        subst d18
        refine lv_tableIn (off := 922) (tgt := 961) hx hb dL_law_39 (by decide) (by decide) rfl (by decide) ?_
        exact z961 C0 hT hN hX hC hbA hA hK ih _ _ _ _ _ _ _ hf hP hD hS (lv_sub hl [0, 1, 2, 3, 4] rfl) (by omega) (by omega)
      replace hf := it_n d18 hf
      by_cases d19 : v1 = 19
      · replace hf := it_p d19 hf
        subst d19
        refine lv_tableIn (off := 935) (tgt := 974) hx hb dL_law_39 (by decide) (by decide) rfl (by decide) ?_
        exact z974 C0 hT hN hX hC hbA hA hK ih _ _ _ _ _ _ _ hf hP hD hS (lv_sub hl [0, 1, 2, 3, 4] rfl) (by omega) (by omega)
      replace hf := it_n d19 hf
      by_cases d20 : v1 = 20
      · replace hf := it_p d20 hf
        subst d20
        refine lv_tableIn (off := 948) (tgt := 987) hx hb dL_law_39 (by decide) (by decide) rfl (by decide) ?_
        exact z987 C0 hT hN hX hC hbA hA hK ih _ _ _ _ _ _ _ hf hP hD hS (lv_sub hl [0, 1, 2, 3, 4] rfl) (by omega) (by omega)
      replace hf := it_n d20 hf
      by_cases d21 : v1 = 21
      · replace hf := it_p d21 hf
        subst d21
        refine lv_tableIn (off := 973) (tgt := 1012) hx hb dL_law_39 (by decide) (by decide) rfl (by decide) ?_
        exact z1012 C0 hT hN hX hC hbA hA hK ih _ _ _ _ _ _ _ hf hP hD hS (lv_sub hl [0, 1, 2, 3, 4] rfl) (by omega) (by omega)
      replace hf := it_n d21 hf
      by_cases d22 : v1 = 22
      · replace hf := it_p d22 hf
        subst d22
        refine lv_tableIn (off := 998) (tgt := 1037) hx hb dL_law_39 (by decide) (by decide) rfl (by decide) ?_
        exact z1037 C0 hT hN hX hC hbA hA hK ih _ _ _ _ _ _ _ hf hP hD hS (lv_sub hl [0, 1, 2, 3, 4] rfl) (by omega) (by omega)
      replace hf := it_n d22 hf
      by_cases d23 : v1 = 23
      · replace hf := it_p d23 hf
        subst d23
        refine lv_tableIn (off := 1054) (tgt := 1093) hx hb dL_law_39 (by decide) (by decide) rfl (by decide) ?_
        exact z1093 C0 hT hN hX hC hbA hA hK ih _ _ _ _ _ _ _ hf hP hD hS (lv_sub hl [0, 1, 2, 3, 4] rfl) (by omega) (by omega)
      replace hf := it_n d23 hf
      by_cases d24 : v1 = 24
      · replace hf := it_p d24 hf
        subst d24
        refine lv_tableIn (off := 1067) (tgt := 1106) hx hb dL_law_39 (by decide) (by decide) rfl (by decide) ?_
        exact z1106 C0 hT hN hX hC hbA hA hK ih _ _ _ _ _ _ _ hf hP hD hS (lv_sub hl [0, 1, 2, 3, 4] rfl) (by omega) (by omega)
      replace hf := it_n d24 hf
      have hgt : (24 : Int) < v1.toInt := by
        have q0 : v1.toInt ≠ ((0 : Nat) : Int) := sw_ne (by omega) d0 h0
        have q1 : v1.toInt ≠ ((1 : Nat) : Int) := sw_ne (by omega) d1 h0
        have q2 : v1.toInt ≠ ((2 : Nat) : Int) := sw_ne (by omega) d2 h0
        have q3 : v1.toInt ≠ ((3 : Nat) : Int) := sw_ne (by omega) d3 h0
        have q4 : v1.toInt ≠ ((4 : Nat) : Int) := sw_ne (by omega) d4 h0
        have q5 : v1.toInt ≠ ((5 : Nat) : Int) := sw_ne (by omega) d5 h0
        have q6 : v1.toInt ≠ ((6 : Nat) : Int) := sw_ne (by omega) d6 h0
        have q7 : v1.toInt ≠ ((7 : Nat) : Int) := sw_ne (by omega) d7 h0
        have q8 : v1.toInt ≠ ((8 : Nat) : Int) := sw_ne (by omega) d8 h0
        have q9 : v1.toInt ≠ ((9 : Nat) : Int) := sw_ne (by omega) d9 h0
        have q10 : v1.toInt ≠ ((10 : Nat) : Int) := sw_ne (by omega) d10 h0
        have q11 : v1.toInt ≠ ((11 : Nat) : Int) := sw_ne (by omega) d11 h0
        have q12 : v1.toInt ≠ ((12 : Nat) : Int) := sw_ne (by omega) d12 h0
        have q13 : v1.toInt ≠ ((13 : Nat) : Int) := sw_ne (by omega) d13 h0
        have q14 : v1.toInt ≠ ((14 : Nat) : Int) := sw_ne (by omega) d14 h0
        have q15 : v1.toInt ≠ ((15 : Nat) : Int) := sw_ne (by omega) d15 h0
        have q16 : v1.toInt ≠ ((16 : Nat) : Int) := sw_ne (by omega) d16 h0
        have q17 : v1.toInt ≠ ((17 : Nat) : Int) := sw_ne (by omega) d17 h0
        have q18 : v1.toInt ≠ ((18 : Nat) : Int) := sw_ne (by omega) d18 h0
        have q19 : v1.toInt ≠ ((19 : Nat) : Int) := sw_ne (by omega) d19 h0
        have q20 : v1.toInt ≠ ((20 : Nat) : Int) := sw_ne (by omega) d20 h0
        have q21 : v1.toInt ≠ ((21 : Nat) : Int) := sw_ne (by omega) d21 h0
        have q22 : v1.toInt ≠ ((22 : Nat) : Int) := sw_ne (by omega) d22 h0
        have q23 : v1.toInt ≠ ((23 : Nat) : Int) := sw_ne (by omega) d23 h0
        have q24 : v1.toInt ≠ ((24 : Nat) : Int) := sw_ne (by omega) d24 h0
        omega
      refine lv_tableOut (tgt := 1119) hx hb dL_law_39 (Or.inr hgt) (by decide) ?_
      exact z1119 C0 hT hN hX hC hbA hA hK ih _ _ _ _ _ _ _ hf hP hD hS (lv_sub hl [0, 1, 2, 3, 4] rfl) (by omega) (by omega)
