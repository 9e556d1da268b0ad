abbrev Tb : Type := (Nat → Int32) × (Nat → Int32) × (Nat → Int32) × (Nat → Int32) × Int32 × Int32
def tb_ctl (s : Tb) : (Nat → Int32) := s.1
def tb_ctl' (s : Tb) (v : (Nat → Int32)) : Tb := (v, s.2.1, s.2.2.1, s.2.2.2.1, s.2.2.2.2.1, s.2.2.2.2.2)
def tb_hs (s : Tb) : (Nat → Int32) := s.2.1
def tb_hs' (s : Tb) (v : (Nat → Int32)) : Tb := (s.1, v, s.2.2.1, s.2.2.2.1, s.2.2.2.2.1, s.2.2.2.2.2)
def tb_ks (s : Tb) : (Nat → Int32) := s.2.2.1
def tb_ks' (s : Tb) (v : (Nat → Int32)) : Tb := (s.1, s.2.1, v, s.2.2.2.1, s.2.2.2.2.1, s.2.2.2.2.2)
def tb_vs (s : Tb) : (Nat → Int32) := s.2.2.2.1
def tb_vs' (s : Tb) (v : (Nat → Int32)) : Tb := (s.1, s.2.1, s.2.2.1, v, s.2.2.2.2.1, s.2.2.2.2.2)
def tb_sl (s : Tb) : Int32 := s.2.2.2.2.1
def tb_sl' (s : Tb) (v : Int32) : Tb := (s.1, s.2.1, s.2.2.1, s.2.2.2.1, v, s.2.2.2.2.2)
def tb_ct (s : Tb) : Int32 := s.2.2.2.2.2
def tb_ct' (s : Tb) (v : Int32) : Tb := (s.1, s.2.1, s.2.2.1, s.2.2.2.1, s.2.2.2.2.1, v)
abbrev Sw : Type := Int32 × Int32 × Int32 × Int32 × Int64
def sw_open (s : Sw) : Int32 := s.1
def sw_open' (s : Sw) (v : Int32) : Sw := (v, s.2.1, s.2.2.1, s.2.2.2.1, s.2.2.2.2)
def sw_may (s : Sw) : Int32 := s.2.1
def sw_may' (s : Sw) (v : Int32) : Sw := (s.1, v, s.2.2.1, s.2.2.2.1, s.2.2.2.2)
def sw_met (s : Sw) : Int32 := s.2.2.1
def sw_met' (s : Sw) (v : Int32) : Sw := (s.1, s.2.1, v, s.2.2.2.1, s.2.2.2.2)
def sw_key (s : Sw) : Int32 := s.2.2.2.1
def sw_key' (s : Sw) (v : Int32) : Sw := (s.1, s.2.1, s.2.2.1, v, s.2.2.2.2)
def sw_rank (s : Sw) : Int64 := s.2.2.2.2
def sw_rank' (s : Sw) (v : Int64) : Sw := (s.1, s.2.1, s.2.2.1, s.2.2.2.1, v)
abbrev Se : Type := Option Nat × Int32 × Int32 × Int32
def se_tb (s : Se) : Option Nat := s.1
def se_tb' (s : Se) (v : Option Nat) : Se := (v, s.2.1, s.2.2.1, s.2.2.2)
def se_slot (s : Se) : Int32 := s.2.1
def se_slot' (s : Se) (v : Int32) : Se := (s.1, v, s.2.2.1, s.2.2.2)
def se_groups (s : Se) : Int32 := s.2.2.1
def se_groups' (s : Se) (v : Int32) : Se := (s.1, s.2.1, v, s.2.2.2)
def se_comps (s : Se) : Int32 := s.2.2.2
def se_comps' (s : Se) (v : Int32) : Se := (s.1, s.2.1, s.2.2.1, v)
abbrev Pl : Type := (Nat → Int32) × (Nat → Int32) × Int32 × Int32
def pl_rising (s : Pl) : (Nat → Int32) := s.1
def pl_rising' (s : Pl) (v : (Nat → Int32)) : Pl := (v, s.2.1, s.2.2.1, s.2.2.2)
def pl_taken (s : Pl) : (Nat → Int32) := s.2.1
def pl_taken' (s : Pl) (v : (Nat → Int32)) : Pl := (s.1, v, s.2.2.1, s.2.2.2)
def pl_total (s : Pl) : Int32 := s.2.2.1
def pl_total' (s : Pl) (v : Int32) : Pl := (s.1, s.2.1, v, s.2.2.2)
def pl_longest (s : Pl) : Int32 := s.2.2.2
def pl_longest' (s : Pl) (v : Int32) : Pl := (s.1, s.2.1, s.2.2.1, v)
abbrev RR : Type := Tb × Tb × Nat × Nat × (Nat → Sw) × Se × Pl × Int32 × Int32
def rr_P (s : RR) : Tb := s.1
def rr_P' (s : RR) (v : Tb) : RR := (v, s.2.1, s.2.2.1, s.2.2.2.1, s.2.2.2.2.1, s.2.2.2.2.2.1, s.2.2.2.2.2.2.1, s.2.2.2.2.2.2.2.1, s.2.2.2.2.2.2.2.2)
def rr_O (s : RR) : Tb := s.2.1
def rr_O' (s : RR) (v : Tb) : RR := (s.1, v, s.2.2.1, s.2.2.2.1, s.2.2.2.2.1, s.2.2.2.2.2.1, s.2.2.2.2.2.2.1, s.2.2.2.2.2.2.2.1, s.2.2.2.2.2.2.2.2)
def rr_ap (s : RR) : Nat := s.2.2.1
def rr_ap' (s : RR) (v : Nat) : RR := (s.1, s.2.1, v, s.2.2.2.1, s.2.2.2.2.1, s.2.2.2.2.2.1, s.2.2.2.2.2.2.1, s.2.2.2.2.2.2.2.1, s.2.2.2.2.2.2.2.2)
def rr_ao (s : RR) : Nat := s.2.2.2.1
def rr_ao' (s : RR) (v : Nat) : RR := (s.1, s.2.1, s.2.2.1, v, s.2.2.2.2.1, s.2.2.2.2.2.1, s.2.2.2.2.2.2.1, s.2.2.2.2.2.2.2.1, s.2.2.2.2.2.2.2.2)
def rr_sws (s : RR) : (Nat → Sw) := s.2.2.2.2.1
def rr_sws' (s : RR) (v : (Nat → Sw)) : RR := (s.1, s.2.1, s.2.2.1, s.2.2.2.1, v, s.2.2.2.2.2.1, s.2.2.2.2.2.2.1, s.2.2.2.2.2.2.2.1, s.2.2.2.2.2.2.2.2)
def rr_se (s : RR) : Se := s.2.2.2.2.2.1
def rr_se' (s : RR) (v : Se) : RR := (s.1, s.2.1, s.2.2.1, s.2.2.2.1, s.2.2.2.2.1, v, s.2.2.2.2.2.2.1, s.2.2.2.2.2.2.2.1, s.2.2.2.2.2.2.2.2)
def rr_pl (s : RR) : Pl := s.2.2.2.2.2.2.1
def rr_pl' (s : RR) (v : Pl) : RR := (s.1, s.2.1, s.2.2.1, s.2.2.2.1, s.2.2.2.2.1, s.2.2.2.2.2.1, v, s.2.2.2.2.2.2.2.1, s.2.2.2.2.2.2.2.2)
def rr_way (s : RR) : Int32 := s.2.2.2.2.2.2.2.1
def rr_way' (s : RR) (v : Int32) : RR := (s.1, s.2.1, s.2.2.1, s.2.2.2.1, s.2.2.2.2.1, s.2.2.2.2.2.1, s.2.2.2.2.2.2.1, v, s.2.2.2.2.2.2.2.2)
def rr_begun (s : RR) : Int32 := s.2.2.2.2.2.2.2.2
def rr_begun' (s : RR) (v : Int32) : RR := (s.1, s.2.1, s.2.2.1, s.2.2.2.1, s.2.2.2.2.1, s.2.2.2.2.2.1, s.2.2.2.2.2.2.1, s.2.2.2.2.2.2.2.1, v)
abbrev HS : Type := RR × (Nat → Int32) × (Nat → Int32) × (Nat → Int32)
def hs_x (s : HS) : RR := s.1
def hs_x' (s : HS) (v : RR) : HS := (v, s.2.1, s.2.2.1, s.2.2.2)
def hs_k (s : HS) : (Nat → Int32) := s.2.1
def hs_k' (s : HS) (v : (Nat → Int32)) : HS := (s.1, v, s.2.2.1, s.2.2.2)
def hs_v (s : HS) : (Nat → Int32) := s.2.2.1
def hs_v' (s : HS) (v : (Nat → Int32)) : HS := (s.1, s.2.1, v, s.2.2.2)
def hs_n (s : HS) : (Nat → Int32) := s.2.2.2
def hs_n' (s : HS) (v : (Nat → Int32)) : HS := (s.1, s.2.1, s.2.2.1, v)
def itF {T : Type} (z : T) (b : T → T) : Nat → T
  | 0 => z
  | n + 1 => b (itF z b n)
def ushr (x y : Int32) : Int32 := (x.toUInt32 >>> (y.toUInt32 &&& Int32.toUInt32 31)).toInt32
def i2b (x : Int32) : Int32 := x.toInt8.toInt32
def dsp {α : Type} (o : Option Nat) (a b : Nat) (x y : Option α) : Option α := if o = some a then x else if o = some b then y else none
theorem dsp_ob {α : Type} {o : Option Nat} {a b : Nat} {x y : Option α} {r : α} (h : dsp o a b x y = some r) : (o = some a ∧ x = some r) ∨ (o = some b ∧ y = some r) := by
  unfold dsp at h
  by_cases q : o = some a
  · rw [if_pos q] at h
    exact Or.inl ⟨q, h⟩
  · rw [if_neg q] at h
    by_cases q2 : o = some b
    · rw [if_pos q2] at h
      exact Or.inr ⟨q2, h⟩
    · rw [if_neg q2] at h
      cases h
theorem nr_z {v : Int32} (h : vp_nar .boolean v = v) : narrow .boolean (.int v) = .int v := congrArg Value.int h
theorem nr_b {v : Int32} (h : vp_nar .byte v = v) : narrow .byte (.int v) = .int v := congrArg Value.int h
def wTab (ca : Nat → ClassId) (h : Nat) (ar : Nat → Nat) (τ : Tb) : va_W := [(h, .inr (3, [.ref (ar 0), .ref (ar 1), .ref (ar 2), .ref (ar 3), .int (tb_sl τ), .int (tb_ct τ)])), (ar 0, .inl (ca 1, 256, .inl (tb_ctl τ))), (ar 1, .inl (ca 0, 256, .inl (tb_hs τ))), (ar 2, .inl (ca 0, 256, .inl (tb_ks τ))), (ar 3, .inl (ca 0, 256, .inl (tb_vs τ)))]
def wSw (h : Nat) (τ : Sw) : va_W := [(h, .inr (2, [.int (sw_open τ), .int (sw_may τ), .int (sw_met τ), .int (sw_key τ), .long (sw_rank τ)]))]
def wSe (h : Nat) (τ : Se) : va_W := [(h, .inr (1, [va_rf (se_tb τ), .int (se_slot τ), .int (se_groups τ), .int (se_comps τ)]))]
def wPl (ca : Nat → ClassId) (h : Nat) (pr : Nat → Nat) (τ : Pl) : va_W := [(h, .inr (0, [.ref (pr 0), .ref (pr 1), .int (pl_total τ), .int (pl_longest τ)])), (pr 0, .inl (ca 0, 256, .inl (pl_rising τ))), (pr 1, .inl (ca 2, 256, .inl (pl_taken τ)))]
def wLk (ca : Nat → ClassId) (h wh : Nat) (ar : Nat → Nat) (t : Tb) (τ : Se) : va_W := wSe h τ ++ wTab ca wh ar t
def wPk (ca : Nat → ClassId) (h : Nat) (pr : Nat → Nat) (wh : Nat) (ar : Nat → Nat) (t : Tb) (τ : Pl) : va_W := wPl ca h pr τ ++ wTab ca wh ar t
def wSk (ca : Nat → ClassId) (h wh : Nat) (ar : Nat → Nat) (t : Tb) (wo : Nat) (br : Nat → Nat) (u : Tb) (τ : Se) : va_W := wSe h τ ++ (wTab ca wh ar t ++ wTab ca wo br u)
def swf (B : Nat → Nat) : Nat → Option Nat := va_up (va_up (va_up (va_up (fun _ => none) 0 (some (B 2))) 1 (some (B 3))) 2 (some (B 4))) 3 (some (B 5))
def wRR (ca : Nat → ClassId) (B : Nat → Nat) (ar : Nat → Nat → Nat) (σ : RR) : va_W := (B 0, .inr (4, [.ref (B 1), .ref (B 6), .ref (B 7), .ref (rr_ap σ), .ref (rr_ao σ), .int (rr_way σ), .int (rr_begun σ)])) :: (B 1, .inl (ca 4, 4, .inr (.inr (.inr (.inr (swf B)))))) :: (wSw (B 2) (rr_sws σ 0) ++ (wSw (B 3) (rr_sws σ 1) ++ (wSw (B 4) (rr_sws σ 2) ++ (wSw (B 5) (rr_sws σ 3) ++ (wSe (B 6) (rr_se σ) ++ (wPl ca (B 7) (fun i => B (8 + i)) (rr_pl σ) ++ (wTab ca (rr_ap σ) (ar (rr_ap σ)) (rr_P σ) ++ wTab ca (rr_ao σ) (ar (rr_ao σ)) (rr_O σ))))))))
def rr_swap (σ : RR) : RR := (rr_O σ, rr_P σ, rr_ao σ, rr_ap σ, rr_sws σ, rr_se σ, rr_pl σ, rr_way σ, rr_begun σ)
def wA (ca : Nat → ClassId) (h : Nat) (τ : Nat → Int32) : va_W := [(h, .inl (ca 0, 64, .inl τ))]
def wH (ca : Nat → ClassId) (B : Nat → Nat) (ar : Nat → Nat → Nat) (E : Nat → Nat) (σ : HS) : va_W := wRR ca B ar (hs_x σ) ++ [(E 0, .inl (ca 0, 64, .inl (hs_k σ))), (E 1, .inl (ca 0, 64, .inl (hs_v σ))), (E 2, .inl (ca 0, 1, .inl (hs_n σ)))]
theorem fr_LT (ca : Nat → ClassId) (h wh : Nat) (ar : Nat → Nat) (t : Tb) (τ : Se) : Fr (wLk ca h wh ar t τ) (wTab ca wh ar t) (wTab ca wh ar t) (wLk ca h wh ar t τ) := ⟨[1, 2, 3, 4, 5], [0], [0, 1, 2, 3, 4, 5], wSe h τ, rfl, rfl, rfl, rfl, by decide, rfl, rfl⟩
theorem fr_LS (ca : Nat → ClassId) (h wh : Nat) (ar : Nat → Nat) (t : Tb) (τ τ' : Se) : Fr (wLk ca h wh ar t τ) (wSe h τ) (wSe h τ') (wLk ca h wh ar t τ') := ⟨[0], [1, 2, 3, 4, 5], [5, 0, 1, 2, 3, 4], wTab ca wh ar t, rfl, rfl, rfl, rfl, by decide, rfl, rfl⟩
theorem fr_PT (ca : Nat → ClassId) (h : Nat) (pr : Nat → Nat) (wh : Nat) (ar : Nat → Nat) (t : Tb) (τ : Pl) : Fr (wPk ca h pr wh ar t τ) (wTab ca wh ar t) (wTab ca wh ar t) (wPk ca h pr wh ar t τ) := ⟨[3, 4, 5, 6, 7], [0, 1, 2], [0, 1, 2, 3, 4, 5, 6, 7], wPl ca h pr τ, rfl, rfl, rfl, rfl, by decide, rfl, rfl⟩
theorem fr_KT (ca : Nat → ClassId) (h wh : Nat) (ar : Nat → Nat) (t : Tb) (wo : Nat) (br : Nat → Nat) (u : Tb) (τ : Se) : Fr (wSk ca h wh ar t wo br u τ) (wTab ca wh ar t) (wTab ca wh ar t) (wSk ca h wh ar t wo br u τ) := ⟨[1, 2, 3, 4, 5], [0, 6, 7, 8, 9, 10], [0, 6, 7, 8, 9, 10, 1, 2, 3, 4, 5], wSe h τ ++ wTab ca wo br u, rfl, rfl, rfl, rfl, by decide, rfl, rfl⟩
theorem fr_KU (ca : Nat → ClassId) (h wh : Nat) (ar : Nat → Nat) (t : Tb) (wo : Nat) (br : Nat → Nat) (u : Tb) (τ : Se) : Fr (wSk ca h wh ar t wo br u τ) (wTab ca wo br u) (wTab ca wo br u) (wSk ca h wh ar t wo br u τ) := ⟨[6, 7, 8, 9, 10], [0, 1, 2, 3, 4, 5], [0, 1, 2, 3, 4, 5, 6, 7, 8, 9, 10], wSe h τ ++ wTab ca wh ar t, rfl, rfl, rfl, rfl, by decide, rfl, rfl⟩
theorem fr_KS (ca : Nat → ClassId) (h wh : Nat) (ar : Nat → Nat) (t : Tb) (wo : Nat) (br : Nat → Nat) (u : Tb) (τ τ' : Se) : Fr (wSk ca h wh ar t wo br u τ) (wSe h τ) (wSe h τ') (wSk ca h wh ar t wo br u τ') := ⟨[0], [1, 2, 3, 4, 5, 6, 7, 8, 9, 10], [10, 0, 1, 2, 3, 4, 5, 6, 7, 8, 9], wTab ca wh ar t ++ wTab ca wo br u, rfl, rfl, rfl, rfl, by decide, rfl, rfl⟩
theorem fr_RP (ca : Nat → ClassId) (B : Nat → Nat) (ar : Nat → Nat → Nat) (σ : RR) (v : Tb) : Fr (wRR ca B ar σ) (wTab ca (rr_ap σ) (ar (rr_ap σ)) (rr_P σ)) (wTab ca (rr_ap σ) (ar (rr_ap σ)) v) (wRR ca B ar (rr_P' σ v)) := ⟨[10, 11, 12, 13, 14], [0, 1, 2, 3, 4, 5, 6, 7, 8, 9, 15, 16, 17, 18, 19], [0, 1, 2, 3, 4, 5, 6, 7, 8, 9, 15, 16, 17, 18, 19, 10, 11, 12, 13, 14], [0, 1, 2, 3, 4, 5, 6, 7, 8, 9, 15, 16, 17, 18, 19].filterMap (fun i => (wRR ca B ar σ)[i]?), rfl, rfl, rfl, rfl, by decide, rfl, rfl⟩
theorem fr_RPp (ca : Nat → ClassId) (B : Nat → Nat) (ar : Nat → Nat → Nat) (σ : RR) : Fr (wRR ca B ar σ) (wTab ca (rr_ap σ) (ar (rr_ap σ)) (rr_P σ)) (wTab ca (rr_ap σ) (ar (rr_ap σ)) (rr_P σ)) (wRR ca B ar σ) := ⟨[10, 11, 12, 13, 14], [0, 1, 2, 3, 4, 5, 6, 7, 8, 9, 15, 16, 17, 18, 19], [0, 1, 2, 3, 4, 5, 6, 7, 8, 9, 15, 16, 17, 18, 19, 10, 11, 12, 13, 14], [0, 1, 2, 3, 4, 5, 6, 7, 8, 9, 15, 16, 17, 18, 19].filterMap (fun i => (wRR ca B ar σ)[i]?), rfl, rfl, rfl, rfl, by decide, rfl, rfl⟩
theorem fr_RO (ca : Nat → ClassId) (B : Nat → Nat) (ar : Nat → Nat → Nat) (σ : RR) (v : Tb) : Fr (wRR ca B ar σ) (wTab ca (rr_ao σ) (ar (rr_ao σ)) (rr_O σ)) (wTab ca (rr_ao σ) (ar (rr_ao σ)) v) (wRR ca B ar (rr_O' σ v)) := ⟨[15, 16, 17, 18, 19], [0, 1, 2, 3, 4, 5, 6, 7, 8, 9, 10, 11, 12, 13, 14], [0, 1, 2, 3, 4, 5, 6, 7, 8, 9, 10, 11, 12, 13, 14, 15, 16, 17, 18, 19], [0, 1, 2, 3, 4, 5, 6, 7, 8, 9, 10, 11, 12, 13, 14].filterMap (fun i => (wRR ca B ar σ)[i]?), rfl, rfl, rfl, rfl, by decide, rfl, rfl⟩
theorem fr_ROp (ca : Nat → ClassId) (B : Nat → Nat) (ar : Nat → Nat → Nat) (σ : RR) : Fr (wRR ca B ar σ) (wTab ca (rr_ao σ) (ar (rr_ao σ)) (rr_O σ)) (wTab ca (rr_ao σ) (ar (rr_ao σ)) (rr_O σ)) (wRR ca B ar σ) := ⟨[15, 16, 17, 18, 19], [0, 1, 2, 3, 4, 5, 6, 7, 8, 9, 10, 11, 12, 13, 14], [0, 1, 2, 3, 4, 5, 6, 7, 8, 9, 10, 11, 12, 13, 14, 15, 16, 17, 18, 19], [0, 1, 2, 3, 4, 5, 6, 7, 8, 9, 10, 11, 12, 13, 14].filterMap (fun i => (wRR ca B ar σ)[i]?), rfl, rfl, rfl, rfl, by decide, rfl, rfl⟩
theorem fr_RS (ca : Nat → ClassId) (B : Nat → Nat) (ar : Nat → Nat → Nat) (σ : RR) (v : Se) : Fr (wRR ca B ar σ) (wSe (B 6) (rr_se σ)) (wSe (B 6) v) (wRR ca B ar (rr_se' σ v)) := ⟨[6], [0, 1, 2, 3, 4, 5, 7, 8, 9, 10, 11, 12, 13, 14, 15, 16, 17, 18, 19], [0, 1, 2, 3, 4, 5, 19, 6, 7, 8, 9, 10, 11, 12, 13, 14, 15, 16, 17, 18], [0, 1, 2, 3, 4, 5, 7, 8, 9, 10, 11, 12, 13, 14, 15, 16, 17, 18, 19].filterMap (fun i => (wRR ca B ar σ)[i]?), rfl, rfl, rfl, rfl, by decide, rfl, rfl⟩
theorem fr_RSp (ca : Nat → ClassId) (B : Nat → Nat) (ar : Nat → Nat → Nat) (σ : RR) : Fr (wRR ca B ar σ) (wSe (B 6) (rr_se σ)) (wSe (B 6) (rr_se σ)) (wRR ca B ar σ) := ⟨[6], [0, 1, 2, 3, 4, 5, 7, 8, 9, 10, 11, 12, 13, 14, 15, 16, 17, 18, 19], [0, 1, 2, 3, 4, 5, 19, 6, 7, 8, 9, 10, 11, 12, 13, 14, 15, 16, 17, 18], [0, 1, 2, 3, 4, 5, 7, 8, 9, 10, 11, 12, 13, 14, 15, 16, 17, 18, 19].filterMap (fun i => (wRR ca B ar σ)[i]?), rfl, rfl, rfl, rfl, by decide, rfl, rfl⟩
theorem fr_RLP (ca : Nat → ClassId) (B : Nat → Nat) (ar : Nat → Nat → Nat) (σ : RR) (v : Se) : Fr (wRR ca B ar σ) (wLk ca (B 6) (rr_ap σ) (ar (rr_ap σ)) (rr_P σ) (rr_se σ)) (wLk ca (B 6) (rr_ap σ) (ar (rr_ap σ)) (rr_P σ) v) (wRR ca B ar (rr_se' σ v)) := ⟨[6, 10, 11, 12, 13, 14], [0, 1, 2, 3, 4, 5, 7, 8, 9, 15, 16, 17, 18, 19], [0, 1, 2, 3, 4, 5, 14, 6, 7, 8, 15, 16, 17, 18, 19, 9, 10, 11, 12, 13], [0, 1, 2, 3, 4, 5, 7, 8, 9, 15, 16, 17, 18, 19].filterMap (fun i => (wRR ca B ar σ)[i]?), rfl, rfl, rfl, rfl, by decide, rfl, rfl⟩
theorem fr_RLPp (ca : Nat → ClassId) (B : Nat → Nat) (ar : Nat → Nat → Nat) (σ : RR) : Fr (wRR ca B ar σ) (wLk ca (B 6) (rr_ap σ) (ar (rr_ap σ)) (rr_P σ) (rr_se σ)) (wLk ca (B 6) (rr_ap σ) (ar (rr_ap σ)) (rr_P σ) (rr_se σ)) (wRR ca B ar σ) := ⟨[6, 10, 11, 12, 13, 14], [0, 1, 2, 3, 4, 5, 7, 8, 9, 15, 16, 17, 18, 19], [0, 1, 2, 3, 4, 5, 14, 6, 7, 8, 15, 16, 17, 18, 19, 9, 10, 11, 12, 13], [0, 1, 2, 3, 4, 5, 7, 8, 9, 15, 16, 17, 18, 19].filterMap (fun i => (wRR ca B ar σ)[i]?), rfl, rfl, rfl, rfl, by decide, rfl, rfl⟩
theorem fr_RLO (ca : Nat → ClassId) (B : Nat → Nat) (ar : Nat → Nat → Nat) (σ : RR) (v : Se) : Fr (wRR ca B ar σ) (wLk ca (B 6) (rr_ao σ) (ar (rr_ao σ)) (rr_O σ) (rr_se σ)) (wLk ca (B 6) (rr_ao σ) (ar (rr_ao σ)) (rr_O σ) v) (wRR ca B ar (rr_se' σ v)) := ⟨[6, 15, 16, 17, 18, 19], [0, 1, 2, 3, 4, 5, 7, 8, 9, 10, 11, 12, 13, 14], [0, 1, 2, 3, 4, 5, 14, 6, 7, 8, 9, 10, 11, 12, 13, 15, 16, 17, 18, 19], [0, 1, 2, 3, 4, 5, 7, 8, 9, 10, 11, 12, 13, 14].filterMap (fun i => (wRR ca B ar σ)[i]?), rfl, rfl, rfl, rfl, by decide, rfl, rfl⟩
theorem fr_RLOp (ca : Nat → ClassId) (B : Nat → Nat) (ar : Nat → Nat → Nat) (σ : RR) : Fr (wRR ca B ar σ) (wLk ca (B 6) (rr_ao σ) (ar (rr_ao σ)) (rr_O σ) (rr_se σ)) (wLk ca (B 6) (rr_ao σ) (ar (rr_ao σ)) (rr_O σ) (rr_se σ)) (wRR ca B ar σ) := ⟨[6, 15, 16, 17, 18, 19], [0, 1, 2, 3, 4, 5, 7, 8, 9, 10, 11, 12, 13, 14], [0, 1, 2, 3, 4, 5, 14, 6, 7, 8, 9, 10, 11, 12, 13, 15, 16, 17, 18, 19], [0, 1, 2, 3, 4, 5, 7, 8, 9, 10, 11, 12, 13, 14].filterMap (fun i => (wRR ca B ar σ)[i]?), rfl, rfl, rfl, rfl, by decide, rfl, rfl⟩
theorem fr_RKP (ca : Nat → ClassId) (B : Nat → Nat) (ar : Nat → Nat → Nat) (σ : RR) (v : Se) : Fr (wRR ca B ar σ) (wSk ca (B 6) (rr_ap σ) (ar (rr_ap σ)) (rr_P σ) (rr_ao σ) (ar (rr_ao σ)) (rr_O σ) (rr_se σ)) (wSk ca (B 6) (rr_ap σ) (ar (rr_ap σ)) (rr_P σ) (rr_ao σ) (ar (rr_ao σ)) (rr_O σ) v) (wRR ca B ar (rr_se' σ v)) := ⟨[6, 10, 11, 12, 13, 14, 15, 16, 17, 18, 19], [0, 1, 2, 3, 4, 5, 7, 8, 9], [0, 1, 2, 3, 4, 5, 9, 6, 7, 8, 10, 11, 12, 13, 14, 15, 16, 17, 18, 19], [0, 1, 2, 3, 4, 5, 7, 8, 9].filterMap (fun i => (wRR ca B ar σ)[i]?), rfl, rfl, rfl, rfl, by decide, rfl, rfl⟩
theorem fr_RKPp (ca : Nat → ClassId) (B : Nat → Nat) (ar : Nat → Nat → Nat) (σ : RR) : Fr (wRR ca B ar σ) (wSk ca (B 6) (rr_ap σ) (ar (rr_ap σ)) (rr_P σ) (rr_ao σ) (ar (rr_ao σ)) (rr_O σ) (rr_se σ)) (wSk ca (B 6) (rr_ap σ) (ar (rr_ap σ)) (rr_P σ) (rr_ao σ) (ar (rr_ao σ)) (rr_O σ) (rr_se σ)) (wRR ca B ar σ) := ⟨[6, 10, 11, 12, 13, 14, 15, 16, 17, 18, 19], [0, 1, 2, 3, 4, 5, 7, 8, 9], [0, 1, 2, 3, 4, 5, 9, 6, 7, 8, 10, 11, 12, 13, 14, 15, 16, 17, 18, 19], [0, 1, 2, 3, 4, 5, 7, 8, 9].filterMap (fun i => (wRR ca B ar σ)[i]?), rfl, rfl, rfl, rfl, by decide, rfl, rfl⟩
theorem fr_RKO (ca : Nat → ClassId) (B : Nat → Nat) (ar : Nat → Nat → Nat) (σ : RR) (v : Se) : Fr (wRR ca B ar σ) (wSk ca (B 6) (rr_ao σ) (ar (rr_ao σ)) (rr_O σ) (rr_ap σ) (ar (rr_ap σ)) (rr_P σ) (rr_se σ)) (wSk ca (B 6) (rr_ao σ) (ar (rr_ao σ)) (rr_O σ) (rr_ap σ) (ar (rr_ap σ)) (rr_P σ) v) (wRR ca B ar (rr_se' σ v)) := ⟨[6, 15, 16, 17, 18, 19, 10, 11, 12, 13, 14], [0, 1, 2, 3, 4, 5, 7, 8, 9], [0, 1, 2, 3, 4, 5, 9, 6, 7, 8, 15, 16, 17, 18, 19, 10, 11, 12, 13, 14], [0, 1, 2, 3, 4, 5, 7, 8, 9].filterMap (fun i => (wRR ca B ar σ)[i]?), rfl, rfl, rfl, rfl, by decide, rfl, rfl⟩
theorem fr_RKOp (ca : Nat → ClassId) (B : Nat → Nat) (ar : Nat → Nat → Nat) (σ : RR) : Fr (wRR ca B ar σ) (wSk ca (B 6) (rr_ao σ) (ar (rr_ao σ)) (rr_O σ) (rr_ap σ) (ar (rr_ap σ)) (rr_P σ) (rr_se σ)) (wSk ca (B 6) (rr_ao σ) (ar (rr_ao σ)) (rr_O σ) (rr_ap σ) (ar (rr_ap σ)) (rr_P σ) (rr_se σ)) (wRR ca B ar σ) := ⟨[6, 15, 16, 17, 18, 19, 10, 11, 12, 13, 14], [0, 1, 2, 3, 4, 5, 7, 8, 9], [0, 1, 2, 3, 4, 5, 9, 6, 7, 8, 15, 16, 17, 18, 19, 10, 11, 12, 13, 14], [0, 1, 2, 3, 4, 5, 7, 8, 9].filterMap (fun i => (wRR ca B ar σ)[i]?), rfl, rfl, rfl, rfl, by decide, rfl, rfl⟩
theorem fr_RPP (ca : Nat → ClassId) (B : Nat → Nat) (ar : Nat → Nat → Nat) (σ : RR) (v : Pl) : Fr (wRR ca B ar σ) (wPk ca (B 7) (fun i => B (8 + i)) (rr_ap σ) (ar (rr_ap σ)) (rr_P σ) (rr_pl σ)) (wPk ca (B 7) (fun i => B (8 + i)) (rr_ap σ) (ar (rr_ap σ)) (rr_P σ) v) (wRR ca B ar (rr_pl' σ v)) := ⟨[7, 8, 9, 10, 11, 12, 13, 14], [0, 1, 2, 3, 4, 5, 6, 15, 16, 17, 18, 19], [0, 1, 2, 3, 4, 5, 6, 12, 13, 14, 15, 16, 17, 18, 19, 7, 8, 9, 10, 11], [0, 1, 2, 3, 4, 5, 6, 15, 16, 17, 18, 19].filterMap (fun i => (wRR ca B ar σ)[i]?), rfl, rfl, rfl, rfl, by decide, rfl, rfl⟩
theorem fr_RPPp (ca : Nat → ClassId) (B : Nat → Nat) (ar : Nat → Nat → Nat) (σ : RR) : Fr (wRR ca B ar σ) (wPk ca (B 7) (fun i => B (8 + i)) (rr_ap σ) (ar (rr_ap σ)) (rr_P σ) (rr_pl σ)) (wPk ca (B 7) (fun i => B (8 + i)) (rr_ap σ) (ar (rr_ap σ)) (rr_P σ) (rr_pl σ)) (wRR ca B ar σ) := ⟨[7, 8, 9, 10, 11, 12, 13, 14], [0, 1, 2, 3, 4, 5, 6, 15, 16, 17, 18, 19], [0, 1, 2, 3, 4, 5, 6, 12, 13, 14, 15, 16, 17, 18, 19, 7, 8, 9, 10, 11], [0, 1, 2, 3, 4, 5, 6, 15, 16, 17, 18, 19].filterMap (fun i => (wRR ca B ar σ)[i]?), rfl, rfl, rfl, rfl, by decide, rfl, rfl⟩
theorem fr_HR (ca : Nat → ClassId) (B : Nat → Nat) (ar : Nat → Nat → Nat) (E : Nat → Nat) (σ : HS) (v : RR) : Fr (wH ca B ar E σ) (wRR ca B ar (hs_x σ)) (wRR ca B ar v) (wH ca B ar E (hs_x' σ v)) := ⟨[0, 1, 2, 3, 4, 5, 6, 7, 8, 9, 10, 11, 12, 13, 14, 15, 16, 17, 18, 19], [20, 21, 22], [3, 4, 5, 6, 7, 8, 9, 10, 11, 12, 13, 14, 15, 16, 17, 18, 19, 20, 21, 22, 0, 1, 2], [20, 21, 22].filterMap (fun i => (wH ca B ar E σ)[i]?), rfl, rfl, rfl, rfl, by decide, rfl, rfl⟩
theorem fr_HRp (ca : Nat → ClassId) (B : Nat → Nat) (ar : Nat → Nat → Nat) (E : Nat → Nat) (σ : HS) : Fr (wH ca B ar E σ) (wRR ca B ar (hs_x σ)) (wRR ca B ar (hs_x σ)) (wH ca B ar E σ) := ⟨[0, 1, 2, 3, 4, 5, 6, 7, 8, 9, 10, 11, 12, 13, 14, 15, 16, 17, 18, 19], [20, 21, 22], [3, 4, 5, 6, 7, 8, 9, 10, 11, 12, 13, 14, 15, 16, 17, 18, 19, 20, 21, 22, 0, 1, 2], [20, 21, 22].filterMap (fun i => (wH ca B ar E σ)[i]?), rfl, rfl, rfl, rfl, by decide, rfl, rfl⟩
theorem fr_Hk (ca : Nat → ClassId) (B : Nat → Nat) (ar : Nat → Nat → Nat) (E : Nat → Nat) (σ : HS) : Fr (wH ca B ar E σ) (wA ca (E 0) (hs_k σ)) (wA ca (E 0) (hs_k σ)) (wH ca B ar E σ) := ⟨[20], [0, 1, 2, 3, 4, 5, 6, 7, 8, 9, 10, 11, 12, 13, 14, 15, 16, 17, 18, 19, 21, 22], [0, 1, 2, 3, 4, 5, 6, 7, 8, 9, 10, 11, 12, 13, 14, 15, 16, 17, 18, 19, 22, 20, 21], [0, 1, 2, 3, 4, 5, 6, 7, 8, 9, 10, 11, 12, 13, 14, 15, 16, 17, 18, 19, 21, 22].filterMap (fun i => (wH ca B ar E σ)[i]?), rfl, rfl, rfl, rfl, by decide, rfl, rfl⟩
theorem fr_Hv (ca : Nat → ClassId) (B : Nat → Nat) (ar : Nat → Nat → Nat) (E : Nat → Nat) (σ : HS) : Fr (wH ca B ar E σ) (wA ca (E 1) (hs_v σ)) (wA ca (E 1) (hs_v σ)) (wH ca B ar E σ) := ⟨[21], [0, 1, 2, 3, 4, 5, 6, 7, 8, 9, 10, 11, 12, 13, 14, 15, 16, 17, 18, 19, 20, 22], [0, 1, 2, 3, 4, 5, 6, 7, 8, 9, 10, 11, 12, 13, 14, 15, 16, 17, 18, 19, 20, 22, 21], [0, 1, 2, 3, 4, 5, 6, 7, 8, 9, 10, 11, 12, 13, 14, 15, 16, 17, 18, 19, 20, 22].filterMap (fun i => (wH ca B ar E σ)[i]?), rfl, rfl, rfl, rfl, by decide, rfl, rfl⟩
/-- a divisor that must not be 0 -/
def g0 {α : Type} (y : Int32) (x : Option α) : Option α := if y = 0 then none else x
theorem g0_ob {α : Type} {y : Int32} {x : Option α} {r : α} (h : g0 y x = some r) : ¬ y = 0 ∧ x = some r := by
  unfold g0 at h
  by_cases q : y = 0
  · rw [if_pos q] at h
    cases h
  · rw [if_neg q] at h
    exact ⟨q, h⟩
/-! the sweeps' cells by their number -/
def adrT (σ : RR) (k : Nat) : Nat := if k = 0 then rr_ap σ else rr_ao σ
theorem swf_at {B : Nat → Nat} : ∀ {k : Nat}, k < 4 → swf B k = some (B (2 + k))
  | 0, _ => rfl
  | 1, _ => rfl
  | 2, _ => rfl
  | 3, _ => rfl
theorem sw_at {ca : Nat → ClassId} {B : Nat → Nat} {ar : Nat → Nat → Nat} {σ : RR} : ∀ {k : Nat}, k < 4 → (wRR ca B ar σ)[2 + k]? = some (B (2 + k), .inr (2, [.int (sw_open (rr_sws σ k)), .int (sw_may (rr_sws σ k)), .int (sw_met (rr_sws σ k)), .int (sw_key (rr_sws σ k)), .long (sw_rank (rr_sws σ k))]))
  | 0, _ => rfl
  | 1, _ => rfl
  | 2, _ => rfl
  | 3, _ => rfl
theorem sw_set {ca : Nat → ClassId} {B : Nat → Nat} {ar : Nat → Nat → Nat} {σ : RR} (v : Sw) : ∀ {k : Nat}, k < 4 → (wRR ca B ar σ).set (2 + k) (B (2 + k), .inr (2, [.int (sw_open v), .int (sw_may v), .int (sw_met v), .int (sw_key v), .long (sw_rank v)])) = wRR ca B ar (rr_sws' σ (va_up (rr_sws σ) k v))
  | 0, _ => rfl
  | 1, _ => rfl
  | 2, _ => rfl
  | 3, _ => rfl
theorem fr_RW (ca : Nat → ClassId) (B : Nat → Nat) (ar : Nat → Nat → Nat) (σ : RR) (v : Sw) : ∀ {k : Nat}, k < 4 → Fr (wRR ca B ar σ) (wSw (B (2 + k)) (rr_sws σ k)) (wSw (B (2 + k)) v) (wRR ca B ar (rr_sws' σ (va_up (rr_sws σ) k v)))
  | 0, _ => ⟨[2], [0, 1, 3, 4, 5, 6, 7, 8, 9, 10, 11, 12, 13, 14, 15, 16, 17, 18, 19], [0, 1, 19, 2, 3, 4, 5, 6, 7, 8, 9, 10, 11, 12, 13, 14, 15, 16, 17, 18], [0, 1, 3, 4, 5, 6, 7, 8, 9, 10, 11, 12, 13, 14, 15, 16, 17, 18, 19].filterMap (fun i => (wRR ca B ar σ)[i]?), rfl, rfl, rfl, rfl, by decide, rfl, rfl⟩
  | 1, _ => ⟨[3], [0, 1, 2, 4, 5, 6, 7, 8, 9, 10, 11, 12, 13, 14, 15, 16, 17, 18, 19], [0, 1, 2, 19, 3, 4, 5, 6, 7, 8, 9, 10, 11, 12, 13, 14, 15, 16, 17, 18], [0, 1, 2, 4, 5, 6, 7, 8, 9, 10, 11, 12, 13, 14, 15, 16, 17, 18, 19].filterMap (fun i => (wRR ca B ar σ)[i]?), rfl, rfl, rfl, rfl, by decide, rfl, rfl⟩
  | 2, _ => ⟨[4], [0, 1, 2, 3, 5, 6, 7, 8, 9, 10, 11, 12, 13, 14, 15, 16, 17, 18, 19], [0, 1, 2, 3, 19, 4, 5, 6, 7, 8, 9, 10, 11, 12, 13, 14, 15, 16, 17, 18], [0, 1, 2, 3, 5, 6, 7, 8, 9, 10, 11, 12, 13, 14, 15, 16, 17, 18, 19].filterMap (fun i => (wRR ca B ar σ)[i]?), rfl, rfl, rfl, rfl, by decide, rfl, rfl⟩
  | 3, _ => ⟨[5], [0, 1, 2, 3, 4, 6, 7, 8, 9, 10, 11, 12, 13, 14, 15, 16, 17, 18, 19], [0, 1, 2, 3, 4, 19, 5, 6, 7, 8, 9, 10, 11, 12, 13, 14, 15, 16, 17, 18], [0, 1, 2, 3, 4, 6, 7, 8, 9, 10, 11, 12, 13, 14, 15, 16, 17, 18, 19].filterMap (fun i => (wRR ca B ar σ)[i]?), rfl, rfl, rfl, rfl, by decide, rfl, rfl⟩
