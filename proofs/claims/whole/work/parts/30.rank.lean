/-! the order of a sweep: reversed hashes -/
def tbt (x : Int32) (p : Nat) : Bool := (bn x).testBit p
theorem tbt_and (x y : Int32) (p : Nat) : tbt (x &&& y) p = (tbt x p && tbt y p) := by
  unfold tbt bn
  rw [Int32.toBitVec_and, BitVec.toNat_and, Nat.testBit_and]
theorem tbt_or (x y : Int32) (p : Nat) : tbt (x ||| y) p = (tbt x p || tbt y p) := by
  unfold tbt bn
  rw [Int32.toBitVec_or, BitVec.toNat_or, Nat.testBit_or]
theorem tbt_shl (x s : Int32) (k : Nat) (hs : (s.toBitVec.smod 32).toNat = k) {p : Nat} (hp : p < 32) : tbt (x <<< s) p = (decide (k ≤ p) && tbt x (p - k)) := by
  unfold tbt bn
  rw [pk_shl x s k hs, Nat.testBit_mod_two_pow, ← Nat.shiftLeft_eq, Nat.testBit_shiftLeft]
  simp [hp]
theorem tbt_ushr (x s : Int32) (k : Nat) (hs : ((s.toUInt32 &&& Int32.toUInt32 31).toBitVec % 32).toNat = k) (p : Nat) : tbt (ushr x s) p = tbt x (p + k) := by
  unfold tbt bn ushr
  rw [pk_ushr x s k hs, ← Nat.shiftRight_eq_div_pow, Nat.testBit_shiftRight, Nat.add_comm]
theorem stage (x m s s' : Int32) (k : Nat) (hk : k = 1 ∨ k = 2 ∨ k = 4) (h1 : (s.toBitVec.smod 32).toNat = k) (h2 : ((s'.toUInt32 &&& Int32.toUInt32 31).toBitVec % 32).toNat = k) (hm : ∀ p, p < 32 → tbt m p = decide (p / k % 2 = 0)) {p : Nat} (hp : p < 32) : tbt (((x &&& m) <<< s) ||| (ushr x s' &&& m)) p = tbt x (if p / k % 2 = 0 then p + k else p - k) := by
  rw [tbt_or, tbt_shl _ _ k h1 hp, tbt_and, tbt_and, tbt_ushr _ _ k h2, hm p hp, hm (p - k) (by omega)]
  by_cases q : p / k % 2 = 0
  · rw [if_pos q]
    have e : decide (p / k % 2 = 0) = true := decide_eq_true q
    rw [e]
    by_cases q2 : k ≤ p
    · have : ¬ (p - k) / k % 2 = 0 := by rcases hk with rfl | rfl | rfl <;> omega
      rw [decide_eq_false this]
      simp
    · rw [decide_eq_false q2]
      simp
  · rw [if_neg q, decide_eq_false q]
    have q2 : k ≤ p := by rcases hk with rfl | rfl | rfl <;> omega
    have : (p - k) / k % 2 = 0 := by rcases hk with rfl | rfl | rfl <;> omega
    rw [decide_eq_true q2, decide_eq_true this]
    simp
theorem mask1 : ∀ p, p < 32 → tbt 1431655765 p = decide (p / 1 % 2 = 0) := by decide +kernel
theorem mask2 : ∀ p, p < 32 → tbt 858993459 p = decide (p / 2 % 2 = 0) := by decide +kernel
theorem mask4 : ∀ p, p < 32 → tbt 252645135 p = decide (p / 4 % 2 = 0) := by decide +kernel
theorem mask8 : ∀ p, p < 32 → tbt 65280 p = decide (8 ≤ p ∧ p < 16) := by decide +kernel
def rvb (p : Nat) : Nat := if p < 8 then p + 24 else if p < 16 then p + 8 else if p < 24 then p - 8 else p - 24
theorem bytes_bit (x : Int32) : ∃ y, jreverseBytes x = some y ∧ ∀ p, p < 32 → tbt y p = tbt x (rvb p) := by
  refine ⟨_, rfl, fun p hp => ?_⟩
  rw [tbt_or, tbt_or, tbt_or, tbt_shl _ _ 24 (by decide) hp, tbt_shl _ _ 8 (by decide) hp, tbt_and, tbt_and, tbt_ushr _ _ 8 (by decide), tbt_ushr _ _ 24 (by decide), mask8 p hp, mask8 (p - 8) (by omega)]
  have hbig : ∀ q, 32 ≤ q → tbt x q = false := fun q hq => Nat.testBit_lt_two_pow (Nat.lt_of_lt_of_le (bn_lt x) (Nat.pow_le_pow_right (by omega) hq))
  unfold rvb
  by_cases q1 : p < 8
  · rw [if_pos q1, decide_eq_false (show ¬ 24 ≤ p by omega), decide_eq_false (show ¬ 8 ≤ p by omega), decide_eq_false (show ¬ (8 ≤ p ∧ p < 16) by omega)]
    simp
  · rw [if_neg q1]
    by_cases q2 : p < 16
    · rw [if_pos q2, decide_eq_false (show ¬ 24 ≤ p by omega), decide_eq_false (show ¬ (8 ≤ p - 8 ∧ p - 8 < 16) by omega), decide_eq_true (show 8 ≤ p ∧ p < 16 by omega), hbig (p + 24) (by omega)]
      simp
    · rw [if_neg q2]
      by_cases q3 : p < 24
      · rw [if_pos q3, decide_eq_false (show ¬ 24 ≤ p by omega), decide_eq_true (show 8 ≤ p - 8 ∧ p - 8 < 16 by omega), decide_eq_true (show 8 ≤ p by omega), decide_eq_false (show ¬ (8 ≤ p ∧ p < 16) by omega), hbig (p + 24) (by omega)]
        simp
      · rw [if_neg q3, decide_eq_true (show 24 ≤ p by omega), decide_eq_false (show ¬ (8 ≤ p - 8 ∧ p - 8 < 16) by omega), decide_eq_false (show ¬ (8 ≤ p ∧ p < 16) by omega), hbig (p + 24) (by omega)]
        simp
def st_i (k p : Nat) : Nat := if p / k % 2 = 0 then p + k else p - k
theorem st_all : ∀ p, p < 32 → rvb p < 32 ∧ st_i 4 (rvb p) < 32 ∧ st_i 2 (st_i 4 (rvb p)) < 32 ∧ st_i 1 (st_i 2 (st_i 4 (rvb p))) = 31 - p := by decide +kernel
def rs1 (x : Int32) : Int32 := ((x &&& 1431655765) <<< (1 &&& 31)) ||| ((ushr x 1) &&& 1431655765)
def rs2 (x : Int32) : Int32 := ((x &&& 858993459) <<< (2 &&& 31)) ||| ((ushr x 2) &&& 858993459)
def rs4 (x : Int32) : Int32 := ((x &&& 252645135) <<< (4 &&& 31)) ||| ((ushr x 4) &&& 252645135)
theorem rev_bit (x : Int32) : ∃ y, jreverse x = some y ∧ ∀ p, p < 32 → tbt y p = tbt x (31 - p) := by
  obtain ⟨y, h1, h2⟩ := bytes_bit (rs4 (rs2 (rs1 x)))
  have hj : jreverse x = bd (jreverseBytes (rs4 (rs2 (rs1 x)))) (fun v4 => some v4) := rfl
  refine ⟨y, ?_, fun p hp => ?_⟩
  · rw [hj, h1, bd_some]
  · obtain ⟨a1, a2, a3, a4⟩ := st_all p hp
    rw [h2 p hp, show tbt (rs4 (rs2 (rs1 x))) (rvb p) = tbt (rs2 (rs1 x)) (st_i 4 (rvb p)) from stage _ _ _ _ 4 (by omega) (by decide) (by decide) mask4 a1, show tbt (rs2 (rs1 x)) (st_i 4 (rvb p)) = tbt (rs1 x) (st_i 2 (st_i 4 (rvb p))) from stage _ _ _ _ 2 (by omega) (by decide) (by decide) mask2 a2, show tbt (rs1 x) (st_i 2 (st_i 4 (rvb p))) = tbt x (st_i 1 (st_i 2 (st_i 4 (rvb p)))) from stage _ _ _ _ 1 (by omega) (by decide) (by decide) mask1 a3, a4]
/-- the first i bits in the opposite order -/
def rvn (n : Nat) : Nat → Nat
  | 0 => 0
  | i + 1 => 2 * rvn n i + n / 2 ^ i % 2
theorem rvn_lt (n : Nat) : ∀ i, rvn n i < 2 ^ i
  | 0 => by
    show 0 < 1
    omega
  | i + 1 => by
    have := rvn_lt n i
    show 2 * rvn n i + n / 2 ^ i % 2 < 2 ^ (i + 1)
    rw [Nat.pow_succ]
    omega
theorem rvn_bit (n : Nat) : ∀ i p, p < i → (rvn n i).testBit p = n.testBit (i - 1 - p)
  | 0, p, h => by omega
  | i + 1, 0, h => by
    show (2 * rvn n i + n / 2 ^ i % 2).testBit 0 = n.testBit (i + 1 - 1 - 0)
    rw [Nat.testBit_zero, Nat.testBit_eq_decide_div_mod_eq, show i + 1 - 1 - 0 = i by omega]
    congr 1
    apply propext
    omega
  | i + 1, p + 1, h => by
    show (2 * rvn n i + n / 2 ^ i % 2).testBit (p + 1) = n.testBit (i + 1 - 1 - (p + 1))
    rw [Nat.testBit_succ, show (2 * rvn n i + n / 2 ^ i % 2) / 2 = rvn n i by omega, rvn_bit n i p (by omega), show i + 1 - 1 - (p + 1) = i - 1 - p by omega]
def rkN (h : Int32) : Nat := rvn (bn h) 32
theorem rkN_lt (h : Int32) : rkN h < 2 ^ 32 := rvn_lt _ _
theorem rev_bn {x y : Int32} (h : ∀ p, p < 32 → tbt y p = tbt x (31 - p)) : bn y = rkN x := by
  apply Nat.eq_of_testBit_eq
  intro p
  rcases Nat.lt_or_ge p 32 with q | q
  · unfold rkN
    rw [rvn_bit _ _ _ q]
    exact h p q
  · rw [Nat.testBit_lt_two_pow (Nat.lt_of_lt_of_le (bn_lt y) (Nat.pow_le_pow_right (by omega) q)), Nat.testBit_lt_two_pow (Nat.lt_of_lt_of_le (rkN_lt x) (Nat.pow_le_pow_right (by omega) q))]
theorem rkN_inj {x y : Int32} (h : rkN x = rkN y) : x = y := by
  apply bn_inj
  apply Nat.eq_of_testBit_eq
  intro p
  rcases Nat.lt_or_ge p 32 with q | q
  · have h1 := rvn_bit (bn x) 32 (31 - p) (by omega)
    have h2 := rvn_bit (bn y) 32 (31 - p) (by omega)
    rw [show 32 - 1 - (31 - p) = p by omega] at h1 h2
    rw [← h1, ← h2]
    exact congrArg (fun z => z.testBit (31 - p)) h
  · rw [Nat.testBit_lt_two_pow (Nat.lt_of_lt_of_le (bn_lt x) (Nat.pow_le_pow_right (by omega) q)), Nat.testBit_lt_two_pow (Nat.lt_of_lt_of_le (bn_lt y) (Nat.pow_le_pow_right (by omega) q))]
/-- as a long -/
def rkL (h : Int32) : Int64 := lN (rkN h)
theorem unsigned_eq (y : Int32) : jtoUnsignedLong y = some (lN (bn y)) := by
  unfold jtoUnsignedLong
  congr 1
  apply Int64.toBitVec_inj.mp
  apply BitVec.eq_of_toNat_eq
  rw [Int64.toBitVec_and, BitVec.toNat_and, Int32.toBitVec_toInt64, show (4294967295 : Int64).toBitVec.toNat = 2 ^ 32 - 1 by decide, Nat.and_two_pow_sub_one_eq_mod]
  have h1 : (lN (bn y)).toBitVec.toNat = bn y := by
    have := bn_lt y
    exact Nat.mod_eq_of_lt (show bn y < 2 ^ 64 by omega)
  rw [h1]
  have h2 := bn_lt y
  unfold bn at h2 ⊢
  rw [BitVec.toNat_signExtend, BitVec.toNat_setWidth]
  split <;> omega
theorem class_rank {hf : Int32 → Int32} {c : Ct} {τ : Tb} {i : Nat} {k v : Int32} (hi : i < 256) (h : TRs hf c τ i) (hc : c i = some (k, v)) : tt_rankIn τ (nI i) = some (rkL (hf k)) := by
  unfold tt_rankIn
  obtain ⟨y, h1, h2⟩ := rev_bit (hf k)
  rw [g256 hi, cl256 hi, (tk_some h hc).2.1, h1, bd_some, unsigned_eq, bd_some, rev_bn h2]
  rfl
theorem sh_ok : ∀ i, i < 32 → (((nI i).toUInt32 &&& Int32.toUInt32 31).toBitVec % 32).toNat = i := by decide +kernel
theorem order_lp (σ : MS) (h : Int32) : ∀ d i f, i + d = 32 → d < f → mm_orderOf_lp11 σ f h (lN (rvn (bn h) i)) (nI i) = some (rkL h) := by
  intro d
  induction d with
  | zero =>
    intro i f hi hf
    obtain ⟨f, rfl⟩ : ∃ f', f = f' + 1 := ⟨f - 1, by omega⟩
    have : i = 32 := by omega
    subst this
    show mm_orderOf_11 σ (mm_orderOf_lp11 σ f) h (lN (rvn (bn h) 32)) (nI 32) = _
    unfold mm_orderOf_11
    rw [it_T (show (32 : Int32) ≤ nI 32 by decide)]
    rfl
  | succ d ih =>
    intro i f hi hf
    obtain ⟨f, rfl⟩ : ∃ f', f = f' + 1 := ⟨f - 1, by omega⟩
    show mm_orderOf_11 σ (mm_orderOf_lp11 σ f) h (lN (rvn (bn h) i)) (nI i) = _
    unfold mm_orderOf_11
    have e1 : ushr h (nI i) &&& 1 = nI (bn h / 2 ^ i % 2) := by
      rw [pk_and _ 1 (by decide)]
      congr 1
      rw [show (ushr h (nI i)).toBitVec.toNat = bn h / 2 ^ i from pk_ushr h (nI i) i (sh_ok i (by omega))]
    have e2 : (nI (bn h / 2 ^ i % 2)).toInt64 = lN (bn h / 2 ^ i % 2) := nI_l (by omega)
    rw [it_F (show ¬ (32 : Int32) ≤ nI i from nI_ge (b := 32) (by omega) (by omega)), nm_eq, nm_eq, e1, e2, show (2 : Int64) = lN 2 from rfl, lN_mul, lN_add, nI_1]
    exact ih (i + 1) f (by omega) (by omega)
theorem order_eq {w : Int32} {σ : MS} (hw : Way w) (hs : m_way σ = w) (k : Int32) : mm_orderOf σ k = some (rkL (hsh w k)) := by
  unfold mm_orderOf
  rw [m_hash hw hs, bd_some]
  exact order_lp σ (hsh w k) 32 0 FU rfl (by decide)
/-! no two keys have the same hash -/
theorem xs_inj {x y : Int32} (h : x ^^^ ushr x 15 = y ^^^ ushr y 15) : x = y := by
  have hb : ∀ p, (tbt x p ^^ tbt x (p + 15)) = (tbt y p ^^ tbt y (p + 15)) := by
    intro p
    have e : ∀ z : Int32, tbt (z ^^^ ushr z 15) p = (tbt z p ^^ tbt z (p + 15)) := by
      intro z
      rw [← tbt_ushr z 15 15 (by decide) p]
      unfold tbt bn
      rw [Int32.toBitVec_xor, BitVec.toNat_xor, Nat.testBit_xor]
    rw [← e x, ← e y, h]
  have hbig : ∀ (z : Int32) q, 32 ≤ q → tbt z q = false := fun z q hq => Nat.testBit_lt_two_pow (Nat.lt_of_lt_of_le (bn_lt z) (Nat.pow_le_pow_right (by omega) hq))
  have hall : ∀ d p, 32 ≤ p + d → tbt x p = tbt y p := by
    intro d
    induction d with
    | zero =>
      intro p hp
      rw [hbig x p (by omega), hbig y p (by omega)]
    | succ d ih =>
      intro p hp
      have h1 := hb p
      rw [ih (p + 15) (by omega)] at h1
      cases h2 : tbt x p <;> cases h3 : tbt y p <;> cases h4 : tbt y (p + 15) <;> rw [h2, h3, h4] at h1 <;> first | rfl | (exact absurd h1 (by decide))
  apply bn_inj
  apply Nat.eq_of_testBit_eq
  intro p
  exact hall 32 p (by omega)
theorem hsh_inj {w k k' : Int32} (h : hsh w k = hsh w k') : k = k' := by
  unfold hsh at h
  split at h
  · exact h
  · have h2 := xs_inj h
    have e : ∀ z : Int32, z * (-1640531535) * 244002641 = z := by
      intro z
      rw [Int32.mul_assoc, show (-1640531535 : Int32) * 244002641 = 1 by decide, Int32.mul_one]
    rw [← e k, ← e k', h2]
theorem rk_inj {w k k' : Int32} (h : rkL (hsh w k) = rkL (hsh w k')) : k = k' := by
  have h1 := rkN_lt (hsh w k)
  have h2 := rkN_lt (hsh w k')
  exact hsh_inj (rkN_inj ((pk_lEQ (by omega) (by omega)).mp h))
