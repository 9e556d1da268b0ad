abbrev Tb : Type := (Nat → Int32) × (Nat → Int32) × (Nat → Int32) × (Nat → Int32) × Int32 × Int32
def tb_ctl (s : Tb) : (Nat → Int32) := s.1
def tb_ctl' (s : Tb) (v : (Nat → Int32)) : Tb := (v, s.2.1, s.2.2.1, s.2.2.2.1, s.2.2.2.2.1, s.2.2.2.2.2)
def tb_hs (s : Tb) : (Nat → Int32) := s.2.1
def tb_hs' (s : Tb) (v : (Nat → Int32)) : Tb := (s.1, v, s.2.2.1, s.2.2.2.1, s.2.2.2.2.1, s.2.2.2.2.2)
def tb_ks (s : Tb) : (Nat → Int32) := s.2.2.1
def tb_ks' (s : Tb) (v : (Nat → Int32)) : Tb := (s.1, s.2.1, v, s.2.2.2.1, s.2.2.2.2.1, s.2.2.2.2.2)
def tb_vs (s : Tb) : (Nat → Int32) := s.2.2.2.1
def tb_vs' (s : Tb) (v : (Nat → Int32)) : Tb := (s.1, s.2.1, s.2.2.1, v, s.2.2.2.2.1, s.2.2.2.2.2)
def tb_sl (s : Tb) : Int32 := s.2.2.2.2.1
def tb_sl' (s : Tb) (v : Int32) : Tb := (s.1, s.2.1, s.2.2.1, s.2.2.2.1, v, s.2.2.2.2.2)
def tb_ct (s : Tb) : Int32 := s.2.2.2.2.2
def tb_ct' (s : Tb) (v : Int32) : Tb := (s.1, s.2.1, s.2.2.1, s.2.2.2.1, s.2.2.2.2.1, v)
abbrev Sw : Type := Int32 × Int32 × Int32 × Int32 × Int64
def sw_open (s : Sw) : Int32 := s.1
def sw_open' (s : Sw) (v : Int32) : Sw := (v, s.2.1, s.2.2.1, s.2.2.2.1, s.2.2.2.2)
def sw_may (s : Sw) : Int32 := s.2.1
def sw_may' (s : Sw) (v : Int32) : Sw := (s.1, v, s.2.2.1, s.2.2.2.1, s.2.2.2.2)
def sw_met (s : Sw) : Int32 := s.2.2.1
def sw_met' (s : Sw) (v : Int32) : Sw := (s.1, s.2.1, v, s.2.2.2.1, s.2.2.2.2)
def sw_key (s : Sw) : Int32 := s.2.2.2.1
def sw_key' (s : Sw) (v : Int32) : Sw := (s.1, s.2.1, s.2.2.1, v, s.2.2.2.2)
def sw_rank (s : Sw) : Int64 := s.2.2.2.2
def sw_rank' (s : Sw) (v : Int64) : Sw := (s.1, s.2.1, s.2.2.1, s.2.2.2.1, v)
abbrev Se : Type := Option Nat × Int32 × Int32 × Int32
def se_tb (s : Se) : Option Nat := s.1
def se_tb' (s : Se) (v : Option Nat) : Se := (v, s.2.1, s.2.2.1, s.2.2.2)
def se_slot (s : Se) : Int32 := s.2.1
def se_slot' (s : Se) (v : Int32) : Se := (s.1, v, s.2.2.1, s.2.2.2)
def se_groups (s : Se) : Int32 := s.2.2.1
def se_groups' (s : Se) (v : Int32) : Se := (s.1, s.2.1, v, s.2.2.2)
def se_comps (s : Se) : Int32 := s.2.2.2
def se_comps' (s : Se) (v : Int32) : Se := (s.1, s.2.1, s.2.2.1, v)
abbrev Pl : Type := (Nat → Int32) × (Nat → Int32) × Int32 × Int32
def pl_rising (s : Pl) : (Nat → Int32) := s.1
def pl_rising' (s : Pl) (v : (Nat → Int32)) : Pl := (v, s.2.1, s.2.2.1, s.2.2.2)
def pl_taken (s : Pl) : (Nat → Int32) := s.2.1
def pl_taken' (s : Pl) (v : (Nat → Int32)) : Pl := (s.1, v, s.2.2.1, s.2.2.2)
def pl_total (s : Pl) : Int32 := s.2.2.1
def pl_total' (s : Pl) (v : Int32) : Pl := (s.1, s.2.1, v, s.2.2.2)
def pl_longest (s : Pl) : Int32 := s.2.2.2
def pl_longest' (s : Pl) (v : Int32) : Pl := (s.1, s.2.1, s.2.2.1, v)
abbrev MS : Type := (Nat → Int32) × (Nat → Int32) × (Nat → Int32) × (Nat → Int32) × (Nat → Int32) × Int32 × Int32 × Int32 × (Nat → Int32) × (Nat → Int64) × (Nat → Int32) × (Nat → Int32) × (Nat → Int32) × (Nat → Int32) × Int32 × Int32 × Int32
def m_keys (s : MS) : (Nat → Int32) := s.1
def m_keys' (s : MS) (v : (Nat → Int32)) : MS := (v, s.2.1, s.2.2.1, s.2.2.2.1, s.2.2.2.2.1, s.2.2.2.2.2.1, s.2.2.2.2.2.2.1, s.2.2.2.2.2.2.2.1, s.2.2.2.2.2.2.2.2.1, s.2.2.2.2.2.2.2.2.2.1, s.2.2.2.2.2.2.2.2.2.2.1, s.2.2.2.2.2.2.2.2.2.2.2.1, s.2.2.2.2.2.2.2.2.2.2.2.2.1, s.2.2.2.2.2.2.2.2.2.2.2.2.2.1, s.2.2.2.2.2.2.2.2.2.2.2.2.2.2.1, s.2.2.2.2.2.2.2.2.2.2.2.2.2.2.2.1, s.2.2.2.2.2.2.2.2.2.2.2.2.2.2.2.2)
def m_values (s : MS) : (Nat → Int32) := s.2.1
def m_values' (s : MS) (v : (Nat → Int32)) : MS := (s.1, v, s.2.2.1, s.2.2.2.1, s.2.2.2.2.1, s.2.2.2.2.2.1, s.2.2.2.2.2.2.1, s.2.2.2.2.2.2.2.1, s.2.2.2.2.2.2.2.2.1, s.2.2.2.2.2.2.2.2.2.1, s.2.2.2.2.2.2.2.2.2.2.1, s.2.2.2.2.2.2.2.2.2.2.2.1, s.2.2.2.2.2.2.2.2.2.2.2.2.1, s.2.2.2.2.2.2.2.2.2.2.2.2.2.1, s.2.2.2.2.2.2.2.2.2.2.2.2.2.2.1, s.2.2.2.2.2.2.2.2.2.2.2.2.2.2.2.1, s.2.2.2.2.2.2.2.2.2.2.2.2.2.2.2.2)
def m_full (s : MS) : (Nat → Int32) := s.2.2.1
def m_full' (s : MS) (v : (Nat → Int32)) : MS := (s.1, s.2.1, v, s.2.2.2.1, s.2.2.2.2.1, s.2.2.2.2.2.1, s.2.2.2.2.2.2.1, s.2.2.2.2.2.2.2.1, s.2.2.2.2.2.2.2.2.1, s.2.2.2.2.2.2.2.2.2.1, s.2.2.2.2.2.2.2.2.2.2.1, s.2.2.2.2.2.2.2.2.2.2.2.1, s.2.2.2.2.2.2.2.2.2.2.2.2.1, s.2.2.2.2.2.2.2.2.2.2.2.2.2.1, s.2.2.2.2.2.2.2.2.2.2.2.2.2.2.1, s.2.2.2.2.2.2.2.2.2.2.2.2.2.2.2.1, s.2.2.2.2.2.2.2.2.2.2.2.2.2.2.2.2)
def m_slots (s : MS) : (Nat → Int32) := s.2.2.2.1
def m_slots' (s : MS) (v : (Nat → Int32)) : MS := (s.1, s.2.1, s.2.2.1, v, s.2.2.2.2.1, s.2.2.2.2.2.1, s.2.2.2.2.2.2.1, s.2.2.2.2.2.2.2.1, s.2.2.2.2.2.2.2.2.1, s.2.2.2.2.2.2.2.2.2.1, s.2.2.2.2.2.2.2.2.2.2.1, s.2.2.2.2.2.2.2.2.2.2.2.1, s.2.2.2.2.2.2.2.2.2.2.2.2.1, s.2.2.2.2.2.2.2.2.2.2.2.2.2.1, s.2.2.2.2.2.2.2.2.2.2.2.2.2.2.1, s.2.2.2.2.2.2.2.2.2.2.2.2.2.2.2.1, s.2.2.2.2.2.2.2.2.2.2.2.2.2.2.2.2)
def m_many (s : MS) : (Nat → Int32) := s.2.2.2.2.1
def m_many' (s : MS) (v : (Nat → Int32)) : MS := (s.1, s.2.1, s.2.2.1, s.2.2.2.1, v, s.2.2.2.2.2.1, s.2.2.2.2.2.2.1, s.2.2.2.2.2.2.2.1, s.2.2.2.2.2.2.2.2.1, s.2.2.2.2.2.2.2.2.2.1, s.2.2.2.2.2.2.2.2.2.2.1, s.2.2.2.2.2.2.2.2.2.2.2.1, s.2.2.2.2.2.2.2.2.2.2.2.2.1, s.2.2.2.2.2.2.2.2.2.2.2.2.2.1, s.2.2.2.2.2.2.2.2.2.2.2.2.2.2.1, s.2.2.2.2.2.2.2.2.2.2.2.2.2.2.2.1, s.2.2.2.2.2.2.2.2.2.2.2.2.2.2.2.2)
def m_present (s : MS) : Int32 := s.2.2.2.2.2.1
def m_present' (s : MS) (v : Int32) : MS := (s.1, s.2.1, s.2.2.1, s.2.2.2.1, s.2.2.2.2.1, v, s.2.2.2.2.2.2.1, s.2.2.2.2.2.2.2.1, s.2.2.2.2.2.2.2.2.1, s.2.2.2.2.2.2.2.2.2.1, s.2.2.2.2.2.2.2.2.2.2.1, s.2.2.2.2.2.2.2.2.2.2.2.1, s.2.2.2.2.2.2.2.2.2.2.2.2.1, s.2.2.2.2.2.2.2.2.2.2.2.2.2.1, s.2.2.2.2.2.2.2.2.2.2.2.2.2.2.1, s.2.2.2.2.2.2.2.2.2.2.2.2.2.2.2.1, s.2.2.2.2.2.2.2.2.2.2.2.2.2.2.2.2)
def m_way (s : MS) : Int32 := s.2.2.2.2.2.2.1
def m_way' (s : MS) (v : Int32) : MS := (s.1, s.2.1, s.2.2.1, s.2.2.2.1, s.2.2.2.2.1, s.2.2.2.2.2.1, v, s.2.2.2.2.2.2.2.1, s.2.2.2.2.2.2.2.2.1, s.2.2.2.2.2.2.2.2.2.1, s.2.2.2.2.2.2.2.2.2.2.1, s.2.2.2.2.2.2.2.2.2.2.2.1, s.2.2.2.2.2.2.2.2.2.2.2.2.1, s.2.2.2.2.2.2.2.2.2.2.2.2.2.1, s.2.2.2.2.2.2.2.2.2.2.2.2.2.2.1, s.2.2.2.2.2.2.2.2.2.2.2.2.2.2.2.1, s.2.2.2.2.2.2.2.2.2.2.2.2.2.2.2.2)
def m_moves (s : MS) : Int32 := s.2.2.2.2.2.2.2.1
def m_moves' (s : MS) (v : Int32) : MS := (s.1, s.2.1, s.2.2.1, s.2.2.2.1, s.2.2.2.2.1, s.2.2.2.2.2.1, s.2.2.2.2.2.2.1, v, s.2.2.2.2.2.2.2.2.1, s.2.2.2.2.2.2.2.2.2.1, s.2.2.2.2.2.2.2.2.2.2.1, s.2.2.2.2.2.2.2.2.2.2.2.1, s.2.2.2.2.2.2.2.2.2.2.2.2.1, s.2.2.2.2.2.2.2.2.2.2.2.2.2.1, s.2.2.2.2.2.2.2.2.2.2.2.2.2.2.1, s.2.2.2.2.2.2.2.2.2.2.2.2.2.2.2.1, s.2.2.2.2.2.2.2.2.2.2.2.2.2.2.2.2)
def m_open (s : MS) : (Nat → Int32) := s.2.2.2.2.2.2.2.2.1
def m_open' (s : MS) (v : (Nat → Int32)) : MS := (s.1, s.2.1, s.2.2.1, s.2.2.2.1, s.2.2.2.2.1, s.2.2.2.2.2.1, s.2.2.2.2.2.2.1, s.2.2.2.2.2.2.2.1, v, s.2.2.2.2.2.2.2.2.2.1, s.2.2.2.2.2.2.2.2.2.2.1, s.2.2.2.2.2.2.2.2.2.2.2.1, s.2.2.2.2.2.2.2.2.2.2.2.2.1, s.2.2.2.2.2.2.2.2.2.2.2.2.2.1, s.2.2.2.2.2.2.2.2.2.2.2.2.2.2.1, s.2.2.2.2.2.2.2.2.2.2.2.2.2.2.2.1, s.2.2.2.2.2.2.2.2.2.2.2.2.2.2.2.2)
def m_last (s : MS) : (Nat → Int64) := s.2.2.2.2.2.2.2.2.2.1
def m_last' (s : MS) (v : (Nat → Int64)) : MS := (s.1, s.2.1, s.2.2.1, s.2.2.2.1, s.2.2.2.2.1, s.2.2.2.2.2.1, s.2.2.2.2.2.2.1, s.2.2.2.2.2.2.2.1, s.2.2.2.2.2.2.2.2.1, v, s.2.2.2.2.2.2.2.2.2.2.1, s.2.2.2.2.2.2.2.2.2.2.2.1, s.2.2.2.2.2.2.2.2.2.2.2.2.1, s.2.2.2.2.2.2.2.2.2.2.2.2.2.1, s.2.2.2.2.2.2.2.2.2.2.2.2.2.2.1, s.2.2.2.2.2.2.2.2.2.2.2.2.2.2.2.1, s.2.2.2.2.2.2.2.2.2.2.2.2.2.2.2.2)
def m_lastKey (s : MS) : (Nat → Int32) := s.2.2.2.2.2.2.2.2.2.2.1
def m_lastKey' (s : MS) (v : (Nat → Int32)) : MS := (s.1, s.2.1, s.2.2.1, s.2.2.2.1, s.2.2.2.2.1, s.2.2.2.2.2.1, s.2.2.2.2.2.2.1, s.2.2.2.2.2.2.2.1, s.2.2.2.2.2.2.2.2.1, s.2.2.2.2.2.2.2.2.2.1, v, s.2.2.2.2.2.2.2.2.2.2.2.1, s.2.2.2.2.2.2.2.2.2.2.2.2.1, s.2.2.2.2.2.2.2.2.2.2.2.2.2.1, s.2.2.2.2.2.2.2.2.2.2.2.2.2.2.1, s.2.2.2.2.2.2.2.2.2.2.2.2.2.2.2.1, s.2.2.2.2.2.2.2.2.2.2.2.2.2.2.2.2)
def m_taken (s : MS) : (Nat → Int32) := s.2.2.2.2.2.2.2.2.2.2.2.1
def m_taken' (s : MS) (v : (Nat → Int32)) : MS := (s.1, s.2.1, s.2.2.1, s.2.2.2.1, s.2.2.2.2.1, s.2.2.2.2.2.1, s.2.2.2.2.2.2.1, s.2.2.2.2.2.2.2.1, s.2.2.2.2.2.2.2.2.1, s.2.2.2.2.2.2.2.2.2.1, s.2.2.2.2.2.2.2.2.2.2.1, v, s.2.2.2.2.2.2.2.2.2.2.2.2.1, s.2.2.2.2.2.2.2.2.2.2.2.2.2.1, s.2.2.2.2.2.2.2.2.2.2.2.2.2.2.1, s.2.2.2.2.2.2.2.2.2.2.2.2.2.2.2.1, s.2.2.2.2.2.2.2.2.2.2.2.2.2.2.2.2)
def m_met (s : MS) : (Nat → Int32) := s.2.2.2.2.2.2.2.2.2.2.2.2.1
def m_met' (s : MS) (v : (Nat → Int32)) : MS := (s.1, s.2.1, s.2.2.1, s.2.2.2.1, s.2.2.2.2.1, s.2.2.2.2.2.1, s.2.2.2.2.2.2.1, s.2.2.2.2.2.2.2.1, s.2.2.2.2.2.2.2.2.1, s.2.2.2.2.2.2.2.2.2.1, s.2.2.2.2.2.2.2.2.2.2.1, s.2.2.2.2.2.2.2.2.2.2.2.1, v, s.2.2.2.2.2.2.2.2.2.2.2.2.2.1, s.2.2.2.2.2.2.2.2.2.2.2.2.2.2.1, s.2.2.2.2.2.2.2.2.2.2.2.2.2.2.2.1, s.2.2.2.2.2.2.2.2.2.2.2.2.2.2.2.2)
def m_plainFull (s : MS) : (Nat → Int32) := s.2.2.2.2.2.2.2.2.2.2.2.2.2.1
def m_plainFull' (s : MS) (v : (Nat → Int32)) : MS := (s.1, s.2.1, s.2.2.1, s.2.2.2.1, s.2.2.2.2.1, s.2.2.2.2.2.1, s.2.2.2.2.2.2.1, s.2.2.2.2.2.2.2.1, s.2.2.2.2.2.2.2.2.1, s.2.2.2.2.2.2.2.2.2.1, s.2.2.2.2.2.2.2.2.2.2.1, s.2.2.2.2.2.2.2.2.2.2.2.1, s.2.2.2.2.2.2.2.2.2.2.2.2.1, v, s.2.2.2.2.2.2.2.2.2.2.2.2.2.2.1, s.2.2.2.2.2.2.2.2.2.2.2.2.2.2.2.1, s.2.2.2.2.2.2.2.2.2.2.2.2.2.2.2.2)
def m_plainMost (s : MS) : Int32 := s.2.2.2.2.2.2.2.2.2.2.2.2.2.2.1
def m_plainMost' (s : MS) (v : Int32) : MS := (s.1, s.2.1, s.2.2.1, s.2.2.2.1, s.2.2.2.2.1, s.2.2.2.2.2.1, s.2.2.2.2.2.2.1, s.2.2.2.2.2.2.2.1, s.2.2.2.2.2.2.2.2.1, s.2.2.2.2.2.2.2.2.2.1, s.2.2.2.2.2.2.2.2.2.2.1, s.2.2.2.2.2.2.2.2.2.2.2.1, s.2.2.2.2.2.2.2.2.2.2.2.2.1, s.2.2.2.2.2.2.2.2.2.2.2.2.2.1, v, s.2.2.2.2.2.2.2.2.2.2.2.2.2.2.2.1, s.2.2.2.2.2.2.2.2.2.2.2.2.2.2.2.2)
def m_plainSum (s : MS) : Int32 := s.2.2.2.2.2.2.2.2.2.2.2.2.2.2.2.1
def m_plainSum' (s : MS) (v : Int32) : MS := (s.1, s.2.1, s.2.2.1, s.2.2.2.1, s.2.2.2.2.1, s.2.2.2.2.2.1, s.2.2.2.2.2.2.1, s.2.2.2.2.2.2.2.1, s.2.2.2.2.2.2.2.2.1, s.2.2.2.2.2.2.2.2.2.1, s.2.2.2.2.2.2.2.2.2.2.1, s.2.2.2.2.2.2.2.2.2.2.2.1, s.2.2.2.2.2.2.2.2.2.2.2.2.1, s.2.2.2.2.2.2.2.2.2.2.2.2.2.1, s.2.2.2.2.2.2.2.2.2.2.2.2.2.2.1, v, s.2.2.2.2.2.2.2.2.2.2.2.2.2.2.2.2)
def m_thrown (s : MS) : Int32 := s.2.2.2.2.2.2.2.2.2.2.2.2.2.2.2.2
def m_thrown' (s : MS) (v : Int32) : MS := (s.1, s.2.1, s.2.2.1, s.2.2.2.1, s.2.2.2.2.1, s.2.2.2.2.2.1, s.2.2.2.2.2.2.1, s.2.2.2.2.2.2.2.1, s.2.2.2.2.2.2.2.2.1, s.2.2.2.2.2.2.2.2.2.1, s.2.2.2.2.2.2.2.2.2.2.1, s.2.2.2.2.2.2.2.2.2.2.2.1, s.2.2.2.2.2.2.2.2.2.2.2.2.1, s.2.2.2.2.2.2.2.2.2.2.2.2.2.1, s.2.2.2.2.2.2.2.2.2.2.2.2.2.2.1, s.2.2.2.2.2.2.2.2.2.2.2.2.2.2.2.1, v)
abbrev RR : Type := Tb × Tb × Nat × Nat × (Nat → Sw) × Se × Pl × Int32 × Int32
def rr_P (s : RR) : Tb := s.1
def rr_P' (s : RR) (v : Tb) : RR := (v, s.2.1, s.2.2.1, s.2.2.2.1, s.2.2.2.2.1, s.2.2.2.2.2.1, s.2.2.2.2.2.2.1, s.2.2.2.2.2.2.2.1, s.2.2.2.2.2.2.2.2)
def rr_O (s : RR) : Tb := s.2.1
def rr_O' (s : RR) (v : Tb) : RR := (s.1, v, s.2.2.1, s.2.2.2.1, s.2.2.2.2.1, s.2.2.2.2.2.1, s.2.2.2.2.2.2.1, s.2.2.2.2.2.2.2.1, s.2.2.2.2.2.2.2.2)
def rr_ap (s : RR) : Nat := s.2.2.1
def rr_ap' (s : RR) (v : Nat) : RR := (s.1, s.2.1, v, s.2.2.2.1, s.2.2.2.2.1, s.2.2.2.2.2.1, s.2.2.2.2.2.2.1, s.2.2.2.2.2.2.2.1, s.2.2.2.2.2.2.2.2)
def rr_ao (s : RR) : Nat := s.2.2.2.1
def rr_ao' (s : RR) (v : Nat) : RR := (s.1, s.2.1, s.2.2.1, v, s.2.2.2.2.1, s.2.2.2.2.2.1, s.2.2.2.2.2.2.1, s.2.2.2.2.2.2.2.1, s.2.2.2.2.2.2.2.2)
def rr_sws (s : RR) : (Nat → Sw) := s.2.2.2.2.1
def rr_sws' (s : RR) (v : (Nat → Sw)) : RR := (s.1, s.2.1, s.2.2.1, s.2.2.2.1, v, s.2.2.2.2.2.1, s.2.2.2.2.2.2.1, s.2.2.2.2.2.2.2.1, s.2.2.2.2.2.2.2.2)
def rr_se (s : RR) : Se := s.2.2.2.2.2.1
def rr_se' (s : RR) (v : Se) : RR := (s.1, s.2.1, s.2.2.1, s.2.2.2.1, s.2.2.2.2.1, v, s.2.2.2.2.2.2.1, s.2.2.2.2.2.2.2.1, s.2.2.2.2.2.2.2.2)
def rr_pl (s : RR) : Pl := s.2.2.2.2.2.2.1
def rr_pl' (s : RR) (v : Pl) : RR := (s.1, s.2.1, s.2.2.1, s.2.2.2.1, s.2.2.2.2.1, s.2.2.2.2.2.1, v, s.2.2.2.2.2.2.2.1, s.2.2.2.2.2.2.2.2)
def rr_way (s : RR) : Int32 := s.2.2.2.2.2.2.2.1
def rr_way' (s : RR) (v : Int32) : RR := (s.1, s.2.1, s.2.2.1, s.2.2.2.1, s.2.2.2.2.1, s.2.2.2.2.2.1, s.2.2.2.2.2.2.1, v, s.2.2.2.2.2.2.2.2)
def rr_begun (s : RR) : Int32 := s.2.2.2.2.2.2.2.2
def rr_begun' (s : RR) (v : Int32) : RR := (s.1, s.2.1, s.2.2.1, s.2.2.2.1, s.2.2.2.2.1, s.2.2.2.2.2.1, s.2.2.2.2.2.2.1, s.2.2.2.2.2.2.2.1, v)
def itF {T : Type} (z : T) (b : T → T) : Nat → T
  | 0 => z
  | n + 1 => b (itF z b n)
def ushr (x y : Int32) : Int32 := (x.toUInt32 >>> (y.toUInt32 &&& Int32.toUInt32 31)).toInt32
def i2b (x : Int32) : Int32 := x.toInt8.toInt32
def dsp {α : Type} (o : Option Nat) (a b : Nat) (x y : Option α) : Option α := if o = some a then x else if o = some b then y else none
theorem dsp_ob {α : Type} {o : Option Nat} {a b : Nat} {x y : Option α} {r : α} (h : dsp o a b x y = some r) : (o = some a ∧ x = some r) ∨ (o = some b ∧ y = some r) := by
  unfold dsp at h
  by_cases q : o = some a
  · rw [if_pos q] at h
    exact Or.inl ⟨q, h⟩
  · rw [if_neg q] at h
    by_cases q2 : o = some b
    · rw [if_pos q2] at h
      exact Or.inr ⟨q2, h⟩
    · rw [if_neg q2] at h
      cases h
theorem nr_z {v : Int32} (h : vp_nar .boolean v = v) : narrow .boolean (.int v) = .int v := congrArg Value.int h
theorem nr_b {v : Int32} (h : vp_nar .byte v = v) : narrow .byte (.int v) = .int v := congrArg Value.int h
def wTab (ca : Nat → ClassId) (h : Nat) (ar : Nat → Nat) (τ : Tb) : va_W := [(h, .inr (3, [.ref (ar 0), .ref (ar 1), .ref (ar 2), .ref (ar 3), .int (tb_sl τ), .int (tb_ct τ)])), (ar 0, .inl (ca 1, 256, .inl (tb_ctl τ))), (ar 1, .inl (ca 0, 256, .inl (tb_hs τ))), (ar 2, .inl (ca 0, 256, .inl (tb_ks τ))), (ar 3, .inl (ca 0, 256, .inl (tb_vs τ)))]
def wSw (h : Nat) (τ : Sw) : va_W := [(h, .inr (2, [.int (sw_open τ), .int (sw_may τ), .int (sw_met τ), .int (sw_key τ), .long (sw_rank τ)]))]
def wSe (h : Nat) (τ : Se) : va_W := [(h, .inr (1, [va_rf (se_tb τ), .int (se_slot τ), .int (se_groups τ), .int (se_comps τ)]))]
def wPl (ca : Nat → ClassId) (h : Nat) (pr : Nat → Nat) (τ : Pl) : va_W := [(h, .inr (0, [.ref (pr 0), .ref (pr 1), .int (pl_total τ), .int (pl_longest τ)])), (pr 0, .inl (ca 0, 256, .inl (pl_rising τ))), (pr 1, .inl (ca 2, 256, .inl (pl_taken τ)))]
def wLk (ca : Nat → ClassId) (h wh : Nat) (ar : Nat → Nat) (t : Tb) (τ : Se) : va_W := wSe h τ ++ wTab ca wh ar t
def wPk (ca : Nat → ClassId) (h : Nat) (pr : Nat → Nat) (wh : Nat) (ar : Nat → Nat) (t : Tb) (τ : Pl) : va_W := wPl ca h pr τ ++ wTab ca wh ar t
def wSk (ca : Nat → ClassId) (h wh : Nat) (ar : Nat → Nat) (t : Tb) (wo : Nat) (br : Nat → Nat) (u : Tb) (τ : Se) : va_W := wSe h τ ++ (wTab ca wh ar t ++ wTab ca wo br u)
def swf (B : Nat → Nat) : Nat → Option Nat := va_up (va_up (va_up (va_up (fun _ => none) 0 (some (B 2))) 1 (some (B 3))) 2 (some (B 4))) 3 (some (B 5))
def wRR (ca : Nat → ClassId) (B : Nat → Nat) (ar : Nat → Nat → Nat) (σ : RR) : va_W := (B 0, .inr (4, [.ref (B 1), .ref (B 6), .ref (B 7), .ref (rr_ap σ), .ref (rr_ao σ), .int (rr_way σ), .int (rr_begun σ)])) :: (B 1, .inl (ca 4, 4, .inr (.inr (.inr (.inr (swf B)))))) :: (wSw (B 2) (rr_sws σ 0) ++ (wSw (B 3) (rr_sws σ 1) ++ (wSw (B 4) (rr_sws σ 2) ++ (wSw (B 5) (rr_sws σ 3) ++ (wSe (B 6) (rr_se σ) ++ (wPl ca (B 7) (fun i => B (8 + i)) (rr_pl σ) ++ (wTab ca (rr_ap σ) (ar (rr_ap σ)) (rr_P σ) ++ wTab ca (rr_ao σ) (ar (rr_ao σ)) (rr_O σ))))))))
def rr_swap (σ : RR) : RR := (rr_O σ, rr_P σ, rr_ao σ, rr_ap σ, rr_sws σ, rr_se σ, rr_pl σ, rr_way σ, rr_begun σ)
def wM (ca : Nat → ClassId) (Ad : Nat → Nat) (σ : MS) : va_W := [(Ad 0, .inr (5, [.ref (Ad 1), .ref (Ad 2), .ref (Ad 3), .ref (Ad 4), .ref (Ad 5), .int (m_present σ), .int (m_way σ), .int (m_moves σ), .ref (Ad 6), .ref (Ad 7), .ref (Ad 8), .ref (Ad 9), .ref (Ad 10), .ref (Ad 11), .int (m_plainMost σ), .int (m_plainSum σ), .int (m_thrown σ)])), (Ad 1, .inl (ca 0, 512, .inl (m_keys σ))), (Ad 2, .inl (ca 0, 512, .inl (m_values σ))), (Ad 3, .inl (ca 2, 512, .inl (m_full σ))), (Ad 4, .inl (ca 0, 2, .inl (m_slots σ))), (Ad 5, .inl (ca 0, 2, .inl (m_many σ))), (Ad 6, .inl (ca 2, 4, .inl (m_open σ))), (Ad 7, .inl (ca 3, 4, .inr (.inl (m_last σ)))), (Ad 8, .inl (ca 0, 4, .inl (m_lastKey σ))), (Ad 9, .inl (ca 2, 4, .inl (m_taken σ))), (Ad 10, .inl (ca 0, 4, .inl (m_met σ))), (Ad 11, .inl (ca 2, 256, .inl (m_plainFull σ)))]
theorem fr_LT (ca : Nat → ClassId) (h wh : Nat) (ar : Nat → Nat) (t : Tb) (τ : Se) : Fr (wLk ca h wh ar t τ) (wTab ca wh ar t) (wTab ca wh ar t) (wLk ca h wh ar t τ) := ⟨[1, 2, 3, 4, 5], [0], [0, 1, 2, 3, 4, 5], wSe h τ, rfl, rfl, rfl, rfl, by decide, rfl, rfl⟩
theorem fr_LS (ca : Nat → ClassId) (h wh : Nat) (ar : Nat → Nat) (t : Tb) (τ τ' : Se) : Fr (wLk ca h wh ar t τ) (wSe h τ) (wSe h τ') (wLk ca h wh ar t τ') := ⟨[0], [1, 2, 3, 4, 5], [5, 0, 1, 2, 3, 4], wTab ca wh ar t, rfl, rfl, rfl, rfl, by decide, rfl, rfl⟩
theorem fr_PT (ca : Nat → ClassId) (h : Nat) (pr : Nat → Nat) (wh : Nat) (ar : Nat → Nat) (t : Tb) (τ : Pl) : Fr (wPk ca h pr wh ar t τ) (wTab ca wh ar t) (wTab ca wh ar t) (wPk ca h pr wh ar t τ) := ⟨[3, 4, 5, 6, 7], [0, 1, 2], [0, 1, 2, 3, 4, 5, 6, 7], wPl ca h pr τ, rfl, rfl, rfl, rfl, by decide, rfl, rfl⟩
theorem fr_KT (ca : Nat → ClassId) (h wh : Nat) (ar : Nat → Nat) (t : Tb) (wo : Nat) (br : Nat → Nat) (u : Tb) (τ : Se) : Fr (wSk ca h wh ar t wo br u τ) (wTab ca wh ar t) (wTab ca wh ar t) (wSk ca h wh ar t wo br u τ) := ⟨[1, 2, 3, 4, 5], [0, 6, 7, 8, 9, 10], [0, 6, 7, 8, 9, 10, 1, 2, 3, 4, 5], wSe h τ ++ wTab ca wo br u, rfl, rfl, rfl, rfl, by decide, rfl, rfl⟩
theorem fr_KU (ca : Nat → ClassId) (h wh : Nat) (ar : Nat → Nat) (t : Tb) (wo : Nat) (br : Nat → Nat) (u : Tb) (τ : Se) : Fr (wSk ca h wh ar t wo br u τ) (wTab ca wo br u) (wTab ca wo br u) (wSk ca h wh ar t wo br u τ) := ⟨[6, 7, 8, 9, 10], [0, 1, 2, 3, 4, 5], [0, 1, 2, 3, 4, 5, 6, 7, 8, 9, 10], wSe h τ ++ wTab ca wh ar t, rfl, rfl, rfl, rfl, by decide, rfl, rfl⟩
theorem fr_KS (ca : Nat → ClassId) (h wh : Nat) (ar : Nat → Nat) (t : Tb) (wo : Nat) (br : Nat → Nat) (u : Tb) (τ τ' : Se) : Fr (wSk ca h wh ar t wo br u τ) (wSe h τ) (wSe h τ') (wSk ca h wh ar t wo br u τ') := ⟨[0], [1, 2, 3, 4, 5, 6, 7, 8, 9, 10], [10, 0, 1, 2, 3, 4, 5, 6, 7, 8, 9], wTab ca wh ar t ++ wTab ca wo br u, rfl, rfl, rfl, rfl, by decide, rfl, rfl⟩
theorem fr_RP (ca : Nat → ClassId) (B : Nat → Nat) (ar : Nat → Nat → Nat) (σ : RR) (v : Tb) : Fr (wRR ca B ar σ) (wTab ca (rr_ap σ) (ar (rr_ap σ)) (rr_P σ)) (wTab ca (rr_ap σ) (ar (rr_ap σ)) v) (wRR ca B ar (rr_P' σ v)) := ⟨[10, 11, 12, 13, 14], [0, 1, 2, 3, 4, 5, 6, 7, 8, 9, 15, 16, 17, 18, 19], [0, 1, 2, 3, 4, 5, 6, 7, 8, 9, 15, 16, 17, 18, 19, 10, 11, 12, 13, 14], [0, 1, 2, 3, 4, 5, 6, 7, 8, 9, 15, 16, 17, 18, 19].filterMap (fun i => (wRR ca B ar σ)[i]?), rfl, rfl, rfl, rfl, by decide, rfl, rfl⟩
theorem fr_RPp (ca : Nat → ClassId) (B : Nat → Nat) (ar : Nat → Nat → Nat) (σ : RR) : Fr (wRR ca B ar σ) (wTab ca (rr_ap σ) (ar (rr_ap σ)) (rr_P σ)) (wTab ca (rr_ap σ) (ar (rr_ap σ)) (rr_P σ)) (wRR ca B ar σ) := ⟨[10, 11, 12, 13, 14], [0, 1, 2, 3, 4, 5, 6, 7, 8, 9, 15, 16, 17, 18, 19], [0, 1, 2, 3, 4, 5, 6, 7, 8, 9, 15, 16, 17, 18, 19, 10, 11, 12, 13, 14], [0, 1, 2, 3, 4, 5, 6, 7, 8, 9, 15, 16, 17, 18, 19].filterMap (fun i => (wRR ca B ar σ)[i]?), rfl, rfl, rfl, rfl, by decide, rfl, rfl⟩
theorem fr_RO (ca : Nat → ClassId) (B : Nat → Nat) (ar : Nat → Nat → Nat) (σ : RR) (v : Tb) : Fr (wRR ca B ar σ) (wTab ca (rr_ao σ) (ar (rr_ao σ)) (rr_O σ)) (wTab ca (rr_ao σ) (ar (rr_ao σ)) v) (wRR ca B ar (rr_O' σ v)) := ⟨[15, 16, 17, 18, 19], [0, 1, 2, 3, 4, 5, 6, 7, 8, 9, 10, 11, 12, 13, 14], [0, 1, 2, 3, 4, 5, 6, 7, 8, 9, 10, 11, 12, 13, 14, 15, 16, 17, 18, 19], [0, 1, 2, 3, 4, 5, 6, 7, 8, 9, 10, 11, 12, 13, 14].filterMap (fun i => (wRR ca B ar σ)[i]?), rfl, rfl, rfl, rfl, by decide, rfl, rfl⟩
theorem fr_ROp (ca : Nat → ClassId) (B : Nat → Nat) (ar : Nat → Nat → Nat) (σ : RR) : Fr (wRR ca B ar σ) (wTab ca (rr_ao σ) (ar (rr_ao σ)) (rr_O σ)) (wTab ca (rr_ao σ) (ar (rr_ao σ)) (rr_O σ)) (wRR ca B ar σ) := ⟨[15, 16, 17, 18, 19], [0, 1, 2, 3, 4, 5, 6, 7, 8, 9, 10, 11, 12, 13, 14], [0, 1, 2, 3, 4, 5, 6, 7, 8, 9, 10, 11, 12, 13, 14, 15, 16, 17, 18, 19], [0, 1, 2, 3, 4, 5, 6, 7, 8, 9, 10, 11, 12, 13, 14].filterMap (fun i => (wRR ca B ar σ)[i]?), rfl, rfl, rfl, rfl, by decide, rfl, rfl⟩
theorem fr_RS (ca : Nat → ClassId) (B : Nat → Nat) (ar : Nat → Nat → Nat) (σ : RR) (v : Se) : Fr (wRR ca B ar σ) (wSe (B 6) (rr_se σ)) (wSe (B 6) v) (wRR ca B ar (rr_se' σ v)) := ⟨[6], [0, 1, 2, 3, 4, 5, 7, 8, 9, 10, 11, 12, 13, 14, 15, 16, 17, 18, 19], [0, 1, 2, 3, 4, 5, 19, 6, 7, 8, 9, 10, 11, 12, 13, 14, 15, 16, 17, 18], [0, 1, 2, 3, 4, 5, 7, 8, 9, 10, 11, 12, 13, 14, 15, 16, 17, 18, 19].filterMap (fun i => (wRR ca B ar σ)[i]?), rfl, rfl, rfl, rfl, by decide, rfl, rfl⟩
theorem fr_RSp (ca : Nat → ClassId) (B : Nat → Nat) (ar : Nat → Nat → Nat) (σ : RR) : Fr (wRR ca B ar σ) (wSe (B 6) (rr_se σ)) (wSe (B 6) (rr_se σ)) (wRR ca B ar σ) := ⟨[6], [0, 1, 2, 3, 4, 5, 7, 8, 9, 10, 11, 12, 13, 14, 15, 16, 17, 18, 19], [0, 1, 2, 3, 4, 5, 19, 6, 7, 8, 9, 10, 11, 12, 13, 14, 15, 16, 17, 18], [0, 1, 2, 3, 4, 5, 7, 8, 9, 10, 11, 12, 13, 14, 15, 16, 17, 18, 19].filterMap (fun i => (wRR ca B ar σ)[i]?), rfl, rfl, rfl, rfl, by decide, rfl, rfl⟩
theorem fr_RLP (ca : Nat → ClassId) (B : Nat → Nat) (ar : Nat → Nat → Nat) (σ : RR) (v : Se) : Fr (wRR ca B ar σ) (wLk ca (B 6) (rr_ap σ) (ar (rr_ap σ)) (rr_P σ) (rr_se σ)) (wLk ca (B 6) (rr_ap σ) (ar (rr_ap σ)) (rr_P σ) v) (wRR ca B ar (rr_se' σ v)) := ⟨[6, 10, 11, 12, 13, 14], [0, 1, 2, 3, 4, 5, 7, 8, 9, 15, 16, 17, 18, 19], [0, 1, 2, 3, 4, 5, 14, 6, 7, 8, 15, 16, 17, 18, 19, 9, 10, 11, 12, 13], [0, 1, 2, 3, 4, 5, 7, 8, 9, 15, 16, 17, 18, 19].filterMap (fun i => (wRR ca B ar σ)[i]?), rfl, rfl, rfl, rfl, by decide, rfl, rfl⟩
theorem fr_RLPp (ca : Nat → ClassId) (B : Nat → Nat) (ar : Nat → Nat → Nat) (σ : RR) : Fr (wRR ca B ar σ) (wLk ca (B 6) (rr_ap σ) (ar (rr_ap σ)) (rr_P σ) (rr_se σ)) (wLk ca (B 6) (rr_ap σ) (ar (rr_ap σ)) (rr_P σ) (rr_se σ)) (wRR ca B ar σ) := ⟨[6, 10, 11, 12, 13, 14], [0, 1, 2, 3, 4, 5, 7, 8, 9, 15, 16, 17, 18, 19], [0, 1, 2, 3, 4, 5, 14, 6, 7, 8, 15, 16, 17, 18, 19, 9, 10, 11, 12, 13], [0, 1, 2, 3, 4, 5, 7, 8, 9, 15, 16, 17, 18, 19].filterMap (fun i => (wRR ca B ar σ)[i]?), rfl, rfl, rfl, rfl, by decide, rfl, rfl⟩
theorem fr_RLO (ca : Nat → ClassId) (B : Nat → Nat) (ar : Nat → Nat → Nat) (σ : RR) (v : Se) : Fr (wRR ca B ar σ) (wLk ca (B 6) (rr_ao σ) (ar (rr_ao σ)) (rr_O σ) (rr_se σ)) (wLk ca (B 6) (rr_ao σ) (ar (rr_ao σ)) (rr_O σ) v) (wRR ca B ar (rr_se' σ v)) := ⟨[6, 15, 16, 17, 18, 19], [0, 1, 2, 3, 4, 5, 7, 8, 9, 10, 11, 12, 13, 14], [0, 1, 2, 3, 4, 5, 14, 6, 7, 8, 9, 10, 11, 12, 13, 15, 16, 17, 18, 19], [0, 1, 2, 3, 4, 5, 7, 8, 9, 10, 11, 12, 13, 14].filterMap (fun i => (wRR ca B ar σ)[i]?), rfl, rfl, rfl, rfl, by decide, rfl, rfl⟩
theorem fr_RLOp (ca : Nat → ClassId) (B : Nat → Nat) (ar : Nat → Nat → Nat) (σ : RR) : Fr (wRR ca B ar σ) (wLk ca (B 6) (rr_ao σ) (ar (rr_ao σ)) (rr_O σ) (rr_se σ)) (wLk ca (B 6) (rr_ao σ) (ar (rr_ao σ)) (rr_O σ) (rr_se σ)) (wRR ca B ar σ) := ⟨[6, 15, 16, 17, 18, 19], [0, 1, 2, 3, 4, 5, 7, 8, 9, 10, 11, 12, 13, 14], [0, 1, 2, 3, 4, 5, 14, 6, 7, 8, 9, 10, 11, 12, 13, 15, 16, 17, 18, 19], [0, 1, 2, 3, 4, 5, 7, 8, 9, 10, 11, 12, 13, 14].filterMap (fun i => (wRR ca B ar σ)[i]?), rfl, rfl, rfl, rfl, by decide, rfl, rfl⟩
theorem fr_RKP (ca : Nat → ClassId) (B : Nat → Nat) (ar : Nat → Nat → Nat) (σ : RR) (v : Se) : Fr (wRR ca B ar σ) (wSk ca (B 6) (rr_ap σ) (ar (rr_ap σ)) (rr_P σ) (rr_ao σ) (ar (rr_ao σ)) (rr_O σ) (rr_se σ)) (wSk ca (B 6) (rr_ap σ) (ar (rr_ap σ)) (rr_P σ) (rr_ao σ) (ar (rr_ao σ)) (rr_O σ) v) (wRR ca B ar (rr_se' σ v)) := ⟨[6, 10, 11, 12, 13, 14, 15, 16, 17, 18, 19], [0, 1, 2, 3, 4, 5, 7, 8, 9], [0, 1, 2, 3, 4, 5, 9, 6, 7, 8, 10, 11, 12, 13, 14, 15, 16, 17, 18, 19], [0, 1, 2, 3, 4, 5, 7, 8, 9].filterMap (fun i => (wRR ca B ar σ)[i]?), rfl, rfl, rfl, rfl, by decide, rfl, rfl⟩
theorem fr_RKPp (ca : Nat → ClassId) (B : Nat → Nat) (ar : Nat → Nat → Nat) (σ : RR) : Fr (wRR ca B ar σ) (wSk ca (B 6) (rr_ap σ) (ar (rr_ap σ)) (rr_P σ) (rr_ao σ) (ar (rr_ao σ)) (rr_O σ) (rr_se σ)) (wSk ca (B 6) (rr_ap σ) (ar (rr_ap σ)) (rr_P σ) (rr_ao σ) (ar (rr_ao σ)) (rr_O σ) (rr_se σ)) (wRR ca B ar σ) := ⟨[6, 10, 11, 12, 13, 14, 15, 16, 17, 18, 19], [0, 1, 2, 3, 4, 5, 7, 8, 9], [0, 1, 2, 3, 4, 5, 9, 6, 7, 8, 10, 11, 12, 13, 14, 15, 16, 17, 18, 19], [0, 1, 2, 3, 4, 5, 7, 8, 9].filterMap (fun i => (wRR ca B ar σ)[i]?), rfl, rfl, rfl, rfl, by decide, rfl, rfl⟩
theorem fr_RKO (ca : Nat → ClassId) (B : Nat → Nat) (ar : Nat → Nat → Nat) (σ : RR) (v : Se) : Fr (wRR ca B ar σ) (wSk ca (B 6) (rr_ao σ) (ar (rr_ao σ)) (rr_O σ) (rr_ap σ) (ar (rr_ap σ)) (rr_P σ) (rr_se σ)) (wSk ca (B 6) (rr_ao σ) (ar (rr_ao σ)) (rr_O σ) (rr_ap σ) (ar (rr_ap σ)) (rr_P σ) v) (wRR ca B ar (rr_se' σ v)) := ⟨[6, 15, 16, 17, 18, 19, 10, 11, 12, 13, 14], [0, 1, 2, 3, 4, 5, 7, 8, 9], [0, 1, 2, 3, 4, 5, 9, 6, 7, 8, 15, 16, 17, 18, 19, 10, 11, 12, 13, 14], [0, 1, 2, 3, 4, 5, 7, 8, 9].filterMap (fun i => (wRR ca B ar σ)[i]?), rfl, rfl, rfl, rfl, by decide, rfl, rfl⟩
theorem fr_RKOp (ca : Nat → ClassId) (B : Nat → Nat) (ar : Nat → Nat → Nat) (σ : RR) : Fr (wRR ca B ar σ) (wSk ca (B 6) (rr_ao σ) (ar (rr_ao σ)) (rr_O σ) (rr_ap σ) (ar (rr_ap σ)) (rr_P σ) (rr_se σ)) (wSk ca (B 6) (rr_ao σ) (ar (rr_ao σ)) (rr_O σ) (rr_ap σ) (ar (rr_ap σ)) (rr_P σ) (rr_se σ)) (wRR ca B ar σ) := ⟨[6, 15, 16, 17, 18, 19, 10, 11, 12, 13, 14], [0, 1, 2, 3, 4, 5, 7, 8, 9], [0, 1, 2, 3, 4, 5, 9, 6, 7, 8, 15, 16, 17, 18, 19, 10, 11, 12, 13, 14], [0, 1, 2, 3, 4, 5, 7, 8, 9].filterMap (fun i => (wRR ca B ar σ)[i]?), rfl, rfl, rfl, rfl, by decide, rfl, rfl⟩
theorem fr_RPP (ca : Nat → ClassId) (B : Nat → Nat) (ar : Nat → Nat → Nat) (σ : RR) (v : Pl) : Fr (wRR ca B ar σ) (wPk ca (B 7) (fun i => B (8 + i)) (rr_ap σ) (ar (rr_ap σ)) (rr_P σ) (rr_pl σ)) (wPk ca (B 7) (fun i => B (8 + i)) (rr_ap σ) (ar (rr_ap σ)) (rr_P σ) v) (wRR ca B ar (rr_pl' σ v)) := ⟨[7, 8, 9, 10, 11, 12, 13, 14], [0, 1, 2, 3, 4, 5, 6, 15, 16, 17, 18, 19], [0, 1, 2, 3, 4, 5, 6, 12, 13, 14, 15, 16, 17, 18, 19, 7, 8, 9, 10, 11], [0, 1, 2, 3, 4, 5, 6, 15, 16, 17, 18, 19].filterMap (fun i => (wRR ca B ar σ)[i]?), rfl, rfl, rfl, rfl, by decide, rfl, rfl⟩
theorem fr_RPPp (ca : Nat → ClassId) (B : Nat → Nat) (ar : Nat → Nat → Nat) (σ : RR) : Fr (wRR ca B ar σ) (wPk ca (B 7) (fun i => B (8 + i)) (rr_ap σ) (ar (rr_ap σ)) (rr_P σ) (rr_pl σ)) (wPk ca (B 7) (fun i => B (8 + i)) (rr_ap σ) (ar (rr_ap σ)) (rr_P σ) (rr_pl σ)) (wRR ca B ar σ) := ⟨[7, 8, 9, 10, 11, 12, 13, 14], [0, 1, 2, 3, 4, 5, 6, 15, 16, 17, 18, 19], [0, 1, 2, 3, 4, 5, 6, 12, 13, 14, 15, 16, 17, 18, 19, 7, 8, 9, 10, 11], [0, 1, 2, 3, 4, 5, 6, 15, 16, 17, 18, 19].filterMap (fun i => (wRR ca B ar σ)[i]?), rfl, rfl, rfl, rfl, by decide, rfl, rfl⟩
