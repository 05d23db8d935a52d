def bI (b : Bool) : Int32 := match b with
  | true => 1
  | false => 0
def am_in (i : Int32) (n : Nat) : Bool := decide (0 ≤ i) && decide (i.toNatClampNeg < n)
/-! STRINGS: the three constants, at the abstract addresses 1, 2, 3 -/
def s_txt (a : Nat) : List Nat := match a with
  | 1 => "load 14 - tide ; price 10 - heads * 8 ; turn 0 - turns ;".toList.map Char.toNat
  | 2 => "headstide wash age  hour turnsload priceturn or   and  not  ".toList.map Char.toNat
  | _ => "();+-*<=".toList.map Char.toNat
def s_len (a : Nat) : Option Int32 := some (nI (s_txt a).length)
def s_at (a : Nat) (i : Int32) : Option Int32 := if am_in i (s_txt a).length = true then some (nI ((s_txt a).getD i.toNatClampNeg 0)) else none
def s_ixF (c : Int32) : List Nat → Nat → Int32
  | [], _ => -1
  | b :: l, k => if nI b = c then nI k else s_ixF c l (k + 1)
def s_ix (a : Nat) (c : Int32) : Option Int32 := some (s_ixF c (s_txt a) 0)
def am_strAt (own : String) (idx a : Nat) : Prop := (own = RX11 ∧ idx = 56 ∧ a = 1) ∨ (own = RX10 ∧ idx = 114 ∧ a = 2) ∨ (own = RX10 ∧ idx = 105 ∧ a = 3)
theorem str_RX11_56 : am_strAt RX11 56 1 := Or.inl ⟨rfl, rfl, rfl⟩
theorem str_RX10_114 : am_strAt RX10 114 2 := Or.inr (Or.inl ⟨rfl, rfl, rfl⟩)
theorem str_RX10_105 : am_strAt RX10 105 3 := Or.inr (Or.inr ⟨rfl, rfl, rfl⟩)
