/-! PURE: what the two sides work out, in the same words -/
def rem (a b : Int32) : Int32 := a - a / b * b
def drw (z : Int32) : Int32 := z * 1103515245 + 12345
def dval (z : Int32) : Int32 := (Int32.toUInt32 z >>> (Int32.toUInt32 (8 : Int32) &&& Int32.toUInt32 31)).toInt32
/-- the signs of one claim, of all -/
def sg1 (cl : Nat → Int32) (line : Int32) (j : Nat) : Int32 := if cl j ≤ 0 then 0 else ((if rem (cl j) 10 = 0 then 2 else if rem (cl j) 10 = 5 then 1 else 0) + (if cl j = line - 1 then 4 else 0)) + (if j < 5 ∧ cl j = cl (j + 1) then 3 else 0)
def sg (cl : Nat → Int32) (line : Int32) : Nat → Int32
  | 0 => 0
  | n + 1 => sg cl line n + sg1 cl line n
def pdd (c v line : Int32) : Int32 := if line ≤ v ∧ c < line then line - 1 else v
/-- what one asks for: kind, bent, days since, line, cost -/
def ask (kind bent since line c : Int32) : Int32 :=
  if kind = 1 then (c + 4) / 5 * 5 else if kind = 2 then pdd c (c + bent) line else if kind = 3 then (c + 9) / 10 * 10
  else if kind = 4 then pdd c (c + (bent + 2 * (if 20 < since then 20 else since))) line else if kind = 5 then (if c < line - 1 then line - 1 else c) else c
def wth (kind need bent : Int32) : Int32 :=
  if kind = 1 then need + 5 else if kind = 2 then 99 - bent else if kind = 3 then 2 * (need + 5) else if kind = 4 then 99 - bent - 9 else if kind = 5 then 1 else need
abbrev und (kind one : Int32) : Prop := one = 0 ∨ kind = one ∨ (one = 1 ∧ kind = 3) ∨ (one = 2 ∧ kind = 4)
