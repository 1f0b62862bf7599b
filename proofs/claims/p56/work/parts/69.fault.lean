/-! Where the tape's text is at fault. -/
def zF_m (b : Int) : Int := if b = 46 then 1 else if b = 47 then 2 else 0
def zF (B : zB) : Nat → Nat → Int → Int → Int
  | 0, _, _, e => if e = 0 then -1 else (B.1 : Int)
  | n + 1, i, m, e => if B.2 i = 32 then zF B n (i + 1) m e else if 97 ≤ B.2 i ∧ B.2 i < 113 then zF B n (i + 1) 0 0 else if zF_m (B.2 i) ≤ m then (i : Int) else zF B n (i + 1) (zF_m (B.2 i)) 0