/-! The tape's letters. -/
def zt_lt (b : Int) : Prop := 97 ≤ b ∧ b < 113
def zB_l (B : zB) : Nat → Int := zn (fun i => if 97 ≤ B.2 i ∧ B.2 i < 113 then 1 else 0)
theorem zB_l_r (B : zB) (n : Nat) : 0 ≤ zB_l B n ∧ zB_l B n ≤ n := zn_r (fun k => by split <;> omega) n
