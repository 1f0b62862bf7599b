/-! The tape's letters. -/
def zt_lt (b : Int) : Prop := 97 ≤ b ∧ b < 113
def zB_l (B : zB) : Nat → Int := zn (fun i => if 97 ≤ B.2 i ∧ B.2 i < 113 then 1 else 0)
theorem s_73_4 {xs : Nat → Int32} {L d : Nat} {J K : jZ} {P : Int → jZ → jZ → Prop} {B : zB} (hB : zB_ok B) (hr : cB_at J B) (h : P (zB_l B B.1) J K) : ∀ (n k : Nat), k + n = B.1 → l_73_4 xs L (d + 1) (zB_l B k) (k : Int) J K P
  | n, k, hn => by
    have h250 := hB.1
    have h1 := hr.1
    refine e_73_4 ⟨by omega, by omega, fun q => ?_, fun q => ⟨by omega, ?_⟩⟩
    · obtain rfl : k = B.1 := by omega
      exact h
    · match n, hn with
      | 0, hn => omega
      | n + 1, hn =>
        have b := hB.2 k (by omega)
        have ih := s_73_4 (xs := xs) (L := L) (d := d) hB hr h n (k + 1) (by omega)
        have e : zB_l B (k + 1) = zB_l B k + (if 97 ≤ B.2 k ∧ B.2 k < 113 then 1 else 0) := rfl
        rw [e] at ih
        rw [Int.toNat_natCast, hr.2 k (by omega)]
        refine ⟨by omega, fun q2 => ?_, fun q2 => ?_⟩
        · rw [if_pos q2] at ih
          exact ih
        · rw [if_neg q2] at ih
          exact ih
theorem s_73 {xs : Nat → Int32} {L d : Nat} {J K : jZ} {P : Int → jZ → jZ → Prop} {B : zB} (hB : zB_ok B) (hr : cB_at J B) (h : P (zB_l B B.1) J K) : q_73 xs L (d + 2) J K P :=
  e_73 (s_73_4 hB hr h B.1 0 (by omega))
theorem s_210_4 {xs : Nat → Int32} {L d : Nat} {J K : jZ} {P : Int → jZ → jZ → Prop} {B : zB} (hB : zB_ok B) (hr : mB_at J B) (h : P (zB_l B B.1) J K) : ∀ (n k : Nat), k + n = B.1 → l_210_4 xs L (d + 1) (zB_l B k) (k : Int) J K P
  | n, k, hn => by
    have h250 := hB.1
    have h1 := hr.1
    refine e_210_4 ⟨by omega, by omega, fun q => ?_, fun q => ⟨by omega, ?_⟩⟩
    · obtain rfl : k = B.1 := by omega
      exact h
    · match n, hn with
      | 0, hn => omega
      | n + 1, hn =>
        have b := hB.2 k (by omega)
        have ih := s_210_4 (xs := xs) (L := L) (d := d) hB hr h n (k + 1) (by omega)
        have e : zB_l B (k + 1) = zB_l B k + (if 97 ≤ B.2 k ∧ B.2 k < 113 then 1 else 0) := rfl
        rw [e] at ih
        rw [Int.toNat_natCast, hr.2 k (by omega)]
        refine ⟨by omega, fun q2 => ?_, fun q2 => ?_⟩
        · rw [if_pos (by omega)] at ih
          exact ih
        · rw [if_neg (by omega)] at ih
          exact ih
theorem s_210 {xs : Nat → Int32} {L d : Nat} {J K : jZ} {P : Int → jZ → jZ → Prop} {B : zB} (hB : zB_ok B) (hr : mB_at J B) (h : P (zB_l B B.1) J K) : q_210 xs L (d + 2) J K P :=
  e_210 (s_210_4 hB hr h B.1 0 (by omega))
theorem zB_l_r (B : zB) (n : Nat) : 0 ≤ zB_l B n ∧ zB_l B n ≤ n := zn_r (fun k => by split <;> omega) n
