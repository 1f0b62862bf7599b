/-! Where the tape's text is at fault. -/
def zF_m (b : Int) : Int := if b = 46 then 1 else if b = 47 then 2 else 0
def zF (B : zB) : Nat → Nat → Int → Int → Int
  | 0, _, _, e => if e = 0 then -1 else (B.1 : Int)
  | n + 1, i, m, e => if B.2 i = 32 then zF B n (i + 1) m e else if 97 ≤ B.2 i ∧ B.2 i < 113 then zF B n (i + 1) 0 0 else if zF_m (B.2 i) ≤ m then (i : Int) else zF B n (i + 1) (zF_m (B.2 i)) 0
theorem s_72 {xs : Nat → Int32} {L d : Nat} {J K : jZ} {P : Int → jZ → jZ → Prop} {b : Int} (hb : -2147483648 ≤ b ∧ b < 2147483648) (h : P (zF_m b) J K) : q_72 xs L (d + 1) b J K P := by
  unfold zF_m at h
  refine e_72 ⟨hb, fun q => ⟨fun q2 => ?_, fun q2 => ?_⟩, fun q => ?_⟩
  · rw [if_neg q, if_neg q2] at h
    exact h
  · rw [if_neg q, if_pos q2] at h
    exact h
  · rw [if_pos q] at h
    exact h
theorem s_70_7 {xs : Nat → Int32} {L d : Nat} {J K : jZ} {P : Int → jZ → jZ → Prop} {B : zB} (hB : zB_ok B) (hr : cB_at J B) : ∀ (n k : Nat) (m e : Int), k + n = B.1 → 0 ≤ m ∧ m ≤ 2 → e = 0 ∨ e = 1 → P (zF B n k m e) J K → l_70_7 xs L (d + 1) m e (k : Int) J K P
  | n, k, m, e, hn, hm, he, h => by
    have h250 := hB.1
    have h1 := hr.1
    refine e_70_7 ⟨by omega, by omega, fun q => ⟨by omega, fun q2 => ?_, fun q2 => ?_⟩, fun q => ⟨by omega, ?_⟩⟩
    · obtain rfl : n = 0 := by omega
      rw [zF, if_pos q2] at h
      exact h
    · obtain rfl : n = 0 := by omega
      rw [zF, if_neg q2] at h
      rw [h1]
      exact h
    · match n, hn, h with
      | 0, hn, h => omega
      | n + 1, hn, h =>
        have b := hB.2 k (by omega)
        rw [Int.toNat_natCast, hr.2 k (by omega)]
        rw [zF] at h
        refine ⟨by omega, fun q2 => ⟨fun q3 => ?_, fun q3 => s_72 (by omega) ?_⟩, fun q2 => ?_⟩
        · rw [if_neg q2, if_pos q3] at h
          exact s_70_7 hB hr n (k + 1) 0 0 (by omega) (by omega) (.inl rfl) h
        · rw [if_neg q2, if_neg q3] at h
          have mr : 0 ≤ zF_m (B.2 k) ∧ zF_m (B.2 k) ≤ 2 := by
            unfold zF_m
            repeat' split
            all_goals omega
          refine ⟨by omega, by omega, fun q4 => ?_, fun q4 => s_72 (by omega) ?_⟩
          · rw [if_pos q4] at h
            exact h
          · rw [if_neg (by omega)] at h
            exact s_70_7 hB hr n (k + 1) _ 0 (by omega) mr (.inl rfl) h
        · rw [if_pos q2] at h
          exact s_70_7 hB hr n (k + 1) m e (by omega) hm he h
theorem s_70 {xs : Nat → Int32} {L d : Nat} {J K : jZ} {P : Int → jZ → jZ → Prop} {B : zB} {m : Int} (hB : zB_ok B) (hr : cB_at J B) (hm : 0 ≤ m ∧ m ≤ 2) (h : P (zF B B.1 0 m 1) J K) : q_70 xs L (d + 2) m J K P :=
  e_70 (s_70_7 hB hr B.1 0 m 1 (by omega) hm (.inr rfl) h)
