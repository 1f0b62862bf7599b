/-! Class and reference side by side: queries. -/
section WQ
variable {xs : Nat → Int32} {L d : Nat} {J K : jZ}
theorem rf_j {H : zH} {t n : Int} (h : ¬ zH_rf H t n = 0) : (-2 - zH_rf H t n).toNat < 5 ∧ (-(zH_rf H t n)).toNat = (-2 - zH_rf H t n).toNat + 2 := by
  have := zH_rf_r (H := H) (s := t) (n := n)
  omega
theorem sx_j {A : zA} {H : zH} {t v : Int} (h : ¬ zq_sx A H t v = 0) : (-2 - zq_sx A H t v).toNat < 5 ∧ (-(zq_sx A H t v)).toNat = (-2 - zq_sx A H t v).toNat + 2 := by
  have : zq_sx A H t v = 0 ∨ zq_sx A H t v = -2 ∨ zq_sx A H t v = -3 ∨ zq_sx A H t v = -4 := by
    unfold zq_sx
    repeat' split
    all_goals omega
  omega
end WQ
