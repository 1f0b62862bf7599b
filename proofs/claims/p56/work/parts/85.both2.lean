/-! Class and reference side by side: what changes something. -/
section WC
variable {xs : Nat → Int32} {L d : Nat} {J K : jZ}
theorem sn_j {H : zH} {t i : Int} (h : ¬ zq_sn H t i = 0) : (-2 - zq_sn H t i).toNat < 5 ∧ (-(zq_sn H t i)).toNat = (-2 - zq_sn H t i).toNat + 2 := by
  have : zq_sn H t i = 0 ∨ zq_sn H t i = -2 ∨ zq_sn H t i = -3 ∨ zq_sn H t i = -4 := by
    have := zH_rf_r (H := H) (s := t) (n := 0)
    unfold zq_sn
    repeat' split
    all_goals omega
  omega
theorem sn_ok {n : Nat} {H : zH} {t i v : Int} (hH : zH_ok n H) (hv : -9223372036854775808 ≤ v ∧ v < 9223372036854775808) (h : zq_sn H t i = 0) : zH_ok n (zH_up H t.toNat (zq_sv H t i v)) := by
  have rf : zH_rf H t 0 = 0 := by
    unfold zq_sn at h
    by_cases c : zH_rf H t 0 = 0
    · exact c
    · rw [if_pos c] at h
      exact absurd h c
  have z := zH_rf_0 rf
  rcases hH t.toNat (by omega) with c | c | c
  · exact absurd c z.2.2.1
  · refine zH_ok_up hH (.inr (.inl ⟨c.1, c.2.1, c.2.2.1, c.2.2.2.1, fun e he => ?_⟩))
    show -9223372036854775808 ≤ (if e = i.toNat then zq_ft (H t.toNat).1 v else (H t.toNat).2.2 e) ∧ (if e = i.toNat then zq_ft (H t.toNat).1 v else (H t.toNat).2.2 e) < 9223372036854775808
    split
    · exact zq_ft_r hv
    · exact c.2.2.2.2 e he
  · exact absurd c.1 z.2.1
theorem cx_j {H : zH} {t v i j n : Int} (h : ¬ zq_cx H t v i j n = 0) : (-2 - zq_cx H t v i j n).toNat < 5 ∧ (-(zq_cx H t v i j n)).toNat = (-2 - zq_cx H t v i j n).toNat + 2 := by
  have : zq_cx H t v i j n = 0 ∨ zq_cx H t v i j n = -2 ∨ zq_cx H t v i j n = -3 ∨ zq_cx H t v i j n = -4 := by
    unfold zq_cx
    repeat' split
    all_goals omega
  omega
end WC
