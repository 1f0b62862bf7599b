/-! The same of the reference. -/
theorem jz_or01 : jz_or 0 0 = 0 ∧ jz_or 1 0 = 1 ∧ jz_or 0 1 = 1 ∧ jz_or 1 1 = 1 := by decide +kernel
theorem s_209_27 {xs : Nat → Int32} {L d : Nat} {J K : jZ} {P : Int → jZ → jZ → Prop} {B : zB} (hB : zB_ok B) (hr : mB_at J B) : ∀ (n k : Nat) (m v e : Int), k + n = B.1 → 0 ≤ m ∧ m ≤ 2 → (v = m ∨ (v = 3 ∧ m = 2)) → e = 0 ∨ e = 1 → P (zF B n k m e) J K → l_209_27 xs L (d + 1) v (1 - e) (k : Int) J K P
  | n, k, m, v, e, hn, hm, hv, he, h => by
    have h250 := hB.1
    have h1 := hr.1
    have o := jz_or01
    refine e_209_27 ⟨by omega, by omega, fun q => ⟨by omega, fun q2 => ?_, fun q2 => ?_⟩, fun q => ⟨by omega, ?_⟩⟩
    · obtain rfl : n = 0 := by omega
      rw [zF, if_neg (by omega)] at h
      rw [h1]
      exact h
    · obtain rfl : n = 0 := by omega
      rw [zF, if_pos (by omega)] at h
      exact h
    · match n, hn, h with
      | 0, hn, h => omega
      | n + 1, hn, h =>
        have b := hB.2 k (by omega)
        rw [Int.toNat_natCast, hr.2 k (by omega)]
        rw [zF] at h
        have e1 : jz_or (1 - e) 1 = 1 - 0 := by
          rcases he with rfl | rfl
          · exact o.2.2.2
          · exact o.2.2.1
        have e0 : jz_or (1 - e) 0 = 1 - e := by
          rcases he with rfl | rfl
          · exact o.2.1
          · exact o.1
        have go : ∀ m', 0 ≤ m' ∧ m' ≤ 2 → ¬ B.2 k = 32 → P (zF B n (k + 1) m' 0) J K → l_209_105 xs L (d + 1) m' (1 - e) (k : Int) (B.2 k) J K P := fun m' hm' h32 hh => by
          refine e_209_105 ⟨by omega, fun q2 => absurd q2 h32, fun _ => ?_⟩
          rw [e1]
          exact s_209_27 hB hr n (k + 1) m' m' 0 (by omega) hm' (.inl rfl) (.inl rfl) hh
        have m46 : B.2 k = 46 → zF_m (B.2 k) = 1 := fun q => by
          unfold zF_m
          rw [if_pos q]
        have m47 : B.2 k = 47 → zF_m (B.2 k) = 2 := fun q => by
          unfold zF_m
          rw [if_neg (by omega), if_pos q]
        have m0 : ¬ B.2 k = 46 → ¬ B.2 k = 47 → zF_m (B.2 k) = 0 := fun q q2 => by
          unfold zF_m
          rw [if_neg q, if_neg q2]
        refine ⟨by omega, fun q2 => ?_, fun q2 => ⟨fun q3 => e_209_79 ⟨by omega, fun q4 => e_209_96 ⟨by omega, fun q5 => e_209_105 ⟨by omega, fun _ => ?_, fun t => absurd q5 t⟩, fun q5 => ?_⟩, fun q4 => ⟨by omega, fun q5 => e_209_96 ⟨by omega, fun t => by omega, fun _ => ?_⟩, fun q5 => ?_⟩⟩, fun q3 => ⟨by omega, fun q4 => e_209_79 ⟨by omega, fun _ => e_209_96 ⟨by omega, fun t => by omega, fun _ => ?_⟩, fun t => by omega⟩, fun q4 => ?_⟩⟩⟩
        · rw [if_neg (by omega), if_pos (by omega)] at h
          exact go 0 (by omega) (by omega) h
        · rw [if_pos q5] at h
          rw [e0]
          exact s_209_27 hB hr n (k + 1) m v e (by omega) hm hv he h
        · rw [if_neg q5, if_neg (by omega), m0 q3 q4, if_pos (by omega)] at h
          exact h
        · rw [if_neg (by omega), if_neg (by omega), m47 q4, if_pos (by omega)] at h
          exact h
        · rw [if_neg (by omega), if_neg (by omega), m47 q4, if_neg (by omega)] at h
          exact go 2 (by omega) (by omega) h
        · rw [if_neg (by omega), if_neg (by omega), m46 q3, if_pos (by omega)] at h
          exact h
        · rw [if_neg (by omega), if_neg (by omega), m46 q3, if_neg (by omega)] at h
          exact go 1 (by omega) (by omega) h
theorem s_209 {xs : Nat → Int32} {L d : Nat} {J K : jZ} {P : Int → jZ → jZ → Prop} {B : zB} {T : zT} (hT : zt_ok T) (hB : zB_ok B) (hr : mB_at J B) (rT : mT_at J T) (h : P (zF B B.1 0 (zT_l T) 1) J K) : q_209 xs L (d + 2) J K P := by
  have h60 := hT.1
  have h1 := rT.1
  have lr := zT_l_r hT
  refine e_209 ⟨by omega, fun q => ⟨by omega, ?_⟩, fun q => ?_⟩
  · have hl : J 185 (T.1 - 1) = zT_l T := by
      rw [zT_l, if_neg (by omega)]
      exact (rT.2.1 (T.1 - 1) (by omega)).2
    rw [show (J 167 9 - 1).toNat = T.1 - 1 by omega, hl]
    exact s_209_27 hB hr B.1 0 (zT_l T) (zT_l T) 1 (by omega) lr (.inl rfl) (.inr rfl) h
  · have hl : zT_l T = 2 := by
      rw [zT_l, if_pos (by omega)]
    exact s_209_27 hB hr B.1 0 (zT_l T) 3 1 (by omega) lr (.inr ⟨rfl, hl⟩) (.inr rfl) h
