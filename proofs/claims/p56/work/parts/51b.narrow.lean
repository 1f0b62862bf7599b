/-! An int of any long; a run of a shelf. -/
def jz_i (x : Int) : Int := (Int32.ofInt x).toInt
theorem jz_i_r {x : Int} : -2147483648 ≤ jz_i x ∧ jz_i x < 2147483648 := ⟨Int32.le_toInt _, Int32.toInt_lt _⟩
theorem jz_i_t (x : Int) : Int32.ofInt x = Int32.ofInt (jz_i x) := (Int32.ofInt_toInt _).symm
set_option maxHeartbeats 4000000 in
theorem e_21x {xs : Nat → Int32} {L d : Nat} {v0 : Int} {v1 : Int} {J K : jZ} {P : Int → jZ → jZ → Prop} (h : (-2147483648 ≤ v0 ∧ v0 < 2147483648) ∧ (v0 = 0 → P (jz_b v1) J K) ∧ (¬ v0 = 0 → (v0 = 1 → P (jz_s v1) J K) ∧ (¬ v0 = 1 → (v0 = 2 → P (jz_i v1) J K) ∧ (¬ v0 = 2 → (v0 = 3 → P v1 J K) ∧ (¬ v0 = 3 → (v0 = 4 → (-9223372036854775808 ≤ v1 ∧ v1 < 9223372036854775808) ∧ (¬ v1 = 0 → P 1 J K) ∧ (v1 = 0 → P 0 J K)) ∧ (¬ v0 = 4 → P v1 J K)))))) : q_21 xs L (d + 1) v0 v1 J K P := by
  unfold q_21
  refine jq_in (ls := [some (.int (Int32.ofInt v0)), some (.long (Int64.ofInt v1)), none]) rfl (Nat.le_of_ble_eq_true rfl) rfl ?_
  refine jw_iload_n rfl rfl ?_
  obtain ⟨o1, h⟩ := h
  by_cases c3 : v0 = 0
  · replace h := h.1 c3
    refine jw_tab_in (pc2 := 36) (v := 0) (o := 35) rfl o1 c3 (by omega) rfl (by omega) ?_
    refine jw_lload_n rfl rfl ?_
    refine jw_l2i rfl ?_
    refine jw_i2b rfl ?_
    refine jw_i2l rfl jz_b_r ?_
    refine jw_lret rfl ?_
    exact h
  · replace h := h.2 c3
    by_cases c4 : v0 = 1
    · replace h := h.1 c4
      refine jw_tab_in (pc2 := 41) (v := 1) (o := 40) rfl o1 c4 (by omega) rfl (by omega) ?_
      refine jw_lload_n rfl rfl ?_
      refine jw_l2i rfl ?_
      refine jw_i2s rfl ?_
      refine jw_i2l rfl jz_s_r ?_
      refine jw_lret rfl ?_
      exact h
    · replace h := h.2 c4
      by_cases c5 : v0 = 2
      · replace h := h.1 c5
        refine jw_tab_in (pc2 := 46) (v := 2) (o := 45) rfl o1 c5 (by omega) rfl (by omega) ?_
        refine jw_lload_n rfl rfl ?_
        refine jw_l2i rfl ?_
        rw [jz_i_t v1]
        refine jw_i2l rfl jz_i_r ?_
        refine jw_lret rfl ?_
        exact h
      · replace h := h.2 c5
        by_cases c7 : v0 = 3
        · replace h := h.1 c7
          refine jw_tab_in (pc2 := 62) (v := 3) (o := 61) rfl o1 c7 (by omega) rfl (by omega) ?_
          refine jw_lload_n rfl rfl ?_
          refine jw_lret rfl ?_
          exact h
        · replace h := h.2 c7
          by_cases c8 : v0 = 4
          · replace h := h.1 c8
            refine jw_tab_in (pc2 := 50) (v := 4) (o := 49) rfl o1 c8 (by omega) rfl (by omega) ?_
            refine jw_lload_n rfl rfl ?_
            refine jw_lconst (x := 0) rfl rfl ?_
            obtain ⟨o9, h⟩ := h
            refine jw_lc_ne rfl rfl o9 (by omega) (fun c10 => ?_) (fun c10 => ?_)
            · replace h := h.1 c10
              refine jw_lconst (x := 1) rfl rfl ?_
              refine jw_lret rfl ?_
              exact h
            · replace h := h.2 c10
              refine jw_lconst (x := 0) rfl rfl ?_
              refine jw_goto rfl ?_
              refine jw_lret rfl ?_
              exact h
          · replace h := h.2 c8
            refine jw_tab_out (pc2 := 62) rfl o1 (by omega) (by omega) ?_
            refine jw_lload_n rfl rfl ?_
            refine jw_lret rfl ?_
            exact h
theorem sb_23x {xs : Nat → Int32} {L d : Nat} {v0 : Nat} {v1 : Int} {v2 : Int} {J K : jZ} {P : Int → jZ → jZ → Prop} (hk0 : jz_kd v0 = 15) (o0 : -2147483648 ≤ v1 ∧ v1 < 2147483648) (o1 : -2147483648 ≤ v2 ∧ v2 < 2147483648) (o2 : 0 ≤ J v0 1 ∧ J v0 1 ≤ 40) (h1 : ((0 : Int) ≤ v1 ∧ (0 : Int) ≤ v2 ∧ v2 ≤ (J v0 1) ∧ v1 ≤ (J v0 1) - v2) → P 1 J K) (h0 : ¬ ((0 : Int) ≤ v1 ∧ (0 : Int) ≤ v2 ∧ v2 ≤ (J v0 1) ∧ v1 ≤ (J v0 1) - v2) → P 0 J K) : q_23 xs L (d + 1) v0 v1 v2 J K P := by
  refine e_23 hk0 ?_
  repeat' (first | exact h1 (by omega) | exact h0 (by omega) | refine ⟨by omega, ?_⟩ | refine ⟨fun _ => ?_, fun _ => ?_⟩)
