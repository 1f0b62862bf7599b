/-! An int of any long; a run of a shelf. -/
def jz_i (x : Int) : Int := (Int32.ofInt x).toInt
theorem jz_i_r {x : Int} : -2147483648 ≤ jz_i x ∧ jz_i x < 2147483648 := ⟨Int32.le_toInt _, Int32.toInt_lt _⟩
theorem jz_i_t (x : Int) : Int32.ofInt x = Int32.ofInt (jz_i x) := (Int32.ofInt_toInt _).symm
set_option maxHeartbeats 4000000 in
theorem e_21x {xs : Nat → Int32} {L d : Nat} {v0 : Int} {v1 : Int} {J K : jZ} {P : Int → jZ → jZ → Prop} (h : (-2147483648 ≤ v0 ∧ v0 < 2147483648) ∧ (v0 = 0 → P (jz_b v1) J K) ∧ (¬ v0 = 0 → (v0 = 1 → P (jz_s v1) J K) ∧ (¬ v0 = 1 → (v0 = 2 → P (jz_i v1) J K) ∧ (¬ v0 = 2 → (v0 = 3 → P v1 J K) ∧ (¬ v0 = 3 → (v0 = 4 → (-9223372036854775808 ≤ v1 ∧ v1 < 9223372036854775808) ∧ (¬ v1 = 0 → P 1 J K) ∧ (v1 = 0 → P 0 J K)) ∧ (¬ v0 = 4 → P v1 J K)))))) : q_21 xs L (d + 1) v0 v1 J K P := by
  unfold q_21
  refine jq_in (ls := [some (.int (Int32.ofInt v0)), some (.long (Int64.ofInt v1)), none]) rfl (Nat.le_of_ble_eq_true rfl) rfl ?_
  refine jw_iload_n rfl rfl ?_
  obtain ⟨o1, h⟩ := h
  by_cases c3 : v0 = 0
  · replace h := h.1 c3
    refine jw_tab_in (pc2 := 36) (v := 0) (o := 35) rfl o1 c3 (by omega) rfl (by omega) ?_
    refine jw_lload_n rfl rfl ?_
    refine jw_l2i rfl ?_
    refine jw_i2b rfl ?_
    refine jw_i2l rfl jz_b_r ?_
    refine jw_lret rfl ?_
    exact h
  · replace h := h.2 c3
    by_cases c4 : v0 = 1
    · replace h := h.1 c4
      refine jw_tab_in (pc2 := 41) (v := 1) (o := 40) rfl o1 c4 (by omega) rfl (by omega) ?_
      refine jw_lload_n rfl rfl ?_
      refine jw_l2i rfl ?_
      refine jw_i2s rfl ?_
      refine jw_i2l rfl jz_s_r ?_
      refine jw_lret rfl ?_
      exact h
    · replace h := h.2 c4
      by_cases c5 : v0 = 2
      · replace h := h.1 c5
        refine jw_tab_in (pc2 := 46) (v := 2) (o := 45) rfl o1 c5 (by omega) rfl (by omega) ?_
        refine jw_lload_n rfl rfl ?_
        refine jw_l2i rfl ?_
        rw [jz_i_t v1]
        refine jw_i2l rfl jz_i_r ?_
        refine jw_lret rfl ?_
        exact h
      · replace h := h.2 c5
        by_cases c7 : v0 = 3
        · replace h := h.1 c7
          refine jw_tab_in (pc2 := 62) (v := 3) (o := 61) rfl o1 c7 (by omega) rfl (by omega) ?_
          refine jw_lload_n rfl rfl ?_
          refine jw_lret rfl ?_
          exact h
        · replace h := h.2 c7
          by_cases c8 : v0 = 4
          · replace h := h.1 c8
            refine jw_tab_in (pc2 := 50) (v := 4) (o := 49) rfl o1 c8 (by omega) rfl (by omega) ?_
            refine jw_lload_n rfl rfl ?_
            refine jw_lconst (x := 0) rfl rfl ?_
            obtain ⟨o9, h⟩ := h
            refine jw_lc_ne rfl rfl o9 (by omega) (fun c10 => ?_) (fun c10 => ?_)
            · replace h := h.1 c10
              refine jw_lconst (x := 1) rfl rfl ?_
              refine jw_lret rfl ?_
              exact h
            · replace h := h.2 c10
              refine jw_lconst (x := 0) rfl rfl ?_
              refine jw_goto rfl ?_
              refine jw_lret rfl ?_
              exact h
          · replace h := h.2 c8
            refine jw_tab_out (pc2 := 62) rfl o1 (by omega) (by omega) ?_
            refine jw_lload_n rfl rfl ?_
            refine jw_lret rfl ?_
            exact h
set_option maxHeartbeats 4000000 in
theorem e_173x {xs : Nat → Int32} {L d : Nat} {v0 : Int} {v1 : Int} {J K : jZ} {P : Int → jZ → jZ → Prop} (h : (-2147483648 ≤ v0 ∧ v0 < 2147483648) ∧ (v0 = 0 → P (jz_b v1) J K) ∧ (¬ v0 = 0 → (v0 = 1 → P (jz_s v1) J K) ∧ (¬ v0 = 1 → (v0 = 2 → P (jz_i v1) J K) ∧ (¬ v0 = 2 → (v0 = 3 → P v1 J K) ∧ (¬ v0 = 3 → (-9223372036854775808 ≤ v1 ∧ v1 < 9223372036854775808) ∧ (v1 = 0 → P 0 J K) ∧ (¬ v1 = 0 → P 1 J K)))))) : q_173 xs L (d + 1) v0 v1 J K P := by
  unfold q_173
  refine jq_in (ls := [some (.int (Int32.ofInt v0)), some (.long (Int64.ofInt v1)), none]) rfl (Nat.le_of_ble_eq_true rfl) rfl ?_
  refine jw_iload_n rfl rfl ?_
  obtain ⟨o1, h⟩ := h
  by_cases c3 : v0 = 0
  · replace h := h.1 c3
    refine jw_tab_in (pc2 := 32) (v := 0) (o := 31) rfl o1 c3 (by omega) rfl (by omega) ?_
    refine jw_lload_n rfl rfl ?_
    refine jw_l2i rfl ?_
    refine jw_i2b rfl ?_
    refine jw_i2l rfl jz_b_r ?_
    refine jw_lret rfl ?_
    exact h
  · replace h := h.2 c3
    by_cases c4 : v0 = 1
    · replace h := h.1 c4
      refine jw_tab_in (pc2 := 37) (v := 1) (o := 36) rfl o1 c4 (by omega) rfl (by omega) ?_
      refine jw_lload_n rfl rfl ?_
      refine jw_l2i rfl ?_
      refine jw_i2s rfl ?_
      refine jw_i2l rfl jz_s_r ?_
      refine jw_lret rfl ?_
      exact h
    · replace h := h.2 c4
      by_cases c5 : v0 = 2
      · replace h := h.1 c5
        refine jw_tab_in (pc2 := 42) (v := 2) (o := 41) rfl o1 c5 (by omega) rfl (by omega) ?_
        refine jw_lload_n rfl rfl ?_
        refine jw_l2i rfl ?_
        rw [jz_i_t v1]
        refine jw_i2l rfl jz_i_r ?_
        refine jw_lret rfl ?_
        exact h
      · replace h := h.2 c5
        by_cases c7 : v0 = 3
        · replace h := h.1 c7
          refine jw_tab_in (pc2 := 46) (v := 3) (o := 45) rfl o1 c7 (by omega) rfl (by omega) ?_
          refine jw_lload_n rfl rfl ?_
          refine jw_lret rfl ?_
          exact h
        · replace h := h.2 c7
          refine jw_tab_out (pc2 := 48) rfl o1 (by omega) (by omega) ?_
          refine jw_lload_n rfl rfl ?_
          refine jw_lconst (x := 0) rfl rfl ?_
          obtain ⟨o8, h⟩ := h
          refine jw_lc_eq rfl rfl o8 (by omega) (fun c9 => ?_) (fun c9 => ?_)
          · replace h := h.1 c9
            refine jw_lconst (x := 0) rfl rfl ?_
            refine jw_lret rfl ?_
            exact h
          · replace h := h.2 c9
            refine jw_lconst (x := 1) rfl rfl ?_
            refine jw_goto rfl ?_
            refine jw_lret rfl ?_
            exact h
theorem sb_23x {xs : Nat → Int32} {L d : Nat} {v0 : Nat} {v1 : Int} {v2 : Int} {J K : jZ} {P : Int → jZ → jZ → Prop} (hk0 : jz_kd v0 = 15) (o0 : -2147483648 ≤ v1 ∧ v1 < 2147483648) (o1 : -2147483648 ≤ v2 ∧ v2 < 2147483648) (o2 : 0 ≤ J v0 1 ∧ J v0 1 ≤ 40) (h1 : ((0 : Int) ≤ v1 ∧ (0 : Int) ≤ v2 ∧ v2 ≤ (J v0 1) ∧ v1 ≤ (J v0 1) - v2) → P 1 J K) (h0 : ¬ ((0 : Int) ≤ v1 ∧ (0 : Int) ≤ v2 ∧ v2 ≤ (J v0 1) ∧ v1 ≤ (J v0 1) - v2) → P 0 J K) : q_23 xs L (d + 1) v0 v1 v2 J K P := by
  refine e_23 hk0 ?_
  repeat' (first | exact h1 (by omega) | exact h0 (by omega) | refine ⟨by omega, ?_⟩ | refine ⟨fun _ => ?_, fun _ => ?_⟩)
set_option maxHeartbeats 4000000 in
theorem e_22_103x {xs : Nat → Int32} {L d : Nat} {v3 : Int} {v4 : Int} {v5 : Int} {v6 : Nat} {v7 : Nat} {v8 : Int} {J K : jZ} {P : Int → jZ → jZ → Prop} (hk6 : jz_kd v6 = 15) (hk7 : jz_kd v7 = 15) (h : (-2147483648 ≤ v8 ∧ v8 < 2147483648) ∧ (¬ v8 = 0 → (-2147483648 ≤ v3 ∧ v3 < 2147483648) ∧ (-2147483648 ≤ v5 ∧ v5 < 2147483648) ∧ (0 ≤ J v6 1 ∧ J v6 1 ≤ 40) ∧ (((0 : Int) ≤ v3 ∧ (0 : Int) ≤ v5 ∧ v5 ≤ (J v6 1) ∧ v3 ≤ (J v6 1) - v5) → (-2147483648 ≤ v4 ∧ v4 < 2147483648) ∧ (0 ≤ J v7 1 ∧ J v7 1 ≤ 40) ∧ (((0 : Int) ≤ v4 ∧ (0 : Int) ≤ v5 ∧ v5 ≤ (J v7 1) ∧ v4 ≤ (J v7 1) - v5) → ((0 : Int) ≤ v3 ∧ (0 : Int) ≤ v4 ∧ (0 : Int) ≤ v5 ∧ v3 + v5 ≤ 40 ∧ v4 + v5 ≤ 40) ∧ P v5 J (jz_cpy K (v6 + 1) (Int.toNat v3) (v7 + 1) (Int.toNat v4) (Int.toNat v5))) ∧ (¬ ((0 : Int) ≤ v4 ∧ (0 : Int) ≤ v5 ∧ v5 ≤ (J v7 1) ∧ v4 ≤ (J v7 1) - v5) → l_22_138 xs L (d + 1) J K P)) ∧ (¬ ((0 : Int) ≤ v3 ∧ (0 : Int) ≤ v5 ∧ v5 ≤ (J v6 1) ∧ v3 ≤ (J v6 1) - v5) → l_22_138 xs L (d + 1) J K P)) ∧ (v8 = 0 → q_13 xs L (d + 1) (-4) J K (fun r15 J13 K14 => P r15 J13 K14))) : l_22_103 xs L (d + 1) v3 v4 v5 v6 v7 v8 J K P := by
  unfold l_22_103
  refine jw_iload rfl rfl ?_
  obtain ⟨o1, h⟩ := h
  refine jw_if_ne rfl o1 (fun c2 => ?_) (fun c2 => ?_)
  · replace h := h.1 c2
    refine jw_aload rfl rfl ?_
    refine jw_iload_n rfl rfl ?_
    refine jw_iload rfl rfl ?_
    refine jw_virt (k := 2) (c := 14) (as := [.int (Int32.ofInt v3), .int (Int32.ofInt v5)]) rfl rfl rfl (Nat.le_of_ble_eq_true rfl) rfl (Nat.le_of_ble_eq_true rfl) hk6 rfl (jz_ci ?_)
    obtain ⟨o3, h⟩ := h
    obtain ⟨o4, h⟩ := h
    obtain ⟨o5, h⟩ := h
    refine sb_23x hk6 o3 o4 o5 (fun c7 => ?_) (fun c7 => ?_)
    · replace h := h.1 c7
      refine jw_if_eq rfl (by omega) (fun hc => by exfalso; omega) (fun _ => ?_)
      refine jw_aload rfl rfl ?_
      refine jw_iload rfl rfl ?_
      refine jw_iload rfl rfl ?_
      refine jw_virt (k := 2) (c := 14) (as := [.int (Int32.ofInt v4), .int (Int32.ofInt v5)]) rfl rfl rfl (Nat.le_of_ble_eq_true rfl) rfl (Nat.le_of_ble_eq_true rfl) hk7 rfl (jz_ci ?_)
      obtain ⟨o8, h⟩ := h
      obtain ⟨o9, h⟩ := h
      refine sb_23x hk7 o8 o4 o9 (fun c11 => ?_) (fun c11 => ?_)
      · replace h := h.1 c11
        refine jw_if_ne rfl (by omega) (fun _ => ?_) (fun hc => by exfalso; omega)
        refine jw_aload rfl rfl ?_
        refine jw_gr (q := (v6 + 1)) rfl hk6 (jzr_15_1 hk6) ?_
        refine jw_iload_n rfl rfl ?_
        refine jw_aload rfl rfl ?_
        refine jw_gr (q := (v7 + 1)) rfl hk7 (jzr_15_1 hk7) ?_
        refine jw_iload rfl rfl ?_
        refine jw_iload rfl rfl ?_
        obtain ⟨o12, h⟩ := h
        refine jw_cpl (N := 40) (M := 40) rfl (jzk_15_1 hk6) (jzk_15_1 hk7) (jzn_15_1 hk6) (jzn_15_1 hk7) (by omega) o12 (Nat.le_of_ble_eq_true rfl) ?_
        refine jw_iload rfl rfl ?_
        refine jw_iret rfl ?_
        exact h
      · replace h := h.2 c11
        refine jw_if_ne rfl (by omega) (fun hc => by exfalso; omega) (fun _ => ?_)
        exact jz_fg (l := [some (.ref 0), none, none, none, none, none, none, none, none]) ⟨rfl, jz_n0, jz_n0, jz_ni, jz_ni, jz_ni, jz_nr, jz_nr, jz_ni, trivial⟩ h
    · replace h := h.2 c7
      refine jw_if_eq rfl (by omega) (fun _ => ?_) (fun hc => by exfalso; omega)
      exact jz_fg (l := [some (.ref 0), none, none, none, none, none, none, none, none]) ⟨rfl, jz_n0, jz_n0, jz_ni, jz_ni, jz_ni, jz_nr, jz_nr, jz_ni, trivial⟩ h
  · replace h := h.2 c2
    refine jw_aload_n rfl rfl ?_
    refine jw_bipush rfl (by decide) ?_
    refine jw_virt (k := 1) (c := 18) (as := [.int (Int32.ofInt (-4))]) rfl rfl rfl (Nat.le_of_ble_eq_true rfl) rfl (Nat.le_of_ble_eq_true rfl) rfl rfl (jz_ci ?_)
    refine jm_Q.mono h (jp_i_mono (fun r15 J13 K14 h => ?_))
    refine jw_iret rfl ?_
    exact h
