/-! The methods of the class walked (3). -/
set_option maxHeartbeats 4000000 in
theorem e_123 {xs : Nat → Int32} {L d : Nat} {v1 : Int} {v2 : Int} {J K : jZ} {P : Int → jZ → jZ → Prop} (h : (-2147483648 ≤ v1 ∧ v1 < 2147483648) ∧ (-2147483648 ≤ J 9 1 ∧ J 9 1 < 2147483648) ∧ (((0 : Int) ≤ v1 ∧ v1 < (J 9 1)) → (-2147483648 ≤ v2 ∧ v2 < 2147483648) ∧ (v2 < 0 → q_13 xs L (d + 1) (-2) J K (fun r8 J6 K7 => P r8 J6 K7)) ∧ (0 ≤ v2 → (v2 ≤ 2 → q_32 xs L (d + 1) v1 J K (fun r12 J10 K11 => (jz_kd r12 = 16) ∧ (-2147483648 ≤ J10 r12 2 ∧ J10 r12 2 < 2147483648) ∧ (¬ (J10 r12 2) = 0 → l_123_60 xs L (d + 1) v2 r12 60 0 0 0 J10 K11 P) ∧ ((J10 r12 2) = 0 → l_123_60 xs L (d + 1) v2 r12 0 0 0 0 J10 K11 P))) ∧ (2 < v2 → q_13 xs L (d + 1) (-2) J K (fun r18 J16 K17 => P r18 J16 K17)))) ∧ (¬ ((0 : Int) ≤ v1 ∧ v1 < (J 9 1)) → q_13 xs L (d + 1) (-2) J K (fun r21 J19 K20 => P r21 J19 K20))) : q_123 xs L (d + 2) v1 v2 J K P := by
  unfold q_123
  refine jq_in (ls := [some (.ref 0), some (.int (Int32.ofInt v1)), some (.int (Int32.ofInt v2)), none, none, none, none, none, none]) rfl (Nat.le_of_ble_eq_true rfl) rfl ?_
  refine jw_aload_n rfl rfl ?_
  refine jw_gr (q := 9) rfl rfl rfl ?_
  refine jw_iload_n rfl rfl ?_
  refine jw_virt (k := 1) (c := 11) (as := [.int (Int32.ofInt v1)]) rfl rfl rfl (Nat.le_of_ble_eq_true rfl) rfl (Nat.le_of_ble_eq_true rfl) rfl rfl (jz_ci ?_)
  obtain ⟨o1, h⟩ := h
  obtain ⟨o2, h⟩ := h
  refine sb_27 rfl o1 o2 (fun c3 => ?_) (fun c3 => ?_)
  · replace h := h.1 c3
    refine jw_if_eq rfl (by omega) (fun hc => by exfalso; omega) (fun _ => ?_)
    refine jw_iload_n rfl rfl ?_
    obtain ⟨o4, h⟩ := h
    refine jw_if_lt rfl o4 (fun c5 => ?_) (fun c5 => ?_)
    · replace h := h.1 c5
      refine jw_aload_n rfl rfl ?_
      refine jw_bipush rfl (by decide) ?_
      refine jw_virt (k := 1) (c := 18) (as := [.int (Int32.ofInt (-2))]) rfl rfl rfl (Nat.le_of_ble_eq_true rfl) rfl (Nat.le_of_ble_eq_true rfl) rfl rfl (jz_ci ?_)
      refine jm_Q.mono h (jp_i_mono (fun r8 J6 K7 h => ?_))
      refine jw_iret rfl ?_
      exact h
    · replace h := h.2 c5
      refine jw_iload_n rfl rfl ?_
      refine jw_iconst rfl ?_
      refine jw_ic_le rfl o4 (by omega) (fun c9 => ?_) (fun c9 => ?_)
      · replace h := h.1 c9
        refine jw_aload_n rfl rfl ?_
        refine jw_gr (q := 61) rfl rfl rfl ?_
        refine jw_iload_n rfl rfl ?_
        refine jw_virt (k := 1) (c := 13) (as := [.int (Int32.ofInt v1)]) rfl rfl rfl (Nat.le_of_ble_eq_true rfl) rfl (Nat.le_of_ble_eq_true rfl) rfl rfl (jz_cr ?_)
        refine jm_Q.mono h (jp_r_mono (fun r12 J10 K11 h => ?_))
        obtain ⟨o13, h⟩ := h
        refine jw_astore_n (ls' := [some (.ref 0), some (.int (Int32.ofInt v1)), some (.int (Int32.ofInt v2)), some (.ref r12), none, none, none, none, none]) rfl rfl ?_
        refine jw_aload_n rfl rfl ?_
        refine jw_gf (v := (J10 r12 2)) rfl (by decide) o13 rfl ?_
        obtain ⟨o14, h⟩ := h
        refine jw_if_ne rfl o14 (fun c15 => ?_) (fun c15 => ?_)
        · replace h := h.1 c15
          refine jw_bipush rfl (by decide) ?_
          refine jw_istore (ls' := [some (.ref 0), some (.int (Int32.ofInt v1)), some (.int (Int32.ofInt v2)), some (.ref r12), some (.int (Int32.ofInt 60)), none, none, none, none]) rfl rfl ?_
          refine jw_iconst rfl ?_
          refine jw_istore (ls' := [some (.ref 0), some (.int (Int32.ofInt v1)), some (.int (Int32.ofInt v2)), some (.ref r12), some (.int (Int32.ofInt 60)), some (.int (Int32.ofInt 0)), none, none, none]) rfl rfl ?_
          refine jw_iconst rfl ?_
          refine jw_istore (ls' := [some (.ref 0), some (.int (Int32.ofInt v1)), some (.int (Int32.ofInt v2)), some (.ref r12), some (.int (Int32.ofInt 60)), some (.int (Int32.ofInt 0)), some (.int (Int32.ofInt 0)), none, none]) rfl rfl ?_
          refine jw_iconst rfl ?_
          refine jw_istore (ls' := [some (.ref 0), some (.int (Int32.ofInt v1)), some (.int (Int32.ofInt v2)), some (.ref r12), some (.int (Int32.ofInt 60)), some (.int (Int32.ofInt 0)), some (.int (Int32.ofInt 0)), some (.int (Int32.ofInt 0)), none]) rfl rfl ?_
          exact jz_fg (l := [none, none, some (.int (Int32.ofInt v2)), some (.ref r12), some (.int (Int32.ofInt 60)), some (.int (Int32.ofInt 0)), some (.int (Int32.ofInt 0)), some (.int (Int32.ofInt 0)), none]) ⟨jz_nr, jz_ni, rfl, rfl, rfl, rfl, rfl, rfl, jz_n0, trivial⟩ h
        · replace h := h.2 c15
          refine jw_iconst rfl ?_
          refine jw_goto rfl ?_
          refine jw_istore (ls' := [some (.ref 0), some (.int (Int32.ofInt v1)), some (.int (Int32.ofInt v2)), some (.ref r12), some (.int (Int32.ofInt 0)), none, none, none, none]) rfl rfl ?_
          refine jw_iconst rfl ?_
          refine jw_istore (ls' := [some (.ref 0), some (.int (Int32.ofInt v1)), some (.int (Int32.ofInt v2)), some (.ref r12), some (.int (Int32.ofInt 0)), some (.int (Int32.ofInt 0)), none, none, none]) rfl rfl ?_
          refine jw_iconst rfl ?_
          refine jw_istore (ls' := [some (.ref 0), some (.int (Int32.ofInt v1)), some (.int (Int32.ofInt v2)), some (.ref r12), some (.int (Int32.ofInt 0)), some (.int (Int32.ofInt 0)), some (.int (Int32.ofInt 0)), none, none]) rfl rfl ?_
          refine jw_iconst rfl ?_
          refine jw_istore (ls' := [some (.ref 0), some (.int (Int32.ofInt v1)), some (.int (Int32.ofInt v2)), some (.ref r12), some (.int (Int32.ofInt 0)), some (.int (Int32.ofInt 0)), some (.int (Int32.ofInt 0)), some (.int (Int32.ofInt 0)), none]) rfl rfl ?_
          exact jz_fg (l := [none, none, some (.int (Int32.ofInt v2)), some (.ref r12), some (.int (Int32.ofInt 0)), some (.int (Int32.ofInt 0)), some (.int (Int32.ofInt 0)), some (.int (Int32.ofInt 0)), none]) ⟨jz_nr, jz_ni, rfl, rfl, rfl, rfl, rfl, rfl, jz_n0, trivial⟩ h
      · replace h := h.2 c9
        refine jw_aload_n rfl rfl ?_
        refine jw_bipush rfl (by decide) ?_
        refine jw_virt (k := 1) (c := 18) (as := [.int (Int32.ofInt (-2))]) rfl rfl rfl (Nat.le_of_ble_eq_true rfl) rfl (Nat.le_of_ble_eq_true rfl) rfl rfl (jz_ci ?_)
        refine jm_Q.mono h (jp_i_mono (fun r18 J16 K17 h => ?_))
        refine jw_iret rfl ?_
        exact h
  · replace h := h.2 c3
    refine jw_if_eq rfl (by omega) (fun _ => ?_) (fun hc => by exfalso; omega)
    refine jw_aload_n rfl rfl ?_
    refine jw_bipush rfl (by decide) ?_
    refine jw_virt (k := 1) (c := 18) (as := [.int (Int32.ofInt (-2))]) rfl rfl rfl (Nat.le_of_ble_eq_true rfl) rfl (Nat.le_of_ble_eq_true rfl) rfl rfl (jz_ci ?_)
    refine jm_Q.mono h (jp_i_mono (fun r21 J19 K20 h => ?_))
    refine jw_iret rfl ?_
    exact h
set_option maxHeartbeats 4000000 in
theorem e_123_60 {xs : Nat → Int32} {L d : Nat} {v2 : Int} {v3 : Nat} {v4 : Int} {v5 : Int} {v6 : Int} {v7 : Int} {J K : jZ} {P : Int → jZ → jZ → Prop} (hk3 : jz_kd v3 = 16) (h : (-2147483648 ≤ v7 ∧ v7 < 2147483648) ∧ (-2147483648 ≤ J v3 2 ∧ J v3 2 < 2147483648) ∧ ((J v3 2) ≤ v7 → (-2147483648 ≤ v2 ∧ v2 < 2147483648) ∧ (¬ v2 = 0 → (¬ v2 = 1 → P v6 J K) ∧ (v2 = 1 → P v5 J K)) ∧ (v2 = 0 → P v4 J K)) ∧ (v7 < (J v3 2) → ((0 : Int) ≤ v7 ∧ v7 < 60) ∧ (-2147483648 ≤ v4 ∧ v4 < 2147483648) ∧ (-2147483648 ≤ (((J (v3 + 2) v7.toNat) - (J (v3 + 1) v7.toNat)) + 1) ∧ (((J (v3 + 2) v7.toNat) - (J (v3 + 1) v7.toNat)) + 1) < 2147483648) ∧ (-2147483648 ≤ v5 ∧ v5 < 2147483648) ∧ l_123_60 xs L (d + 1) v2 v3 (min v4 (((J (v3 + 2) v7.toNat) - (J (v3 + 1) v7.toNat)) + 1)) (max v5 (((J (v3 + 2) v7.toNat) - (J (v3 + 1) v7.toNat)) + 1)) (v6 + (((J (v3 + 2) v7.toNat) - (J (v3 + 1) v7.toNat)) + 1)) (v7 + 1) J K P)) : l_123_60 xs L (d + 1) v2 v3 v4 v5 v6 v7 J K P := by
  unfold l_123_60
  refine jw_iload rfl rfl ?_
  refine jw_aload_n rfl rfl ?_
  refine jw_gf (v := (J v3 2)) rfl (by decide) hk3 rfl ?_
  obtain ⟨o1, h⟩ := h
  obtain ⟨o2, h⟩ := h
  refine jw_ic_ge rfl o1 o2 (fun c3 => ?_) (fun c3 => ?_)
  · replace h := h.1 c3
    refine jw_iload_n rfl rfl ?_
    obtain ⟨o4, h⟩ := h
    refine jw_if_ne rfl o4 (fun c5 => ?_) (fun c5 => ?_)
    · replace h := h.1 c5
      refine jw_iload_n rfl rfl ?_
      refine jw_iconst rfl ?_
      refine jw_ic_ne rfl o4 (by omega) (fun c6 => ?_) (fun c6 => ?_)
      · replace h := h.1 c6
        refine jw_iload rfl rfl ?_
        refine jw_iret rfl ?_
        exact h
      · replace h := h.2 c6
        refine jw_iload rfl rfl ?_
        refine jw_goto rfl ?_
        refine jw_iret rfl ?_
        exact h
    · replace h := h.2 c5
      refine jw_iload rfl rfl ?_
      refine jw_goto rfl ?_
      refine jw_iret rfl ?_
      exact h
  · replace h := h.2 c3
    refine jw_aload_n rfl rfl ?_
    refine jw_iload rfl rfl ?_
    refine jw_virt (k := 1) (c := 15) (as := [.int (Int32.ofInt v7)]) rfl rfl rfl (Nat.le_of_ble_eq_true rfl) rfl (Nat.le_of_ble_eq_true rfl) hk3 rfl (jz_ci ?_)
    refine jq_in (ls := [some (.ref v3), some (.int (Int32.ofInt v7))]) rfl (Nat.le_of_ble_eq_true rfl) rfl ?_
    refine jw_aload_n rfl rfl ?_
    refine jw_gr (q := (v3 + 2)) rfl hk3 (jzr_16_2 hk3) ?_
    refine jw_iload_n rfl rfl ?_
    obtain ⟨o7, h⟩ := h
    refine jw_iald (v := (J (v3 + 2) v7.toNat)) (N := 60) rfl (jzk_16_2 hk3) (jzn_16_2 hk3) (by omega) o7 rfl ?_
    refine jw_aload_n rfl rfl ?_
    refine jw_gr (q := (v3 + 1)) rfl hk3 (jzr_16_1 hk3) ?_
    refine jw_iload_n rfl rfl ?_
    refine jw_iald (v := (J (v3 + 1) v7.toNat)) (N := 60) rfl (jzk_16_1 hk3) (jzn_16_1 hk3) (by omega) o7 rfl ?_
    refine jw_isub rfl ?_
    refine jw_iconst rfl ?_
    refine jw_iadd rfl ?_
    refine jw_iret rfl ?_
    refine jw_istore (ls' := [none, none, some (.int (Int32.ofInt v2)), some (.ref v3), some (.int (Int32.ofInt v4)), some (.int (Int32.ofInt v5)), some (.int (Int32.ofInt v6)), some (.int (Int32.ofInt v7)), some (.int (Int32.ofInt (((J (v3 + 2) v7.toNat) - (J (v3 + 1) v7.toNat)) + 1)))]) rfl rfl ?_
    refine jw_iload rfl rfl ?_
    refine jw_iload rfl rfl ?_
    obtain ⟨o8, h⟩ := h
    obtain ⟨o9, h⟩ := h
    refine jw_min rfl o8 o9 (Nat.le_of_ble_eq_true rfl) ?_
    refine jw_istore (ls' := [none, none, some (.int (Int32.ofInt v2)), some (.ref v3), some (.int (Int32.ofInt (min v4 (((J (v3 + 2) v7.toNat) - (J (v3 + 1) v7.toNat)) + 1)))), some (.int (Int32.ofInt v5)), some (.int (Int32.ofInt v6)), some (.int (Int32.ofInt v7)), some (.int (Int32.ofInt (((J (v3 + 2) v7.toNat) - (J (v3 + 1) v7.toNat)) + 1)))]) rfl rfl ?_
    refine jw_iload rfl rfl ?_
    refine jw_iload rfl rfl ?_
    obtain ⟨o10, h⟩ := h
    refine jw_max rfl o10 o9 (Nat.le_of_ble_eq_true rfl) ?_
    refine jw_istore (ls' := [none, none, some (.int (Int32.ofInt v2)), some (.ref v3), some (.int (Int32.ofInt (min v4 (((J (v3 + 2) v7.toNat) - (J (v3 + 1) v7.toNat)) + 1)))), some (.int (Int32.ofInt (max v5 (((J (v3 + 2) v7.toNat) - (J (v3 + 1) v7.toNat)) + 1)))), some (.int (Int32.ofInt v6)), some (.int (Int32.ofInt v7)), some (.int (Int32.ofInt (((J (v3 + 2) v7.toNat) - (J (v3 + 1) v7.toNat)) + 1)))]) rfl rfl ?_
    refine jw_iload rfl rfl ?_
    refine jw_iload rfl rfl ?_
    refine jw_iadd rfl ?_
    refine jw_istore (ls' := [none, none, some (.int (Int32.ofInt v2)), some (.ref v3), some (.int (Int32.ofInt (min v4 (((J (v3 + 2) v7.toNat) - (J (v3 + 1) v7.toNat)) + 1)))), some (.int (Int32.ofInt (max v5 (((J (v3 + 2) v7.toNat) - (J (v3 + 1) v7.toNat)) + 1)))), some (.int (Int32.ofInt (v6 + (((J (v3 + 2) v7.toNat) - (J (v3 + 1) v7.toNat)) + 1)))), some (.int (Int32.ofInt v7)), some (.int (Int32.ofInt (((J (v3 + 2) v7.toNat) - (J (v3 + 1) v7.toNat)) + 1)))]) rfl rfl ?_
    refine jw_iinc (ls' := [none, none, some (.int (Int32.ofInt v2)), some (.ref v3), some (.int (Int32.ofInt (min v4 (((J (v3 + 2) v7.toNat) - (J (v3 + 1) v7.toNat)) + 1)))), some (.int (Int32.ofInt (max v5 (((J (v3 + 2) v7.toNat) - (J (v3 + 1) v7.toNat)) + 1)))), some (.int (Int32.ofInt (v6 + (((J (v3 + 2) v7.toNat) - (J (v3 + 1) v7.toNat)) + 1)))), some (.int (Int32.ofInt (v7 + 1))), some (.int (Int32.ofInt (((J (v3 + 2) v7.toNat) - (J (v3 + 1) v7.toNat)) + 1)))]) rfl rfl rfl ?_
    refine jw_goto rfl ?_
    exact jz_fg (l := [none, none, some (.int (Int32.ofInt v2)), some (.ref v3), some (.int (Int32.ofInt (min v4 (((J (v3 + 2) v7.toNat) - (J (v3 + 1) v7.toNat)) + 1)))), some (.int (Int32.ofInt (max v5 (((J (v3 + 2) v7.toNat) - (J (v3 + 1) v7.toNat)) + 1)))), some (.int (Int32.ofInt (v6 + (((J (v3 + 2) v7.toNat) - (J (v3 + 1) v7.toNat)) + 1)))), some (.int (Int32.ofInt (v7 + 1))), none]) ⟨jz_n0, jz_n0, rfl, rfl, rfl, rfl, rfl, rfl, jz_ni, trivial⟩ h
set_option maxHeartbeats 4000000 in
theorem e_124 {xs : Nat → Int32} {L d : Nat} {v1 : Int} {v2 : Int} {J K : jZ} {P : Int → jZ → jZ → Prop} (h : (-2147483648 ≤ v1 ∧ v1 < 2147483648) ∧ (-2147483648 ≤ J 9 1 ∧ J 9 1 < 2147483648) ∧ (((0 : Int) ≤ v1 ∧ v1 < (J 9 1)) → (-2147483648 ≤ v2 ∧ v2 < 2147483648) ∧ ((-1) ≤ v2 → q_32 xs L (d + 1) v1 J K (fun r8 J6 K7 => (jz_kd r8 = 16) ∧ (¬ v2 = (-1) → q_126 xs L (d + 1) r8 v2 J6 K7 (fun r13 J11 K12 => (-2147483648 ≤ r13 ∧ r13 < 2147483648) ∧ (¬ r13 = (-1) → P r13 J11 K12) ∧ (r13 = (-1) → q_13 xs L (d + 1) (-2) J11 K12 (fun r18 J16 K17 => P r18 J16 K17)))) ∧ (v2 = (-1) → q_125 xs L (d + 1) r8 J6 K7 (fun r21 J19 K20 => P r21 J19 K20)))) ∧ (v2 < (-1) → q_13 xs L (d + 1) (-2) J K (fun r24 J22 K23 => P r24 J22 K23))) ∧ (¬ ((0 : Int) ≤ v1 ∧ v1 < (J 9 1)) → q_13 xs L (d + 1) (-2) J K (fun r27 J25 K26 => P r27 J25 K26))) : q_124 xs L (d + 2) v1 v2 J K P := by
  unfold q_124
  refine jq_in (ls := [some (.ref 0), some (.int (Int32.ofInt v1)), some (.int (Int32.ofInt v2)), none, none]) rfl (Nat.le_of_ble_eq_true rfl) rfl ?_
  refine jw_aload_n rfl rfl ?_
  refine jw_gr (q := 9) rfl rfl rfl ?_
  refine jw_iload_n rfl rfl ?_
  refine jw_virt (k := 1) (c := 11) (as := [.int (Int32.ofInt v1)]) rfl rfl rfl (Nat.le_of_ble_eq_true rfl) rfl (Nat.le_of_ble_eq_true rfl) rfl rfl (jz_ci ?_)
  obtain ⟨o1, h⟩ := h
  obtain ⟨o2, h⟩ := h
  refine sb_27 rfl o1 o2 (fun c3 => ?_) (fun c3 => ?_)
  · replace h := h.1 c3
    refine jw_if_eq rfl (by omega) (fun hc => by exfalso; omega) (fun _ => ?_)
    refine jw_iload_n rfl rfl ?_
    refine jw_iconst rfl ?_
    obtain ⟨o4, h⟩ := h
    refine jw_ic_ge rfl o4 (by omega) (fun c5 => ?_) (fun c5 => ?_)
    · replace h := h.1 c5
      refine jw_aload_n rfl rfl ?_
      refine jw_gr (q := 61) rfl rfl rfl ?_
      refine jw_iload_n rfl rfl ?_
      refine jw_virt (k := 1) (c := 13) (as := [.int (Int32.ofInt v1)]) rfl rfl rfl (Nat.le_of_ble_eq_true rfl) rfl (Nat.le_of_ble_eq_true rfl) rfl rfl (jz_cr ?_)
      refine jm_Q.mono h (jp_r_mono (fun r8 J6 K7 h => ?_))
      obtain ⟨o9, h⟩ := h
      refine jw_astore_n (ls' := [some (.ref 0), some (.int (Int32.ofInt v1)), some (.int (Int32.ofInt v2)), some (.ref r8), none]) rfl rfl ?_
      refine jw_iload_n rfl rfl ?_
      refine jw_iconst rfl ?_
      refine jw_ic_ne rfl o4 (by omega) (fun c10 => ?_) (fun c10 => ?_)
      · replace h := h.1 c10
        refine jw_aload_n rfl rfl ?_
        refine jw_iload_n rfl rfl ?_
        refine jw_virt (k := 1) (c := 15) (as := [.int (Int32.ofInt v2)]) rfl rfl rfl (Nat.le_of_ble_eq_true rfl) rfl (Nat.le_of_ble_eq_true rfl) o9 rfl (jz_ci ?_)
        refine jm_Q.mono h (jp_i_mono (fun r13 J11 K12 h => ?_))
        refine jw_istore (ls' := [some (.ref 0), some (.int (Int32.ofInt v1)), some (.int (Int32.ofInt v2)), some (.ref r8), some (.int (Int32.ofInt r13))]) rfl rfl ?_
        refine jw_iload rfl rfl ?_
        refine jw_iconst rfl ?_
        obtain ⟨o14, h⟩ := h
        refine jw_ic_ne rfl o14 (by omega) (fun c15 => ?_) (fun c15 => ?_)
        · replace h := h.1 c15
          refine jw_iload rfl rfl ?_
          refine jw_iret rfl ?_
          exact h
        · replace h := h.2 c15
          refine jw_aload_n rfl rfl ?_
          refine jw_bipush rfl (by decide) ?_
          refine jw_virt (k := 1) (c := 18) (as := [.int (Int32.ofInt (-2))]) rfl rfl rfl (Nat.le_of_ble_eq_true rfl) rfl (Nat.le_of_ble_eq_true rfl) rfl rfl (jz_ci ?_)
          refine jm_Q.mono h (jp_i_mono (fun r18 J16 K17 h => ?_))
          refine jw_goto rfl ?_
          refine jw_iret rfl ?_
          exact h
      · replace h := h.2 c10
        refine jw_aload_n rfl rfl ?_
        refine jw_virt (k := 0) (c := 15) (as := []) rfl rfl rfl (Nat.le_of_ble_eq_true rfl) rfl (Nat.le_of_ble_eq_true rfl) o9 rfl (jz_ci ?_)
        refine jm_Q.mono h (jp_i_mono (fun r21 J19 K20 h => ?_))
        refine jw_iret rfl ?_
        exact h
    · replace h := h.2 c5
      refine jw_aload_n rfl rfl ?_
      refine jw_bipush rfl (by decide) ?_
      refine jw_virt (k := 1) (c := 18) (as := [.int (Int32.ofInt (-2))]) rfl rfl rfl (Nat.le_of_ble_eq_true rfl) rfl (Nat.le_of_ble_eq_true rfl) rfl rfl (jz_ci ?_)
      refine jm_Q.mono h (jp_i_mono (fun r24 J22 K23 h => ?_))
      refine jw_iret rfl ?_
      exact h
  · replace h := h.2 c3
    refine jw_if_eq rfl (by omega) (fun _ => ?_) (fun hc => by exfalso; omega)
    refine jw_aload_n rfl rfl ?_
    refine jw_bipush rfl (by decide) ?_
    refine jw_virt (k := 1) (c := 18) (as := [.int (Int32.ofInt (-2))]) rfl rfl rfl (Nat.le_of_ble_eq_true rfl) rfl (Nat.le_of_ble_eq_true rfl) rfl rfl (jz_ci ?_)
    refine jm_Q.mono h (jp_i_mono (fun r27 J25 K26 h => ?_))
    refine jw_iret rfl ?_
    exact h
set_option maxHeartbeats 4000000 in
theorem e_125 {xs : Nat → Int32} {L d : Nat} {v0 : Nat} {J K : jZ} {P : Int → jZ → jZ → Prop} (hk0 : jz_kd v0 = 16) (h : l_125_6 xs L d v0 0 (-1) 0 J K P) : q_125 xs L (d + 1) v0 J K P := by
  unfold q_125
  refine jq_in (ls := [some (.ref v0), none, none, none]) rfl (Nat.le_of_ble_eq_true rfl) rfl ?_
  refine jw_iconst rfl ?_
  refine jw_istore_n (ls' := [some (.ref v0), some (.int (Int32.ofInt 0)), none, none]) rfl rfl ?_
  refine jw_iconst rfl ?_
  refine jw_istore_n (ls' := [some (.ref v0), some (.int (Int32.ofInt 0)), some (.int (Int32.ofInt (-1))), none]) rfl rfl ?_
  refine jw_iconst rfl ?_
  refine jw_istore_n (ls' := [some (.ref v0), some (.int (Int32.ofInt 0)), some (.int (Int32.ofInt (-1))), some (.int (Int32.ofInt 0))]) rfl rfl ?_
  exact jz_fg (l := [some (.ref v0), some (.int (Int32.ofInt 0)), some (.int (Int32.ofInt (-1))), some (.int (Int32.ofInt 0))]) ⟨rfl, rfl, rfl, rfl, trivial⟩ h
set_option maxHeartbeats 4000000 in
theorem e_125_6 {xs : Nat → Int32} {L d : Nat} {v0 : Nat} {v1 : Int} {v2 : Int} {v3 : Int} {J K : jZ} {P : Int → jZ → jZ → Prop} (hk0 : jz_kd v0 = 16) (h : (-2147483648 ≤ v3 ∧ v3 < 2147483648) ∧ (-2147483648 ≤ J v0 2 ∧ J v0 2 < 2147483648) ∧ ((J v0 2) ≤ v3 → P v1 J K) ∧ (v3 < (J v0 2) → ((0 : Int) ≤ v3 ∧ v3 < 60) ∧ (-2147483648 ≤ J (v0 + 1) v3.toNat ∧ J (v0 + 1) v3.toNat < 2147483648) ∧ (-2147483648 ≤ v2 ∧ v2 < 2147483648) ∧ ((J (v0 + 1) v3.toNat) ≤ v2 → l_125_6 xs L d v0 v1 v2 (v3 + 1) J K P) ∧ (v2 < (J (v0 + 1) v3.toNat) → l_125_6 xs L d v0 (v1 + 1) (J (v0 + 2) v3.toNat) (v3 + 1) J K P))) : l_125_6 xs L d v0 v1 v2 v3 J K P := by
  unfold l_125_6
  refine jw_iload_n rfl rfl ?_
  refine jw_aload_n rfl rfl ?_
  refine jw_gf (v := (J v0 2)) rfl (by decide) hk0 rfl ?_
  obtain ⟨o1, h⟩ := h
  obtain ⟨o2, h⟩ := h
  refine jw_ic_ge rfl o1 o2 (fun c3 => ?_) (fun c3 => ?_)
  · replace h := h.1 c3
    refine jw_iload_n rfl rfl ?_
    refine jw_iret rfl ?_
    exact h
  · replace h := h.2 c3
    refine jw_aload_n rfl rfl ?_
    refine jw_gr (q := (v0 + 1)) rfl hk0 (jzr_16_1 hk0) ?_
    refine jw_iload_n rfl rfl ?_
    obtain ⟨o4, h⟩ := h
    refine jw_iald (v := (J (v0 + 1) v3.toNat)) (N := 60) rfl (jzk_16_1 hk0) (jzn_16_1 hk0) (by omega) o4 rfl ?_
    refine jw_iload_n rfl rfl ?_
    obtain ⟨o5, h⟩ := h
    obtain ⟨o6, h⟩ := h
    refine jw_ic_le rfl o5 o6 (fun c7 => ?_) (fun c7 => ?_)
    · replace h := h.1 c7
      refine jw_iinc (ls' := [some (.ref v0), some (.int (Int32.ofInt v1)), some (.int (Int32.ofInt v2)), some (.int (Int32.ofInt (v3 + 1)))]) rfl rfl rfl ?_
      refine jw_goto rfl ?_
      exact jz_fg (l := [some (.ref v0), some (.int (Int32.ofInt v1)), some (.int (Int32.ofInt v2)), some (.int (Int32.ofInt (v3 + 1)))]) ⟨rfl, rfl, rfl, rfl, trivial⟩ h
    · replace h := h.2 c7
      refine jw_iinc (ls' := [some (.ref v0), some (.int (Int32.ofInt (v1 + 1))), some (.int (Int32.ofInt v2)), some (.int (Int32.ofInt v3))]) rfl rfl rfl ?_
      refine jw_aload_n rfl rfl ?_
      refine jw_gr (q := (v0 + 2)) rfl hk0 (jzr_16_2 hk0) ?_
      refine jw_iload_n rfl rfl ?_
      refine jw_iald (v := (J (v0 + 2) v3.toNat)) (N := 60) rfl (jzk_16_2 hk0) (jzn_16_2 hk0) (by omega) o4 rfl ?_
      refine jw_istore_n (ls' := [some (.ref v0), some (.int (Int32.ofInt (v1 + 1))), some (.int (Int32.ofInt (J (v0 + 2) v3.toNat))), some (.int (Int32.ofInt v3))]) rfl rfl ?_
      refine jw_iinc (ls' := [some (.ref v0), some (.int (Int32.ofInt (v1 + 1))), some (.int (Int32.ofInt (J (v0 + 2) v3.toNat))), some (.int (Int32.ofInt (v3 + 1)))]) rfl rfl rfl ?_
      refine jw_goto rfl ?_
      exact jz_fg (l := [some (.ref v0), some (.int (Int32.ofInt (v1 + 1))), some (.int (Int32.ofInt (J (v0 + 2) v3.toNat))), some (.int (Int32.ofInt (v3 + 1)))]) ⟨rfl, rfl, rfl, rfl, trivial⟩ h
set_option maxHeartbeats 4000000 in
theorem e_126 {xs : Nat → Int32} {L d : Nat} {v0 : Nat} {v1 : Int} {J K : jZ} {P : Int → jZ → jZ → Prop} (hk0 : jz_kd v0 = 16) (h : l_126_7 xs L d v0 v1 0 (-1) 0 J K P) : q_126 xs L (d + 1) v0 v1 J K P := by
  unfold q_126
  refine jq_in (ls := [some (.ref v0), some (.int (Int32.ofInt v1)), none, none, none]) rfl (Nat.le_of_ble_eq_true rfl) rfl ?_
  refine jw_iconst rfl ?_
  refine jw_istore_n (ls' := [some (.ref v0), some (.int (Int32.ofInt v1)), some (.int (Int32.ofInt 0)), none, none]) rfl rfl ?_
  refine jw_iconst rfl ?_
  refine jw_istore_n (ls' := [some (.ref v0), some (.int (Int32.ofInt v1)), some (.int (Int32.ofInt 0)), some (.int (Int32.ofInt (-1))), none]) rfl rfl ?_
  refine jw_iconst rfl ?_
  refine jw_istore (ls' := [some (.ref v0), some (.int (Int32.ofInt v1)), some (.int (Int32.ofInt 0)), some (.int (Int32.ofInt (-1))), some (.int (Int32.ofInt 0))]) rfl rfl ?_
  exact jz_fg (l := [some (.ref v0), some (.int (Int32.ofInt v1)), some (.int (Int32.ofInt 0)), some (.int (Int32.ofInt (-1))), some (.int (Int32.ofInt 0))]) ⟨rfl, rfl, rfl, rfl, rfl, trivial⟩ h
set_option maxHeartbeats 4000000 in
theorem e_126_7 {xs : Nat → Int32} {L d : Nat} {v0 : Nat} {v1 : Int} {v2 : Int} {v3 : Int} {v4 : Int} {J K : jZ} {P : Int → jZ → jZ → Prop} (hk0 : jz_kd v0 = 16) (h : (-2147483648 ≤ v4 ∧ v4 < 2147483648) ∧ (-2147483648 ≤ J v0 2 ∧ J v0 2 < 2147483648) ∧ ((J v0 2) ≤ v4 → P (-1) J K) ∧ (v4 < (J v0 2) → ((0 : Int) ≤ v4 ∧ v4 < 60) ∧ (-2147483648 ≤ J (v0 + 1) v4.toNat ∧ J (v0 + 1) v4.toNat < 2147483648) ∧ (-2147483648 ≤ v3 ∧ v3 < 2147483648) ∧ ((J (v0 + 1) v4.toNat) ≤ v3 → l_126_7 xs L d v0 v1 v2 v3 (v4 + 1) J K P) ∧ (v3 < (J (v0 + 1) v4.toNat) → (-2147483648 ≤ v2 ∧ v2 < 2147483648) ∧ (-2147483648 ≤ v1 ∧ v1 < 2147483648) ∧ (¬ v2 = v1 → l_126_7 xs L d v0 v1 (v2 + 1) (J (v0 + 2) v4.toNat) (v4 + 1) J K P) ∧ (v2 = v1 → P v4 J K)))) : l_126_7 xs L d v0 v1 v2 v3 v4 J K P := by
  unfold l_126_7
  refine jw_iload rfl rfl ?_
  refine jw_aload_n rfl rfl ?_
  refine jw_gf (v := (J v0 2)) rfl (by decide) hk0 rfl ?_
  obtain ⟨o1, h⟩ := h
  obtain ⟨o2, h⟩ := h
  refine jw_ic_ge rfl o1 o2 (fun c3 => ?_) (fun c3 => ?_)
  · replace h := h.1 c3
    refine jw_iconst rfl ?_
    refine jw_iret rfl ?_
    exact h
  · replace h := h.2 c3
    refine jw_aload_n rfl rfl ?_
    refine jw_gr (q := (v0 + 1)) rfl hk0 (jzr_16_1 hk0) ?_
    refine jw_iload rfl rfl ?_
    obtain ⟨o4, h⟩ := h
    refine jw_iald (v := (J (v0 + 1) v4.toNat)) (N := 60) rfl (jzk_16_1 hk0) (jzn_16_1 hk0) (by omega) o4 rfl ?_
    refine jw_iload_n rfl rfl ?_
    obtain ⟨o5, h⟩ := h
    obtain ⟨o6, h⟩ := h
    refine jw_ic_le rfl o5 o6 (fun c7 => ?_) (fun c7 => ?_)
    · replace h := h.1 c7
      refine jw_iinc (ls' := [some (.ref v0), some (.int (Int32.ofInt v1)), some (.int (Int32.ofInt v2)), some (.int (Int32.ofInt v3)), some (.int (Int32.ofInt (v4 + 1)))]) rfl rfl rfl ?_
      refine jw_goto rfl ?_
      exact jz_fg (l := [some (.ref v0), some (.int (Int32.ofInt v1)), some (.int (Int32.ofInt v2)), some (.int (Int32.ofInt v3)), some (.int (Int32.ofInt (v4 + 1)))]) ⟨rfl, rfl, rfl, rfl, rfl, trivial⟩ h
    · replace h := h.2 c7
      refine jw_iload_n rfl rfl ?_
      refine jw_iload_n rfl rfl ?_
      obtain ⟨o8, h⟩ := h
      obtain ⟨o9, h⟩ := h
      refine jw_ic_ne rfl o8 o9 (fun c10 => ?_) (fun c10 => ?_)
      · replace h := h.1 c10
        refine jw_iinc (ls' := [some (.ref v0), some (.int (Int32.ofInt v1)), some (.int (Int32.ofInt (v2 + 1))), some (.int (Int32.ofInt v3)), some (.int (Int32.ofInt v4))]) rfl rfl rfl ?_
        refine jw_aload_n rfl rfl ?_
        refine jw_gr (q := (v0 + 2)) rfl hk0 (jzr_16_2 hk0) ?_
        refine jw_iload rfl rfl ?_
        refine jw_iald (v := (J (v0 + 2) v4.toNat)) (N := 60) rfl (jzk_16_2 hk0) (jzn_16_2 hk0) (by omega) o4 rfl ?_
        refine jw_istore_n (ls' := [some (.ref v0), some (.int (Int32.ofInt v1)), some (.int (Int32.ofInt (v2 + 1))), some (.int (Int32.ofInt (J (v0 + 2) v4.toNat))), some (.int (Int32.ofInt v4))]) rfl rfl ?_
        refine jw_iinc (ls' := [some (.ref v0), some (.int (Int32.ofInt v1)), some (.int (Int32.ofInt (v2 + 1))), some (.int (Int32.ofInt (J (v0 + 2) v4.toNat))), some (.int (Int32.ofInt (v4 + 1)))]) rfl rfl rfl ?_
        refine jw_goto rfl ?_
        exact jz_fg (l := [some (.ref v0), some (.int (Int32.ofInt v1)), some (.int (Int32.ofInt (v2 + 1))), some (.int (Int32.ofInt (J (v0 + 2) v4.toNat))), some (.int (Int32.ofInt (v4 + 1)))]) ⟨rfl, rfl, rfl, rfl, rfl, trivial⟩ h
      · replace h := h.2 c10
        refine jw_iload rfl rfl ?_
        refine jw_iret rfl ?_
        exact h
set_option maxHeartbeats 4000000 in
theorem e_127 {xs : Nat → Int32} {L d : Nat} {v1 : Int} {v2 : Int} {J K : jZ} {P : Int → jZ → jZ → Prop} (h : (-2147483648 ≤ v1 ∧ v1 < 2147483648) ∧ (-2147483648 ≤ J 9 1 ∧ J 9 1 < 2147483648) ∧ (((0 : Int) ≤ v1 ∧ v1 < (J 9 1)) → (-2147483648 ≤ v2 ∧ v2 < 2147483648) ∧ ((-1) ≤ v2 → q_32 xs L (d + 1) v1 J K (fun r8 J6 K7 => (jz_kd r8 = 16) ∧ (¬ v2 = (-1) → q_126 xs L (d + 1) r8 v2 J6 K7 (fun r13 J11 K12 => (-2147483648 ≤ r13 ∧ r13 < 2147483648) ∧ (¬ r13 = (-1) → q_46 xs L (d + 1) r8 r13 J11 K12 (fun r18 J16 K17 => P r18 J16 K17)) ∧ (r13 = (-1) → q_13 xs L (d + 1) (-2) J11 K12 (fun r21 J19 K20 => P r21 J19 K20)))) ∧ (v2 = (-1) → q_125 xs L (d + 1) r8 J6 K7 (fun r24 J22 K23 => P r24 J22 K23)))) ∧ (v2 < (-1) → q_13 xs L (d + 1) (-2) J K (fun r27 J25 K26 => P r27 J25 K26))) ∧ (¬ ((0 : Int) ≤ v1 ∧ v1 < (J 9 1)) → q_13 xs L (d + 1) (-2) J K (fun r30 J28 K29 => P r30 J28 K29))) : q_127 xs L (d + 2) v1 v2 J K P := by
  unfold q_127
  refine jq_in (ls := [some (.ref 0), some (.int (Int32.ofInt v1)), some (.int (Int32.ofInt v2)), none, none]) rfl (Nat.le_of_ble_eq_true rfl) rfl ?_
  refine jw_aload_n rfl rfl ?_
  refine jw_gr (q := 9) rfl rfl rfl ?_
  refine jw_iload_n rfl rfl ?_
  refine jw_virt (k := 1) (c := 11) (as := [.int (Int32.ofInt v1)]) rfl rfl rfl (Nat.le_of_ble_eq_true rfl) rfl (Nat.le_of_ble_eq_true rfl) rfl rfl (jz_ci ?_)
  obtain ⟨o1, h⟩ := h
  obtain ⟨o2, h⟩ := h
  refine sb_27 rfl o1 o2 (fun c3 => ?_) (fun c3 => ?_)
  · replace h := h.1 c3
    refine jw_if_eq rfl (by omega) (fun hc => by exfalso; omega) (fun _ => ?_)
    refine jw_iload_n rfl rfl ?_
    refine jw_iconst rfl ?_
    obtain ⟨o4, h⟩ := h
    refine jw_ic_ge rfl o4 (by omega) (fun c5 => ?_) (fun c5 => ?_)
    · replace h := h.1 c5
      refine jw_aload_n rfl rfl ?_
      refine jw_gr (q := 61) rfl rfl rfl ?_
      refine jw_iload_n rfl rfl ?_
      refine jw_virt (k := 1) (c := 13) (as := [.int (Int32.ofInt v1)]) rfl rfl rfl (Nat.le_of_ble_eq_true rfl) rfl (Nat.le_of_ble_eq_true rfl) rfl rfl (jz_cr ?_)
      refine jm_Q.mono h (jp_r_mono (fun r8 J6 K7 h => ?_))
      obtain ⟨o9, h⟩ := h
      refine jw_astore_n (ls' := [some (.ref 0), some (.int (Int32.ofInt v1)), some (.int (Int32.ofInt v2)), some (.ref r8), none]) rfl rfl ?_
      refine jw_iload_n rfl rfl ?_
      refine jw_iconst rfl ?_
      refine jw_ic_ne rfl o4 (by omega) (fun c10 => ?_) (fun c10 => ?_)
      · replace h := h.1 c10
        refine jw_aload_n rfl rfl ?_
        refine jw_iload_n rfl rfl ?_
        refine jw_virt (k := 1) (c := 15) (as := [.int (Int32.ofInt v2)]) rfl rfl rfl (Nat.le_of_ble_eq_true rfl) rfl (Nat.le_of_ble_eq_true rfl) o9 rfl (jz_ci ?_)
        refine jm_Q.mono h (jp_i_mono (fun r13 J11 K12 h => ?_))
        refine jw_istore (ls' := [some (.ref 0), some (.int (Int32.ofInt v1)), some (.int (Int32.ofInt v2)), some (.ref r8), some (.int (Int32.ofInt r13))]) rfl rfl ?_
        refine jw_iload rfl rfl ?_
        refine jw_iconst rfl ?_
        obtain ⟨o14, h⟩ := h
        refine jw_ic_ne rfl o14 (by omega) (fun c15 => ?_) (fun c15 => ?_)
        · replace h := h.1 c15
          refine jw_aload_n rfl rfl ?_
          refine jw_iload rfl rfl ?_
          refine jw_virt (k := 1) (c := 15) (as := [.int (Int32.ofInt r13)]) rfl rfl rfl (Nat.le_of_ble_eq_true rfl) rfl (Nat.le_of_ble_eq_true rfl) o9 rfl (jz_ci ?_)
          refine jm_Q.mono h (jp_i_mono (fun r18 J16 K17 h => ?_))
          refine jw_iret rfl ?_
          exact h
        · replace h := h.2 c15
          refine jw_aload_n rfl rfl ?_
          refine jw_bipush rfl (by decide) ?_
          refine jw_virt (k := 1) (c := 18) (as := [.int (Int32.ofInt (-2))]) rfl rfl rfl (Nat.le_of_ble_eq_true rfl) rfl (Nat.le_of_ble_eq_true rfl) rfl rfl (jz_ci ?_)
          refine jm_Q.mono h (jp_i_mono (fun r21 J19 K20 h => ?_))
          refine jw_goto rfl ?_
          refine jw_iret rfl ?_
          exact h
      · replace h := h.2 c10
        refine jw_aload_n rfl rfl ?_
        refine jw_virt (k := 0) (c := 15) (as := []) rfl rfl rfl (Nat.le_of_ble_eq_true rfl) rfl (Nat.le_of_ble_eq_true rfl) o9 rfl (jz_ci ?_)
        refine jm_Q.mono h (jp_i_mono (fun r24 J22 K23 h => ?_))
        refine jw_iret rfl ?_
        exact h
    · replace h := h.2 c5
      refine jw_aload_n rfl rfl ?_
      refine jw_bipush rfl (by decide) ?_
      refine jw_virt (k := 1) (c := 18) (as := [.int (Int32.ofInt (-2))]) rfl rfl rfl (Nat.le_of_ble_eq_true rfl) rfl (Nat.le_of_ble_eq_true rfl) rfl rfl (jz_ci ?_)
      refine jm_Q.mono h (jp_i_mono (fun r27 J25 K26 h => ?_))
      refine jw_iret rfl ?_
      exact h
  · replace h := h.2 c3
    refine jw_if_eq rfl (by omega) (fun _ => ?_) (fun hc => by exfalso; omega)
    refine jw_aload_n rfl rfl ?_
    refine jw_bipush rfl (by decide) ?_
    refine jw_virt (k := 1) (c := 18) (as := [.int (Int32.ofInt (-2))]) rfl rfl rfl (Nat.le_of_ble_eq_true rfl) rfl (Nat.le_of_ble_eq_true rfl) rfl rfl (jz_ci ?_)
    refine jm_Q.mono h (jp_i_mono (fun r30 J28 K29 h => ?_))
    refine jw_iret rfl ?_
    exact h
set_option maxHeartbeats 4000000 in
theorem e_129 {xs : Nat → Int32} {L d : Nat} {v0 : Nat} {v1 : Int} {J K : jZ} {P : Int → jZ → jZ → Prop} (hk0 : jz_kd v0 = 18) (h : (-2147483648 ≤ J v0 3 ∧ J v0 3 < 2147483648) ∧ (¬ (J v0 3) = 0 → q_112 xs L d v0 ((J v0 3) - 1) v1 J K (fun r5 J3 K4 => P (r5 + 1) J3 K4)) ∧ ((J v0 3) = 0 → P 0 J K)) : q_129 xs L (d + 1) v0 v1 J K P := by
  unfold q_129
  refine jq_in (ls := [some (.ref v0), some (.int (Int32.ofInt v1))]) rfl (Nat.le_of_ble_eq_true rfl) rfl ?_
  refine jw_aload_n rfl rfl ?_
  refine jw_gf (v := (J v0 3)) rfl (by decide) hk0 rfl ?_
  obtain ⟨o1, h⟩ := h
  refine jw_if_ne rfl o1 (fun c2 => ?_) (fun c2 => ?_)
  · replace h := h.1 c2
    refine jw_aload_n rfl rfl ?_
    refine jw_aload_n rfl rfl ?_
    refine jw_gf (v := (J v0 3)) rfl (by decide) hk0 rfl ?_
    refine jw_iconst rfl ?_
    refine jw_isub rfl ?_
    refine jw_iload_n rfl rfl ?_
    refine jw_virt (k := 2) (c := 17) (as := [.int (Int32.ofInt ((J v0 3) - 1)), .int (Int32.ofInt v1)]) rfl rfl rfl (Nat.le_of_ble_eq_true rfl) rfl (Nat.le_of_ble_eq_true rfl) hk0 rfl (jz_ci ?_)
    refine jm_Q.mono h (jp_i_mono (fun r5 J3 K4 h => ?_))
    refine jw_iconst rfl ?_
    refine jw_iadd rfl ?_
    refine jw_iret rfl ?_
    exact h
  · replace h := h.2 c2
    refine jw_iconst rfl ?_
    refine jw_goto rfl ?_
    refine jw_iret rfl ?_
    exact h
set_option maxHeartbeats 4000000 in
theorem e_136 {xs : Nat → Int32} {L d : Nat} {v1 : Int} {v2 : Int} {v3 : Int} {J K : jZ} {P : Int → jZ → jZ → Prop} (h : (-2147483648 ≤ v1 ∧ v1 < 2147483648) ∧ (-2147483648 ≤ J 9 1 ∧ J 9 1 < 2147483648) ∧ (((0 : Int) ≤ v1 ∧ v1 < (J 9 1)) → (-2147483648 ≤ v2 ∧ v2 < 2147483648) ∧ (((0 : Int) ≤ v2 ∧ v2 < (J 9 1)) → (-2147483648 ≤ v3 ∧ v3 < 2147483648) ∧ (v3 < 0 → q_13 xs L (d + 1) (-2) J K (fun r10 J8 K9 => P r10 J8 K9)) ∧ (0 ≤ v3 → (v3 ≤ 2 → q_32 xs L (d + 1) v1 J K (fun r14 J12 K13 => (jz_kd r14 = 16) ∧ q_32 xs L (d + 1) v2 J12 K13 (fun r18 J16 K17 => (jz_kd r18 = 16) ∧ (¬ v3 = 2 → (¬ v3 = 0 → q_53 xs L (d + 1) 7 r14 r18 140 J16 K17 (fun J22 K23 => P (J22 140 2) J22 K23)) ∧ (v3 = 0 → q_53 xs L (d + 1) 5 r14 r18 140 J16 K17 (fun J24 K25 => P (J24 140 2) J24 K25))) ∧ (v3 = 2 → q_137 xs L (d + 1) r14 r18 J16 K17 (fun r28 J26 K27 => P r28 J26 K27))))) ∧ (2 < v3 → q_13 xs L (d + 1) (-2) J K (fun r31 J29 K30 => P r31 J29 K30)))) ∧ (¬ ((0 : Int) ≤ v2 ∧ v2 < (J 9 1)) → q_13 xs L (d + 1) (-2) J K (fun r34 J32 K33 => P r34 J32 K33))) ∧ (¬ ((0 : Int) ≤ v1 ∧ v1 < (J 9 1)) → q_13 xs L (d + 1) (-2) J K (fun r37 J35 K36 => P r37 J35 K36))) : q_136 xs L (d + 2) v1 v2 v3 J K P := by
  unfold q_136
  refine jq_in (ls := [some (.ref 0), some (.int (Int32.ofInt v1)), some (.int (Int32.ofInt v2)), some (.int (Int32.ofInt v3)), none, none]) rfl (Nat.le_of_ble_eq_true rfl) rfl ?_
  refine jw_aload_n rfl rfl ?_
  refine jw_gr (q := 9) rfl rfl rfl ?_
  refine jw_iload_n rfl rfl ?_
  refine jw_virt (k := 1) (c := 11) (as := [.int (Int32.ofInt v1)]) rfl rfl rfl (Nat.le_of_ble_eq_true rfl) rfl (Nat.le_of_ble_eq_true rfl) rfl rfl (jz_ci ?_)
  obtain ⟨o1, h⟩ := h
  obtain ⟨o2, h⟩ := h
  refine sb_27 rfl o1 o2 (fun c3 => ?_) (fun c3 => ?_)
  · replace h := h.1 c3
    refine jw_if_eq rfl (by omega) (fun hc => by exfalso; omega) (fun _ => ?_)
    refine jw_aload_n rfl rfl ?_
    refine jw_gr (q := 9) rfl rfl rfl ?_
    refine jw_iload_n rfl rfl ?_
    refine jw_virt (k := 1) (c := 11) (as := [.int (Int32.ofInt v2)]) rfl rfl rfl (Nat.le_of_ble_eq_true rfl) rfl (Nat.le_of_ble_eq_true rfl) rfl rfl (jz_ci ?_)
    obtain ⟨o4, h⟩ := h
    refine sb_27 rfl o4 o2 (fun c5 => ?_) (fun c5 => ?_)
    · replace h := h.1 c5
      refine jw_if_eq rfl (by omega) (fun hc => by exfalso; omega) (fun _ => ?_)
      refine jw_iload_n rfl rfl ?_
      obtain ⟨o6, h⟩ := h
      refine jw_if_lt rfl o6 (fun c7 => ?_) (fun c7 => ?_)
      · replace h := h.1 c7
        refine jw_aload_n rfl rfl ?_
        refine jw_bipush rfl (by decide) ?_
        refine jw_virt (k := 1) (c := 18) (as := [.int (Int32.ofInt (-2))]) rfl rfl rfl (Nat.le_of_ble_eq_true rfl) rfl (Nat.le_of_ble_eq_true rfl) rfl rfl (jz_ci ?_)
        refine jm_Q.mono h (jp_i_mono (fun r10 J8 K9 h => ?_))
        refine jw_iret rfl ?_
        exact h
      · replace h := h.2 c7
        refine jw_iload_n rfl rfl ?_
        refine jw_iconst rfl ?_
        refine jw_ic_le rfl o6 (by omega) (fun c11 => ?_) (fun c11 => ?_)
        · replace h := h.1 c11
          refine jw_aload_n rfl rfl ?_
          refine jw_gr (q := 61) rfl rfl rfl ?_
          refine jw_iload_n rfl rfl ?_
          refine jw_virt (k := 1) (c := 13) (as := [.int (Int32.ofInt v1)]) rfl rfl rfl (Nat.le_of_ble_eq_true rfl) rfl (Nat.le_of_ble_eq_true rfl) rfl rfl (jz_cr ?_)
          refine jm_Q.mono h (jp_r_mono (fun r14 J12 K13 h => ?_))
          obtain ⟨o15, h⟩ := h
          refine jw_astore (ls' := [some (.ref 0), some (.int (Int32.ofInt v1)), some (.int (Int32.ofInt v2)), some (.int (Int32.ofInt v3)), some (.ref r14), none]) rfl rfl ?_
          refine jw_aload_n rfl rfl ?_
          refine jw_gr (q := 61) rfl rfl rfl ?_
          refine jw_iload_n rfl rfl ?_
          refine jw_virt (k := 1) (c := 13) (as := [.int (Int32.ofInt v2)]) rfl rfl rfl (Nat.le_of_ble_eq_true rfl) rfl (Nat.le_of_ble_eq_true rfl) rfl rfl (jz_cr ?_)
          refine jm_Q.mono h (jp_r_mono (fun r18 J16 K17 h => ?_))
          obtain ⟨o19, h⟩ := h
          refine jw_astore (ls' := [some (.ref 0), some (.int (Int32.ofInt v1)), some (.int (Int32.ofInt v2)), some (.int (Int32.ofInt v3)), some (.ref r14), some (.ref r18)]) rfl rfl ?_
          refine jw_iload_n rfl rfl ?_
          refine jw_iconst rfl ?_
          refine jw_ic_ne rfl o6 (by omega) (fun c20 => ?_) (fun c20 => ?_)
          · replace h := h.1 c20
            refine jw_aload_n rfl rfl ?_
            refine jw_gr (q := 61) rfl rfl rfl ?_
            refine jw_iload_n rfl rfl ?_
            refine jw_if_ne rfl o6 (fun c21 => ?_) (fun c21 => ?_)
            · replace h := h.1 c21
              refine jw_bipush rfl (by decide) ?_
              refine jw_aload rfl rfl ?_
              refine jw_aload rfl rfl ?_
              refine jw_aload_n rfl rfl ?_
              refine jw_gr (q := 140) rfl rfl rfl ?_
              refine jw_virt (k := 4) (c := 13) (as := [.int (Int32.ofInt 7), .ref r14, .ref r18, .ref 140]) rfl rfl rfl (Nat.le_of_ble_eq_true rfl) rfl (Nat.le_of_ble_eq_true rfl) rfl rfl (jz_cv ?_)
              refine jm_Q.mono h (jp_v_mono (fun J22 K23 h => ?_))
              refine jw_aload_n rfl rfl ?_
              refine jw_gr (q := 140) rfl rfl rfl ?_
              refine jw_gf (v := (J22 140 2)) rfl (by decide) rfl rfl ?_
              refine jw_iret rfl ?_
              exact h
            · replace h := h.2 c21
              refine jw_iconst rfl ?_
              refine jw_goto rfl ?_
              refine jw_aload rfl rfl ?_
              refine jw_aload rfl rfl ?_
              refine jw_aload_n rfl rfl ?_
              refine jw_gr (q := 140) rfl rfl rfl ?_
              refine jw_virt (k := 4) (c := 13) (as := [.int (Int32.ofInt 5), .ref r14, .ref r18, .ref 140]) rfl rfl rfl (Nat.le_of_ble_eq_true rfl) rfl (Nat.le_of_ble_eq_true rfl) rfl rfl (jz_cv ?_)
              refine jm_Q.mono h (jp_v_mono (fun J24 K25 h => ?_))
              refine jw_aload_n rfl rfl ?_
              refine jw_gr (q := 140) rfl rfl rfl ?_
              refine jw_gf (v := (J24 140 2)) rfl (by decide) rfl rfl ?_
              refine jw_iret rfl ?_
              exact h
          · replace h := h.2 c20
            refine jw_aload rfl rfl ?_
            refine jw_aload rfl rfl ?_
            refine jw_virt (k := 1) (c := 15) (as := [.ref r18]) rfl rfl rfl (Nat.le_of_ble_eq_true rfl) rfl (Nat.le_of_ble_eq_true rfl) o15 rfl (jz_ci ?_)
            refine jm_Q.mono h (jp_i_mono (fun r28 J26 K27 h => ?_))
            refine jw_iret rfl ?_
            exact h
        · replace h := h.2 c11
          refine jw_aload_n rfl rfl ?_
          refine jw_bipush rfl (by decide) ?_
          refine jw_virt (k := 1) (c := 18) (as := [.int (Int32.ofInt (-2))]) rfl rfl rfl (Nat.le_of_ble_eq_true rfl) rfl (Nat.le_of_ble_eq_true rfl) rfl rfl (jz_ci ?_)
          refine jm_Q.mono h (jp_i_mono (fun r31 J29 K30 h => ?_))
          refine jw_iret rfl ?_
          exact h
    · replace h := h.2 c5
      refine jw_if_eq rfl (by omega) (fun _ => ?_) (fun hc => by exfalso; omega)
      refine jw_aload_n rfl rfl ?_
      refine jw_bipush rfl (by decide) ?_
      refine jw_virt (k := 1) (c := 18) (as := [.int (Int32.ofInt (-2))]) rfl rfl rfl (Nat.le_of_ble_eq_true rfl) rfl (Nat.le_of_ble_eq_true rfl) rfl rfl (jz_ci ?_)
      refine jm_Q.mono h (jp_i_mono (fun r34 J32 K33 h => ?_))
      refine jw_iret rfl ?_
      exact h
  · replace h := h.2 c3
    refine jw_if_eq rfl (by omega) (fun _ => ?_) (fun hc => by exfalso; omega)
    refine jw_aload_n rfl rfl ?_
    refine jw_bipush rfl (by decide) ?_
    refine jw_virt (k := 1) (c := 18) (as := [.int (Int32.ofInt (-2))]) rfl rfl rfl (Nat.le_of_ble_eq_true rfl) rfl (Nat.le_of_ble_eq_true rfl) rfl rfl (jz_ci ?_)
    refine jm_Q.mono h (jp_i_mono (fun r37 J35 K36 h => ?_))
    refine jw_iret rfl ?_
    exact h
set_option maxHeartbeats 4000000 in
theorem e_137 {xs : Nat → Int32} {L d : Nat} {v0 : Nat} {v1 : Nat} {J K : jZ} {P : Int → jZ → jZ → Prop} (hk0 : jz_kd v0 = 16) (hk1 : jz_kd v1 = 16) (h : l_137_7 xs L (d + 1) v0 v1 0 0 0 J K P) : q_137 xs L (d + 2) v0 v1 J K P := by
  unfold q_137
  refine jq_in (ls := [some (.ref v0), some (.ref v1), none, none, none]) rfl (Nat.le_of_ble_eq_true rfl) rfl ?_
  refine jw_iconst rfl ?_
  refine jw_istore_n (ls' := [some (.ref v0), some (.ref v1), some (.int (Int32.ofInt 0)), none, none]) rfl rfl ?_
  refine jw_iconst rfl ?_
  refine jw_istore_n (ls' := [some (.ref v0), some (.ref v1), some (.int (Int32.ofInt 0)), some (.int (Int32.ofInt 0)), none]) rfl rfl ?_
  refine jw_iconst rfl ?_
  refine jw_istore (ls' := [some (.ref v0), some (.ref v1), some (.int (Int32.ofInt 0)), some (.int (Int32.ofInt 0)), some (.int (Int32.ofInt 0))]) rfl rfl ?_
  exact jz_fg (l := [some (.ref v0), some (.ref v1), some (.int (Int32.ofInt 0)), some (.int (Int32.ofInt 0)), some (.int (Int32.ofInt 0))]) ⟨rfl, rfl, rfl, rfl, rfl, trivial⟩ h
set_option maxHeartbeats 4000000 in
theorem e_137_7 {xs : Nat → Int32} {L d : Nat} {v0 : Nat} {v1 : Nat} {v2 : Int} {v3 : Int} {v4 : Int} {J K : jZ} {P : Int → jZ → jZ → Prop} (hk0 : jz_kd v0 = 16) (hk1 : jz_kd v1 = 16) (h : (-2147483648 ≤ v4 ∧ v4 < 2147483648) ∧ (-2147483648 ≤ J v0 2 ∧ J v0 2 < 2147483648) ∧ ((J v0 2) ≤ v4 → P v2 J K) ∧ (v4 < (J v0 2) → ((0 : Int) ≤ v4 ∧ v4 < 60) ∧ (-2147483648 ≤ J (v0 + 1) v4.toNat ∧ J (v0 + 1) v4.toNat < 2147483648) ∧ q_45 xs L (d + 1) v1 v3 (J (v0 + 1) v4.toNat) J K (fun r8 J6 K7 => (-2147483648 ≤ r8 ∧ r8 < 2147483648) ∧ (-2147483648 ≤ J6 v1 2 ∧ J6 v1 2 < 2147483648) ∧ (((0 : Int) ≤ r8 ∧ r8 < (J6 v1 2)) → ((0 : Int) ≤ r8 ∧ r8 < 60) ∧ (-2147483648 ≤ ((100 * (J6 (v0 + 1) v4.toNat)) + (J6 (v0 + 2) v4.toNat)) ∧ ((100 * (J6 (v0 + 1) v4.toNat)) + (J6 (v0 + 2) v4.toNat)) < 2147483648) ∧ (-2147483648 ≤ ((100 * (J6 (v1 + 1) r8.toNat)) + (J6 (v1 + 2) r8.toNat)) ∧ ((100 * (J6 (v1 + 1) r8.toNat)) + (J6 (v1 + 2) r8.toNat)) < 2147483648) ∧ (¬ ((100 * (J6 (v0 + 1) v4.toNat)) + (J6 (v0 + 2) v4.toNat)) = ((100 * (J6 (v1 + 1) r8.toNat)) + (J6 (v1 + 2) r8.toNat)) → l_137_7 xs L (d + 1) v0 v1 v2 r8 (v4 + 1) J6 K7 P) ∧ (((100 * (J6 (v0 + 1) v4.toNat)) + (J6 (v0 + 2) v4.toNat)) = ((100 * (J6 (v1 + 1) r8.toNat)) + (J6 (v1 + 2) r8.toNat)) → l_137_7 xs L (d + 1) v0 v1 (v2 + 1) r8 (v4 + 1) J6 K7 P)) ∧ (¬ ((0 : Int) ≤ r8 ∧ r8 < (J6 v1 2)) → l_137_7 xs L (d + 1) v0 v1 v2 r8 (v4 + 1) J6 K7 P)))) : l_137_7 xs L (d + 1) v0 v1 v2 v3 v4 J K P := by
  unfold l_137_7
  refine jw_iload rfl rfl ?_
  refine jw_aload_n rfl rfl ?_
  refine jw_gf (v := (J v0 2)) rfl (by decide) hk0 rfl ?_
  obtain ⟨o1, h⟩ := h
  obtain ⟨o2, h⟩ := h
  refine jw_ic_ge rfl o1 o2 (fun c3 => ?_) (fun c3 => ?_)
  · replace h := h.1 c3
    refine jw_iload_n rfl rfl ?_
    refine jw_iret rfl ?_
    exact h
  · replace h := h.2 c3
    refine jw_aload_n rfl rfl ?_
    refine jw_iload_n rfl rfl ?_
    refine jw_aload_n rfl rfl ?_
    refine jw_gr (q := (v0 + 1)) rfl hk0 (jzr_16_1 hk0) ?_
    refine jw_iload rfl rfl ?_
    obtain ⟨o4, h⟩ := h
    refine jw_iald (v := (J (v0 + 1) v4.toNat)) (N := 60) rfl (jzk_16_1 hk0) (jzn_16_1 hk0) (by omega) o4 rfl ?_
    obtain ⟨o5, h⟩ := h
    refine jw_i2l rfl o5 ?_
    refine jw_virt (k := 2) (c := 15) (as := [.int (Int32.ofInt v3), .long (Int64.ofInt (J (v0 + 1) v4.toNat))]) rfl rfl rfl (Nat.le_of_ble_eq_true rfl) rfl (Nat.le_of_ble_eq_true rfl) hk1 rfl (jz_ci ?_)
    refine jm_Q.mono h (jp_i_mono (fun r8 J6 K7 h => ?_))
    refine jw_istore_n (ls' := [some (.ref v0), some (.ref v1), some (.int (Int32.ofInt v2)), some (.int (Int32.ofInt r8)), some (.int (Int32.ofInt v4))]) rfl rfl ?_
    refine jw_aload_n rfl rfl ?_
    refine jw_iload_n rfl rfl ?_
    refine jw_virt (k := 1) (c := 15) (as := [.int (Int32.ofInt r8)]) rfl rfl rfl (Nat.le_of_ble_eq_true rfl) rfl (Nat.le_of_ble_eq_true rfl) hk1 rfl (jz_ci ?_)
    obtain ⟨o9, h⟩ := h
    obtain ⟨o10, h⟩ := h
    refine sb_47 hk1 o9 o10 (fun c11 => ?_) (fun c11 => ?_)
    · replace h := h.1 c11
      refine jw_if_eq rfl (by omega) (fun hc => by exfalso; omega) (fun _ => ?_)
      refine jw_aload_n rfl rfl ?_
      refine jw_iload rfl rfl ?_
      refine jw_virt (k := 1) (c := 15) (as := [.int (Int32.ofInt v4)]) rfl rfl rfl (Nat.le_of_ble_eq_true rfl) rfl (Nat.le_of_ble_eq_true rfl) hk0 rfl (jz_ci ?_)
      refine jq_in (ls := [some (.ref v0), some (.int (Int32.ofInt v4))]) rfl (Nat.le_of_ble_eq_true rfl) rfl ?_
      refine jw_bipush rfl (by decide) ?_
      refine jw_aload_n rfl rfl ?_
      refine jw_gr (q := (v0 + 1)) rfl hk0 (jzr_16_1 hk0) ?_
      refine jw_iload_n rfl rfl ?_
      refine jw_iald (v := (J6 (v0 + 1) v4.toNat)) (N := 60) rfl (jzk_16_1 hk0) (jzn_16_1 hk0) (by omega) o4 rfl ?_
      refine jw_imul rfl ?_
      refine jw_aload_n rfl rfl ?_
      refine jw_gr (q := (v0 + 2)) rfl hk0 (jzr_16_2 hk0) ?_
      refine jw_iload_n rfl rfl ?_
      refine jw_iald (v := (J6 (v0 + 2) v4.toNat)) (N := 60) rfl (jzk_16_2 hk0) (jzn_16_2 hk0) (by omega) o4 rfl ?_
      refine jw_iadd rfl ?_
      refine jw_iret rfl ?_
      refine jw_aload_n rfl rfl ?_
      refine jw_iload_n rfl rfl ?_
      refine jw_virt (k := 1) (c := 15) (as := [.int (Int32.ofInt r8)]) rfl rfl rfl (Nat.le_of_ble_eq_true rfl) rfl (Nat.le_of_ble_eq_true rfl) hk1 rfl (jz_ci ?_)
      refine jq_in (ls := [some (.ref v1), some (.int (Int32.ofInt r8))]) rfl (Nat.le_of_ble_eq_true rfl) rfl ?_
      refine jw_bipush rfl (by decide) ?_
      refine jw_aload_n rfl rfl ?_
      refine jw_gr (q := (v1 + 1)) rfl hk1 (jzr_16_1 hk1) ?_
      refine jw_iload_n rfl rfl ?_
      obtain ⟨o12, h⟩ := h
      refine jw_iald (v := (J6 (v1 + 1) r8.toNat)) (N := 60) rfl (jzk_16_1 hk1) (jzn_16_1 hk1) (by omega) o12 rfl ?_
      refine jw_imul rfl ?_
      refine jw_aload_n rfl rfl ?_
      refine jw_gr (q := (v1 + 2)) rfl hk1 (jzr_16_2 hk1) ?_
      refine jw_iload_n rfl rfl ?_
      refine jw_iald (v := (J6 (v1 + 2) r8.toNat)) (N := 60) rfl (jzk_16_2 hk1) (jzn_16_2 hk1) (by omega) o12 rfl ?_
      refine jw_iadd rfl ?_
      refine jw_iret rfl ?_
      obtain ⟨o13, h⟩ := h
      obtain ⟨o14, h⟩ := h
      refine jw_ic_ne rfl o13 o14 (fun c15 => ?_) (fun c15 => ?_)
      · replace h := h.1 c15
        refine jw_iinc (ls' := [some (.ref v0), some (.ref v1), some (.int (Int32.ofInt v2)), some (.int (Int32.ofInt r8)), some (.int (Int32.ofInt (v4 + 1)))]) rfl rfl rfl ?_
        refine jw_goto rfl ?_
        exact jz_fg (l := [some (.ref v0), some (.ref v1), some (.int (Int32.ofInt v2)), some (.int (Int32.ofInt r8)), some (.int (Int32.ofInt (v4 + 1)))]) ⟨rfl, rfl, rfl, rfl, rfl, trivial⟩ h
      · replace h := h.2 c15
        refine jw_iinc (ls' := [some (.ref v0), some (.ref v1), some (.int (Int32.ofInt (v2 + 1))), some (.int (Int32.ofInt r8)), some (.int (Int32.ofInt v4))]) rfl rfl rfl ?_
        refine jw_iinc (ls' := [some (.ref v0), some (.ref v1), some (.int (Int32.ofInt (v2 + 1))), some (.int (Int32.ofInt r8)), some (.int (Int32.ofInt (v4 + 1)))]) rfl rfl rfl ?_
        refine jw_goto rfl ?_
        exact jz_fg (l := [some (.ref v0), some (.ref v1), some (.int (Int32.ofInt (v2 + 1))), some (.int (Int32.ofInt r8)), some (.int (Int32.ofInt (v4 + 1)))]) ⟨rfl, rfl, rfl, rfl, rfl, trivial⟩ h
    · replace h := h.2 c11
      refine jw_if_eq rfl (by omega) (fun _ => ?_) (fun hc => by exfalso; omega)
      refine jw_iinc (ls' := [some (.ref v0), some (.ref v1), some (.int (Int32.ofInt v2)), some (.int (Int32.ofInt r8)), some (.int (Int32.ofInt (v4 + 1)))]) rfl rfl rfl ?_
      refine jw_goto rfl ?_
      exact jz_fg (l := [some (.ref v0), some (.ref v1), some (.int (Int32.ofInt v2)), some (.int (Int32.ofInt r8)), some (.int (Int32.ofInt (v4 + 1)))]) ⟨rfl, rfl, rfl, rfl, rfl, trivial⟩ h
set_option maxHeartbeats 4000000 in
theorem e_138 {xs : Nat → Int32} {L d : Nat} {v1 : Int} {v2 : Int} {J K : jZ} {P : Int → jZ → jZ → Prop} (h : (-2147483648 ≤ v1 ∧ v1 < 2147483648) ∧ (-2147483648 ≤ J 9 1 ∧ J 9 1 < 2147483648) ∧ (((0 : Int) ≤ v1 ∧ v1 < (J 9 1)) → (-2147483648 ≤ v2 ∧ v2 < 2147483648) ∧ (((0 : Int) ≤ v2 ∧ v2 < (J 9 1)) → q_32 xs L (d + 1) v1 J K (fun r8 J6 K7 => (jz_kd r8 = 16) ∧ q_32 xs L (d + 1) v2 J6 K7 (fun r12 J10 K11 => (jz_kd r12 = 16) ∧ q_139 xs L (d + 1) r8 r12 J10 K11 (fun r16 J14 K15 => P r16 J14 K15)))) ∧ (¬ ((0 : Int) ≤ v2 ∧ v2 < (J 9 1)) → q_13 xs L (d + 1) (-2) J K (fun r19 J17 K18 => P r19 J17 K18))) ∧ (¬ ((0 : Int) ≤ v1 ∧ v1 < (J 9 1)) → q_13 xs L (d + 1) (-2) J K (fun r22 J20 K21 => P r22 J20 K21))) : q_138 xs L (d + 2) v1 v2 J K P := by
  unfold q_138
  refine jq_in (ls := [some (.ref 0), some (.int (Int32.ofInt v1)), some (.int (Int32.ofInt v2))]) rfl (Nat.le_of_ble_eq_true rfl) rfl ?_
  refine jw_aload_n rfl rfl ?_
  refine jw_gr (q := 9) rfl rfl rfl ?_
  refine jw_iload_n rfl rfl ?_
  refine jw_virt (k := 1) (c := 11) (as := [.int (Int32.ofInt v1)]) rfl rfl rfl (Nat.le_of_ble_eq_true rfl) rfl (Nat.le_of_ble_eq_true rfl) rfl rfl (jz_ci ?_)
  obtain ⟨o1, h⟩ := h
  obtain ⟨o2, h⟩ := h
  refine sb_27 rfl o1 o2 (fun c3 => ?_) (fun c3 => ?_)
  · replace h := h.1 c3
    refine jw_if_eq rfl (by omega) (fun hc => by exfalso; omega) (fun _ => ?_)
    refine jw_aload_n rfl rfl ?_
    refine jw_gr (q := 9) rfl rfl rfl ?_
    refine jw_iload_n rfl rfl ?_
    refine jw_virt (k := 1) (c := 11) (as := [.int (Int32.ofInt v2)]) rfl rfl rfl (Nat.le_of_ble_eq_true rfl) rfl (Nat.le_of_ble_eq_true rfl) rfl rfl (jz_ci ?_)
    obtain ⟨o4, h⟩ := h
    refine sb_27 rfl o4 o2 (fun c5 => ?_) (fun c5 => ?_)
    · replace h := h.1 c5
      refine jw_if_ne rfl (by omega) (fun _ => ?_) (fun hc => by exfalso; omega)
      refine jw_aload_n rfl rfl ?_
      refine jw_gr (q := 61) rfl rfl rfl ?_
      refine jw_iload_n rfl rfl ?_
      refine jw_virt (k := 1) (c := 13) (as := [.int (Int32.ofInt v1)]) rfl rfl rfl (Nat.le_of_ble_eq_true rfl) rfl (Nat.le_of_ble_eq_true rfl) rfl rfl (jz_cr ?_)
      refine jm_Q.mono h (jp_r_mono (fun r8 J6 K7 h => ?_))
      obtain ⟨o9, h⟩ := h
      refine jw_aload_n rfl rfl ?_
      refine jw_gr (q := 61) rfl rfl rfl ?_
      refine jw_iload_n rfl rfl ?_
      refine jw_virt (k := 1) (c := 13) (as := [.int (Int32.ofInt v2)]) rfl rfl rfl (Nat.le_of_ble_eq_true rfl) rfl (Nat.le_of_ble_eq_true rfl) rfl rfl (jz_cr ?_)
      refine jm_Q.mono h (jp_r_mono (fun r12 J10 K11 h => ?_))
      obtain ⟨o13, h⟩ := h
      refine jw_virt (k := 1) (c := 15) (as := [.ref r12]) rfl rfl rfl (Nat.le_of_ble_eq_true rfl) rfl (Nat.le_of_ble_eq_true rfl) o9 rfl (jz_ci ?_)
      refine jm_Q.mono h (jp_i_mono (fun r16 J14 K15 h => ?_))
      refine jw_iret rfl ?_
      exact h
    · replace h := h.2 c5
      refine jw_if_ne rfl (by omega) (fun hc => by exfalso; omega) (fun _ => ?_)
      refine jw_aload_n rfl rfl ?_
      refine jw_bipush rfl (by decide) ?_
      refine jw_virt (k := 1) (c := 18) (as := [.int (Int32.ofInt (-2))]) rfl rfl rfl (Nat.le_of_ble_eq_true rfl) rfl (Nat.le_of_ble_eq_true rfl) rfl rfl (jz_ci ?_)
      refine jm_Q.mono h (jp_i_mono (fun r19 J17 K18 h => ?_))
      refine jw_iret rfl ?_
      exact h
  · replace h := h.2 c3
    refine jw_if_eq rfl (by omega) (fun _ => ?_) (fun hc => by exfalso; omega)
    refine jw_aload_n rfl rfl ?_
    refine jw_bipush rfl (by decide) ?_
    refine jw_virt (k := 1) (c := 18) (as := [.int (Int32.ofInt (-2))]) rfl rfl rfl (Nat.le_of_ble_eq_true rfl) rfl (Nat.le_of_ble_eq_true rfl) rfl rfl (jz_ci ?_)
    refine jm_Q.mono h (jp_i_mono (fun r22 J20 K21 h => ?_))
    refine jw_iret rfl ?_
    exact h
set_option maxHeartbeats 4000000 in
theorem e_139 {xs : Nat → Int32} {L d : Nat} {v0 : Nat} {v1 : Nat} {J K : jZ} {P : Int → jZ → jZ → Prop} (hk0 : jz_kd v0 = 16) (hk1 : jz_kd v1 = 16) (h : (-2147483648 ≤ J v0 2 ∧ J v0 2 < 2147483648) ∧ (-2147483648 ≤ J v1 2 ∧ J v1 2 < 2147483648) ∧ l_139_14 xs L (d + 1) v0 v1 (min (J v0 2) (J v1 2)) 0 J K P) : q_139 xs L (d + 2) v0 v1 J K P := by
  unfold q_139
  refine jq_in (ls := [some (.ref v0), some (.ref v1), none, none]) rfl (Nat.le_of_ble_eq_true rfl) rfl ?_
  refine jw_aload_n rfl rfl ?_
  refine jw_gf (v := (J v0 2)) rfl (by decide) hk0 rfl ?_
  refine jw_aload_n rfl rfl ?_
  refine jw_gf (v := (J v1 2)) rfl (by decide) hk1 rfl ?_
  obtain ⟨o1, h⟩ := h
  obtain ⟨o2, h⟩ := h
  refine jw_min rfl o1 o2 (Nat.le_of_ble_eq_true rfl) ?_
  refine jw_istore_n (ls' := [some (.ref v0), some (.ref v1), some (.int (Int32.ofInt (min (J v0 2) (J v1 2)))), none]) rfl rfl ?_
  refine jw_iconst rfl ?_
  refine jw_istore_n (ls' := [some (.ref v0), some (.ref v1), some (.int (Int32.ofInt (min (J v0 2) (J v1 2)))), some (.int (Int32.ofInt 0))]) rfl rfl ?_
  exact jz_fg (l := [some (.ref v0), some (.ref v1), some (.int (Int32.ofInt (min (J v0 2) (J v1 2)))), some (.int (Int32.ofInt 0))]) ⟨rfl, rfl, rfl, rfl, trivial⟩ h
set_option maxHeartbeats 4000000 in
theorem e_139_14 {xs : Nat → Int32} {L d : Nat} {v0 : Nat} {v1 : Nat} {v2 : Int} {v3 : Int} {J K : jZ} {P : Int → jZ → jZ → Prop} (hk0 : jz_kd v0 = 16) (hk1 : jz_kd v1 = 16) (h : (-2147483648 ≤ v3 ∧ v3 < 2147483648) ∧ (-2147483648 ≤ v2 ∧ v2 < 2147483648) ∧ (v2 ≤ v3 → (-2147483648 ≤ J v0 2 ∧ J v0 2 < 2147483648) ∧ (-2147483648 ≤ J v1 2 ∧ J v1 2 < 2147483648) ∧ (¬ (J v0 2) = (J v1 2) → P v2 J K) ∧ ((J v0 2) = (J v1 2) → P (-1) J K)) ∧ (v3 < v2 → ((0 : Int) ≤ v3 ∧ v3 < 60) ∧ (-2147483648 ≤ ((100 * (J (v0 + 1) v3.toNat)) + (J (v0 + 2) v3.toNat)) ∧ ((100 * (J (v0 + 1) v3.toNat)) + (J (v0 + 2) v3.toNat)) < 2147483648) ∧ (-2147483648 ≤ ((100 * (J (v1 + 1) v3.toNat)) + (J (v1 + 2) v3.toNat)) ∧ ((100 * (J (v1 + 1) v3.toNat)) + (J (v1 + 2) v3.toNat)) < 2147483648) ∧ (((100 * (J (v0 + 1) v3.toNat)) + (J (v0 + 2) v3.toNat)) = ((100 * (J (v1 + 1) v3.toNat)) + (J (v1 + 2) v3.toNat)) → l_139_14 xs L (d + 1) v0 v1 v2 (v3 + 1) J K P) ∧ (¬ ((100 * (J (v0 + 1) v3.toNat)) + (J (v0 + 2) v3.toNat)) = ((100 * (J (v1 + 1) v3.toNat)) + (J (v1 + 2) v3.toNat)) → P v3 J K))) : l_139_14 xs L (d + 1) v0 v1 v2 v3 J K P := by
  unfold l_139_14
  refine jw_iload_n rfl rfl ?_
  refine jw_iload_n rfl rfl ?_
  obtain ⟨o1, h⟩ := h
  obtain ⟨o2, h⟩ := h
  refine jw_ic_ge rfl o1 o2 (fun c3 => ?_) (fun c3 => ?_)
  · replace h := h.1 c3
    refine jw_aload_n rfl rfl ?_
    refine jw_gf (v := (J v0 2)) rfl (by decide) hk0 rfl ?_
    refine jw_aload_n rfl rfl ?_
    refine jw_gf (v := (J v1 2)) rfl (by decide) hk1 rfl ?_
    obtain ⟨o4, h⟩ := h
    obtain ⟨o5, h⟩ := h
    refine jw_ic_ne rfl o4 o5 (fun c6 => ?_) (fun c6 => ?_)
    · replace h := h.1 c6
      refine jw_iload_n rfl rfl ?_
      refine jw_iret rfl ?_
      exact h
    · replace h := h.2 c6
      refine jw_iconst rfl ?_
      refine jw_goto rfl ?_
      refine jw_iret rfl ?_
      exact h
  · replace h := h.2 c3
    refine jw_aload_n rfl rfl ?_
    refine jw_iload_n rfl rfl ?_
    refine jw_virt (k := 1) (c := 15) (as := [.int (Int32.ofInt v3)]) rfl rfl rfl (Nat.le_of_ble_eq_true rfl) rfl (Nat.le_of_ble_eq_true rfl) hk0 rfl (jz_ci ?_)
    refine jq_in (ls := [some (.ref v0), some (.int (Int32.ofInt v3))]) rfl (Nat.le_of_ble_eq_true rfl) rfl ?_
    refine jw_bipush rfl (by decide) ?_
    refine jw_aload_n rfl rfl ?_
    refine jw_gr (q := (v0 + 1)) rfl hk0 (jzr_16_1 hk0) ?_
    refine jw_iload_n rfl rfl ?_
    obtain ⟨o7, h⟩ := h
    refine jw_iald (v := (J (v0 + 1) v3.toNat)) (N := 60) rfl (jzk_16_1 hk0) (jzn_16_1 hk0) (by omega) o7 rfl ?_
    refine jw_imul rfl ?_
    refine jw_aload_n rfl rfl ?_
    refine jw_gr (q := (v0 + 2)) rfl hk0 (jzr_16_2 hk0) ?_
    refine jw_iload_n rfl rfl ?_
    refine jw_iald (v := (J (v0 + 2) v3.toNat)) (N := 60) rfl (jzk_16_2 hk0) (jzn_16_2 hk0) (by omega) o7 rfl ?_
    refine jw_iadd rfl ?_
    refine jw_iret rfl ?_
    refine jw_aload_n rfl rfl ?_
    refine jw_iload_n rfl rfl ?_
    refine jw_virt (k := 1) (c := 15) (as := [.int (Int32.ofInt v3)]) rfl rfl rfl (Nat.le_of_ble_eq_true rfl) rfl (Nat.le_of_ble_eq_true rfl) hk1 rfl (jz_ci ?_)
    refine jq_in (ls := [some (.ref v1), some (.int (Int32.ofInt v3))]) rfl (Nat.le_of_ble_eq_true rfl) rfl ?_
    refine jw_bipush rfl (by decide) ?_
    refine jw_aload_n rfl rfl ?_
    refine jw_gr (q := (v1 + 1)) rfl hk1 (jzr_16_1 hk1) ?_
    refine jw_iload_n rfl rfl ?_
    refine jw_iald (v := (J (v1 + 1) v3.toNat)) (N := 60) rfl (jzk_16_1 hk1) (jzn_16_1 hk1) (by omega) o7 rfl ?_
    refine jw_imul rfl ?_
    refine jw_aload_n rfl rfl ?_
    refine jw_gr (q := (v1 + 2)) rfl hk1 (jzr_16_2 hk1) ?_
    refine jw_iload_n rfl rfl ?_
    refine jw_iald (v := (J (v1 + 2) v3.toNat)) (N := 60) rfl (jzk_16_2 hk1) (jzn_16_2 hk1) (by omega) o7 rfl ?_
    refine jw_iadd rfl ?_
    refine jw_iret rfl ?_
    obtain ⟨o8, h⟩ := h
    obtain ⟨o9, h⟩ := h
    refine jw_ic_eq rfl o8 o9 (fun c10 => ?_) (fun c10 => ?_)
    · replace h := h.1 c10
      refine jw_iinc (ls' := [some (.ref v0), some (.ref v1), some (.int (Int32.ofInt v2)), some (.int (Int32.ofInt (v3 + 1)))]) rfl rfl rfl ?_
      refine jw_goto rfl ?_
      exact jz_fg (l := [some (.ref v0), some (.ref v1), some (.int (Int32.ofInt v2)), some (.int (Int32.ofInt (v3 + 1)))]) ⟨rfl, rfl, rfl, rfl, trivial⟩ h
    · replace h := h.2 c10
      refine jw_iload_n rfl rfl ?_
      refine jw_iret rfl ?_
      exact h
set_option maxHeartbeats 4000000 in
theorem e_141 {xs : Nat → Int32} {L d : Nat} {v1 : Int} {J K : jZ} {P : Int → jZ → jZ → Prop} (h : (-2147483648 ≤ v1 ∧ v1 < 2147483648) ∧ (-2147483648 ≤ J 9 1 ∧ J 9 1 < 2147483648) ∧ (((0 : Int) ≤ v1 ∧ v1 < (J 9 1)) → q_32 xs L (d + 1) v1 J K (fun r6 J4 K5 => (jz_kd r6 = 16) ∧ l_141_32 xs L (d + 1) r6 0 0 J4 K5 P)) ∧ (¬ ((0 : Int) ≤ v1 ∧ v1 < (J 9 1)) → q_13 xs L (d + 1) (-2) J K (fun r10 J8 K9 => P r10 J8 K9))) : q_141 xs L (d + 2) v1 J K P := by
  unfold q_141
  refine jq_in (ls := [some (.ref 0), some (.int (Int32.ofInt v1)), none, none, none, none]) rfl (Nat.le_of_ble_eq_true rfl) rfl ?_
  refine jw_aload_n rfl rfl ?_
  refine jw_gr (q := 9) rfl rfl rfl ?_
  refine jw_iload_n rfl rfl ?_
  refine jw_virt (k := 1) (c := 11) (as := [.int (Int32.ofInt v1)]) rfl rfl rfl (Nat.le_of_ble_eq_true rfl) rfl (Nat.le_of_ble_eq_true rfl) rfl rfl (jz_ci ?_)
  obtain ⟨o1, h⟩ := h
  obtain ⟨o2, h⟩ := h
  refine sb_27 rfl o1 o2 (fun c3 => ?_) (fun c3 => ?_)
  · replace h := h.1 c3
    refine jw_if_ne rfl (by omega) (fun _ => ?_) (fun hc => by exfalso; omega)
    refine jw_aload_n rfl rfl ?_
    refine jw_gr (q := 61) rfl rfl rfl ?_
    refine jw_iload_n rfl rfl ?_
    refine jw_virt (k := 1) (c := 13) (as := [.int (Int32.ofInt v1)]) rfl rfl rfl (Nat.le_of_ble_eq_true rfl) rfl (Nat.le_of_ble_eq_true rfl) rfl rfl (jz_cr ?_)
    refine jm_Q.mono h (jp_r_mono (fun r6 J4 K5 h => ?_))
    obtain ⟨o7, h⟩ := h
    refine jw_astore_n (ls' := [some (.ref 0), some (.int (Int32.ofInt v1)), some (.ref r6), none, none, none]) rfl rfl ?_
    refine jw_iconst rfl ?_
    refine jw_istore_n (ls' := [some (.ref 0), some (.int (Int32.ofInt v1)), some (.ref r6), some (.int (Int32.ofInt 0)), none, none]) rfl rfl ?_
    refine jw_iconst rfl ?_
    refine jw_istore (ls' := [some (.ref 0), some (.int (Int32.ofInt v1)), some (.ref r6), some (.int (Int32.ofInt 0)), some (.int (Int32.ofInt 0)), none]) rfl rfl ?_
    exact jz_fg (l := [some (.ref 0), none, some (.ref r6), some (.int (Int32.ofInt 0)), some (.int (Int32.ofInt 0)), none]) ⟨rfl, jz_ni, rfl, rfl, rfl, jz_n0, trivial⟩ h
  · replace h := h.2 c3
    refine jw_if_ne rfl (by omega) (fun hc => by exfalso; omega) (fun _ => ?_)
    refine jw_aload_n rfl rfl ?_
    refine jw_bipush rfl (by decide) ?_
    refine jw_virt (k := 1) (c := 18) (as := [.int (Int32.ofInt (-2))]) rfl rfl rfl (Nat.le_of_ble_eq_true rfl) rfl (Nat.le_of_ble_eq_true rfl) rfl rfl (jz_ci ?_)
    refine jm_Q.mono h (jp_i_mono (fun r10 J8 K9 h => ?_))
    refine jw_iret rfl ?_
    exact h
set_option maxHeartbeats 4000000 in
theorem e_141_32 {xs : Nat → Int32} {L d : Nat} {v2 : Nat} {v3 : Int} {v4 : Int} {J K : jZ} {P : Int → jZ → jZ → Prop} (hk2 : jz_kd v2 = 16) (h : (-2147483648 ≤ v4 ∧ v4 < 2147483648) ∧ (-2147483648 ≤ J 9 1 ∧ J 9 1 < 2147483648) ∧ ((J 9 1) ≤ v4 → P v3 J K) ∧ (v4 < (J 9 1) → q_32 xs L (d + 1) v4 J K (fun r6 J4 K5 => (jz_kd r6 = 16) ∧ q_53 xs L (d + 1) 5 r6 v2 140 J4 K5 (fun J8 K9 => (-2147483648 ≤ J8 140 2 ∧ J8 140 2 < 2147483648) ∧ (-2147483648 ≤ J8 r6 2 ∧ J8 r6 2 < 2147483648) ∧ (¬ (J8 140 2) = (J8 r6 2) → l_141_32 xs L (d + 1) v2 v3 (v4 + 1) J8 K9 P) ∧ ((J8 140 2) = (J8 r6 2) → l_141_32 xs L (d + 1) v2 (jz_or v3 (jz_shl 1 v4)) (v4 + 1) J8 K9 P))))) : l_141_32 xs L (d + 1) v2 v3 v4 J K P := by
  unfold l_141_32
  refine jw_iload rfl rfl ?_
  refine jw_aload_n rfl rfl ?_
  refine jw_gr (q := 9) rfl rfl rfl ?_
  refine jw_gf (v := (J 9 1)) rfl (by decide) rfl rfl ?_
  obtain ⟨o1, h⟩ := h
  obtain ⟨o2, h⟩ := h
  refine jw_ic_ge rfl o1 o2 (fun c3 => ?_) (fun c3 => ?_)
  · replace h := h.1 c3
    refine jw_iload_n rfl rfl ?_
    refine jw_iret rfl ?_
    exact h
  · replace h := h.2 c3
    refine jw_aload_n rfl rfl ?_
    refine jw_gr (q := 61) rfl rfl rfl ?_
    refine jw_iload rfl rfl ?_
    refine jw_virt (k := 1) (c := 13) (as := [.int (Int32.ofInt v4)]) rfl rfl rfl (Nat.le_of_ble_eq_true rfl) rfl (Nat.le_of_ble_eq_true rfl) rfl rfl (jz_cr ?_)
    refine jm_Q.mono h (jp_r_mono (fun r6 J4 K5 h => ?_))
    obtain ⟨o7, h⟩ := h
    refine jw_astore (ls' := [some (.ref 0), none, some (.ref v2), some (.int (Int32.ofInt v3)), some (.int (Int32.ofInt v4)), some (.ref r6)]) rfl rfl ?_
    refine jw_aload_n rfl rfl ?_
    refine jw_gr (q := 61) rfl rfl rfl ?_
    refine jw_iconst rfl ?_
    refine jw_aload rfl rfl ?_
    refine jw_aload_n rfl rfl ?_
    refine jw_aload_n rfl rfl ?_
    refine jw_gr (q := 140) rfl rfl rfl ?_
    refine jw_virt (k := 4) (c := 13) (as := [.int (Int32.ofInt 5), .ref r6, .ref v2, .ref 140]) rfl rfl rfl (Nat.le_of_ble_eq_true rfl) rfl (Nat.le_of_ble_eq_true rfl) rfl rfl (jz_cv ?_)
    refine jm_Q.mono h (jp_v_mono (fun J8 K9 h => ?_))
    refine jw_aload_n rfl rfl ?_
    refine jw_gr (q := 140) rfl rfl rfl ?_
    refine jw_gf (v := (J8 140 2)) rfl (by decide) rfl rfl ?_
    refine jw_aload rfl rfl ?_
    refine jw_gf (v := (J8 r6 2)) rfl (by decide) o7 rfl ?_
    obtain ⟨o10, h⟩ := h
    obtain ⟨o11, h⟩ := h
    refine jw_ic_ne rfl o10 o11 (fun c12 => ?_) (fun c12 => ?_)
    · replace h := h.1 c12
      refine jw_iinc (ls' := [some (.ref 0), none, some (.ref v2), some (.int (Int32.ofInt v3)), some (.int (Int32.ofInt (v4 + 1))), some (.ref r6)]) rfl rfl rfl ?_
      refine jw_goto rfl ?_
      exact jz_fg (l := [some (.ref 0), none, some (.ref v2), some (.int (Int32.ofInt v3)), some (.int (Int32.ofInt (v4 + 1))), none]) ⟨rfl, jz_n0, rfl, rfl, rfl, jz_nr, trivial⟩ h
    · replace h := h.2 c12
      refine jw_iload_n rfl rfl ?_
      refine jw_iconst rfl ?_
      refine jw_iload rfl rfl ?_
      refine jw_ishl rfl ?_
      refine jw_ior rfl ?_
      refine jw_istore_n (ls' := [some (.ref 0), none, some (.ref v2), some (.int (Int32.ofInt (jz_or v3 (jz_shl 1 v4)))), some (.int (Int32.ofInt v4)), some (.ref r6)]) rfl rfl ?_
      refine jw_iinc (ls' := [some (.ref 0), none, some (.ref v2), some (.int (Int32.ofInt (jz_or v3 (jz_shl 1 v4)))), some (.int (Int32.ofInt (v4 + 1))), some (.ref r6)]) rfl rfl rfl ?_
      refine jw_goto rfl ?_
      exact jz_fg (l := [some (.ref 0), none, some (.ref v2), some (.int (Int32.ofInt (jz_or v3 (jz_shl 1 v4)))), some (.int (Int32.ofInt (v4 + 1))), none]) ⟨rfl, jz_n0, rfl, rfl, rfl, jz_nr, trivial⟩ h
set_option maxHeartbeats 4000000 in
theorem e_148 {xs : Nat → Int32} {L d : Nat} {v0 : Nat} {v1 : Nat} {v2 : Int} {J K : jZ} {P : Int → jZ → jZ → Prop} (hk0 : jz_kd v0 = 15) (hk1 : jz_kd v1 = 16) (h : (-2147483648 ≤ (2 * v2) ∧ (2 * v2) < 2147483648) ∧ (-2147483648 ≤ J v0 1 ∧ J v0 1 < 2147483648) ∧ (-2147483648 ≤ ((J v0 1) - (2 * v2)) ∧ ((J v0 1) - (2 * v2)) < 2147483648) ∧ (((0 : Int) ≤ 0 ∧ (0 : Int) ≤ (2 * v2) ∧ (2 * v2) ≤ (J v0 1) ∧ 0 ≤ (J v0 1) - (2 * v2)) → l_148_15 xs L (d + 1) v0 v1 v2 0 J K P) ∧ (¬ ((0 : Int) ≤ 0 ∧ (0 : Int) ≤ (2 * v2) ∧ (2 * v2) ≤ (J v0 1) ∧ 0 ≤ (J v0 1) - (2 * v2)) → P 0 J K)) : q_148 xs L (d + 2) v0 v1 v2 J K P := by
  unfold q_148
  refine jq_in (ls := [some (.ref v0), some (.ref v1), some (.int (Int32.ofInt v2)), none, none]) rfl (Nat.le_of_ble_eq_true rfl) rfl ?_
  refine jw_aload_n rfl rfl ?_
  refine jw_iconst rfl ?_
  refine jw_iconst rfl ?_
  refine jw_iload_n rfl rfl ?_
  refine jw_imul rfl ?_
  refine jw_virt (k := 2) (c := 14) (as := [.int (Int32.ofInt 0), .int (Int32.ofInt (2 * v2))]) rfl rfl rfl (Nat.le_of_ble_eq_true rfl) rfl (Nat.le_of_ble_eq_true rfl) hk0 rfl (jz_ci ?_)
  obtain ⟨o1, h⟩ := h
  obtain ⟨o2, h⟩ := h
  obtain ⟨o3, h⟩ := h
  refine sb_23 hk0 (by omega) o1 o2 o3 (fun c4 => ?_) (fun c4 => ?_)
  · replace h := h.1 c4
    refine jw_if_ne rfl (by omega) (fun _ => ?_) (fun hc => by exfalso; omega)
    refine jw_iconst rfl ?_
    refine jw_istore_n (ls' := [some (.ref v0), some (.ref v1), some (.int (Int32.ofInt v2)), some (.int (Int32.ofInt 0)), none]) rfl rfl ?_
    exact jz_fg (l := [some (.ref v0), some (.ref v1), some (.int (Int32.ofInt v2)), some (.int (Int32.ofInt 0)), none]) ⟨rfl, rfl, rfl, rfl, jz_n0, trivial⟩ h
  · replace h := h.2 c4
    refine jw_if_ne rfl (by omega) (fun hc => by exfalso; omega) (fun _ => ?_)
    refine jw_iconst rfl ?_
    refine jw_iret rfl ?_
    exact h
set_option maxHeartbeats 4000000 in
theorem e_148_15 {xs : Nat → Int32} {L d : Nat} {v0 : Nat} {v1 : Nat} {v2 : Int} {v3 : Int} {J K : jZ} {P : Int → jZ → jZ → Prop} (hk0 : jz_kd v0 = 15) (hk1 : jz_kd v1 = 16) (h : (-2147483648 ≤ v3 ∧ v3 < 2147483648) ∧ (-2147483648 ≤ v2 ∧ v2 < 2147483648) ∧ (v2 ≤ v3 → (-2147483648 ≤ J v1 2 ∧ J v1 2 < 2147483648) ∧ ((J v1 2) ≤ v2 → P (-1) J K) ∧ (v2 < (J v1 2) → P v2 J K)) ∧ (v3 < v2 → (-2147483648 ≤ J v1 2 ∧ J v1 2 < 2147483648) ∧ (((0 : Int) ≤ v3 ∧ v3 < (J v1 2)) → ((0 : Int) ≤ v3 ∧ v3 < 60) ∧ (-2147483648 ≤ J (v1 + 1) v3.toNat ∧ J (v1 + 1) v3.toNat < 2147483648) ∧ ((0 : Int) ≤ (2 * v3) ∧ (2 * v3) < 40) ∧ (-9223372036854775808 ≤ K (v0 + 1) (2 * v3).toNat ∧ K (v0 + 1) (2 * v3).toNat < 9223372036854775808) ∧ (¬ (J (v1 + 1) v3.toNat) = (K (v0 + 1) (2 * v3).toNat) → l_148_72 xs L (d + 1) v0 v1 v2 v3 J K P) ∧ ((J (v1 + 1) v3.toNat) = (K (v0 + 1) (2 * v3).toNat) → (-2147483648 ≤ J (v1 + 2) v3.toNat ∧ J (v1 + 2) v3.toNat < 2147483648) ∧ ((0 : Int) ≤ ((2 * v3) + 1) ∧ ((2 * v3) + 1) < 40) ∧ (-9223372036854775808 ≤ K (v0 + 1) ((2 * v3) + 1).toNat ∧ K (v0 + 1) ((2 * v3) + 1).toNat < 9223372036854775808) ∧ (¬ (J (v1 + 2) v3.toNat) = (K (v0 + 1) ((2 * v3) + 1).toNat) → l_148_72 xs L (d + 1) v0 v1 v2 v3 J K P) ∧ ((J (v1 + 2) v3.toNat) = (K (v0 + 1) ((2 * v3) + 1).toNat) → l_148_15 xs L (d + 1) v0 v1 v2 (v3 + 1) J K P))) ∧ (¬ ((0 : Int) ≤ v3 ∧ v3 < (J v1 2)) → l_148_72 xs L (d + 1) v0 v1 v2 v3 J K P))) : l_148_15 xs L (d + 1) v0 v1 v2 v3 J K P := by
  unfold l_148_15
  refine jw_iload_n rfl rfl ?_
  refine jw_iload_n rfl rfl ?_
  obtain ⟨o1, h⟩ := h
  obtain ⟨o2, h⟩ := h
  refine jw_ic_ge rfl o1 o2 (fun c3 => ?_) (fun c3 => ?_)
  · replace h := h.1 c3
    refine jw_aload_n rfl rfl ?_
    refine jw_gf (v := (J v1 2)) rfl (by decide) hk1 rfl ?_
    refine jw_iload_n rfl rfl ?_
    obtain ⟨o4, h⟩ := h
    refine jw_ic_le rfl o4 o2 (fun c5 => ?_) (fun c5 => ?_)
    · replace h := h.1 c5
      refine jw_iconst rfl ?_
      refine jw_iret rfl ?_
      exact h
    · replace h := h.2 c5
      refine jw_iload_n rfl rfl ?_
      refine jw_goto rfl ?_
      refine jw_iret rfl ?_
      exact h
  · replace h := h.2 c3
    refine jw_aload_n rfl rfl ?_
    refine jw_iload_n rfl rfl ?_
    refine jw_virt (k := 1) (c := 15) (as := [.int (Int32.ofInt v3)]) rfl rfl rfl (Nat.le_of_ble_eq_true rfl) rfl (Nat.le_of_ble_eq_true rfl) hk1 rfl (jz_ci ?_)
    obtain ⟨o6, h⟩ := h
    refine sb_47 hk1 o1 o6 (fun c7 => ?_) (fun c7 => ?_)
    · replace h := h.1 c7
      refine jw_if_eq rfl (by omega) (fun hc => by exfalso; omega) (fun _ => ?_)
      refine jw_aload_n rfl rfl ?_
      refine jw_gr (q := (v1 + 1)) rfl hk1 (jzr_16_1 hk1) ?_
      refine jw_iload_n rfl rfl ?_
      obtain ⟨o8, h⟩ := h
      refine jw_iald (v := (J (v1 + 1) v3.toNat)) (N := 60) rfl (jzk_16_1 hk1) (jzn_16_1 hk1) (by omega) o8 rfl ?_
      obtain ⟨o9, h⟩ := h
      refine jw_i2l rfl o9 ?_
      refine jw_aload_n rfl rfl ?_
      refine jw_gr (q := (v0 + 1)) rfl hk0 (jzr_15_1 hk0) ?_
      refine jw_iconst rfl ?_
      refine jw_iload_n rfl rfl ?_
      refine jw_imul rfl ?_
      obtain ⟨o10, h⟩ := h
      refine jw_lald (v := (K (v0 + 1) (2 * v3).toNat)) (N := 40) rfl (jzk_15_1 hk0) (jzn_15_1 hk0) (by omega) o10 rfl ?_
      obtain ⟨o11, h⟩ := h
      refine jw_lc_ne rfl rfl (by omega) o11 (fun c12 => ?_) (fun c12 => ?_)
      · replace h := h.1 c12
        exact jz_fg (l := [some (.ref v0), some (.ref v1), some (.int (Int32.ofInt v2)), some (.int (Int32.ofInt v3)), none]) ⟨rfl, rfl, rfl, rfl, jz_n0, trivial⟩ h
      · replace h := h.2 c12
        refine jw_aload_n rfl rfl ?_
        refine jw_gr (q := (v1 + 2)) rfl hk1 (jzr_16_2 hk1) ?_
        refine jw_iload_n rfl rfl ?_
        refine jw_iald (v := (J (v1 + 2) v3.toNat)) (N := 60) rfl (jzk_16_2 hk1) (jzn_16_2 hk1) (by omega) o8 rfl ?_
        obtain ⟨o13, h⟩ := h
        refine jw_i2l rfl o13 ?_
        refine jw_aload_n rfl rfl ?_
        refine jw_gr (q := (v0 + 1)) rfl hk0 (jzr_15_1 hk0) ?_
        refine jw_iconst rfl ?_
        refine jw_iload_n rfl rfl ?_
        refine jw_imul rfl ?_
        refine jw_iconst rfl ?_
        refine jw_iadd rfl ?_
        obtain ⟨o14, h⟩ := h
        refine jw_lald (v := (K (v0 + 1) ((2 * v3) + 1).toNat)) (N := 40) rfl (jzk_15_1 hk0) (jzn_15_1 hk0) (by omega) o14 rfl ?_
        obtain ⟨o15, h⟩ := h
        refine jw_lc_ne rfl rfl (by omega) o15 (fun c16 => ?_) (fun c16 => ?_)
        · replace h := h.1 c16
          exact jz_fg (l := [some (.ref v0), some (.ref v1), some (.int (Int32.ofInt v2)), some (.int (Int32.ofInt v3)), none]) ⟨rfl, rfl, rfl, rfl, jz_n0, trivial⟩ h
        · replace h := h.2 c16
          refine jw_iconst rfl ?_
          refine jw_goto rfl ?_
          refine jw_istore (ls' := [some (.ref v0), some (.ref v1), some (.int (Int32.ofInt v2)), some (.int (Int32.ofInt v3)), some (.int (Int32.ofInt 1))]) rfl rfl ?_
          refine jw_iload rfl rfl ?_
          refine jw_if_ne rfl (by omega) (fun _ => ?_) (fun hc => by exfalso; omega)
          refine jw_iinc (ls' := [some (.ref v0), some (.ref v1), some (.int (Int32.ofInt v2)), some (.int (Int32.ofInt (v3 + 1))), some (.int (Int32.ofInt 1))]) rfl rfl rfl ?_
          refine jw_goto rfl ?_
          exact jz_fg (l := [some (.ref v0), some (.ref v1), some (.int (Int32.ofInt v2)), some (.int (Int32.ofInt (v3 + 1))), none]) ⟨rfl, rfl, rfl, rfl, jz_ni, trivial⟩ h
    · replace h := h.2 c7
      refine jw_if_eq rfl (by omega) (fun _ => ?_) (fun hc => by exfalso; omega)
      exact jz_fg (l := [some (.ref v0), some (.ref v1), some (.int (Int32.ofInt v2)), some (.int (Int32.ofInt v3)), none]) ⟨rfl, rfl, rfl, rfl, jz_n0, trivial⟩ h
set_option maxHeartbeats 4000000 in
theorem e_148_72 {xs : Nat → Int32} {L d : Nat} {v0 : Nat} {v1 : Nat} {v2 : Int} {v3 : Int} {J K : jZ} {P : Int → jZ → jZ → Prop} (hk0 : jz_kd v0 = 15) (hk1 : jz_kd v1 = 16) (h : P v3 J K) : l_148_72 xs L (d + 1) v0 v1 v2 v3 J K P := by
  unfold l_148_72
  refine jw_iconst rfl ?_
  refine jw_istore (ls' := [some (.ref v0), some (.ref v1), some (.int (Int32.ofInt v2)), some (.int (Int32.ofInt v3)), some (.int (Int32.ofInt 0))]) rfl rfl ?_
  refine jw_iload rfl rfl ?_
  refine jw_if_ne rfl (by omega) (fun hc => by exfalso; omega) (fun _ => ?_)
  refine jw_iload_n rfl rfl ?_
  refine jw_iret rfl ?_
  exact h
set_option maxHeartbeats 4000000 in
theorem e_149 {xs : Nat → Int32} {L d : Nat} {v1 : Int} {v2 : Int} {v3 : Int} {J K : jZ} {P : Int → jZ → jZ → Prop} (h : (-2147483648 ≤ v1 ∧ v1 < 2147483648) ∧ (-2147483648 ≤ J 9 1 ∧ J 9 1 < 2147483648) ∧ (((0 : Int) ≤ v1 ∧ v1 < (J 9 1)) → (-2147483648 ≤ v3 ∧ v3 < 2147483648) ∧ (v3 < 0 → q_13 xs L (d + 1) (-2) J K (fun r8 J6 K7 => P r8 J6 K7)) ∧ (0 ≤ v3 → (v3 ≤ 20 → q_17 xs L (d + 1) v2 (2 * v3) J K (fun r12 J10 K11 => (-2147483648 ≤ r12 ∧ r12 < 2147483648) ∧ (r12 = 0 → ((0 : Int) ≤ v2 ∧ v2 < 8) ∧ q_32 xs L (d + 1) v1 J10 K11 (fun r18 J16 K17 => (jz_kd r18 = 16) ∧ q_148 xs L (d + 1) (151 + 2 * v2.toNat) r18 v3 J16 K17 (fun r22 J20 K21 => P r22 J20 K21))) ∧ (¬ r12 = 0 → q_13 xs L (d + 1) r12 J10 K11 (fun r25 J23 K24 => P r25 J23 K24)))) ∧ (20 < v3 → q_13 xs L (d + 1) (-2) J K (fun r28 J26 K27 => P r28 J26 K27)))) ∧ (¬ ((0 : Int) ≤ v1 ∧ v1 < (J 9 1)) → q_13 xs L (d + 1) (-2) J K (fun r31 J29 K30 => P r31 J29 K30))) : q_149 xs L (d + 2) v1 v2 v3 J K P := by
  unfold q_149
  refine jq_in (ls := [some (.ref 0), some (.int (Int32.ofInt v1)), some (.int (Int32.ofInt v2)), some (.int (Int32.ofInt v3)), none]) rfl (Nat.le_of_ble_eq_true rfl) rfl ?_
  refine jw_aload_n rfl rfl ?_
  refine jw_gr (q := 9) rfl rfl rfl ?_
  refine jw_iload_n rfl rfl ?_
  refine jw_virt (k := 1) (c := 11) (as := [.int (Int32.ofInt v1)]) rfl rfl rfl (Nat.le_of_ble_eq_true rfl) rfl (Nat.le_of_ble_eq_true rfl) rfl rfl (jz_ci ?_)
  obtain ⟨o1, h⟩ := h
  obtain ⟨o2, h⟩ := h
  refine sb_27 rfl o1 o2 (fun c3 => ?_) (fun c3 => ?_)
  · replace h := h.1 c3
    refine jw_if_eq rfl (by omega) (fun hc => by exfalso; omega) (fun _ => ?_)
    refine jw_iload_n rfl rfl ?_
    obtain ⟨o4, h⟩ := h
    refine jw_if_lt rfl o4 (fun c5 => ?_) (fun c5 => ?_)
    · replace h := h.1 c5
      refine jw_aload_n rfl rfl ?_
      refine jw_bipush rfl (by decide) ?_
      refine jw_virt (k := 1) (c := 18) (as := [.int (Int32.ofInt (-2))]) rfl rfl rfl (Nat.le_of_ble_eq_true rfl) rfl (Nat.le_of_ble_eq_true rfl) rfl rfl (jz_ci ?_)
      refine jm_Q.mono h (jp_i_mono (fun r8 J6 K7 h => ?_))
      refine jw_iret rfl ?_
      exact h
    · replace h := h.2 c5
      refine jw_iload_n rfl rfl ?_
      refine jw_bipush rfl (by decide) ?_
      refine jw_ic_le rfl o4 (by omega) (fun c9 => ?_) (fun c9 => ?_)
      · replace h := h.1 c9
        refine jw_aload_n rfl rfl ?_
        refine jw_iload_n rfl rfl ?_
        refine jw_iconst rfl ?_
        refine jw_iload_n rfl rfl ?_
        refine jw_imul rfl ?_
        refine jw_virt (k := 2) (c := 18) (as := [.int (Int32.ofInt v2), .int (Int32.ofInt (2 * v3))]) rfl rfl rfl (Nat.le_of_ble_eq_true rfl) rfl (Nat.le_of_ble_eq_true rfl) rfl rfl (jz_ci ?_)
        refine jm_Q.mono h (jp_i_mono (fun r12 J10 K11 h => ?_))
        refine jw_istore (ls' := [some (.ref 0), some (.int (Int32.ofInt v1)), some (.int (Int32.ofInt v2)), some (.int (Int32.ofInt v3)), some (.int (Int32.ofInt r12))]) rfl rfl ?_
        refine jw_iload rfl rfl ?_
        obtain ⟨o13, h⟩ := h
        refine jw_if_eq rfl o13 (fun c14 => ?_) (fun c14 => ?_)
        · replace h := h.1 c14
          refine jw_aload_n rfl rfl ?_
          refine jw_gr (q := 149) rfl rfl rfl ?_
          refine jw_iload_n rfl rfl ?_
          obtain ⟨o15, h⟩ := h
          refine jw_aald (k := 2) (q := (151 + 2 * v2.toNat)) (N := 8) rfl rfl (by omega) rfl (by omega) o15 (jzr_149 o15) ?_
          refine jw_aload_n rfl rfl ?_
          refine jw_gr (q := 61) rfl rfl rfl ?_
          refine jw_iload_n rfl rfl ?_
          refine jw_virt (k := 1) (c := 13) (as := [.int (Int32.ofInt v1)]) rfl rfl rfl (Nat.le_of_ble_eq_true rfl) rfl (Nat.le_of_ble_eq_true rfl) rfl rfl (jz_cr ?_)
          refine jm_Q.mono h (jp_r_mono (fun r18 J16 K17 h => ?_))
          obtain ⟨o19, h⟩ := h
          refine jw_iload_n rfl rfl ?_
          refine jw_virt (k := 2) (c := 14) (as := [.ref r18, .int (Int32.ofInt v3)]) rfl rfl rfl (Nat.le_of_ble_eq_true rfl) rfl (Nat.le_of_ble_eq_true rfl) (jze_149 o15) rfl (jz_ci ?_)
          refine jm_Q.mono h (jp_i_mono (fun r22 J20 K21 h => ?_))
          refine jw_iret rfl ?_
          exact h
        · replace h := h.2 c14
          refine jw_aload_n rfl rfl ?_
          refine jw_iload rfl rfl ?_
          refine jw_virt (k := 1) (c := 18) (as := [.int (Int32.ofInt r12)]) rfl rfl rfl (Nat.le_of_ble_eq_true rfl) rfl (Nat.le_of_ble_eq_true rfl) rfl rfl (jz_ci ?_)
          refine jm_Q.mono h (jp_i_mono (fun r25 J23 K24 h => ?_))
          refine jw_iret rfl ?_
          exact h
      · replace h := h.2 c9
        refine jw_aload_n rfl rfl ?_
        refine jw_bipush rfl (by decide) ?_
        refine jw_virt (k := 1) (c := 18) (as := [.int (Int32.ofInt (-2))]) rfl rfl rfl (Nat.le_of_ble_eq_true rfl) rfl (Nat.le_of_ble_eq_true rfl) rfl rfl (jz_ci ?_)
        refine jm_Q.mono h (jp_i_mono (fun r28 J26 K27 h => ?_))
        refine jw_iret rfl ?_
        exact h
  · replace h := h.2 c3
    refine jw_if_eq rfl (by omega) (fun _ => ?_) (fun hc => by exfalso; omega)
    refine jw_aload_n rfl rfl ?_
    refine jw_bipush rfl (by decide) ?_
    refine jw_virt (k := 1) (c := 18) (as := [.int (Int32.ofInt (-2))]) rfl rfl rfl (Nat.le_of_ble_eq_true rfl) rfl (Nat.le_of_ble_eq_true rfl) rfl rfl (jz_ci ?_)
    refine jm_Q.mono h (jp_i_mono (fun r31 J29 K30 h => ?_))
    refine jw_iret rfl ?_
    exact h
set_option maxHeartbeats 4000000 in
theorem e_153 {xs : Nat → Int32} {L d : Nat} {v1 : Int} {J K : jZ} {P : Int → jZ → jZ → Prop} (h : (-2147483648 ≤ v1 ∧ v1 < 2147483648) ∧ (v1 < 1 → q_13 xs L (d + 1) (-2) J K (fun r5 J3 K4 => P r5 J3 K4)) ∧ (1 ≤ v1 → (v1 ≤ 60 → l_153_20 xs L (d + 1) v1 0 J K P) ∧ (60 < v1 → q_13 xs L (d + 1) (-2) J K (fun r9 J7 K8 => P r9 J7 K8)))) : q_153 xs L (d + 2) v1 J K P := by
  unfold q_153
  refine jq_in (ls := [some (.ref 0), some (.int (Int32.ofInt v1)), none]) rfl (Nat.le_of_ble_eq_true rfl) rfl ?_
  refine jw_iload_n rfl rfl ?_
  refine jw_iconst rfl ?_
  obtain ⟨o1, h⟩ := h
  refine jw_ic_lt rfl o1 (by omega) (fun c2 => ?_) (fun c2 => ?_)
  · replace h := h.1 c2
    refine jw_aload_n rfl rfl ?_
    refine jw_bipush rfl (by decide) ?_
    refine jw_virt (k := 1) (c := 18) (as := [.int (Int32.ofInt (-2))]) rfl rfl rfl (Nat.le_of_ble_eq_true rfl) rfl (Nat.le_of_ble_eq_true rfl) rfl rfl (jz_ci ?_)
    refine jm_Q.mono h (jp_i_mono (fun r5 J3 K4 h => ?_))
    refine jw_iret rfl ?_
    exact h
  · replace h := h.2 c2
    refine jw_iload_n rfl rfl ?_
    refine jw_bipush rfl (by decide) ?_
    refine jw_ic_le rfl o1 (by omega) (fun c6 => ?_) (fun c6 => ?_)
    · replace h := h.1 c6
      refine jw_iconst rfl ?_
      refine jw_istore_n (ls' := [some (.ref 0), some (.int (Int32.ofInt v1)), some (.int (Int32.ofInt 0))]) rfl rfl ?_
      exact jz_fg (l := [some (.ref 0), some (.int (Int32.ofInt v1)), some (.int (Int32.ofInt 0))]) ⟨rfl, rfl, rfl, trivial⟩ h
    · replace h := h.2 c6
      refine jw_aload_n rfl rfl ?_
      refine jw_bipush rfl (by decide) ?_
      refine jw_virt (k := 1) (c := 18) (as := [.int (Int32.ofInt (-2))]) rfl rfl rfl (Nat.le_of_ble_eq_true rfl) rfl (Nat.le_of_ble_eq_true rfl) rfl rfl (jz_ci ?_)
      refine jm_Q.mono h (jp_i_mono (fun r9 J7 K8 h => ?_))
      refine jw_iret rfl ?_
      exact h
set_option maxHeartbeats 4000000 in
theorem e_153_20 {xs : Nat → Int32} {L d : Nat} {v1 : Int} {v2 : Int} {J K : jZ} {P : Int → jZ → jZ → Prop} (h : (-2147483648 ≤ v2 ∧ v2 < 2147483648) ∧ (-2147483648 ≤ v1 ∧ v1 < 2147483648) ∧ (v1 ≤ v2 → P (J 1 3) (jm_up J 61 5 0) K) ∧ (v2 < v1 → q_154 xs L (d + 1) 1 J K (fun J4 K5 => l_153_20 xs L (d + 1) v1 (v2 + 1) J4 K5 P))) : l_153_20 xs L (d + 1) v1 v2 J K P := by
  unfold l_153_20
  refine jw_iload_n rfl rfl ?_
  refine jw_iload_n rfl rfl ?_
  obtain ⟨o1, h⟩ := h
  obtain ⟨o2, h⟩ := h
  refine jw_ic_ge rfl o1 o2 (fun c3 => ?_) (fun c3 => ?_)
  · replace h := h.1 c3
    refine jw_aload_n rfl rfl ?_
    refine jw_gr (q := 61) rfl rfl rfl ?_
    refine jw_virt (k := 0) (c := 13) (as := []) rfl rfl rfl (Nat.le_of_ble_eq_true rfl) rfl (Nat.le_of_ble_eq_true rfl) rfl rfl (jz_cv ?_)
    refine jq_in (ls := [some (.ref 61)]) rfl (Nat.le_of_ble_eq_true rfl) rfl ?_
    refine jw_aload_n rfl rfl ?_
    refine jw_iconst rfl ?_
    refine jw_pf rfl rfl ?_
    refine jw_vret rfl ?_
    refine jw_aload_n rfl rfl ?_
    refine jw_gr (q := 1) rfl rfl rfl ?_
    refine jw_gf (v := (J 1 3)) rfl (by decide) rfl (by simp [jm_up]) ?_
    refine jw_iret rfl ?_
    exact h
  · replace h := h.2 c3
    refine jw_aload_n rfl rfl ?_
    refine jw_gr (q := 1) rfl rfl rfl ?_
    refine jw_virt (k := 0) (c := 17) (as := []) rfl rfl rfl (Nat.le_of_ble_eq_true rfl) rfl (Nat.le_of_ble_eq_true rfl) rfl rfl (jz_cv ?_)
    refine jm_Q.mono h (jp_v_mono (fun J4 K5 h => ?_))
    refine jw_iinc (ls' := [some (.ref 0), some (.int (Int32.ofInt v1)), some (.int (Int32.ofInt (v2 + 1)))]) rfl rfl rfl ?_
    refine jw_goto rfl ?_
    exact jz_fg (l := [some (.ref 0), some (.int (Int32.ofInt v1)), some (.int (Int32.ofInt (v2 + 1)))]) ⟨rfl, rfl, rfl, trivial⟩ h
set_option maxHeartbeats 4000000 in
theorem e_154 {xs : Nat → Int32} {L d : Nat} {v0 : Nat} {J K : jZ} {P : jZ → jZ → Prop} (hk0 : jz_kd v0 = 18) (h : q_155 xs L d v0 16 J K (fun r3 J1 K2 => (-2147483648 ≤ J1 v0 3 ∧ J1 v0 3 < 2147483648) ∧ (60 ≤ (J1 v0 3) → q_155 xs L d v0 60 J1 K2 (fun r8 J6 K7 => ((0 : Int) ≤ r8 ∧ r8 < 60) ∧ q_155 xs L d v0 8 (jm_up J6 (v0 + 1) r8.toNat r3) K7 (fun r12 J10 K11 => (-2147483648 ≤ r12 ∧ r12 < 2147483648) ∧ (¬ r12 = 0 → (2 < r12 → P J10 K11) ∧ (r12 ≤ 2 → q_61 xs L d v0 J10 K11 (fun r18 J16 K17 => (-2147483648 ≤ r18 ∧ r18 < 2147483648) ∧ (¬ r18 = 0 → P J16 K17) ∧ (r18 = 0 → q_62 xs L d v0 1 J16 K17 (fun J21 K22 => P J21 K22))))) ∧ (r12 = 0 → q_62 xs L d v0 2 J10 K11 (fun J23 K24 => P J23 K24))))) ∧ ((J1 v0 3) < 60 → q_58 xs L d v0 r3 J1 K2 (fun J25 K26 => q_155 xs L d v0 8 J25 K26 (fun r29 J27 K28 => (-2147483648 ≤ r29 ∧ r29 < 2147483648) ∧ (¬ r29 = 0 → (2 < r29 → P J27 K28) ∧ (r29 ≤ 2 → q_61 xs L d v0 J27 K28 (fun r35 J33 K34 => (-2147483648 ≤ r35 ∧ r35 < 2147483648) ∧ (¬ r35 = 0 → P J33 K34) ∧ (r35 = 0 → q_62 xs L d v0 1 J33 K34 (fun J38 K39 => P J38 K39))))) ∧ (r29 = 0 → q_62 xs L d v0 2 J27 K28 (fun J40 K41 => P J40 K41))))))) : q_154 xs L (d + 1) v0 J K P := by
  unfold q_154
  refine jq_in (ls := [some (.ref v0), none, none]) rfl (Nat.le_of_ble_eq_true rfl) rfl ?_
  refine jw_aload_n rfl rfl ?_
  refine jw_bipush rfl (by decide) ?_
  refine jw_virt (k := 1) (c := 17) (as := [.int (Int32.ofInt 16)]) rfl rfl rfl (Nat.le_of_ble_eq_true rfl) rfl (Nat.le_of_ble_eq_true rfl) hk0 rfl (jz_ci ?_)
  refine jm_Q.mono h (jp_i_mono (fun r3 J1 K2 h => ?_))
  refine jw_istore_n (ls' := [some (.ref v0), some (.int (Int32.ofInt r3)), none]) rfl rfl ?_
  refine jw_aload_n rfl rfl ?_
  refine jw_gf (v := (J1 v0 3)) rfl (by decide) hk0 rfl ?_
  refine jw_bipush rfl (by decide) ?_
  obtain ⟨o4, h⟩ := h
  refine jw_ic_ge rfl o4 (by omega) (fun c5 => ?_) (fun c5 => ?_)
  · replace h := h.1 c5
    refine jw_aload_n rfl rfl ?_
    refine jw_gr (q := (v0 + 1)) rfl hk0 (jzr_18_1 hk0) ?_
    refine jw_aload_n rfl rfl ?_
    refine jw_bipush rfl (by decide) ?_
    refine jw_virt (k := 1) (c := 17) (as := [.int (Int32.ofInt 60)]) rfl rfl rfl (Nat.le_of_ble_eq_true rfl) rfl (Nat.le_of_ble_eq_true rfl) hk0 rfl (jz_ci ?_)
    refine jm_Q.mono h (jp_i_mono (fun r8 J6 K7 h => ?_))
    refine jw_iload_n rfl rfl ?_
    obtain ⟨o9, h⟩ := h
    refine jw_iast (N := 60) rfl (jzk_18_1 hk0) (jzn_18_1 hk0) (by omega) o9 ?_
    refine jw_aload_n rfl rfl ?_
    refine jw_bipush rfl (by decide) ?_
    refine jw_virt (k := 1) (c := 17) (as := [.int (Int32.ofInt 8)]) rfl rfl rfl (Nat.le_of_ble_eq_true rfl) rfl (Nat.le_of_ble_eq_true rfl) hk0 rfl (jz_ci ?_)
    refine jm_Q.mono h (jp_i_mono (fun r12 J10 K11 h => ?_))
    refine jw_istore_n (ls' := [some (.ref v0), some (.int (Int32.ofInt r3)), some (.int (Int32.ofInt r12))]) rfl rfl ?_
    refine jw_iload_n rfl rfl ?_
    obtain ⟨o13, h⟩ := h
    refine jw_if_ne rfl o13 (fun c14 => ?_) (fun c14 => ?_)
    · replace h := h.1 c14
      refine jw_iload_n rfl rfl ?_
      refine jw_iconst rfl ?_
      refine jw_ic_gt rfl o13 (by omega) (fun c15 => ?_) (fun c15 => ?_)
      · replace h := h.1 c15
        refine jw_vret rfl ?_
        exact h
      · replace h := h.2 c15
        refine jw_aload_n rfl rfl ?_
        refine jw_virt (k := 0) (c := 17) (as := []) rfl rfl rfl (Nat.le_of_ble_eq_true rfl) rfl (Nat.le_of_ble_eq_true rfl) hk0 rfl (jz_ci ?_)
        refine jm_Q.mono h (jp_i_mono (fun r18 J16 K17 h => ?_))
        obtain ⟨o19, h⟩ := h
        refine jw_if_ne rfl o19 (fun c20 => ?_) (fun c20 => ?_)
        · replace h := h.1 c20
          refine jw_vret rfl ?_
          exact h
        · replace h := h.2 c20
          refine jw_aload_n rfl rfl ?_
          refine jw_iconst rfl ?_
          refine jw_virt (k := 1) (c := 17) (as := [.int (Int32.ofInt 1)]) rfl rfl rfl (Nat.le_of_ble_eq_true rfl) rfl (Nat.le_of_ble_eq_true rfl) hk0 rfl (jz_cv ?_)
          refine jm_Q.mono h (jp_v_mono (fun J21 K22 h => ?_))
          refine jw_vret rfl ?_
          exact h
    · replace h := h.2 c14
      refine jw_aload_n rfl rfl ?_
      refine jw_iconst rfl ?_
      refine jw_virt (k := 1) (c := 17) (as := [.int (Int32.ofInt 2)]) rfl rfl rfl (Nat.le_of_ble_eq_true rfl) rfl (Nat.le_of_ble_eq_true rfl) hk0 rfl (jz_cv ?_)
      refine jm_Q.mono h (jp_v_mono (fun J23 K24 h => ?_))
      refine jw_goto rfl ?_
      refine jw_vret rfl ?_
      exact h
  · replace h := h.2 c5
    refine jw_aload_n rfl rfl ?_
    refine jw_iload_n rfl rfl ?_
    refine jw_virt (k := 1) (c := 17) (as := [.int (Int32.ofInt r3)]) rfl rfl rfl (Nat.le_of_ble_eq_true rfl) rfl (Nat.le_of_ble_eq_true rfl) hk0 rfl (jz_cv ?_)
    refine jm_Q.mono h (jp_v_mono (fun J25 K26 h => ?_))
    refine jw_goto rfl ?_
    refine jw_aload_n rfl rfl ?_
    refine jw_bipush rfl (by decide) ?_
    refine jw_virt (k := 1) (c := 17) (as := [.int (Int32.ofInt 8)]) rfl rfl rfl (Nat.le_of_ble_eq_true rfl) rfl (Nat.le_of_ble_eq_true rfl) hk0 rfl (jz_ci ?_)
    refine jm_Q.mono h (jp_i_mono (fun r29 J27 K28 h => ?_))
    refine jw_istore_n (ls' := [some (.ref v0), some (.int (Int32.ofInt r3)), some (.int (Int32.ofInt r29))]) rfl rfl ?_
    refine jw_iload_n rfl rfl ?_
    obtain ⟨o30, h⟩ := h
    refine jw_if_ne rfl o30 (fun c31 => ?_) (fun c31 => ?_)
    · replace h := h.1 c31
      refine jw_iload_n rfl rfl ?_
      refine jw_iconst rfl ?_
      refine jw_ic_gt rfl o30 (by omega) (fun c32 => ?_) (fun c32 => ?_)
      · replace h := h.1 c32
        refine jw_vret rfl ?_
        exact h
      · replace h := h.2 c32
        refine jw_aload_n rfl rfl ?_
        refine jw_virt (k := 0) (c := 17) (as := []) rfl rfl rfl (Nat.le_of_ble_eq_true rfl) rfl (Nat.le_of_ble_eq_true rfl) hk0 rfl (jz_ci ?_)
        refine jm_Q.mono h (jp_i_mono (fun r35 J33 K34 h => ?_))
        obtain ⟨o36, h⟩ := h
        refine jw_if_ne rfl o36 (fun c37 => ?_) (fun c37 => ?_)
        · replace h := h.1 c37
          refine jw_vret rfl ?_
          exact h
        · replace h := h.2 c37
          refine jw_aload_n rfl rfl ?_
          refine jw_iconst rfl ?_
          refine jw_virt (k := 1) (c := 17) (as := [.int (Int32.ofInt 1)]) rfl rfl rfl (Nat.le_of_ble_eq_true rfl) rfl (Nat.le_of_ble_eq_true rfl) hk0 rfl (jz_cv ?_)
          refine jm_Q.mono h (jp_v_mono (fun J38 K39 h => ?_))
          refine jw_vret rfl ?_
          exact h
    · replace h := h.2 c31
      refine jw_aload_n rfl rfl ?_
      refine jw_iconst rfl ?_
      refine jw_virt (k := 1) (c := 17) (as := [.int (Int32.ofInt 2)]) rfl rfl rfl (Nat.le_of_ble_eq_true rfl) rfl (Nat.le_of_ble_eq_true rfl) hk0 rfl (jz_cv ?_)
      refine jm_Q.mono h (jp_v_mono (fun J40 K41 h => ?_))
      refine jw_goto rfl ?_
      refine jw_vret rfl ?_
      exact h
set_option maxHeartbeats 4000000 in
theorem e_155 {xs : Nat → Int32} {L d : Nat} {v0 : Nat} {v1 : Int} {J K : jZ} {P : Int → jZ → jZ → Prop} (hk0 : jz_kd v0 = 18) (h : (-2147483648 ≤ v1 ∧ v1 < 2147483648) ∧ (v1 ≤ 0 → P 0 (jm_up J v0 4 (((J v0 4) * 1103515245) + 12345)) K) ∧ (0 < v1 → (¬ v1 = 0) ∧ P (jz_rem (jz_ushr (((J v0 4) * 1103515245) + 12345) 16) v1) (jm_up J v0 4 (((J v0 4) * 1103515245) + 12345)) K)) : q_155 xs L (d + 1) v0 v1 J K P := by
  unfold q_155
  refine jq_in (ls := [some (.ref v0), some (.int (Int32.ofInt v1))]) rfl (Nat.le_of_ble_eq_true rfl) rfl ?_
  refine jw_aload_n rfl rfl ?_
  refine jw_aload_n rfl rfl ?_
  refine jw_gf (v := (J v0 4)) rfl (by decide) hk0 rfl ?_
  refine jw_ldc rfl ?_
  refine jw_imul rfl ?_
  refine jw_sipush rfl (by decide) ?_
  refine jw_iadd rfl ?_
  refine jw_pf rfl hk0 ?_
  refine jw_iload_n rfl rfl ?_
  obtain ⟨o1, h⟩ := h
  refine jw_if_le rfl o1 (fun c2 => ?_) (fun c2 => ?_)
  · replace h := h.1 c2
    refine jw_iconst rfl ?_
    refine jw_iret rfl ?_
    exact h
  · replace h := h.2 c2
    refine jw_aload_n rfl rfl ?_
    refine jw_gf (v := (((J v0 4) * 1103515245) + 12345)) rfl (by decide) hk0 (by simp [jm_up]) ?_
    refine jw_bipush rfl (by decide) ?_
    refine jw_iushr rfl ?_
    refine jw_iload_n rfl rfl ?_
    obtain ⟨o3, h⟩ := h
    refine jw_irem rfl o1 o3 ?_
    refine jw_goto rfl ?_
    refine jw_iret rfl ?_
    exact h
set_option maxHeartbeats 4000000 in
theorem e_157 {xs : Nat → Int32} {L d : Nat} {J K : jZ} {P : Int → jZ → jZ → Prop} (h : q_158 xs L d 5 1 J K (fun J1 K2 => q_159 xs L d 35 9 J1 K2 (fun J3 K4 => P 1 (jm_up J3 0 11 1) K4))) : q_157 xs L (d + 1) J K P := by
  unfold q_157
  refine jq_in (ls := [some (.ref 0)]) rfl (Nat.le_of_ble_eq_true rfl) rfl ?_
  refine jw_aload_n rfl rfl ?_
  refine jw_gr (q := 5) rfl rfl rfl ?_
  refine jw_aload_n rfl rfl ?_
  refine jw_gr (q := 1) rfl rfl rfl ?_
  refine jw_virt (k := 1) (c := 17) (as := [.ref 1]) rfl rfl rfl (Nat.le_of_ble_eq_true rfl) rfl (Nat.le_of_ble_eq_true rfl) rfl rfl (jz_cv ?_)
  refine jm_Q.mono h (jp_v_mono (fun J1 K2 h => ?_))
  refine jw_aload_n rfl rfl ?_
  refine jw_gr (q := 35) rfl rfl rfl ?_
  refine jw_aload_n rfl rfl ?_
  refine jw_gr (q := 9) rfl rfl rfl ?_
  refine jw_virt (k := 1) (c := 11) (as := [.ref 9]) rfl rfl rfl (Nat.le_of_ble_eq_true rfl) rfl (Nat.le_of_ble_eq_true rfl) rfl rfl (jz_cv ?_)
  refine jm_Q.mono h (jp_v_mono (fun J3 K4 h => ?_))
  refine jw_aload_n rfl rfl ?_
  refine jw_iconst rfl ?_
  refine jw_pfz rfl rfl (by omega) ?_
  refine jw_iconst rfl ?_
  refine jw_iret rfl ?_
  exact h
set_option maxHeartbeats 4000000 in
theorem e_158 {xs : Nat → Int32} {L d : Nat} {v0 : Nat} {v1 : Nat} {J K : jZ} {P : jZ → jZ → Prop} (hk0 : jz_kd v0 = 18) (hk1 : jz_kd v1 = 18) (h : P (jm_up (jm_up (jz_cpy (jz_cpy (jz_cpy J (v1 + 1) (Int.toNat 0) (v0 + 1) (Int.toNat 0) (Int.toNat 60)) (v1 + 2) (Int.toNat 0) (v0 + 2) (Int.toNat 0) (Int.toNat 60)) (v1 + 3) (Int.toNat 0) (v0 + 3) (Int.toNat 0) (Int.toNat 16)) v0 3 ((jz_cpy (jz_cpy (jz_cpy J (v1 + 1) (Int.toNat 0) (v0 + 1) (Int.toNat 0) (Int.toNat 60)) (v1 + 2) (Int.toNat 0) (v0 + 2) (Int.toNat 0) (Int.toNat 60)) (v1 + 3) (Int.toNat 0) (v0 + 3) (Int.toNat 0) (Int.toNat 16)) v1 3)) v0 4 ((jz_cpy (jz_cpy (jz_cpy J (v1 + 1) (Int.toNat 0) (v0 + 1) (Int.toNat 0) (Int.toNat 60)) (v1 + 2) (Int.toNat 0) (v0 + 2) (Int.toNat 0) (Int.toNat 60)) (v1 + 3) (Int.toNat 0) (v0 + 3) (Int.toNat 0) (Int.toNat 16)) v1 4)) K) : q_158 xs L (d + 1) v0 v1 J K P := by
  unfold q_158
  refine jq_in (ls := [some (.ref v0), some (.ref v1)]) rfl (Nat.le_of_ble_eq_true rfl) rfl ?_
  refine jw_aload_n rfl rfl ?_
  refine jw_gr (q := (v1 + 1)) rfl hk1 (jzr_18_1 hk1) ?_
  refine jw_iconst rfl ?_
  refine jw_aload_n rfl rfl ?_
  refine jw_gr (q := (v0 + 1)) rfl hk0 (jzr_18_1 hk0) ?_
  refine jw_iconst rfl ?_
  refine jw_bipush rfl (by decide) ?_
  refine jw_cpi (N := 60) (M := 60) rfl (jzk_18_1 hk1) (jzk_18_1 hk0) (jzn_18_1 hk1) (jzn_18_1 hk0) (by omega) (by omega) (Nat.le_of_ble_eq_true rfl) ?_
  refine jw_aload_n rfl rfl ?_
  refine jw_gr (q := (v1 + 2)) rfl hk1 (jzr_18_2 hk1) ?_
  refine jw_iconst rfl ?_
  refine jw_aload_n rfl rfl ?_
  refine jw_gr (q := (v0 + 2)) rfl hk0 (jzr_18_2 hk0) ?_
  refine jw_iconst rfl ?_
  refine jw_bipush rfl (by decide) ?_
  refine jw_cpi (N := 60) (M := 60) rfl (jzk_18_2 hk1) (jzk_18_2 hk0) (jzn_18_2 hk1) (jzn_18_2 hk0) (by omega) (by omega) (Nat.le_of_ble_eq_true rfl) ?_
  refine jw_aload_n rfl rfl ?_
  refine jw_gr (q := (v1 + 3)) rfl hk1 (jzr_18_3 hk1) ?_
  refine jw_iconst rfl ?_
  refine jw_aload_n rfl rfl ?_
  refine jw_gr (q := (v0 + 3)) rfl hk0 (jzr_18_3 hk0) ?_
  refine jw_iconst rfl ?_
  refine jw_bipush rfl (by decide) ?_
  refine jw_cpi (N := 16) (M := 16) rfl (jzk_18_3 hk1) (jzk_18_3 hk0) (jzn_18_3 hk1) (jzn_18_3 hk0) (by omega) (by omega) (Nat.le_of_ble_eq_true rfl) ?_
  refine jw_aload_n rfl rfl ?_
  refine jw_aload_n rfl rfl ?_
  refine jw_gf (v := ((jz_cpy (jz_cpy (jz_cpy J (v1 + 1) (Int.toNat 0) (v0 + 1) (Int.toNat 0) (Int.toNat 60)) (v1 + 2) (Int.toNat 0) (v0 + 2) (Int.toNat 0) (Int.toNat 60)) (v1 + 3) (Int.toNat 0) (v0 + 3) (Int.toNat 0) (Int.toNat 16)) v1 3)) rfl (by decide) hk1 rfl ?_
  refine jw_pf rfl hk0 ?_
  refine jw_aload_n rfl rfl ?_
  refine jw_aload_n rfl rfl ?_
  refine jw_gf (v := ((jz_cpy (jz_cpy (jz_cpy J (v1 + 1) (Int.toNat 0) (v0 + 1) (Int.toNat 0) (Int.toNat 60)) (v1 + 2) (Int.toNat 0) (v0 + 2) (Int.toNat 0) (Int.toNat 60)) (v1 + 3) (Int.toNat 0) (v0 + 3) (Int.toNat 0) (Int.toNat 16)) v1 4)) rfl (by decide) hk1 (by simp [jm_up]) ?_
  refine jw_pf rfl hk0 ?_
  refine jw_vret rfl ?_
  exact h
set_option maxHeartbeats 4000000 in
theorem e_159 {xs : Nat → Int32} {L d : Nat} {v0 : Nat} {v1 : Nat} {J K : jZ} {P : jZ → jZ → Prop} (hk0 : jz_kd v0 = 12) (hk1 : jz_kd v1 = 12) (h : l_159_10 xs L d v0 v1 0 (jm_up J v0 1 (J v1 1)) K P) : q_159 xs L (d + 1) v0 v1 J K P := by
  unfold q_159
  refine jq_in (ls := [some (.ref v0), some (.ref v1), none]) rfl (Nat.le_of_ble_eq_true rfl) rfl ?_
  refine jw_aload_n rfl rfl ?_
  refine jw_aload_n rfl rfl ?_
  refine jw_gf (v := (J v1 1)) rfl (by decide) hk1 rfl ?_
  refine jw_pf rfl hk0 ?_
  refine jw_iconst rfl ?_
  refine jw_istore_n (ls' := [some (.ref v0), some (.ref v1), some (.int (Int32.ofInt 0))]) rfl rfl ?_
  exact jz_fg (l := [some (.ref v0), some (.ref v1), some (.int (Int32.ofInt 0))]) ⟨rfl, rfl, rfl, trivial⟩ h
set_option maxHeartbeats 4000000 in
theorem e_159_10 {xs : Nat → Int32} {L d : Nat} {v0 : Nat} {v1 : Nat} {v2 : Int} {J K : jZ} {P : jZ → jZ → Prop} (hk0 : jz_kd v0 = 12) (hk1 : jz_kd v1 = 12) (h : (-2147483648 ≤ v2 ∧ v2 < 2147483648) ∧ (-2147483648 ≤ J v0 1 ∧ J v0 1 < 2147483648) ∧ ((J v0 1) ≤ v2 → P J K) ∧ (v2 < (J v0 1) → (24 ≤ v2 → P J K) ∧ (v2 < 24 → ((0 : Int) ≤ v2 ∧ v2 < 24) ∧ q_160 xs L d (v0 + 2 + v2.toNat) (v1 + 2 + v2.toNat) J K (fun J6 K7 => l_159_10 xs L d v0 v1 (v2 + 1) J6 K7 P)))) : l_159_10 xs L d v0 v1 v2 J K P := by
  unfold l_159_10
  refine jw_iload_n rfl rfl ?_
  refine jw_aload_n rfl rfl ?_
  refine jw_gf (v := (J v0 1)) rfl (by decide) hk0 rfl ?_
  obtain ⟨o1, h⟩ := h
  obtain ⟨o2, h⟩ := h
  refine jw_ic_ge rfl o1 o2 (fun c3 => ?_) (fun c3 => ?_)
  · replace h := h.1 c3
    refine jw_vret rfl ?_
    exact h
  · replace h := h.2 c3
    refine jw_iload_n rfl rfl ?_
    refine jw_bipush rfl (by decide) ?_
    refine jw_ic_ge rfl o1 (by omega) (fun c4 => ?_) (fun c4 => ?_)
    · replace h := h.1 c4
      refine jw_vret rfl ?_
      exact h
    · replace h := h.2 c4
      refine jw_aload_n rfl rfl ?_
      refine jw_gr (q := (v0 + 1)) rfl hk0 (jzr_12_1 hk0) ?_
      refine jw_iload_n rfl rfl ?_
      obtain ⟨o5, h⟩ := h
      refine jw_aald (k := 3) (q := (v0 + 2 + v2.toNat)) (N := 24) rfl (jzk_12_1 hk0) (by omega) (jzn_12_1 hk0) (by omega) o5 (jzr_12e hk0 o5) ?_
      refine jw_aload_n rfl rfl ?_
      refine jw_gr (q := (v1 + 1)) rfl hk1 (jzr_12_1 hk1) ?_
      refine jw_iload_n rfl rfl ?_
      refine jw_aald (k := 3) (q := (v1 + 2 + v2.toNat)) (N := 24) rfl (jzk_12_1 hk1) (by omega) (jzn_12_1 hk1) (by omega) o5 (jzr_12e hk1 o5) ?_
      refine jw_virt (k := 1) (c := 9) (as := [.ref (v1 + 2 + v2.toNat)]) rfl rfl rfl (Nat.le_of_ble_eq_true rfl) rfl (Nat.le_of_ble_eq_true rfl) (jze_12e hk0 o5) rfl (jz_cv ?_)
      refine jm_Q.mono h (jp_v_mono (fun J6 K7 h => ?_))
      refine jw_iinc (ls' := [some (.ref v0), some (.ref v1), some (.int (Int32.ofInt (v2 + 1)))]) rfl rfl rfl ?_
      refine jw_goto rfl ?_
      exact jz_fg (l := [some (.ref v0), some (.ref v1), some (.int (Int32.ofInt (v2 + 1)))]) ⟨rfl, rfl, rfl, trivial⟩ h
set_option maxHeartbeats 4000000 in
theorem e_160 {xs : Nat → Int32} {L d : Nat} {v0 : Nat} {v1 : Nat} {J K : jZ} {P : jZ → jZ → Prop} (hk0 : jz_kd v0 = 10) (hk1 : jz_kd v1 = 10) (h : P (jm_up (jm_up (jm_up (jm_up (jm_up (jm_up (jm_up (jm_up (jm_up (jm_up (jm_up J v0 0 (J v1 0)) v0 1 (J v1 1)) v0 2 (J v1 2)) v0 3 (J v1 3)) v0 4 (J v1 4)) v0 5 (J v1 5)) v0 6 (J v1 6)) v0 7 (J v1 7)) v0 8 (J v1 8)) v0 9 (J v1 9)) v0 10 (J v1 10)) K) : q_160 xs L (d + 1) v0 v1 J K P := by
  unfold q_160
  refine jq_in (ls := [some (.ref v0), some (.ref v1)]) rfl (Nat.le_of_ble_eq_true rfl) rfl ?_
  refine jw_aload_n rfl rfl ?_
  refine jw_aload_n rfl rfl ?_
  refine jw_gf (v := (J v1 0)) rfl (by decide) hk1 rfl ?_
  refine jw_pf rfl hk0 ?_
  refine jw_aload_n rfl rfl ?_
  refine jw_aload_n rfl rfl ?_
  refine jw_gf (v := (J v1 1)) rfl (by decide) hk1 (by simp [jm_up]) ?_
  refine jw_pf rfl hk0 ?_
  refine jw_aload_n rfl rfl ?_
  refine jw_aload_n rfl rfl ?_
  refine jw_gf (v := (J v1 2)) rfl (by decide) hk1 (by simp [jm_up]) ?_
  refine jw_pf rfl hk0 ?_
  refine jw_aload_n rfl rfl ?_
  refine jw_aload_n rfl rfl ?_
  refine jw_gf (v := (J v1 3)) rfl (by decide) hk1 (by simp [jm_up]) ?_
  refine jw_pf rfl hk0 ?_
  refine jw_aload_n rfl rfl ?_
  refine jw_aload_n rfl rfl ?_
  refine jw_gf (v := (J v1 4)) rfl (by decide) hk1 (by simp [jm_up]) ?_
  refine jw_pf rfl hk0 ?_
  refine jw_aload_n rfl rfl ?_
  refine jw_aload_n rfl rfl ?_
  refine jw_gf (v := (J v1 5)) rfl (by decide) hk1 (by simp [jm_up]) ?_
  refine jw_pf rfl hk0 ?_
  refine jw_aload_n rfl rfl ?_
  refine jw_aload_n rfl rfl ?_
  refine jw_gf (v := (J v1 6)) rfl (by decide) hk1 (by simp [jm_up]) ?_
  refine jw_pf rfl hk0 ?_
  refine jw_aload_n rfl rfl ?_
  refine jw_aload_n rfl rfl ?_
  refine jw_gf (v := (J v1 7)) rfl (by decide) hk1 (by simp [jm_up]) ?_
  refine jw_pf rfl hk0 ?_
  refine jw_aload_n rfl rfl ?_
  refine jw_aload_n rfl rfl ?_
  refine jw_gf (v := (J v1 8)) rfl (by decide) hk1 (by simp [jm_up]) ?_
  refine jw_pf rfl hk0 ?_
  refine jw_aload_n rfl rfl ?_
  refine jw_aload_n rfl rfl ?_
  refine jw_gf (v := (J v1 9)) rfl (by decide) hk1 (by simp [jm_up]) ?_
  refine jw_pf rfl hk0 ?_
  refine jw_aload_n rfl rfl ?_
  refine jw_aload_n rfl rfl ?_
  refine jw_gf (v := (J v1 10)) rfl (by decide) hk1 (by simp [jm_up]) ?_
  refine jw_pf rfl hk0 ?_
  refine jw_vret rfl ?_
  exact h
set_option maxHeartbeats 4000000 in
theorem e_161 {xs : Nat → Int32} {L d : Nat} {J K : jZ} {P : Int → jZ → jZ → Prop} (h : (-2147483648 ≤ J 0 11 ∧ J 0 11 < 2147483648) ∧ (¬ (J 0 11) = 0 → q_158 xs L (d + 1) 1 5 J K (fun J3 K4 => q_159 xs L (d + 1) 9 35 J3 K4 (fun J5 K6 => q_109 xs L (d + 1) (jm_up J5 61 5 0) K6 (fun J7 K8 => P 1 J7 K8)))) ∧ ((J 0 11) = 0 → q_13 xs L (d + 1) (-5) J K (fun r11 J9 K10 => P r11 J9 K10))) : q_161 xs L (d + 2) J K P := by
  unfold q_161
  refine jq_in (ls := [some (.ref 0)]) rfl (Nat.le_of_ble_eq_true rfl) rfl ?_
  refine jw_aload_n rfl rfl ?_
  refine jw_gf (v := (J 0 11)) rfl (by decide) rfl rfl ?_
  obtain ⟨o1, h⟩ := h
  refine jw_if_ne rfl o1 (fun c2 => ?_) (fun c2 => ?_)
  · replace h := h.1 c2
    refine jw_aload_n rfl rfl ?_
    refine jw_gr (q := 1) rfl rfl rfl ?_
    refine jw_aload_n rfl rfl ?_
    refine jw_gr (q := 5) rfl rfl rfl ?_
    refine jw_virt (k := 1) (c := 17) (as := [.ref 5]) rfl rfl rfl (Nat.le_of_ble_eq_true rfl) rfl (Nat.le_of_ble_eq_true rfl) rfl rfl (jz_cv ?_)
    refine jm_Q.mono h (jp_v_mono (fun J3 K4 h => ?_))
    refine jw_aload_n rfl rfl ?_
    refine jw_gr (q := 9) rfl rfl rfl ?_
    refine jw_aload_n rfl rfl ?_
    refine jw_gr (q := 35) rfl rfl rfl ?_
    refine jw_virt (k := 1) (c := 11) (as := [.ref 35]) rfl rfl rfl (Nat.le_of_ble_eq_true rfl) rfl (Nat.le_of_ble_eq_true rfl) rfl rfl (jz_cv ?_)
    refine jm_Q.mono h (jp_v_mono (fun J5 K6 h => ?_))
    refine jw_aload_n rfl rfl ?_
    refine jw_gr (q := 61) rfl rfl rfl ?_
    refine jw_virt (k := 0) (c := 13) (as := []) rfl rfl rfl (Nat.le_of_ble_eq_true rfl) rfl (Nat.le_of_ble_eq_true rfl) rfl rfl (jz_cv ?_)
    refine jq_in (ls := [some (.ref 61)]) rfl (Nat.le_of_ble_eq_true rfl) rfl ?_
    refine jw_aload_n rfl rfl ?_
    refine jw_iconst rfl ?_
    refine jw_pf rfl rfl ?_
    refine jw_vret rfl ?_
    refine jw_aload_n rfl rfl ?_
    refine jw_virt (k := 0) (c := 18) (as := []) rfl rfl rfl (Nat.le_of_ble_eq_true rfl) rfl (Nat.le_of_ble_eq_true rfl) rfl rfl (jz_cv ?_)
    refine jm_Q.mono h (jp_v_mono (fun J7 K8 h => ?_))
    refine jw_iconst rfl ?_
    refine jw_iret rfl ?_
    exact h
  · replace h := h.2 c2
    refine jw_aload_n rfl rfl ?_
    refine jw_bipush rfl (by decide) ?_
    refine jw_virt (k := 1) (c := 18) (as := [.int (Int32.ofInt (-5))]) rfl rfl rfl (Nat.le_of_ble_eq_true rfl) rfl (Nat.le_of_ble_eq_true rfl) rfl rfl (jz_ci ?_)
    refine jm_Q.mono h (jp_i_mono (fun r11 J9 K10 h => ?_))
    refine jw_iret rfl ?_
    exact h
set_option maxHeartbeats 4000000 in
theorem e_162 {xs : Nat → Int32} {L d : Nat} {v1 : Int} {J K : jZ} {P : Int → jZ → jZ → Prop} (h : (-2147483648 ≤ v1 ∧ v1 < 2147483648) ∧ (v1 = 0 → P (J 1 3) J K) ∧ (¬ v1 = 0 → (v1 = 1 → q_129 xs L d 1 1 J K (fun r7 J5 K6 => P r7 J5 K6)) ∧ (¬ v1 = 1 → (v1 = 2 → q_129 xs L d 1 2 J K (fun r11 J9 K10 => P r11 J9 K10)) ∧ (¬ v1 = 2 → (v1 = 3 → P (J 9 1) J K) ∧ (¬ v1 = 3 → (v1 = 4 → q_163 xs L d 1 J K (fun r16 J14 K15 => P r16 J14 K15)) ∧ (¬ v1 = 4 → (v1 = 5 → q_165 xs L d 1 J K (fun r20 J18 K19 => P r20 J18 K19)) ∧ (¬ v1 = 5 → (v1 = 6 → P (J 144 1) J K) ∧ (¬ v1 = 6 → (v1 = 7 → P (J 1 4) J K) ∧ (¬ v1 = 7 → (v1 = 8 → q_166 xs L d J K (fun r26 J24 K25 => P r26 J24 K25)) ∧ (¬ v1 = 8 → (v1 < 12 → P (-1) J K) ∧ (12 ≤ v1 → (17 ≤ v1 → P (-1) J K) ∧ (v1 < 17 → ((0 : Int) ≤ (v1 - 12) ∧ (v1 - 12) < 5) ∧ P (J 150 (v1 - 12).toNat) J K)))))))))))) : q_162 xs L (d + 1) v1 J K P := by
  unfold q_162
  refine jq_in (ls := [some (.ref 0), some (.int (Int32.ofInt v1))]) rfl (Nat.le_of_ble_eq_true rfl) rfl ?_
  refine jw_iload_n rfl rfl ?_
  obtain ⟨o1, h⟩ := h
  by_cases c3 : v1 = 0
  · replace h := h.1 c3
    refine jw_tab_in (pc2 := 52) (v := 0) (o := 51) rfl o1 c3 (by omega) rfl (by omega) ?_
    refine jw_aload_n rfl rfl ?_
    refine jw_gr (q := 1) rfl rfl rfl ?_
    refine jw_gf (v := (J 1 3)) rfl (by decide) rfl rfl ?_
    refine jw_iret rfl ?_
    exact h
  · replace h := h.2 c3
    by_cases c4 : v1 = 1
    · replace h := h.1 c4
      refine jw_tab_in (pc2 := 60) (v := 1) (o := 59) rfl o1 c4 (by omega) rfl (by omega) ?_
      refine jw_aload_n rfl rfl ?_
      refine jw_gr (q := 1) rfl rfl rfl ?_
      refine jw_iconst rfl ?_
      refine jw_virt (k := 1) (c := 17) (as := [.int (Int32.ofInt 1)]) rfl rfl rfl (Nat.le_of_ble_eq_true rfl) rfl (Nat.le_of_ble_eq_true rfl) rfl rfl (jz_ci ?_)
      refine jm_Q.mono h (jp_i_mono (fun r7 J5 K6 h => ?_))
      refine jw_iret rfl ?_
      exact h
    · replace h := h.2 c4
      by_cases c8 : v1 = 2
      · replace h := h.1 c8
        refine jw_tab_in (pc2 := 69) (v := 2) (o := 68) rfl o1 c8 (by omega) rfl (by omega) ?_
        refine jw_aload_n rfl rfl ?_
        refine jw_gr (q := 1) rfl rfl rfl ?_
        refine jw_iconst rfl ?_
        refine jw_virt (k := 1) (c := 17) (as := [.int (Int32.ofInt 2)]) rfl rfl rfl (Nat.le_of_ble_eq_true rfl) rfl (Nat.le_of_ble_eq_true rfl) rfl rfl (jz_ci ?_)
        refine jm_Q.mono h (jp_i_mono (fun r11 J9 K10 h => ?_))
        refine jw_iret rfl ?_
        exact h
      · replace h := h.2 c8
        by_cases c12 : v1 = 3
        · replace h := h.1 c12
          refine jw_tab_in (pc2 := 78) (v := 3) (o := 77) rfl o1 c12 (by omega) rfl (by omega) ?_
          refine jw_aload_n rfl rfl ?_
          refine jw_gr (q := 9) rfl rfl rfl ?_
          refine jw_gf (v := (J 9 1)) rfl (by decide) rfl rfl ?_
          refine jw_iret rfl ?_
          exact h
        · replace h := h.2 c12
          by_cases c13 : v1 = 4
          · replace h := h.1 c13
            refine jw_tab_in (pc2 := 86) (v := 4) (o := 85) rfl o1 c13 (by omega) rfl (by omega) ?_
            refine jw_aload_n rfl rfl ?_
            refine jw_gr (q := 1) rfl rfl rfl ?_
            refine jw_virt (k := 0) (c := 17) (as := []) rfl rfl rfl (Nat.le_of_ble_eq_true rfl) rfl (Nat.le_of_ble_eq_true rfl) rfl rfl (jz_ci ?_)
            refine jm_Q.mono h (jp_i_mono (fun r16 J14 K15 h => ?_))
            refine jw_iret rfl ?_
            exact h
          · replace h := h.2 c13
            by_cases c17 : v1 = 5
            · replace h := h.1 c17
              refine jw_tab_in (pc2 := 94) (v := 5) (o := 93) rfl o1 c17 (by omega) rfl (by omega) ?_
              refine jw_aload_n rfl rfl ?_
              refine jw_gr (q := 1) rfl rfl rfl ?_
              refine jw_virt (k := 0) (c := 17) (as := []) rfl rfl rfl (Nat.le_of_ble_eq_true rfl) rfl (Nat.le_of_ble_eq_true rfl) rfl rfl (jz_ci ?_)
              refine jm_Q.mono h (jp_i_mono (fun r20 J18 K19 h => ?_))
              refine jw_iret rfl ?_
              exact h
            · replace h := h.2 c17
              by_cases c21 : v1 = 6
              · replace h := h.1 c21
                refine jw_tab_in (pc2 := 102) (v := 6) (o := 101) rfl o1 c21 (by omega) rfl (by omega) ?_
                refine jw_aload_n rfl rfl ?_
                refine jw_gr (q := 144) rfl rfl rfl ?_
                refine jw_gf (v := (J 144 1)) rfl (by decide) rfl rfl ?_
                refine jw_iret rfl ?_
                exact h
              · replace h := h.2 c21
                by_cases c22 : v1 = 7
                · replace h := h.1 c22
                  refine jw_tab_in (pc2 := 110) (v := 7) (o := 109) rfl o1 c22 (by omega) rfl (by omega) ?_
                  refine jw_aload_n rfl rfl ?_
                  refine jw_gr (q := 1) rfl rfl rfl ?_
                  refine jw_gf (v := (J 1 4)) rfl (by decide) rfl rfl ?_
                  refine jw_iret rfl ?_
                  exact h
                · replace h := h.2 c22
                  by_cases c23 : v1 = 8
                  · replace h := h.1 c23
                    refine jw_tab_in (pc2 := 118) (v := 8) (o := 117) rfl o1 c23 (by omega) rfl (by omega) ?_
                    refine jw_aload_n rfl rfl ?_
                    refine jw_virt (k := 0) (c := 18) (as := []) rfl rfl rfl (Nat.le_of_ble_eq_true rfl) rfl (Nat.le_of_ble_eq_true rfl) rfl rfl (jz_ci ?_)
                    refine jm_Q.mono h (jp_i_mono (fun r26 J24 K25 h => ?_))
                    refine jw_iret rfl ?_
                    exact h
                  · replace h := h.2 c23
                    refine jw_tab_out (pc2 := 123) rfl o1 (by omega) (by omega) ?_
                    refine jw_iload_n rfl rfl ?_
                    refine jw_bipush rfl (by decide) ?_
                    refine jw_ic_lt rfl o1 (by omega) (fun c27 => ?_) (fun c27 => ?_)
                    · replace h := h.1 c27
                      refine jw_iconst rfl ?_
                      refine jw_iret rfl ?_
                      exact h
                    · replace h := h.2 c27
                      refine jw_iload_n rfl rfl ?_
                      refine jw_bipush rfl (by decide) ?_
                      refine jw_ic_ge rfl o1 (by omega) (fun c28 => ?_) (fun c28 => ?_)
                      · replace h := h.1 c28
                        refine jw_iconst rfl ?_
                        refine jw_iret rfl ?_
                        exact h
                      · replace h := h.2 c28
                        refine jw_aload_n rfl rfl ?_
                        refine jw_gr (q := 150) rfl rfl rfl ?_
                        refine jw_iload_n rfl rfl ?_
                        refine jw_bipush rfl (by decide) ?_
                        refine jw_isub rfl ?_
                        obtain ⟨o29, h⟩ := h
                        refine jw_iald (v := (J 150 (v1 - 12).toNat)) (N := 5) rfl rfl rfl (by omega) o29 rfl ?_
                        refine jw_goto rfl ?_
                        refine jw_iret rfl ?_
                        exact h
set_option maxHeartbeats 4000000 in
theorem e_163 {xs : Nat → Int32} {L d : Nat} {v0 : Nat} {J K : jZ} {P : Int → jZ → jZ → Prop} (hk0 : jz_kd v0 = 18) (h : l_163_4 xs L d v0 0 0 J K P) : q_163 xs L (d + 1) v0 J K P := by
  unfold q_163
  refine jq_in (ls := [some (.ref v0), none, none]) rfl (Nat.le_of_ble_eq_true rfl) rfl ?_
  refine jw_iconst rfl ?_
  refine jw_istore_n (ls' := [some (.ref v0), some (.int (Int32.ofInt 0)), none]) rfl rfl ?_
  refine jw_iconst rfl ?_
  refine jw_istore_n (ls' := [some (.ref v0), some (.int (Int32.ofInt 0)), some (.int (Int32.ofInt 0))]) rfl rfl ?_
  exact jz_fg (l := [some (.ref v0), some (.int (Int32.ofInt 0)), some (.int (Int32.ofInt 0))]) ⟨rfl, rfl, rfl, trivial⟩ h
set_option maxHeartbeats 4000000 in
theorem e_163_4 {xs : Nat → Int32} {L d : Nat} {v0 : Nat} {v1 : Int} {v2 : Int} {J K : jZ} {P : Int → jZ → jZ → Prop} (hk0 : jz_kd v0 = 18) (h : (-2147483648 ≤ v2 ∧ v2 < 2147483648) ∧ (-2147483648 ≤ J v0 3 ∧ J v0 3 < 2147483648) ∧ ((J v0 3) ≤ v2 → q_164 xs L d v1 J K (fun r6 J4 K5 => P r6 J4 K5)) ∧ (v2 < (J v0 3) → ((0 : Int) ≤ v2 ∧ v2 < 60) ∧ l_163_4 xs L d v0 (jz_or v1 (jz_shl 1 (J (v0 + 1) v2.toNat))) (v2 + 1) J K P)) : l_163_4 xs L d v0 v1 v2 J K P := by
  unfold l_163_4
  refine jw_iload_n rfl rfl ?_
  refine jw_aload_n rfl rfl ?_
  refine jw_gf (v := (J v0 3)) rfl (by decide) hk0 rfl ?_
  obtain ⟨o1, h⟩ := h
  obtain ⟨o2, h⟩ := h
  refine jw_ic_ge rfl o1 o2 (fun c3 => ?_) (fun c3 => ?_)
  · replace h := h.1 c3
    refine jw_iload_n rfl rfl ?_
    refine jw_stat (k := 1) (as := [.int (Int32.ofInt v1)]) rfl (by decide) rfl rfl (Nat.le_of_ble_eq_true rfl) rfl (Nat.le_of_ble_eq_true rfl) (jz_ci ?_)
    refine jm_Q.mono h (jp_i_mono (fun r6 J4 K5 h => ?_))
    refine jw_iret rfl ?_
    exact h
  · replace h := h.2 c3
    refine jw_iload_n rfl rfl ?_
    refine jw_iconst rfl ?_
    refine jw_aload_n rfl rfl ?_
    refine jw_gr (q := (v0 + 1)) rfl hk0 (jzr_18_1 hk0) ?_
    refine jw_iload_n rfl rfl ?_
    obtain ⟨o7, h⟩ := h
    refine jw_iald (v := (J (v0 + 1) v2.toNat)) (N := 60) rfl (jzk_18_1 hk0) (jzn_18_1 hk0) (by omega) o7 rfl ?_
    refine jw_ishl rfl ?_
    refine jw_ior rfl ?_
    refine jw_istore_n (ls' := [some (.ref v0), some (.int (Int32.ofInt (jz_or v1 (jz_shl 1 (J (v0 + 1) v2.toNat))))), some (.int (Int32.ofInt v2))]) rfl rfl ?_
    refine jw_iinc (ls' := [some (.ref v0), some (.int (Int32.ofInt (jz_or v1 (jz_shl 1 (J (v0 + 1) v2.toNat))))), some (.int (Int32.ofInt (v2 + 1)))]) rfl rfl rfl ?_
    refine jw_goto rfl ?_
    exact jz_fg (l := [some (.ref v0), some (.int (Int32.ofInt (jz_or v1 (jz_shl 1 (J (v0 + 1) v2.toNat))))), some (.int (Int32.ofInt (v2 + 1)))]) ⟨rfl, rfl, rfl, trivial⟩ h
set_option maxHeartbeats 4000000 in
theorem e_164 {xs : Nat → Int32} {L d : Nat} {v0 : Int} {J K : jZ} {P : Int → jZ → jZ → Prop} (h : P (jz_and (((jz_and (((jz_and (v0 - (jz_and (jz_ushr v0 1) 1431655765)) 858993459) + (jz_and (jz_ushr (v0 - (jz_and (jz_ushr v0 1) 1431655765)) 2) 858993459)) + (jz_ushr ((jz_and (v0 - (jz_and (jz_ushr v0 1) 1431655765)) 858993459) + (jz_and (jz_ushr (v0 - (jz_and (jz_ushr v0 1) 1431655765)) 2) 858993459)) 4)) 252645135) + (jz_ushr (jz_and (((jz_and (v0 - (jz_and (jz_ushr v0 1) 1431655765)) 858993459) + (jz_and (jz_ushr (v0 - (jz_and (jz_ushr v0 1) 1431655765)) 2) 858993459)) + (jz_ushr ((jz_and (v0 - (jz_and (jz_ushr v0 1) 1431655765)) 858993459) + (jz_and (jz_ushr (v0 - (jz_and (jz_ushr v0 1) 1431655765)) 2) 858993459)) 4)) 252645135) 8)) + (jz_ushr ((jz_and (((jz_and (v0 - (jz_and (jz_ushr v0 1) 1431655765)) 858993459) + (jz_and (jz_ushr (v0 - (jz_and (jz_ushr v0 1) 1431655765)) 2) 858993459)) + (jz_ushr ((jz_and (v0 - (jz_and (jz_ushr v0 1) 1431655765)) 858993459) + (jz_and (jz_ushr (v0 - (jz_and (jz_ushr v0 1) 1431655765)) 2) 858993459)) 4)) 252645135) + (jz_ushr (jz_and (((jz_and (v0 - (jz_and (jz_ushr v0 1) 1431655765)) 858993459) + (jz_and (jz_ushr (v0 - (jz_and (jz_ushr v0 1) 1431655765)) 2) 858993459)) + (jz_ushr ((jz_and (v0 - (jz_and (jz_ushr v0 1) 1431655765)) 858993459) + (jz_and (jz_ushr (v0 - (jz_and (jz_ushr v0 1) 1431655765)) 2) 858993459)) 4)) 252645135) 8)) 16)) 63) J K) : q_164 xs L (d + 1) v0 J K P := by
  unfold q_164
  refine jq_in (ls := [some (.int (Int32.ofInt v0))]) rfl (Nat.le_of_ble_eq_true rfl) rfl ?_
  refine jw_iload_n rfl rfl ?_
  refine jw_iload_n rfl rfl ?_
  refine jw_iconst rfl ?_
  refine jw_iushr rfl ?_
  refine jw_ldc_w rfl ?_
  refine jw_iand rfl ?_
  refine jw_isub rfl ?_
  refine jw_istore_n (ls' := [some (.int (Int32.ofInt (v0 - (jz_and (jz_ushr v0 1) 1431655765))))]) rfl rfl ?_
  refine jw_iload_n rfl rfl ?_
  refine jw_ldc_w rfl ?_
  refine jw_iand rfl ?_
  refine jw_iload_n rfl rfl ?_
  refine jw_iconst rfl ?_
  refine jw_iushr rfl ?_
  refine jw_ldc_w rfl ?_
  refine jw_iand rfl ?_
  refine jw_iadd rfl ?_
  refine jw_istore_n (ls' := [some (.int (Int32.ofInt ((jz_and (v0 - (jz_and (jz_ushr v0 1) 1431655765)) 858993459) + (jz_and (jz_ushr (v0 - (jz_and (jz_ushr v0 1) 1431655765)) 2) 858993459))))]) rfl rfl ?_
  refine jw_iload_n rfl rfl ?_
  refine jw_iload_n rfl rfl ?_
  refine jw_iconst rfl ?_
  refine jw_iushr rfl ?_
  refine jw_iadd rfl ?_
  refine jw_ldc_w rfl ?_
  refine jw_iand rfl ?_
  refine jw_istore_n (ls' := [some (.int (Int32.ofInt (jz_and (((jz_and (v0 - (jz_and (jz_ushr v0 1) 1431655765)) 858993459) + (jz_and (jz_ushr (v0 - (jz_and (jz_ushr v0 1) 1431655765)) 2) 858993459)) + (jz_ushr ((jz_and (v0 - (jz_and (jz_ushr v0 1) 1431655765)) 858993459) + (jz_and (jz_ushr (v0 - (jz_and (jz_ushr v0 1) 1431655765)) 2) 858993459)) 4)) 252645135)))]) rfl rfl ?_
  refine jw_iload_n rfl rfl ?_
  refine jw_iload_n rfl rfl ?_
  refine jw_bipush rfl (by decide) ?_
  refine jw_iushr rfl ?_
  refine jw_iadd rfl ?_
  refine jw_istore_n (ls' := [some (.int (Int32.ofInt ((jz_and (((jz_and (v0 - (jz_and (jz_ushr v0 1) 1431655765)) 858993459) + (jz_and (jz_ushr (v0 - (jz_and (jz_ushr v0 1) 1431655765)) 2) 858993459)) + (jz_ushr ((jz_and (v0 - (jz_and (jz_ushr v0 1) 1431655765)) 858993459) + (jz_and (jz_ushr (v0 - (jz_and (jz_ushr v0 1) 1431655765)) 2) 858993459)) 4)) 252645135) + (jz_ushr (jz_and (((jz_and (v0 - (jz_and (jz_ushr v0 1) 1431655765)) 858993459) + (jz_and (jz_ushr (v0 - (jz_and (jz_ushr v0 1) 1431655765)) 2) 858993459)) + (jz_ushr ((jz_and (v0 - (jz_and (jz_ushr v0 1) 1431655765)) 858993459) + (jz_and (jz_ushr (v0 - (jz_and (jz_ushr v0 1) 1431655765)) 2) 858993459)) 4)) 252645135) 8))))]) rfl rfl ?_
  refine jw_iload_n rfl rfl ?_
  refine jw_iload_n rfl rfl ?_
  refine jw_bipush rfl (by decide) ?_
  refine jw_iushr rfl ?_
  refine jw_iadd rfl ?_
  refine jw_istore_n (ls' := [some (.int (Int32.ofInt (((jz_and (((jz_and (v0 - (jz_and (jz_ushr v0 1) 1431655765)) 858993459) + (jz_and (jz_ushr (v0 - (jz_and (jz_ushr v0 1) 1431655765)) 2) 858993459)) + (jz_ushr ((jz_and (v0 - (jz_and (jz_ushr v0 1) 1431655765)) 858993459) + (jz_and (jz_ushr (v0 - (jz_and (jz_ushr v0 1) 1431655765)) 2) 858993459)) 4)) 252645135) + (jz_ushr (jz_and (((jz_and (v0 - (jz_and (jz_ushr v0 1) 1431655765)) 858993459) + (jz_and (jz_ushr (v0 - (jz_and (jz_ushr v0 1) 1431655765)) 2) 858993459)) + (jz_ushr ((jz_and (v0 - (jz_and (jz_ushr v0 1) 1431655765)) 858993459) + (jz_and (jz_ushr (v0 - (jz_and (jz_ushr v0 1) 1431655765)) 2) 858993459)) 4)) 252645135) 8)) + (jz_ushr ((jz_and (((jz_and (v0 - (jz_and (jz_ushr v0 1) 1431655765)) 858993459) + (jz_and (jz_ushr (v0 - (jz_and (jz_ushr v0 1) 1431655765)) 2) 858993459)) + (jz_ushr ((jz_and (v0 - (jz_and (jz_ushr v0 1) 1431655765)) 858993459) + (jz_and (jz_ushr (v0 - (jz_and (jz_ushr v0 1) 1431655765)) 2) 858993459)) 4)) 252645135) + (jz_ushr (jz_and (((jz_and (v0 - (jz_and (jz_ushr v0 1) 1431655765)) 858993459) + (jz_and (jz_ushr (v0 - (jz_and (jz_ushr v0 1) 1431655765)) 2) 858993459)) + (jz_ushr ((jz_and (v0 - (jz_and (jz_ushr v0 1) 1431655765)) 858993459) + (jz_and (jz_ushr (v0 - (jz_and (jz_ushr v0 1) 1431655765)) 2) 858993459)) 4)) 252645135) 8)) 16))))]) rfl rfl ?_
  refine jw_iload_n rfl rfl ?_
  refine jw_bipush rfl (by decide) ?_
  refine jw_iand rfl ?_
  refine jw_iret rfl ?_
  exact h
set_option maxHeartbeats 4000000 in
theorem e_165 {xs : Nat → Int32} {L d : Nat} {v0 : Nat} {J K : jZ} {P : Int → jZ → jZ → Prop} (hk0 : jz_kd v0 = 18) (h : l_165_4 xs L d v0 0 0 J K P) : q_165 xs L (d + 1) v0 J K P := by
  unfold q_165
  refine jq_in (ls := [some (.ref v0), none, none]) rfl (Nat.le_of_ble_eq_true rfl) rfl ?_
  refine jw_iconst rfl ?_
  refine jw_istore_n (ls' := [some (.ref v0), some (.int (Int32.ofInt 0)), none]) rfl rfl ?_
  refine jw_iconst rfl ?_
  refine jw_istore_n (ls' := [some (.ref v0), some (.int (Int32.ofInt 0)), some (.int (Int32.ofInt 0))]) rfl rfl ?_
  exact jz_fg (l := [some (.ref v0), some (.int (Int32.ofInt 0)), some (.int (Int32.ofInt 0))]) ⟨rfl, rfl, rfl, trivial⟩ h
set_option maxHeartbeats 4000000 in
theorem e_165_4 {xs : Nat → Int32} {L d : Nat} {v0 : Nat} {v1 : Int} {v2 : Int} {J K : jZ} {P : Int → jZ → jZ → Prop} (hk0 : jz_kd v0 = 18) (h : (-2147483648 ≤ v2 ∧ v2 < 2147483648) ∧ (16 ≤ v2 → P v1 J K) ∧ (v2 < 16 → ((0 : Int) ≤ v2 ∧ v2 < 16) ∧ q_164 xs L d (J (v0 + 3) v2.toNat) J K (fun r6 J4 K5 => l_165_4 xs L d v0 (v1 + r6) (v2 + 1) J4 K5 P))) : l_165_4 xs L d v0 v1 v2 J K P := by
  unfold l_165_4
  refine jw_iload_n rfl rfl ?_
  refine jw_bipush rfl (by decide) ?_
  obtain ⟨o1, h⟩ := h
  refine jw_ic_ge rfl o1 (by omega) (fun c2 => ?_) (fun c2 => ?_)
  · replace h := h.1 c2
    refine jw_iload_n rfl rfl ?_
    refine jw_iret rfl ?_
    exact h
  · replace h := h.2 c2
    refine jw_iload_n rfl rfl ?_
    refine jw_aload_n rfl rfl ?_
    refine jw_gr (q := (v0 + 3)) rfl hk0 (jzr_18_3 hk0) ?_
    refine jw_iload_n rfl rfl ?_
    obtain ⟨o3, h⟩ := h
    refine jw_iald (v := (J (v0 + 3) v2.toNat)) (N := 16) rfl (jzk_18_3 hk0) (jzn_18_3 hk0) (by omega) o3 rfl ?_
    refine jw_stat (k := 1) (as := [.int (Int32.ofInt (J (v0 + 3) v2.toNat))]) rfl (by decide) rfl rfl (Nat.le_of_ble_eq_true rfl) rfl (Nat.le_of_ble_eq_true rfl) (jz_ci ?_)
    refine jm_Q.mono h (jp_i_mono (fun r6 J4 K5 h => ?_))
    refine jw_iadd rfl ?_
    refine jw_istore_n (ls' := [some (.ref v0), some (.int (Int32.ofInt (v1 + r6))), some (.int (Int32.ofInt v2))]) rfl rfl ?_
    refine jw_iinc (ls' := [some (.ref v0), some (.int (Int32.ofInt (v1 + r6))), some (.int (Int32.ofInt (v2 + 1)))]) rfl rfl rfl ?_
    refine jw_goto rfl ?_
    exact jz_fg (l := [some (.ref v0), some (.int (Int32.ofInt (v1 + r6))), some (.int (Int32.ofInt (v2 + 1)))]) ⟨rfl, rfl, rfl, trivial⟩ h
set_option maxHeartbeats 4000000 in
theorem e_166 {xs : Nat → Int32} {L d : Nat} {J K : jZ} {P : Int → jZ → jZ → Prop} (h : l_166_4 xs L d 0 0 J K P) : q_166 xs L (d + 1) J K P := by
  unfold q_166
  refine jq_in (ls := [some (.ref 0), none, none]) rfl (Nat.le_of_ble_eq_true rfl) rfl ?_
  refine jw_iconst rfl ?_
  refine jw_istore_n (ls' := [some (.ref 0), some (.int (Int32.ofInt 0)), none]) rfl rfl ?_
  refine jw_iconst rfl ?_
  refine jw_istore_n (ls' := [some (.ref 0), some (.int (Int32.ofInt 0)), some (.int (Int32.ofInt 0))]) rfl rfl ?_
  exact jz_fg (l := [some (.ref 0), some (.int (Int32.ofInt 0)), some (.int (Int32.ofInt 0))]) ⟨rfl, rfl, rfl, trivial⟩ h
set_option maxHeartbeats 4000000 in
theorem e_166_4 {xs : Nat → Int32} {L d : Nat} {v1 : Int} {v2 : Int} {J K : jZ} {P : Int → jZ → jZ → Prop} (h : (-2147483648 ≤ v2 ∧ v2 < 2147483648) ∧ (8 ≤ v2 → P v1 J K) ∧ (v2 < 8 → ((0 : Int) ≤ v2 ∧ v2 < 8) ∧ (-2147483648 ≤ J (151 + 2 * v2.toNat) 2 ∧ J (151 + 2 * v2.toNat) 2 < 2147483648) ∧ (¬ (J (151 + 2 * v2.toNat) 2) = (-1) → l_166_4 xs L d (v1 + 1) (v2 + 1) J K P) ∧ ((J (151 + 2 * v2.toNat) 2) = (-1) → l_166_4 xs L d (v1 + 0) (v2 + 1) J K P))) : l_166_4 xs L d v1 v2 J K P := by
  unfold l_166_4
  refine jw_iload_n rfl rfl ?_
  refine jw_bipush rfl (by decide) ?_
  obtain ⟨o1, h⟩ := h
  refine jw_ic_ge rfl o1 (by omega) (fun c2 => ?_) (fun c2 => ?_)
  · replace h := h.1 c2
    refine jw_iload_n rfl rfl ?_
    refine jw_iret rfl ?_
    exact h
  · replace h := h.2 c2
    refine jw_iload_n rfl rfl ?_
    refine jw_aload_n rfl rfl ?_
    refine jw_gr (q := 149) rfl rfl rfl ?_
    refine jw_iload_n rfl rfl ?_
    obtain ⟨o3, h⟩ := h
    refine jw_aald (k := 2) (q := (151 + 2 * v2.toNat)) (N := 8) rfl rfl (by omega) rfl (by omega) o3 (jzr_149 o3) ?_
    refine jw_gf (v := (J (151 + 2 * v2.toNat) 2)) rfl (by decide) (jze_149 o3) rfl ?_
    refine jw_iconst rfl ?_
    obtain ⟨o4, h⟩ := h
    refine jw_ic_ne rfl o4 (by omega) (fun c5 => ?_) (fun c5 => ?_)
    · replace h := h.1 c5
      refine jw_iconst rfl ?_
      refine jw_iadd rfl ?_
      refine jw_istore_n (ls' := [some (.ref 0), some (.int (Int32.ofInt (v1 + 1))), some (.int (Int32.ofInt v2))]) rfl rfl ?_
      refine jw_iinc (ls' := [some (.ref 0), some (.int (Int32.ofInt (v1 + 1))), some (.int (Int32.ofInt (v2 + 1)))]) rfl rfl rfl ?_
      refine jw_goto rfl ?_
      exact jz_fg (l := [some (.ref 0), some (.int (Int32.ofInt (v1 + 1))), some (.int (Int32.ofInt (v2 + 1)))]) ⟨rfl, rfl, rfl, trivial⟩ h
    · replace h := h.2 c5
      refine jw_iconst rfl ?_
      refine jw_goto rfl ?_
      refine jw_iadd rfl ?_
      refine jw_istore_n (ls' := [some (.ref 0), some (.int (Int32.ofInt (v1 + 0))), some (.int (Int32.ofInt v2))]) rfl rfl ?_
      refine jw_iinc (ls' := [some (.ref 0), some (.int (Int32.ofInt (v1 + 0))), some (.int (Int32.ofInt (v2 + 1)))]) rfl rfl rfl ?_
      refine jw_goto rfl ?_
      exact jz_fg (l := [some (.ref 0), some (.int (Int32.ofInt (v1 + 0))), some (.int (Int32.ofInt (v2 + 1)))]) ⟨rfl, rfl, rfl, trivial⟩ h
