/-! The methods of the class walked (1). -/
set_option maxHeartbeats 4000000 in
theorem e_12 {xs : Nat → Int32} {L d : Nat} {v0 : Int} {J K : jZ} {P : Int → jZ → jZ → Prop} (h : (-2147483648 ≤ v0 ∧ v0 < 2147483648) ∧ (v0 < 0 → P 0 J K) ∧ (0 ≤ v0 → (8 ≤ v0 → P 0 J K) ∧ (v0 < 8 → P 1 J K))) : q_12 xs L (d + 1) v0 J K P := by
  unfold q_12
  refine jq_in (ls := [some (.int (Int32.ofInt v0))]) rfl (Nat.le_of_ble_eq_true rfl) rfl ?_
  refine jw_iload_n rfl rfl ?_
  obtain ⟨o1, h⟩ := h
  refine jw_if_lt rfl o1 (fun c2 => ?_) (fun c2 => ?_)
  · replace h := h.1 c2
    refine jw_iconst rfl ?_
    refine jw_zret rfl (by omega) ?_
    exact h
  · replace h := h.2 c2
    refine jw_iload_n rfl rfl ?_
    refine jw_bipush rfl (by decide) ?_
    refine jw_ic_ge rfl o1 (by omega) (fun c3 => ?_) (fun c3 => ?_)
    · replace h := h.1 c3
      refine jw_iconst rfl ?_
      refine jw_zret rfl (by omega) ?_
      exact h
    · replace h := h.2 c3
      refine jw_iconst rfl ?_
      refine jw_goto rfl ?_
      refine jw_zret rfl (by omega) ?_
      exact h
set_option maxHeartbeats 4000000 in
theorem sb_12 {xs : Nat → Int32} {L d : Nat} {v0 : Int} {J K : jZ} {P : Int → jZ → jZ → Prop} (o0 : -2147483648 ≤ v0 ∧ v0 < 2147483648) (h1 : ((0 : Int) ≤ v0 ∧ v0 < 8) → P 1 J K) (h0 : ¬ ((0 : Int) ≤ v0 ∧ v0 < 8) → P 0 J K) : q_12 xs L (d + 1) v0 J K P := by
  refine e_12 ?_
  repeat' (first | exact h1 (by omega) | exact h0 (by omega) | refine ⟨by omega, ?_⟩ | refine ⟨fun _ => ?_, fun _ => ?_⟩)
set_option maxHeartbeats 4000000 in
theorem e_11 {xs : Nat → Int32} {L d : Nat} {v1 : Int} {v2 : Int} {v3 : Int} {J K : jZ} {P : Int → jZ → jZ → Prop} (h : (-2147483648 ≤ v1 ∧ v1 < 2147483648) ∧ (((0 : Int) ≤ v1 ∧ v1 < 8) → (-2147483648 ≤ v2 ∧ v2 < 2147483648) ∧ (v2 < 0 → q_13 xs L (d + 1) (-2) J K (fun r7 J5 K6 => P r7 J5 K6)) ∧ (0 ≤ v2 → (4 < v2 → q_13 xs L (d + 1) (-2) J K (fun r11 J9 K10 => P r11 J9 K10)) ∧ (v2 ≤ 4 → (-2147483648 ≤ v3 ∧ v3 < 2147483648) ∧ (v3 < 0 → q_13 xs L (d + 1) (-2) J K (fun r16 J14 K15 => P r16 J14 K15)) ∧ (0 ≤ v3 → (v3 ≤ 40 → q_14 xs L (d + 1) (151 + 2 * v1.toNat) v2 v3 J K (fun J18 K19 => P 1 J18 K19)) ∧ (40 < v3 → q_13 xs L (d + 1) (-2) J K (fun r22 J20 K21 => P r22 J20 K21)))))) ∧ (¬ ((0 : Int) ≤ v1 ∧ v1 < 8) → q_13 xs L (d + 1) (-2) J K (fun r25 J23 K24 => P r25 J23 K24))) : q_11 xs L (d + 2) v1 v2 v3 J K P := by
  unfold q_11
  refine jq_in (ls := [some (.ref 0), some (.int (Int32.ofInt v1)), some (.int (Int32.ofInt v2)), some (.int (Int32.ofInt v3))]) rfl (Nat.le_of_ble_eq_true rfl) rfl ?_
  refine jw_iload_n rfl rfl ?_
  refine jw_stat (k := 1) (as := [.int (Int32.ofInt v1)]) rfl (by decide) rfl rfl (Nat.le_of_ble_eq_true rfl) rfl (Nat.le_of_ble_eq_true rfl) (jz_ci ?_)
  obtain ⟨o1, h⟩ := h
  refine sb_12 o1 (fun c2 => ?_) (fun c2 => ?_)
  · replace h := h.1 c2
    refine jw_if_eq rfl (by omega) (fun hc => by exfalso; omega) (fun _ => ?_)
    refine jw_iload_n rfl rfl ?_
    obtain ⟨o3, h⟩ := h
    refine jw_if_lt rfl o3 (fun c4 => ?_) (fun c4 => ?_)
    · replace h := h.1 c4
      refine jw_aload_n rfl rfl ?_
      refine jw_bipush rfl (by decide) ?_
      refine jw_virt (k := 1) (c := 18) (as := [.int (Int32.ofInt (-2))]) rfl rfl rfl (Nat.le_of_ble_eq_true rfl) rfl (Nat.le_of_ble_eq_true rfl) rfl rfl (jz_ci ?_)
      refine jm_Q.mono h (jp_i_mono (fun r7 J5 K6 h => ?_))
      refine jw_iret rfl ?_
      exact h
    · replace h := h.2 c4
      refine jw_iload_n rfl rfl ?_
      refine jw_iconst rfl ?_
      refine jw_ic_gt rfl o3 (by omega) (fun c8 => ?_) (fun c8 => ?_)
      · replace h := h.1 c8
        refine jw_aload_n rfl rfl ?_
        refine jw_bipush rfl (by decide) ?_
        refine jw_virt (k := 1) (c := 18) (as := [.int (Int32.ofInt (-2))]) rfl rfl rfl (Nat.le_of_ble_eq_true rfl) rfl (Nat.le_of_ble_eq_true rfl) rfl rfl (jz_ci ?_)
        refine jm_Q.mono h (jp_i_mono (fun r11 J9 K10 h => ?_))
        refine jw_iret rfl ?_
        exact h
      · replace h := h.2 c8
        refine jw_iload_n rfl rfl ?_
        obtain ⟨o12, h⟩ := h
        refine jw_if_lt rfl o12 (fun c13 => ?_) (fun c13 => ?_)
        · replace h := h.1 c13
          refine jw_aload_n rfl rfl ?_
          refine jw_bipush rfl (by decide) ?_
          refine jw_virt (k := 1) (c := 18) (as := [.int (Int32.ofInt (-2))]) rfl rfl rfl (Nat.le_of_ble_eq_true rfl) rfl (Nat.le_of_ble_eq_true rfl) rfl rfl (jz_ci ?_)
          refine jm_Q.mono h (jp_i_mono (fun r16 J14 K15 h => ?_))
          refine jw_iret rfl ?_
          exact h
        · replace h := h.2 c13
          refine jw_iload_n rfl rfl ?_
          refine jw_bipush rfl (by decide) ?_
          refine jw_ic_le rfl o12 (by omega) (fun c17 => ?_) (fun c17 => ?_)
          · replace h := h.1 c17
            refine jw_aload_n rfl rfl ?_
            refine jw_gr (q := 149) rfl rfl rfl ?_
            refine jw_iload_n rfl rfl ?_
            refine jw_aald (k := 2) (q := (151 + 2 * v1.toNat)) (N := 8) rfl rfl (by omega) rfl (by omega) c2 (jzr_149 c2) ?_
            refine jw_iload_n rfl rfl ?_
            refine jw_iload_n rfl rfl ?_
            refine jw_virt (k := 2) (c := 14) (as := [.int (Int32.ofInt v2), .int (Int32.ofInt v3)]) rfl rfl rfl (Nat.le_of_ble_eq_true rfl) rfl (Nat.le_of_ble_eq_true rfl) (jze_149 c2) rfl (jz_cv ?_)
            refine jm_Q.mono h (jp_v_mono (fun J18 K19 h => ?_))
            refine jw_iconst rfl ?_
            refine jw_iret rfl ?_
            exact h
          · replace h := h.2 c17
            refine jw_aload_n rfl rfl ?_
            refine jw_bipush rfl (by decide) ?_
            refine jw_virt (k := 1) (c := 18) (as := [.int (Int32.ofInt (-2))]) rfl rfl rfl (Nat.le_of_ble_eq_true rfl) rfl (Nat.le_of_ble_eq_true rfl) rfl rfl (jz_ci ?_)
            refine jm_Q.mono h (jp_i_mono (fun r22 J20 K21 h => ?_))
            refine jw_iret rfl ?_
            exact h
  · replace h := h.2 c2
    refine jw_if_eq rfl (by omega) (fun _ => ?_) (fun hc => by exfalso; omega)
    refine jw_aload_n rfl rfl ?_
    refine jw_bipush rfl (by decide) ?_
    refine jw_virt (k := 1) (c := 18) (as := [.int (Int32.ofInt (-2))]) rfl rfl rfl (Nat.le_of_ble_eq_true rfl) rfl (Nat.le_of_ble_eq_true rfl) rfl rfl (jz_ci ?_)
    refine jm_Q.mono h (jp_i_mono (fun r25 J23 K24 h => ?_))
    refine jw_iret rfl ?_
    exact h
set_option maxHeartbeats 4000000 in
theorem e_13 {xs : Nat → Int32} {L d : Nat} {v1 : Int} {J K : jZ} {P : Int → jZ → jZ → Prop} (h : (-2147483648 ≤ ((-2) - v1) ∧ ((-2) - v1) < 2147483648) ∧ (((-2) - v1) < 0 → P v1 J K) ∧ (0 ≤ ((-2) - v1) → (5 ≤ ((-2) - v1) → P v1 J K) ∧ (((-2) - v1) < 5 → ((0 : Int) ≤ ((-2) - v1) ∧ ((-2) - v1) < 5) ∧ P v1 (jm_up J 150 ((-2) - v1).toNat ((J 150 ((-2) - v1).toNat) + 1)) K))) : q_13 xs L (d + 1) v1 J K P := by
  unfold q_13
  refine jq_in (ls := [some (.ref 0), some (.int (Int32.ofInt v1)), none]) rfl (Nat.le_of_ble_eq_true rfl) rfl ?_
  refine jw_bipush rfl (by decide) ?_
  refine jw_iload_n rfl rfl ?_
  refine jw_isub rfl ?_
  refine jw_istore_n (ls' := [some (.ref 0), some (.int (Int32.ofInt v1)), some (.int (Int32.ofInt ((-2) - v1)))]) rfl rfl ?_
  refine jw_iload_n rfl rfl ?_
  obtain ⟨o1, h⟩ := h
  refine jw_if_lt rfl o1 (fun c2 => ?_) (fun c2 => ?_)
  · replace h := h.1 c2
    refine jw_iload_n rfl rfl ?_
    refine jw_iret rfl ?_
    exact h
  · replace h := h.2 c2
    refine jw_iload_n rfl rfl ?_
    refine jw_iconst rfl ?_
    refine jw_ic_ge rfl o1 (by omega) (fun c3 => ?_) (fun c3 => ?_)
    · replace h := h.1 c3
      refine jw_iload_n rfl rfl ?_
      refine jw_iret rfl ?_
      exact h
    · replace h := h.2 c3
      refine jw_aload_n rfl rfl ?_
      refine jw_gr (q := 150) rfl rfl rfl ?_
      refine jw_iload_n rfl rfl ?_
      refine jw_dup2 rfl ?_
      obtain ⟨o4, h⟩ := h
      refine jw_iald (v := (J 150 ((-2) - v1).toNat)) (N := 5) rfl rfl rfl (by omega) o4 rfl ?_
      refine jw_iconst rfl ?_
      refine jw_iadd rfl ?_
      refine jw_iast (N := 5) rfl rfl rfl (by omega) o4 ?_
      refine jw_iload_n rfl rfl ?_
      refine jw_iret rfl ?_
      exact h
set_option maxHeartbeats 4000000 in
theorem e_14 {xs : Nat → Int32} {L d : Nat} {v0 : Nat} {v1 : Int} {v2 : Int} {J K : jZ} {P : jZ → jZ → Prop} (hk0 : jz_kd v0 = 15) (h : q_15 xs L d (v0 + 1) 0 J K (fun J1 K2 => P (jm_up (jm_up J1 v0 1 v2) v0 2 v1) K2)) : q_14 xs L (d + 1) v0 v1 v2 J K P := by
  unfold q_14
  refine jq_in (ls := [some (.ref v0), some (.int (Int32.ofInt v1)), some (.int (Int32.ofInt v2))]) rfl (Nat.le_of_ble_eq_true rfl) rfl ?_
  refine jw_aload_n rfl rfl ?_
  refine jw_gr (q := (v0 + 1)) rfl hk0 (jzr_15_1 hk0) ?_
  refine jw_lconst (x := 0) rfl rfl ?_
  refine jw_stat (k := 2) (as := [.ref (v0 + 1), .long (Int64.ofInt 0)]) rfl (by decide) rfl rfl (Nat.le_of_ble_eq_true rfl) rfl (Nat.le_of_ble_eq_true rfl) (jz_cv ?_)
  refine jm_Q.mono h (jp_v_mono (fun J1 K2 h => ?_))
  refine jw_aload_n rfl rfl ?_
  refine jw_iload_n rfl rfl ?_
  refine jw_pf rfl hk0 ?_
  refine jw_aload_n rfl rfl ?_
  refine jw_iload_n rfl rfl ?_
  refine jw_pf rfl hk0 ?_
  refine jw_vret rfl ?_
  exact h
set_option maxHeartbeats 4000000 in
theorem e_15 {xs : Nat → Int32} {L d : Nat} {v0 : Nat} {v1 : Int} {n0 : Int} {J K : jZ} {P : jZ → jZ → Prop} (hk0 : jz_kd v0 = 2) (hl0 : (jz_ln v0 : Int) = n0) (hN0 : n0 ≤ 100000) (h : l_15_6 xs L d v0 v1 0 n0 J K P) : q_15 xs L (d + 1) v0 v1 J K P := by
  unfold q_15
  refine jq_in (ls := [some (.ref v0), some (.long (Int64.ofInt v1)), none, none, none]) rfl (Nat.le_of_ble_eq_true rfl) rfl ?_
  refine jw_iconst rfl ?_
  refine jw_istore_n (ls' := [some (.ref v0), some (.long (Int64.ofInt v1)), none, some (.int (Int32.ofInt 0)), none]) rfl rfl ?_
  refine jw_aload_n rfl rfl ?_
  refine jw_alen (k := 1) (N := n0) rfl hk0 (by omega) hl0 ?_
  refine jw_istore (ls' := [some (.ref v0), some (.long (Int64.ofInt v1)), none, some (.int (Int32.ofInt 0)), some (.int (Int32.ofInt n0))]) rfl rfl ?_
  exact jz_fg (l := [some (.ref v0), some (.long (Int64.ofInt v1)), none, some (.int (Int32.ofInt 0)), some (.int (Int32.ofInt n0))]) ⟨rfl, rfl, jz_n0, rfl, rfl, trivial⟩ h
set_option maxHeartbeats 4000000 in
theorem e_15_6 {xs : Nat → Int32} {L d : Nat} {v0 : Nat} {v1 : Int} {v3 : Int} {v4 : Int} {n0 : Int} {J K : jZ} {P : jZ → jZ → Prop} (hk0 : jz_kd v0 = 2) (hl0 : (jz_ln v0 : Int) = n0) (hN0 : n0 ≤ 100000) (h : (-2147483648 ≤ v3 ∧ v3 < 2147483648) ∧ (-2147483648 ≤ v4 ∧ v4 < 2147483648) ∧ (v4 ≤ v3 → P J K) ∧ (v3 < v4 → ((0 : Int) ≤ v3 ∧ v3 < n0) ∧ l_15_6 xs L d v0 v1 (v3 + 1) v4 J (jm_up K v0 v3.toNat v1) P)) : l_15_6 xs L d v0 v1 v3 v4 J K P := by
  unfold l_15_6
  refine jw_iload_n rfl rfl ?_
  refine jw_iload rfl rfl ?_
  obtain ⟨o1, h⟩ := h
  obtain ⟨o2, h⟩ := h
  refine jw_ic_ge rfl o1 o2 (fun c3 => ?_) (fun c3 => ?_)
  · replace h := h.1 c3
    refine jw_vret rfl ?_
    exact h
  · replace h := h.2 c3
    refine jw_aload_n rfl rfl ?_
    refine jw_iload_n rfl rfl ?_
    refine jw_lload_n rfl rfl ?_
    obtain ⟨o4, h⟩ := h
    refine jw_last (N := n0) rfl hk0 hl0 (by omega) o4 ?_
    refine jw_iinc (ls' := [some (.ref v0), some (.long (Int64.ofInt v1)), none, some (.int (Int32.ofInt (v3 + 1))), some (.int (Int32.ofInt v4))]) rfl rfl rfl ?_
    refine jw_goto rfl ?_
    exact jz_fg (l := [some (.ref v0), some (.long (Int64.ofInt v1)), none, some (.int (Int32.ofInt (v3 + 1))), some (.int (Int32.ofInt v4))]) ⟨rfl, rfl, jz_n0, rfl, rfl, trivial⟩ h
set_option maxHeartbeats 4000000 in
theorem e_20 {xs : Nat → Int32} {L d : Nat} {v0 : Nat} {v1 : Int} {J K : jZ} {P : Int → jZ → jZ → Prop} (hk0 : jz_kd v0 = 15) (h : (-2147483648 ≤ v1 ∧ v1 < 2147483648) ∧ (v1 < 0 → P 0 J K) ∧ (0 ≤ v1 → (-2147483648 ≤ J v0 1 ∧ J v0 1 < 2147483648) ∧ ((J v0 1) ≤ v1 → P 0 J K) ∧ (v1 < (J v0 1) → P 1 J K))) : q_20 xs L (d + 1) v0 v1 J K P := by
  unfold q_20
  refine jq_in (ls := [some (.ref v0), some (.int (Int32.ofInt v1))]) rfl (Nat.le_of_ble_eq_true rfl) rfl ?_
  refine jw_iload_n rfl rfl ?_
  obtain ⟨o1, h⟩ := h
  refine jw_if_lt rfl o1 (fun c2 => ?_) (fun c2 => ?_)
  · replace h := h.1 c2
    refine jw_iconst rfl ?_
    refine jw_zret rfl (by omega) ?_
    exact h
  · replace h := h.2 c2
    refine jw_iload_n rfl rfl ?_
    refine jw_aload_n rfl rfl ?_
    refine jw_gf (v := (J v0 1)) rfl (by decide) hk0 rfl ?_
    obtain ⟨o3, h⟩ := h
    refine jw_ic_ge rfl o1 o3 (fun c4 => ?_) (fun c4 => ?_)
    · replace h := h.1 c4
      refine jw_iconst rfl ?_
      refine jw_zret rfl (by omega) ?_
      exact h
    · replace h := h.2 c4
      refine jw_iconst rfl ?_
      refine jw_goto rfl ?_
      refine jw_zret rfl (by omega) ?_
      exact h
set_option maxHeartbeats 4000000 in
theorem sb_20 {xs : Nat → Int32} {L d : Nat} {v0 : Nat} {v1 : Int} {J K : jZ} {P : Int → jZ → jZ → Prop} (hk0 : jz_kd v0 = 15) (o0 : -2147483648 ≤ v1 ∧ v1 < 2147483648) (o1 : -2147483648 ≤ J v0 1 ∧ J v0 1 < 2147483648) (h1 : ((0 : Int) ≤ v1 ∧ v1 < (J v0 1)) → P 1 J K) (h0 : ¬ ((0 : Int) ≤ v1 ∧ v1 < (J v0 1)) → P 0 J K) : q_20 xs L (d + 1) v0 v1 J K P := by
  refine e_20 hk0 ?_
  repeat' (first | exact h1 (by omega) | exact h0 (by omega) | refine ⟨by omega, ?_⟩ | refine ⟨fun _ => ?_, fun _ => ?_⟩)
set_option maxHeartbeats 4000000 in
theorem e_16 {xs : Nat → Int32} {L d : Nat} {v1 : Int} {v2 : Int} {v3 : Int} {J K : jZ} {P : Int → jZ → jZ → Prop} (h : q_17 xs L (d + 1) v1 0 J K (fun r3 J1 K2 => (-2147483648 ≤ r3 ∧ r3 < 2147483648) ∧ (r3 = 0 → ((0 : Int) ≤ v1 ∧ v1 < 8) ∧ (-2147483648 ≤ v2 ∧ v2 < 2147483648) ∧ (-2147483648 ≤ J1 (151 + 2 * v1.toNat) 1 ∧ J1 (151 + 2 * v1.toNat) 1 < 2147483648) ∧ (((0 : Int) ≤ v2 ∧ v2 < (J1 (151 + 2 * v1.toNat) 1)) → q_21 xs L (d + 1) (J1 (151 + 2 * v1.toNat) 2) v3 J1 K2 (fun r12 J10 K11 => ((0 : Int) ≤ v2 ∧ v2 < 40) ∧ P 1 J10 (jm_up K11 ((151 + 2 * v1.toNat) + 1) v2.toNat r12))) ∧ (¬ ((0 : Int) ≤ v2 ∧ v2 < (J1 (151 + 2 * v1.toNat) 1)) → q_13 xs L (d + 1) (-2) J1 K2 (fun r16 J14 K15 => P r16 J14 K15))) ∧ (¬ r3 = 0 → q_13 xs L (d + 1) r3 J1 K2 (fun r19 J17 K18 => P r19 J17 K18)))) : q_16 xs L (d + 2) v1 v2 v3 J K P := by
  unfold q_16
  refine jq_in (ls := [some (.ref 0), some (.int (Int32.ofInt v1)), some (.int (Int32.ofInt v2)), some (.long (Int64.ofInt v3)), none, none, none]) rfl (Nat.le_of_ble_eq_true rfl) rfl ?_
  refine jw_aload_n rfl rfl ?_
  refine jw_iload_n rfl rfl ?_
  refine jw_iconst rfl ?_
  refine jw_virt (k := 2) (c := 18) (as := [.int (Int32.ofInt v1), .int (Int32.ofInt 0)]) rfl rfl rfl (Nat.le_of_ble_eq_true rfl) rfl (Nat.le_of_ble_eq_true rfl) rfl rfl (jz_ci ?_)
  refine jm_Q.mono h (jp_i_mono (fun r3 J1 K2 h => ?_))
  refine jw_istore (ls' := [some (.ref 0), some (.int (Int32.ofInt v1)), some (.int (Int32.ofInt v2)), some (.long (Int64.ofInt v3)), none, some (.int (Int32.ofInt r3)), none]) rfl rfl ?_
  refine jw_iload rfl rfl ?_
  obtain ⟨o4, h⟩ := h
  refine jw_if_eq rfl o4 (fun c5 => ?_) (fun c5 => ?_)
  · replace h := h.1 c5
    refine jw_aload_n rfl rfl ?_
    refine jw_gr (q := 149) rfl rfl rfl ?_
    refine jw_iload_n rfl rfl ?_
    obtain ⟨o6, h⟩ := h
    refine jw_aald (k := 2) (q := (151 + 2 * v1.toNat)) (N := 8) rfl rfl (by omega) rfl (by omega) o6 (jzr_149 o6) ?_
    refine jw_astore (ls' := [some (.ref 0), some (.int (Int32.ofInt v1)), some (.int (Int32.ofInt v2)), some (.long (Int64.ofInt v3)), none, some (.int (Int32.ofInt r3)), some (.ref (151 + 2 * v1.toNat))]) rfl rfl ?_
    refine jw_aload rfl rfl ?_
    refine jw_iload_n rfl rfl ?_
    refine jw_virt (k := 1) (c := 14) (as := [.int (Int32.ofInt v2)]) rfl rfl rfl (Nat.le_of_ble_eq_true rfl) rfl (Nat.le_of_ble_eq_true rfl) (jze_149 o6) rfl (jz_ci ?_)
    obtain ⟨o7, h⟩ := h
    obtain ⟨o8, h⟩ := h
    refine sb_20 (jze_149 o6) o7 o8 (fun c9 => ?_) (fun c9 => ?_)
    · replace h := h.1 c9
      refine jw_if_ne rfl (by omega) (fun _ => ?_) (fun hc => by exfalso; omega)
      refine jw_aload rfl rfl ?_
      refine jw_gr (q := ((151 + 2 * v1.toNat) + 1)) rfl (jze_149 o6) (jzr_15_1 (jze_149 o6)) ?_
      refine jw_iload_n rfl rfl ?_
      refine jw_aload rfl rfl ?_
      refine jw_gf (v := (J1 (151 + 2 * v1.toNat) 2)) rfl (by decide) (jze_149 o6) rfl ?_
      refine jw_lload_n rfl rfl ?_
      refine jw_stat (k := 2) (as := [.int (Int32.ofInt (J1 (151 + 2 * v1.toNat) 2)), .long (Int64.ofInt v3)]) rfl (by decide) rfl rfl (Nat.le_of_ble_eq_true rfl) rfl (Nat.le_of_ble_eq_true rfl) (jz_cl ?_)
      refine jm_Q.mono h (jp_l_mono (fun r12 J10 K11 h => ?_))
      obtain ⟨o13, h⟩ := h
      refine jw_last (N := 40) rfl (jzk_15_1 (jze_149 o6)) (jzn_15_1 (jze_149 o6)) (by omega) o13 ?_
      refine jw_iconst rfl ?_
      refine jw_iret rfl ?_
      exact h
    · replace h := h.2 c9
      refine jw_if_ne rfl (by omega) (fun hc => by exfalso; omega) (fun _ => ?_)
      refine jw_aload_n rfl rfl ?_
      refine jw_bipush rfl (by decide) ?_
      refine jw_virt (k := 1) (c := 18) (as := [.int (Int32.ofInt (-2))]) rfl rfl rfl (Nat.le_of_ble_eq_true rfl) rfl (Nat.le_of_ble_eq_true rfl) rfl rfl (jz_ci ?_)
      refine jm_Q.mono h (jp_i_mono (fun r16 J14 K15 h => ?_))
      refine jw_iret rfl ?_
      exact h
  · replace h := h.2 c5
    refine jw_aload_n rfl rfl ?_
    refine jw_iload rfl rfl ?_
    refine jw_virt (k := 1) (c := 18) (as := [.int (Int32.ofInt r3)]) rfl rfl rfl (Nat.le_of_ble_eq_true rfl) rfl (Nat.le_of_ble_eq_true rfl) rfl rfl (jz_ci ?_)
    refine jm_Q.mono h (jp_i_mono (fun r19 J17 K18 h => ?_))
    refine jw_iret rfl ?_
    exact h
set_option maxHeartbeats 4000000 in
theorem e_18 {xs : Nat → Int32} {L d : Nat} {v0 : Nat} {J K : jZ} {P : Int → jZ → jZ → Prop} (hk0 : jz_kd v0 = 15) (h : (-2147483648 ≤ J v0 2 ∧ J v0 2 < 2147483648) ∧ ((J v0 2) < 10 → P 0 J K) ∧ (10 ≤ (J v0 2) → P 1 J K)) : q_18 xs L (d + 1) v0 J K P := by
  unfold q_18
  refine jq_in (ls := [some (.ref v0)]) rfl (Nat.le_of_ble_eq_true rfl) rfl ?_
  refine jw_aload_n rfl rfl ?_
  refine jw_gf (v := (J v0 2)) rfl (by decide) hk0 rfl ?_
  refine jw_bipush rfl (by decide) ?_
  obtain ⟨o1, h⟩ := h
  refine jw_ic_lt rfl o1 (by omega) (fun c2 => ?_) (fun c2 => ?_)
  · replace h := h.1 c2
    refine jw_iconst rfl ?_
    refine jw_zret rfl (by omega) ?_
    exact h
  · replace h := h.2 c2
    refine jw_iconst rfl ?_
    refine jw_goto rfl ?_
    refine jw_zret rfl (by omega) ?_
    exact h
set_option maxHeartbeats 4000000 in
theorem sb_18 {xs : Nat → Int32} {L d : Nat} {v0 : Nat} {J K : jZ} {P : Int → jZ → jZ → Prop} (hk0 : jz_kd v0 = 15) (o0 : -2147483648 ≤ J v0 2 ∧ J v0 2 < 2147483648) (h1 : (10 ≤ (J v0 2)) → P 1 J K) (h0 : ¬ (10 ≤ (J v0 2)) → P 0 J K) : q_18 xs L (d + 1) v0 J K P := by
  refine e_18 hk0 ?_
  repeat' (first | exact h1 (by omega) | exact h0 (by omega) | refine ⟨by omega, ?_⟩ | refine ⟨fun _ => ?_, fun _ => ?_⟩)
set_option maxHeartbeats 4000000 in
theorem e_19 {xs : Nat → Int32} {L d : Nat} {v0 : Nat} {J K : jZ} {P : Int → jZ → jZ → Prop} (hk0 : jz_kd v0 = 15) (h : (-2147483648 ≤ J v0 2 ∧ J v0 2 < 2147483648) ∧ ((J v0 2) < 0 → P 0 J K) ∧ (0 ≤ (J v0 2) → (4 < (J v0 2) → P 0 J K) ∧ ((J v0 2) ≤ 4 → P 1 J K))) : q_19 xs L (d + 1) v0 J K P := by
  unfold q_19
  refine jq_in (ls := [some (.ref v0)]) rfl (Nat.le_of_ble_eq_true rfl) rfl ?_
  refine jw_aload_n rfl rfl ?_
  refine jw_gf (v := (J v0 2)) rfl (by decide) hk0 rfl ?_
  obtain ⟨o1, h⟩ := h
  refine jw_if_lt rfl o1 (fun c2 => ?_) (fun c2 => ?_)
  · replace h := h.1 c2
    refine jw_iconst rfl ?_
    refine jw_zret rfl (by omega) ?_
    exact h
  · replace h := h.2 c2
    refine jw_aload_n rfl rfl ?_
    refine jw_gf (v := (J v0 2)) rfl (by decide) hk0 rfl ?_
    refine jw_iconst rfl ?_
    refine jw_ic_gt rfl o1 (by omega) (fun c3 => ?_) (fun c3 => ?_)
    · replace h := h.1 c3
      refine jw_iconst rfl ?_
      refine jw_zret rfl (by omega) ?_
      exact h
    · replace h := h.2 c3
      refine jw_iconst rfl ?_
      refine jw_goto rfl ?_
      refine jw_zret rfl (by omega) ?_
      exact h
set_option maxHeartbeats 4000000 in
theorem sb_19 {xs : Nat → Int32} {L d : Nat} {v0 : Nat} {J K : jZ} {P : Int → jZ → jZ → Prop} (hk0 : jz_kd v0 = 15) (o0 : -2147483648 ≤ J v0 2 ∧ J v0 2 < 2147483648) (h1 : ((0 : Int) ≤ (J v0 2) ∧ (J v0 2) ≤ 4) → P 1 J K) (h0 : ¬ ((0 : Int) ≤ (J v0 2) ∧ (J v0 2) ≤ 4) → P 0 J K) : q_19 xs L (d + 1) v0 J K P := by
  refine e_19 hk0 ?_
  repeat' (first | exact h1 (by omega) | exact h0 (by omega) | refine ⟨by omega, ?_⟩ | refine ⟨fun _ => ?_, fun _ => ?_⟩)
set_option maxHeartbeats 4000000 in
theorem e_17 {xs : Nat → Int32} {L d : Nat} {v1 : Int} {v2 : Int} {J K : jZ} {P : Int → jZ → jZ → Prop} (h : (-2147483648 ≤ v1 ∧ v1 < 2147483648) ∧ (((0 : Int) ≤ v1 ∧ v1 < 8) → (-2147483648 ≤ J (151 + 2 * v1.toNat) 2 ∧ J (151 + 2 * v1.toNat) 2 < 2147483648) ∧ ((10 ≤ (J (151 + 2 * v1.toNat) 2)) → P (-3) J K) ∧ (¬ (10 ≤ (J (151 + 2 * v1.toNat) 2)) → (((0 : Int) ≤ (J (151 + 2 * v1.toNat) 2) ∧ (J (151 + 2 * v1.toNat) 2) ≤ 4) → (-2147483648 ≤ J (151 + 2 * v1.toNat) 1 ∧ J (151 + 2 * v1.toNat) 1 < 2147483648) ∧ (-2147483648 ≤ v2 ∧ v2 < 2147483648) ∧ (v2 ≤ (J (151 + 2 * v1.toNat) 1) → P 0 J K) ∧ ((J (151 + 2 * v1.toNat) 1) < v2 → P (-2) J K)) ∧ (¬ ((0 : Int) ≤ (J (151 + 2 * v1.toNat) 2) ∧ (J (151 + 2 * v1.toNat) 2) ≤ 4) → P (-4) J K))) ∧ (¬ ((0 : Int) ≤ v1 ∧ v1 < 8) → P (-2) J K)) : q_17 xs L (d + 2) v1 v2 J K P := by
  unfold q_17
  refine jq_in (ls := [some (.ref 0), some (.int (Int32.ofInt v1)), some (.int (Int32.ofInt v2)), none]) rfl (Nat.le_of_ble_eq_true rfl) rfl ?_
  refine jw_iload_n rfl rfl ?_
  refine jw_stat (k := 1) (as := [.int (Int32.ofInt v1)]) rfl (by decide) rfl rfl (Nat.le_of_ble_eq_true rfl) rfl (Nat.le_of_ble_eq_true rfl) (jz_ci ?_)
  obtain ⟨o1, h⟩ := h
  refine sb_12 o1 (fun c2 => ?_) (fun c2 => ?_)
  · replace h := h.1 c2
    refine jw_if_ne rfl (by omega) (fun _ => ?_) (fun hc => by exfalso; omega)
    refine jw_aload_n rfl rfl ?_
    refine jw_gr (q := 149) rfl rfl rfl ?_
    refine jw_iload_n rfl rfl ?_
    refine jw_aald (k := 2) (q := (151 + 2 * v1.toNat)) (N := 8) rfl rfl (by omega) rfl (by omega) c2 (jzr_149 c2) ?_
    refine jw_astore_n (ls' := [some (.ref 0), some (.int (Int32.ofInt v1)), some (.int (Int32.ofInt v2)), some (.ref (151 + 2 * v1.toNat))]) rfl rfl ?_
    refine jw_aload_n rfl rfl ?_
    refine jw_virt (k := 0) (c := 14) (as := []) rfl rfl rfl (Nat.le_of_ble_eq_true rfl) rfl (Nat.le_of_ble_eq_true rfl) (jze_149 c2) rfl (jz_ci ?_)
    obtain ⟨o3, h⟩ := h
    refine sb_18 (jze_149 c2) o3 (fun c4 => ?_) (fun c4 => ?_)
    · replace h := h.1 c4
      refine jw_if_eq rfl (by omega) (fun hc => by exfalso; omega) (fun _ => ?_)
      refine jw_bipush rfl (by decide) ?_
      refine jw_iret rfl ?_
      exact h
    · replace h := h.2 c4
      refine jw_if_eq rfl (by omega) (fun _ => ?_) (fun hc => by exfalso; omega)
      refine jw_aload_n rfl rfl ?_
      refine jw_virt (k := 0) (c := 14) (as := []) rfl rfl rfl (Nat.le_of_ble_eq_true rfl) rfl (Nat.le_of_ble_eq_true rfl) (jze_149 c2) rfl (jz_ci ?_)
      refine sb_19 (jze_149 c2) o3 (fun c5 => ?_) (fun c5 => ?_)
      · replace h := h.1 c5
        refine jw_if_ne rfl (by omega) (fun _ => ?_) (fun hc => by exfalso; omega)
        refine jw_aload_n rfl rfl ?_
        refine jw_gf (v := (J (151 + 2 * v1.toNat) 1)) rfl (by decide) (jze_149 c2) rfl ?_
        refine jw_iload_n rfl rfl ?_
        obtain ⟨o6, h⟩ := h
        obtain ⟨o7, h⟩ := h
        refine jw_ic_ge rfl o6 o7 (fun c8 => ?_) (fun c8 => ?_)
        · replace h := h.1 c8
          refine jw_iconst rfl ?_
          refine jw_iret rfl ?_
          exact h
        · replace h := h.2 c8
          refine jw_bipush rfl (by decide) ?_
          refine jw_goto rfl ?_
          refine jw_iret rfl ?_
          exact h
      · replace h := h.2 c5
        refine jw_if_ne rfl (by omega) (fun hc => by exfalso; omega) (fun _ => ?_)
        refine jw_bipush rfl (by decide) ?_
        refine jw_iret rfl ?_
        exact h
  · replace h := h.2 c2
    refine jw_if_ne rfl (by omega) (fun hc => by exfalso; omega) (fun _ => ?_)
    refine jw_bipush rfl (by decide) ?_
    refine jw_iret rfl ?_
    exact h
set_option maxHeartbeats 4000000 in
theorem e_21 {xs : Nat → Int32} {L d : Nat} {v0 : Int} {v1 : Int} {J K : jZ} {P : Int → jZ → jZ → Prop} (h : (-2147483648 ≤ v0 ∧ v0 < 2147483648) ∧ (v0 = 0 → P (jz_b v1) J K) ∧ (¬ v0 = 0 → (v0 = 1 → P (jz_s v1) J K) ∧ (¬ v0 = 1 → (v0 = 2 → (-2147483648 ≤ v1 ∧ v1 < 2147483648) ∧ P v1 J K) ∧ (¬ v0 = 2 → (v0 = 3 → P v1 J K) ∧ (¬ v0 = 3 → (v0 = 4 → (-9223372036854775808 ≤ v1 ∧ v1 < 9223372036854775808) ∧ (¬ v1 = 0 → P 1 J K) ∧ (v1 = 0 → P 0 J K)) ∧ (¬ v0 = 4 → P v1 J K)))))) : q_21 xs L (d + 1) v0 v1 J K P := by
  unfold q_21
  refine jq_in (ls := [some (.int (Int32.ofInt v0)), some (.long (Int64.ofInt v1)), none]) rfl (Nat.le_of_ble_eq_true rfl) rfl ?_
  refine jw_iload_n rfl rfl ?_
  obtain ⟨o1, h⟩ := h
  by_cases c3 : v0 = 0
  · replace h := h.1 c3
    refine jw_tab_in (pc2 := 36) (v := 0) (o := 35) rfl o1 c3 (by omega) rfl (by omega) ?_
    refine jw_lload_n rfl rfl ?_
    refine jw_l2i rfl ?_
    refine jw_i2b rfl ?_
    refine jw_i2l rfl jz_b_r ?_
    refine jw_lret rfl ?_
    exact h
  · replace h := h.2 c3
    by_cases c4 : v0 = 1
    · replace h := h.1 c4
      refine jw_tab_in (pc2 := 41) (v := 1) (o := 40) rfl o1 c4 (by omega) rfl (by omega) ?_
      refine jw_lload_n rfl rfl ?_
      refine jw_l2i rfl ?_
      refine jw_i2s rfl ?_
      refine jw_i2l rfl jz_s_r ?_
      refine jw_lret rfl ?_
      exact h
    · replace h := h.2 c4
      by_cases c5 : v0 = 2
      · replace h := h.1 c5
        refine jw_tab_in (pc2 := 46) (v := 2) (o := 45) rfl o1 c5 (by omega) rfl (by omega) ?_
        refine jw_lload_n rfl rfl ?_
        refine jw_l2i rfl ?_
        obtain ⟨o6, h⟩ := h
        refine jw_i2l rfl o6 ?_
        refine jw_lret rfl ?_
        exact h
      · replace h := h.2 c5
        by_cases c7 : v0 = 3
        · replace h := h.1 c7
          refine jw_tab_in (pc2 := 62) (v := 3) (o := 61) rfl o1 c7 (by omega) rfl (by omega) ?_
          refine jw_lload_n rfl rfl ?_
          refine jw_lret rfl ?_
          exact h
        · replace h := h.2 c7
          by_cases c8 : v0 = 4
          · replace h := h.1 c8
            refine jw_tab_in (pc2 := 50) (v := 4) (o := 49) rfl o1 c8 (by omega) rfl (by omega) ?_
            refine jw_lload_n rfl rfl ?_
            refine jw_lconst (x := 0) rfl rfl ?_
            obtain ⟨o9, h⟩ := h
            refine jw_lc_ne rfl rfl o9 (by omega) (fun c10 => ?_) (fun c10 => ?_)
            · replace h := h.1 c10
              refine jw_lconst (x := 1) rfl rfl ?_
              refine jw_lret rfl ?_
              exact h
            · replace h := h.2 c10
              refine jw_lconst (x := 0) rfl rfl ?_
              refine jw_goto rfl ?_
              refine jw_lret rfl ?_
              exact h
          · replace h := h.2 c8
            refine jw_tab_out (pc2 := 62) rfl o1 (by omega) (by omega) ?_
            refine jw_lload_n rfl rfl ?_
            refine jw_lret rfl ?_
            exact h
set_option maxHeartbeats 4000000 in
theorem e_23 {xs : Nat → Int32} {L d : Nat} {v0 : Nat} {v1 : Int} {v2 : Int} {J K : jZ} {P : Int → jZ → jZ → Prop} (hk0 : jz_kd v0 = 15) (h : (-2147483648 ≤ v1 ∧ v1 < 2147483648) ∧ (v1 < 0 → P 0 J K) ∧ (0 ≤ v1 → (-2147483648 ≤ v2 ∧ v2 < 2147483648) ∧ (v2 < 0 → P 0 J K) ∧ (0 ≤ v2 → (-2147483648 ≤ J v0 1 ∧ J v0 1 < 2147483648) ∧ ((J v0 1) < v2 → P 0 J K) ∧ (v2 ≤ (J v0 1) → (-2147483648 ≤ ((J v0 1) - v2) ∧ ((J v0 1) - v2) < 2147483648) ∧ (((J v0 1) - v2) < v1 → P 0 J K) ∧ (v1 ≤ ((J v0 1) - v2) → P 1 J K))))) : q_23 xs L (d + 1) v0 v1 v2 J K P := by
  unfold q_23
  refine jq_in (ls := [some (.ref v0), some (.int (Int32.ofInt v1)), some (.int (Int32.ofInt v2))]) rfl (Nat.le_of_ble_eq_true rfl) rfl ?_
  refine jw_iload_n rfl rfl ?_
  obtain ⟨o1, h⟩ := h
  refine jw_if_lt rfl o1 (fun c2 => ?_) (fun c2 => ?_)
  · replace h := h.1 c2
    refine jw_iconst rfl ?_
    refine jw_zret rfl (by omega) ?_
    exact h
  · replace h := h.2 c2
    refine jw_iload_n rfl rfl ?_
    obtain ⟨o3, h⟩ := h
    refine jw_if_lt rfl o3 (fun c4 => ?_) (fun c4 => ?_)
    · replace h := h.1 c4
      refine jw_iconst rfl ?_
      refine jw_zret rfl (by omega) ?_
      exact h
    · replace h := h.2 c4
      refine jw_iload_n rfl rfl ?_
      refine jw_aload_n rfl rfl ?_
      refine jw_gf (v := (J v0 1)) rfl (by decide) hk0 rfl ?_
      obtain ⟨o5, h⟩ := h
      refine jw_ic_gt rfl o3 o5 (fun c6 => ?_) (fun c6 => ?_)
      · replace h := h.1 c6
        refine jw_iconst rfl ?_
        refine jw_zret rfl (by omega) ?_
        exact h
      · replace h := h.2 c6
        refine jw_iload_n rfl rfl ?_
        refine jw_aload_n rfl rfl ?_
        refine jw_gf (v := (J v0 1)) rfl (by decide) hk0 rfl ?_
        refine jw_iload_n rfl rfl ?_
        refine jw_isub rfl ?_
        obtain ⟨o7, h⟩ := h
        refine jw_ic_gt rfl o1 o7 (fun c8 => ?_) (fun c8 => ?_)
        · replace h := h.1 c8
          refine jw_iconst rfl ?_
          refine jw_zret rfl (by omega) ?_
          exact h
        · replace h := h.2 c8
          refine jw_iconst rfl ?_
          refine jw_goto rfl ?_
          refine jw_zret rfl (by omega) ?_
          exact h
set_option maxHeartbeats 4000000 in
theorem sb_23 {xs : Nat → Int32} {L d : Nat} {v0 : Nat} {v1 : Int} {v2 : Int} {J K : jZ} {P : Int → jZ → jZ → Prop} (hk0 : jz_kd v0 = 15) (o0 : -2147483648 ≤ v1 ∧ v1 < 2147483648) (o1 : -2147483648 ≤ v2 ∧ v2 < 2147483648) (o2 : -2147483648 ≤ J v0 1 ∧ J v0 1 < 2147483648) (o3 : -2147483648 ≤ ((J v0 1) - v2) ∧ ((J v0 1) - v2) < 2147483648) (h1 : ((0 : Int) ≤ v1 ∧ (0 : Int) ≤ v2 ∧ v2 ≤ (J v0 1) ∧ v1 ≤ (J v0 1) - v2) → P 1 J K) (h0 : ¬ ((0 : Int) ≤ v1 ∧ (0 : Int) ≤ v2 ∧ v2 ≤ (J v0 1) ∧ v1 ≤ (J v0 1) - v2) → P 0 J K) : q_23 xs L (d + 1) v0 v1 v2 J K P := by
  refine e_23 hk0 ?_
  repeat' (first | exact h1 (by omega) | exact h0 (by omega) | refine ⟨by omega, ?_⟩ | refine ⟨fun _ => ?_, fun _ => ?_⟩)
set_option maxHeartbeats 4000000 in
theorem e_27 {xs : Nat → Int32} {L d : Nat} {v0 : Nat} {v1 : Int} {J K : jZ} {P : Int → jZ → jZ → Prop} (hk0 : jz_kd v0 = 12) (h : (-2147483648 ≤ v1 ∧ v1 < 2147483648) ∧ (v1 < 0 → P 0 J K) ∧ (0 ≤ v1 → (-2147483648 ≤ J v0 1 ∧ J v0 1 < 2147483648) ∧ ((J v0 1) ≤ v1 → P 0 J K) ∧ (v1 < (J v0 1) → P 1 J K))) : q_27 xs L (d + 1) v0 v1 J K P := by
  unfold q_27
  refine jq_in (ls := [some (.ref v0), some (.int (Int32.ofInt v1))]) rfl (Nat.le_of_ble_eq_true rfl) rfl ?_
  refine jw_iload_n rfl rfl ?_
  obtain ⟨o1, h⟩ := h
  refine jw_if_lt rfl o1 (fun c2 => ?_) (fun c2 => ?_)
  · replace h := h.1 c2
    refine jw_iconst rfl ?_
    refine jw_zret rfl (by omega) ?_
    exact h
  · replace h := h.2 c2
    refine jw_iload_n rfl rfl ?_
    refine jw_aload_n rfl rfl ?_
    refine jw_gf (v := (J v0 1)) rfl (by decide) hk0 rfl ?_
    obtain ⟨o3, h⟩ := h
    refine jw_ic_ge rfl o1 o3 (fun c4 => ?_) (fun c4 => ?_)
    · replace h := h.1 c4
      refine jw_iconst rfl ?_
      refine jw_zret rfl (by omega) ?_
      exact h
    · replace h := h.2 c4
      refine jw_iconst rfl ?_
      refine jw_goto rfl ?_
      refine jw_zret rfl (by omega) ?_
      exact h
set_option maxHeartbeats 4000000 in
theorem sb_27 {xs : Nat → Int32} {L d : Nat} {v0 : Nat} {v1 : Int} {J K : jZ} {P : Int → jZ → jZ → Prop} (hk0 : jz_kd v0 = 12) (o0 : -2147483648 ≤ v1 ∧ v1 < 2147483648) (o1 : -2147483648 ≤ J v0 1 ∧ J v0 1 < 2147483648) (h1 : ((0 : Int) ≤ v1 ∧ v1 < (J v0 1)) → P 1 J K) (h0 : ¬ ((0 : Int) ≤ v1 ∧ v1 < (J v0 1)) → P 0 J K) : q_27 xs L (d + 1) v0 v1 J K P := by
  refine e_27 hk0 ?_
  repeat' (first | exact h1 (by omega) | exact h0 (by omega) | refine ⟨by omega, ?_⟩ | refine ⟨fun _ => ?_, fun _ => ?_⟩)
set_option maxHeartbeats 4000000 in
theorem e_30 {xs : Nat → Int32} {L d : Nat} {v0 : Int} {J K : jZ} {P : Int → jZ → jZ → Prop} (h : (-2147483648 ≤ v0 ∧ v0 < 2147483648) ∧ (v0 < 2 → P 0 J K) ∧ (2 ≤ v0 → (8 < v0 → P 0 J K) ∧ (v0 ≤ 8 → P 1 J K))) : q_30 xs L (d + 1) v0 J K P := by
  unfold q_30
  refine jq_in (ls := [some (.int (Int32.ofInt v0))]) rfl (Nat.le_of_ble_eq_true rfl) rfl ?_
  refine jw_iload_n rfl rfl ?_
  refine jw_iconst rfl ?_
  obtain ⟨o1, h⟩ := h
  refine jw_ic_lt rfl o1 (by omega) (fun c2 => ?_) (fun c2 => ?_)
  · replace h := h.1 c2
    refine jw_iconst rfl ?_
    refine jw_zret rfl (by omega) ?_
    exact h
  · replace h := h.2 c2
    refine jw_iload_n rfl rfl ?_
    refine jw_bipush rfl (by decide) ?_
    refine jw_ic_gt rfl o1 (by omega) (fun c3 => ?_) (fun c3 => ?_)
    · replace h := h.1 c3
      refine jw_iconst rfl ?_
      refine jw_zret rfl (by omega) ?_
      exact h
    · replace h := h.2 c3
      refine jw_iconst rfl ?_
      refine jw_goto rfl ?_
      refine jw_zret rfl (by omega) ?_
      exact h
set_option maxHeartbeats 4000000 in
theorem sb_30 {xs : Nat → Int32} {L d : Nat} {v0 : Int} {J K : jZ} {P : Int → jZ → jZ → Prop} (o0 : -2147483648 ≤ v0 ∧ v0 < 2147483648) (h1 : (2 ≤ v0 ∧ v0 ≤ 8) → P 1 J K) (h0 : ¬ (2 ≤ v0 ∧ v0 ≤ 8) → P 0 J K) : q_30 xs L (d + 1) v0 J K P := by
  refine e_30 ?_
  repeat' (first | exact h1 (by omega) | exact h0 (by omega) | refine ⟨by omega, ?_⟩ | refine ⟨fun _ => ?_, fun _ => ?_⟩)
set_option maxHeartbeats 4000000 in
theorem e_32 {xs : Nat → Int32} {L d : Nat} {v1 : Int} {J K : jZ} {P : Nat → jZ → jZ → Prop} (h : (-2147483648 ≤ v1 ∧ v1 < 2147483648) ∧ (-2147483648 ≤ J 9 1 ∧ J 9 1 < 2147483648) ∧ (((0 : Int) ≤ v1 ∧ v1 < (J 9 1)) → ((0 : Int) ≤ v1 ∧ v1 < 24) ∧ l_32_38 xs L (d + 1) v1 (jz_and (J (11 + v1.toNat) 10) (jz_xor (J 61 5) (-1))) 0 J K P) ∧ (¬ ((0 : Int) ≤ v1 ∧ v1 < (J 9 1)) → P 63 J K)) : q_32 xs L (d + 2) v1 J K P := by
  unfold q_32
  refine jq_in (ls := [some (.ref 61), some (.int (Int32.ofInt v1)), none, none]) rfl (Nat.le_of_ble_eq_true rfl) rfl ?_
  refine jw_aload_n rfl rfl ?_
  refine jw_gr (q := 9) rfl rfl rfl ?_
  refine jw_iload_n rfl rfl ?_
  refine jw_virt (k := 1) (c := 11) (as := [.int (Int32.ofInt v1)]) rfl rfl rfl (Nat.le_of_ble_eq_true rfl) rfl (Nat.le_of_ble_eq_true rfl) rfl rfl (jz_ci ?_)
  obtain ⟨o1, h⟩ := h
  obtain ⟨o2, h⟩ := h
  refine sb_27 rfl o1 o2 (fun c3 => ?_) (fun c3 => ?_)
  · replace h := h.1 c3
    refine jw_if_ne rfl (by omega) (fun _ => ?_) (fun hc => by exfalso; omega)
    refine jw_aload_n rfl rfl ?_
    refine jw_gr (q := 9) rfl rfl rfl ?_
    refine jw_gr (q := 10) rfl rfl rfl ?_
    refine jw_iload_n rfl rfl ?_
    obtain ⟨o4, h⟩ := h
    refine jw_aald (k := 3) (q := (11 + v1.toNat)) (N := 24) rfl rfl (by omega) rfl (by omega) o4 (jzr_10 o4) ?_
    refine jw_gf (v := (J (11 + v1.toNat) 10)) rfl (by decide) (jze_10 o4) rfl ?_
    refine jw_aload_n rfl rfl ?_
    refine jw_gf (v := (J 61 5)) rfl (by decide) rfl rfl ?_
    refine jw_iconst rfl ?_
    refine jw_ixor rfl ?_
    refine jw_iand rfl ?_
    refine jw_istore_n (ls' := [some (.ref 61), some (.int (Int32.ofInt v1)), some (.int (Int32.ofInt (jz_and (J (11 + v1.toNat) 10) (jz_xor (J 61 5) (-1))))), none]) rfl rfl ?_
    refine jw_iconst rfl ?_
    refine jw_istore_n (ls' := [some (.ref 61), some (.int (Int32.ofInt v1)), some (.int (Int32.ofInt (jz_and (J (11 + v1.toNat) 10) (jz_xor (J 61 5) (-1))))), some (.int (Int32.ofInt 0))]) rfl rfl ?_
    exact jz_fg (l := [some (.ref 61), some (.int (Int32.ofInt v1)), some (.int (Int32.ofInt (jz_and (J (11 + v1.toNat) 10) (jz_xor (J 61 5) (-1))))), some (.int (Int32.ofInt 0))]) ⟨rfl, rfl, rfl, rfl, trivial⟩ h
  · replace h := h.2 c3
    refine jw_if_ne rfl (by omega) (fun hc => by exfalso; omega) (fun _ => ?_)
    refine jw_aload_n rfl rfl ?_
    refine jw_gr (q := 63) rfl rfl rfl ?_
    refine jw_aret rfl ?_
    exact h
set_option maxHeartbeats 4000000 in
theorem e_32_38 {xs : Nat → Int32} {L d : Nat} {v1 : Int} {v2 : Int} {v3 : Int} {J K : jZ} {P : Nat → jZ → jZ → Prop} (h : (-2147483648 ≤ v3 ∧ v3 < 2147483648) ∧ (-2147483648 ≤ v1 ∧ v1 < 2147483648) ∧ (v1 < v3 → ((0 : Int) ≤ v1 ∧ v1 < 24) ∧ P (68 + 3 * v1.toNat) (jm_up J 61 5 (jz_or (J 61 5) v2)) K) ∧ (v3 ≤ v1 → ((jz_and (jz_shr v2 v3) 1) = 0 → l_32_38 xs L (d + 1) v1 v2 (v3 + 1) J K P) ∧ (¬ (jz_and (jz_shr v2 v3) 1) = 0 → q_33 xs L (d + 1) v3 J K (fun J6 K7 => l_32_38 xs L (d + 1) v1 v2 (v3 + 1) J6 K7 P)))) : l_32_38 xs L (d + 1) v1 v2 v3 J K P := by
  unfold l_32_38
  refine jw_iload_n rfl rfl ?_
  refine jw_iload_n rfl rfl ?_
  obtain ⟨o1, h⟩ := h
  obtain ⟨o2, h⟩ := h
  refine jw_ic_gt rfl o1 o2 (fun c3 => ?_) (fun c3 => ?_)
  · replace h := h.1 c3
    refine jw_aload_n rfl rfl ?_
    refine jw_dup_r rfl ?_
    refine jw_gf (v := (J 61 5)) rfl (by decide) rfl rfl ?_
    refine jw_iload_n rfl rfl ?_
    refine jw_ior rfl ?_
    refine jw_pf rfl rfl ?_
    refine jw_aload_n rfl rfl ?_
    refine jw_gr (q := 62) rfl rfl rfl ?_
    refine jw_iload_n rfl rfl ?_
    obtain ⟨o4, h⟩ := h
    refine jw_aald (k := 4) (q := (68 + 3 * v1.toNat)) (N := 24) rfl rfl (by omega) rfl (by omega) o4 (jzr_62 o4) ?_
    refine jw_aret rfl ?_
    exact h
  · replace h := h.2 c3
    refine jw_iload_n rfl rfl ?_
    refine jw_iload_n rfl rfl ?_
    refine jw_ishr rfl ?_
    refine jw_iconst rfl ?_
    refine jw_iand rfl ?_
    refine jw_if_eq rfl jz_and_r (fun c5 => ?_) (fun c5 => ?_)
    · replace h := h.1 c5
      refine jw_iinc (ls' := [some (.ref 61), some (.int (Int32.ofInt v1)), some (.int (Int32.ofInt v2)), some (.int (Int32.ofInt (v3 + 1)))]) rfl rfl rfl ?_
      refine jw_goto rfl ?_
      exact jz_fg (l := [some (.ref 61), some (.int (Int32.ofInt v1)), some (.int (Int32.ofInt v2)), some (.int (Int32.ofInt (v3 + 1)))]) ⟨rfl, rfl, rfl, rfl, trivial⟩ h
    · replace h := h.2 c5
      refine jw_aload_n rfl rfl ?_
      refine jw_iload_n rfl rfl ?_
      refine jw_virt (k := 1) (c := 13) (as := [.int (Int32.ofInt v3)]) rfl rfl rfl (Nat.le_of_ble_eq_true rfl) rfl (Nat.le_of_ble_eq_true rfl) rfl rfl (jz_cv ?_)
      refine jm_Q.mono h (jp_v_mono (fun J6 K7 h => ?_))
      refine jw_iinc (ls' := [some (.ref 61), some (.int (Int32.ofInt v1)), some (.int (Int32.ofInt v2)), some (.int (Int32.ofInt (v3 + 1)))]) rfl rfl rfl ?_
      refine jw_goto rfl ?_
      exact jz_fg (l := [some (.ref 61), some (.int (Int32.ofInt v1)), some (.int (Int32.ofInt v2)), some (.int (Int32.ofInt (v3 + 1)))]) ⟨rfl, rfl, rfl, rfl, trivial⟩ h
set_option maxHeartbeats 4000000 in
theorem e_33 {xs : Nat → Int32} {L d : Nat} {v1 : Int} {J K : jZ} {P : jZ → jZ → Prop} (h : ((0 : Int) ≤ v1 ∧ v1 < 24) ∧ (-2147483648 ≤ J (11 + v1.toNat) 0 ∧ J (11 + v1.toNat) 0 < 2147483648) ∧ ((J (11 + v1.toNat) 0) = 0 → q_34 xs L d (11 + v1.toNat) (68 + 3 * v1.toNat) J K (fun J4 K5 => P J4 K5)) ∧ (¬ (J (11 + v1.toNat) 0) = 0 → (¬ (J (11 + v1.toNat) 0) = 1 → (¬ (J (11 + v1.toNat) 0) = 9 → (¬ (J (11 + v1.toNat) 0) = 10 → (¬ (J (11 + v1.toNat) 0) = 11 → q_39 xs L d (J (11 + v1.toNat) 1) J K (fun r12 J10 K11 => (jz_kd r12 = 16) ∧ q_39 xs L d (J10 (11 + v1.toNat) 2) J10 K11 (fun r16 J14 K15 => (jz_kd r16 = 16) ∧ q_53 xs L d (J (11 + v1.toNat) 0) r12 r16 (68 + 3 * v1.toNat) J14 K15 (fun J18 K19 => P J18 K19)))) ∧ ((J (11 + v1.toNat) 0) = 11 → q_42 xs L d J K (fun J20 K21 => q_39 xs L d (J20 (11 + v1.toNat) 1) J20 K21 (fun r24 J22 K23 => (jz_kd r24 = 16) ∧ q_39 xs L d (J22 (11 + v1.toNat) 2) J22 K23 (fun r28 J26 K27 => (jz_kd r28 = 16) ∧ q_39 xs L d (J26 (11 + v1.toNat) 3) J26 K27 (fun r32 J30 K31 => (jz_kd r32 = 16) ∧ q_44 xs L d (J20 (11 + v1.toNat) 4) r24 r28 r32 J30 K31 (fun J34 K35 => q_52 xs L d (68 + 3 * v1.toNat) J34 K35 (fun J36 K37 => P J36 K37)))))))) ∧ ((J (11 + v1.toNat) 0) = 10 → q_39 xs L d (J (11 + v1.toNat) 1) J K (fun r40 J38 K39 => (jz_kd r40 = 16) ∧ q_40 xs L d r40 (J38 (11 + v1.toNat) 4) (68 + 3 * v1.toNat) J38 K39 (fun J42 K43 => P J42 K43)))) ∧ ((J (11 + v1.toNat) 0) = 9 → q_38 xs L d 1 (J (11 + v1.toNat) 4) (68 + 3 * v1.toNat) J K (fun J44 K45 => P J44 K45))) ∧ ((J (11 + v1.toNat) 0) = 1 → q_34 xs L d (11 + v1.toNat) (68 + 3 * v1.toNat) J K (fun J46 K47 => P J46 K47)))) : q_33 xs L (d + 1) v1 J K P := by
  unfold q_33
  refine jq_in (ls := [some (.ref 61), some (.int (Int32.ofInt v1)), none, none]) rfl (Nat.le_of_ble_eq_true rfl) rfl ?_
  refine jw_aload_n rfl rfl ?_
  refine jw_gr (q := 9) rfl rfl rfl ?_
  refine jw_gr (q := 10) rfl rfl rfl ?_
  refine jw_iload_n rfl rfl ?_
  obtain ⟨o1, h⟩ := h
  refine jw_aald (k := 3) (q := (11 + v1.toNat)) (N := 24) rfl rfl (by omega) rfl (by omega) o1 (jzr_10 o1) ?_
  refine jw_astore_n (ls' := [some (.ref 61), some (.int (Int32.ofInt v1)), some (.ref (11 + v1.toNat)), none]) rfl rfl ?_
  refine jw_aload_n rfl rfl ?_
  refine jw_gr (q := 62) rfl rfl rfl ?_
  refine jw_iload_n rfl rfl ?_
  refine jw_aald (k := 4) (q := (68 + 3 * v1.toNat)) (N := 24) rfl rfl (by omega) rfl (by omega) o1 (jzr_62 o1) ?_
  refine jw_astore_n (ls' := [some (.ref 61), some (.int (Int32.ofInt v1)), some (.ref (11 + v1.toNat)), some (.ref (68 + 3 * v1.toNat))]) rfl rfl ?_
  refine jw_aload_n rfl rfl ?_
  refine jw_gf (v := (J (11 + v1.toNat) 0)) rfl (by decide) (jze_10 o1) rfl ?_
  obtain ⟨o2, h⟩ := h
  refine jw_if_eq rfl o2 (fun c3 => ?_) (fun c3 => ?_)
  · replace h := h.1 c3
    refine jw_aload_n rfl rfl ?_
    refine jw_aload_n rfl rfl ?_
    refine jw_aload_n rfl rfl ?_
    refine jw_virt (k := 2) (c := 13) (as := [.ref (11 + v1.toNat), .ref (68 + 3 * v1.toNat)]) rfl rfl rfl (Nat.le_of_ble_eq_true rfl) rfl (Nat.le_of_ble_eq_true rfl) rfl rfl (jz_cv ?_)
    refine jm_Q.mono h (jp_v_mono (fun J4 K5 h => ?_))
    refine jw_goto rfl ?_
    refine jw_vret rfl ?_
    exact h
  · replace h := h.2 c3
    refine jw_aload_n rfl rfl ?_
    refine jw_gf (v := (J (11 + v1.toNat) 0)) rfl (by decide) (jze_10 o1) rfl ?_
    refine jw_iconst rfl ?_
    refine jw_ic_ne rfl o2 (by omega) (fun c6 => ?_) (fun c6 => ?_)
    · replace h := h.1 c6
      refine jw_aload_n rfl rfl ?_
      refine jw_gf (v := (J (11 + v1.toNat) 0)) rfl (by decide) (jze_10 o1) rfl ?_
      refine jw_bipush rfl (by decide) ?_
      refine jw_ic_ne rfl o2 (by omega) (fun c7 => ?_) (fun c7 => ?_)
      · replace h := h.1 c7
        refine jw_aload_n rfl rfl ?_
        refine jw_gf (v := (J (11 + v1.toNat) 0)) rfl (by decide) (jze_10 o1) rfl ?_
        refine jw_bipush rfl (by decide) ?_
        refine jw_ic_ne rfl o2 (by omega) (fun c8 => ?_) (fun c8 => ?_)
        · replace h := h.1 c8
          refine jw_aload_n rfl rfl ?_
          refine jw_gf (v := (J (11 + v1.toNat) 0)) rfl (by decide) (jze_10 o1) rfl ?_
          refine jw_bipush rfl (by decide) ?_
          refine jw_ic_ne rfl o2 (by omega) (fun c9 => ?_) (fun c9 => ?_)
          · replace h := h.1 c9
            refine jw_aload_n rfl rfl ?_
            refine jw_aload_n rfl rfl ?_
            refine jw_gf (v := (J (11 + v1.toNat) 0)) rfl (by decide) (jze_10 o1) rfl ?_
            refine jw_aload_n rfl rfl ?_
            refine jw_aload_n rfl rfl ?_
            refine jw_gf (v := (J (11 + v1.toNat) 1)) rfl (by decide) (jze_10 o1) rfl ?_
            refine jw_virt (k := 1) (c := 13) (as := [.int (Int32.ofInt (J (11 + v1.toNat) 1))]) rfl rfl rfl (Nat.le_of_ble_eq_true rfl) rfl (Nat.le_of_ble_eq_true rfl) rfl rfl (jz_cr ?_)
            refine jm_Q.mono h (jp_r_mono (fun r12 J10 K11 h => ?_))
            obtain ⟨o13, h⟩ := h
            refine jw_aload_n rfl rfl ?_
            refine jw_aload_n rfl rfl ?_
            refine jw_gf (v := (J10 (11 + v1.toNat) 2)) rfl (by decide) (jze_10 o1) rfl ?_
            refine jw_virt (k := 1) (c := 13) (as := [.int (Int32.ofInt (J10 (11 + v1.toNat) 2))]) rfl rfl rfl (Nat.le_of_ble_eq_true rfl) rfl (Nat.le_of_ble_eq_true rfl) rfl rfl (jz_cr ?_)
            refine jm_Q.mono h (jp_r_mono (fun r16 J14 K15 h => ?_))
            obtain ⟨o17, h⟩ := h
            refine jw_aload_n rfl rfl ?_
            refine jw_virt (k := 4) (c := 13) (as := [.int (Int32.ofInt (J (11 + v1.toNat) 0)), .ref r12, .ref r16, .ref (68 + 3 * v1.toNat)]) rfl rfl rfl (Nat.le_of_ble_eq_true rfl) rfl (Nat.le_of_ble_eq_true rfl) rfl rfl (jz_cv ?_)
            refine jm_Q.mono h (jp_v_mono (fun J18 K19 h => ?_))
            refine jw_vret rfl ?_
            exact h
          · replace h := h.2 c9
            refine jw_aload_n rfl rfl ?_
            refine jw_gr (q := 66) rfl rfl rfl ?_
            refine jw_virt (k := 0) (c := 12) (as := []) rfl rfl rfl (Nat.le_of_ble_eq_true rfl) rfl (Nat.le_of_ble_eq_true rfl) rfl rfl (jz_cv ?_)
            refine jm_Q.mono h (jp_v_mono (fun J20 K21 h => ?_))
            refine jw_aload_n rfl rfl ?_
            refine jw_aload_n rfl rfl ?_
            refine jw_gf (v := (J20 (11 + v1.toNat) 4)) rfl (by decide) (jze_10 o1) rfl ?_
            refine jw_aload_n rfl rfl ?_
            refine jw_aload_n rfl rfl ?_
            refine jw_gf (v := (J20 (11 + v1.toNat) 1)) rfl (by decide) (jze_10 o1) rfl ?_
            refine jw_virt (k := 1) (c := 13) (as := [.int (Int32.ofInt (J20 (11 + v1.toNat) 1))]) rfl rfl rfl (Nat.le_of_ble_eq_true rfl) rfl (Nat.le_of_ble_eq_true rfl) rfl rfl (jz_cr ?_)
            refine jm_Q.mono h (jp_r_mono (fun r24 J22 K23 h => ?_))
            obtain ⟨o25, h⟩ := h
            refine jw_aload_n rfl rfl ?_
            refine jw_aload_n rfl rfl ?_
            refine jw_gf (v := (J22 (11 + v1.toNat) 2)) rfl (by decide) (jze_10 o1) rfl ?_
            refine jw_virt (k := 1) (c := 13) (as := [.int (Int32.ofInt (J22 (11 + v1.toNat) 2))]) rfl rfl rfl (Nat.le_of_ble_eq_true rfl) rfl (Nat.le_of_ble_eq_true rfl) rfl rfl (jz_cr ?_)
            refine jm_Q.mono h (jp_r_mono (fun r28 J26 K27 h => ?_))
            obtain ⟨o29, h⟩ := h
            refine jw_aload_n rfl rfl ?_
            refine jw_aload_n rfl rfl ?_
            refine jw_gf (v := (J26 (11 + v1.toNat) 3)) rfl (by decide) (jze_10 o1) rfl ?_
            refine jw_virt (k := 1) (c := 13) (as := [.int (Int32.ofInt (J26 (11 + v1.toNat) 3))]) rfl rfl rfl (Nat.le_of_ble_eq_true rfl) rfl (Nat.le_of_ble_eq_true rfl) rfl rfl (jz_cr ?_)
            refine jm_Q.mono h (jp_r_mono (fun r32 J30 K31 h => ?_))
            obtain ⟨o33, h⟩ := h
            refine jw_virt (k := 4) (c := 13) (as := [.int (Int32.ofInt (J20 (11 + v1.toNat) 4)), .ref r24, .ref r28, .ref r32]) rfl rfl rfl (Nat.le_of_ble_eq_true rfl) rfl (Nat.le_of_ble_eq_true rfl) rfl rfl (jz_cv ?_)
            refine jm_Q.mono h (jp_v_mono (fun J34 K35 h => ?_))
            refine jw_aload_n rfl rfl ?_
            refine jw_gr (q := 66) rfl rfl rfl ?_
            refine jw_aload_n rfl rfl ?_
            refine jw_virt (k := 1) (c := 12) (as := [.ref (68 + 3 * v1.toNat)]) rfl rfl rfl (Nat.le_of_ble_eq_true rfl) rfl (Nat.le_of_ble_eq_true rfl) rfl rfl (jz_cv ?_)
            refine jm_Q.mono h (jp_v_mono (fun J36 K37 h => ?_))
            refine jw_goto rfl ?_
            refine jw_vret rfl ?_
            exact h
        · replace h := h.2 c8
          refine jw_aload_n rfl rfl ?_
          refine jw_aload_n rfl rfl ?_
          refine jw_aload_n rfl rfl ?_
          refine jw_gf (v := (J (11 + v1.toNat) 1)) rfl (by decide) (jze_10 o1) rfl ?_
          refine jw_virt (k := 1) (c := 13) (as := [.int (Int32.ofInt (J (11 + v1.toNat) 1))]) rfl rfl rfl (Nat.le_of_ble_eq_true rfl) rfl (Nat.le_of_ble_eq_true rfl) rfl rfl (jz_cr ?_)
          refine jm_Q.mono h (jp_r_mono (fun r40 J38 K39 h => ?_))
          obtain ⟨o41, h⟩ := h
          refine jw_aload_n rfl rfl ?_
          refine jw_gf (v := (J38 (11 + v1.toNat) 4)) rfl (by decide) (jze_10 o1) rfl ?_
          refine jw_aload_n rfl rfl ?_
          refine jw_virt (k := 3) (c := 13) (as := [.ref r40, .int (Int32.ofInt (J38 (11 + v1.toNat) 4)), .ref (68 + 3 * v1.toNat)]) rfl rfl rfl (Nat.le_of_ble_eq_true rfl) rfl (Nat.le_of_ble_eq_true rfl) rfl rfl (jz_cv ?_)
          refine jm_Q.mono h (jp_v_mono (fun J42 K43 h => ?_))
          refine jw_goto rfl ?_
          refine jw_vret rfl ?_
          exact h
      · replace h := h.2 c7
        refine jw_aload_n rfl rfl ?_
        refine jw_gr (q := 1) rfl rfl rfl ?_
        refine jw_aload_n rfl rfl ?_
        refine jw_gf (v := (J (11 + v1.toNat) 4)) rfl (by decide) (jze_10 o1) rfl ?_
        refine jw_aload_n rfl rfl ?_
        refine jw_virt (k := 2) (c := 17) (as := [.int (Int32.ofInt (J (11 + v1.toNat) 4)), .ref (68 + 3 * v1.toNat)]) rfl rfl rfl (Nat.le_of_ble_eq_true rfl) rfl (Nat.le_of_ble_eq_true rfl) rfl rfl (jz_cv ?_)
        refine jm_Q.mono h (jp_v_mono (fun J44 K45 h => ?_))
        refine jw_goto rfl ?_
        refine jw_vret rfl ?_
        exact h
    · replace h := h.2 c6
      refine jw_aload_n rfl rfl ?_
      refine jw_aload_n rfl rfl ?_
      refine jw_aload_n rfl rfl ?_
      refine jw_virt (k := 2) (c := 13) (as := [.ref (11 + v1.toNat), .ref (68 + 3 * v1.toNat)]) rfl rfl rfl (Nat.le_of_ble_eq_true rfl) rfl (Nat.le_of_ble_eq_true rfl) rfl rfl (jz_cv ?_)
      refine jm_Q.mono h (jp_v_mono (fun J46 K47 h => ?_))
      refine jw_goto rfl ?_
      refine jw_vret rfl ?_
      exact h
set_option maxHeartbeats 4000000 in
theorem e_34 {xs : Nat → Int32} {L d : Nat} {v1 : Nat} {v2 : Nat} {J K : jZ} {P : jZ → jZ → Prop} (hk1 : jz_kd v1 = 10) (hk2 : jz_kd v2 = 16) (h : l_34_7 xs L d v1 v2 0 (jm_up J v2 2 0) K P) : q_34 xs L (d + 1) v1 v2 J K P := by
  unfold q_34
  refine jq_in (ls := [some (.ref 61), some (.ref v1), some (.ref v2), none, none]) rfl (Nat.le_of_ble_eq_true rfl) rfl ?_
  refine jw_aload_n rfl rfl ?_
  refine jw_iconst rfl ?_
  refine jw_pf rfl hk2 ?_
  refine jw_iconst rfl ?_
  refine jw_istore_n (ls' := [some (.ref 61), some (.ref v1), some (.ref v2), some (.int (Int32.ofInt 0)), none]) rfl rfl ?_
  exact jz_fg (l := [some (.ref 61), some (.ref v1), some (.ref v2), some (.int (Int32.ofInt 0)), none]) ⟨rfl, rfl, rfl, rfl, jz_n0, trivial⟩ h
set_option maxHeartbeats 4000000 in
theorem e_34_7 {xs : Nat → Int32} {L d : Nat} {v1 : Nat} {v2 : Nat} {v3 : Int} {J K : jZ} {P : jZ → jZ → Prop} (hk1 : jz_kd v1 = 10) (hk2 : jz_kd v2 = 16) (h : (-2147483648 ≤ (v3 + (J v1 6)) ∧ (v3 + (J v1 6)) < 2147483648) ∧ (-2147483648 ≤ J 1 3 ∧ J 1 3 < 2147483648) ∧ ((J 1 3) < (v3 + (J v1 6)) → P J K) ∧ ((v3 + (J v1 6)) ≤ (J 1 3) → l_34_26 xs L d v1 v2 v3 0 J K P)) : l_34_7 xs L d v1 v2 v3 J K P := by
  unfold l_34_7
  refine jw_iload_n rfl rfl ?_
  refine jw_aload_n rfl rfl ?_
  refine jw_gf (v := (J v1 6)) rfl (by decide) hk1 rfl ?_
  refine jw_iadd rfl ?_
  refine jw_aload_n rfl rfl ?_
  refine jw_gr (q := 1) rfl rfl rfl ?_
  refine jw_gf (v := (J 1 3)) rfl (by decide) rfl rfl ?_
  obtain ⟨o1, h⟩ := h
  obtain ⟨o2, h⟩ := h
  refine jw_ic_gt rfl o1 o2 (fun c3 => ?_) (fun c3 => ?_)
  · replace h := h.1 c3
    refine jw_vret rfl ?_
    exact h
  · replace h := h.2 c3
    refine jw_iconst rfl ?_
    refine jw_istore (ls' := [some (.ref 61), some (.ref v1), some (.ref v2), some (.int (Int32.ofInt v3)), some (.int (Int32.ofInt 0))]) rfl rfl ?_
    exact jz_fg (l := [some (.ref 61), some (.ref v1), some (.ref v2), some (.int (Int32.ofInt v3)), some (.int (Int32.ofInt 0))]) ⟨rfl, rfl, rfl, rfl, rfl, trivial⟩ h
set_option maxHeartbeats 4000000 in
theorem e_34_26 {xs : Nat → Int32} {L d : Nat} {v1 : Nat} {v2 : Nat} {v3 : Int} {v4 : Int} {J K : jZ} {P : jZ → jZ → Prop} (hk1 : jz_kd v1 = 10) (hk2 : jz_kd v2 = 16) (h : (-2147483648 ≤ v4 ∧ v4 < 2147483648) ∧ (-2147483648 ≤ J v1 6 ∧ J v1 6 < 2147483648) ∧ ((J v1 6) ≤ v4 → (¬ v4 = (J v1 6) → l_34_7 xs L d v1 v2 (v3 + 1) J K P) ∧ (v4 = (J v1 6) → q_37 xs L d v2 v3 ((v3 + v4) - 1) J K (fun J5 K6 => l_34_7 xs L d v1 v2 (v3 + 1) J5 K6 P))) ∧ (v4 < (J v1 6) → q_35 xs L d (v3 + v4) (jz_and (jz_shr (J v1 5) (4 * v4)) 15) J K (fun r9 J7 K8 => (-2147483648 ≤ r9 ∧ r9 < 2147483648) ∧ (r9 = 0 → (-2147483648 ≤ J7 v1 6 ∧ J7 v1 6 < 2147483648) ∧ (¬ v4 = (J7 v1 6) → l_34_7 xs L d v1 v2 (v3 + 1) J7 K8 P) ∧ (v4 = (J7 v1 6) → q_37 xs L d v2 v3 ((v3 + v4) - 1) J7 K8 (fun J14 K15 => l_34_7 xs L d v1 v2 (v3 + 1) J14 K15 P))) ∧ (¬ r9 = 0 → l_34_26 xs L d v1 v2 v3 (v4 + 1) J7 K8 P)))) : l_34_26 xs L d v1 v2 v3 v4 J K P := by
  unfold l_34_26
  refine jw_iload rfl rfl ?_
  refine jw_aload_n rfl rfl ?_
  refine jw_gf (v := (J v1 6)) rfl (by decide) hk1 rfl ?_
  obtain ⟨o1, h⟩ := h
  obtain ⟨o2, h⟩ := h
  refine jw_ic_ge rfl o1 o2 (fun c3 => ?_) (fun c3 => ?_)
  · replace h := h.1 c3
    refine jw_iload rfl rfl ?_
    refine jw_aload_n rfl rfl ?_
    refine jw_gf (v := (J v1 6)) rfl (by decide) hk1 rfl ?_
    refine jw_ic_ne rfl o1 o2 (fun c4 => ?_) (fun c4 => ?_)
    · replace h := h.1 c4
      refine jw_iinc (ls' := [some (.ref 61), some (.ref v1), some (.ref v2), some (.int (Int32.ofInt (v3 + 1))), some (.int (Int32.ofInt v4))]) rfl rfl rfl ?_
      refine jw_goto rfl ?_
      exact jz_fg (l := [some (.ref 61), some (.ref v1), some (.ref v2), some (.int (Int32.ofInt (v3 + 1))), none]) ⟨rfl, rfl, rfl, rfl, jz_ni, trivial⟩ h
    · replace h := h.2 c4
      refine jw_aload_n rfl rfl ?_
      refine jw_iload_n rfl rfl ?_
      refine jw_iload_n rfl rfl ?_
      refine jw_iload rfl rfl ?_
      refine jw_iadd rfl ?_
      refine jw_iconst rfl ?_
      refine jw_isub rfl ?_
      refine jw_virt (k := 2) (c := 15) (as := [.int (Int32.ofInt v3), .int (Int32.ofInt ((v3 + v4) - 1))]) rfl rfl rfl (Nat.le_of_ble_eq_true rfl) rfl (Nat.le_of_ble_eq_true rfl) hk2 rfl (jz_cv ?_)
      refine jm_Q.mono h (jp_v_mono (fun J5 K6 h => ?_))
      refine jw_iinc (ls' := [some (.ref 61), some (.ref v1), some (.ref v2), some (.int (Int32.ofInt (v3 + 1))), some (.int (Int32.ofInt v4))]) rfl rfl rfl ?_
      refine jw_goto rfl ?_
      exact jz_fg (l := [some (.ref 61), some (.ref v1), some (.ref v2), some (.int (Int32.ofInt (v3 + 1))), none]) ⟨rfl, rfl, rfl, rfl, jz_ni, trivial⟩ h
  · replace h := h.2 c3
    refine jw_aload_n rfl rfl ?_
    refine jw_iload_n rfl rfl ?_
    refine jw_iload rfl rfl ?_
    refine jw_iadd rfl ?_
    refine jw_aload_n rfl rfl ?_
    refine jw_gf (v := (J v1 5)) rfl (by decide) hk1 rfl ?_
    refine jw_iconst rfl ?_
    refine jw_iload rfl rfl ?_
    refine jw_imul rfl ?_
    refine jw_ishr rfl ?_
    refine jw_bipush rfl (by decide) ?_
    refine jw_iand rfl ?_
    refine jw_virt (k := 2) (c := 13) (as := [.int (Int32.ofInt (v3 + v4)), .int (Int32.ofInt (jz_and (jz_shr (J v1 5) (4 * v4)) 15))]) rfl rfl rfl (Nat.le_of_ble_eq_true rfl) rfl (Nat.le_of_ble_eq_true rfl) rfl rfl (jz_ci ?_)
    refine jm_Q.mono h (jp_i_mono (fun r9 J7 K8 h => ?_))
    obtain ⟨o10, h⟩ := h
    refine jw_if_eq rfl o10 (fun c11 => ?_) (fun c11 => ?_)
    · replace h := h.1 c11
      refine jw_iload rfl rfl ?_
      refine jw_aload_n rfl rfl ?_
      refine jw_gf (v := (J7 v1 6)) rfl (by decide) hk1 rfl ?_
      obtain ⟨o12, h⟩ := h
      refine jw_ic_ne rfl o1 o12 (fun c13 => ?_) (fun c13 => ?_)
      · replace h := h.1 c13
        refine jw_iinc (ls' := [some (.ref 61), some (.ref v1), some (.ref v2), some (.int (Int32.ofInt (v3 + 1))), some (.int (Int32.ofInt v4))]) rfl rfl rfl ?_
        refine jw_goto rfl ?_
        exact jz_fg (l := [some (.ref 61), some (.ref v1), some (.ref v2), some (.int (Int32.ofInt (v3 + 1))), none]) ⟨rfl, rfl, rfl, rfl, jz_ni, trivial⟩ h
      · replace h := h.2 c13
        refine jw_aload_n rfl rfl ?_
        refine jw_iload_n rfl rfl ?_
        refine jw_iload_n rfl rfl ?_
        refine jw_iload rfl rfl ?_
        refine jw_iadd rfl ?_
        refine jw_iconst rfl ?_
        refine jw_isub rfl ?_
        refine jw_virt (k := 2) (c := 15) (as := [.int (Int32.ofInt v3), .int (Int32.ofInt ((v3 + v4) - 1))]) rfl rfl rfl (Nat.le_of_ble_eq_true rfl) rfl (Nat.le_of_ble_eq_true rfl) hk2 rfl (jz_cv ?_)
        refine jm_Q.mono h (jp_v_mono (fun J14 K15 h => ?_))
        refine jw_iinc (ls' := [some (.ref 61), some (.ref v1), some (.ref v2), some (.int (Int32.ofInt (v3 + 1))), some (.int (Int32.ofInt v4))]) rfl rfl rfl ?_
        refine jw_goto rfl ?_
        exact jz_fg (l := [some (.ref 61), some (.ref v1), some (.ref v2), some (.int (Int32.ofInt (v3 + 1))), none]) ⟨rfl, rfl, rfl, rfl, jz_ni, trivial⟩ h
    · replace h := h.2 c11
      refine jw_iinc (ls' := [some (.ref 61), some (.ref v1), some (.ref v2), some (.int (Int32.ofInt v3)), some (.int (Int32.ofInt (v4 + 1)))]) rfl rfl rfl ?_
      refine jw_goto rfl ?_
      exact jz_fg (l := [some (.ref 61), some (.ref v1), some (.ref v2), some (.int (Int32.ofInt v3)), some (.int (Int32.ofInt (v4 + 1)))]) ⟨rfl, rfl, rfl, rfl, rfl, trivial⟩ h
set_option maxHeartbeats 4000000 in
theorem e_35 {xs : Nat → Int32} {L d : Nat} {v1 : Int} {v2 : Int} {J K : jZ} {P : Int → jZ → jZ → Prop} (h : ((0 : Int) ≤ v1 ∧ v1 < 60) ∧ (-2147483648 ≤ J 2 v1.toNat ∧ J 2 v1.toNat < 2147483648) ∧ (-2147483648 ≤ J 61 6 ∧ J 61 6 < 2147483648) ∧ ((J 2 v1.toNat) = (J 61 6) → P 0 J K) ∧ (¬ (J 2 v1.toNat) = (J 61 6) → ((0 : Int) ≤ J 2 v1.toNat ∧ J 2 v1.toNat < 16) ∧ ((jz_and (jz_shr (jz_or (jz_shl 1 (J 2 v1.toNat)) (J 4 (J 2 v1.toNat).toNat)) v2) 1) = 0 → P 0 J K) ∧ (¬ (jz_and (jz_shr (jz_or (jz_shl 1 (J 2 v1.toNat)) (J 4 (J 2 v1.toNat).toNat)) v2) 1) = 0 → P 1 J K))) : q_35 xs L (d + 2) v1 v2 J K P := by
  unfold q_35
  refine jq_in (ls := [some (.ref 61), some (.int (Int32.ofInt v1)), some (.int (Int32.ofInt v2))]) rfl (Nat.le_of_ble_eq_true rfl) rfl ?_
  refine jw_aload_n rfl rfl ?_
  refine jw_gr (q := 1) rfl rfl rfl ?_
  refine jw_gr (q := 2) rfl rfl rfl ?_
  refine jw_iload_n rfl rfl ?_
  obtain ⟨o1, h⟩ := h
  refine jw_iald (v := (J 2 v1.toNat)) (N := 60) rfl rfl rfl (by omega) o1 rfl ?_
  refine jw_aload_n rfl rfl ?_
  refine jw_gf (v := (J 61 6)) rfl (by decide) rfl rfl ?_
  obtain ⟨o2, h⟩ := h
  obtain ⟨o3, h⟩ := h
  refine jw_ic_eq rfl o2 o3 (fun c4 => ?_) (fun c4 => ?_)
  · replace h := h.1 c4
    refine jw_iconst rfl ?_
    refine jw_zret rfl (by omega) ?_
    exact h
  · replace h := h.2 c4
    refine jw_aload_n rfl rfl ?_
    refine jw_gr (q := 1) rfl rfl rfl ?_
    refine jw_iload_n rfl rfl ?_
    refine jw_virt (k := 1) (c := 17) (as := [.int (Int32.ofInt v1)]) rfl rfl rfl (Nat.le_of_ble_eq_true rfl) rfl (Nat.le_of_ble_eq_true rfl) rfl rfl (jz_ci ?_)
    refine jq_in (ls := [some (.ref 1), some (.int (Int32.ofInt v1)), none]) rfl (Nat.le_of_ble_eq_true rfl) rfl ?_
    refine jw_aload_n rfl rfl ?_
    refine jw_gr (q := 2) rfl rfl rfl ?_
    refine jw_iload_n rfl rfl ?_
    refine jw_iald (v := (J 2 v1.toNat)) (N := 60) rfl rfl rfl (by omega) o1 rfl ?_
    refine jw_istore_n (ls' := [some (.ref 1), some (.int (Int32.ofInt v1)), some (.int (Int32.ofInt (J 2 v1.toNat)))]) rfl rfl ?_
    refine jw_iconst rfl ?_
    refine jw_iload_n rfl rfl ?_
    refine jw_ishl rfl ?_
    refine jw_aload_n rfl rfl ?_
    refine jw_gr (q := 4) rfl rfl rfl ?_
    refine jw_iload_n rfl rfl ?_
    obtain ⟨o5, h⟩ := h
    refine jw_iald (v := (J 4 (J 2 v1.toNat).toNat)) (N := 16) rfl rfl rfl (by omega) o5 rfl ?_
    refine jw_ior rfl ?_
    refine jw_iret rfl ?_
    refine jw_iload_n rfl rfl ?_
    refine jw_ishr rfl ?_
    refine jw_iconst rfl ?_
    refine jw_iand rfl ?_
    refine jw_if_eq rfl jz_and_r (fun c6 => ?_) (fun c6 => ?_)
    · replace h := h.1 c6
      refine jw_iconst rfl ?_
      refine jw_zret rfl (by omega) ?_
      exact h
    · replace h := h.2 c6
      refine jw_iconst rfl ?_
      refine jw_goto rfl ?_
      refine jw_zret rfl (by omega) ?_
      exact h
set_option maxHeartbeats 4000000 in
theorem e_36 {xs : Nat → Int32} {L d : Nat} {v0 : Nat} {v1 : Int} {J K : jZ} {P : Int → jZ → jZ → Prop} (hk0 : jz_kd v0 = 18) (h : ((0 : Int) ≤ v1 ∧ v1 < 60) ∧ ((0 : Int) ≤ J (v0 + 1) v1.toNat ∧ J (v0 + 1) v1.toNat < 16) ∧ P (jz_or (jz_shl 1 (J (v0 + 1) v1.toNat)) (J (v0 + 3) (J (v0 + 1) v1.toNat).toNat)) J K) : q_36 xs L (d + 1) v0 v1 J K P := by
  unfold q_36
  refine jq_in (ls := [some (.ref v0), some (.int (Int32.ofInt v1)), none]) rfl (Nat.le_of_ble_eq_true rfl) rfl ?_
  refine jw_aload_n rfl rfl ?_
  refine jw_gr (q := (v0 + 1)) rfl hk0 (jzr_18_1 hk0) ?_
  refine jw_iload_n rfl rfl ?_
  obtain ⟨o1, h⟩ := h
  refine jw_iald (v := (J (v0 + 1) v1.toNat)) (N := 60) rfl (jzk_18_1 hk0) (jzn_18_1 hk0) (by omega) o1 rfl ?_
  refine jw_istore_n (ls' := [some (.ref v0), some (.int (Int32.ofInt v1)), some (.int (Int32.ofInt (J (v0 + 1) v1.toNat)))]) rfl rfl ?_
  refine jw_iconst rfl ?_
  refine jw_iload_n rfl rfl ?_
  refine jw_ishl rfl ?_
  refine jw_aload_n rfl rfl ?_
  refine jw_gr (q := (v0 + 3)) rfl hk0 (jzr_18_3 hk0) ?_
  refine jw_iload_n rfl rfl ?_
  obtain ⟨o2, h⟩ := h
  refine jw_iald (v := (J (v0 + 3) (J (v0 + 1) v1.toNat).toNat)) (N := 16) rfl (jzk_18_3 hk0) (jzn_18_3 hk0) (by omega) o2 rfl ?_
  refine jw_ior rfl ?_
  refine jw_iret rfl ?_
  exact h
set_option maxHeartbeats 4000000 in
theorem e_37 {xs : Nat → Int32} {L d : Nat} {v0 : Nat} {v1 : Int} {v2 : Int} {J K : jZ} {P : jZ → jZ → Prop} (hk0 : jz_kd v0 = 16) (h : (-2147483648 ≤ J v0 2 ∧ J v0 2 < 2147483648) ∧ (60 ≤ (J v0 2) → P J K) ∧ ((J v0 2) < 60 → ((0 : Int) ≤ J v0 2 ∧ J v0 2 < 60) ∧ P (jm_up (jm_up (jm_up J (v0 + 1) (J v0 2).toNat v1) (v0 + 2) (J v0 2).toNat v2) v0 2 ((J v0 2) + 1)) K)) : q_37 xs L (d + 1) v0 v1 v2 J K P := by
  unfold q_37
  refine jq_in (ls := [some (.ref v0), some (.int (Int32.ofInt v1)), some (.int (Int32.ofInt v2))]) rfl (Nat.le_of_ble_eq_true rfl) rfl ?_
  refine jw_aload_n rfl rfl ?_
  refine jw_gf (v := (J v0 2)) rfl (by decide) hk0 rfl ?_
  refine jw_bipush rfl (by decide) ?_
  obtain ⟨o1, h⟩ := h
  refine jw_ic_ge rfl o1 (by omega) (fun c2 => ?_) (fun c2 => ?_)
  · replace h := h.1 c2
    refine jw_vret rfl ?_
    exact h
  · replace h := h.2 c2
    refine jw_aload_n rfl rfl ?_
    refine jw_gr (q := (v0 + 1)) rfl hk0 (jzr_16_1 hk0) ?_
    refine jw_aload_n rfl rfl ?_
    refine jw_gf (v := (J v0 2)) rfl (by decide) hk0 rfl ?_
    refine jw_iload_n rfl rfl ?_
    obtain ⟨o3, h⟩ := h
    refine jw_iast (N := 60) rfl (jzk_16_1 hk0) (jzn_16_1 hk0) (by omega) o3 ?_
    refine jw_aload_n rfl rfl ?_
    refine jw_gr (q := (v0 + 2)) rfl hk0 (jzr_16_2 hk0) ?_
    refine jw_aload_n rfl rfl ?_
    refine jw_gf (v := (J v0 2)) rfl (by decide) hk0 (by simp [jm_up]) ?_
    refine jw_iload_n rfl rfl ?_
    refine jw_iast (N := 60) rfl (jzk_16_2 hk0) (jzn_16_2 hk0) (by omega) o3 ?_
    refine jw_aload_n rfl rfl ?_
    refine jw_dup_r rfl ?_
    refine jw_gf (v := (J v0 2)) rfl (by decide) hk0 (by simp [jm_up]) ?_
    refine jw_iconst rfl ?_
    refine jw_iadd rfl ?_
    refine jw_pf rfl hk0 ?_
    refine jw_vret rfl ?_
    exact h
set_option maxHeartbeats 4000000 in
theorem e_38 {xs : Nat → Int32} {L d : Nat} {v0 : Nat} {v1 : Int} {v2 : Nat} {J K : jZ} {P : jZ → jZ → Prop} (hk0 : jz_kd v0 = 18) (hk2 : jz_kd v2 = 16) (h : l_38_10 xs L d v0 v1 v2 0 0 (jm_up J v2 2 0) K P) : q_38 xs L (d + 1) v0 v1 v2 J K P := by
  unfold q_38
  refine jq_in (ls := [some (.ref v0), some (.int (Int32.ofInt v1)), some (.ref v2), none, none]) rfl (Nat.le_of_ble_eq_true rfl) rfl ?_
  refine jw_aload_n rfl rfl ?_
  refine jw_iconst rfl ?_
  refine jw_pf rfl hk2 ?_
  refine jw_iconst rfl ?_
  refine jw_istore_n (ls' := [some (.ref v0), some (.int (Int32.ofInt v1)), some (.ref v2), some (.int (Int32.ofInt 0)), none]) rfl rfl ?_
  refine jw_iconst rfl ?_
  refine jw_istore (ls' := [some (.ref v0), some (.int (Int32.ofInt v1)), some (.ref v2), some (.int (Int32.ofInt 0)), some (.int (Int32.ofInt 0))]) rfl rfl ?_
  exact jz_fg (l := [some (.ref v0), some (.int (Int32.ofInt v1)), some (.ref v2), some (.int (Int32.ofInt 0)), some (.int (Int32.ofInt 0))]) ⟨rfl, rfl, rfl, rfl, rfl, trivial⟩ h
set_option maxHeartbeats 4000000 in
theorem e_38_10 {xs : Nat → Int32} {L d : Nat} {v0 : Nat} {v1 : Int} {v2 : Nat} {v3 : Int} {v4 : Int} {J K : jZ} {P : jZ → jZ → Prop} (hk0 : jz_kd v0 = 18) (hk2 : jz_kd v2 = 16) (h : (-2147483648 ≤ v4 ∧ v4 < 2147483648) ∧ (-2147483648 ≤ J v0 3 ∧ J v0 3 < 2147483648) ∧ ((J v0 3) ≤ v4 → P J K) ∧ (v4 < (J v0 3) → (-2147483648 ≤ ((J v0 3) - 1) ∧ ((J v0 3) - 1) < 2147483648) ∧ (v4 = ((J v0 3) - 1) → q_37 xs L d v2 v3 v4 J K (fun J6 K7 => l_38_10 xs L d v0 v1 v2 (v4 + 1) (v4 + 1) J6 K7 P)) ∧ (¬ v4 = ((J v0 3) - 1) → ((0 : Int) ≤ v4 ∧ v4 < 60) ∧ (-2147483648 ≤ J (v0 + 2) v4.toNat ∧ J (v0 + 2) v4.toNat < 2147483648) ∧ (-2147483648 ≤ v1 ∧ v1 < 2147483648) ∧ ((J (v0 + 2) v4.toNat) ≤ v1 → l_38_10 xs L d v0 v1 v2 v3 (v4 + 1) J K P) ∧ (v1 < (J (v0 + 2) v4.toNat) → q_37 xs L d v2 v3 v4 J K (fun J12 K13 => l_38_10 xs L d v0 v1 v2 (v4 + 1) (v4 + 1) J12 K13 P))))) : l_38_10 xs L d v0 v1 v2 v3 v4 J K P := by
  unfold l_38_10
  refine jw_iload rfl rfl ?_
  refine jw_aload_n rfl rfl ?_
  refine jw_gf (v := (J v0 3)) rfl (by decide) hk0 rfl ?_
  obtain ⟨o1, h⟩ := h
  obtain ⟨o2, h⟩ := h
  refine jw_ic_ge rfl o1 o2 (fun c3 => ?_) (fun c3 => ?_)
  · replace h := h.1 c3
    refine jw_vret rfl ?_
    exact h
  · replace h := h.2 c3
    refine jw_iload rfl rfl ?_
    refine jw_aload_n rfl rfl ?_
    refine jw_gf (v := (J v0 3)) rfl (by decide) hk0 rfl ?_
    refine jw_iconst rfl ?_
    refine jw_isub rfl ?_
    obtain ⟨o4, h⟩ := h
    refine jw_ic_eq rfl o1 o4 (fun c5 => ?_) (fun c5 => ?_)
    · replace h := h.1 c5
      refine jw_aload_n rfl rfl ?_
      refine jw_iload_n rfl rfl ?_
      refine jw_iload rfl rfl ?_
      refine jw_virt (k := 2) (c := 15) (as := [.int (Int32.ofInt v3), .int (Int32.ofInt v4)]) rfl rfl rfl (Nat.le_of_ble_eq_true rfl) rfl (Nat.le_of_ble_eq_true rfl) hk2 rfl (jz_cv ?_)
      refine jm_Q.mono h (jp_v_mono (fun J6 K7 h => ?_))
      refine jw_iload rfl rfl ?_
      refine jw_iconst rfl ?_
      refine jw_iadd rfl ?_
      refine jw_istore_n (ls' := [some (.ref v0), some (.int (Int32.ofInt v1)), some (.ref v2), some (.int (Int32.ofInt (v4 + 1))), some (.int (Int32.ofInt v4))]) rfl rfl ?_
      refine jw_iinc (ls' := [some (.ref v0), some (.int (Int32.ofInt v1)), some (.ref v2), some (.int (Int32.ofInt (v4 + 1))), some (.int (Int32.ofInt (v4 + 1)))]) rfl rfl rfl ?_
      refine jw_goto rfl ?_
      exact jz_fg (l := [some (.ref v0), some (.int (Int32.ofInt v1)), some (.ref v2), some (.int (Int32.ofInt (v4 + 1))), some (.int (Int32.ofInt (v4 + 1)))]) ⟨rfl, rfl, rfl, rfl, rfl, trivial⟩ h
    · replace h := h.2 c5
      refine jw_aload_n rfl rfl ?_
      refine jw_gr (q := (v0 + 2)) rfl hk0 (jzr_18_2 hk0) ?_
      refine jw_iload rfl rfl ?_
      obtain ⟨o8, h⟩ := h
      refine jw_iald (v := (J (v0 + 2) v4.toNat)) (N := 60) rfl (jzk_18_2 hk0) (jzn_18_2 hk0) (by omega) o8 rfl ?_
      refine jw_iload_n rfl rfl ?_
      obtain ⟨o9, h⟩ := h
      obtain ⟨o10, h⟩ := h
      refine jw_ic_le rfl o9 o10 (fun c11 => ?_) (fun c11 => ?_)
      · replace h := h.1 c11
        refine jw_iinc (ls' := [some (.ref v0), some (.int (Int32.ofInt v1)), some (.ref v2), some (.int (Int32.ofInt v3)), some (.int (Int32.ofInt (v4 + 1)))]) rfl rfl rfl ?_
        refine jw_goto rfl ?_
        exact jz_fg (l := [some (.ref v0), some (.int (Int32.ofInt v1)), some (.ref v2), some (.int (Int32.ofInt v3)), some (.int (Int32.ofInt (v4 + 1)))]) ⟨rfl, rfl, rfl, rfl, rfl, trivial⟩ h
      · replace h := h.2 c11
        refine jw_aload_n rfl rfl ?_
        refine jw_iload_n rfl rfl ?_
        refine jw_iload rfl rfl ?_
        refine jw_virt (k := 2) (c := 15) (as := [.int (Int32.ofInt v3), .int (Int32.ofInt v4)]) rfl rfl rfl (Nat.le_of_ble_eq_true rfl) rfl (Nat.le_of_ble_eq_true rfl) hk2 rfl (jz_cv ?_)
        refine jm_Q.mono h (jp_v_mono (fun J12 K13 h => ?_))
        refine jw_iload rfl rfl ?_
        refine jw_iconst rfl ?_
        refine jw_iadd rfl ?_
        refine jw_istore_n (ls' := [some (.ref v0), some (.int (Int32.ofInt v1)), some (.ref v2), some (.int (Int32.ofInt (v4 + 1))), some (.int (Int32.ofInt v4))]) rfl rfl ?_
        refine jw_iinc (ls' := [some (.ref v0), some (.int (Int32.ofInt v1)), some (.ref v2), some (.int (Int32.ofInt (v4 + 1))), some (.int (Int32.ofInt (v4 + 1)))]) rfl rfl rfl ?_
        refine jw_goto rfl ?_
        exact jz_fg (l := [some (.ref v0), some (.int (Int32.ofInt v1)), some (.ref v2), some (.int (Int32.ofInt (v4 + 1))), some (.int (Int32.ofInt (v4 + 1)))]) ⟨rfl, rfl, rfl, rfl, rfl, trivial⟩ h
set_option maxHeartbeats 4000000 in
theorem e_39 {xs : Nat → Int32} {L d : Nat} {v1 : Int} {J K : jZ} {P : Nat → jZ → jZ → Prop} (h : (-2147483648 ≤ v1 ∧ v1 < 2147483648) ∧ (v1 < 0 → P 63 J K) ∧ (0 ≤ v1 → (24 ≤ v1 → P 63 J K) ∧ (v1 < 24 → ((0 : Int) ≤ v1 ∧ v1 < 24) ∧ P (68 + 3 * v1.toNat) J K))) : q_39 xs L (d + 1) v1 J K P := by
  unfold q_39
  refine jq_in (ls := [some (.ref 61), some (.int (Int32.ofInt v1))]) rfl (Nat.le_of_ble_eq_true rfl) rfl ?_
  refine jw_iload_n rfl rfl ?_
  obtain ⟨o1, h⟩ := h
  refine jw_if_lt rfl o1 (fun c2 => ?_) (fun c2 => ?_)
  · replace h := h.1 c2
    refine jw_aload_n rfl rfl ?_
    refine jw_gr (q := 63) rfl rfl rfl ?_
    refine jw_aret rfl ?_
    exact h
  · replace h := h.2 c2
    refine jw_iload_n rfl rfl ?_
    refine jw_bipush rfl (by decide) ?_
    refine jw_ic_ge rfl o1 (by omega) (fun c3 => ?_) (fun c3 => ?_)
    · replace h := h.1 c3
      refine jw_aload_n rfl rfl ?_
      refine jw_gr (q := 63) rfl rfl rfl ?_
      refine jw_aret rfl ?_
      exact h
    · replace h := h.2 c3
      refine jw_aload_n rfl rfl ?_
      refine jw_gr (q := 62) rfl rfl rfl ?_
      refine jw_iload_n rfl rfl ?_
      obtain ⟨o4, h⟩ := h
      refine jw_aald (k := 4) (q := (68 + 3 * v1.toNat)) (N := 24) rfl rfl (by omega) rfl (by omega) o4 (jzr_62 o4) ?_
      refine jw_goto rfl ?_
      refine jw_aret rfl ?_
      exact h
set_option maxHeartbeats 4000000 in
theorem e_40 {xs : Nat → Int32} {L d : Nat} {v1 : Nat} {v2 : Int} {v3 : Nat} {J K : jZ} {P : jZ → jZ → Prop} (hk1 : jz_kd v1 = 16) (hk3 : jz_kd v3 = 16) (h : l_40_8 xs L (d + 1) v1 v2 v3 0 (jm_up J v3 2 0) K P) : q_40 xs L (d + 2) v1 v2 v3 J K P := by
  unfold q_40
  refine jq_in (ls := [some (.ref 61), some (.ref v1), some (.int (Int32.ofInt v2)), some (.ref v3), none]) rfl (Nat.le_of_ble_eq_true rfl) rfl ?_
  refine jw_aload_n rfl rfl ?_
  refine jw_iconst rfl ?_
  refine jw_pf rfl hk3 ?_
  refine jw_iconst rfl ?_
  refine jw_istore (ls' := [some (.ref 61), some (.ref v1), some (.int (Int32.ofInt v2)), some (.ref v3), some (.int (Int32.ofInt 0))]) rfl rfl ?_
  exact jz_fg (l := [none, some (.ref v1), some (.int (Int32.ofInt v2)), some (.ref v3), some (.int (Int32.ofInt 0))]) ⟨jz_nr, rfl, rfl, rfl, rfl, trivial⟩ h
set_option maxHeartbeats 4000000 in
theorem e_40_8 {xs : Nat → Int32} {L d : Nat} {v1 : Nat} {v2 : Int} {v3 : Nat} {v4 : Int} {J K : jZ} {P : jZ → jZ → Prop} (hk1 : jz_kd v1 = 16) (hk3 : jz_kd v3 = 16) (h : (-2147483648 ≤ v4 ∧ v4 < 2147483648) ∧ (-2147483648 ≤ J v1 2 ∧ J v1 2 < 2147483648) ∧ ((J v1 2) ≤ v4 → P J K) ∧ (v4 < (J v1 2) → ((0 : Int) ≤ v4 ∧ v4 < 60) ∧ (-2147483648 ≤ (((J (v1 + 2) v4.toNat) - (J (v1 + 1) v4.toNat)) + 1) ∧ (((J (v1 + 2) v4.toNat) - (J (v1 + 1) v4.toNat)) + 1) < 2147483648) ∧ (-2147483648 ≤ v2 ∧ v2 < 2147483648) ∧ (v2 < (((J (v1 + 2) v4.toNat) - (J (v1 + 1) v4.toNat)) + 1) → l_40_8 xs L (d + 1) v1 v2 v3 (v4 + 1) J K P) ∧ ((((J (v1 + 2) v4.toNat) - (J (v1 + 1) v4.toNat)) + 1) ≤ v2 → q_37 xs L (d + 1) v3 (J (v1 + 1) v4.toNat) (J (v1 + 2) v4.toNat) J K (fun J8 K9 => l_40_8 xs L (d + 1) v1 v2 v3 (v4 + 1) J8 K9 P)))) : l_40_8 xs L (d + 1) v1 v2 v3 v4 J K P := by
  unfold l_40_8
  refine jw_iload rfl rfl ?_
  refine jw_aload_n rfl rfl ?_
  refine jw_gf (v := (J v1 2)) rfl (by decide) hk1 rfl ?_
  obtain ⟨o1, h⟩ := h
  obtain ⟨o2, h⟩ := h
  refine jw_ic_ge rfl o1 o2 (fun c3 => ?_) (fun c3 => ?_)
  · replace h := h.1 c3
    refine jw_vret rfl ?_
    exact h
  · replace h := h.2 c3
    refine jw_aload_n rfl rfl ?_
    refine jw_iload rfl rfl ?_
    refine jw_virt (k := 1) (c := 15) (as := [.int (Int32.ofInt v4)]) rfl rfl rfl (Nat.le_of_ble_eq_true rfl) rfl (Nat.le_of_ble_eq_true rfl) hk1 rfl (jz_ci ?_)
    refine jq_in (ls := [some (.ref v1), some (.int (Int32.ofInt v4))]) rfl (Nat.le_of_ble_eq_true rfl) rfl ?_
    refine jw_aload_n rfl rfl ?_
    refine jw_gr (q := (v1 + 2)) rfl hk1 (jzr_16_2 hk1) ?_
    refine jw_iload_n rfl rfl ?_
    obtain ⟨o4, h⟩ := h
    refine jw_iald (v := (J (v1 + 2) v4.toNat)) (N := 60) rfl (jzk_16_2 hk1) (jzn_16_2 hk1) (by omega) o4 rfl ?_
    refine jw_aload_n rfl rfl ?_
    refine jw_gr (q := (v1 + 1)) rfl hk1 (jzr_16_1 hk1) ?_
    refine jw_iload_n rfl rfl ?_
    refine jw_iald (v := (J (v1 + 1) v4.toNat)) (N := 60) rfl (jzk_16_1 hk1) (jzn_16_1 hk1) (by omega) o4 rfl ?_
    refine jw_isub rfl ?_
    refine jw_iconst rfl ?_
    refine jw_iadd rfl ?_
    refine jw_iret rfl ?_
    refine jw_iload_n rfl rfl ?_
    obtain ⟨o5, h⟩ := h
    obtain ⟨o6, h⟩ := h
    refine jw_ic_gt rfl o5 o6 (fun c7 => ?_) (fun c7 => ?_)
    · replace h := h.1 c7
      refine jw_iinc (ls' := [none, some (.ref v1), some (.int (Int32.ofInt v2)), some (.ref v3), some (.int (Int32.ofInt (v4 + 1)))]) rfl rfl rfl ?_
      refine jw_goto rfl ?_
      exact jz_fg (l := [none, some (.ref v1), some (.int (Int32.ofInt v2)), some (.ref v3), some (.int (Int32.ofInt (v4 + 1)))]) ⟨jz_n0, rfl, rfl, rfl, rfl, trivial⟩ h
    · replace h := h.2 c7
      refine jw_aload_n rfl rfl ?_
      refine jw_aload_n rfl rfl ?_
      refine jw_gr (q := (v1 + 1)) rfl hk1 (jzr_16_1 hk1) ?_
      refine jw_iload rfl rfl ?_
      refine jw_iald (v := (J (v1 + 1) v4.toNat)) (N := 60) rfl (jzk_16_1 hk1) (jzn_16_1 hk1) (by omega) o4 rfl ?_
      refine jw_aload_n rfl rfl ?_
      refine jw_gr (q := (v1 + 2)) rfl hk1 (jzr_16_2 hk1) ?_
      refine jw_iload rfl rfl ?_
      refine jw_iald (v := (J (v1 + 2) v4.toNat)) (N := 60) rfl (jzk_16_2 hk1) (jzn_16_2 hk1) (by omega) o4 rfl ?_
      refine jw_virt (k := 2) (c := 15) (as := [.int (Int32.ofInt (J (v1 + 1) v4.toNat)), .int (Int32.ofInt (J (v1 + 2) v4.toNat))]) rfl rfl rfl (Nat.le_of_ble_eq_true rfl) rfl (Nat.le_of_ble_eq_true rfl) hk3 rfl (jz_cv ?_)
      refine jm_Q.mono h (jp_v_mono (fun J8 K9 h => ?_))
      refine jw_iinc (ls' := [none, some (.ref v1), some (.int (Int32.ofInt v2)), some (.ref v3), some (.int (Int32.ofInt (v4 + 1)))]) rfl rfl rfl ?_
      refine jw_goto rfl ?_
      exact jz_fg (l := [none, some (.ref v1), some (.int (Int32.ofInt v2)), some (.ref v3), some (.int (Int32.ofInt (v4 + 1)))]) ⟨jz_n0, rfl, rfl, rfl, rfl, trivial⟩ h
set_option maxHeartbeats 4000000 in
theorem e_41 {xs : Nat → Int32} {L d : Nat} {v0 : Nat} {v1 : Int} {J K : jZ} {P : Int → jZ → jZ → Prop} (hk0 : jz_kd v0 = 16) (h : ((0 : Int) ≤ v1 ∧ v1 < 60) ∧ P (((J (v0 + 2) v1.toNat) - (J (v0 + 1) v1.toNat)) + 1) J K) : q_41 xs L (d + 1) v0 v1 J K P := by
  unfold q_41
  refine jq_in (ls := [some (.ref v0), some (.int (Int32.ofInt v1))]) rfl (Nat.le_of_ble_eq_true rfl) rfl ?_
  refine jw_aload_n rfl rfl ?_
  refine jw_gr (q := (v0 + 2)) rfl hk0 (jzr_16_2 hk0) ?_
  refine jw_iload_n rfl rfl ?_
  obtain ⟨o1, h⟩ := h
  refine jw_iald (v := (J (v0 + 2) v1.toNat)) (N := 60) rfl (jzk_16_2 hk0) (jzn_16_2 hk0) (by omega) o1 rfl ?_
  refine jw_aload_n rfl rfl ?_
  refine jw_gr (q := (v0 + 1)) rfl hk0 (jzr_16_1 hk0) ?_
  refine jw_iload_n rfl rfl ?_
  refine jw_iald (v := (J (v0 + 1) v1.toNat)) (N := 60) rfl (jzk_16_1 hk0) (jzn_16_1 hk0) (by omega) o1 rfl ?_
  refine jw_isub rfl ?_
  refine jw_iconst rfl ?_
  refine jw_iadd rfl ?_
  refine jw_iret rfl ?_
  exact h
set_option maxHeartbeats 4000000 in
theorem e_42 {xs : Nat → Int32} {L d : Nat} {J K : jZ} {P : jZ → jZ → Prop} (h : q_43 xs L d 67 60 J K (fun J1 K2 => P J1 K2)) : q_42 xs L (d + 1) J K P := by
  unfold q_42
  refine jq_in (ls := [some (.ref 66)]) rfl (Nat.le_of_ble_eq_true rfl) rfl ?_
  refine jw_aload_n rfl rfl ?_
  refine jw_gr (q := 67) rfl rfl rfl ?_
  refine jw_bipush rfl (by decide) ?_
  refine jw_stat (k := 2) (as := [.ref 67, .int (Int32.ofInt 60)]) rfl (by decide) rfl rfl (Nat.le_of_ble_eq_true rfl) rfl (Nat.le_of_ble_eq_true rfl) (jz_cv ?_)
  refine jm_Q.mono h (jp_v_mono (fun J1 K2 h => ?_))
  refine jw_vret rfl ?_
  exact h
set_option maxHeartbeats 4000000 in
theorem e_43 {xs : Nat → Int32} {L d : Nat} {v0 : Nat} {v1 : Int} {n0 : Int} {J K : jZ} {P : jZ → jZ → Prop} (hk0 : jz_kd v0 = 1) (hl0 : (jz_ln v0 : Int) = n0) (hN0 : n0 ≤ 100000) (h : l_43_5 xs L d v0 v1 0 n0 J K P) : q_43 xs L (d + 1) v0 v1 J K P := by
  unfold q_43
  refine jq_in (ls := [some (.ref v0), some (.int (Int32.ofInt v1)), none, none]) rfl (Nat.le_of_ble_eq_true rfl) rfl ?_
  refine jw_iconst rfl ?_
  refine jw_istore_n (ls' := [some (.ref v0), some (.int (Int32.ofInt v1)), some (.int (Int32.ofInt 0)), none]) rfl rfl ?_
  refine jw_aload_n rfl rfl ?_
  refine jw_alen (k := 0) (N := n0) rfl hk0 (by omega) hl0 ?_
  refine jw_istore_n (ls' := [some (.ref v0), some (.int (Int32.ofInt v1)), some (.int (Int32.ofInt 0)), some (.int (Int32.ofInt n0))]) rfl rfl ?_
  exact jz_fg (l := [some (.ref v0), some (.int (Int32.ofInt v1)), some (.int (Int32.ofInt 0)), some (.int (Int32.ofInt n0))]) ⟨rfl, rfl, rfl, rfl, trivial⟩ h
set_option maxHeartbeats 4000000 in
theorem e_43_5 {xs : Nat → Int32} {L d : Nat} {v0 : Nat} {v1 : Int} {v2 : Int} {v3 : Int} {n0 : Int} {J K : jZ} {P : jZ → jZ → Prop} (hk0 : jz_kd v0 = 1) (hl0 : (jz_ln v0 : Int) = n0) (hN0 : n0 ≤ 100000) (h : (-2147483648 ≤ v2 ∧ v2 < 2147483648) ∧ (-2147483648 ≤ v3 ∧ v3 < 2147483648) ∧ (v3 ≤ v2 → P J K) ∧ (v2 < v3 → ((0 : Int) ≤ v2 ∧ v2 < n0) ∧ l_43_5 xs L d v0 v1 (v2 + 1) v3 (jm_up J v0 v2.toNat v1) K P)) : l_43_5 xs L d v0 v1 v2 v3 J K P := by
  unfold l_43_5
  refine jw_iload_n rfl rfl ?_
  refine jw_iload_n rfl rfl ?_
  obtain ⟨o1, h⟩ := h
  obtain ⟨o2, h⟩ := h
  refine jw_ic_ge rfl o1 o2 (fun c3 => ?_) (fun c3 => ?_)
  · replace h := h.1 c3
    refine jw_vret rfl ?_
    exact h
  · replace h := h.2 c3
    refine jw_aload_n rfl rfl ?_
    refine jw_iload_n rfl rfl ?_
    refine jw_iload_n rfl rfl ?_
    obtain ⟨o4, h⟩ := h
    refine jw_iast (N := n0) rfl hk0 hl0 (by omega) o4 ?_
    refine jw_iinc (ls' := [some (.ref v0), some (.int (Int32.ofInt v1)), some (.int (Int32.ofInt (v2 + 1))), some (.int (Int32.ofInt v3))]) rfl rfl rfl ?_
    refine jw_goto rfl ?_
    exact jz_fg (l := [some (.ref v0), some (.int (Int32.ofInt v1)), some (.int (Int32.ofInt (v2 + 1))), some (.int (Int32.ofInt v3))]) ⟨rfl, rfl, rfl, rfl, trivial⟩ h
set_option maxHeartbeats 4000000 in
theorem e_44 {xs : Nat → Int32} {L d : Nat} {v1 : Int} {v2 : Nat} {v3 : Nat} {v4 : Nat} {J K : jZ} {P : jZ → jZ → Prop} (hk2 : jz_kd v2 = 16) (hk3 : jz_kd v3 = 16) (hk4 : jz_kd v4 = 16) (h : l_44_12 xs L d v1 v2 v3 v4 0 0 0 0 J K P) : q_44 xs L (d + 1) v1 v2 v3 v4 J K P := by
  unfold q_44
  refine jq_in (ls := [some (.ref 61), some (.int (Int32.ofInt v1)), some (.ref v2), some (.ref v3), some (.ref v4), none, none, none, none]) rfl (Nat.le_of_ble_eq_true rfl) rfl ?_
  refine jw_iconst rfl ?_
  refine jw_istore (ls' := [some (.ref 61), some (.int (Int32.ofInt v1)), some (.ref v2), some (.ref v3), some (.ref v4), some (.int (Int32.ofInt 0)), none, none, none]) rfl rfl ?_
  refine jw_iconst rfl ?_
  refine jw_istore (ls' := [some (.ref 61), some (.int (Int32.ofInt v1)), some (.ref v2), some (.ref v3), some (.ref v4), some (.int (Int32.ofInt 0)), some (.int (Int32.ofInt 0)), none, none]) rfl rfl ?_
  refine jw_iconst rfl ?_
  refine jw_istore (ls' := [some (.ref 61), some (.int (Int32.ofInt v1)), some (.ref v2), some (.ref v3), some (.ref v4), some (.int (Int32.ofInt 0)), some (.int (Int32.ofInt 0)), some (.int (Int32.ofInt 0)), none]) rfl rfl ?_
  refine jw_iconst rfl ?_
  refine jw_istore (ls' := [some (.ref 61), some (.int (Int32.ofInt v1)), some (.ref v2), some (.ref v3), some (.ref v4), some (.int (Int32.ofInt 0)), some (.int (Int32.ofInt 0)), some (.int (Int32.ofInt 0)), some (.int (Int32.ofInt 0))]) rfl rfl ?_
  exact jz_fg (l := [some (.ref 61), some (.int (Int32.ofInt v1)), some (.ref v2), some (.ref v3), some (.ref v4), some (.int (Int32.ofInt 0)), some (.int (Int32.ofInt 0)), some (.int (Int32.ofInt 0)), some (.int (Int32.ofInt 0))]) ⟨rfl, rfl, rfl, rfl, rfl, rfl, rfl, rfl, rfl, trivial⟩ h
set_option maxHeartbeats 4000000 in
theorem e_44_12 {xs : Nat → Int32} {L d : Nat} {v1 : Int} {v2 : Nat} {v3 : Nat} {v4 : Nat} {v5 : Int} {v6 : Int} {v7 : Int} {v8 : Int} {J K : jZ} {P : jZ → jZ → Prop} (hk2 : jz_kd v2 = 16) (hk3 : jz_kd v3 = 16) (hk4 : jz_kd v4 = 16) (h : (-2147483648 ≤ v8 ∧ v8 < 2147483648) ∧ (-2147483648 ≤ J 1 3 ∧ J 1 3 < 2147483648) ∧ ((J 1 3) ≤ v8 → P J K) ∧ (v8 < (J 1 3) → q_45 xs L d v2 v5 v8 J K (fun r6 J4 K5 => q_45 xs L d v3 v6 v8 J4 K5 (fun r9 J7 K8 => q_45 xs L d v4 v7 v8 J7 K8 (fun r12 J10 K11 => q_46 xs L d v2 r6 J10 K11 (fun r15 J13 K14 => q_46 xs L d v3 r9 J13 K14 (fun r18 J16 K17 => q_46 xs L d v4 r12 J16 K17 (fun r21 J19 K20 => q_48 xs L d v1 r15 r18 r21 J19 K20 (fun r24 J22 K23 => q_51 xs L d v8 r24 J22 K23 (fun J25 K26 => l_44_12 xs L d v1 v2 v3 v4 r6 r9 r12 (v8 + 1) J25 K26 P)))))))))) : l_44_12 xs L d v1 v2 v3 v4 v5 v6 v7 v8 J K P := by
  unfold l_44_12
  refine jw_iload rfl rfl ?_
  refine jw_aload_n rfl rfl ?_
  refine jw_gr (q := 1) rfl rfl rfl ?_
  refine jw_gf (v := (J 1 3)) rfl (by decide) rfl rfl ?_
  obtain ⟨o1, h⟩ := h
  obtain ⟨o2, h⟩ := h
  refine jw_ic_ge rfl o1 o2 (fun c3 => ?_) (fun c3 => ?_)
  · replace h := h.1 c3
    refine jw_vret rfl ?_
    exact h
  · replace h := h.2 c3
    refine jw_aload_n rfl rfl ?_
    refine jw_iload rfl rfl ?_
    refine jw_iload rfl rfl ?_
    refine jw_i2l rfl o1 ?_
    refine jw_virt (k := 2) (c := 15) (as := [.int (Int32.ofInt v5), .long (Int64.ofInt v8)]) rfl rfl rfl (Nat.le_of_ble_eq_true rfl) rfl (Nat.le_of_ble_eq_true rfl) hk2 rfl (jz_ci ?_)
    refine jm_Q.mono h (jp_i_mono (fun r6 J4 K5 h => ?_))
    refine jw_istore (ls' := [some (.ref 61), some (.int (Int32.ofInt v1)), some (.ref v2), some (.ref v3), some (.ref v4), some (.int (Int32.ofInt r6)), some (.int (Int32.ofInt v6)), some (.int (Int32.ofInt v7)), some (.int (Int32.ofInt v8))]) rfl rfl ?_
    refine jw_aload_n rfl rfl ?_
    refine jw_iload rfl rfl ?_
    refine jw_iload rfl rfl ?_
    refine jw_i2l rfl o1 ?_
    refine jw_virt (k := 2) (c := 15) (as := [.int (Int32.ofInt v6), .long (Int64.ofInt v8)]) rfl rfl rfl (Nat.le_of_ble_eq_true rfl) rfl (Nat.le_of_ble_eq_true rfl) hk3 rfl (jz_ci ?_)
    refine jm_Q.mono h (jp_i_mono (fun r9 J7 K8 h => ?_))
    refine jw_istore (ls' := [some (.ref 61), some (.int (Int32.ofInt v1)), some (.ref v2), some (.ref v3), some (.ref v4), some (.int (Int32.ofInt r6)), some (.int (Int32.ofInt r9)), some (.int (Int32.ofInt v7)), some (.int (Int32.ofInt v8))]) rfl rfl ?_
    refine jw_aload rfl rfl ?_
    refine jw_iload rfl rfl ?_
    refine jw_iload rfl rfl ?_
    refine jw_i2l rfl o1 ?_
    refine jw_virt (k := 2) (c := 15) (as := [.int (Int32.ofInt v7), .long (Int64.ofInt v8)]) rfl rfl rfl (Nat.le_of_ble_eq_true rfl) rfl (Nat.le_of_ble_eq_true rfl) hk4 rfl (jz_ci ?_)
    refine jm_Q.mono h (jp_i_mono (fun r12 J10 K11 h => ?_))
    refine jw_istore (ls' := [some (.ref 61), some (.int (Int32.ofInt v1)), some (.ref v2), some (.ref v3), some (.ref v4), some (.int (Int32.ofInt r6)), some (.int (Int32.ofInt r9)), some (.int (Int32.ofInt r12)), some (.int (Int32.ofInt v8))]) rfl rfl ?_
    refine jw_aload_n rfl rfl ?_
    refine jw_gr (q := 66) rfl rfl rfl ?_
    refine jw_iload rfl rfl ?_
    refine jw_iload_n rfl rfl ?_
    refine jw_aload_n rfl rfl ?_
    refine jw_iload rfl rfl ?_
    refine jw_virt (k := 1) (c := 15) (as := [.int (Int32.ofInt r6)]) rfl rfl rfl (Nat.le_of_ble_eq_true rfl) rfl (Nat.le_of_ble_eq_true rfl) hk2 rfl (jz_ci ?_)
    refine jm_Q.mono h (jp_i_mono (fun r15 J13 K14 h => ?_))
    refine jw_aload_n rfl rfl ?_
    refine jw_iload rfl rfl ?_
    refine jw_virt (k := 1) (c := 15) (as := [.int (Int32.ofInt r9)]) rfl rfl rfl (Nat.le_of_ble_eq_true rfl) rfl (Nat.le_of_ble_eq_true rfl) hk3 rfl (jz_ci ?_)
    refine jm_Q.mono h (jp_i_mono (fun r18 J16 K17 h => ?_))
    refine jw_aload rfl rfl ?_
    refine jw_iload rfl rfl ?_
    refine jw_virt (k := 1) (c := 15) (as := [.int (Int32.ofInt r12)]) rfl rfl rfl (Nat.le_of_ble_eq_true rfl) rfl (Nat.le_of_ble_eq_true rfl) hk4 rfl (jz_ci ?_)
    refine jm_Q.mono h (jp_i_mono (fun r21 J19 K20 h => ?_))
    refine jw_stat (k := 4) (as := [.int (Int32.ofInt v1), .int (Int32.ofInt r15), .int (Int32.ofInt r18), .int (Int32.ofInt r21)]) rfl (by decide) rfl rfl (Nat.le_of_ble_eq_true rfl) rfl (Nat.le_of_ble_eq_true rfl) (jz_ci ?_)
    refine jm_Q.mono h (jp_i_mono (fun r24 J22 K23 h => ?_))
    refine jw_virt (k := 2) (c := 12) (as := [.int (Int32.ofInt v8), .int (Int32.ofInt r24)]) rfl rfl rfl (Nat.le_of_ble_eq_true rfl) rfl (Nat.le_of_ble_eq_true rfl) rfl rfl (jz_cv ?_)
    refine jm_Q.mono h (jp_v_mono (fun J25 K26 h => ?_))
    refine jw_iinc (ls' := [some (.ref 61), some (.int (Int32.ofInt v1)), some (.ref v2), some (.ref v3), some (.ref v4), some (.int (Int32.ofInt r6)), some (.int (Int32.ofInt r9)), some (.int (Int32.ofInt r12)), some (.int (Int32.ofInt (v8 + 1)))]) rfl rfl rfl ?_
    refine jw_goto rfl ?_
    exact jz_fg (l := [some (.ref 61), some (.int (Int32.ofInt v1)), some (.ref v2), some (.ref v3), some (.ref v4), some (.int (Int32.ofInt r6)), some (.int (Int32.ofInt r9)), some (.int (Int32.ofInt r12)), some (.int (Int32.ofInt (v8 + 1)))]) ⟨rfl, rfl, rfl, rfl, rfl, rfl, rfl, rfl, rfl, trivial⟩ h
set_option maxHeartbeats 4000000 in
theorem e_45 {xs : Nat → Int32} {L d : Nat} {v0 : Nat} {v1 : Int} {v2 : Int} {J K : jZ} {P : Int → jZ → jZ → Prop} (hk0 : jz_kd v0 = 16) (h : l_45_3 xs L d v0 v2 v1 J K P) : q_45 xs L (d + 1) v0 v1 v2 J K P := by
  unfold q_45
  refine jq_in (ls := [some (.ref v0), some (.int (Int32.ofInt v1)), some (.long (Int64.ofInt v2)), none, none]) rfl (Nat.le_of_ble_eq_true rfl) rfl ?_
  refine jw_iload_n rfl rfl ?_
  refine jw_istore (ls' := [some (.ref v0), some (.int (Int32.ofInt v1)), some (.long (Int64.ofInt v2)), none, some (.int (Int32.ofInt v1))]) rfl rfl ?_
  exact jz_fg (l := [some (.ref v0), none, some (.long (Int64.ofInt v2)), none, some (.int (Int32.ofInt v1))]) ⟨rfl, jz_ni, rfl, jz_n0, rfl, trivial⟩ h
set_option maxHeartbeats 4000000 in
theorem e_45_3 {xs : Nat → Int32} {L d : Nat} {v0 : Nat} {v2 : Int} {v4 : Int} {J K : jZ} {P : Int → jZ → jZ → Prop} (hk0 : jz_kd v0 = 16) (h : (-2147483648 ≤ v4 ∧ v4 < 2147483648) ∧ (-2147483648 ≤ J v0 2 ∧ J v0 2 < 2147483648) ∧ ((J v0 2) ≤ v4 → P v4 J K) ∧ (v4 < (J v0 2) → ((0 : Int) ≤ v4 ∧ v4 < 60) ∧ (-2147483648 ≤ J (v0 + 1) v4.toNat ∧ J (v0 + 1) v4.toNat < 2147483648) ∧ (-9223372036854775808 ≤ v2 ∧ v2 < 9223372036854775808) ∧ (v2 ≤ (J (v0 + 1) v4.toNat) → P v4 J K) ∧ ((J (v0 + 1) v4.toNat) < v2 → l_45_3 xs L d v0 v2 (v4 + 1) J K P))) : l_45_3 xs L d v0 v2 v4 J K P := by
  unfold l_45_3
  refine jw_iload rfl rfl ?_
  refine jw_aload_n rfl rfl ?_
  refine jw_gf (v := (J v0 2)) rfl (by decide) hk0 rfl ?_
  obtain ⟨o1, h⟩ := h
  obtain ⟨o2, h⟩ := h
  refine jw_ic_ge rfl o1 o2 (fun c3 => ?_) (fun c3 => ?_)
  · replace h := h.1 c3
    refine jw_iload rfl rfl ?_
    refine jw_iret rfl ?_
    exact h
  · replace h := h.2 c3
    refine jw_aload_n rfl rfl ?_
    refine jw_gr (q := (v0 + 1)) rfl hk0 (jzr_16_1 hk0) ?_
    refine jw_iload rfl rfl ?_
    obtain ⟨o4, h⟩ := h
    refine jw_iald (v := (J (v0 + 1) v4.toNat)) (N := 60) rfl (jzk_16_1 hk0) (jzn_16_1 hk0) (by omega) o4 rfl ?_
    obtain ⟨o5, h⟩ := h
    refine jw_i2l rfl o5 ?_
    refine jw_lload_n rfl rfl ?_
    obtain ⟨o6, h⟩ := h
    refine jw_lc_ge rfl rfl (by omega) o6 (fun c7 => ?_) (fun c7 => ?_)
    · replace h := h.1 c7
      refine jw_iload rfl rfl ?_
      refine jw_iret rfl ?_
      exact h
    · replace h := h.2 c7
      refine jw_iinc (ls' := [some (.ref v0), none, some (.long (Int64.ofInt v2)), none, some (.int (Int32.ofInt (v4 + 1)))]) rfl rfl rfl ?_
      refine jw_goto rfl ?_
      exact jz_fg (l := [some (.ref v0), none, some (.long (Int64.ofInt v2)), none, some (.int (Int32.ofInt (v4 + 1)))]) ⟨rfl, jz_n0, rfl, jz_n0, rfl, trivial⟩ h
set_option maxHeartbeats 4000000 in
theorem e_47 {xs : Nat → Int32} {L d : Nat} {v0 : Nat} {v1 : Int} {J K : jZ} {P : Int → jZ → jZ → Prop} (hk0 : jz_kd v0 = 16) (h : (-2147483648 ≤ v1 ∧ v1 < 2147483648) ∧ (v1 < 0 → P 0 J K) ∧ (0 ≤ v1 → (-2147483648 ≤ J v0 2 ∧ J v0 2 < 2147483648) ∧ ((J v0 2) ≤ v1 → P 0 J K) ∧ (v1 < (J v0 2) → P 1 J K))) : q_47 xs L (d + 1) v0 v1 J K P := by
  unfold q_47
  refine jq_in (ls := [some (.ref v0), some (.int (Int32.ofInt v1))]) rfl (Nat.le_of_ble_eq_true rfl) rfl ?_
  refine jw_iload_n rfl rfl ?_
  obtain ⟨o1, h⟩ := h
  refine jw_if_lt rfl o1 (fun c2 => ?_) (fun c2 => ?_)
  · replace h := h.1 c2
    refine jw_iconst rfl ?_
    refine jw_zret rfl (by omega) ?_
    exact h
  · replace h := h.2 c2
    refine jw_iload_n rfl rfl ?_
    refine jw_aload_n rfl rfl ?_
    refine jw_gf (v := (J v0 2)) rfl (by decide) hk0 rfl ?_
    obtain ⟨o3, h⟩ := h
    refine jw_ic_ge rfl o1 o3 (fun c4 => ?_) (fun c4 => ?_)
    · replace h := h.1 c4
      refine jw_iconst rfl ?_
      refine jw_zret rfl (by omega) ?_
      exact h
    · replace h := h.2 c4
      refine jw_iconst rfl ?_
      refine jw_goto rfl ?_
      refine jw_zret rfl (by omega) ?_
      exact h
set_option maxHeartbeats 4000000 in
theorem sb_47 {xs : Nat → Int32} {L d : Nat} {v0 : Nat} {v1 : Int} {J K : jZ} {P : Int → jZ → jZ → Prop} (hk0 : jz_kd v0 = 16) (o0 : -2147483648 ≤ v1 ∧ v1 < 2147483648) (o1 : -2147483648 ≤ J v0 2 ∧ J v0 2 < 2147483648) (h1 : ((0 : Int) ≤ v1 ∧ v1 < (J v0 2)) → P 1 J K) (h0 : ¬ ((0 : Int) ≤ v1 ∧ v1 < (J v0 2)) → P 0 J K) : q_47 xs L (d + 1) v0 v1 J K P := by
  refine e_47 hk0 ?_
  repeat' (first | exact h1 (by omega) | exact h0 (by omega) | refine ⟨by omega, ?_⟩ | refine ⟨fun _ => ?_, fun _ => ?_⟩)
set_option maxHeartbeats 4000000 in
theorem e_46 {xs : Nat → Int32} {L d : Nat} {v0 : Nat} {v1 : Int} {J K : jZ} {P : Int → jZ → jZ → Prop} (hk0 : jz_kd v0 = 16) (h : (-2147483648 ≤ v1 ∧ v1 < 2147483648) ∧ (-2147483648 ≤ J v0 2 ∧ J v0 2 < 2147483648) ∧ (((0 : Int) ≤ v1 ∧ v1 < (J v0 2)) → ((0 : Int) ≤ v1 ∧ v1 < 60) ∧ P (J (v0 + 2) v1.toNat) J K) ∧ (¬ ((0 : Int) ≤ v1 ∧ v1 < (J v0 2)) → P 60 J K)) : q_46 xs L (d + 2) v0 v1 J K P := by
  unfold q_46
  refine jq_in (ls := [some (.ref v0), some (.int (Int32.ofInt v1))]) rfl (Nat.le_of_ble_eq_true rfl) rfl ?_
  refine jw_aload_n rfl rfl ?_
  refine jw_iload_n rfl rfl ?_
  refine jw_virt (k := 1) (c := 15) (as := [.int (Int32.ofInt v1)]) rfl rfl rfl (Nat.le_of_ble_eq_true rfl) rfl (Nat.le_of_ble_eq_true rfl) hk0 rfl (jz_ci ?_)
  obtain ⟨o1, h⟩ := h
  obtain ⟨o2, h⟩ := h
  refine sb_47 hk0 o1 o2 (fun c3 => ?_) (fun c3 => ?_)
  · replace h := h.1 c3
    refine jw_if_eq rfl (by omega) (fun hc => by exfalso; omega) (fun _ => ?_)
    refine jw_aload_n rfl rfl ?_
    refine jw_gr (q := (v0 + 2)) rfl hk0 (jzr_16_2 hk0) ?_
    refine jw_iload_n rfl rfl ?_
    obtain ⟨o4, h⟩ := h
    refine jw_iald (v := (J (v0 + 2) v1.toNat)) (N := 60) rfl (jzk_16_2 hk0) (jzn_16_2 hk0) (by omega) o4 rfl ?_
    refine jw_goto rfl ?_
    refine jw_iret rfl ?_
    exact h
  · replace h := h.2 c3
    refine jw_if_eq rfl (by omega) (fun _ => ?_) (fun hc => by exfalso; omega)
    refine jw_bipush rfl (by decide) ?_
    refine jw_iret rfl ?_
    exact h
set_option maxHeartbeats 4000000 in
theorem e_48 {xs : Nat → Int32} {L d : Nat} {v0 : Int} {v1 : Int} {v2 : Int} {v3 : Int} {J K : jZ} {P : Int → jZ → jZ → Prop} (h : (-2147483648 ≤ v2 ∧ v2 < 2147483648) ∧ (-2147483648 ≤ v3 ∧ v3 < 2147483648) ∧ (-2147483648 ≤ v1 ∧ v1 < 2147483648) ∧ (-2147483648 ≤ (min v2 v3) ∧ (min v2 v3) < 2147483648) ∧ (-2147483648 ≤ (max v2 v3) ∧ (max v2 v3) < 2147483648) ∧ (-2147483648 ≤ v0 ∧ v0 < 2147483648) ∧ (¬ v0 = 1 → (¬ v0 = 3 → P ((((v1 + v2) + v3) - (min v1 (min v2 v3))) - (max v1 (max v2 v3))) J K) ∧ (v0 = 3 → P (max v1 (max v2 v3)) J K)) ∧ (v0 = 1 → P (min v1 (min v2 v3)) J K)) : q_48 xs L (d + 1) v0 v1 v2 v3 J K P := by
  unfold q_48
  refine jq_in (ls := [some (.int (Int32.ofInt v0)), some (.int (Int32.ofInt v1)), some (.int (Int32.ofInt v2)), some (.int (Int32.ofInt v3)), none, none]) rfl (Nat.le_of_ble_eq_true rfl) rfl ?_
  refine jw_iload_n rfl rfl ?_
  refine jw_iload_n rfl rfl ?_
  refine jw_iload_n rfl rfl ?_
  obtain ⟨o1, h⟩ := h
  obtain ⟨o2, h⟩ := h
  refine jw_min rfl o1 o2 (Nat.le_of_ble_eq_true rfl) ?_
  obtain ⟨o3, h⟩ := h
  obtain ⟨o4, h⟩ := h
  refine jw_min rfl o3 o4 (Nat.le_of_ble_eq_true rfl) ?_
  refine jw_istore (ls' := [some (.int (Int32.ofInt v0)), some (.int (Int32.ofInt v1)), some (.int (Int32.ofInt v2)), some (.int (Int32.ofInt v3)), some (.int (Int32.ofInt (min v1 (min v2 v3)))), none]) rfl rfl ?_
  refine jw_iload_n rfl rfl ?_
  refine jw_iload_n rfl rfl ?_
  refine jw_iload_n rfl rfl ?_
  refine jw_max rfl o1 o2 (Nat.le_of_ble_eq_true rfl) ?_
  obtain ⟨o5, h⟩ := h
  refine jw_max rfl o3 o5 (Nat.le_of_ble_eq_true rfl) ?_
  refine jw_istore (ls' := [some (.int (Int32.ofInt v0)), some (.int (Int32.ofInt v1)), some (.int (Int32.ofInt v2)), some (.int (Int32.ofInt v3)), some (.int (Int32.ofInt (min v1 (min v2 v3)))), some (.int (Int32.ofInt (max v1 (max v2 v3))))]) rfl rfl ?_
  refine jw_iload_n rfl rfl ?_
  refine jw_iconst rfl ?_
  obtain ⟨o6, h⟩ := h
  refine jw_ic_ne rfl o6 (by omega) (fun c7 => ?_) (fun c7 => ?_)
  · replace h := h.1 c7
    refine jw_iload_n rfl rfl ?_
    refine jw_iconst rfl ?_
    refine jw_ic_ne rfl o6 (by omega) (fun c8 => ?_) (fun c8 => ?_)
    · replace h := h.1 c8
      refine jw_iload_n rfl rfl ?_
      refine jw_iload_n rfl rfl ?_
      refine jw_iadd rfl ?_
      refine jw_iload_n rfl rfl ?_
      refine jw_iadd rfl ?_
      refine jw_iload rfl rfl ?_
      refine jw_isub rfl ?_
      refine jw_iload rfl rfl ?_
      refine jw_isub rfl ?_
      refine jw_iret rfl ?_
      exact h
    · replace h := h.2 c8
      refine jw_iload rfl rfl ?_
      refine jw_goto rfl ?_
      refine jw_iret rfl ?_
      exact h
  · replace h := h.2 c7
    refine jw_iload rfl rfl ?_
    refine jw_goto rfl ?_
    refine jw_iret rfl ?_
    exact h
set_option maxHeartbeats 4000000 in
theorem e_51 {xs : Nat → Int32} {L d : Nat} {v1 : Int} {v2 : Int} {J K : jZ} {P : jZ → jZ → Prop} (h : (-2147483648 ≤ v1 ∧ v1 < 2147483648) ∧ (v1 < 0 → P J K) ∧ (0 ≤ v1 → (60 ≤ v1 → P J K) ∧ (v1 < 60 → ((0 : Int) ≤ v1 ∧ v1 < 60) ∧ (-2147483648 ≤ J 67 v1.toNat ∧ J 67 v1.toNat < 2147483648) ∧ (-2147483648 ≤ v2 ∧ v2 < 2147483648) ∧ P (jm_up J 67 v1.toNat (min (J 67 v1.toNat) v2)) K))) : q_51 xs L (d + 1) v1 v2 J K P := by
  unfold q_51
  refine jq_in (ls := [some (.ref 66), some (.int (Int32.ofInt v1)), some (.int (Int32.ofInt v2))]) rfl (Nat.le_of_ble_eq_true rfl) rfl ?_
  refine jw_iload_n rfl rfl ?_
  obtain ⟨o1, h⟩ := h
  refine jw_if_lt rfl o1 (fun c2 => ?_) (fun c2 => ?_)
  · replace h := h.1 c2
    refine jw_vret rfl ?_
    exact h
  · replace h := h.2 c2
    refine jw_iload_n rfl rfl ?_
    refine jw_bipush rfl (by decide) ?_
    refine jw_ic_ge rfl o1 (by omega) (fun c3 => ?_) (fun c3 => ?_)
    · replace h := h.1 c3
      refine jw_vret rfl ?_
      exact h
    · replace h := h.2 c3
      refine jw_aload_n rfl rfl ?_
      refine jw_gr (q := 67) rfl rfl rfl ?_
      refine jw_iload_n rfl rfl ?_
      refine jw_aload_n rfl rfl ?_
      refine jw_gr (q := 67) rfl rfl rfl ?_
      refine jw_iload_n rfl rfl ?_
      obtain ⟨o4, h⟩ := h
      refine jw_iald (v := (J 67 v1.toNat)) (N := 60) rfl rfl rfl (by omega) o4 rfl ?_
      refine jw_iload_n rfl rfl ?_
      obtain ⟨o5, h⟩ := h
      obtain ⟨o6, h⟩ := h
      refine jw_min rfl o5 o6 (Nat.le_of_ble_eq_true rfl) ?_
      refine jw_iast (N := 60) rfl rfl rfl (by omega) o4 ?_
      refine jw_vret rfl ?_
      exact h
set_option maxHeartbeats 4000000 in
theorem e_52 {xs : Nat → Int32} {L d : Nat} {v1 : Nat} {J K : jZ} {P : jZ → jZ → Prop} (hk1 : jz_kd v1 = 16) (h : l_52_6 xs L d v1 60 59 J K P) : q_52 xs L (d + 1) v1 J K P := by
  unfold q_52
  refine jq_in (ls := [some (.ref 66), some (.ref v1), none, none]) rfl (Nat.le_of_ble_eq_true rfl) rfl ?_
  refine jw_bipush rfl (by decide) ?_
  refine jw_istore_n (ls' := [some (.ref 66), some (.ref v1), some (.int (Int32.ofInt 60)), none]) rfl rfl ?_
  refine jw_bipush rfl (by decide) ?_
  refine jw_istore_n (ls' := [some (.ref 66), some (.ref v1), some (.int (Int32.ofInt 60)), some (.int (Int32.ofInt 59))]) rfl rfl ?_
  exact jz_fg (l := [some (.ref 66), some (.ref v1), some (.int (Int32.ofInt 60)), some (.int (Int32.ofInt 59))]) ⟨rfl, rfl, rfl, rfl, trivial⟩ h
set_option maxHeartbeats 4000000 in
theorem e_52_6 {xs : Nat → Int32} {L d : Nat} {v1 : Nat} {v2 : Int} {v3 : Int} {J K : jZ} {P : jZ → jZ → Prop} (hk1 : jz_kd v1 = 16) (h : (-2147483648 ≤ v3 ∧ v3 < 2147483648) ∧ (v3 < 0 → l_52_51 xs L d v1 0 (jm_up J v1 2 0) K P) ∧ (0 ≤ v3 → ((0 : Int) ≤ v3 ∧ v3 < 60) ∧ (-2147483648 ≤ J 67 v3.toNat ∧ J 67 v3.toNat < 2147483648) ∧ (-2147483648 ≤ v2 ∧ v2 < 2147483648) ∧ (v2 ≤ (J 67 v3.toNat) → l_52_6 xs L d v1 v2 (v3 + (-1)) (jm_up J 67 v3.toNat 60) K P) ∧ ((J 67 v3.toNat) < v2 → l_52_6 xs L d v1 (J 67 v3.toNat) (v3 + (-1)) J K P))) : l_52_6 xs L d v1 v2 v3 J K P := by
  unfold l_52_6
  refine jw_iload_n rfl rfl ?_
  obtain ⟨o1, h⟩ := h
  refine jw_if_lt rfl o1 (fun c2 => ?_) (fun c2 => ?_)
  · replace h := h.1 c2
    refine jw_aload_n rfl rfl ?_
    refine jw_iconst rfl ?_
    refine jw_pf rfl hk1 ?_
    refine jw_iconst rfl ?_
    refine jw_istore_n (ls' := [some (.ref 66), some (.ref v1), some (.int (Int32.ofInt v2)), some (.int (Int32.ofInt 0))]) rfl rfl ?_
    exact jz_fg (l := [some (.ref 66), some (.ref v1), none, some (.int (Int32.ofInt 0))]) ⟨rfl, rfl, jz_ni, rfl, trivial⟩ h
  · replace h := h.2 c2
    refine jw_aload_n rfl rfl ?_
    refine jw_gr (q := 67) rfl rfl rfl ?_
    refine jw_iload_n rfl rfl ?_
    obtain ⟨o3, h⟩ := h
    refine jw_iald (v := (J 67 v3.toNat)) (N := 60) rfl rfl rfl (by omega) o3 rfl ?_
    refine jw_iload_n rfl rfl ?_
    obtain ⟨o4, h⟩ := h
    obtain ⟨o5, h⟩ := h
    refine jw_ic_ge rfl o4 o5 (fun c6 => ?_) (fun c6 => ?_)
    · replace h := h.1 c6
      refine jw_aload_n rfl rfl ?_
      refine jw_gr (q := 67) rfl rfl rfl ?_
      refine jw_iload_n rfl rfl ?_
      refine jw_bipush rfl (by decide) ?_
      refine jw_iast (N := 60) rfl rfl rfl (by omega) o3 ?_
      refine jw_iinc (ls' := [some (.ref 66), some (.ref v1), some (.int (Int32.ofInt v2)), some (.int (Int32.ofInt (v3 + (-1))))]) rfl rfl rfl ?_
      refine jw_goto rfl ?_
      exact jz_fg (l := [some (.ref 66), some (.ref v1), some (.int (Int32.ofInt v2)), some (.int (Int32.ofInt (v3 + (-1))))]) ⟨rfl, rfl, rfl, rfl, trivial⟩ h
    · replace h := h.2 c6
      refine jw_aload_n rfl rfl ?_
      refine jw_gr (q := 67) rfl rfl rfl ?_
      refine jw_iload_n rfl rfl ?_
      refine jw_iald (v := (J 67 v3.toNat)) (N := 60) rfl rfl rfl (by omega) o3 rfl ?_
      refine jw_istore_n (ls' := [some (.ref 66), some (.ref v1), some (.int (Int32.ofInt (J 67 v3.toNat))), some (.int (Int32.ofInt v3))]) rfl rfl ?_
      refine jw_goto rfl ?_
      refine jw_iinc (ls' := [some (.ref 66), some (.ref v1), some (.int (Int32.ofInt (J 67 v3.toNat))), some (.int (Int32.ofInt (v3 + (-1))))]) rfl rfl rfl ?_
      refine jw_goto rfl ?_
      exact jz_fg (l := [some (.ref 66), some (.ref v1), some (.int (Int32.ofInt (J 67 v3.toNat))), some (.int (Int32.ofInt (v3 + (-1))))]) ⟨rfl, rfl, rfl, rfl, trivial⟩ h
set_option maxHeartbeats 4000000 in
theorem e_52_51 {xs : Nat → Int32} {L d : Nat} {v1 : Nat} {v3 : Int} {J K : jZ} {P : jZ → jZ → Prop} (hk1 : jz_kd v1 = 16) (h : (-2147483648 ≤ v3 ∧ v3 < 2147483648) ∧ (60 ≤ v3 → P J K) ∧ (v3 < 60 → ((0 : Int) ≤ v3 ∧ v3 < 60) ∧ (-2147483648 ≤ J 67 v3.toNat ∧ J 67 v3.toNat < 2147483648) ∧ (60 ≤ (J 67 v3.toNat) → l_52_51 xs L d v1 (v3 + 1) J K P) ∧ ((J 67 v3.toNat) < 60 → q_37 xs L d v1 v3 (J 67 v3.toNat) J K (fun J6 K7 => l_52_51 xs L d v1 (v3 + 1) J6 K7 P)))) : l_52_51 xs L d v1 v3 J K P := by
  unfold l_52_51
  refine jw_iload_n rfl rfl ?_
  refine jw_bipush rfl (by decide) ?_
  obtain ⟨o1, h⟩ := h
  refine jw_ic_ge rfl o1 (by omega) (fun c2 => ?_) (fun c2 => ?_)
  · replace h := h.1 c2
    refine jw_vret rfl ?_
    exact h
  · replace h := h.2 c2
    refine jw_aload_n rfl rfl ?_
    refine jw_gr (q := 67) rfl rfl rfl ?_
    refine jw_iload_n rfl rfl ?_
    obtain ⟨o3, h⟩ := h
    refine jw_iald (v := (J 67 v3.toNat)) (N := 60) rfl rfl rfl (by omega) o3 rfl ?_
    refine jw_bipush rfl (by decide) ?_
    obtain ⟨o4, h⟩ := h
    refine jw_ic_ge rfl o4 (by omega) (fun c5 => ?_) (fun c5 => ?_)
    · replace h := h.1 c5
      refine jw_iinc (ls' := [some (.ref 66), some (.ref v1), none, some (.int (Int32.ofInt (v3 + 1)))]) rfl rfl rfl ?_
      refine jw_goto rfl ?_
      exact jz_fg (l := [some (.ref 66), some (.ref v1), none, some (.int (Int32.ofInt (v3 + 1)))]) ⟨rfl, rfl, jz_n0, rfl, trivial⟩ h
    · replace h := h.2 c5
      refine jw_aload_n rfl rfl ?_
      refine jw_iload_n rfl rfl ?_
      refine jw_aload_n rfl rfl ?_
      refine jw_gr (q := 67) rfl rfl rfl ?_
      refine jw_iload_n rfl rfl ?_
      refine jw_iald (v := (J 67 v3.toNat)) (N := 60) rfl rfl rfl (by omega) o3 rfl ?_
      refine jw_virt (k := 2) (c := 15) (as := [.int (Int32.ofInt v3), .int (Int32.ofInt (J 67 v3.toNat))]) rfl rfl rfl (Nat.le_of_ble_eq_true rfl) rfl (Nat.le_of_ble_eq_true rfl) hk1 rfl (jz_cv ?_)
      refine jm_Q.mono h (jp_v_mono (fun J6 K7 h => ?_))
      refine jw_iinc (ls' := [some (.ref 66), some (.ref v1), none, some (.int (Int32.ofInt (v3 + 1)))]) rfl rfl rfl ?_
      refine jw_goto rfl ?_
      exact jz_fg (l := [some (.ref 66), some (.ref v1), none, some (.int (Int32.ofInt (v3 + 1)))]) ⟨rfl, rfl, jz_n0, rfl, trivial⟩ h
set_option maxHeartbeats 4000000 in
theorem e_53 {xs : Nat → Int32} {L d : Nat} {v1 : Int} {v2 : Nat} {v3 : Nat} {v4 : Nat} {J K : jZ} {P : jZ → jZ → Prop} (hk2 : jz_kd v2 = 16) (hk3 : jz_kd v3 = 16) (hk4 : jz_kd v4 = 16) (h : (-2147483648 ≤ v1 ∧ v1 < 2147483648) ∧ (v1 < 5 → q_42 xs L d J K (fun J3 K4 => (¬ v1 = 4 → (¬ v1 = 2 → q_44 xs L d 2 v2 v3 63 J3 K4 (fun J7 K8 => q_52 xs L d v4 J7 K8 (fun J9 K10 => P J9 K10))) ∧ (v1 = 2 → q_44 xs L d 1 v2 v3 63 J3 K4 (fun J11 K12 => q_52 xs L d v4 J11 K12 (fun J13 K14 => P J13 K14)))) ∧ (v1 = 4 → q_55 xs L d v2 v3 J3 K4 (fun J15 K16 => q_52 xs L d v4 J15 K16 (fun J17 K18 => P J17 K18))))) ∧ (5 ≤ v1 → q_54 xs L d v1 v2 v3 v4 J K (fun J19 K20 => P J19 K20))) : q_53 xs L (d + 1) v1 v2 v3 v4 J K P := by
  unfold q_53
  refine jq_in (ls := [some (.ref 61), some (.int (Int32.ofInt v1)), some (.ref v2), some (.ref v3), some (.ref v4)]) rfl (Nat.le_of_ble_eq_true rfl) rfl ?_
  refine jw_iload_n rfl rfl ?_
  refine jw_iconst rfl ?_
  obtain ⟨o1, h⟩ := h
  refine jw_ic_lt rfl o1 (by omega) (fun c2 => ?_) (fun c2 => ?_)
  · replace h := h.1 c2
    refine jw_aload_n rfl rfl ?_
    refine jw_gr (q := 66) rfl rfl rfl ?_
    refine jw_virt (k := 0) (c := 12) (as := []) rfl rfl rfl (Nat.le_of_ble_eq_true rfl) rfl (Nat.le_of_ble_eq_true rfl) rfl rfl (jz_cv ?_)
    refine jm_Q.mono h (jp_v_mono (fun J3 K4 h => ?_))
    refine jw_iload_n rfl rfl ?_
    refine jw_iconst rfl ?_
    refine jw_ic_ne rfl o1 (by omega) (fun c5 => ?_) (fun c5 => ?_)
    · replace h := h.1 c5
      refine jw_aload_n rfl rfl ?_
      refine jw_iload_n rfl rfl ?_
      refine jw_iconst rfl ?_
      refine jw_ic_ne rfl o1 (by omega) (fun c6 => ?_) (fun c6 => ?_)
      · replace h := h.1 c6
        refine jw_iconst rfl ?_
        refine jw_aload_n rfl rfl ?_
        refine jw_aload_n rfl rfl ?_
        refine jw_aload_n rfl rfl ?_
        refine jw_gr (q := 63) rfl rfl rfl ?_
        refine jw_virt (k := 4) (c := 13) (as := [.int (Int32.ofInt 2), .ref v2, .ref v3, .ref 63]) rfl rfl rfl (Nat.le_of_ble_eq_true rfl) rfl (Nat.le_of_ble_eq_true rfl) rfl rfl (jz_cv ?_)
        refine jm_Q.mono h (jp_v_mono (fun J7 K8 h => ?_))
        refine jw_aload_n rfl rfl ?_
        refine jw_gr (q := 66) rfl rfl rfl ?_
        refine jw_aload rfl rfl ?_
        refine jw_virt (k := 1) (c := 12) (as := [.ref v4]) rfl rfl rfl (Nat.le_of_ble_eq_true rfl) rfl (Nat.le_of_ble_eq_true rfl) rfl rfl (jz_cv ?_)
        refine jm_Q.mono h (jp_v_mono (fun J9 K10 h => ?_))
        refine jw_vret rfl ?_
        exact h
      · replace h := h.2 c6
        refine jw_iconst rfl ?_
        refine jw_goto rfl ?_
        refine jw_aload_n rfl rfl ?_
        refine jw_aload_n rfl rfl ?_
        refine jw_aload_n rfl rfl ?_
        refine jw_gr (q := 63) rfl rfl rfl ?_
        refine jw_virt (k := 4) (c := 13) (as := [.int (Int32.ofInt 1), .ref v2, .ref v3, .ref 63]) rfl rfl rfl (Nat.le_of_ble_eq_true rfl) rfl (Nat.le_of_ble_eq_true rfl) rfl rfl (jz_cv ?_)
        refine jm_Q.mono h (jp_v_mono (fun J11 K12 h => ?_))
        refine jw_aload_n rfl rfl ?_
        refine jw_gr (q := 66) rfl rfl rfl ?_
        refine jw_aload rfl rfl ?_
        refine jw_virt (k := 1) (c := 12) (as := [.ref v4]) rfl rfl rfl (Nat.le_of_ble_eq_true rfl) rfl (Nat.le_of_ble_eq_true rfl) rfl rfl (jz_cv ?_)
        refine jm_Q.mono h (jp_v_mono (fun J13 K14 h => ?_))
        refine jw_vret rfl ?_
        exact h
    · replace h := h.2 c5
      refine jw_aload_n rfl rfl ?_
      refine jw_aload_n rfl rfl ?_
      refine jw_aload_n rfl rfl ?_
      refine jw_virt (k := 2) (c := 13) (as := [.ref v2, .ref v3]) rfl rfl rfl (Nat.le_of_ble_eq_true rfl) rfl (Nat.le_of_ble_eq_true rfl) rfl rfl (jz_cv ?_)
      refine jm_Q.mono h (jp_v_mono (fun J15 K16 h => ?_))
      refine jw_goto rfl ?_
      refine jw_aload_n rfl rfl ?_
      refine jw_gr (q := 66) rfl rfl rfl ?_
      refine jw_aload rfl rfl ?_
      refine jw_virt (k := 1) (c := 12) (as := [.ref v4]) rfl rfl rfl (Nat.le_of_ble_eq_true rfl) rfl (Nat.le_of_ble_eq_true rfl) rfl rfl (jz_cv ?_)
      refine jm_Q.mono h (jp_v_mono (fun J17 K18 h => ?_))
      refine jw_vret rfl ?_
      exact h
  · replace h := h.2 c2
    refine jw_aload_n rfl rfl ?_
    refine jw_iload_n rfl rfl ?_
    refine jw_aload_n rfl rfl ?_
    refine jw_aload_n rfl rfl ?_
    refine jw_aload rfl rfl ?_
    refine jw_virt (k := 4) (c := 13) (as := [.int (Int32.ofInt v1), .ref v2, .ref v3, .ref v4]) rfl rfl rfl (Nat.le_of_ble_eq_true rfl) rfl (Nat.le_of_ble_eq_true rfl) rfl rfl (jz_cv ?_)
    refine jm_Q.mono h (jp_v_mono (fun J19 K20 h => ?_))
    refine jw_vret rfl ?_
    exact h
set_option maxHeartbeats 4000000 in
theorem e_54 {xs : Nat → Int32} {L d : Nat} {v1 : Int} {v2 : Nat} {v3 : Nat} {v4 : Nat} {J K : jZ} {P : jZ → jZ → Prop} (hk2 : jz_kd v2 = 16) (hk3 : jz_kd v3 = 16) (hk4 : jz_kd v4 = 16) (h : (-2147483648 ≤ v1 ∧ v1 < 2147483648) ∧ (v1 = 5 → l_54_18 xs L d v1 v2 v3 v4 1 J K P) ∧ (¬ v1 = 5 → (¬ v1 = 6 → l_54_18 xs L d v1 v2 v3 v4 0 J K P) ∧ (v1 = 6 → l_54_18 xs L d v1 v2 v3 v4 1 J K P))) : q_54 xs L (d + 1) v1 v2 v3 v4 J K P := by
  unfold q_54
  refine jq_in (ls := [some (.ref 61), some (.int (Int32.ofInt v1)), some (.ref v2), some (.ref v3), some (.ref v4), none, none, none, none, none, none, none, none]) rfl (Nat.le_of_ble_eq_true rfl) rfl ?_
  refine jw_iload_n rfl rfl ?_
  refine jw_iconst rfl ?_
  obtain ⟨o1, h⟩ := h
  refine jw_ic_eq rfl o1 (by omega) (fun c2 => ?_) (fun c2 => ?_)
  · replace h := h.1 c2
    refine jw_iconst rfl ?_
    refine jw_goto rfl ?_
    refine jw_istore (ls' := [some (.ref 61), some (.int (Int32.ofInt v1)), some (.ref v2), some (.ref v3), some (.ref v4), some (.int (Int32.ofInt 1)), none, none, none, none, none, none, none]) rfl rfl ?_
    exact jz_fg (l := [none, some (.int (Int32.ofInt v1)), some (.ref v2), some (.ref v3), some (.ref v4), some (.int (Int32.ofInt 1)), none, none, none, none, none, none, none]) ⟨jz_nr, rfl, rfl, rfl, rfl, rfl, jz_n0, jz_n0, jz_n0, jz_n0, jz_n0, jz_n0, jz_n0, trivial⟩ h
  · replace h := h.2 c2
    refine jw_iload_n rfl rfl ?_
    refine jw_bipush rfl (by decide) ?_
    refine jw_ic_ne rfl o1 (by omega) (fun c3 => ?_) (fun c3 => ?_)
    · replace h := h.1 c3
      refine jw_iconst rfl ?_
      refine jw_istore (ls' := [some (.ref 61), some (.int (Int32.ofInt v1)), some (.ref v2), some (.ref v3), some (.ref v4), some (.int (Int32.ofInt 0)), none, none, none, none, none, none, none]) rfl rfl ?_
      exact jz_fg (l := [none, some (.int (Int32.ofInt v1)), some (.ref v2), some (.ref v3), some (.ref v4), some (.int (Int32.ofInt 0)), none, none, none, none, none, none, none]) ⟨jz_nr, rfl, rfl, rfl, rfl, rfl, jz_n0, jz_n0, jz_n0, jz_n0, jz_n0, jz_n0, jz_n0, trivial⟩ h
    · replace h := h.2 c3
      refine jw_iconst rfl ?_
      refine jw_goto rfl ?_
      refine jw_istore (ls' := [some (.ref 61), some (.int (Int32.ofInt v1)), some (.ref v2), some (.ref v3), some (.ref v4), some (.int (Int32.ofInt 1)), none, none, none, none, none, none, none]) rfl rfl ?_
      exact jz_fg (l := [none, some (.int (Int32.ofInt v1)), some (.ref v2), some (.ref v3), some (.ref v4), some (.int (Int32.ofInt 1)), none, none, none, none, none, none, none]) ⟨jz_nr, rfl, rfl, rfl, rfl, rfl, jz_n0, jz_n0, jz_n0, jz_n0, jz_n0, jz_n0, jz_n0, trivial⟩ h
set_option maxHeartbeats 4000000 in
theorem e_54_18 {xs : Nat → Int32} {L d : Nat} {v1 : Int} {v2 : Nat} {v3 : Nat} {v4 : Nat} {v5 : Int} {J K : jZ} {P : jZ → jZ → Prop} (hk2 : jz_kd v2 = 16) (hk3 : jz_kd v3 = 16) (hk4 : jz_kd v4 = 16) (h : (-2147483648 ≤ v1 ∧ v1 < 2147483648) ∧ (v1 = 5 → l_54_36 xs L d v2 v3 v4 v5 1 J K P) ∧ (¬ v1 = 5 → (¬ v1 = 7 → l_54_36 xs L d v2 v3 v4 v5 0 J K P) ∧ (v1 = 7 → l_54_36 xs L d v2 v3 v4 v5 1 J K P))) : l_54_18 xs L d v1 v2 v3 v4 v5 J K P := by
  unfold l_54_18
  refine jw_iload_n rfl rfl ?_
  refine jw_iconst rfl ?_
  obtain ⟨o1, h⟩ := h
  refine jw_ic_eq rfl o1 (by omega) (fun c2 => ?_) (fun c2 => ?_)
  · replace h := h.1 c2
    refine jw_iconst rfl ?_
    refine jw_goto rfl ?_
    refine jw_istore (ls' := [none, some (.int (Int32.ofInt v1)), some (.ref v2), some (.ref v3), some (.ref v4), some (.int (Int32.ofInt v5)), some (.int (Int32.ofInt 1)), none, none, none, none, none, none]) rfl rfl ?_
    exact jz_fg (l := [none, none, some (.ref v2), some (.ref v3), some (.ref v4), some (.int (Int32.ofInt v5)), some (.int (Int32.ofInt 1)), none, none, none, none, none, none]) ⟨jz_n0, jz_ni, rfl, rfl, rfl, rfl, rfl, jz_n0, jz_n0, jz_n0, jz_n0, jz_n0, jz_n0, trivial⟩ h
  · replace h := h.2 c2
    refine jw_iload_n rfl rfl ?_
    refine jw_bipush rfl (by decide) ?_
    refine jw_ic_ne rfl o1 (by omega) (fun c3 => ?_) (fun c3 => ?_)
    · replace h := h.1 c3
      refine jw_iconst rfl ?_
      refine jw_istore (ls' := [none, some (.int (Int32.ofInt v1)), some (.ref v2), some (.ref v3), some (.ref v4), some (.int (Int32.ofInt v5)), some (.int (Int32.ofInt 0)), none, none, none, none, none, none]) rfl rfl ?_
      exact jz_fg (l := [none, none, some (.ref v2), some (.ref v3), some (.ref v4), some (.int (Int32.ofInt v5)), some (.int (Int32.ofInt 0)), none, none, none, none, none, none]) ⟨jz_n0, jz_ni, rfl, rfl, rfl, rfl, rfl, jz_n0, jz_n0, jz_n0, jz_n0, jz_n0, jz_n0, trivial⟩ h
    · replace h := h.2 c3
      refine jw_iconst rfl ?_
      refine jw_goto rfl ?_
      refine jw_istore (ls' := [none, some (.int (Int32.ofInt v1)), some (.ref v2), some (.ref v3), some (.ref v4), some (.int (Int32.ofInt v5)), some (.int (Int32.ofInt 1)), none, none, none, none, none, none]) rfl rfl ?_
      exact jz_fg (l := [none, none, some (.ref v2), some (.ref v3), some (.ref v4), some (.int (Int32.ofInt v5)), some (.int (Int32.ofInt 1)), none, none, none, none, none, none]) ⟨jz_n0, jz_ni, rfl, rfl, rfl, rfl, rfl, jz_n0, jz_n0, jz_n0, jz_n0, jz_n0, jz_n0, trivial⟩ h
set_option maxHeartbeats 4000000 in
theorem e_54_36 {xs : Nat → Int32} {L d : Nat} {v2 : Nat} {v3 : Nat} {v4 : Nat} {v5 : Int} {v6 : Int} {J K : jZ} {P : jZ → jZ → Prop} (hk2 : jz_kd v2 = 16) (hk3 : jz_kd v3 = 16) (hk4 : jz_kd v4 = 16) (h : l_54_54 xs L d v2 v3 v4 v5 v6 (J v2 2) 0 0 (jm_up J v4 2 0) K P) : l_54_36 xs L d v2 v3 v4 v5 v6 J K P := by
  unfold l_54_36
  refine jw_aload_n rfl rfl ?_
  refine jw_gf (v := (J v2 2)) rfl (by decide) hk2 rfl ?_
  refine jw_istore (ls' := [none, none, some (.ref v2), some (.ref v3), some (.ref v4), some (.int (Int32.ofInt v5)), some (.int (Int32.ofInt v6)), some (.int (Int32.ofInt (J v2 2))), none, none, none, none, none]) rfl rfl ?_
  refine jw_iconst rfl ?_
  refine jw_istore (ls' := [none, none, some (.ref v2), some (.ref v3), some (.ref v4), some (.int (Int32.ofInt v5)), some (.int (Int32.ofInt v6)), some (.int (Int32.ofInt (J v2 2))), some (.int (Int32.ofInt 0)), none, none, none, none]) rfl rfl ?_
  refine jw_aload rfl rfl ?_
  refine jw_iconst rfl ?_
  refine jw_pf rfl hk4 ?_
  refine jw_iconst rfl ?_
  refine jw_istore (ls' := [none, none, some (.ref v2), some (.ref v3), some (.ref v4), some (.int (Int32.ofInt v5)), some (.int (Int32.ofInt v6)), some (.int (Int32.ofInt (J v2 2))), some (.int (Int32.ofInt 0)), some (.int (Int32.ofInt 0)), none, none, none]) rfl rfl ?_
  exact jz_fg (l := [none, none, some (.ref v2), some (.ref v3), some (.ref v4), some (.int (Int32.ofInt v5)), some (.int (Int32.ofInt v6)), some (.int (Int32.ofInt (J v2 2))), some (.int (Int32.ofInt 0)), some (.int (Int32.ofInt 0)), none, none, none]) ⟨jz_n0, jz_n0, rfl, rfl, rfl, rfl, rfl, rfl, rfl, rfl, jz_n0, jz_n0, jz_n0, trivial⟩ h
set_option maxHeartbeats 4000000 in
theorem e_54_54 {xs : Nat → Int32} {L d : Nat} {v2 : Nat} {v3 : Nat} {v4 : Nat} {v5 : Int} {v6 : Int} {v7 : Int} {v8 : Int} {v9 : Int} {J K : jZ} {P : jZ → jZ → Prop} (hk2 : jz_kd v2 = 16) (hk3 : jz_kd v3 = 16) (hk4 : jz_kd v4 = 16) (h : (-2147483648 ≤ v9 ∧ v9 < 2147483648) ∧ (-2147483648 ≤ v7 ∧ v7 < 2147483648) ∧ (v7 ≤ v9 → P J K) ∧ (v9 < v7 → ((0 : Int) ≤ v9 ∧ v9 < 60) ∧ (-2147483648 ≤ v5 ∧ v5 < 2147483648) ∧ (v5 = 0 → (-2147483648 ≤ J (v2 + 1) v9.toNat ∧ J (v2 + 1) v9.toNat < 2147483648) ∧ q_45 xs L d v3 v8 (J (v2 + 1) v9.toNat) J K (fun r10 J8 K9 => q_46 xs L d v3 r10 J8 K9 (fun r13 J11 K12 => (-2147483648 ≤ r13 ∧ r13 < 2147483648) ∧ (-2147483648 ≤ J (v2 + 2) v9.toNat ∧ J (v2 + 2) v9.toNat < 2147483648) ∧ ((J (v2 + 2) v9.toNat) < r13 → l_54_152 xs L d v2 v3 v4 v5 v6 v7 r10 v9 (J (v2 + 1) v9.toNat) (J (v2 + 2) v9.toNat) 0 J11 K12 P) ∧ (r13 ≤ (J (v2 + 2) v9.toNat) → l_54_152 xs L d v2 v3 v4 v5 v6 v7 r10 v9 (J (v2 + 1) v9.toNat) (J (v2 + 2) v9.toNat) 1 J11 K12 P)))) ∧ (¬ v5 = 0 → (-2147483648 ≤ ((J (v2 + 1) v9.toNat) + 1) ∧ ((J (v2 + 1) v9.toNat) + 1) < 2147483648) ∧ q_45 xs L d v3 v8 ((J (v2 + 1) v9.toNat) + 1) J K (fun r20 J18 K19 => (-2147483648 ≤ r20 ∧ r20 < 2147483648) ∧ (r20 ≤ 0 → l_54_130 xs L d v2 v3 v4 v5 v6 v7 r20 v9 (J (v2 + 1) v9.toNat) (J (v2 + 2) v9.toNat) J18 K19 P) ∧ (0 < r20 → q_46 xs L d v3 (r20 - 1) J18 K19 (fun r25 J23 K24 => (-2147483648 ≤ r25 ∧ r25 < 2147483648) ∧ (-2147483648 ≤ J (v2 + 2) v9.toNat ∧ J (v2 + 2) v9.toNat < 2147483648) ∧ (r25 < (J (v2 + 2) v9.toNat) → l_54_130 xs L d v2 v3 v4 v5 v6 v7 r20 v9 (J (v2 + 1) v9.toNat) (J (v2 + 2) v9.toNat) J23 K24 P) ∧ ((J (v2 + 2) v9.toNat) ≤ r25 → l_54_152 xs L d v2 v3 v4 v5 v6 v7 r20 v9 (J (v2 + 1) v9.toNat) (J (v2 + 2) v9.toNat) 1 J23 K24 P))))))) : l_54_54 xs L d v2 v3 v4 v5 v6 v7 v8 v9 J K P := by
  unfold l_54_54
  refine jw_iload rfl rfl ?_
  refine jw_iload rfl rfl ?_
  obtain ⟨o1, h⟩ := h
  obtain ⟨o2, h⟩ := h
  refine jw_ic_ge rfl o1 o2 (fun c3 => ?_) (fun c3 => ?_)
  · replace h := h.1 c3
    refine jw_vret rfl ?_
    exact h
  · replace h := h.2 c3
    refine jw_aload_n rfl rfl ?_
    refine jw_gr (q := (v2 + 1)) rfl hk2 (jzr_16_1 hk2) ?_
    refine jw_iload rfl rfl ?_
    obtain ⟨o4, h⟩ := h
    refine jw_iald (v := (J (v2 + 1) v9.toNat)) (N := 60) rfl (jzk_16_1 hk2) (jzn_16_1 hk2) (by omega) o4 rfl ?_
    refine jw_istore (ls' := [none, none, some (.ref v2), some (.ref v3), some (.ref v4), some (.int (Int32.ofInt v5)), some (.int (Int32.ofInt v6)), some (.int (Int32.ofInt v7)), some (.int (Int32.ofInt v8)), some (.int (Int32.ofInt v9)), some (.int (Int32.ofInt (J (v2 + 1) v9.toNat))), none, none]) rfl rfl ?_
    refine jw_aload_n rfl rfl ?_
    refine jw_gr (q := (v2 + 2)) rfl hk2 (jzr_16_2 hk2) ?_
    refine jw_iload rfl rfl ?_
    refine jw_iald (v := (J (v2 + 2) v9.toNat)) (N := 60) rfl (jzk_16_2 hk2) (jzn_16_2 hk2) (by omega) o4 rfl ?_
    refine jw_istore (ls' := [none, none, some (.ref v2), some (.ref v3), some (.ref v4), some (.int (Int32.ofInt v5)), some (.int (Int32.ofInt v6)), some (.int (Int32.ofInt v7)), some (.int (Int32.ofInt v8)), some (.int (Int32.ofInt v9)), some (.int (Int32.ofInt (J (v2 + 1) v9.toNat))), some (.int (Int32.ofInt (J (v2 + 2) v9.toNat))), none]) rfl rfl ?_
    refine jw_aload_n rfl rfl ?_
    refine jw_iload rfl rfl ?_
    refine jw_iload rfl rfl ?_
    obtain ⟨o5, h⟩ := h
    refine jw_if_eq rfl o5 (fun c6 => ?_) (fun c6 => ?_)
    · replace h := h.1 c6
      refine jw_iload rfl rfl ?_
      obtain ⟨o7, h⟩ := h
      refine jw_i2l rfl o7 ?_
      refine jw_virt (k := 2) (c := 15) (as := [.int (Int32.ofInt v8), .long (Int64.ofInt (J (v2 + 1) v9.toNat))]) rfl rfl rfl (Nat.le_of_ble_eq_true rfl) rfl (Nat.le_of_ble_eq_true rfl) hk3 rfl (jz_ci ?_)
      refine jm_Q.mono h (jp_i_mono (fun r10 J8 K9 h => ?_))
      refine jw_istore (ls' := [none, none, some (.ref v2), some (.ref v3), some (.ref v4), some (.int (Int32.ofInt v5)), some (.int (Int32.ofInt v6)), some (.int (Int32.ofInt v7)), some (.int (Int32.ofInt r10)), some (.int (Int32.ofInt v9)), some (.int (Int32.ofInt (J (v2 + 1) v9.toNat))), some (.int (Int32.ofInt (J (v2 + 2) v9.toNat))), none]) rfl rfl ?_
      refine jw_iload rfl rfl ?_
      refine jw_if_eq rfl o5 (fun _ => ?_) (fun hc => by exfalso; omega)
      refine jw_aload_n rfl rfl ?_
      refine jw_iload rfl rfl ?_
      refine jw_virt (k := 1) (c := 15) (as := [.int (Int32.ofInt r10)]) rfl rfl rfl (Nat.le_of_ble_eq_true rfl) rfl (Nat.le_of_ble_eq_true rfl) hk3 rfl (jz_ci ?_)
      refine jm_Q.mono h (jp_i_mono (fun r13 J11 K12 h => ?_))
      refine jw_iload rfl rfl ?_
      obtain ⟨o14, h⟩ := h
      obtain ⟨o15, h⟩ := h
      refine jw_ic_gt rfl o14 o15 (fun c16 => ?_) (fun c16 => ?_)
      · replace h := h.1 c16
        refine jw_iconst rfl ?_
        refine jw_istore (ls' := [none, none, some (.ref v2), some (.ref v3), some (.ref v4), some (.int (Int32.ofInt v5)), some (.int (Int32.ofInt v6)), some (.int (Int32.ofInt v7)), some (.int (Int32.ofInt r10)), some (.int (Int32.ofInt v9)), some (.int (Int32.ofInt (J (v2 + 1) v9.toNat))), some (.int (Int32.ofInt (J (v2 + 2) v9.toNat))), some (.int (Int32.ofInt 0))]) rfl rfl ?_
        exact jz_fg (l := [none, none, some (.ref v2), some (.ref v3), some (.ref v4), some (.int (Int32.ofInt v5)), some (.int (Int32.ofInt v6)), some (.int (Int32.ofInt v7)), some (.int (Int32.ofInt r10)), some (.int (Int32.ofInt v9)), some (.int (Int32.ofInt (J (v2 + 1) v9.toNat))), some (.int (Int32.ofInt (J (v2 + 2) v9.toNat))), some (.int (Int32.ofInt 0))]) ⟨jz_n0, jz_n0, rfl, rfl, rfl, rfl, rfl, rfl, rfl, rfl, rfl, rfl, rfl, trivial⟩ h
      · replace h := h.2 c16
        refine jw_iconst rfl ?_
        refine jw_goto rfl ?_
        refine jw_istore (ls' := [none, none, some (.ref v2), some (.ref v3), some (.ref v4), some (.int (Int32.ofInt v5)), some (.int (Int32.ofInt v6)), some (.int (Int32.ofInt v7)), some (.int (Int32.ofInt r10)), some (.int (Int32.ofInt v9)), some (.int (Int32.ofInt (J (v2 + 1) v9.toNat))), some (.int (Int32.ofInt (J (v2 + 2) v9.toNat))), some (.int (Int32.ofInt 1))]) rfl rfl ?_
        exact jz_fg (l := [none, none, some (.ref v2), some (.ref v3), some (.ref v4), some (.int (Int32.ofInt v5)), some (.int (Int32.ofInt v6)), some (.int (Int32.ofInt v7)), some (.int (Int32.ofInt r10)), some (.int (Int32.ofInt v9)), some (.int (Int32.ofInt (J (v2 + 1) v9.toNat))), some (.int (Int32.ofInt (J (v2 + 2) v9.toNat))), some (.int (Int32.ofInt 1))]) ⟨jz_n0, jz_n0, rfl, rfl, rfl, rfl, rfl, rfl, rfl, rfl, rfl, rfl, rfl, trivial⟩ h
    · replace h := h.2 c6
      refine jw_iload rfl rfl ?_
      refine jw_iconst rfl ?_
      refine jw_iadd rfl ?_
      obtain ⟨o17, h⟩ := h
      refine jw_i2l rfl o17 ?_
      refine jw_goto rfl ?_
      refine jw_virt (k := 2) (c := 15) (as := [.int (Int32.ofInt v8), .long (Int64.ofInt ((J (v2 + 1) v9.toNat) + 1))]) rfl rfl rfl (Nat.le_of_ble_eq_true rfl) rfl (Nat.le_of_ble_eq_true rfl) hk3 rfl (jz_ci ?_)
      refine jm_Q.mono h (jp_i_mono (fun r20 J18 K19 h => ?_))
      refine jw_istore (ls' := [none, none, some (.ref v2), some (.ref v3), some (.ref v4), some (.int (Int32.ofInt v5)), some (.int (Int32.ofInt v6)), some (.int (Int32.ofInt v7)), some (.int (Int32.ofInt r20)), some (.int (Int32.ofInt v9)), some (.int (Int32.ofInt (J (v2 + 1) v9.toNat))), some (.int (Int32.ofInt (J (v2 + 2) v9.toNat))), none]) rfl rfl ?_
      refine jw_iload rfl rfl ?_
      refine jw_if_eq rfl o5 (fun hc => by exfalso; omega) (fun _ => ?_)
      refine jw_iload rfl rfl ?_
      obtain ⟨o21, h⟩ := h
      refine jw_if_le rfl o21 (fun c22 => ?_) (fun c22 => ?_)
      · replace h := h.1 c22
        exact jz_fg (l := [none, none, some (.ref v2), some (.ref v3), some (.ref v4), some (.int (Int32.ofInt v5)), some (.int (Int32.ofInt v6)), some (.int (Int32.ofInt v7)), some (.int (Int32.ofInt r20)), some (.int (Int32.ofInt v9)), some (.int (Int32.ofInt (J (v2 + 1) v9.toNat))), some (.int (Int32.ofInt (J (v2 + 2) v9.toNat))), none]) ⟨jz_n0, jz_n0, rfl, rfl, rfl, rfl, rfl, rfl, rfl, rfl, rfl, rfl, jz_n0, trivial⟩ h
      · replace h := h.2 c22
        refine jw_aload_n rfl rfl ?_
        refine jw_iload rfl rfl ?_
        refine jw_iconst rfl ?_
        refine jw_isub rfl ?_
        refine jw_virt (k := 1) (c := 15) (as := [.int (Int32.ofInt (r20 - 1))]) rfl rfl rfl (Nat.le_of_ble_eq_true rfl) rfl (Nat.le_of_ble_eq_true rfl) hk3 rfl (jz_ci ?_)
        refine jm_Q.mono h (jp_i_mono (fun r25 J23 K24 h => ?_))
        refine jw_iload rfl rfl ?_
        obtain ⟨o26, h⟩ := h
        obtain ⟨o27, h⟩ := h
        refine jw_ic_lt rfl o26 o27 (fun c28 => ?_) (fun c28 => ?_)
        · replace h := h.1 c28
          exact jz_fg (l := [none, none, some (.ref v2), some (.ref v3), some (.ref v4), some (.int (Int32.ofInt v5)), some (.int (Int32.ofInt v6)), some (.int (Int32.ofInt v7)), some (.int (Int32.ofInt r20)), some (.int (Int32.ofInt v9)), some (.int (Int32.ofInt (J (v2 + 1) v9.toNat))), some (.int (Int32.ofInt (J (v2 + 2) v9.toNat))), none]) ⟨jz_n0, jz_n0, rfl, rfl, rfl, rfl, rfl, rfl, rfl, rfl, rfl, rfl, jz_n0, trivial⟩ h
        · replace h := h.2 c28
          refine jw_iconst rfl ?_
          refine jw_goto rfl ?_
          refine jw_istore (ls' := [none, none, some (.ref v2), some (.ref v3), some (.ref v4), some (.int (Int32.ofInt v5)), some (.int (Int32.ofInt v6)), some (.int (Int32.ofInt v7)), some (.int (Int32.ofInt r20)), some (.int (Int32.ofInt v9)), some (.int (Int32.ofInt (J (v2 + 1) v9.toNat))), some (.int (Int32.ofInt (J (v2 + 2) v9.toNat))), some (.int (Int32.ofInt 1))]) rfl rfl ?_
          exact jz_fg (l := [none, none, some (.ref v2), some (.ref v3), some (.ref v4), some (.int (Int32.ofInt v5)), some (.int (Int32.ofInt v6)), some (.int (Int32.ofInt v7)), some (.int (Int32.ofInt r20)), some (.int (Int32.ofInt v9)), some (.int (Int32.ofInt (J (v2 + 1) v9.toNat))), some (.int (Int32.ofInt (J (v2 + 2) v9.toNat))), some (.int (Int32.ofInt 1))]) ⟨jz_n0, jz_n0, rfl, rfl, rfl, rfl, rfl, rfl, rfl, rfl, rfl, rfl, rfl, trivial⟩ h
set_option maxHeartbeats 4000000 in
theorem e_54_130 {xs : Nat → Int32} {L d : Nat} {v2 : Nat} {v3 : Nat} {v4 : Nat} {v5 : Int} {v6 : Int} {v7 : Int} {v8 : Int} {v9 : Int} {v10 : Int} {v11 : Int} {J K : jZ} {P : jZ → jZ → Prop} (hk2 : jz_kd v2 = 16) (hk3 : jz_kd v3 = 16) (hk4 : jz_kd v4 = 16) (h : l_54_152 xs L d v2 v3 v4 v5 v6 v7 v8 v9 v10 v11 0 J K P) : l_54_130 xs L d v2 v3 v4 v5 v6 v7 v8 v9 v10 v11 J K P := by
  unfold l_54_130
  refine jw_iconst rfl ?_
  refine jw_goto rfl ?_
  refine jw_istore (ls' := [none, none, some (.ref v2), some (.ref v3), some (.ref v4), some (.int (Int32.ofInt v5)), some (.int (Int32.ofInt v6)), some (.int (Int32.ofInt v7)), some (.int (Int32.ofInt v8)), some (.int (Int32.ofInt v9)), some (.int (Int32.ofInt v10)), some (.int (Int32.ofInt v11)), some (.int (Int32.ofInt 0))]) rfl rfl ?_
  exact jz_fg (l := [none, none, some (.ref v2), some (.ref v3), some (.ref v4), some (.int (Int32.ofInt v5)), some (.int (Int32.ofInt v6)), some (.int (Int32.ofInt v7)), some (.int (Int32.ofInt v8)), some (.int (Int32.ofInt v9)), some (.int (Int32.ofInt v10)), some (.int (Int32.ofInt v11)), some (.int (Int32.ofInt 0))]) ⟨jz_n0, jz_n0, rfl, rfl, rfl, rfl, rfl, rfl, rfl, rfl, rfl, rfl, rfl, trivial⟩ h
set_option maxHeartbeats 4000000 in
theorem e_54_152 {xs : Nat → Int32} {L d : Nat} {v2 : Nat} {v3 : Nat} {v4 : Nat} {v5 : Int} {v6 : Int} {v7 : Int} {v8 : Int} {v9 : Int} {v10 : Int} {v11 : Int} {v12 : Int} {J K : jZ} {P : jZ → jZ → Prop} (hk2 : jz_kd v2 = 16) (hk3 : jz_kd v3 = 16) (hk4 : jz_kd v4 = 16) (h : (-2147483648 ≤ v12 ∧ v12 < 2147483648) ∧ (-2147483648 ≤ v6 ∧ v6 < 2147483648) ∧ (¬ v12 = v6 → l_54_168 xs L d v2 v3 v4 v5 v6 v7 v8 v9 J K P) ∧ (v12 = v6 → q_37 xs L d v4 v10 v11 J K (fun J4 K5 => l_54_168 xs L d v2 v3 v4 v5 v6 v7 v8 v9 J4 K5 P))) : l_54_152 xs L d v2 v3 v4 v5 v6 v7 v8 v9 v10 v11 v12 J K P := by
  unfold l_54_152
  refine jw_iload rfl rfl ?_
  refine jw_iload rfl rfl ?_
  obtain ⟨o1, h⟩ := h
  obtain ⟨o2, h⟩ := h
  refine jw_ic_ne rfl o1 o2 (fun c3 => ?_) (fun c3 => ?_)
  · replace h := h.1 c3
    exact jz_fg (l := [none, none, some (.ref v2), some (.ref v3), some (.ref v4), some (.int (Int32.ofInt v5)), some (.int (Int32.ofInt v6)), some (.int (Int32.ofInt v7)), some (.int (Int32.ofInt v8)), some (.int (Int32.ofInt v9)), none, none, none]) ⟨jz_n0, jz_n0, rfl, rfl, rfl, rfl, rfl, rfl, rfl, rfl, jz_ni, jz_ni, jz_ni, trivial⟩ h
  · replace h := h.2 c3
    refine jw_aload rfl rfl ?_
    refine jw_iload rfl rfl ?_
    refine jw_iload rfl rfl ?_
    refine jw_virt (k := 2) (c := 15) (as := [.int (Int32.ofInt v10), .int (Int32.ofInt v11)]) rfl rfl rfl (Nat.le_of_ble_eq_true rfl) rfl (Nat.le_of_ble_eq_true rfl) hk4 rfl (jz_cv ?_)
    refine jm_Q.mono h (jp_v_mono (fun J4 K5 h => ?_))
    exact jz_fg (l := [none, none, some (.ref v2), some (.ref v3), some (.ref v4), some (.int (Int32.ofInt v5)), some (.int (Int32.ofInt v6)), some (.int (Int32.ofInt v7)), some (.int (Int32.ofInt v8)), some (.int (Int32.ofInt v9)), none, none, none]) ⟨jz_n0, jz_n0, rfl, rfl, rfl, rfl, rfl, rfl, rfl, rfl, jz_ni, jz_ni, jz_ni, trivial⟩ h
set_option maxHeartbeats 4000000 in
theorem e_54_168 {xs : Nat → Int32} {L d : Nat} {v2 : Nat} {v3 : Nat} {v4 : Nat} {v5 : Int} {v6 : Int} {v7 : Int} {v8 : Int} {v9 : Int} {J K : jZ} {P : jZ → jZ → Prop} (hk2 : jz_kd v2 = 16) (hk3 : jz_kd v3 = 16) (hk4 : jz_kd v4 = 16) (h : l_54_54 xs L d v2 v3 v4 v5 v6 v7 v8 (v9 + 1) J K P) : l_54_168 xs L d v2 v3 v4 v5 v6 v7 v8 v9 J K P := by
  unfold l_54_168
  refine jw_iinc (ls' := [none, none, some (.ref v2), some (.ref v3), some (.ref v4), some (.int (Int32.ofInt v5)), some (.int (Int32.ofInt v6)), some (.int (Int32.ofInt v7)), some (.int (Int32.ofInt v8)), some (.int (Int32.ofInt (v9 + 1))), none, none, none]) rfl rfl rfl ?_
  refine jw_goto rfl ?_
  exact jz_fg (l := [none, none, some (.ref v2), some (.ref v3), some (.ref v4), some (.int (Int32.ofInt v5)), some (.int (Int32.ofInt v6)), some (.int (Int32.ofInt v7)), some (.int (Int32.ofInt v8)), some (.int (Int32.ofInt (v9 + 1))), none, none, none]) ⟨jz_n0, jz_n0, rfl, rfl, rfl, rfl, rfl, rfl, rfl, rfl, jz_n0, jz_n0, jz_n0, trivial⟩ h
set_option maxHeartbeats 4000000 in
theorem e_55 {xs : Nat → Int32} {L d : Nat} {v1 : Nat} {v2 : Nat} {J K : jZ} {P : jZ → jZ → Prop} (hk1 : jz_kd v1 = 16) (hk2 : jz_kd v2 = 16) (h : l_55_5 xs L d v1 v2 0 0 J K P) : q_55 xs L (d + 1) v1 v2 J K P := by
  unfold q_55
  refine jq_in (ls := [some (.ref 61), some (.ref v1), some (.ref v2), none, none]) rfl (Nat.le_of_ble_eq_true rfl) rfl ?_
  refine jw_iconst rfl ?_
  refine jw_istore_n (ls' := [some (.ref 61), some (.ref v1), some (.ref v2), some (.int (Int32.ofInt 0)), none]) rfl rfl ?_
  refine jw_iconst rfl ?_
  refine jw_istore (ls' := [some (.ref 61), some (.ref v1), some (.ref v2), some (.int (Int32.ofInt 0)), some (.int (Int32.ofInt 0))]) rfl rfl ?_
  exact jz_fg (l := [some (.ref 61), some (.ref v1), some (.ref v2), some (.int (Int32.ofInt 0)), some (.int (Int32.ofInt 0))]) ⟨rfl, rfl, rfl, rfl, rfl, trivial⟩ h
set_option maxHeartbeats 4000000 in
theorem e_55_5 {xs : Nat → Int32} {L d : Nat} {v1 : Nat} {v2 : Nat} {v3 : Int} {v4 : Int} {J K : jZ} {P : jZ → jZ → Prop} (hk1 : jz_kd v1 = 16) (hk2 : jz_kd v2 = 16) (h : (-2147483648 ≤ v4 ∧ v4 < 2147483648) ∧ (-2147483648 ≤ J v1 2 ∧ J v1 2 < 2147483648) ∧ ((J v1 2) ≤ v4 → P J K) ∧ (v4 < (J v1 2) → ((0 : Int) ≤ v4 ∧ v4 < 60) ∧ (-2147483648 ≤ ((J (v1 + 2) v4.toNat) + 1) ∧ ((J (v1 + 2) v4.toNat) + 1) < 2147483648) ∧ q_45 xs L d v2 v3 ((J (v1 + 2) v4.toNat) + 1) J K (fun r8 J6 K7 => q_46 xs L d v2 r8 J6 K7 (fun r11 J9 K10 => q_51 xs L d (J6 (v1 + 1) v4.toNat) r11 J9 K10 (fun J12 K13 => l_55_5 xs L d v1 v2 r8 (v4 + 1) J12 K13 P))))) : l_55_5 xs L d v1 v2 v3 v4 J K P := by
  unfold l_55_5
  refine jw_iload rfl rfl ?_
  refine jw_aload_n rfl rfl ?_
  refine jw_gf (v := (J v1 2)) rfl (by decide) hk1 rfl ?_
  obtain ⟨o1, h⟩ := h
  obtain ⟨o2, h⟩ := h
  refine jw_ic_ge rfl o1 o2 (fun c3 => ?_) (fun c3 => ?_)
  · replace h := h.1 c3
    refine jw_vret rfl ?_
    exact h
  · replace h := h.2 c3
    refine jw_aload_n rfl rfl ?_
    refine jw_iload_n rfl rfl ?_
    refine jw_aload_n rfl rfl ?_
    refine jw_gr (q := (v1 + 2)) rfl hk1 (jzr_16_2 hk1) ?_
    refine jw_iload rfl rfl ?_
    obtain ⟨o4, h⟩ := h
    refine jw_iald (v := (J (v1 + 2) v4.toNat)) (N := 60) rfl (jzk_16_2 hk1) (jzn_16_2 hk1) (by omega) o4 rfl ?_
    refine jw_iconst rfl ?_
    refine jw_iadd rfl ?_
    obtain ⟨o5, h⟩ := h
    refine jw_i2l rfl o5 ?_
    refine jw_virt (k := 2) (c := 15) (as := [.int (Int32.ofInt v3), .long (Int64.ofInt ((J (v1 + 2) v4.toNat) + 1))]) rfl rfl rfl (Nat.le_of_ble_eq_true rfl) rfl (Nat.le_of_ble_eq_true rfl) hk2 rfl (jz_ci ?_)
    refine jm_Q.mono h (jp_i_mono (fun r8 J6 K7 h => ?_))
    refine jw_istore_n (ls' := [some (.ref 61), some (.ref v1), some (.ref v2), some (.int (Int32.ofInt r8)), some (.int (Int32.ofInt v4))]) rfl rfl ?_
    refine jw_aload_n rfl rfl ?_
    refine jw_gr (q := 66) rfl rfl rfl ?_
    refine jw_aload_n rfl rfl ?_
    refine jw_gr (q := (v1 + 1)) rfl hk1 (jzr_16_1 hk1) ?_
    refine jw_iload rfl rfl ?_
    refine jw_iald (v := (J6 (v1 + 1) v4.toNat)) (N := 60) rfl (jzk_16_1 hk1) (jzn_16_1 hk1) (by omega) o4 rfl ?_
    refine jw_aload_n rfl rfl ?_
    refine jw_iload_n rfl rfl ?_
    refine jw_virt (k := 1) (c := 15) (as := [.int (Int32.ofInt r8)]) rfl rfl rfl (Nat.le_of_ble_eq_true rfl) rfl (Nat.le_of_ble_eq_true rfl) hk2 rfl (jz_ci ?_)
    refine jm_Q.mono h (jp_i_mono (fun r11 J9 K10 h => ?_))
    refine jw_virt (k := 2) (c := 12) (as := [.int (Int32.ofInt (J6 (v1 + 1) v4.toNat)), .int (Int32.ofInt r11)]) rfl rfl rfl (Nat.le_of_ble_eq_true rfl) rfl (Nat.le_of_ble_eq_true rfl) rfl rfl (jz_cv ?_)
    refine jm_Q.mono h (jp_v_mono (fun J12 K13 h => ?_))
    refine jw_iinc (ls' := [some (.ref 61), some (.ref v1), some (.ref v2), some (.int (Int32.ofInt r8)), some (.int (Int32.ofInt (v4 + 1)))]) rfl rfl rfl ?_
    refine jw_goto rfl ?_
    exact jz_fg (l := [some (.ref 61), some (.ref v1), some (.ref v2), some (.int (Int32.ofInt r8)), some (.int (Int32.ofInt (v4 + 1)))]) ⟨rfl, rfl, rfl, rfl, rfl, trivial⟩ h
set_option maxHeartbeats 4000000 in
theorem e_57 {xs : Nat → Int32} {L d : Nat} {v0 : Int} {J K : jZ} {P : Int → jZ → jZ → Prop} (h : (-2147483648 ≤ v0 ∧ v0 < 2147483648) ∧ (v0 < 0 → P 0 J K) ∧ (0 ≤ v0 → (16 ≤ v0 → P 0 J K) ∧ (v0 < 16 → P 1 J K))) : q_57 xs L (d + 1) v0 J K P := by
  unfold q_57
  refine jq_in (ls := [some (.int (Int32.ofInt v0))]) rfl (Nat.le_of_ble_eq_true rfl) rfl ?_
  refine jw_iload_n rfl rfl ?_
  obtain ⟨o1, h⟩ := h
  refine jw_if_lt rfl o1 (fun c2 => ?_) (fun c2 => ?_)
  · replace h := h.1 c2
    refine jw_iconst rfl ?_
    refine jw_zret rfl (by omega) ?_
    exact h
  · replace h := h.2 c2
    refine jw_iload_n rfl rfl ?_
    refine jw_bipush rfl (by decide) ?_
    refine jw_ic_ge rfl o1 (by omega) (fun c3 => ?_) (fun c3 => ?_)
    · replace h := h.1 c3
      refine jw_iconst rfl ?_
      refine jw_zret rfl (by omega) ?_
      exact h
    · replace h := h.2 c3
      refine jw_iconst rfl ?_
      refine jw_goto rfl ?_
      refine jw_zret rfl (by omega) ?_
      exact h
set_option maxHeartbeats 4000000 in
theorem sb_57 {xs : Nat → Int32} {L d : Nat} {v0 : Int} {J K : jZ} {P : Int → jZ → jZ → Prop} (o0 : -2147483648 ≤ v0 ∧ v0 < 2147483648) (h1 : ((0 : Int) ≤ v0 ∧ v0 < 16) → P 1 J K) (h0 : ¬ ((0 : Int) ≤ v0 ∧ v0 < 16) → P 0 J K) : q_57 xs L (d + 1) v0 J K P := by
  refine e_57 ?_
  repeat' (first | exact h1 (by omega) | exact h0 (by omega) | refine ⟨by omega, ?_⟩ | refine ⟨fun _ => ?_, fun _ => ?_⟩)
set_option maxHeartbeats 4000000 in
theorem e_56 {xs : Nat → Int32} {L d : Nat} {v1 : Int} {J K : jZ} {P : Int → jZ → jZ → Prop} (h : (-2147483648 ≤ v1 ∧ v1 < 2147483648) ∧ (((0 : Int) ≤ v1 ∧ v1 < 16) → (-2147483648 ≤ J 1 3 ∧ J 1 3 < 2147483648) ∧ ((J 1 3) < 60 → q_58 xs L (d + 1) 1 v1 J K (fun J5 K6 => P ((J5 1 3) - 1) (jm_up J5 61 5 0) K6)) ∧ (60 ≤ (J 1 3) → q_13 xs L (d + 1) (-6) J K (fun r9 J7 K8 => P r9 J7 K8))) ∧ (¬ ((0 : Int) ≤ v1 ∧ v1 < 16) → q_13 xs L (d + 1) (-2) J K (fun r12 J10 K11 => P r12 J10 K11))) : q_56 xs L (d + 2) v1 J K P := by
  unfold q_56
  refine jq_in (ls := [some (.ref 0), some (.int (Int32.ofInt v1))]) rfl (Nat.le_of_ble_eq_true rfl) rfl ?_
  refine jw_iload_n rfl rfl ?_
  refine jw_stat (k := 1) (as := [.int (Int32.ofInt v1)]) rfl (by decide) rfl rfl (Nat.le_of_ble_eq_true rfl) rfl (Nat.le_of_ble_eq_true rfl) (jz_ci ?_)
  obtain ⟨o1, h⟩ := h
  refine sb_57 o1 (fun c2 => ?_) (fun c2 => ?_)
  · replace h := h.1 c2
    refine jw_if_ne rfl (by omega) (fun _ => ?_) (fun hc => by exfalso; omega)
    refine jw_aload_n rfl rfl ?_
    refine jw_gr (q := 1) rfl rfl rfl ?_
    refine jw_gf (v := (J 1 3)) rfl (by decide) rfl rfl ?_
    refine jw_bipush rfl (by decide) ?_
    obtain ⟨o3, h⟩ := h
    refine jw_ic_lt rfl o3 (by omega) (fun c4 => ?_) (fun c4 => ?_)
    · replace h := h.1 c4
      refine jw_aload_n rfl rfl ?_
      refine jw_gr (q := 1) rfl rfl rfl ?_
      refine jw_iload_n rfl rfl ?_
      refine jw_virt (k := 1) (c := 17) (as := [.int (Int32.ofInt v1)]) rfl rfl rfl (Nat.le_of_ble_eq_true rfl) rfl (Nat.le_of_ble_eq_true rfl) rfl rfl (jz_cv ?_)
      refine jm_Q.mono h (jp_v_mono (fun J5 K6 h => ?_))
      refine jw_aload_n rfl rfl ?_
      refine jw_gr (q := 61) rfl rfl rfl ?_
      refine jw_virt (k := 0) (c := 13) (as := []) rfl rfl rfl (Nat.le_of_ble_eq_true rfl) rfl (Nat.le_of_ble_eq_true rfl) rfl rfl (jz_cv ?_)
      refine jq_in (ls := [some (.ref 61)]) rfl (Nat.le_of_ble_eq_true rfl) rfl ?_
      refine jw_aload_n rfl rfl ?_
      refine jw_iconst rfl ?_
      refine jw_pf rfl rfl ?_
      refine jw_vret rfl ?_
      refine jw_aload_n rfl rfl ?_
      refine jw_gr (q := 1) rfl rfl rfl ?_
      refine jw_gf (v := (J5 1 3)) rfl (by decide) rfl (by simp [jm_up]) ?_
      refine jw_iconst rfl ?_
      refine jw_isub rfl ?_
      refine jw_iret rfl ?_
      exact h
    · replace h := h.2 c4
      refine jw_aload_n rfl rfl ?_
      refine jw_bipush rfl (by decide) ?_
      refine jw_virt (k := 1) (c := 18) (as := [.int (Int32.ofInt (-6))]) rfl rfl rfl (Nat.le_of_ble_eq_true rfl) rfl (Nat.le_of_ble_eq_true rfl) rfl rfl (jz_ci ?_)
      refine jm_Q.mono h (jp_i_mono (fun r9 J7 K8 h => ?_))
      refine jw_iret rfl ?_
      exact h
  · replace h := h.2 c2
    refine jw_if_ne rfl (by omega) (fun hc => by exfalso; omega) (fun _ => ?_)
    refine jw_aload_n rfl rfl ?_
    refine jw_bipush rfl (by decide) ?_
    refine jw_virt (k := 1) (c := 18) (as := [.int (Int32.ofInt (-2))]) rfl rfl rfl (Nat.le_of_ble_eq_true rfl) rfl (Nat.le_of_ble_eq_true rfl) rfl rfl (jz_ci ?_)
    refine jm_Q.mono h (jp_i_mono (fun r12 J10 K11 h => ?_))
    refine jw_iret rfl ?_
    exact h
set_option maxHeartbeats 4000000 in
theorem e_58 {xs : Nat → Int32} {L d : Nat} {v0 : Nat} {v1 : Int} {J K : jZ} {P : jZ → jZ → Prop} (hk0 : jz_kd v0 = 18) (h : (-2147483648 ≤ J v0 3 ∧ J v0 3 < 2147483648) ∧ (60 ≤ (J v0 3) → P J K) ∧ ((J v0 3) < 60 → ((0 : Int) ≤ J v0 3 ∧ J v0 3 < 60) ∧ P (jm_up (jm_up (jm_up J (v0 + 1) (J v0 3).toNat v1) (v0 + 2) (J v0 3).toNat 0) v0 3 ((J v0 3) + 1)) K)) : q_58 xs L (d + 1) v0 v1 J K P := by
  unfold q_58
  refine jq_in (ls := [some (.ref v0), some (.int (Int32.ofInt v1))]) rfl (Nat.le_of_ble_eq_true rfl) rfl ?_
  refine jw_aload_n rfl rfl ?_
  refine jw_gf (v := (J v0 3)) rfl (by decide) hk0 rfl ?_
  refine jw_bipush rfl (by decide) ?_
  obtain ⟨o1, h⟩ := h
  refine jw_ic_ge rfl o1 (by omega) (fun c2 => ?_) (fun c2 => ?_)
  · replace h := h.1 c2
    refine jw_vret rfl ?_
    exact h
  · replace h := h.2 c2
    refine jw_aload_n rfl rfl ?_
    refine jw_gr (q := (v0 + 1)) rfl hk0 (jzr_18_1 hk0) ?_
    refine jw_aload_n rfl rfl ?_
    refine jw_gf (v := (J v0 3)) rfl (by decide) hk0 rfl ?_
    refine jw_iload_n rfl rfl ?_
    obtain ⟨o3, h⟩ := h
    refine jw_iast (N := 60) rfl (jzk_18_1 hk0) (jzn_18_1 hk0) (by omega) o3 ?_
    refine jw_aload_n rfl rfl ?_
    refine jw_gr (q := (v0 + 2)) rfl hk0 (jzr_18_2 hk0) ?_
    refine jw_aload_n rfl rfl ?_
    refine jw_gf (v := (J v0 3)) rfl (by decide) hk0 (by simp [jm_up]) ?_
    refine jw_iconst rfl ?_
    refine jw_iast (N := 60) rfl (jzk_18_2 hk0) (jzn_18_2 hk0) (by omega) o3 ?_
    refine jw_aload_n rfl rfl ?_
    refine jw_dup_r rfl ?_
    refine jw_gf (v := (J v0 3)) rfl (by decide) hk0 (by simp [jm_up]) ?_
    refine jw_iconst rfl ?_
    refine jw_iadd rfl ?_
    refine jw_pf rfl hk0 ?_
    refine jw_vret rfl ?_
    exact h
set_option maxHeartbeats 4000000 in
theorem e_59 {xs : Nat → Int32} {L d : Nat} {J K : jZ} {P : jZ → jZ → Prop} (h : P (jm_up J 61 5 0) K) : q_59 xs L (d + 1) J K P := by
  unfold q_59
  refine jq_in (ls := [some (.ref 61)]) rfl (Nat.le_of_ble_eq_true rfl) rfl ?_
  refine jw_aload_n rfl rfl ?_
  refine jw_iconst rfl ?_
  refine jw_pf rfl rfl ?_
  refine jw_vret rfl ?_
  exact h
set_option maxHeartbeats 4000000 in
theorem e_60 {xs : Nat → Int32} {L d : Nat} {v1 : Int} {J K : jZ} {P : Int → jZ → jZ → Prop} (h : (-2147483648 ≤ v1 ∧ v1 < 2147483648) ∧ (v1 = 1 → q_61 xs L (d + 1) 1 J K (fun r5 J3 K4 => (-2147483648 ≤ r5 ∧ r5 < 2147483648) ∧ (r5 < v1 → q_62 xs L (d + 1) 1 v1 J3 K4 (fun J8 K9 => P r5 (jm_up J8 61 5 0) K9)) ∧ (v1 ≤ r5 → q_13 xs L (d + 1) (-5) J3 K4 (fun r12 J10 K11 => P r12 J10 K11)))) ∧ (¬ v1 = 1 → (v1 = 2 → q_61 xs L (d + 1) 1 J K (fun r16 J14 K15 => (-2147483648 ≤ r16 ∧ r16 < 2147483648) ∧ (r16 < v1 → q_62 xs L (d + 1) 1 v1 J14 K15 (fun J19 K20 => P r16 (jm_up J19 61 5 0) K20)) ∧ (v1 ≤ r16 → q_13 xs L (d + 1) (-5) J14 K15 (fun r23 J21 K22 => P r23 J21 K22)))) ∧ (¬ v1 = 2 → q_13 xs L (d + 1) (-2) J K (fun r26 J24 K25 => P r26 J24 K25)))) : q_60 xs L (d + 2) v1 J K P := by
  unfold q_60
  refine jq_in (ls := [some (.ref 0), some (.int (Int32.ofInt v1)), none]) rfl (Nat.le_of_ble_eq_true rfl) rfl ?_
  refine jw_iload_n rfl rfl ?_
  refine jw_iconst rfl ?_
  obtain ⟨o1, h⟩ := h
  refine jw_ic_eq rfl o1 (by omega) (fun c2 => ?_) (fun c2 => ?_)
  · replace h := h.1 c2
    refine jw_aload_n rfl rfl ?_
    refine jw_gr (q := 1) rfl rfl rfl ?_
    refine jw_virt (k := 0) (c := 17) (as := []) rfl rfl rfl (Nat.le_of_ble_eq_true rfl) rfl (Nat.le_of_ble_eq_true rfl) rfl rfl (jz_ci ?_)
    refine jm_Q.mono h (jp_i_mono (fun r5 J3 K4 h => ?_))
    refine jw_istore_n (ls' := [some (.ref 0), some (.int (Int32.ofInt v1)), some (.int (Int32.ofInt r5))]) rfl rfl ?_
    refine jw_iload_n rfl rfl ?_
    refine jw_iload_n rfl rfl ?_
    obtain ⟨o6, h⟩ := h
    refine jw_ic_lt rfl o6 o1 (fun c7 => ?_) (fun c7 => ?_)
    · replace h := h.1 c7
      refine jw_aload_n rfl rfl ?_
      refine jw_gr (q := 1) rfl rfl rfl ?_
      refine jw_iload_n rfl rfl ?_
      refine jw_virt (k := 1) (c := 17) (as := [.int (Int32.ofInt v1)]) rfl rfl rfl (Nat.le_of_ble_eq_true rfl) rfl (Nat.le_of_ble_eq_true rfl) rfl rfl (jz_cv ?_)
      refine jm_Q.mono h (jp_v_mono (fun J8 K9 h => ?_))
      refine jw_aload_n rfl rfl ?_
      refine jw_gr (q := 61) rfl rfl rfl ?_
      refine jw_virt (k := 0) (c := 13) (as := []) rfl rfl rfl (Nat.le_of_ble_eq_true rfl) rfl (Nat.le_of_ble_eq_true rfl) rfl rfl (jz_cv ?_)
      refine jq_in (ls := [some (.ref 61)]) rfl (Nat.le_of_ble_eq_true rfl) rfl ?_
      refine jw_aload_n rfl rfl ?_
      refine jw_iconst rfl ?_
      refine jw_pf rfl rfl ?_
      refine jw_vret rfl ?_
      refine jw_iload_n rfl rfl ?_
      refine jw_iret rfl ?_
      exact h
    · replace h := h.2 c7
      refine jw_aload_n rfl rfl ?_
      refine jw_bipush rfl (by decide) ?_
      refine jw_virt (k := 1) (c := 18) (as := [.int (Int32.ofInt (-5))]) rfl rfl rfl (Nat.le_of_ble_eq_true rfl) rfl (Nat.le_of_ble_eq_true rfl) rfl rfl (jz_ci ?_)
      refine jm_Q.mono h (jp_i_mono (fun r12 J10 K11 h => ?_))
      refine jw_iret rfl ?_
      exact h
  · replace h := h.2 c2
    refine jw_iload_n rfl rfl ?_
    refine jw_iconst rfl ?_
    refine jw_ic_eq rfl o1 (by omega) (fun c13 => ?_) (fun c13 => ?_)
    · replace h := h.1 c13
      refine jw_aload_n rfl rfl ?_
      refine jw_gr (q := 1) rfl rfl rfl ?_
      refine jw_virt (k := 0) (c := 17) (as := []) rfl rfl rfl (Nat.le_of_ble_eq_true rfl) rfl (Nat.le_of_ble_eq_true rfl) rfl rfl (jz_ci ?_)
      refine jm_Q.mono h (jp_i_mono (fun r16 J14 K15 h => ?_))
      refine jw_istore_n (ls' := [some (.ref 0), some (.int (Int32.ofInt v1)), some (.int (Int32.ofInt r16))]) rfl rfl ?_
      refine jw_iload_n rfl rfl ?_
      refine jw_iload_n rfl rfl ?_
      obtain ⟨o17, h⟩ := h
      refine jw_ic_lt rfl o17 o1 (fun c18 => ?_) (fun c18 => ?_)
      · replace h := h.1 c18
        refine jw_aload_n rfl rfl ?_
        refine jw_gr (q := 1) rfl rfl rfl ?_
        refine jw_iload_n rfl rfl ?_
        refine jw_virt (k := 1) (c := 17) (as := [.int (Int32.ofInt v1)]) rfl rfl rfl (Nat.le_of_ble_eq_true rfl) rfl (Nat.le_of_ble_eq_true rfl) rfl rfl (jz_cv ?_)
        refine jm_Q.mono h (jp_v_mono (fun J19 K20 h => ?_))
        refine jw_aload_n rfl rfl ?_
        refine jw_gr (q := 61) rfl rfl rfl ?_
        refine jw_virt (k := 0) (c := 13) (as := []) rfl rfl rfl (Nat.le_of_ble_eq_true rfl) rfl (Nat.le_of_ble_eq_true rfl) rfl rfl (jz_cv ?_)
        refine jq_in (ls := [some (.ref 61)]) rfl (Nat.le_of_ble_eq_true rfl) rfl ?_
        refine jw_aload_n rfl rfl ?_
        refine jw_iconst rfl ?_
        refine jw_pf rfl rfl ?_
        refine jw_vret rfl ?_
        refine jw_iload_n rfl rfl ?_
        refine jw_iret rfl ?_
        exact h
      · replace h := h.2 c18
        refine jw_aload_n rfl rfl ?_
        refine jw_bipush rfl (by decide) ?_
        refine jw_virt (k := 1) (c := 18) (as := [.int (Int32.ofInt (-5))]) rfl rfl rfl (Nat.le_of_ble_eq_true rfl) rfl (Nat.le_of_ble_eq_true rfl) rfl rfl (jz_ci ?_)
        refine jm_Q.mono h (jp_i_mono (fun r23 J21 K22 h => ?_))
        refine jw_iret rfl ?_
        exact h
    · replace h := h.2 c13
      refine jw_aload_n rfl rfl ?_
      refine jw_bipush rfl (by decide) ?_
      refine jw_virt (k := 1) (c := 18) (as := [.int (Int32.ofInt (-2))]) rfl rfl rfl (Nat.le_of_ble_eq_true rfl) rfl (Nat.le_of_ble_eq_true rfl) rfl rfl (jz_ci ?_)
      refine jm_Q.mono h (jp_i_mono (fun r26 J24 K25 h => ?_))
      refine jw_iret rfl ?_
      exact h
set_option maxHeartbeats 4000000 in
theorem e_61 {xs : Nat → Int32} {L d : Nat} {v0 : Nat} {J K : jZ} {P : Int → jZ → jZ → Prop} (hk0 : jz_kd v0 = 18) (h : (-2147483648 ≤ J v0 3 ∧ J v0 3 < 2147483648) ∧ ((J v0 3) ≤ 0 → P 2 J K) ∧ (0 < (J v0 3) → ((0 : Int) ≤ ((J v0 3) - 1) ∧ ((J v0 3) - 1) < 60) ∧ P (J (v0 + 2) ((J v0 3) - 1).toNat) J K)) : q_61 xs L (d + 1) v0 J K P := by
  unfold q_61
  refine jq_in (ls := [some (.ref v0)]) rfl (Nat.le_of_ble_eq_true rfl) rfl ?_
  refine jw_aload_n rfl rfl ?_
  refine jw_gf (v := (J v0 3)) rfl (by decide) hk0 rfl ?_
  obtain ⟨o1, h⟩ := h
  refine jw_if_le rfl o1 (fun c2 => ?_) (fun c2 => ?_)
  · replace h := h.1 c2
    refine jw_iconst rfl ?_
    refine jw_iret rfl ?_
    exact h
  · replace h := h.2 c2
    refine jw_aload_n rfl rfl ?_
    refine jw_gr (q := (v0 + 2)) rfl hk0 (jzr_18_2 hk0) ?_
    refine jw_aload_n rfl rfl ?_
    refine jw_gf (v := (J v0 3)) rfl (by decide) hk0 rfl ?_
    refine jw_iconst rfl ?_
    refine jw_isub rfl ?_
    obtain ⟨o3, h⟩ := h
    refine jw_iald (v := (J (v0 + 2) ((J v0 3) - 1).toNat)) (N := 60) rfl (jzk_18_2 hk0) (jzn_18_2 hk0) (by omega) o3 rfl ?_
    refine jw_goto rfl ?_
    refine jw_iret rfl ?_
    exact h
set_option maxHeartbeats 4000000 in
theorem e_62 {xs : Nat → Int32} {L d : Nat} {v0 : Nat} {v1 : Int} {J K : jZ} {P : jZ → jZ → Prop} (hk0 : jz_kd v0 = 18) (h : (-2147483648 ≤ J v0 3 ∧ J v0 3 < 2147483648) ∧ ((J v0 3) ≤ 0 → P J K) ∧ (0 < (J v0 3) → ((0 : Int) ≤ ((J v0 3) - 1) ∧ ((J v0 3) - 1) < 60) ∧ P (jm_up J (v0 + 2) ((J v0 3) - 1).toNat v1) K)) : q_62 xs L (d + 1) v0 v1 J K P := by
  unfold q_62
  refine jq_in (ls := [some (.ref v0), some (.int (Int32.ofInt v1))]) rfl (Nat.le_of_ble_eq_true rfl) rfl ?_
  refine jw_aload_n rfl rfl ?_
  refine jw_gf (v := (J v0 3)) rfl (by decide) hk0 rfl ?_
  obtain ⟨o1, h⟩ := h
  refine jw_if_le rfl o1 (fun c2 => ?_) (fun c2 => ?_)
  · replace h := h.1 c2
    refine jw_vret rfl ?_
    exact h
  · replace h := h.2 c2
    refine jw_aload_n rfl rfl ?_
    refine jw_gr (q := (v0 + 2)) rfl hk0 (jzr_18_2 hk0) ?_
    refine jw_aload_n rfl rfl ?_
    refine jw_gf (v := (J v0 3)) rfl (by decide) hk0 rfl ?_
    refine jw_iconst rfl ?_
    refine jw_isub rfl ?_
    refine jw_iload_n rfl rfl ?_
    obtain ⟨o3, h⟩ := h
    refine jw_iast (N := 60) rfl (jzk_18_2 hk0) (jzn_18_2 hk0) (by omega) o3 ?_
    refine jw_vret rfl ?_
    exact h
set_option maxHeartbeats 4000000 in
theorem e_64 {xs : Nat → Int32} {L d : Nat} {v0 : Nat} {v1 : Int} {J K : jZ} {P : Int → jZ → jZ → Prop} (hk0 : jz_kd v0 = 18) (h : (-2147483648 ≤ v1 ∧ v1 < 2147483648) ∧ (v1 < 0 → P 0 J K) ∧ (0 ≤ v1 → (-2147483648 ≤ J v0 3 ∧ J v0 3 < 2147483648) ∧ ((J v0 3) ≤ v1 → P 0 J K) ∧ (v1 < (J v0 3) → P 1 J K))) : q_64 xs L (d + 1) v0 v1 J K P := by
  unfold q_64
  refine jq_in (ls := [some (.ref v0), some (.int (Int32.ofInt v1))]) rfl (Nat.le_of_ble_eq_true rfl) rfl ?_
  refine jw_iload_n rfl rfl ?_
  obtain ⟨o1, h⟩ := h
  refine jw_if_lt rfl o1 (fun c2 => ?_) (fun c2 => ?_)
  · replace h := h.1 c2
    refine jw_iconst rfl ?_
    refine jw_zret rfl (by omega) ?_
    exact h
  · replace h := h.2 c2
    refine jw_iload_n rfl rfl ?_
    refine jw_aload_n rfl rfl ?_
    refine jw_gf (v := (J v0 3)) rfl (by decide) hk0 rfl ?_
    obtain ⟨o3, h⟩ := h
    refine jw_ic_ge rfl o1 o3 (fun c4 => ?_) (fun c4 => ?_)
    · replace h := h.1 c4
      refine jw_iconst rfl ?_
      refine jw_zret rfl (by omega) ?_
      exact h
    · replace h := h.2 c4
      refine jw_iconst rfl ?_
      refine jw_goto rfl ?_
      refine jw_zret rfl (by omega) ?_
      exact h
set_option maxHeartbeats 4000000 in
theorem sb_64 {xs : Nat → Int32} {L d : Nat} {v0 : Nat} {v1 : Int} {J K : jZ} {P : Int → jZ → jZ → Prop} (hk0 : jz_kd v0 = 18) (o0 : -2147483648 ≤ v1 ∧ v1 < 2147483648) (o1 : -2147483648 ≤ J v0 3 ∧ J v0 3 < 2147483648) (h1 : ((0 : Int) ≤ v1 ∧ v1 < (J v0 3)) → P 1 J K) (h0 : ¬ ((0 : Int) ≤ v1 ∧ v1 < (J v0 3)) → P 0 J K) : q_64 xs L (d + 1) v0 v1 J K P := by
  refine e_64 hk0 ?_
  repeat' (first | exact h1 (by omega) | exact h0 (by omega) | refine ⟨by omega, ?_⟩ | refine ⟨fun _ => ?_, fun _ => ?_⟩)
set_option maxHeartbeats 4000000 in
theorem e_63 {xs : Nat → Int32} {L d : Nat} {v1 : Int} {v2 : Int} {J K : jZ} {P : Int → jZ → jZ → Prop} (h : (-2147483648 ≤ v1 ∧ v1 < 2147483648) ∧ (-2147483648 ≤ J 1 3 ∧ J 1 3 < 2147483648) ∧ (((0 : Int) ≤ v1 ∧ v1 < (J 1 3)) → (-2147483648 ≤ v2 ∧ v2 < 2147483648) ∧ (((0 : Int) ≤ v2 ∧ v2 < 16) → ((0 : Int) ≤ v1 ∧ v1 < 60) ∧ P (J 2 v1.toNat) (jm_up (jm_up J 2 v1.toNat v2) 61 5 0) K) ∧ (¬ ((0 : Int) ≤ v2 ∧ v2 < 16) → q_13 xs L (d + 1) (-2) J K (fun r9 J7 K8 => P r9 J7 K8))) ∧ (¬ ((0 : Int) ≤ v1 ∧ v1 < (J 1 3)) → q_13 xs L (d + 1) (-2) J K (fun r12 J10 K11 => P r12 J10 K11))) : q_63 xs L (d + 2) v1 v2 J K P := by
  unfold q_63
  refine jq_in (ls := [some (.ref 0), some (.int (Int32.ofInt v1)), some (.int (Int32.ofInt v2)), none]) rfl (Nat.le_of_ble_eq_true rfl) rfl ?_
  refine jw_aload_n rfl rfl ?_
  refine jw_gr (q := 1) rfl rfl rfl ?_
  refine jw_iload_n rfl rfl ?_
  refine jw_virt (k := 1) (c := 17) (as := [.int (Int32.ofInt v1)]) rfl rfl rfl (Nat.le_of_ble_eq_true rfl) rfl (Nat.le_of_ble_eq_true rfl) rfl rfl (jz_ci ?_)
  obtain ⟨o1, h⟩ := h
  obtain ⟨o2, h⟩ := h
  refine sb_64 rfl o1 o2 (fun c3 => ?_) (fun c3 => ?_)
  · replace h := h.1 c3
    refine jw_if_eq rfl (by omega) (fun hc => by exfalso; omega) (fun _ => ?_)
    refine jw_iload_n rfl rfl ?_
    refine jw_stat (k := 1) (as := [.int (Int32.ofInt v2)]) rfl (by decide) rfl rfl (Nat.le_of_ble_eq_true rfl) rfl (Nat.le_of_ble_eq_true rfl) (jz_ci ?_)
    obtain ⟨o4, h⟩ := h
    refine sb_57 o4 (fun c5 => ?_) (fun c5 => ?_)
    · replace h := h.1 c5
      refine jw_if_ne rfl (by omega) (fun _ => ?_) (fun hc => by exfalso; omega)
      refine jw_aload_n rfl rfl ?_
      refine jw_gr (q := 1) rfl rfl rfl ?_
      refine jw_gr (q := 2) rfl rfl rfl ?_
      refine jw_iload_n rfl rfl ?_
      obtain ⟨o6, h⟩ := h
      refine jw_iald (v := (J 2 v1.toNat)) (N := 60) rfl rfl rfl (by omega) o6 rfl ?_
      refine jw_istore_n (ls' := [some (.ref 0), some (.int (Int32.ofInt v1)), some (.int (Int32.ofInt v2)), some (.int (Int32.ofInt (J 2 v1.toNat)))]) rfl rfl ?_
      refine jw_aload_n rfl rfl ?_
      refine jw_gr (q := 1) rfl rfl rfl ?_
      refine jw_gr (q := 2) rfl rfl rfl ?_
      refine jw_iload_n rfl rfl ?_
      refine jw_iload_n rfl rfl ?_
      refine jw_iast (N := 60) rfl rfl rfl (by omega) o6 ?_
      refine jw_aload_n rfl rfl ?_
      refine jw_gr (q := 61) rfl rfl rfl ?_
      refine jw_virt (k := 0) (c := 13) (as := []) rfl rfl rfl (Nat.le_of_ble_eq_true rfl) rfl (Nat.le_of_ble_eq_true rfl) rfl rfl (jz_cv ?_)
      refine jq_in (ls := [some (.ref 61)]) rfl (Nat.le_of_ble_eq_true rfl) rfl ?_
      refine jw_aload_n rfl rfl ?_
      refine jw_iconst rfl ?_
      refine jw_pf rfl rfl ?_
      refine jw_vret rfl ?_
      refine jw_iload_n rfl rfl ?_
      refine jw_iret rfl ?_
      exact h
    · replace h := h.2 c5
      refine jw_if_ne rfl (by omega) (fun hc => by exfalso; omega) (fun _ => ?_)
      refine jw_aload_n rfl rfl ?_
      refine jw_bipush rfl (by decide) ?_
      refine jw_virt (k := 1) (c := 18) (as := [.int (Int32.ofInt (-2))]) rfl rfl rfl (Nat.le_of_ble_eq_true rfl) rfl (Nat.le_of_ble_eq_true rfl) rfl rfl (jz_ci ?_)
      refine jm_Q.mono h (jp_i_mono (fun r9 J7 K8 h => ?_))
      refine jw_iret rfl ?_
      exact h
  · replace h := h.2 c3
    refine jw_if_eq rfl (by omega) (fun _ => ?_) (fun hc => by exfalso; omega)
    refine jw_aload_n rfl rfl ?_
    refine jw_bipush rfl (by decide) ?_
    refine jw_virt (k := 1) (c := 18) (as := [.int (Int32.ofInt (-2))]) rfl rfl rfl (Nat.le_of_ble_eq_true rfl) rfl (Nat.le_of_ble_eq_true rfl) rfl rfl (jz_ci ?_)
    refine jm_Q.mono h (jp_i_mono (fun r12 J10 K11 h => ?_))
    refine jw_iret rfl ?_
    exact h
set_option maxHeartbeats 4000000 in
theorem e_65 {xs : Nat → Int32} {L d : Nat} {v1 : Int} {v2 : Int} {v3 : Int} {J K : jZ} {P : Int → jZ → jZ → Prop} (h : (-2147483648 ≤ v1 ∧ v1 < 2147483648) ∧ (((0 : Int) ≤ v1 ∧ v1 < 16) → (-2147483648 ≤ v2 ∧ v2 < 2147483648) ∧ (((0 : Int) ≤ v2 ∧ v2 < 16) → (v1 = v2 → q_13 xs L (d + 1) (-2) J K (fun r8 J6 K7 => P r8 J6 K7)) ∧ (¬ v1 = v2 → (-2147483648 ≤ v3 ∧ v3 < 2147483648) ∧ (v3 < 0 → q_13 xs L (d + 1) (-2) J K (fun r13 J11 K12 => P r13 J11 K12)) ∧ (0 ≤ v3 → (v3 ≤ 1 → ((jz_and (jz_shr (J 4 v1.toNat) v2) 1) = v3 → P (jz_and (jz_shr (J 4 v1.toNat) v2) 1) J K) ∧ (¬ (jz_and (jz_shr (J 4 v1.toNat) v2) 1) = v3 → P (jz_and (jz_shr (J 4 v1.toNat) v2) 1) (jm_up (jm_up J 4 v1.toNat (jz_xor (J 4 v1.toNat) (jz_shl 1 v2))) 61 5 0) K)) ∧ (1 < v3 → q_13 xs L (d + 1) (-2) J K (fun r18 J16 K17 => P r18 J16 K17))))) ∧ (¬ ((0 : Int) ≤ v2 ∧ v2 < 16) → q_13 xs L (d + 1) (-2) J K (fun r21 J19 K20 => P r21 J19 K20))) ∧ (¬ ((0 : Int) ≤ v1 ∧ v1 < 16) → q_13 xs L (d + 1) (-2) J K (fun r24 J22 K23 => P r24 J22 K23))) : q_65 xs L (d + 2) v1 v2 v3 J K P := by
  unfold q_65
  refine jq_in (ls := [some (.ref 0), some (.int (Int32.ofInt v1)), some (.int (Int32.ofInt v2)), some (.int (Int32.ofInt v3)), none]) rfl (Nat.le_of_ble_eq_true rfl) rfl ?_
  refine jw_iload_n rfl rfl ?_
  refine jw_stat (k := 1) (as := [.int (Int32.ofInt v1)]) rfl (by decide) rfl rfl (Nat.le_of_ble_eq_true rfl) rfl (Nat.le_of_ble_eq_true rfl) (jz_ci ?_)
  obtain ⟨o1, h⟩ := h
  refine sb_57 o1 (fun c2 => ?_) (fun c2 => ?_)
  · replace h := h.1 c2
    refine jw_if_eq rfl (by omega) (fun hc => by exfalso; omega) (fun _ => ?_)
    refine jw_iload_n rfl rfl ?_
    refine jw_stat (k := 1) (as := [.int (Int32.ofInt v2)]) rfl (by decide) rfl rfl (Nat.le_of_ble_eq_true rfl) rfl (Nat.le_of_ble_eq_true rfl) (jz_ci ?_)
    obtain ⟨o3, h⟩ := h
    refine sb_57 o3 (fun c4 => ?_) (fun c4 => ?_)
    · replace h := h.1 c4
      refine jw_if_eq rfl (by omega) (fun hc => by exfalso; omega) (fun _ => ?_)
      refine jw_iload_n rfl rfl ?_
      refine jw_iload_n rfl rfl ?_
      refine jw_ic_eq rfl o1 o3 (fun c5 => ?_) (fun c5 => ?_)
      · replace h := h.1 c5
        refine jw_aload_n rfl rfl ?_
        refine jw_bipush rfl (by decide) ?_
        refine jw_virt (k := 1) (c := 18) (as := [.int (Int32.ofInt (-2))]) rfl rfl rfl (Nat.le_of_ble_eq_true rfl) rfl (Nat.le_of_ble_eq_true rfl) rfl rfl (jz_ci ?_)
        refine jm_Q.mono h (jp_i_mono (fun r8 J6 K7 h => ?_))
        refine jw_iret rfl ?_
        exact h
      · replace h := h.2 c5
        refine jw_iload_n rfl rfl ?_
        obtain ⟨o9, h⟩ := h
        refine jw_if_lt rfl o9 (fun c10 => ?_) (fun c10 => ?_)
        · replace h := h.1 c10
          refine jw_aload_n rfl rfl ?_
          refine jw_bipush rfl (by decide) ?_
          refine jw_virt (k := 1) (c := 18) (as := [.int (Int32.ofInt (-2))]) rfl rfl rfl (Nat.le_of_ble_eq_true rfl) rfl (Nat.le_of_ble_eq_true rfl) rfl rfl (jz_ci ?_)
          refine jm_Q.mono h (jp_i_mono (fun r13 J11 K12 h => ?_))
          refine jw_iret rfl ?_
          exact h
        · replace h := h.2 c10
          refine jw_iload_n rfl rfl ?_
          refine jw_iconst rfl ?_
          refine jw_ic_le rfl o9 (by omega) (fun c14 => ?_) (fun c14 => ?_)
          · replace h := h.1 c14
            refine jw_aload_n rfl rfl ?_
            refine jw_gr (q := 1) rfl rfl rfl ?_
            refine jw_gr (q := 4) rfl rfl rfl ?_
            refine jw_iload_n rfl rfl ?_
            refine jw_iald (v := (J 4 v1.toNat)) (N := 16) rfl rfl rfl (by omega) c2 rfl ?_
            refine jw_iload_n rfl rfl ?_
            refine jw_ishr rfl ?_
            refine jw_iconst rfl ?_
            refine jw_iand rfl ?_
            refine jw_istore (ls' := [some (.ref 0), some (.int (Int32.ofInt v1)), some (.int (Int32.ofInt v2)), some (.int (Int32.ofInt v3)), some (.int (Int32.ofInt (jz_and (jz_shr (J 4 v1.toNat) v2) 1)))]) rfl rfl ?_
            refine jw_iload rfl rfl ?_
            refine jw_iload_n rfl rfl ?_
            refine jw_ic_eq rfl jz_and_r o9 (fun c15 => ?_) (fun c15 => ?_)
            · replace h := h.1 c15
              refine jw_iload rfl rfl ?_
              refine jw_iret rfl ?_
              exact h
            · replace h := h.2 c15
              refine jw_aload_n rfl rfl ?_
              refine jw_gr (q := 1) rfl rfl rfl ?_
              refine jw_gr (q := 4) rfl rfl rfl ?_
              refine jw_iload_n rfl rfl ?_
              refine jw_dup2 rfl ?_
              refine jw_iald (v := (J 4 v1.toNat)) (N := 16) rfl rfl rfl (by omega) c2 rfl ?_
              refine jw_iconst rfl ?_
              refine jw_iload_n rfl rfl ?_
              refine jw_ishl rfl ?_
              refine jw_ixor rfl ?_
              refine jw_iast (N := 16) rfl rfl rfl (by omega) c2 ?_
              refine jw_aload_n rfl rfl ?_
              refine jw_gr (q := 61) rfl rfl rfl ?_
              refine jw_virt (k := 0) (c := 13) (as := []) rfl rfl rfl (Nat.le_of_ble_eq_true rfl) rfl (Nat.le_of_ble_eq_true rfl) rfl rfl (jz_cv ?_)
              refine jq_in (ls := [some (.ref 61)]) rfl (Nat.le_of_ble_eq_true rfl) rfl ?_
              refine jw_aload_n rfl rfl ?_
              refine jw_iconst rfl ?_
              refine jw_pf rfl rfl ?_
              refine jw_vret rfl ?_
              refine jw_iload rfl rfl ?_
              refine jw_iret rfl ?_
              exact h
          · replace h := h.2 c14
            refine jw_aload_n rfl rfl ?_
            refine jw_bipush rfl (by decide) ?_
            refine jw_virt (k := 1) (c := 18) (as := [.int (Int32.ofInt (-2))]) rfl rfl rfl (Nat.le_of_ble_eq_true rfl) rfl (Nat.le_of_ble_eq_true rfl) rfl rfl (jz_ci ?_)
            refine jm_Q.mono h (jp_i_mono (fun r18 J16 K17 h => ?_))
            refine jw_iret rfl ?_
            exact h
    · replace h := h.2 c4
      refine jw_if_eq rfl (by omega) (fun _ => ?_) (fun hc => by exfalso; omega)
      refine jw_aload_n rfl rfl ?_
      refine jw_bipush rfl (by decide) ?_
      refine jw_virt (k := 1) (c := 18) (as := [.int (Int32.ofInt (-2))]) rfl rfl rfl (Nat.le_of_ble_eq_true rfl) rfl (Nat.le_of_ble_eq_true rfl) rfl rfl (jz_ci ?_)
      refine jm_Q.mono h (jp_i_mono (fun r21 J19 K20 h => ?_))
      refine jw_iret rfl ?_
      exact h
  · replace h := h.2 c2
    refine jw_if_eq rfl (by omega) (fun _ => ?_) (fun hc => by exfalso; omega)
    refine jw_aload_n rfl rfl ?_
    refine jw_bipush rfl (by decide) ?_
    refine jw_virt (k := 1) (c := 18) (as := [.int (Int32.ofInt (-2))]) rfl rfl rfl (Nat.le_of_ble_eq_true rfl) rfl (Nat.le_of_ble_eq_true rfl) rfl rfl (jz_ci ?_)
    refine jm_Q.mono h (jp_i_mono (fun r24 J22 K23 h => ?_))
    refine jw_iret rfl ?_
    exact h
set_option maxHeartbeats 4000000 in
theorem e_66 {xs : Nat → Int32} {L d : Nat} {v1 : Int} {J K : jZ} {P : Int → jZ → jZ → Prop} (h : (-2147483648 ≤ v1 ∧ v1 < 2147483648) ∧ (v1 < 0 → q_13 xs L d (-2) J K (fun r5 J3 K4 => P r5 J3 K4)) ∧ (0 ≤ v1 → (v1 ≤ 255 → (-2147483648 ≤ J 144 1 ∧ J 144 1 < 2147483648) ∧ ((J 144 1) < 250 → q_67 xs L d v1 J K (fun J9 K10 => P (J9 144 1) J9 K10)) ∧ (250 ≤ (J 144 1) → q_13 xs L d (-6) J K (fun r13 J11 K12 => P r13 J11 K12))) ∧ (255 < v1 → q_13 xs L d (-2) J K (fun r16 J14 K15 => P r16 J14 K15)))) : q_66 xs L (d + 1) v1 J K P := by
  unfold q_66
  refine jq_in (ls := [some (.ref 0), some (.int (Int32.ofInt v1))]) rfl (Nat.le_of_ble_eq_true rfl) rfl ?_
  refine jw_iload_n rfl rfl ?_
  obtain ⟨o1, h⟩ := h
  refine jw_if_lt rfl o1 (fun c2 => ?_) (fun c2 => ?_)
  · replace h := h.1 c2
    refine jw_aload_n rfl rfl ?_
    refine jw_bipush rfl (by decide) ?_
    refine jw_virt (k := 1) (c := 18) (as := [.int (Int32.ofInt (-2))]) rfl rfl rfl (Nat.le_of_ble_eq_true rfl) rfl (Nat.le_of_ble_eq_true rfl) rfl rfl (jz_ci ?_)
    refine jm_Q.mono h (jp_i_mono (fun r5 J3 K4 h => ?_))
    refine jw_iret rfl ?_
    exact h
  · replace h := h.2 c2
    refine jw_iload_n rfl rfl ?_
    refine jw_sipush rfl (by decide) ?_
    refine jw_ic_le rfl o1 (by omega) (fun c6 => ?_) (fun c6 => ?_)
    · replace h := h.1 c6
      refine jw_aload_n rfl rfl ?_
      refine jw_gr (q := 144) rfl rfl rfl ?_
      refine jw_gf (v := (J 144 1)) rfl (by decide) rfl rfl ?_
      refine jw_sipush rfl (by decide) ?_
      obtain ⟨o7, h⟩ := h
      refine jw_ic_lt rfl o7 (by omega) (fun c8 => ?_) (fun c8 => ?_)
      · replace h := h.1 c8
        refine jw_aload_n rfl rfl ?_
        refine jw_gr (q := 144) rfl rfl rfl ?_
        refine jw_iload_n rfl rfl ?_
        refine jw_virt (k := 1) (c := 16) (as := [.int (Int32.ofInt v1)]) rfl rfl rfl (Nat.le_of_ble_eq_true rfl) rfl (Nat.le_of_ble_eq_true rfl) rfl rfl (jz_cv ?_)
        refine jm_Q.mono h (jp_v_mono (fun J9 K10 h => ?_))
        refine jw_aload_n rfl rfl ?_
        refine jw_gr (q := 144) rfl rfl rfl ?_
        refine jw_gf (v := (J9 144 1)) rfl (by decide) rfl rfl ?_
        refine jw_iret rfl ?_
        exact h
      · replace h := h.2 c8
        refine jw_aload_n rfl rfl ?_
        refine jw_bipush rfl (by decide) ?_
        refine jw_virt (k := 1) (c := 18) (as := [.int (Int32.ofInt (-6))]) rfl rfl rfl (Nat.le_of_ble_eq_true rfl) rfl (Nat.le_of_ble_eq_true rfl) rfl rfl (jz_ci ?_)
        refine jm_Q.mono h (jp_i_mono (fun r13 J11 K12 h => ?_))
        refine jw_iret rfl ?_
        exact h
    · replace h := h.2 c6
      refine jw_aload_n rfl rfl ?_
      refine jw_bipush rfl (by decide) ?_
      refine jw_virt (k := 1) (c := 18) (as := [.int (Int32.ofInt (-2))]) rfl rfl rfl (Nat.le_of_ble_eq_true rfl) rfl (Nat.le_of_ble_eq_true rfl) rfl rfl (jz_ci ?_)
      refine jm_Q.mono h (jp_i_mono (fun r16 J14 K15 h => ?_))
      refine jw_iret rfl ?_
      exact h
set_option maxHeartbeats 4000000 in
theorem e_67 {xs : Nat → Int32} {L d : Nat} {v1 : Int} {J K : jZ} {P : jZ → jZ → Prop} (h : (-2147483648 ≤ J 144 1 ∧ J 144 1 < 2147483648) ∧ (250 ≤ (J 144 1) → P J K) ∧ ((J 144 1) < 250 → ((0 : Int) ≤ J 144 1 ∧ J 144 1 < 250) ∧ P (jm_up (jm_up J 145 (J 144 1).toNat v1) 144 1 ((J 144 1) + 1)) K)) : q_67 xs L (d + 1) v1 J K P := by
  unfold q_67
  refine jq_in (ls := [some (.ref 144), some (.int (Int32.ofInt v1))]) rfl (Nat.le_of_ble_eq_true rfl) rfl ?_
  refine jw_aload_n rfl rfl ?_
  refine jw_gf (v := (J 144 1)) rfl (by decide) rfl rfl ?_
  refine jw_sipush rfl (by decide) ?_
  obtain ⟨o1, h⟩ := h
  refine jw_ic_ge rfl o1 (by omega) (fun c2 => ?_) (fun c2 => ?_)
  · replace h := h.1 c2
    refine jw_vret rfl ?_
    exact h
  · replace h := h.2 c2
    refine jw_aload_n rfl rfl ?_
    refine jw_gr (q := 145) rfl rfl rfl ?_
    refine jw_aload_n rfl rfl ?_
    refine jw_gf (v := (J 144 1)) rfl (by decide) rfl rfl ?_
    refine jw_iload_n rfl rfl ?_
    obtain ⟨o3, h⟩ := h
    refine jw_iast (N := 250) rfl rfl rfl (by omega) o3 ?_
    refine jw_aload_n rfl rfl ?_
    refine jw_dup_r rfl ?_
    refine jw_gf (v := (J 144 1)) rfl (by decide) rfl (by simp [jm_up]) ?_
    refine jw_iconst rfl ?_
    refine jw_iadd rfl ?_
    refine jw_pf rfl rfl ?_
    refine jw_vret rfl ?_
    exact h
set_option maxHeartbeats 4000000 in
theorem e_71 {xs : Nat → Int32} {L d : Nat} {v0 : Int} {J K : jZ} {P : Int → jZ → jZ → Prop} (h : (-2147483648 ≤ v0 ∧ v0 < 2147483648) ∧ (v0 < 97 → P 0 J K) ∧ (97 ≤ v0 → (113 ≤ v0 → P 0 J K) ∧ (v0 < 113 → P 1 J K))) : q_71 xs L (d + 1) v0 J K P := by
  unfold q_71
  refine jq_in (ls := [some (.int (Int32.ofInt v0))]) rfl (Nat.le_of_ble_eq_true rfl) rfl ?_
  refine jw_iload_n rfl rfl ?_
  refine jw_bipush rfl (by decide) ?_
  obtain ⟨o1, h⟩ := h
  refine jw_ic_lt rfl o1 (by omega) (fun c2 => ?_) (fun c2 => ?_)
  · replace h := h.1 c2
    refine jw_iconst rfl ?_
    refine jw_zret rfl (by omega) ?_
    exact h
  · replace h := h.2 c2
    refine jw_iload_n rfl rfl ?_
    refine jw_bipush rfl (by decide) ?_
    refine jw_ic_ge rfl o1 (by omega) (fun c3 => ?_) (fun c3 => ?_)
    · replace h := h.1 c3
      refine jw_iconst rfl ?_
      refine jw_zret rfl (by omega) ?_
      exact h
    · replace h := h.2 c3
      refine jw_iconst rfl ?_
      refine jw_goto rfl ?_
      refine jw_zret rfl (by omega) ?_
      exact h
set_option maxHeartbeats 4000000 in
theorem sb_71 {xs : Nat → Int32} {L d : Nat} {v0 : Int} {J K : jZ} {P : Int → jZ → jZ → Prop} (o0 : -2147483648 ≤ v0 ∧ v0 < 2147483648) (h1 : (97 ≤ v0 ∧ v0 < 113) → P 1 J K) (h0 : ¬ (97 ≤ v0 ∧ v0 < 113) → P 0 J K) : q_71 xs L (d + 1) v0 J K P := by
  refine e_71 ?_
  repeat' (first | exact h1 (by omega) | exact h0 (by omega) | refine ⟨by omega, ?_⟩ | refine ⟨fun _ => ?_, fun _ => ?_⟩)
set_option maxHeartbeats 4000000 in
theorem e_74 {xs : Nat → Int32} {L d : Nat} {v1 : Int} {J K : jZ} {P : Int → jZ → jZ → Prop} (h : q_13 xs L d (-2) J K (fun r3 J1 K2 => P ((-20) - v1) J1 K2)) : q_74 xs L (d + 1) v1 J K P := by
  unfold q_74
  refine jq_in (ls := [some (.ref 0), some (.int (Int32.ofInt v1))]) rfl (Nat.le_of_ble_eq_true rfl) rfl ?_
  refine jw_aload_n rfl rfl ?_
  refine jw_bipush rfl (by decide) ?_
  refine jw_virt (k := 1) (c := 18) (as := [.int (Int32.ofInt (-2))]) rfl rfl rfl (Nat.le_of_ble_eq_true rfl) rfl (Nat.le_of_ble_eq_true rfl) rfl rfl (jz_ci ?_)
  refine jm_Q.mono h (jp_i_mono (fun r3 J1 K2 h => ?_))
  refine jw_pop_i rfl ?_
  refine jw_bipush rfl (by decide) ?_
  refine jw_iload_n rfl rfl ?_
  refine jw_isub rfl ?_
  refine jw_iret rfl ?_
  exact h
set_option maxHeartbeats 4000000 in
theorem e_76 {xs : Nat → Int32} {L d : Nat} {J K : jZ} {P : Int → jZ → jZ → Prop} (h : q_77 xs L d J K (fun r3 J1 K2 => (-2147483648 ≤ r3 ∧ r3 < 2147483648) ∧ (r3 = (-1) → (-2147483648 ≤ J1 146 9 ∧ J1 146 9 < 2147483648) ∧ ((J1 146 9) ≤ 24 → P ((J1 146 9) - 1) (jm_up (jm_up J1 144 1 0) 9 1 (J1 146 9)) K2) ∧ (24 < (J1 146 9) → q_13 xs L d (-6) (jm_up J1 144 1 0) K2 (fun r10 J8 K9 => P r10 J8 K9))) ∧ (¬ r3 = (-1) → q_74 xs L d r3 (jm_up J1 144 1 0) K2 (fun r13 J11 K12 => P r13 J11 K12)))) : q_76 xs L (d + 1) J K P := by
  unfold q_76
  refine jq_in (ls := [some (.ref 0), none]) rfl (Nat.le_of_ble_eq_true rfl) rfl ?_
  refine jw_aload_n rfl rfl ?_
  refine jw_gr (q := 146) rfl rfl rfl ?_
  refine jw_virt (k := 0) (c := 10) (as := []) rfl rfl rfl (Nat.le_of_ble_eq_true rfl) rfl (Nat.le_of_ble_eq_true rfl) rfl rfl (jz_ci ?_)
  refine jm_Q.mono h (jp_i_mono (fun r3 J1 K2 h => ?_))
  refine jw_istore_n (ls' := [some (.ref 0), some (.int (Int32.ofInt r3))]) rfl rfl ?_
  refine jw_aload_n rfl rfl ?_
  refine jw_gr (q := 144) rfl rfl rfl ?_
  refine jw_iconst rfl ?_
  refine jw_pf rfl rfl ?_
  refine jw_iload_n rfl rfl ?_
  refine jw_iconst rfl ?_
  obtain ⟨o4, h⟩ := h
  refine jw_ic_eq rfl o4 (by omega) (fun c5 => ?_) (fun c5 => ?_)
  · replace h := h.1 c5
    refine jw_aload_n rfl rfl ?_
    refine jw_gr (q := 146) rfl rfl rfl ?_
    refine jw_gf (v := (J1 146 9)) rfl (by decide) rfl (by simp [jm_up]) ?_
    refine jw_bipush rfl (by decide) ?_
    obtain ⟨o6, h⟩ := h
    refine jw_ic_le rfl o6 (by omega) (fun c7 => ?_) (fun c7 => ?_)
    · replace h := h.1 c7
      refine jw_aload_n rfl rfl ?_
      refine jw_gr (q := 9) rfl rfl rfl ?_
      refine jw_aload_n rfl rfl ?_
      refine jw_gr (q := 146) rfl rfl rfl ?_
      refine jw_gf (v := (J1 146 9)) rfl (by decide) rfl (by simp [jm_up]) ?_
      refine jw_pf rfl rfl ?_
      refine jw_aload_n rfl rfl ?_
      refine jw_gr (q := 9) rfl rfl rfl ?_
      refine jw_gf (v := (J1 146 9)) rfl (by decide) rfl (by simp [jm_up]) ?_
      refine jw_iconst rfl ?_
      refine jw_isub rfl ?_
      refine jw_iret rfl ?_
      exact h
    · replace h := h.2 c7
      refine jw_aload_n rfl rfl ?_
      refine jw_bipush rfl (by decide) ?_
      refine jw_virt (k := 1) (c := 18) (as := [.int (Int32.ofInt (-6))]) rfl rfl rfl (Nat.le_of_ble_eq_true rfl) rfl (Nat.le_of_ble_eq_true rfl) rfl rfl (jz_ci ?_)
      refine jm_Q.mono h (jp_i_mono (fun r10 J8 K9 h => ?_))
      refine jw_iret rfl ?_
      exact h
  · replace h := h.2 c5
    refine jw_aload_n rfl rfl ?_
    refine jw_iload_n rfl rfl ?_
    refine jw_virt (k := 1) (c := 18) (as := [.int (Int32.ofInt r3)]) rfl rfl rfl (Nat.le_of_ble_eq_true rfl) rfl (Nat.le_of_ble_eq_true rfl) rfl rfl (jz_ci ?_)
    refine jm_Q.mono h (jp_i_mono (fun r13 J11 K12 h => ?_))
    refine jw_iret rfl ?_
    exact h
