/-! The methods of the reference walked (1). -/
set_option maxHeartbeats 4000000 in
theorem e_169 {xs : Nat → Int32} {L d : Nat} {v0 : Int} {v2 : Int} {v4 : Int} {J K : jZ} {P : Int → jZ → jZ → Prop} (h : (-9223372036854775808 ≤ v0 ∧ v0 < 9223372036854775808) ∧ (-9223372036854775808 ≤ v2 ∧ v2 < 9223372036854775808) ∧ (v0 < v2 → P 0 J K) ∧ (v2 ≤ v0 → (-9223372036854775808 ≤ v4 ∧ v4 < 9223372036854775808) ∧ (v4 < v0 → P 0 J K) ∧ (v0 ≤ v4 → P 1 J K))) : q_169 xs L (d + 1) v0 v2 v4 J K P := by
  unfold q_169
  refine jq_in (ls := [some (.long (Int64.ofInt v0)), none, some (.long (Int64.ofInt v2)), none, some (.long (Int64.ofInt v4)), none]) rfl (Nat.le_of_ble_eq_true rfl) rfl ?_
  refine jw_lload_n rfl rfl ?_
  refine jw_lload_n rfl rfl ?_
  obtain ⟨o1, h⟩ := h
  obtain ⟨o2, h⟩ := h
  refine jw_lc_lt rfl rfl o1 o2 (fun c3 => ?_) (fun c3 => ?_)
  · replace h := h.1 c3
    refine jw_iconst rfl ?_
    refine jw_zret rfl (by omega) ?_
    exact h
  · replace h := h.2 c3
    refine jw_lload_n rfl rfl ?_
    refine jw_lload rfl rfl ?_
    obtain ⟨o4, h⟩ := h
    refine jw_lc_gt rfl rfl o1 o4 (fun c5 => ?_) (fun c5 => ?_)
    · replace h := h.1 c5
      refine jw_iconst rfl ?_
      refine jw_zret rfl (by omega) ?_
      exact h
    · replace h := h.2 c5
      refine jw_iconst rfl ?_
      refine jw_goto rfl ?_
      refine jw_zret rfl (by omega) ?_
      exact h
set_option maxHeartbeats 4000000 in
theorem sb_169 {xs : Nat → Int32} {L d : Nat} {v0 : Int} {v2 : Int} {v4 : Int} {J K : jZ} {P : Int → jZ → jZ → Prop} (o0 : -9223372036854775808 ≤ v0 ∧ v0 < 9223372036854775808) (o1 : -9223372036854775808 ≤ v2 ∧ v2 < 9223372036854775808) (o2 : -9223372036854775808 ≤ v4 ∧ v4 < 9223372036854775808) (h1 : (v2 ≤ v0 ∧ v0 ≤ v4) → P 1 J K) (h0 : ¬ (v2 ≤ v0 ∧ v0 ≤ v4) → P 0 J K) : q_169 xs L (d + 1) v0 v2 v4 J K P := by
  refine e_169 ?_
  repeat' (first | exact h1 (by omega) | exact h0 (by omega) | refine ⟨by omega, ?_⟩ | refine ⟨fun _ => ?_, fun _ => ?_⟩)
set_option maxHeartbeats 4000000 in
theorem e_168 {xs : Nat → Int32} {L d : Nat} {v1 : Int} {v2 : Int} {v3 : Int} {J K : jZ} {P : Int → jZ → jZ → Prop} (h : (-2147483648 ≤ v1 ∧ v1 < 2147483648) ∧ ((0 ≤ v1 ∧ v1 ≤ 7) → (-2147483648 ≤ v2 ∧ v2 < 2147483648) ∧ ((0 ≤ v2 ∧ v2 ≤ 4) → (-2147483648 ≤ v3 ∧ v3 < 2147483648) ∧ ((0 ≤ v3 ∧ v3 ≤ 40) → ((0 : Int) ≤ v1 ∧ v1 < 8) ∧ l_168_67 xs L (d + 1) v1 0 (jm_up (jm_up (jm_up J 168 v1.toNat 1) 169 v1.toNat v2) 170 v1.toNat v3) K P) ∧ (¬ (0 ≤ v3 ∧ v3 ≤ 40) → q_170 xs L (d + 1) (-2) J K (fun r10 J8 K9 => P r10 J8 K9))) ∧ (¬ (0 ≤ v2 ∧ v2 ≤ 4) → q_170 xs L (d + 1) (-2) J K (fun r13 J11 K12 => P r13 J11 K12))) ∧ (¬ (0 ≤ v1 ∧ v1 ≤ 7) → q_170 xs L (d + 1) (-2) J K (fun r16 J14 K15 => P r16 J14 K15))) : q_168 xs L (d + 2) v1 v2 v3 J K P := by
  unfold q_168
  refine jq_in (ls := [some (.ref 167), some (.int (Int32.ofInt v1)), some (.int (Int32.ofInt v2)), some (.int (Int32.ofInt v3)), none]) rfl (Nat.le_of_ble_eq_true rfl) rfl ?_
  refine jw_iload_n rfl rfl ?_
  obtain ⟨o1, h⟩ := h
  refine jw_i2l rfl o1 ?_
  refine jw_lconst (x := 0) rfl rfl ?_
  refine jw_ldc2_w rfl ?_
  refine jw_stat (k := 3) (as := [.long (Int64.ofInt v1), .long (Int64.ofInt 0), .long (Int64.ofInt 7)]) rfl (by decide) rfl rfl (Nat.le_of_ble_eq_true rfl) rfl (Nat.le_of_ble_eq_true rfl) (jz_ci ?_)
  refine sb_169 (by omega) (by omega) (by omega) (fun c2 => ?_) (fun c2 => ?_)
  · replace h := h.1 c2
    refine jw_if_eq rfl (by omega) (fun hc => by exfalso; omega) (fun _ => ?_)
    refine jw_iload_n rfl rfl ?_
    obtain ⟨o3, h⟩ := h
    refine jw_i2l rfl o3 ?_
    refine jw_lconst (x := 0) rfl rfl ?_
    refine jw_ldc2_w rfl ?_
    refine jw_stat (k := 3) (as := [.long (Int64.ofInt v2), .long (Int64.ofInt 0), .long (Int64.ofInt 4)]) rfl (by decide) rfl rfl (Nat.le_of_ble_eq_true rfl) rfl (Nat.le_of_ble_eq_true rfl) (jz_ci ?_)
    refine sb_169 (by omega) (by omega) (by omega) (fun c4 => ?_) (fun c4 => ?_)
    · replace h := h.1 c4
      refine jw_if_eq rfl (by omega) (fun hc => by exfalso; omega) (fun _ => ?_)
      refine jw_iload_n rfl rfl ?_
      obtain ⟨o5, h⟩ := h
      refine jw_i2l rfl o5 ?_
      refine jw_lconst (x := 0) rfl rfl ?_
      refine jw_ldc2_w rfl ?_
      refine jw_stat (k := 3) (as := [.long (Int64.ofInt v3), .long (Int64.ofInt 0), .long (Int64.ofInt 40)]) rfl (by decide) rfl rfl (Nat.le_of_ble_eq_true rfl) rfl (Nat.le_of_ble_eq_true rfl) (jz_ci ?_)
      refine sb_169 (by omega) (by omega) (by omega) (fun c6 => ?_) (fun c6 => ?_)
      · replace h := h.1 c6
        refine jw_if_ne rfl (by omega) (fun _ => ?_) (fun hc => by exfalso; omega)
        refine jw_aload_n rfl rfl ?_
        refine jw_gr (q := 168) rfl rfl rfl ?_
        refine jw_iload_n rfl rfl ?_
        refine jw_iconst rfl ?_
        obtain ⟨o7, h⟩ := h
        refine jw_iast (N := 8) rfl rfl rfl (by omega) o7 ?_
        refine jw_aload_n rfl rfl ?_
        refine jw_gr (q := 169) rfl rfl rfl ?_
        refine jw_iload_n rfl rfl ?_
        refine jw_iload_n rfl rfl ?_
        refine jw_iast (N := 8) rfl rfl rfl (by omega) o7 ?_
        refine jw_aload_n rfl rfl ?_
        refine jw_gr (q := 170) rfl rfl rfl ?_
        refine jw_iload_n rfl rfl ?_
        refine jw_iload_n rfl rfl ?_
        refine jw_iast (N := 8) rfl rfl rfl (by omega) o7 ?_
        refine jw_iconst rfl ?_
        refine jw_istore (ls' := [some (.ref 167), some (.int (Int32.ofInt v1)), some (.int (Int32.ofInt v2)), some (.int (Int32.ofInt v3)), some (.int (Int32.ofInt 0))]) rfl rfl ?_
        exact jz_fg (l := [some (.ref 167), some (.int (Int32.ofInt v1)), none, none, some (.int (Int32.ofInt 0))]) ⟨rfl, rfl, jz_ni, jz_ni, rfl, trivial⟩ h
      · replace h := h.2 c6
        refine jw_if_ne rfl (by omega) (fun hc => by exfalso; omega) (fun _ => ?_)
        refine jw_aload_n rfl rfl ?_
        refine jw_bipush rfl (by decide) ?_
        refine jw_virt (k := 1) (c := 19) (as := [.int (Int32.ofInt (-2))]) rfl rfl rfl (Nat.le_of_ble_eq_true rfl) rfl (Nat.le_of_ble_eq_true rfl) rfl rfl (jz_ci ?_)
        refine jm_Q.mono h (jp_i_mono (fun r10 J8 K9 h => ?_))
        refine jw_iret rfl ?_
        exact h
    · replace h := h.2 c4
      refine jw_if_eq rfl (by omega) (fun _ => ?_) (fun hc => by exfalso; omega)
      refine jw_aload_n rfl rfl ?_
      refine jw_bipush rfl (by decide) ?_
      refine jw_virt (k := 1) (c := 19) (as := [.int (Int32.ofInt (-2))]) rfl rfl rfl (Nat.le_of_ble_eq_true rfl) rfl (Nat.le_of_ble_eq_true rfl) rfl rfl (jz_ci ?_)
      refine jm_Q.mono h (jp_i_mono (fun r13 J11 K12 h => ?_))
      refine jw_iret rfl ?_
      exact h
  · replace h := h.2 c2
    refine jw_if_eq rfl (by omega) (fun _ => ?_) (fun hc => by exfalso; omega)
    refine jw_aload_n rfl rfl ?_
    refine jw_bipush rfl (by decide) ?_
    refine jw_virt (k := 1) (c := 19) (as := [.int (Int32.ofInt (-2))]) rfl rfl rfl (Nat.le_of_ble_eq_true rfl) rfl (Nat.le_of_ble_eq_true rfl) rfl rfl (jz_ci ?_)
    refine jm_Q.mono h (jp_i_mono (fun r16 J14 K15 h => ?_))
    refine jw_iret rfl ?_
    exact h
set_option maxHeartbeats 4000000 in
theorem e_168_67 {xs : Nat → Int32} {L d : Nat} {v1 : Int} {v4 : Int} {J K : jZ} {P : Int → jZ → jZ → Prop} (h : (-2147483648 ≤ v4 ∧ v4 < 2147483648) ∧ (40 ≤ v4 → P 1 J K) ∧ (v4 < 40 → ((0 : Int) ≤ v1 ∧ v1 < 8) ∧ ((0 : Int) ≤ v4 ∧ v4 < 40) ∧ l_168_67 xs L (d + 1) v1 (v4 + 1) J (jm_up K (172 + v1.toNat) v4.toNat 0) P)) : l_168_67 xs L (d + 1) v1 v4 J K P := by
  unfold l_168_67
  refine jw_iload rfl rfl ?_
  refine jw_bipush rfl (by decide) ?_
  obtain ⟨o1, h⟩ := h
  refine jw_ic_ge rfl o1 (by omega) (fun c2 => ?_) (fun c2 => ?_)
  · replace h := h.1 c2
    refine jw_iconst rfl ?_
    refine jw_iret rfl ?_
    exact h
  · replace h := h.2 c2
    refine jw_aload_n rfl rfl ?_
    refine jw_gr (q := 171) rfl rfl rfl ?_
    refine jw_iload_n rfl rfl ?_
    obtain ⟨o3, h⟩ := h
    refine jw_aald (k := 5) (q := (172 + v1.toNat)) (N := 8) rfl rfl (by omega) rfl (by omega) o3 (jzr_171 o3) ?_
    refine jw_iload rfl rfl ?_
    refine jw_lconst (x := 0) rfl rfl ?_
    obtain ⟨o4, h⟩ := h
    refine jw_last (N := 40) rfl (jze_171 o3) (jzl_171 o3) (by omega) o4 ?_
    refine jw_iinc (ls' := [some (.ref 167), some (.int (Int32.ofInt v1)), none, none, some (.int (Int32.ofInt (v4 + 1)))]) rfl rfl rfl ?_
    refine jw_goto rfl ?_
    exact jz_fg (l := [some (.ref 167), some (.int (Int32.ofInt v1)), none, none, some (.int (Int32.ofInt (v4 + 1)))]) ⟨rfl, rfl, jz_n0, jz_n0, rfl, trivial⟩ h
set_option maxHeartbeats 4000000 in
theorem e_170 {xs : Nat → Int32} {L d : Nat} {v1 : Int} {J K : jZ} {P : Int → jZ → jZ → Prop} (h : ((0 : Int) ≤ (-v1) ∧ (-v1) < 8) ∧ P v1 (jm_up J 183 (-v1).toNat ((J 183 (-v1).toNat) + 1)) K) : q_170 xs L (d + 1) v1 J K P := by
  unfold q_170
  refine jq_in (ls := [some (.ref 167), some (.int (Int32.ofInt v1))]) rfl (Nat.le_of_ble_eq_true rfl) rfl ?_
  refine jw_aload_n rfl rfl ?_
  refine jw_gr (q := 183) rfl rfl rfl ?_
  refine jw_iload_n rfl rfl ?_
  refine jw_ineg rfl ?_
  refine jw_dup2 rfl ?_
  obtain ⟨o1, h⟩ := h
  refine jw_iald (v := (J 183 (-v1).toNat)) (N := 8) rfl rfl rfl (by omega) o1 rfl ?_
  refine jw_iconst rfl ?_
  refine jw_iadd rfl ?_
  refine jw_iast (N := 8) rfl rfl rfl (by omega) o1 ?_
  refine jw_iload_n rfl rfl ?_
  refine jw_iret rfl ?_
  exact h
set_option maxHeartbeats 4000000 in
theorem e_171 {xs : Nat → Int32} {L d : Nat} {v1 : Int} {v2 : Int} {v3 : Int} {J K : jZ} {P : Int → jZ → jZ → Prop} (h : q_172 xs L (d + 1) v1 J K (fun r3 J1 K2 => (-2147483648 ≤ r3 ∧ r3 < 2147483648) ∧ (r3 = 0 → (-2147483648 ≤ v2 ∧ v2 < 2147483648) ∧ ((0 : Int) ≤ v1 ∧ v1 < 8) ∧ (-2147483648 ≤ ((J1 170 v1.toNat) - 1) ∧ ((J1 170 v1.toNat) - 1) < 2147483648) ∧ ((0 ≤ v2 ∧ v2 ≤ ((J1 170 v1.toNat) - 1)) → q_173 xs L (d + 1) (J1 169 v1.toNat) v3 J1 K2 (fun r12 J10 K11 => ((0 : Int) ≤ v2 ∧ v2 < 40) ∧ P 1 J10 (jm_up K11 (172 + v1.toNat) v2.toNat r12))) ∧ (¬ (0 ≤ v2 ∧ v2 ≤ ((J1 170 v1.toNat) - 1)) → q_170 xs L (d + 1) (-2) J1 K2 (fun r16 J14 K15 => P r16 J14 K15))) ∧ (¬ r3 = 0 → P r3 J1 K2))) : q_171 xs L (d + 2) v1 v2 v3 J K P := by
  unfold q_171
  refine jq_in (ls := [some (.ref 167), some (.int (Int32.ofInt v1)), some (.int (Int32.ofInt v2)), some (.long (Int64.ofInt v3)), none, none]) rfl (Nat.le_of_ble_eq_true rfl) rfl ?_
  refine jw_aload_n rfl rfl ?_
  refine jw_iload_n rfl rfl ?_
  refine jw_virt (k := 1) (c := 19) (as := [.int (Int32.ofInt v1)]) rfl rfl rfl (Nat.le_of_ble_eq_true rfl) rfl (Nat.le_of_ble_eq_true rfl) rfl rfl (jz_ci ?_)
  refine jm_Q.mono h (jp_i_mono (fun r3 J1 K2 h => ?_))
  refine jw_istore (ls' := [some (.ref 167), some (.int (Int32.ofInt v1)), some (.int (Int32.ofInt v2)), some (.long (Int64.ofInt v3)), none, some (.int (Int32.ofInt r3))]) rfl rfl ?_
  refine jw_iload rfl rfl ?_
  obtain ⟨o4, h⟩ := h
  refine jw_if_eq rfl o4 (fun c5 => ?_) (fun c5 => ?_)
  · replace h := h.1 c5
    refine jw_iload_n rfl rfl ?_
    obtain ⟨o6, h⟩ := h
    refine jw_i2l rfl o6 ?_
    refine jw_lconst (x := 0) rfl rfl ?_
    refine jw_aload_n rfl rfl ?_
    refine jw_gr (q := 170) rfl rfl rfl ?_
    refine jw_iload_n rfl rfl ?_
    obtain ⟨o7, h⟩ := h
    refine jw_iald (v := (J1 170 v1.toNat)) (N := 8) rfl rfl rfl (by omega) o7 rfl ?_
    refine jw_iconst rfl ?_
    refine jw_isub rfl ?_
    obtain ⟨o8, h⟩ := h
    refine jw_i2l rfl o8 ?_
    refine jw_stat (k := 3) (as := [.long (Int64.ofInt v2), .long (Int64.ofInt 0), .long (Int64.ofInt ((J1 170 v1.toNat) - 1))]) rfl (by decide) rfl rfl (Nat.le_of_ble_eq_true rfl) rfl (Nat.le_of_ble_eq_true rfl) (jz_ci ?_)
    refine sb_169 (by omega) (by omega) (by omega) (fun c9 => ?_) (fun c9 => ?_)
    · replace h := h.1 c9
      refine jw_if_ne rfl (by omega) (fun _ => ?_) (fun hc => by exfalso; omega)
      refine jw_aload_n rfl rfl ?_
      refine jw_gr (q := 171) rfl rfl rfl ?_
      refine jw_iload_n rfl rfl ?_
      refine jw_aald (k := 5) (q := (172 + v1.toNat)) (N := 8) rfl rfl (by omega) rfl (by omega) o7 (jzr_171 o7) ?_
      refine jw_iload_n rfl rfl ?_
      refine jw_aload_n rfl rfl ?_
      refine jw_gr (q := 169) rfl rfl rfl ?_
      refine jw_iload_n rfl rfl ?_
      refine jw_iald (v := (J1 169 v1.toNat)) (N := 8) rfl rfl rfl (by omega) o7 rfl ?_
      refine jw_lload_n rfl rfl ?_
      refine jw_stat (k := 2) (as := [.int (Int32.ofInt (J1 169 v1.toNat)), .long (Int64.ofInt v3)]) rfl (by decide) rfl rfl (Nat.le_of_ble_eq_true rfl) rfl (Nat.le_of_ble_eq_true rfl) (jz_cl ?_)
      refine jm_Q.mono h (jp_l_mono (fun r12 J10 K11 h => ?_))
      obtain ⟨o13, h⟩ := h
      refine jw_last (N := 40) rfl (jze_171 o7) (jzl_171 o7) (by omega) o13 ?_
      refine jw_iconst rfl ?_
      refine jw_iret rfl ?_
      exact h
    · replace h := h.2 c9
      refine jw_if_ne rfl (by omega) (fun hc => by exfalso; omega) (fun _ => ?_)
      refine jw_aload_n rfl rfl ?_
      refine jw_bipush rfl (by decide) ?_
      refine jw_virt (k := 1) (c := 19) (as := [.int (Int32.ofInt (-2))]) rfl rfl rfl (Nat.le_of_ble_eq_true rfl) rfl (Nat.le_of_ble_eq_true rfl) rfl rfl (jz_ci ?_)
      refine jm_Q.mono h (jp_i_mono (fun r16 J14 K15 h => ?_))
      refine jw_iret rfl ?_
      exact h
  · replace h := h.2 c5
    refine jw_iload rfl rfl ?_
    refine jw_iret rfl ?_
    exact h
set_option maxHeartbeats 4000000 in
theorem e_172 {xs : Nat → Int32} {L d : Nat} {v1 : Int} {J K : jZ} {P : Int → jZ → jZ → Prop} (h : (-2147483648 ≤ v1 ∧ v1 < 2147483648) ∧ ((0 ≤ v1 ∧ v1 ≤ 7) → ((0 : Int) ≤ v1 ∧ v1 < 8) ∧ (-2147483648 ≤ J 168 v1.toNat ∧ J 168 v1.toNat < 2147483648) ∧ (¬ (J 168 v1.toNat) = 2 → (¬ (J 168 v1.toNat) = 0 → P 0 J K) ∧ ((J 168 v1.toNat) = 0 → q_170 xs L (d + 1) (-4) J K (fun r9 J7 K8 => P r9 J7 K8))) ∧ ((J 168 v1.toNat) = 2 → q_170 xs L (d + 1) (-3) J K (fun r12 J10 K11 => P r12 J10 K11))) ∧ (¬ (0 ≤ v1 ∧ v1 ≤ 7) → q_170 xs L (d + 1) (-2) J K (fun r15 J13 K14 => P r15 J13 K14))) : q_172 xs L (d + 2) v1 J K P := by
  unfold q_172
  refine jq_in (ls := [some (.ref 167), some (.int (Int32.ofInt v1))]) rfl (Nat.le_of_ble_eq_true rfl) rfl ?_
  refine jw_iload_n rfl rfl ?_
  obtain ⟨o1, h⟩ := h
  refine jw_i2l rfl o1 ?_
  refine jw_lconst (x := 0) rfl rfl ?_
  refine jw_ldc2_w rfl ?_
  refine jw_stat (k := 3) (as := [.long (Int64.ofInt v1), .long (Int64.ofInt 0), .long (Int64.ofInt 7)]) rfl (by decide) rfl rfl (Nat.le_of_ble_eq_true rfl) rfl (Nat.le_of_ble_eq_true rfl) (jz_ci ?_)
  refine sb_169 (by omega) (by omega) (by omega) (fun c2 => ?_) (fun c2 => ?_)
  · replace h := h.1 c2
    refine jw_if_ne rfl (by omega) (fun _ => ?_) (fun hc => by exfalso; omega)
    refine jw_aload_n rfl rfl ?_
    refine jw_gr (q := 168) rfl rfl rfl ?_
    refine jw_iload_n rfl rfl ?_
    obtain ⟨o3, h⟩ := h
    refine jw_iald (v := (J 168 v1.toNat)) (N := 8) rfl rfl rfl (by omega) o3 rfl ?_
    refine jw_iconst rfl ?_
    obtain ⟨o4, h⟩ := h
    refine jw_ic_ne rfl o4 (by omega) (fun c5 => ?_) (fun c5 => ?_)
    · replace h := h.1 c5
      refine jw_aload_n rfl rfl ?_
      refine jw_gr (q := 168) rfl rfl rfl ?_
      refine jw_iload_n rfl rfl ?_
      refine jw_iald (v := (J 168 v1.toNat)) (N := 8) rfl rfl rfl (by omega) o3 rfl ?_
      refine jw_if_ne rfl o4 (fun c6 => ?_) (fun c6 => ?_)
      · replace h := h.1 c6
        refine jw_iconst rfl ?_
        refine jw_iret rfl ?_
        exact h
      · replace h := h.2 c6
        refine jw_aload_n rfl rfl ?_
        refine jw_bipush rfl (by decide) ?_
        refine jw_virt (k := 1) (c := 19) (as := [.int (Int32.ofInt (-4))]) rfl rfl rfl (Nat.le_of_ble_eq_true rfl) rfl (Nat.le_of_ble_eq_true rfl) rfl rfl (jz_ci ?_)
        refine jm_Q.mono h (jp_i_mono (fun r9 J7 K8 h => ?_))
        refine jw_goto rfl ?_
        refine jw_iret rfl ?_
        exact h
    · replace h := h.2 c5
      refine jw_aload_n rfl rfl ?_
      refine jw_bipush rfl (by decide) ?_
      refine jw_virt (k := 1) (c := 19) (as := [.int (Int32.ofInt (-3))]) rfl rfl rfl (Nat.le_of_ble_eq_true rfl) rfl (Nat.le_of_ble_eq_true rfl) rfl rfl (jz_ci ?_)
      refine jm_Q.mono h (jp_i_mono (fun r12 J10 K11 h => ?_))
      refine jw_iret rfl ?_
      exact h
  · replace h := h.2 c2
    refine jw_if_ne rfl (by omega) (fun hc => by exfalso; omega) (fun _ => ?_)
    refine jw_aload_n rfl rfl ?_
    refine jw_bipush rfl (by decide) ?_
    refine jw_virt (k := 1) (c := 19) (as := [.int (Int32.ofInt (-2))]) rfl rfl rfl (Nat.le_of_ble_eq_true rfl) rfl (Nat.le_of_ble_eq_true rfl) rfl rfl (jz_ci ?_)
    refine jm_Q.mono h (jp_i_mono (fun r15 J13 K14 h => ?_))
    refine jw_iret rfl ?_
    exact h
set_option maxHeartbeats 4000000 in
theorem e_173 {xs : Nat → Int32} {L d : Nat} {v0 : Int} {v1 : Int} {J K : jZ} {P : Int → jZ → jZ → Prop} (h : (-2147483648 ≤ v0 ∧ v0 < 2147483648) ∧ (v0 = 0 → P (jz_b v1) J K) ∧ (¬ v0 = 0 → (v0 = 1 → P (jz_s v1) J K) ∧ (¬ v0 = 1 → (v0 = 2 → (-2147483648 ≤ v1 ∧ v1 < 2147483648) ∧ P v1 J K) ∧ (¬ v0 = 2 → (v0 = 3 → P v1 J K) ∧ (¬ v0 = 3 → (-9223372036854775808 ≤ v1 ∧ v1 < 9223372036854775808) ∧ (v1 = 0 → P 0 J K) ∧ (¬ v1 = 0 → P 1 J K)))))) : q_173 xs L (d + 1) v0 v1 J K P := by
  unfold q_173
  refine jq_in (ls := [some (.int (Int32.ofInt v0)), some (.long (Int64.ofInt v1)), none]) rfl (Nat.le_of_ble_eq_true rfl) rfl ?_
  refine jw_iload_n rfl rfl ?_
  obtain ⟨o1, h⟩ := h
  by_cases c3 : v0 = 0
  · replace h := h.1 c3
    refine jw_tab_in (pc2 := 32) (v := 0) (o := 31) rfl o1 c3 (by omega) rfl (by omega) ?_
    refine jw_lload_n rfl rfl ?_
    refine jw_l2i rfl ?_
    refine jw_i2b rfl ?_
    refine jw_i2l rfl jz_b_r ?_
    refine jw_lret rfl ?_
    exact h
  · replace h := h.2 c3
    by_cases c4 : v0 = 1
    · replace h := h.1 c4
      refine jw_tab_in (pc2 := 37) (v := 1) (o := 36) rfl o1 c4 (by omega) rfl (by omega) ?_
      refine jw_lload_n rfl rfl ?_
      refine jw_l2i rfl ?_
      refine jw_i2s rfl ?_
      refine jw_i2l rfl jz_s_r ?_
      refine jw_lret rfl ?_
      exact h
    · replace h := h.2 c4
      by_cases c5 : v0 = 2
      · replace h := h.1 c5
        refine jw_tab_in (pc2 := 42) (v := 2) (o := 41) rfl o1 c5 (by omega) rfl (by omega) ?_
        refine jw_lload_n rfl rfl ?_
        refine jw_l2i rfl ?_
        obtain ⟨o6, h⟩ := h
        refine jw_i2l rfl o6 ?_
        refine jw_lret rfl ?_
        exact h
      · replace h := h.2 c5
        by_cases c7 : v0 = 3
        · replace h := h.1 c7
          refine jw_tab_in (pc2 := 46) (v := 3) (o := 45) rfl o1 c7 (by omega) rfl (by omega) ?_
          refine jw_lload_n rfl rfl ?_
          refine jw_lret rfl ?_
          exact h
        · replace h := h.2 c7
          refine jw_tab_out (pc2 := 48) rfl o1 (by omega) (by omega) ?_
          refine jw_lload_n rfl rfl ?_
          refine jw_lconst (x := 0) rfl rfl ?_
          obtain ⟨o8, h⟩ := h
          refine jw_lc_eq rfl rfl o8 (by omega) (fun c9 => ?_) (fun c9 => ?_)
          · replace h := h.1 c9
            refine jw_lconst (x := 0) rfl rfl ?_
            refine jw_lret rfl ?_
            exact h
          · replace h := h.2 c9
            refine jw_lconst (x := 1) rfl rfl ?_
            refine jw_goto rfl ?_
            refine jw_lret rfl ?_
            exact h
set_option maxHeartbeats 4000000 in
theorem e_174 {xs : Nat → Int32} {L d : Nat} {v1 : Int} {v2 : Int} {v3 : Int} {v4 : Int} {v5 : Int} {J K : jZ} {P : Int → jZ → jZ → Prop} (h : (-2147483648 ≤ v1 ∧ v1 < 2147483648) ∧ ((0 ≤ v1 ∧ v1 ≤ 7) → (-2147483648 ≤ v2 ∧ v2 < 2147483648) ∧ ((0 ≤ v2 ∧ v2 ≤ 7) → ((0 : Int) ≤ v1 ∧ v1 < 8) ∧ (-2147483648 ≤ J 168 v1.toNat ∧ J 168 v1.toNat < 2147483648) ∧ ((J 168 v1.toNat) = 2 → l_174_86 xs L (d + 1) J K P) ∧ (¬ (J 168 v1.toNat) = 2 → ((0 : Int) ≤ v2 ∧ v2 < 8) ∧ (-2147483648 ≤ J 168 v2.toNat ∧ J 168 v2.toNat < 2147483648) ∧ ((J 168 v2.toNat) = 2 → l_174_86 xs L (d + 1) J K P) ∧ (¬ (J 168 v2.toNat) = 2 → (¬ (J 168 v1.toNat) = 1 → l_174_93 xs L (d + 1) v1 v2 v3 v4 v5 J K P) ∧ ((J 168 v1.toNat) = 1 → (¬ (J 168 v2.toNat) = 1 → l_174_93 xs L (d + 1) v1 v2 v3 v4 v5 J K P) ∧ ((J 168 v2.toNat) = 1 → (-2147483648 ≤ J 169 v1.toNat ∧ J 169 v1.toNat < 2147483648) ∧ (-2147483648 ≤ J 169 v2.toNat ∧ J 169 v2.toNat < 2147483648) ∧ ((J 169 v1.toNat) = (J 169 v2.toNat) → l_174_93 xs L (d + 1) v1 v2 v3 v4 v5 J K P) ∧ (¬ (J 169 v1.toNat) = (J 169 v2.toNat) → l_174_86 xs L (d + 1) J K P)))))) ∧ (¬ (0 ≤ v2 ∧ v2 ≤ 7) → l_174_24 xs L (d + 1) J K P)) ∧ (¬ (0 ≤ v1 ∧ v1 ≤ 7) → l_174_24 xs L (d + 1) J K P)) : q_174 xs L (d + 2) v1 v2 v3 v4 v5 J K P := by
  unfold q_174
  refine jq_in (ls := [some (.ref 167), some (.int (Int32.ofInt v1)), some (.int (Int32.ofInt v2)), some (.int (Int32.ofInt v3)), some (.int (Int32.ofInt v4)), some (.int (Int32.ofInt v5)), none]) rfl (Nat.le_of_ble_eq_true rfl) rfl ?_
  refine jw_iload_n rfl rfl ?_
  obtain ⟨o1, h⟩ := h
  refine jw_i2l rfl o1 ?_
  refine jw_lconst (x := 0) rfl rfl ?_
  refine jw_ldc2_w rfl ?_
  refine jw_stat (k := 3) (as := [.long (Int64.ofInt v1), .long (Int64.ofInt 0), .long (Int64.ofInt 7)]) rfl (by decide) rfl rfl (Nat.le_of_ble_eq_true rfl) rfl (Nat.le_of_ble_eq_true rfl) (jz_ci ?_)
  refine sb_169 (by omega) (by omega) (by omega) (fun c2 => ?_) (fun c2 => ?_)
  · replace h := h.1 c2
    refine jw_if_eq rfl (by omega) (fun hc => by exfalso; omega) (fun _ => ?_)
    refine jw_iload_n rfl rfl ?_
    obtain ⟨o3, h⟩ := h
    refine jw_i2l rfl o3 ?_
    refine jw_lconst (x := 0) rfl rfl ?_
    refine jw_ldc2_w rfl ?_
    refine jw_stat (k := 3) (as := [.long (Int64.ofInt v2), .long (Int64.ofInt 0), .long (Int64.ofInt 7)]) rfl (by decide) rfl rfl (Nat.le_of_ble_eq_true rfl) rfl (Nat.le_of_ble_eq_true rfl) (jz_ci ?_)
    refine sb_169 (by omega) (by omega) (by omega) (fun c4 => ?_) (fun c4 => ?_)
    · replace h := h.1 c4
      refine jw_if_ne rfl (by omega) (fun _ => ?_) (fun hc => by exfalso; omega)
      refine jw_aload_n rfl rfl ?_
      refine jw_gr (q := 168) rfl rfl rfl ?_
      refine jw_iload_n rfl rfl ?_
      obtain ⟨o5, h⟩ := h
      refine jw_iald (v := (J 168 v1.toNat)) (N := 8) rfl rfl rfl (by omega) o5 rfl ?_
      refine jw_iconst rfl ?_
      obtain ⟨o6, h⟩ := h
      refine jw_ic_eq rfl o6 (by omega) (fun c7 => ?_) (fun c7 => ?_)
      · replace h := h.1 c7
        exact jz_fg (l := [some (.ref 167), none, none, none, none, none, none]) ⟨rfl, jz_ni, jz_ni, jz_ni, jz_ni, jz_ni, jz_n0, trivial⟩ h
      · replace h := h.2 c7
        refine jw_aload_n rfl rfl ?_
        refine jw_gr (q := 168) rfl rfl rfl ?_
        refine jw_iload_n rfl rfl ?_
        obtain ⟨o8, h⟩ := h
        refine jw_iald (v := (J 168 v2.toNat)) (N := 8) rfl rfl rfl (by omega) o8 rfl ?_
        refine jw_iconst rfl ?_
        obtain ⟨o9, h⟩ := h
        refine jw_ic_eq rfl o9 (by omega) (fun c10 => ?_) (fun c10 => ?_)
        · replace h := h.1 c10
          exact jz_fg (l := [some (.ref 167), none, none, none, none, none, none]) ⟨rfl, jz_ni, jz_ni, jz_ni, jz_ni, jz_ni, jz_n0, trivial⟩ h
        · replace h := h.2 c10
          refine jw_aload_n rfl rfl ?_
          refine jw_gr (q := 168) rfl rfl rfl ?_
          refine jw_iload_n rfl rfl ?_
          refine jw_iald (v := (J 168 v1.toNat)) (N := 8) rfl rfl rfl (by omega) o5 rfl ?_
          refine jw_iconst rfl ?_
          refine jw_ic_ne rfl o6 (by omega) (fun c11 => ?_) (fun c11 => ?_)
          · replace h := h.1 c11
            exact jz_fg (l := [some (.ref 167), some (.int (Int32.ofInt v1)), some (.int (Int32.ofInt v2)), some (.int (Int32.ofInt v3)), some (.int (Int32.ofInt v4)), some (.int (Int32.ofInt v5)), none]) ⟨rfl, rfl, rfl, rfl, rfl, rfl, jz_n0, trivial⟩ h
          · replace h := h.2 c11
            refine jw_aload_n rfl rfl ?_
            refine jw_gr (q := 168) rfl rfl rfl ?_
            refine jw_iload_n rfl rfl ?_
            refine jw_iald (v := (J 168 v2.toNat)) (N := 8) rfl rfl rfl (by omega) o8 rfl ?_
            refine jw_iconst rfl ?_
            refine jw_ic_ne rfl o9 (by omega) (fun c12 => ?_) (fun c12 => ?_)
            · replace h := h.1 c12
              exact jz_fg (l := [some (.ref 167), some (.int (Int32.ofInt v1)), some (.int (Int32.ofInt v2)), some (.int (Int32.ofInt v3)), some (.int (Int32.ofInt v4)), some (.int (Int32.ofInt v5)), none]) ⟨rfl, rfl, rfl, rfl, rfl, rfl, jz_n0, trivial⟩ h
            · replace h := h.2 c12
              refine jw_aload_n rfl rfl ?_
              refine jw_gr (q := 169) rfl rfl rfl ?_
              refine jw_iload_n rfl rfl ?_
              refine jw_iald (v := (J 169 v1.toNat)) (N := 8) rfl rfl rfl (by omega) o5 rfl ?_
              refine jw_aload_n rfl rfl ?_
              refine jw_gr (q := 169) rfl rfl rfl ?_
              refine jw_iload_n rfl rfl ?_
              refine jw_iald (v := (J 169 v2.toNat)) (N := 8) rfl rfl rfl (by omega) o8 rfl ?_
              obtain ⟨o13, h⟩ := h
              obtain ⟨o14, h⟩ := h
              refine jw_ic_eq rfl o13 o14 (fun c15 => ?_) (fun c15 => ?_)
              · replace h := h.1 c15
                exact jz_fg (l := [some (.ref 167), some (.int (Int32.ofInt v1)), some (.int (Int32.ofInt v2)), some (.int (Int32.ofInt v3)), some (.int (Int32.ofInt v4)), some (.int (Int32.ofInt v5)), none]) ⟨rfl, rfl, rfl, rfl, rfl, rfl, jz_n0, trivial⟩ h
              · replace h := h.2 c15
                exact jz_fg (l := [some (.ref 167), none, none, none, none, none, none]) ⟨rfl, jz_ni, jz_ni, jz_ni, jz_ni, jz_ni, jz_n0, trivial⟩ h
    · replace h := h.2 c4
      refine jw_if_ne rfl (by omega) (fun hc => by exfalso; omega) (fun _ => ?_)
      exact jz_fg (l := [some (.ref 167), none, none, none, none, none, none]) ⟨rfl, jz_ni, jz_ni, jz_ni, jz_ni, jz_ni, jz_n0, trivial⟩ h
  · replace h := h.2 c2
    refine jw_if_eq rfl (by omega) (fun _ => ?_) (fun hc => by exfalso; omega)
    exact jz_fg (l := [some (.ref 167), none, none, none, none, none, none]) ⟨rfl, jz_ni, jz_ni, jz_ni, jz_ni, jz_ni, jz_n0, trivial⟩ h
set_option maxHeartbeats 4000000 in
theorem e_174_24 {xs : Nat → Int32} {L d : Nat} {J K : jZ} {P : Int → jZ → jZ → Prop} (h : q_170 xs L (d + 1) (-2) J K (fun r3 J1 K2 => P r3 J1 K2)) : l_174_24 xs L (d + 1) J K P := by
  unfold l_174_24
  refine jw_aload_n rfl rfl ?_
  refine jw_bipush rfl (by decide) ?_
  refine jw_virt (k := 1) (c := 19) (as := [.int (Int32.ofInt (-2))]) rfl rfl rfl (Nat.le_of_ble_eq_true rfl) rfl (Nat.le_of_ble_eq_true rfl) rfl rfl (jz_ci ?_)
  refine jm_Q.mono h (jp_i_mono (fun r3 J1 K2 h => ?_))
  refine jw_iret rfl ?_
  exact h
set_option maxHeartbeats 4000000 in
theorem e_174_86 {xs : Nat → Int32} {L d : Nat} {J K : jZ} {P : Int → jZ → jZ → Prop} (h : q_170 xs L (d + 1) (-3) J K (fun r3 J1 K2 => P r3 J1 K2)) : l_174_86 xs L (d + 1) J K P := by
  unfold l_174_86
  refine jw_aload_n rfl rfl ?_
  refine jw_bipush rfl (by decide) ?_
  refine jw_virt (k := 1) (c := 19) (as := [.int (Int32.ofInt (-3))]) rfl rfl rfl (Nat.le_of_ble_eq_true rfl) rfl (Nat.le_of_ble_eq_true rfl) rfl rfl (jz_ci ?_)
  refine jm_Q.mono h (jp_i_mono (fun r3 J1 K2 h => ?_))
  refine jw_iret rfl ?_
  exact h
set_option maxHeartbeats 4000000 in
theorem e_174_93 {xs : Nat → Int32} {L d : Nat} {v1 : Int} {v2 : Int} {v3 : Int} {v4 : Int} {v5 : Int} {J K : jZ} {P : Int → jZ → jZ → Prop} (h : ((0 : Int) ≤ v1 ∧ v1 < 8) ∧ (-2147483648 ≤ J 168 v1.toNat ∧ J 168 v1.toNat < 2147483648) ∧ ((J 168 v1.toNat) = 0 → l_174_111 xs L (d + 1) J K P) ∧ (¬ (J 168 v1.toNat) = 0 → ((0 : Int) ≤ v2 ∧ v2 < 8) ∧ (-2147483648 ≤ J 168 v2.toNat ∧ J 168 v2.toNat < 2147483648) ∧ (¬ (J 168 v2.toNat) = 0 → (-2147483648 ≤ v5 ∧ v5 < 2147483648) ∧ (v5 < 0 → l_174_181 xs L (d + 1) J K P) ∧ (0 ≤ v5 → (-2147483648 ≤ v3 ∧ v3 < 2147483648) ∧ (v3 < 0 → l_174_181 xs L (d + 1) J K P) ∧ (0 ≤ v3 → (-2147483648 ≤ v4 ∧ v4 < 2147483648) ∧ (v4 < 0 → l_174_181 xs L (d + 1) J K P) ∧ (0 ≤ v4 → (-2147483648 ≤ J 170 v1.toNat ∧ J 170 v1.toNat < 2147483648) ∧ ((J 170 v1.toNat) < v5 → l_174_181 xs L (d + 1) J K P) ∧ (v5 ≤ (J 170 v1.toNat) → (-2147483648 ≤ J 170 v2.toNat ∧ J 170 v2.toNat < 2147483648) ∧ ((J 170 v2.toNat) < v5 → l_174_181 xs L (d + 1) J K P) ∧ (v5 ≤ (J 170 v2.toNat) → (-2147483648 ≤ ((J 170 v1.toNat) - v5) ∧ ((J 170 v1.toNat) - v5) < 2147483648) ∧ (((J 170 v1.toNat) - v5) < v3 → l_174_181 xs L (d + 1) J K P) ∧ (v3 ≤ ((J 170 v1.toNat) - v5) → (-2147483648 ≤ ((J 170 v2.toNat) - v5) ∧ ((J 170 v2.toNat) - v5) < 2147483648) ∧ (v4 ≤ ((J 170 v2.toNat) - v5) → l_174_191 xs L (d + 1) v1 v2 v3 v4 v5 0 J K P) ∧ (((J 170 v2.toNat) - v5) < v4 → l_174_181 xs L (d + 1) J K P)))))))) ∧ ((J 168 v2.toNat) = 0 → l_174_111 xs L (d + 1) J K P))) : l_174_93 xs L (d + 1) v1 v2 v3 v4 v5 J K P := by
  unfold l_174_93
  refine jw_aload_n rfl rfl ?_
  refine jw_gr (q := 168) rfl rfl rfl ?_
  refine jw_iload_n rfl rfl ?_
  obtain ⟨o1, h⟩ := h
  refine jw_iald (v := (J 168 v1.toNat)) (N := 8) rfl rfl rfl (by omega) o1 rfl ?_
  obtain ⟨o2, h⟩ := h
  refine jw_if_eq rfl o2 (fun c3 => ?_) (fun c3 => ?_)
  · replace h := h.1 c3
    exact jz_fg (l := [some (.ref 167), none, none, none, none, none, none]) ⟨rfl, jz_ni, jz_ni, jz_ni, jz_ni, jz_ni, jz_n0, trivial⟩ h
  · replace h := h.2 c3
    refine jw_aload_n rfl rfl ?_
    refine jw_gr (q := 168) rfl rfl rfl ?_
    refine jw_iload_n rfl rfl ?_
    obtain ⟨o4, h⟩ := h
    refine jw_iald (v := (J 168 v2.toNat)) (N := 8) rfl rfl rfl (by omega) o4 rfl ?_
    obtain ⟨o5, h⟩ := h
    refine jw_if_ne rfl o5 (fun c6 => ?_) (fun c6 => ?_)
    · replace h := h.1 c6
      refine jw_iload rfl rfl ?_
      obtain ⟨o7, h⟩ := h
      refine jw_if_lt rfl o7 (fun c8 => ?_) (fun c8 => ?_)
      · replace h := h.1 c8
        exact jz_fg (l := [some (.ref 167), none, none, none, none, none, none]) ⟨rfl, jz_ni, jz_ni, jz_ni, jz_ni, jz_ni, jz_n0, trivial⟩ h
      · replace h := h.2 c8
        refine jw_iload_n rfl rfl ?_
        obtain ⟨o9, h⟩ := h
        refine jw_if_lt rfl o9 (fun c10 => ?_) (fun c10 => ?_)
        · replace h := h.1 c10
          exact jz_fg (l := [some (.ref 167), none, none, none, none, none, none]) ⟨rfl, jz_ni, jz_ni, jz_ni, jz_ni, jz_ni, jz_n0, trivial⟩ h
        · replace h := h.2 c10
          refine jw_iload rfl rfl ?_
          obtain ⟨o11, h⟩ := h
          refine jw_if_lt rfl o11 (fun c12 => ?_) (fun c12 => ?_)
          · replace h := h.1 c12
            exact jz_fg (l := [some (.ref 167), none, none, none, none, none, none]) ⟨rfl, jz_ni, jz_ni, jz_ni, jz_ni, jz_ni, jz_n0, trivial⟩ h
          · replace h := h.2 c12
            refine jw_iload rfl rfl ?_
            refine jw_aload_n rfl rfl ?_
            refine jw_gr (q := 170) rfl rfl rfl ?_
            refine jw_iload_n rfl rfl ?_
            refine jw_iald (v := (J 170 v1.toNat)) (N := 8) rfl rfl rfl (by omega) o1 rfl ?_
            obtain ⟨o13, h⟩ := h
            refine jw_ic_gt rfl o7 o13 (fun c14 => ?_) (fun c14 => ?_)
            · replace h := h.1 c14
              exact jz_fg (l := [some (.ref 167), none, none, none, none, none, none]) ⟨rfl, jz_ni, jz_ni, jz_ni, jz_ni, jz_ni, jz_n0, trivial⟩ h
            · replace h := h.2 c14
              refine jw_iload rfl rfl ?_
              refine jw_aload_n rfl rfl ?_
              refine jw_gr (q := 170) rfl rfl rfl ?_
              refine jw_iload_n rfl rfl ?_
              refine jw_iald (v := (J 170 v2.toNat)) (N := 8) rfl rfl rfl (by omega) o4 rfl ?_
              obtain ⟨o15, h⟩ := h
              refine jw_ic_gt rfl o7 o15 (fun c16 => ?_) (fun c16 => ?_)
              · replace h := h.1 c16
                exact jz_fg (l := [some (.ref 167), none, none, none, none, none, none]) ⟨rfl, jz_ni, jz_ni, jz_ni, jz_ni, jz_ni, jz_n0, trivial⟩ h
              · replace h := h.2 c16
                refine jw_iload_n rfl rfl ?_
                refine jw_aload_n rfl rfl ?_
                refine jw_gr (q := 170) rfl rfl rfl ?_
                refine jw_iload_n rfl rfl ?_
                refine jw_iald (v := (J 170 v1.toNat)) (N := 8) rfl rfl rfl (by omega) o1 rfl ?_
                refine jw_iload rfl rfl ?_
                refine jw_isub rfl ?_
                obtain ⟨o17, h⟩ := h
                refine jw_ic_gt rfl o9 o17 (fun c18 => ?_) (fun c18 => ?_)
                · replace h := h.1 c18
                  exact jz_fg (l := [some (.ref 167), none, none, none, none, none, none]) ⟨rfl, jz_ni, jz_ni, jz_ni, jz_ni, jz_ni, jz_n0, trivial⟩ h
                · replace h := h.2 c18
                  refine jw_iload rfl rfl ?_
                  refine jw_aload_n rfl rfl ?_
                  refine jw_gr (q := 170) rfl rfl rfl ?_
                  refine jw_iload_n rfl rfl ?_
                  refine jw_iald (v := (J 170 v2.toNat)) (N := 8) rfl rfl rfl (by omega) o4 rfl ?_
                  refine jw_iload rfl rfl ?_
                  refine jw_isub rfl ?_
                  obtain ⟨o19, h⟩ := h
                  refine jw_ic_le rfl o11 o19 (fun c20 => ?_) (fun c20 => ?_)
                  · replace h := h.1 c20
                    refine jw_iconst rfl ?_
                    refine jw_istore (ls' := [some (.ref 167), some (.int (Int32.ofInt v1)), some (.int (Int32.ofInt v2)), some (.int (Int32.ofInt v3)), some (.int (Int32.ofInt v4)), some (.int (Int32.ofInt v5)), some (.int (Int32.ofInt 0))]) rfl rfl ?_
                    exact jz_fg (l := [some (.ref 167), some (.int (Int32.ofInt v1)), some (.int (Int32.ofInt v2)), some (.int (Int32.ofInt v3)), some (.int (Int32.ofInt v4)), some (.int (Int32.ofInt v5)), some (.int (Int32.ofInt 0))]) ⟨rfl, rfl, rfl, rfl, rfl, rfl, rfl, trivial⟩ h
                  · replace h := h.2 c20
                    exact jz_fg (l := [some (.ref 167), none, none, none, none, none, none]) ⟨rfl, jz_ni, jz_ni, jz_ni, jz_ni, jz_ni, jz_n0, trivial⟩ h
    · replace h := h.2 c6
      exact jz_fg (l := [some (.ref 167), none, none, none, none, none, none]) ⟨rfl, jz_ni, jz_ni, jz_ni, jz_ni, jz_ni, jz_n0, trivial⟩ h
set_option maxHeartbeats 4000000 in
theorem e_174_111 {xs : Nat → Int32} {L d : Nat} {J K : jZ} {P : Int → jZ → jZ → Prop} (h : q_170 xs L (d + 1) (-4) J K (fun r3 J1 K2 => P r3 J1 K2)) : l_174_111 xs L (d + 1) J K P := by
  unfold l_174_111
  refine jw_aload_n rfl rfl ?_
  refine jw_bipush rfl (by decide) ?_
  refine jw_virt (k := 1) (c := 19) (as := [.int (Int32.ofInt (-4))]) rfl rfl rfl (Nat.le_of_ble_eq_true rfl) rfl (Nat.le_of_ble_eq_true rfl) rfl rfl (jz_ci ?_)
  refine jm_Q.mono h (jp_i_mono (fun r3 J1 K2 h => ?_))
  refine jw_iret rfl ?_
  exact h
set_option maxHeartbeats 4000000 in
theorem e_174_181 {xs : Nat → Int32} {L d : Nat} {J K : jZ} {P : Int → jZ → jZ → Prop} (h : q_170 xs L (d + 1) (-2) J K (fun r3 J1 K2 => P r3 J1 K2)) : l_174_181 xs L (d + 1) J K P := by
  unfold l_174_181
  refine jw_aload_n rfl rfl ?_
  refine jw_bipush rfl (by decide) ?_
  refine jw_virt (k := 1) (c := 19) (as := [.int (Int32.ofInt (-2))]) rfl rfl rfl (Nat.le_of_ble_eq_true rfl) rfl (Nat.le_of_ble_eq_true rfl) rfl rfl (jz_ci ?_)
  refine jm_Q.mono h (jp_i_mono (fun r3 J1 K2 h => ?_))
  refine jw_iret rfl ?_
  exact h
set_option maxHeartbeats 4000000 in
theorem e_174_191 {xs : Nat → Int32} {L d : Nat} {v1 : Int} {v2 : Int} {v3 : Int} {v4 : Int} {v5 : Int} {v6 : Int} {J K : jZ} {P : Int → jZ → jZ → Prop} (h : (-2147483648 ≤ v6 ∧ v6 < 2147483648) ∧ (-2147483648 ≤ v5 ∧ v5 < 2147483648) ∧ (v5 ≤ v6 → l_174_225 xs L (d + 1) v2 v4 v5 0 J K P) ∧ (v6 < v5 → ((0 : Int) ≤ v1 ∧ v1 < 8) ∧ ((0 : Int) ≤ (v3 + v6) ∧ (v3 + v6) < 40) ∧ ((0 : Int) ≤ v6 ∧ v6 < 40) ∧ l_174_191 xs L (d + 1) v1 v2 v3 v4 v5 (v6 + 1) J (jm_up K 180 v6.toNat (K (172 + v1.toNat) (v3 + v6).toNat)) P)) : l_174_191 xs L (d + 1) v1 v2 v3 v4 v5 v6 J K P := by
  unfold l_174_191
  refine jw_iload rfl rfl ?_
  refine jw_iload rfl rfl ?_
  obtain ⟨o1, h⟩ := h
  obtain ⟨o2, h⟩ := h
  refine jw_ic_ge rfl o1 o2 (fun c3 => ?_) (fun c3 => ?_)
  · replace h := h.1 c3
    refine jw_iconst rfl ?_
    refine jw_istore (ls' := [some (.ref 167), some (.int (Int32.ofInt v1)), some (.int (Int32.ofInt v2)), some (.int (Int32.ofInt v3)), some (.int (Int32.ofInt v4)), some (.int (Int32.ofInt v5)), some (.int (Int32.ofInt 0))]) rfl rfl ?_
    exact jz_fg (l := [some (.ref 167), none, some (.int (Int32.ofInt v2)), none, some (.int (Int32.ofInt v4)), some (.int (Int32.ofInt v5)), some (.int (Int32.ofInt 0))]) ⟨rfl, jz_ni, rfl, jz_ni, rfl, rfl, rfl, trivial⟩ h
  · replace h := h.2 c3
    refine jw_aload_n rfl rfl ?_
    refine jw_gr (q := 180) rfl rfl rfl ?_
    refine jw_iload rfl rfl ?_
    refine jw_aload_n rfl rfl ?_
    refine jw_gr (q := 171) rfl rfl rfl ?_
    refine jw_iload_n rfl rfl ?_
    obtain ⟨o4, h⟩ := h
    refine jw_aald (k := 5) (q := (172 + v1.toNat)) (N := 8) rfl rfl (by omega) rfl (by omega) o4 (jzr_171 o4) ?_
    refine jw_iload_n rfl rfl ?_
    refine jw_iload rfl rfl ?_
    refine jw_iadd rfl ?_
    obtain ⟨o5, h⟩ := h
    refine jw_lald (v := (K (172 + v1.toNat) (v3 + v6).toNat)) (N := 40) rfl (jze_171 o4) (jzl_171 o4) (by omega) o5 rfl ?_
    obtain ⟨o6, h⟩ := h
    refine jw_last (N := 40) rfl rfl rfl (by omega) o6 ?_
    refine jw_iinc (ls' := [some (.ref 167), some (.int (Int32.ofInt v1)), some (.int (Int32.ofInt v2)), some (.int (Int32.ofInt v3)), some (.int (Int32.ofInt v4)), some (.int (Int32.ofInt v5)), some (.int (Int32.ofInt (v6 + 1)))]) rfl rfl rfl ?_
    refine jw_goto rfl ?_
    exact jz_fg (l := [some (.ref 167), some (.int (Int32.ofInt v1)), some (.int (Int32.ofInt v2)), some (.int (Int32.ofInt v3)), some (.int (Int32.ofInt v4)), some (.int (Int32.ofInt v5)), some (.int (Int32.ofInt (v6 + 1)))]) ⟨rfl, rfl, rfl, rfl, rfl, rfl, rfl, trivial⟩ h
set_option maxHeartbeats 4000000 in
theorem e_174_225 {xs : Nat → Int32} {L d : Nat} {v2 : Int} {v4 : Int} {v5 : Int} {v6 : Int} {J K : jZ} {P : Int → jZ → jZ → Prop} (h : (-2147483648 ≤ v6 ∧ v6 < 2147483648) ∧ (-2147483648 ≤ v5 ∧ v5 < 2147483648) ∧ (v5 ≤ v6 → P v5 J K) ∧ (v6 < v5 → ((0 : Int) ≤ v2 ∧ v2 < 8) ∧ ((0 : Int) ≤ v6 ∧ v6 < 40) ∧ ((0 : Int) ≤ (v4 + v6) ∧ (v4 + v6) < 40) ∧ l_174_225 xs L (d + 1) v2 v4 v5 (v6 + 1) J (jm_up K (172 + v2.toNat) (v4 + v6).toNat (K 180 v6.toNat)) P)) : l_174_225 xs L (d + 1) v2 v4 v5 v6 J K P := by
  unfold l_174_225
  refine jw_iload rfl rfl ?_
  refine jw_iload rfl rfl ?_
  obtain ⟨o1, h⟩ := h
  obtain ⟨o2, h⟩ := h
  refine jw_ic_ge rfl o1 o2 (fun c3 => ?_) (fun c3 => ?_)
  · replace h := h.1 c3
    refine jw_iload rfl rfl ?_
    refine jw_iret rfl ?_
    exact h
  · replace h := h.2 c3
    refine jw_aload_n rfl rfl ?_
    refine jw_gr (q := 171) rfl rfl rfl ?_
    refine jw_iload_n rfl rfl ?_
    obtain ⟨o4, h⟩ := h
    refine jw_aald (k := 5) (q := (172 + v2.toNat)) (N := 8) rfl rfl (by omega) rfl (by omega) o4 (jzr_171 o4) ?_
    refine jw_iload rfl rfl ?_
    refine jw_iload rfl rfl ?_
    refine jw_iadd rfl ?_
    refine jw_aload_n rfl rfl ?_
    refine jw_gr (q := 180) rfl rfl rfl ?_
    refine jw_iload rfl rfl ?_
    obtain ⟨o5, h⟩ := h
    refine jw_lald (v := (K 180 v6.toNat)) (N := 40) rfl rfl rfl (by omega) o5 rfl ?_
    obtain ⟨o6, h⟩ := h
    refine jw_last (N := 40) rfl (jze_171 o4) (jzl_171 o4) (by omega) o6 ?_
    refine jw_iinc (ls' := [some (.ref 167), none, some (.int (Int32.ofInt v2)), none, some (.int (Int32.ofInt v4)), some (.int (Int32.ofInt v5)), some (.int (Int32.ofInt (v6 + 1)))]) rfl rfl rfl ?_
    refine jw_goto rfl ?_
    exact jz_fg (l := [some (.ref 167), none, some (.int (Int32.ofInt v2)), none, some (.int (Int32.ofInt v4)), some (.int (Int32.ofInt v5)), some (.int (Int32.ofInt (v6 + 1)))]) ⟨rfl, jz_n0, rfl, jz_n0, rfl, rfl, rfl, trivial⟩ h
set_option maxHeartbeats 4000000 in
theorem e_175 {xs : Nat → Int32} {L d : Nat} {v1 : Int} {v2 : Int} {J K : jZ} {P : Int → jZ → jZ → Prop} (h : (-2147483648 ≤ v1 ∧ v1 < 2147483648) ∧ ((0 ≤ v1 ∧ v1 ≤ 7) → ((0 : Int) ≤ v1 ∧ v1 < 8) ∧ (-2147483648 ≤ J 168 v1.toNat ∧ J 168 v1.toNat < 2147483648) ∧ (¬ (J 168 v1.toNat) = 1 → P 0 J K) ∧ ((J 168 v1.toNat) = 1 → (-2147483648 ≤ v2 ∧ v2 < 2147483648) ∧ (-2147483648 ≤ ((J 170 v1.toNat) - 1) ∧ ((J 170 v1.toNat) - 1) < 2147483648) ∧ ((0 ≤ v2 ∧ v2 ≤ ((J 170 v1.toNat) - 1)) → ((0 : Int) ≤ v2 ∧ v2 < 40) ∧ P (K (172 + v1.toNat) v2.toNat) J K) ∧ (¬ (0 ≤ v2 ∧ v2 ≤ ((J 170 v1.toNat) - 1)) → P 0 J K))) ∧ (¬ (0 ≤ v1 ∧ v1 ≤ 7) → P 0 J K)) : q_175 xs L (d + 2) v1 v2 J K P := by
  unfold q_175
  refine jq_in (ls := [some (.ref 167), some (.int (Int32.ofInt v1)), some (.int (Int32.ofInt v2))]) rfl (Nat.le_of_ble_eq_true rfl) rfl ?_
  refine jw_iload_n rfl rfl ?_
  obtain ⟨o1, h⟩ := h
  refine jw_i2l rfl o1 ?_
  refine jw_lconst (x := 0) rfl rfl ?_
  refine jw_ldc2_w rfl ?_
  refine jw_stat (k := 3) (as := [.long (Int64.ofInt v1), .long (Int64.ofInt 0), .long (Int64.ofInt 7)]) rfl (by decide) rfl rfl (Nat.le_of_ble_eq_true rfl) rfl (Nat.le_of_ble_eq_true rfl) (jz_ci ?_)
  refine sb_169 (by omega) (by omega) (by omega) (fun c2 => ?_) (fun c2 => ?_)
  · replace h := h.1 c2
    refine jw_if_eq rfl (by omega) (fun hc => by exfalso; omega) (fun _ => ?_)
    refine jw_aload_n rfl rfl ?_
    refine jw_gr (q := 168) rfl rfl rfl ?_
    refine jw_iload_n rfl rfl ?_
    obtain ⟨o3, h⟩ := h
    refine jw_iald (v := (J 168 v1.toNat)) (N := 8) rfl rfl rfl (by omega) o3 rfl ?_
    refine jw_iconst rfl ?_
    obtain ⟨o4, h⟩ := h
    refine jw_ic_ne rfl o4 (by omega) (fun c5 => ?_) (fun c5 => ?_)
    · replace h := h.1 c5
      refine jw_lconst (x := 0) rfl rfl ?_
      refine jw_lret rfl ?_
      exact h
    · replace h := h.2 c5
      refine jw_iload_n rfl rfl ?_
      obtain ⟨o6, h⟩ := h
      refine jw_i2l rfl o6 ?_
      refine jw_lconst (x := 0) rfl rfl ?_
      refine jw_aload_n rfl rfl ?_
      refine jw_gr (q := 170) rfl rfl rfl ?_
      refine jw_iload_n rfl rfl ?_
      refine jw_iald (v := (J 170 v1.toNat)) (N := 8) rfl rfl rfl (by omega) o3 rfl ?_
      refine jw_iconst rfl ?_
      refine jw_isub rfl ?_
      obtain ⟨o7, h⟩ := h
      refine jw_i2l rfl o7 ?_
      refine jw_stat (k := 3) (as := [.long (Int64.ofInt v2), .long (Int64.ofInt 0), .long (Int64.ofInt ((J 170 v1.toNat) - 1))]) rfl (by decide) rfl rfl (Nat.le_of_ble_eq_true rfl) rfl (Nat.le_of_ble_eq_true rfl) (jz_ci ?_)
      refine sb_169 (by omega) (by omega) (by omega) (fun c8 => ?_) (fun c8 => ?_)
      · replace h := h.1 c8
        refine jw_if_eq rfl (by omega) (fun hc => by exfalso; omega) (fun _ => ?_)
        refine jw_aload_n rfl rfl ?_
        refine jw_gr (q := 171) rfl rfl rfl ?_
        refine jw_iload_n rfl rfl ?_
        refine jw_aald (k := 5) (q := (172 + v1.toNat)) (N := 8) rfl rfl (by omega) rfl (by omega) o3 (jzr_171 o3) ?_
        refine jw_iload_n rfl rfl ?_
        obtain ⟨o9, h⟩ := h
        refine jw_lald (v := (K (172 + v1.toNat) v2.toNat)) (N := 40) rfl (jze_171 o3) (jzl_171 o3) (by omega) o9 rfl ?_
        refine jw_goto rfl ?_
        refine jw_lret rfl ?_
        exact h
      · replace h := h.2 c8
        refine jw_if_eq rfl (by omega) (fun _ => ?_) (fun hc => by exfalso; omega)
        refine jw_lconst (x := 0) rfl rfl ?_
        refine jw_lret rfl ?_
        exact h
  · replace h := h.2 c2
    refine jw_if_eq rfl (by omega) (fun _ => ?_) (fun hc => by exfalso; omega)
    refine jw_lconst (x := 0) rfl rfl ?_
    refine jw_lret rfl ?_
    exact h
set_option maxHeartbeats 4000000 in
theorem e_176 {xs : Nat → Int32} {L d : Nat} {v1 : Int} {J K : jZ} {P : Int → jZ → jZ → Prop} (h : (-2147483648 ≤ v1 ∧ v1 < 2147483648) ∧ ((0 ≤ v1 ∧ v1 ≤ 7) → ((0 : Int) ≤ v1 ∧ v1 < 8) ∧ (-2147483648 ≤ J 168 v1.toNat ∧ J 168 v1.toNat < 2147483648) ∧ (¬ (J 168 v1.toNat) = 0 → (¬ (J 168 v1.toNat) = 1 → P (10 + (J 181 v1.toNat)) J K) ∧ ((J 168 v1.toNat) = 1 → P (J 169 v1.toNat) J K)) ∧ ((J 168 v1.toNat) = 0 → P (-1) J K)) ∧ (¬ (0 ≤ v1 ∧ v1 ≤ 7) → P (-1) J K)) : q_176 xs L (d + 2) v1 J K P := by
  unfold q_176
  refine jq_in (ls := [some (.ref 167), some (.int (Int32.ofInt v1))]) rfl (Nat.le_of_ble_eq_true rfl) rfl ?_
  refine jw_iload_n rfl rfl ?_
  obtain ⟨o1, h⟩ := h
  refine jw_i2l rfl o1 ?_
  refine jw_lconst (x := 0) rfl rfl ?_
  refine jw_ldc2_w rfl ?_
  refine jw_stat (k := 3) (as := [.long (Int64.ofInt v1), .long (Int64.ofInt 0), .long (Int64.ofInt 7)]) rfl (by decide) rfl rfl (Nat.le_of_ble_eq_true rfl) rfl (Nat.le_of_ble_eq_true rfl) (jz_ci ?_)
  refine sb_169 (by omega) (by omega) (by omega) (fun c2 => ?_) (fun c2 => ?_)
  · replace h := h.1 c2
    refine jw_if_eq rfl (by omega) (fun hc => by exfalso; omega) (fun _ => ?_)
    refine jw_aload_n rfl rfl ?_
    refine jw_gr (q := 168) rfl rfl rfl ?_
    refine jw_iload_n rfl rfl ?_
    obtain ⟨o3, h⟩ := h
    refine jw_iald (v := (J 168 v1.toNat)) (N := 8) rfl rfl rfl (by omega) o3 rfl ?_
    obtain ⟨o4, h⟩ := h
    refine jw_if_ne rfl o4 (fun c5 => ?_) (fun c5 => ?_)
    · replace h := h.1 c5
      refine jw_aload_n rfl rfl ?_
      refine jw_gr (q := 168) rfl rfl rfl ?_
      refine jw_iload_n rfl rfl ?_
      refine jw_iald (v := (J 168 v1.toNat)) (N := 8) rfl rfl rfl (by omega) o3 rfl ?_
      refine jw_iconst rfl ?_
      refine jw_ic_ne rfl o4 (by omega) (fun c6 => ?_) (fun c6 => ?_)
      · replace h := h.1 c6
        refine jw_bipush rfl (by decide) ?_
        refine jw_aload_n rfl rfl ?_
        refine jw_gr (q := 181) rfl rfl rfl ?_
        refine jw_iload_n rfl rfl ?_
        refine jw_iald (v := (J 181 v1.toNat)) (N := 8) rfl rfl rfl (by omega) o3 rfl ?_
        refine jw_iadd rfl ?_
        refine jw_iret rfl ?_
        exact h
      · replace h := h.2 c6
        refine jw_aload_n rfl rfl ?_
        refine jw_gr (q := 169) rfl rfl rfl ?_
        refine jw_iload_n rfl rfl ?_
        refine jw_iald (v := (J 169 v1.toNat)) (N := 8) rfl rfl rfl (by omega) o3 rfl ?_
        refine jw_goto rfl ?_
        refine jw_iret rfl ?_
        exact h
    · replace h := h.2 c5
      refine jw_iconst rfl ?_
      refine jw_iret rfl ?_
      exact h
  · replace h := h.2 c2
    refine jw_if_eq rfl (by omega) (fun _ => ?_) (fun hc => by exfalso; omega)
    refine jw_iconst rfl ?_
    refine jw_iret rfl ?_
    exact h
set_option maxHeartbeats 4000000 in
theorem e_178 {xs : Nat → Int32} {L d : Nat} {v1 : Int} {J K : jZ} {P : Int → jZ → jZ → Prop} (h : (-2147483648 ≤ v1 ∧ v1 < 2147483648) ∧ (-2147483648 ≤ ((J 167 10) - 1) ∧ ((J 167 10) - 1) < 2147483648) ∧ ((0 ≤ v1 ∧ v1 ≤ ((J 167 10) - 1)) → P 1 J K) ∧ (¬ (0 ≤ v1 ∧ v1 ≤ ((J 167 10) - 1)) → P 0 J K)) : q_178 xs L (d + 2) v1 J K P := by
  unfold q_178
  refine jq_in (ls := [some (.ref 167), some (.int (Int32.ofInt v1))]) rfl (Nat.le_of_ble_eq_true rfl) rfl ?_
  refine jw_iload_n rfl rfl ?_
  obtain ⟨o1, h⟩ := h
  refine jw_i2l rfl o1 ?_
  refine jw_lconst (x := 0) rfl rfl ?_
  refine jw_aload_n rfl rfl ?_
  refine jw_gf (v := (J 167 10)) rfl (by decide) rfl rfl ?_
  refine jw_iconst rfl ?_
  refine jw_isub rfl ?_
  obtain ⟨o2, h⟩ := h
  refine jw_i2l rfl o2 ?_
  refine jw_stat (k := 3) (as := [.long (Int64.ofInt v1), .long (Int64.ofInt 0), .long (Int64.ofInt ((J 167 10) - 1))]) rfl (by decide) rfl rfl (Nat.le_of_ble_eq_true rfl) rfl (Nat.le_of_ble_eq_true rfl) (jz_ci ?_)
  refine sb_169 (by omega) (by omega) (by omega) (fun c3 => ?_) (fun c3 => ?_)
  · replace h := h.1 c3
    refine jw_zret rfl (by omega) ?_
    exact h
  · replace h := h.2 c3
    refine jw_zret rfl (by omega) ?_
    exact h
set_option maxHeartbeats 4000000 in
theorem sb_178 {xs : Nat → Int32} {L d : Nat} {v1 : Int} {J K : jZ} {P : Int → jZ → jZ → Prop} (o0 : -2147483648 ≤ v1 ∧ v1 < 2147483648) (o1 : -2147483648 ≤ ((J 167 10) - 1) ∧ ((J 167 10) - 1) < 2147483648) (h1 : ((0 : Int) ≤ v1 ∧ v1 < (J 167 10)) → P 1 J K) (h0 : ¬ ((0 : Int) ≤ v1 ∧ v1 < (J 167 10)) → P 0 J K) : q_178 xs L (d + 2) v1 J K P := by
  refine e_178 ?_
  repeat' (first | exact h1 (by omega) | exact h0 (by omega) | refine ⟨by omega, ?_⟩ | refine ⟨fun _ => ?_, fun _ => ?_⟩)
set_option maxHeartbeats 4000000 in
theorem e_177 {xs : Nat → Int32} {L d : Nat} {v1 : Int} {v2 : Int} {J K : jZ} {P : Int → jZ → jZ → Prop} (h : (-2147483648 ≤ v1 ∧ v1 < 2147483648) ∧ ((0 ≤ v1 ∧ v1 ≤ 7) → (-2147483648 ≤ v2 ∧ v2 < 2147483648) ∧ (v2 = (-1) → ((0 : Int) ≤ v1 ∧ v1 < 8) ∧ P 1 (jm_up (jm_up J 168 v1.toNat 0) 181 v1.toNat v2) K) ∧ (¬ v2 = (-1) → (-2147483648 ≤ ((J 167 10) - 1) ∧ ((J 167 10) - 1) < 2147483648) ∧ (((0 : Int) ≤ v2 ∧ v2 < (J 167 10)) → ((0 : Int) ≤ v1 ∧ v1 < 8) ∧ P 1 (jm_up (jm_up J 168 v1.toNat 2) 181 v1.toNat v2) K) ∧ (¬ ((0 : Int) ≤ v2 ∧ v2 < (J 167 10)) → q_170 xs L (d + 2) (-2) J K (fun r11 J9 K10 => P r11 J9 K10)))) ∧ (¬ (0 ≤ v1 ∧ v1 ≤ 7) → q_170 xs L (d + 2) (-2) J K (fun r14 J12 K13 => P r14 J12 K13))) : q_177 xs L (d + 3) v1 v2 J K P := by
  unfold q_177
  refine jq_in (ls := [some (.ref 167), some (.int (Int32.ofInt v1)), some (.int (Int32.ofInt v2))]) rfl (Nat.le_of_ble_eq_true rfl) rfl ?_
  refine jw_iload_n rfl rfl ?_
  obtain ⟨o1, h⟩ := h
  refine jw_i2l rfl o1 ?_
  refine jw_lconst (x := 0) rfl rfl ?_
  refine jw_ldc2_w rfl ?_
  refine jw_stat (k := 3) (as := [.long (Int64.ofInt v1), .long (Int64.ofInt 0), .long (Int64.ofInt 7)]) rfl (by decide) rfl rfl (Nat.le_of_ble_eq_true rfl) rfl (Nat.le_of_ble_eq_true rfl) (jz_ci ?_)
  refine sb_169 (by omega) (by omega) (by omega) (fun c2 => ?_) (fun c2 => ?_)
  · replace h := h.1 c2
    refine jw_if_eq rfl (by omega) (fun hc => by exfalso; omega) (fun _ => ?_)
    refine jw_iload_n rfl rfl ?_
    refine jw_iconst rfl ?_
    obtain ⟨o3, h⟩ := h
    refine jw_ic_eq rfl o3 (by omega) (fun c4 => ?_) (fun c4 => ?_)
    · replace h := h.1 c4
      refine jw_aload_n rfl rfl ?_
      refine jw_gr (q := 168) rfl rfl rfl ?_
      refine jw_iload_n rfl rfl ?_
      refine jw_iload_n rfl rfl ?_
      refine jw_iconst rfl ?_
      refine jw_ic_ne rfl o3 (by omega) (fun hc => by exfalso; omega) (fun _ => ?_)
      refine jw_iconst rfl ?_
      refine jw_goto rfl ?_
      obtain ⟨o5, h⟩ := h
      refine jw_iast (N := 8) rfl rfl rfl (by omega) o5 ?_
      refine jw_aload_n rfl rfl ?_
      refine jw_gr (q := 181) rfl rfl rfl ?_
      refine jw_iload_n rfl rfl ?_
      refine jw_iload_n rfl rfl ?_
      refine jw_iast (N := 8) rfl rfl rfl (by omega) o5 ?_
      refine jw_iconst rfl ?_
      refine jw_iret rfl ?_
      exact h
    · replace h := h.2 c4
      refine jw_aload_n rfl rfl ?_
      refine jw_iload_n rfl rfl ?_
      refine jw_virt (k := 1) (c := 19) (as := [.int (Int32.ofInt v2)]) rfl rfl rfl (Nat.le_of_ble_eq_true rfl) rfl (Nat.le_of_ble_eq_true rfl) rfl rfl (jz_ci ?_)
      obtain ⟨o6, h⟩ := h
      refine sb_178 o3 o6 (fun c7 => ?_) (fun c7 => ?_)
      · replace h := h.1 c7
        refine jw_if_ne rfl (by omega) (fun _ => ?_) (fun hc => by exfalso; omega)
        refine jw_aload_n rfl rfl ?_
        refine jw_gr (q := 168) rfl rfl rfl ?_
        refine jw_iload_n rfl rfl ?_
        refine jw_iload_n rfl rfl ?_
        refine jw_iconst rfl ?_
        refine jw_ic_ne rfl o3 (by omega) (fun _ => ?_) (fun hc => by exfalso; omega)
        refine jw_iconst rfl ?_
        obtain ⟨o8, h⟩ := h
        refine jw_iast (N := 8) rfl rfl rfl (by omega) o8 ?_
        refine jw_aload_n rfl rfl ?_
        refine jw_gr (q := 181) rfl rfl rfl ?_
        refine jw_iload_n rfl rfl ?_
        refine jw_iload_n rfl rfl ?_
        refine jw_iast (N := 8) rfl rfl rfl (by omega) o8 ?_
        refine jw_iconst rfl ?_
        refine jw_iret rfl ?_
        exact h
      · replace h := h.2 c7
        refine jw_if_ne rfl (by omega) (fun hc => by exfalso; omega) (fun _ => ?_)
        refine jw_aload_n rfl rfl ?_
        refine jw_bipush rfl (by decide) ?_
        refine jw_virt (k := 1) (c := 19) (as := [.int (Int32.ofInt (-2))]) rfl rfl rfl (Nat.le_of_ble_eq_true rfl) rfl (Nat.le_of_ble_eq_true rfl) rfl rfl (jz_ci ?_)
        refine jm_Q.mono h (jp_i_mono (fun r11 J9 K10 h => ?_))
        refine jw_iret rfl ?_
        exact h
  · replace h := h.2 c2
    refine jw_if_eq rfl (by omega) (fun _ => ?_) (fun hc => by exfalso; omega)
    refine jw_aload_n rfl rfl ?_
    refine jw_bipush rfl (by decide) ?_
    refine jw_virt (k := 1) (c := 19) (as := [.int (Int32.ofInt (-2))]) rfl rfl rfl (Nat.le_of_ble_eq_true rfl) rfl (Nat.le_of_ble_eq_true rfl) rfl rfl (jz_ci ?_)
    refine jm_Q.mono h (jp_i_mono (fun r14 J12 K13 h => ?_))
    refine jw_iret rfl ?_
    exact h
set_option maxHeartbeats 4000000 in
theorem e_179 {xs : Nat → Int32} {L d : Nat} {v1 : Int} {v2 : Int} {J K : jZ} {P : Int → jZ → jZ → Prop} (h : (-2147483648 ≤ v1 ∧ v1 < 2147483648) ∧ ((0 ≤ v1 ∧ v1 ≤ 7) → (-2147483648 ≤ v2 ∧ v2 < 2147483648) ∧ ((0 ≤ v2 ∧ v2 ≤ 6) → ((0 : Int) ≤ v1 ∧ v1 < 8) ∧ (-2147483648 ≤ J 168 v1.toNat ∧ J 168 v1.toNat < 2147483648) ∧ ((J 168 v1.toNat) = 1 → l_179_71 xs L (d + 1) J K P) ∧ (¬ (J 168 v1.toNat) = 1 → (¬ (J 168 v1.toNat) = 2 → l_179_78 xs L (d + 1) v1 v2 (J 181 v1.toNat) J K P) ∧ ((J 168 v1.toNat) = 2 → ((0 : Int) ≤ J 181 v1.toNat ∧ J 181 v1.toNat < 24) ∧ q_180 xs L (d + 1) (J 187 (J 181 v1.toNat).toNat) v2 J K (fun r12 J10 K11 => (-2147483648 ≤ r12 ∧ r12 < 2147483648) ∧ (¬ r12 = 0 → l_179_78 xs L (d + 1) v1 v2 (J 181 v1.toNat) J10 K11 P) ∧ (r12 = 0 → l_179_71 xs L (d + 1) J10 K11 P))))) ∧ (¬ (0 ≤ v2 ∧ v2 ≤ 6) → l_179_24 xs L (d + 1) J K P)) ∧ (¬ (0 ≤ v1 ∧ v1 ≤ 7) → l_179_24 xs L (d + 1) J K P)) : q_179 xs L (d + 2) v1 v2 J K P := by
  unfold q_179
  refine jq_in (ls := [some (.ref 167), some (.int (Int32.ofInt v1)), some (.int (Int32.ofInt v2)), none, none, none]) rfl (Nat.le_of_ble_eq_true rfl) rfl ?_
  refine jw_iload_n rfl rfl ?_
  obtain ⟨o1, h⟩ := h
  refine jw_i2l rfl o1 ?_
  refine jw_lconst (x := 0) rfl rfl ?_
  refine jw_ldc2_w rfl ?_
  refine jw_stat (k := 3) (as := [.long (Int64.ofInt v1), .long (Int64.ofInt 0), .long (Int64.ofInt 7)]) rfl (by decide) rfl rfl (Nat.le_of_ble_eq_true rfl) rfl (Nat.le_of_ble_eq_true rfl) (jz_ci ?_)
  refine sb_169 (by omega) (by omega) (by omega) (fun c2 => ?_) (fun c2 => ?_)
  · replace h := h.1 c2
    refine jw_if_eq rfl (by omega) (fun hc => by exfalso; omega) (fun _ => ?_)
    refine jw_iload_n rfl rfl ?_
    obtain ⟨o3, h⟩ := h
    refine jw_i2l rfl o3 ?_
    refine jw_lconst (x := 0) rfl rfl ?_
    refine jw_ldc2_w rfl ?_
    refine jw_stat (k := 3) (as := [.long (Int64.ofInt v2), .long (Int64.ofInt 0), .long (Int64.ofInt 6)]) rfl (by decide) rfl rfl (Nat.le_of_ble_eq_true rfl) rfl (Nat.le_of_ble_eq_true rfl) (jz_ci ?_)
    refine sb_169 (by omega) (by omega) (by omega) (fun c4 => ?_) (fun c4 => ?_)
    · replace h := h.1 c4
      refine jw_if_ne rfl (by omega) (fun _ => ?_) (fun hc => by exfalso; omega)
      refine jw_aload_n rfl rfl ?_
      refine jw_gr (q := 181) rfl rfl rfl ?_
      refine jw_iload_n rfl rfl ?_
      obtain ⟨o5, h⟩ := h
      refine jw_iald (v := (J 181 v1.toNat)) (N := 8) rfl rfl rfl (by omega) o5 rfl ?_
      refine jw_istore_n (ls' := [some (.ref 167), some (.int (Int32.ofInt v1)), some (.int (Int32.ofInt v2)), some (.int (Int32.ofInt (J 181 v1.toNat))), none, none]) rfl rfl ?_
      refine jw_aload_n rfl rfl ?_
      refine jw_gr (q := 168) rfl rfl rfl ?_
      refine jw_iload_n rfl rfl ?_
      refine jw_iald (v := (J 168 v1.toNat)) (N := 8) rfl rfl rfl (by omega) o5 rfl ?_
      refine jw_iconst rfl ?_
      obtain ⟨o6, h⟩ := h
      refine jw_ic_eq rfl o6 (by omega) (fun c7 => ?_) (fun c7 => ?_)
      · replace h := h.1 c7
        exact jz_fg (l := [some (.ref 167), none, none, none, none, none]) ⟨rfl, jz_ni, jz_ni, jz_ni, jz_n0, jz_n0, trivial⟩ h
      · replace h := h.2 c7
        refine jw_aload_n rfl rfl ?_
        refine jw_gr (q := 168) rfl rfl rfl ?_
        refine jw_iload_n rfl rfl ?_
        refine jw_iald (v := (J 168 v1.toNat)) (N := 8) rfl rfl rfl (by omega) o5 rfl ?_
        refine jw_iconst rfl ?_
        refine jw_ic_ne rfl o6 (by omega) (fun c8 => ?_) (fun c8 => ?_)
        · replace h := h.1 c8
          exact jz_fg (l := [some (.ref 167), some (.int (Int32.ofInt v1)), some (.int (Int32.ofInt v2)), some (.int (Int32.ofInt (J 181 v1.toNat))), none, none]) ⟨rfl, rfl, rfl, rfl, jz_n0, jz_n0, trivial⟩ h
        · replace h := h.2 c8
          refine jw_aload_n rfl rfl ?_
          refine jw_gr (q := 187) rfl rfl rfl ?_
          refine jw_iload_n rfl rfl ?_
          obtain ⟨o9, h⟩ := h
          refine jw_iald (v := (J 187 (J 181 v1.toNat).toNat)) (N := 24) rfl rfl rfl (by omega) o9 rfl ?_
          refine jw_iload_n rfl rfl ?_
          refine jw_stat (k := 2) (as := [.int (Int32.ofInt (J 187 (J 181 v1.toNat).toNat)), .int (Int32.ofInt v2)]) rfl (by decide) rfl rfl (Nat.le_of_ble_eq_true rfl) rfl (Nat.le_of_ble_eq_true rfl) (jz_ci ?_)
          refine jm_Q.mono h (jp_i_mono (fun r12 J10 K11 h => ?_))
          obtain ⟨o13, h⟩ := h
          refine jw_if_ne rfl o13 (fun c14 => ?_) (fun c14 => ?_)
          · replace h := h.1 c14
            exact jz_fg (l := [some (.ref 167), some (.int (Int32.ofInt v1)), some (.int (Int32.ofInt v2)), some (.int (Int32.ofInt (J 181 v1.toNat))), none, none]) ⟨rfl, rfl, rfl, rfl, jz_n0, jz_n0, trivial⟩ h
          · replace h := h.2 c14
            exact jz_fg (l := [some (.ref 167), none, none, none, none, none]) ⟨rfl, jz_ni, jz_ni, jz_ni, jz_n0, jz_n0, trivial⟩ h
    · replace h := h.2 c4
      refine jw_if_ne rfl (by omega) (fun hc => by exfalso; omega) (fun _ => ?_)
      exact jz_fg (l := [some (.ref 167), none, none, none, none, none]) ⟨rfl, jz_ni, jz_ni, jz_n0, jz_n0, jz_n0, trivial⟩ h
  · replace h := h.2 c2
    refine jw_if_eq rfl (by omega) (fun _ => ?_) (fun hc => by exfalso; omega)
    exact jz_fg (l := [some (.ref 167), none, none, none, none, none]) ⟨rfl, jz_ni, jz_ni, jz_n0, jz_n0, jz_n0, trivial⟩ h
set_option maxHeartbeats 4000000 in
theorem e_179_24 {xs : Nat → Int32} {L d : Nat} {J K : jZ} {P : Int → jZ → jZ → Prop} (h : q_170 xs L (d + 1) (-2) J K (fun r3 J1 K2 => P r3 J1 K2)) : l_179_24 xs L (d + 1) J K P := by
  unfold l_179_24
  refine jw_aload_n rfl rfl ?_
  refine jw_bipush rfl (by decide) ?_
  refine jw_virt (k := 1) (c := 19) (as := [.int (Int32.ofInt (-2))]) rfl rfl rfl (Nat.le_of_ble_eq_true rfl) rfl (Nat.le_of_ble_eq_true rfl) rfl rfl (jz_ci ?_)
  refine jm_Q.mono h (jp_i_mono (fun r3 J1 K2 h => ?_))
  refine jw_iret rfl ?_
  exact h
set_option maxHeartbeats 4000000 in
theorem e_179_71 {xs : Nat → Int32} {L d : Nat} {J K : jZ} {P : Int → jZ → jZ → Prop} (h : q_170 xs L (d + 1) (-3) J K (fun r3 J1 K2 => P r3 J1 K2)) : l_179_71 xs L (d + 1) J K P := by
  unfold l_179_71
  refine jw_aload_n rfl rfl ?_
  refine jw_bipush rfl (by decide) ?_
  refine jw_virt (k := 1) (c := 19) (as := [.int (Int32.ofInt (-3))]) rfl rfl rfl (Nat.le_of_ble_eq_true rfl) rfl (Nat.le_of_ble_eq_true rfl) rfl rfl (jz_ci ?_)
  refine jm_Q.mono h (jp_i_mono (fun r3 J1 K2 h => ?_))
  refine jw_iret rfl ?_
  exact h
set_option maxHeartbeats 4000000 in
theorem e_179_78 {xs : Nat → Int32} {L d : Nat} {v1 : Int} {v2 : Int} {v3 : Int} {J K : jZ} {P : Int → jZ → jZ → Prop} (h : ((0 : Int) ≤ v1 ∧ v1 < 8) ∧ (-2147483648 ≤ J 168 v1.toNat ∧ J 168 v1.toNat < 2147483648) ∧ (¬ (J 168 v1.toNat) = 0 → q_181 xs L (d + 1) J K (fun J4 K5 => ((0 : Int) ≤ (4 * v3) ∧ (4 * v3) < 96) ∧ ((0 : Int) ≤ ((4 * v3) + 1) ∧ ((4 * v3) + 1) < 96) ∧ (-2147483648 ≤ v2 ∧ v2 < 2147483648) ∧ (v2 = 0 → ((0 : Int) ≤ v3 ∧ v3 < 27) ∧ P (J4 195 v3.toNat) J4 K5) ∧ (¬ v2 = 0 → (v2 = 1 → P (J4 188 (4 * v3).toNat) J4 K5) ∧ (¬ v2 = 1 → (v2 = 2 → P ((100 * (J4 188 (4 * v3).toNat)) + (J4 188 ((4 * v3) + 1).toNat)) J4 K5) ∧ (¬ v2 = 2 → (v2 = 3 → ((0 : Int) ≤ J4 188 (4 * v3).toNat ∧ J4 188 (4 * v3).toNat < 27) ∧ ((0 : Int) ≤ J4 188 ((4 * v3) + 1).toNat ∧ J4 188 ((4 * v3) + 1).toNat < 27) ∧ ((0 : Int) ≤ v3 ∧ v3 < 27) ∧ P (((J4 195 (J4 188 (4 * v3).toNat).toNat) + (J4 195 (J4 188 ((4 * v3) + 1).toNat).toNat)) - (J4 195 v3.toNat)) J4 K5) ∧ (¬ v2 = 3 → (v2 = 4 → ((0 : Int) ≤ J4 188 (4 * v3).toNat ∧ J4 188 (4 * v3).toNat < 27) ∧ ((0 : Int) ≤ v3 ∧ v3 < 27) ∧ P ((J4 195 (J4 188 (4 * v3).toNat).toNat) - (J4 195 v3.toNat)) J4 K5) ∧ (¬ v2 = 4 → (v2 = 5 → P (J4 188 ((4 * v3) + 1).toNat) J4 K5) ∧ (¬ v2 = 5 → ((0 : Int) ≤ ((4 * v3) + 3) ∧ ((4 * v3) + 3) < 96) ∧ P (J4 188 ((4 * v3) + 3).toNat) J4 K5)))))))) ∧ ((J 168 v1.toNat) = 0 → q_170 xs L (d + 1) (-4) J K (fun r25 J23 K24 => P r25 J23 K24))) : l_179_78 xs L (d + 1) v1 v2 v3 J K P := by
  unfold l_179_78
  refine jw_aload_n rfl rfl ?_
  refine jw_gr (q := 168) rfl rfl rfl ?_
  refine jw_iload_n rfl rfl ?_
  obtain ⟨o1, h⟩ := h
  refine jw_iald (v := (J 168 v1.toNat)) (N := 8) rfl rfl rfl (by omega) o1 rfl ?_
  obtain ⟨o2, h⟩ := h
  refine jw_if_ne rfl o2 (fun c3 => ?_) (fun c3 => ?_)
  · replace h := h.1 c3
    refine jw_aload_n rfl rfl ?_
    refine jw_virt (k := 0) (c := 19) (as := []) rfl rfl rfl (Nat.le_of_ble_eq_true rfl) rfl (Nat.le_of_ble_eq_true rfl) rfl rfl (jz_cv ?_)
    refine jm_Q.mono h (jp_v_mono (fun J4 K5 h => ?_))
    refine jw_aload_n rfl rfl ?_
    refine jw_gr (q := 188) rfl rfl rfl ?_
    refine jw_iconst rfl ?_
    refine jw_iload_n rfl rfl ?_
    refine jw_imul rfl ?_
    obtain ⟨o6, h⟩ := h
    refine jw_iald (v := (J4 188 (4 * v3).toNat)) (N := 96) rfl rfl rfl (by omega) o6 rfl ?_
    refine jw_istore (ls' := [some (.ref 167), some (.int (Int32.ofInt v1)), some (.int (Int32.ofInt v2)), some (.int (Int32.ofInt v3)), some (.int (Int32.ofInt (J4 188 (4 * v3).toNat))), none]) rfl rfl ?_
    refine jw_aload_n rfl rfl ?_
    refine jw_gr (q := 188) rfl rfl rfl ?_
    refine jw_iconst rfl ?_
    refine jw_iload_n rfl rfl ?_
    refine jw_imul rfl ?_
    refine jw_iconst rfl ?_
    refine jw_iadd rfl ?_
    obtain ⟨o7, h⟩ := h
    refine jw_iald (v := (J4 188 ((4 * v3) + 1).toNat)) (N := 96) rfl rfl rfl (by omega) o7 rfl ?_
    refine jw_istore (ls' := [some (.ref 167), some (.int (Int32.ofInt v1)), some (.int (Int32.ofInt v2)), some (.int (Int32.ofInt v3)), some (.int (Int32.ofInt (J4 188 (4 * v3).toNat))), some (.int (Int32.ofInt (J4 188 ((4 * v3) + 1).toNat)))]) rfl rfl ?_
    refine jw_iload_n rfl rfl ?_
    obtain ⟨o8, h⟩ := h
    by_cases c10 : v2 = 0
    · replace h := h.1 c10
      refine jw_tab_in (pc2 := 160) (v := 0) (o := 39) rfl o8 c10 (by omega) rfl (by omega) ?_
      refine jw_aload_n rfl rfl ?_
      refine jw_gr (q := 195) rfl rfl rfl ?_
      refine jw_iload_n rfl rfl ?_
      obtain ⟨o11, h⟩ := h
      refine jw_iald (v := (J4 195 v3.toNat)) (N := 27) rfl rfl rfl (by omega) o11 rfl ?_
      refine jw_iret rfl ?_
      exact h
    · replace h := h.2 c10
      by_cases c12 : v2 = 1
      · replace h := h.1 c12
        refine jw_tab_in (pc2 := 167) (v := 1) (o := 46) rfl o8 c12 (by omega) rfl (by omega) ?_
        refine jw_iload rfl rfl ?_
        refine jw_iret rfl ?_
        exact h
      · replace h := h.2 c12
        by_cases c13 : v2 = 2
        · replace h := h.1 c13
          refine jw_tab_in (pc2 := 170) (v := 2) (o := 49) rfl o8 c13 (by omega) rfl (by omega) ?_
          refine jw_bipush rfl (by decide) ?_
          refine jw_iload rfl rfl ?_
          refine jw_imul rfl ?_
          refine jw_iload rfl rfl ?_
          refine jw_iadd rfl ?_
          refine jw_iret rfl ?_
          exact h
        · replace h := h.2 c13
          by_cases c14 : v2 = 3
          · replace h := h.1 c14
            refine jw_tab_in (pc2 := 179) (v := 3) (o := 58) rfl o8 c14 (by omega) rfl (by omega) ?_
            refine jw_aload_n rfl rfl ?_
            refine jw_gr (q := 195) rfl rfl rfl ?_
            refine jw_iload rfl rfl ?_
            obtain ⟨o15, h⟩ := h
            refine jw_iald (v := (J4 195 (J4 188 (4 * v3).toNat).toNat)) (N := 27) rfl rfl rfl (by omega) o15 rfl ?_
            refine jw_aload_n rfl rfl ?_
            refine jw_gr (q := 195) rfl rfl rfl ?_
            refine jw_iload rfl rfl ?_
            obtain ⟨o16, h⟩ := h
            refine jw_iald (v := (J4 195 (J4 188 ((4 * v3) + 1).toNat).toNat)) (N := 27) rfl rfl rfl (by omega) o16 rfl ?_
            refine jw_iadd rfl ?_
            refine jw_aload_n rfl rfl ?_
            refine jw_gr (q := 195) rfl rfl rfl ?_
            refine jw_iload_n rfl rfl ?_
            obtain ⟨o17, h⟩ := h
            refine jw_iald (v := (J4 195 v3.toNat)) (N := 27) rfl rfl rfl (by omega) o17 rfl ?_
            refine jw_isub rfl ?_
            refine jw_iret rfl ?_
            exact h
          · replace h := h.2 c14
            by_cases c18 : v2 = 4
            · replace h := h.1 c18
              refine jw_tab_in (pc2 := 202) (v := 4) (o := 81) rfl o8 c18 (by omega) rfl (by omega) ?_
              refine jw_aload_n rfl rfl ?_
              refine jw_gr (q := 195) rfl rfl rfl ?_
              refine jw_iload rfl rfl ?_
              obtain ⟨o19, h⟩ := h
              refine jw_iald (v := (J4 195 (J4 188 (4 * v3).toNat).toNat)) (N := 27) rfl rfl rfl (by omega) o19 rfl ?_
              refine jw_aload_n rfl rfl ?_
              refine jw_gr (q := 195) rfl rfl rfl ?_
              refine jw_iload_n rfl rfl ?_
              obtain ⟨o20, h⟩ := h
              refine jw_iald (v := (J4 195 v3.toNat)) (N := 27) rfl rfl rfl (by omega) o20 rfl ?_
              refine jw_isub rfl ?_
              refine jw_iret rfl ?_
              exact h
            · replace h := h.2 c18
              by_cases c21 : v2 = 5
              · replace h := h.1 c21
                refine jw_tab_in (pc2 := 217) (v := 5) (o := 96) rfl o8 c21 (by omega) rfl (by omega) ?_
                refine jw_iload rfl rfl ?_
                refine jw_iret rfl ?_
                exact h
              · replace h := h.2 c21
                refine jw_tab_out (pc2 := 220) rfl o8 (by omega) (by omega) ?_
                refine jw_aload_n rfl rfl ?_
                refine jw_gr (q := 188) rfl rfl rfl ?_
                refine jw_iconst rfl ?_
                refine jw_iload_n rfl rfl ?_
                refine jw_imul rfl ?_
                refine jw_iconst rfl ?_
                refine jw_iadd rfl ?_
                obtain ⟨o22, h⟩ := h
                refine jw_iald (v := (J4 188 ((4 * v3) + 3).toNat)) (N := 96) rfl rfl rfl (by omega) o22 rfl ?_
                refine jw_iret rfl ?_
                exact h
  · replace h := h.2 c3
    refine jw_aload_n rfl rfl ?_
    refine jw_bipush rfl (by decide) ?_
    refine jw_virt (k := 1) (c := 19) (as := [.int (Int32.ofInt (-4))]) rfl rfl rfl (Nat.le_of_ble_eq_true rfl) rfl (Nat.le_of_ble_eq_true rfl) rfl rfl (jz_ci ?_)
    refine jm_Q.mono h (jp_i_mono (fun r25 J23 K24 h => ?_))
    refine jw_iret rfl ?_
    exact h
set_option maxHeartbeats 4000000 in
theorem e_180 {xs : Nat → Int32} {L d : Nat} {v0 : Int} {v1 : Int} {J K : jZ} {P : Int → jZ → jZ → Prop} (h : (-2147483648 ≤ v1 ∧ v1 < 2147483648) ∧ (v1 = 0 → P 1 J K) ∧ (¬ v1 = 0 → (v1 = 1 → (-2147483648 ≤ v0 ∧ v0 < 2147483648) ∧ (v0 = 0 → P 1 J K) ∧ (¬ v0 = 0 → (v0 = 1 → P 1 J K) ∧ (¬ v0 = 1 → (¬ v0 = 9 → P 0 J K) ∧ (v0 = 9 → P 1 J K)))) ∧ (¬ v1 = 1 → (v1 = 2 → (-2147483648 ≤ v0 ∧ v0 < 2147483648) ∧ (v0 < 2 → P 0 J K) ∧ (2 ≤ v0 → (8 < v0 → P 0 J K) ∧ (v0 ≤ 8 → P 1 J K))) ∧ (¬ v1 = 2 → (v1 = 3 → (-2147483648 ≤ v0 ∧ v0 < 2147483648) ∧ (v0 < 2 → P 0 J K) ∧ (2 ≤ v0 → (4 < v0 → P 0 J K) ∧ (v0 ≤ 4 → P 1 J K))) ∧ (¬ v1 = 3 → (v1 = 4 → (-2147483648 ≤ v0 ∧ v0 < 2147483648) ∧ (v0 < 5 → P 0 J K) ∧ (5 ≤ v0 → (8 < v0 → P 0 J K) ∧ (v0 ≤ 8 → P 1 J K))) ∧ (¬ v1 = 4 → (v1 = 5 → (-2147483648 ≤ v0 ∧ v0 < 2147483648) ∧ (¬ v0 = 10 → P 0 J K) ∧ (v0 = 10 → P 1 J K)) ∧ (¬ v1 = 5 → (-2147483648 ≤ v0 ∧ v0 < 2147483648) ∧ (¬ v0 = 11 → P 0 J K) ∧ (v0 = 11 → P 1 J K)))))))) : q_180 xs L (d + 1) v0 v1 J K P := by
  unfold q_180
  refine jq_in (ls := [some (.int (Int32.ofInt v0)), some (.int (Int32.ofInt v1))]) rfl (Nat.le_of_ble_eq_true rfl) rfl ?_
  refine jw_iload_n rfl rfl ?_
  obtain ⟨o1, h⟩ := h
  by_cases c3 : v1 = 0
  · replace h := h.1 c3
    refine jw_tab_in (pc2 := 40) (v := 0) (o := 39) rfl o1 c3 (by omega) rfl (by omega) ?_
    refine jw_iconst rfl ?_
    refine jw_zret rfl (by omega) ?_
    exact h
  · replace h := h.2 c3
    by_cases c4 : v1 = 1
    · replace h := h.1 c4
      refine jw_tab_in (pc2 := 42) (v := 1) (o := 41) rfl o1 c4 (by omega) rfl (by omega) ?_
      refine jw_iload_n rfl rfl ?_
      obtain ⟨o5, h⟩ := h
      refine jw_if_eq rfl o5 (fun c6 => ?_) (fun c6 => ?_)
      · replace h := h.1 c6
        refine jw_iconst rfl ?_
        refine jw_goto rfl ?_
        refine jw_zret rfl (by omega) ?_
        exact h
      · replace h := h.2 c6
        refine jw_iload_n rfl rfl ?_
        refine jw_iconst rfl ?_
        refine jw_ic_eq rfl o5 (by omega) (fun c7 => ?_) (fun c7 => ?_)
        · replace h := h.1 c7
          refine jw_iconst rfl ?_
          refine jw_goto rfl ?_
          refine jw_zret rfl (by omega) ?_
          exact h
        · replace h := h.2 c7
          refine jw_iload_n rfl rfl ?_
          refine jw_bipush rfl (by decide) ?_
          refine jw_ic_ne rfl o5 (by omega) (fun c8 => ?_) (fun c8 => ?_)
          · replace h := h.1 c8
            refine jw_iconst rfl ?_
            refine jw_zret rfl (by omega) ?_
            exact h
          · replace h := h.2 c8
            refine jw_iconst rfl ?_
            refine jw_goto rfl ?_
            refine jw_zret rfl (by omega) ?_
            exact h
    · replace h := h.2 c4
      by_cases c9 : v1 = 2
      · replace h := h.1 c9
        refine jw_tab_in (pc2 := 63) (v := 2) (o := 62) rfl o1 c9 (by omega) rfl (by omega) ?_
        refine jw_iload_n rfl rfl ?_
        refine jw_iconst rfl ?_
        obtain ⟨o10, h⟩ := h
        refine jw_ic_lt rfl o10 (by omega) (fun c11 => ?_) (fun c11 => ?_)
        · replace h := h.1 c11
          refine jw_iconst rfl ?_
          refine jw_zret rfl (by omega) ?_
          exact h
        · replace h := h.2 c11
          refine jw_iload_n rfl rfl ?_
          refine jw_bipush rfl (by decide) ?_
          refine jw_ic_gt rfl o10 (by omega) (fun c12 => ?_) (fun c12 => ?_)
          · replace h := h.1 c12
            refine jw_iconst rfl ?_
            refine jw_zret rfl (by omega) ?_
            exact h
          · replace h := h.2 c12
            refine jw_iconst rfl ?_
            refine jw_goto rfl ?_
            refine jw_zret rfl (by omega) ?_
            exact h
      · replace h := h.2 c9
        by_cases c13 : v1 = 3
        · replace h := h.1 c13
          refine jw_tab_in (pc2 := 80) (v := 3) (o := 79) rfl o1 c13 (by omega) rfl (by omega) ?_
          refine jw_iload_n rfl rfl ?_
          refine jw_iconst rfl ?_
          obtain ⟨o14, h⟩ := h
          refine jw_ic_lt rfl o14 (by omega) (fun c15 => ?_) (fun c15 => ?_)
          · replace h := h.1 c15
            refine jw_iconst rfl ?_
            refine jw_zret rfl (by omega) ?_
            exact h
          · replace h := h.2 c15
            refine jw_iload_n rfl rfl ?_
            refine jw_iconst rfl ?_
            refine jw_ic_gt rfl o14 (by omega) (fun c16 => ?_) (fun c16 => ?_)
            · replace h := h.1 c16
              refine jw_iconst rfl ?_
              refine jw_zret rfl (by omega) ?_
              exact h
            · replace h := h.2 c16
              refine jw_iconst rfl ?_
              refine jw_goto rfl ?_
              refine jw_zret rfl (by omega) ?_
              exact h
        · replace h := h.2 c13
          by_cases c17 : v1 = 4
          · replace h := h.1 c17
            refine jw_tab_in (pc2 := 96) (v := 4) (o := 95) rfl o1 c17 (by omega) rfl (by omega) ?_
            refine jw_iload_n rfl rfl ?_
            refine jw_iconst rfl ?_
            obtain ⟨o18, h⟩ := h
            refine jw_ic_lt rfl o18 (by omega) (fun c19 => ?_) (fun c19 => ?_)
            · replace h := h.1 c19
              refine jw_iconst rfl ?_
              refine jw_zret rfl (by omega) ?_
              exact h
            · replace h := h.2 c19
              refine jw_iload_n rfl rfl ?_
              refine jw_bipush rfl (by decide) ?_
              refine jw_ic_gt rfl o18 (by omega) (fun c20 => ?_) (fun c20 => ?_)
              · replace h := h.1 c20
                refine jw_iconst rfl ?_
                refine jw_zret rfl (by omega) ?_
                exact h
              · replace h := h.2 c20
                refine jw_iconst rfl ?_
                refine jw_goto rfl ?_
                refine jw_zret rfl (by omega) ?_
                exact h
          · replace h := h.2 c17
            by_cases c21 : v1 = 5
            · replace h := h.1 c21
              refine jw_tab_in (pc2 := 113) (v := 5) (o := 112) rfl o1 c21 (by omega) rfl (by omega) ?_
              refine jw_iload_n rfl rfl ?_
              refine jw_bipush rfl (by decide) ?_
              obtain ⟨o22, h⟩ := h
              refine jw_ic_ne rfl o22 (by omega) (fun c23 => ?_) (fun c23 => ?_)
              · replace h := h.1 c23
                refine jw_iconst rfl ?_
                refine jw_zret rfl (by omega) ?_
                exact h
              · replace h := h.2 c23
                refine jw_iconst rfl ?_
                refine jw_goto rfl ?_
                refine jw_zret rfl (by omega) ?_
                exact h
            · replace h := h.2 c21
              refine jw_tab_out (pc2 := 125) rfl o1 (by omega) (by omega) ?_
              refine jw_iload_n rfl rfl ?_
              refine jw_bipush rfl (by decide) ?_
              obtain ⟨o24, h⟩ := h
              refine jw_ic_ne rfl o24 (by omega) (fun c25 => ?_) (fun c25 => ?_)
              · replace h := h.1 c25
                refine jw_iconst rfl ?_
                refine jw_zret rfl (by omega) ?_
                exact h
              · replace h := h.2 c25
                refine jw_iconst rfl ?_
                refine jw_goto rfl ?_
                refine jw_zret rfl (by omega) ?_
                exact h
set_option maxHeartbeats 4000000 in
theorem e_181 {xs : Nat → Int32} {L d : Nat} {J K : jZ} {P : jZ → jZ → Prop} (h : (-2147483648 ≤ J 167 26 ∧ J 167 26 < 2147483648) ∧ (¬ (J 167 26) = 0 → P J K) ∧ ((J 167 26) = 0 → q_182 xs L d J K (fun J3 K4 => P (jm_up J3 167 26 1) K4))) : q_181 xs L (d + 1) J K P := by
  unfold q_181
  refine jq_in (ls := [some (.ref 167)]) rfl (Nat.le_of_ble_eq_true rfl) rfl ?_
  refine jw_aload_n rfl rfl ?_
  refine jw_gf (v := (J 167 26)) rfl (by decide) rfl rfl ?_
  obtain ⟨o1, h⟩ := h
  refine jw_if_ne rfl o1 (fun c2 => ?_) (fun c2 => ?_)
  · replace h := h.1 c2
    refine jw_vret rfl ?_
    exact h
  · replace h := h.2 c2
    refine jw_aload_n rfl rfl ?_
    refine jw_virt (k := 0) (c := 19) (as := []) rfl rfl rfl (Nat.le_of_ble_eq_true rfl) rfl (Nat.le_of_ble_eq_true rfl) rfl rfl (jz_cv ?_)
    refine jm_Q.mono h (jp_v_mono (fun J3 K4 h => ?_))
    refine jw_aload_n rfl rfl ?_
    refine jw_iconst rfl ?_
    refine jw_pfz rfl rfl (by omega) ?_
    refine jw_vret rfl ?_
    exact h
set_option maxHeartbeats 4000000 in
theorem e_182 {xs : Nat → Int32} {L d : Nat} {J K : jZ} {P : jZ → jZ → Prop} (h : q_183 xs L d J K (fun J1 K2 => l_182_6 xs L d 0 J1 K2 P)) : q_182 xs L (d + 1) J K P := by
  unfold q_182
  refine jq_in (ls := [some (.ref 167), none, none]) rfl (Nat.le_of_ble_eq_true rfl) rfl ?_
  refine jw_aload_n rfl rfl ?_
  refine jw_virt (k := 0) (c := 19) (as := []) rfl rfl rfl (Nat.le_of_ble_eq_true rfl) rfl (Nat.le_of_ble_eq_true rfl) rfl rfl (jz_cv ?_)
  refine jm_Q.mono h (jp_v_mono (fun J1 K2 h => ?_))
  refine jw_iconst rfl ?_
  refine jw_istore_n (ls' := [some (.ref 167), some (.int (Int32.ofInt 0)), none]) rfl rfl ?_
  exact jz_fg (l := [some (.ref 167), some (.int (Int32.ofInt 0)), none]) ⟨rfl, rfl, jz_n0, trivial⟩ h
set_option maxHeartbeats 4000000 in
theorem e_182_6 {xs : Nat → Int32} {L d : Nat} {v1 : Int} {J K : jZ} {P : jZ → jZ → Prop} (h : (-2147483648 ≤ v1 ∧ v1 < 2147483648) ∧ (-2147483648 ≤ J 167 10 ∧ J 167 10 < 2147483648) ∧ ((J 167 10) ≤ v1 → P J K) ∧ (v1 < (J 167 10) → ((0 : Int) ≤ v1 ∧ v1 < 24) ∧ (-2147483648 ≤ J 187 v1.toNat ∧ J 187 v1.toNat < 2147483648) ∧ ((J 187 v1.toNat) = 0 → q_184 xs L d v1 J K (fun J7 K8 => l_182_6 xs L d (v1 + 1) J7 K8 P)) ∧ (¬ (J 187 v1.toNat) = 0 → (¬ (J 187 v1.toNat) = 1 → (¬ (J 187 v1.toNat) = 9 → (¬ (J 187 v1.toNat) = 10 → (¬ (J 187 v1.toNat) = 11 → ((0 : Int) ≤ (4 * v1) ∧ (4 * v1) < 96) ∧ ((0 : Int) ≤ ((4 * v1) + 1) ∧ ((4 * v1) + 1) < 96) ∧ q_194 xs L d v1 (J 187 v1.toNat) (J 188 (4 * v1).toNat) (J 188 ((4 * v1) + 1).toNat) J K (fun J15 K16 => l_182_6 xs L d (v1 + 1) J15 K16 P)) ∧ ((J 187 v1.toNat) = 11 → q_193 xs L d v1 J K (fun J17 K18 => l_182_6 xs L d (v1 + 1) J17 K18 P))) ∧ ((J 187 v1.toNat) = 10 → q_190 xs L d v1 J K (fun J19 K20 => l_182_6 xs L d (v1 + 1) J19 K20 P))) ∧ ((J 187 v1.toNat) = 9 → q_188 xs L d v1 J K (fun J21 K22 => l_182_6 xs L d (v1 + 1) J21 K22 P))) ∧ ((J 187 v1.toNat) = 1 → q_184 xs L d v1 J K (fun J23 K24 => l_182_6 xs L d (v1 + 1) J23 K24 P))))) : l_182_6 xs L d v1 J K P := by
  unfold l_182_6
  refine jw_iload_n rfl rfl ?_
  refine jw_aload_n rfl rfl ?_
  refine jw_gf (v := (J 167 10)) rfl (by decide) rfl rfl ?_
  obtain ⟨o1, h⟩ := h
  obtain ⟨o2, h⟩ := h
  refine jw_ic_ge rfl o1 o2 (fun c3 => ?_) (fun c3 => ?_)
  · replace h := h.1 c3
    refine jw_vret rfl ?_
    exact h
  · replace h := h.2 c3
    refine jw_aload_n rfl rfl ?_
    refine jw_gr (q := 187) rfl rfl rfl ?_
    refine jw_iload_n rfl rfl ?_
    obtain ⟨o4, h⟩ := h
    refine jw_iald (v := (J 187 v1.toNat)) (N := 24) rfl rfl rfl (by omega) o4 rfl ?_
    refine jw_istore_n (ls' := [some (.ref 167), some (.int (Int32.ofInt v1)), some (.int (Int32.ofInt (J 187 v1.toNat)))]) rfl rfl ?_
    refine jw_iload_n rfl rfl ?_
    obtain ⟨o5, h⟩ := h
    refine jw_if_eq rfl o5 (fun c6 => ?_) (fun c6 => ?_)
    · replace h := h.1 c6
      refine jw_aload_n rfl rfl ?_
      refine jw_iload_n rfl rfl ?_
      refine jw_virt (k := 1) (c := 19) (as := [.int (Int32.ofInt v1)]) rfl rfl rfl (Nat.le_of_ble_eq_true rfl) rfl (Nat.le_of_ble_eq_true rfl) rfl rfl (jz_cv ?_)
      refine jm_Q.mono h (jp_v_mono (fun J7 K8 h => ?_))
      refine jw_goto rfl ?_
      refine jw_iinc (ls' := [some (.ref 167), some (.int (Int32.ofInt (v1 + 1))), some (.int (Int32.ofInt (J 187 v1.toNat)))]) rfl rfl rfl ?_
      refine jw_goto rfl ?_
      exact jz_fg (l := [some (.ref 167), some (.int (Int32.ofInt (v1 + 1))), none]) ⟨rfl, rfl, jz_ni, trivial⟩ h
    · replace h := h.2 c6
      refine jw_iload_n rfl rfl ?_
      refine jw_iconst rfl ?_
      refine jw_ic_ne rfl o5 (by omega) (fun c9 => ?_) (fun c9 => ?_)
      · replace h := h.1 c9
        refine jw_iload_n rfl rfl ?_
        refine jw_bipush rfl (by decide) ?_
        refine jw_ic_ne rfl o5 (by omega) (fun c10 => ?_) (fun c10 => ?_)
        · replace h := h.1 c10
          refine jw_iload_n rfl rfl ?_
          refine jw_bipush rfl (by decide) ?_
          refine jw_ic_ne rfl o5 (by omega) (fun c11 => ?_) (fun c11 => ?_)
          · replace h := h.1 c11
            refine jw_iload_n rfl rfl ?_
            refine jw_bipush rfl (by decide) ?_
            refine jw_ic_ne rfl o5 (by omega) (fun c12 => ?_) (fun c12 => ?_)
            · replace h := h.1 c12
              refine jw_aload_n rfl rfl ?_
              refine jw_iload_n rfl rfl ?_
              refine jw_iload_n rfl rfl ?_
              refine jw_aload_n rfl rfl ?_
              refine jw_gr (q := 188) rfl rfl rfl ?_
              refine jw_iconst rfl ?_
              refine jw_iload_n rfl rfl ?_
              refine jw_imul rfl ?_
              obtain ⟨o13, h⟩ := h
              refine jw_iald (v := (J 188 (4 * v1).toNat)) (N := 96) rfl rfl rfl (by omega) o13 rfl ?_
              refine jw_aload_n rfl rfl ?_
              refine jw_gr (q := 188) rfl rfl rfl ?_
              refine jw_iconst rfl ?_
              refine jw_iload_n rfl rfl ?_
              refine jw_imul rfl ?_
              refine jw_iconst rfl ?_
              refine jw_iadd rfl ?_
              obtain ⟨o14, h⟩ := h
              refine jw_iald (v := (J 188 ((4 * v1) + 1).toNat)) (N := 96) rfl rfl rfl (by omega) o14 rfl ?_
              refine jw_virt (k := 4) (c := 19) (as := [.int (Int32.ofInt v1), .int (Int32.ofInt (J 187 v1.toNat)), .int (Int32.ofInt (J 188 (4 * v1).toNat)), .int (Int32.ofInt (J 188 ((4 * v1) + 1).toNat))]) rfl rfl rfl (Nat.le_of_ble_eq_true rfl) rfl (Nat.le_of_ble_eq_true rfl) rfl rfl (jz_cv ?_)
              refine jm_Q.mono h (jp_v_mono (fun J15 K16 h => ?_))
              refine jw_iinc (ls' := [some (.ref 167), some (.int (Int32.ofInt (v1 + 1))), some (.int (Int32.ofInt (J 187 v1.toNat)))]) rfl rfl rfl ?_
              refine jw_goto rfl ?_
              exact jz_fg (l := [some (.ref 167), some (.int (Int32.ofInt (v1 + 1))), none]) ⟨rfl, rfl, jz_ni, trivial⟩ h
            · replace h := h.2 c12
              refine jw_aload_n rfl rfl ?_
              refine jw_iload_n rfl rfl ?_
              refine jw_virt (k := 1) (c := 19) (as := [.int (Int32.ofInt v1)]) rfl rfl rfl (Nat.le_of_ble_eq_true rfl) rfl (Nat.le_of_ble_eq_true rfl) rfl rfl (jz_cv ?_)
              refine jm_Q.mono h (jp_v_mono (fun J17 K18 h => ?_))
              refine jw_goto rfl ?_
              refine jw_iinc (ls' := [some (.ref 167), some (.int (Int32.ofInt (v1 + 1))), some (.int (Int32.ofInt (J 187 v1.toNat)))]) rfl rfl rfl ?_
              refine jw_goto rfl ?_
              exact jz_fg (l := [some (.ref 167), some (.int (Int32.ofInt (v1 + 1))), none]) ⟨rfl, rfl, jz_ni, trivial⟩ h
          · replace h := h.2 c11
            refine jw_aload_n rfl rfl ?_
            refine jw_iload_n rfl rfl ?_
            refine jw_virt (k := 1) (c := 19) (as := [.int (Int32.ofInt v1)]) rfl rfl rfl (Nat.le_of_ble_eq_true rfl) rfl (Nat.le_of_ble_eq_true rfl) rfl rfl (jz_cv ?_)
            refine jm_Q.mono h (jp_v_mono (fun J19 K20 h => ?_))
            refine jw_goto rfl ?_
            refine jw_iinc (ls' := [some (.ref 167), some (.int (Int32.ofInt (v1 + 1))), some (.int (Int32.ofInt (J 187 v1.toNat)))]) rfl rfl rfl ?_
            refine jw_goto rfl ?_
            exact jz_fg (l := [some (.ref 167), some (.int (Int32.ofInt (v1 + 1))), none]) ⟨rfl, rfl, jz_ni, trivial⟩ h
        · replace h := h.2 c10
          refine jw_aload_n rfl rfl ?_
          refine jw_iload_n rfl rfl ?_
          refine jw_virt (k := 1) (c := 19) (as := [.int (Int32.ofInt v1)]) rfl rfl rfl (Nat.le_of_ble_eq_true rfl) rfl (Nat.le_of_ble_eq_true rfl) rfl rfl (jz_cv ?_)
          refine jm_Q.mono h (jp_v_mono (fun J21 K22 h => ?_))
          refine jw_goto rfl ?_
          refine jw_iinc (ls' := [some (.ref 167), some (.int (Int32.ofInt (v1 + 1))), some (.int (Int32.ofInt (J 187 v1.toNat)))]) rfl rfl rfl ?_
          refine jw_goto rfl ?_
          exact jz_fg (l := [some (.ref 167), some (.int (Int32.ofInt (v1 + 1))), none]) ⟨rfl, rfl, jz_ni, trivial⟩ h
      · replace h := h.2 c9
        refine jw_aload_n rfl rfl ?_
        refine jw_iload_n rfl rfl ?_
        refine jw_virt (k := 1) (c := 19) (as := [.int (Int32.ofInt v1)]) rfl rfl rfl (Nat.le_of_ble_eq_true rfl) rfl (Nat.le_of_ble_eq_true rfl) rfl rfl (jz_cv ?_)
        refine jm_Q.mono h (jp_v_mono (fun J23 K24 h => ?_))
        refine jw_goto rfl ?_
        refine jw_iinc (ls' := [some (.ref 167), some (.int (Int32.ofInt (v1 + 1))), some (.int (Int32.ofInt (J 187 v1.toNat)))]) rfl rfl rfl ?_
        refine jw_goto rfl ?_
        exact jz_fg (l := [some (.ref 167), some (.int (Int32.ofInt (v1 + 1))), none]) ⟨rfl, rfl, jz_ni, trivial⟩ h
set_option maxHeartbeats 4000000 in
theorem e_183 {xs : Nat → Int32} {L d : Nat} {J K : jZ} {P : jZ → jZ → Prop} (h : l_183_2 xs L d 0 J K P) : q_183 xs L (d + 1) J K P := by
  unfold q_183
  refine jq_in (ls := [some (.ref 167), none, none]) rfl (Nat.le_of_ble_eq_true rfl) rfl ?_
  refine jw_iconst rfl ?_
  refine jw_istore_n (ls' := [some (.ref 167), some (.int (Int32.ofInt 0)), none]) rfl rfl ?_
  exact jz_fg (l := [some (.ref 167), some (.int (Int32.ofInt 0)), none]) ⟨rfl, rfl, jz_n0, trivial⟩ h
set_option maxHeartbeats 4000000 in
theorem e_183_2 {xs : Nat → Int32} {L d : Nat} {v1 : Int} {J K : jZ} {P : jZ → jZ → Prop} (h : (-2147483648 ≤ v1 ∧ v1 < 2147483648) ∧ (-2147483648 ≤ J 167 9 ∧ J 167 9 < 2147483648) ∧ ((J 167 9) ≤ v1 → P J K) ∧ (v1 < (J 167 9) → ((0 : Int) ≤ v1 ∧ v1 < 60) ∧ (-2147483648 ≤ J 184 v1.toNat ∧ J 184 v1.toNat < 2147483648) ∧ (-2147483648 ≤ J 167 37 ∧ J 167 37 < 2147483648) ∧ (¬ (J 184 v1.toNat) = (J 167 37) → ((0 : Int) ≤ J 184 v1.toNat ∧ J 184 v1.toNat < 16) ∧ l_183_2 xs L d (v1 + 1) (jm_up J 194 v1.toNat (jz_or (jz_shl 1 (J 184 v1.toNat)) (J 186 (J 184 v1.toNat).toNat))) K P) ∧ ((J 184 v1.toNat) = (J 167 37) → l_183_2 xs L d (v1 + 1) (jm_up J 194 v1.toNat 0) K P))) : l_183_2 xs L d v1 J K P := by
  unfold l_183_2
  refine jw_iload_n rfl rfl ?_
  refine jw_aload_n rfl rfl ?_
  refine jw_gf (v := (J 167 9)) rfl (by decide) rfl rfl ?_
  obtain ⟨o1, h⟩ := h
  obtain ⟨o2, h⟩ := h
  refine jw_ic_ge rfl o1 o2 (fun c3 => ?_) (fun c3 => ?_)
  · replace h := h.1 c3
    refine jw_vret rfl ?_
    exact h
  · replace h := h.2 c3
    refine jw_aload_n rfl rfl ?_
    refine jw_gr (q := 184) rfl rfl rfl ?_
    refine jw_iload_n rfl rfl ?_
    obtain ⟨o4, h⟩ := h
    refine jw_iald (v := (J 184 v1.toNat)) (N := 60) rfl rfl rfl (by omega) o4 rfl ?_
    refine jw_istore_n (ls' := [some (.ref 167), some (.int (Int32.ofInt v1)), some (.int (Int32.ofInt (J 184 v1.toNat)))]) rfl rfl ?_
    refine jw_aload_n rfl rfl ?_
    refine jw_gr (q := 194) rfl rfl rfl ?_
    refine jw_iload_n rfl rfl ?_
    refine jw_iload_n rfl rfl ?_
    refine jw_aload_n rfl rfl ?_
    refine jw_gf (v := (J 167 37)) rfl (by decide) rfl rfl ?_
    obtain ⟨o5, h⟩ := h
    obtain ⟨o6, h⟩ := h
    refine jw_ic_ne rfl o5 o6 (fun c7 => ?_) (fun c7 => ?_)
    · replace h := h.1 c7
      refine jw_iconst rfl ?_
      refine jw_iload_n rfl rfl ?_
      refine jw_ishl rfl ?_
      refine jw_aload_n rfl rfl ?_
      refine jw_gr (q := 186) rfl rfl rfl ?_
      refine jw_iload_n rfl rfl ?_
      obtain ⟨o8, h⟩ := h
      refine jw_iald (v := (J 186 (J 184 v1.toNat).toNat)) (N := 16) rfl rfl rfl (by omega) o8 rfl ?_
      refine jw_ior rfl ?_
      refine jw_iast (N := 60) rfl rfl rfl (by omega) o4 ?_
      refine jw_iinc (ls' := [some (.ref 167), some (.int (Int32.ofInt (v1 + 1))), some (.int (Int32.ofInt (J 184 v1.toNat)))]) rfl rfl rfl ?_
      refine jw_goto rfl ?_
      exact jz_fg (l := [some (.ref 167), some (.int (Int32.ofInt (v1 + 1))), none]) ⟨rfl, rfl, jz_ni, trivial⟩ h
    · replace h := h.2 c7
      refine jw_iconst rfl ?_
      refine jw_goto rfl ?_
      refine jw_iast (N := 60) rfl rfl rfl (by omega) o4 ?_
      refine jw_iinc (ls' := [some (.ref 167), some (.int (Int32.ofInt (v1 + 1))), some (.int (Int32.ofInt (J 184 v1.toNat)))]) rfl rfl rfl ?_
      refine jw_goto rfl ?_
      exact jz_fg (l := [some (.ref 167), some (.int (Int32.ofInt (v1 + 1))), none]) ⟨rfl, rfl, jz_ni, trivial⟩ h
set_option maxHeartbeats 4000000 in
theorem e_184 {xs : Nat → Int32} {L d : Nat} {v1 : Int} {J K : jZ} {P : jZ → jZ → Prop} (h : q_185 xs L d J K (fun J1 K2 => ((0 : Int) ≤ v1 ∧ v1 < 24) ∧ (-2147483648 ≤ J1 187 v1.toNat ∧ J1 187 v1.toNat < 2147483648) ∧ (¬ (J1 187 v1.toNat) = 0 → ((0 : Int) ≤ ((4 * v1) + 3) ∧ ((4 * v1) + 3) < 96) ∧ (-2147483648 ≤ J1 188 ((4 * v1) + 3).toNat ∧ J1 188 ((4 * v1) + 3).toNat < 2147483648) ∧ (¬ (J1 188 ((4 * v1) + 3).toNat) = (-1) → l_184_57 xs L d v1 4 0 J1 K2 P) ∧ ((J1 188 ((4 * v1) + 3).toNat) = (-1) → ((0 : Int) ≤ ((4 * v1) + 2) ∧ ((4 * v1) + 2) < 96) ∧ (-2147483648 ≤ J1 188 ((4 * v1) + 2).toNat ∧ J1 188 ((4 * v1) + 2).toNat < 2147483648) ∧ (¬ (J1 188 ((4 * v1) + 2).toNat) = (-1) → l_184_57 xs L d v1 3 0 J1 K2 P) ∧ ((J1 188 ((4 * v1) + 2).toNat) = (-1) → l_184_57 xs L d v1 2 0 J1 K2 P))) ∧ ((J1 187 v1.toNat) = 0 → l_184_57 xs L d v1 1 0 J1 K2 P))) : q_184 xs L (d + 1) v1 J K P := by
  unfold q_184
  refine jq_in (ls := [some (.ref 167), some (.int (Int32.ofInt v1)), none, none, none, none]) rfl (Nat.le_of_ble_eq_true rfl) rfl ?_
  refine jw_aload_n rfl rfl ?_
  refine jw_virt (k := 0) (c := 19) (as := []) rfl rfl rfl (Nat.le_of_ble_eq_true rfl) rfl (Nat.le_of_ble_eq_true rfl) rfl rfl (jz_cv ?_)
  refine jm_Q.mono h (jp_v_mono (fun J1 K2 h => ?_))
  refine jw_aload_n rfl rfl ?_
  refine jw_gr (q := 187) rfl rfl rfl ?_
  refine jw_iload_n rfl rfl ?_
  obtain ⟨o3, h⟩ := h
  refine jw_iald (v := (J1 187 v1.toNat)) (N := 24) rfl rfl rfl (by omega) o3 rfl ?_
  obtain ⟨o4, h⟩ := h
  refine jw_if_ne rfl o4 (fun c5 => ?_) (fun c5 => ?_)
  · replace h := h.1 c5
    refine jw_aload_n rfl rfl ?_
    refine jw_gr (q := 188) rfl rfl rfl ?_
    refine jw_iconst rfl ?_
    refine jw_iload_n rfl rfl ?_
    refine jw_imul rfl ?_
    refine jw_iconst rfl ?_
    refine jw_iadd rfl ?_
    obtain ⟨o6, h⟩ := h
    refine jw_iald (v := (J1 188 ((4 * v1) + 3).toNat)) (N := 96) rfl rfl rfl (by omega) o6 rfl ?_
    refine jw_iconst rfl ?_
    obtain ⟨o7, h⟩ := h
    refine jw_ic_ne rfl o7 (by omega) (fun c8 => ?_) (fun c8 => ?_)
    · replace h := h.1 c8
      refine jw_iconst rfl ?_
      refine jw_istore_n (ls' := [some (.ref 167), some (.int (Int32.ofInt v1)), some (.int (Int32.ofInt 4)), none, none, none]) rfl rfl ?_
      refine jw_iconst rfl ?_
      refine jw_istore_n (ls' := [some (.ref 167), some (.int (Int32.ofInt v1)), some (.int (Int32.ofInt 4)), some (.int (Int32.ofInt 0)), none, none]) rfl rfl ?_
      exact jz_fg (l := [some (.ref 167), some (.int (Int32.ofInt v1)), some (.int (Int32.ofInt 4)), some (.int (Int32.ofInt 0)), none, none]) ⟨rfl, rfl, rfl, rfl, jz_n0, jz_n0, trivial⟩ h
    · replace h := h.2 c8
      refine jw_aload_n rfl rfl ?_
      refine jw_gr (q := 188) rfl rfl rfl ?_
      refine jw_iconst rfl ?_
      refine jw_iload_n rfl rfl ?_
      refine jw_imul rfl ?_
      refine jw_iconst rfl ?_
      refine jw_iadd rfl ?_
      obtain ⟨o9, h⟩ := h
      refine jw_iald (v := (J1 188 ((4 * v1) + 2).toNat)) (N := 96) rfl rfl rfl (by omega) o9 rfl ?_
      refine jw_iconst rfl ?_
      obtain ⟨o10, h⟩ := h
      refine jw_ic_ne rfl o10 (by omega) (fun c11 => ?_) (fun c11 => ?_)
      · replace h := h.1 c11
        refine jw_iconst rfl ?_
        refine jw_goto rfl ?_
        refine jw_istore_n (ls' := [some (.ref 167), some (.int (Int32.ofInt v1)), some (.int (Int32.ofInt 3)), none, none, none]) rfl rfl ?_
        refine jw_iconst rfl ?_
        refine jw_istore_n (ls' := [some (.ref 167), some (.int (Int32.ofInt v1)), some (.int (Int32.ofInt 3)), some (.int (Int32.ofInt 0)), none, none]) rfl rfl ?_
        exact jz_fg (l := [some (.ref 167), some (.int (Int32.ofInt v1)), some (.int (Int32.ofInt 3)), some (.int (Int32.ofInt 0)), none, none]) ⟨rfl, rfl, rfl, rfl, jz_n0, jz_n0, trivial⟩ h
      · replace h := h.2 c11
        refine jw_iconst rfl ?_
        refine jw_goto rfl ?_
        refine jw_istore_n (ls' := [some (.ref 167), some (.int (Int32.ofInt v1)), some (.int (Int32.ofInt 2)), none, none, none]) rfl rfl ?_
        refine jw_iconst rfl ?_
        refine jw_istore_n (ls' := [some (.ref 167), some (.int (Int32.ofInt v1)), some (.int (Int32.ofInt 2)), some (.int (Int32.ofInt 0)), none, none]) rfl rfl ?_
        exact jz_fg (l := [some (.ref 167), some (.int (Int32.ofInt v1)), some (.int (Int32.ofInt 2)), some (.int (Int32.ofInt 0)), none, none]) ⟨rfl, rfl, rfl, rfl, jz_n0, jz_n0, trivial⟩ h
  · replace h := h.2 c5
    refine jw_iconst rfl ?_
    refine jw_goto rfl ?_
    refine jw_istore_n (ls' := [some (.ref 167), some (.int (Int32.ofInt v1)), some (.int (Int32.ofInt 1)), none, none, none]) rfl rfl ?_
    refine jw_iconst rfl ?_
    refine jw_istore_n (ls' := [some (.ref 167), some (.int (Int32.ofInt v1)), some (.int (Int32.ofInt 1)), some (.int (Int32.ofInt 0)), none, none]) rfl rfl ?_
    exact jz_fg (l := [some (.ref 167), some (.int (Int32.ofInt v1)), some (.int (Int32.ofInt 1)), some (.int (Int32.ofInt 0)), none, none]) ⟨rfl, rfl, rfl, rfl, jz_n0, jz_n0, trivial⟩ h
set_option maxHeartbeats 4000000 in
theorem e_184_57 {xs : Nat → Int32} {L d : Nat} {v1 : Int} {v2 : Int} {v3 : Int} {J K : jZ} {P : jZ → jZ → Prop} (h : (-2147483648 ≤ (v3 + v2) ∧ (v3 + v2) < 2147483648) ∧ (-2147483648 ≤ J 167 9 ∧ J 167 9 < 2147483648) ∧ ((J 167 9) < (v3 + v2) → q_187 xs L d v1 J K (fun J4 K5 => P J4 K5)) ∧ ((v3 + v2) ≤ (J 167 9) → l_184_73 xs L d v1 v2 v3 1 0 J K P)) : l_184_57 xs L d v1 v2 v3 J K P := by
  unfold l_184_57
  refine jw_iload_n rfl rfl ?_
  refine jw_iload_n rfl rfl ?_
  refine jw_iadd rfl ?_
  refine jw_aload_n rfl rfl ?_
  refine jw_gf (v := (J 167 9)) rfl (by decide) rfl rfl ?_
  obtain ⟨o1, h⟩ := h
  obtain ⟨o2, h⟩ := h
  refine jw_ic_gt rfl o1 o2 (fun c3 => ?_) (fun c3 => ?_)
  · replace h := h.1 c3
    refine jw_aload_n rfl rfl ?_
    refine jw_iload_n rfl rfl ?_
    refine jw_virt (k := 1) (c := 19) (as := [.int (Int32.ofInt v1)]) rfl rfl rfl (Nat.le_of_ble_eq_true rfl) rfl (Nat.le_of_ble_eq_true rfl) rfl rfl (jz_cv ?_)
    refine jm_Q.mono h (jp_v_mono (fun J4 K5 h => ?_))
    refine jw_vret rfl ?_
    exact h
  · replace h := h.2 c3
    refine jw_iconst rfl ?_
    refine jw_istore (ls' := [some (.ref 167), some (.int (Int32.ofInt v1)), some (.int (Int32.ofInt v2)), some (.int (Int32.ofInt v3)), some (.int (Int32.ofInt 1)), none]) rfl rfl ?_
    refine jw_iconst rfl ?_
    refine jw_istore (ls' := [some (.ref 167), some (.int (Int32.ofInt v1)), some (.int (Int32.ofInt v2)), some (.int (Int32.ofInt v3)), some (.int (Int32.ofInt 1)), some (.int (Int32.ofInt 0))]) rfl rfl ?_
    exact jz_fg (l := [some (.ref 167), some (.int (Int32.ofInt v1)), some (.int (Int32.ofInt v2)), some (.int (Int32.ofInt v3)), some (.int (Int32.ofInt 1)), some (.int (Int32.ofInt 0))]) ⟨rfl, rfl, rfl, rfl, rfl, rfl, trivial⟩ h
set_option maxHeartbeats 4000000 in
theorem e_184_73 {xs : Nat → Int32} {L d : Nat} {v1 : Int} {v2 : Int} {v3 : Int} {v4 : Int} {v5 : Int} {J K : jZ} {P : jZ → jZ → Prop} (h : (-2147483648 ≤ v5 ∧ v5 < 2147483648) ∧ (-2147483648 ≤ v2 ∧ v2 < 2147483648) ∧ (v2 ≤ v5 → (-2147483648 ≤ v4 ∧ v4 < 2147483648) ∧ (v4 = 0 → l_184_137 xs L d v1 v2 v3 J K P) ∧ (¬ v4 = 0 → q_186 xs L d v3 ((v3 + v2) - 1) J K (fun J6 K7 => l_184_137 xs L d v1 v2 v3 J6 K7 P))) ∧ (v5 < v2 → ((0 : Int) ≤ (v3 + v5) ∧ (v3 + v5) < 60) ∧ ((0 : Int) ≤ ((4 * v1) + v5) ∧ ((4 * v1) + v5) < 96) ∧ (¬ (jz_and (jz_shr (J 194 (v3 + v5).toNat) (J 188 ((4 * v1) + v5).toNat)) 1) = 1 → l_184_73 xs L d v1 v2 v3 (jz_and v4 0) (v5 + 1) J K P) ∧ ((jz_and (jz_shr (J 194 (v3 + v5).toNat) (J 188 ((4 * v1) + v5).toNat)) 1) = 1 → l_184_73 xs L d v1 v2 v3 (jz_and v4 1) (v5 + 1) J K P))) : l_184_73 xs L d v1 v2 v3 v4 v5 J K P := by
  unfold l_184_73
  refine jw_iload rfl rfl ?_
  refine jw_iload_n rfl rfl ?_
  obtain ⟨o1, h⟩ := h
  obtain ⟨o2, h⟩ := h
  refine jw_ic_ge rfl o1 o2 (fun c3 => ?_) (fun c3 => ?_)
  · replace h := h.1 c3
    refine jw_iload rfl rfl ?_
    obtain ⟨o4, h⟩ := h
    refine jw_if_eq rfl o4 (fun c5 => ?_) (fun c5 => ?_)
    · replace h := h.1 c5
      exact jz_fg (l := [some (.ref 167), some (.int (Int32.ofInt v1)), some (.int (Int32.ofInt v2)), some (.int (Int32.ofInt v3)), none, none]) ⟨rfl, rfl, rfl, rfl, jz_ni, jz_ni, trivial⟩ h
    · replace h := h.2 c5
      refine jw_aload_n rfl rfl ?_
      refine jw_iload_n rfl rfl ?_
      refine jw_iload_n rfl rfl ?_
      refine jw_iload_n rfl rfl ?_
      refine jw_iadd rfl ?_
      refine jw_iconst rfl ?_
      refine jw_isub rfl ?_
      refine jw_virt (k := 2) (c := 19) (as := [.int (Int32.ofInt v3), .int (Int32.ofInt ((v3 + v2) - 1))]) rfl rfl rfl (Nat.le_of_ble_eq_true rfl) rfl (Nat.le_of_ble_eq_true rfl) rfl rfl (jz_cv ?_)
      refine jm_Q.mono h (jp_v_mono (fun J6 K7 h => ?_))
      exact jz_fg (l := [some (.ref 167), some (.int (Int32.ofInt v1)), some (.int (Int32.ofInt v2)), some (.int (Int32.ofInt v3)), none, none]) ⟨rfl, rfl, rfl, rfl, jz_ni, jz_ni, trivial⟩ h
  · replace h := h.2 c3
    refine jw_iload rfl rfl ?_
    refine jw_aload_n rfl rfl ?_
    refine jw_gr (q := 194) rfl rfl rfl ?_
    refine jw_iload_n rfl rfl ?_
    refine jw_iload rfl rfl ?_
    refine jw_iadd rfl ?_
    obtain ⟨o8, h⟩ := h
    refine jw_iald (v := (J 194 (v3 + v5).toNat)) (N := 60) rfl rfl rfl (by omega) o8 rfl ?_
    refine jw_aload_n rfl rfl ?_
    refine jw_gr (q := 188) rfl rfl rfl ?_
    refine jw_iconst rfl ?_
    refine jw_iload_n rfl rfl ?_
    refine jw_imul rfl ?_
    refine jw_iload rfl rfl ?_
    refine jw_iadd rfl ?_
    obtain ⟨o9, h⟩ := h
    refine jw_iald (v := (J 188 ((4 * v1) + v5).toNat)) (N := 96) rfl rfl rfl (by omega) o9 rfl ?_
    refine jw_ishr rfl ?_
    refine jw_iconst rfl ?_
    refine jw_iand rfl ?_
    refine jw_iconst rfl ?_
    refine jw_ic_ne rfl jz_and_r (by omega) (fun c10 => ?_) (fun c10 => ?_)
    · replace h := h.1 c10
      refine jw_iconst rfl ?_
      refine jw_iand rfl ?_
      refine jw_istore (ls' := [some (.ref 167), some (.int (Int32.ofInt v1)), some (.int (Int32.ofInt v2)), some (.int (Int32.ofInt v3)), some (.int (Int32.ofInt (jz_and v4 0))), some (.int (Int32.ofInt v5))]) rfl rfl ?_
      refine jw_iinc (ls' := [some (.ref 167), some (.int (Int32.ofInt v1)), some (.int (Int32.ofInt v2)), some (.int (Int32.ofInt v3)), some (.int (Int32.ofInt (jz_and v4 0))), some (.int (Int32.ofInt (v5 + 1)))]) rfl rfl rfl ?_
      refine jw_goto rfl ?_
      exact jz_fg (l := [some (.ref 167), some (.int (Int32.ofInt v1)), some (.int (Int32.ofInt v2)), some (.int (Int32.ofInt v3)), some (.int (Int32.ofInt (jz_and v4 0))), some (.int (Int32.ofInt (v5 + 1)))]) ⟨rfl, rfl, rfl, rfl, rfl, rfl, trivial⟩ h
    · replace h := h.2 c10
      refine jw_iconst rfl ?_
      refine jw_goto rfl ?_
      refine jw_iand rfl ?_
      refine jw_istore (ls' := [some (.ref 167), some (.int (Int32.ofInt v1)), some (.int (Int32.ofInt v2)), some (.int (Int32.ofInt v3)), some (.int (Int32.ofInt (jz_and v4 1))), some (.int (Int32.ofInt v5))]) rfl rfl ?_
      refine jw_iinc (ls' := [some (.ref 167), some (.int (Int32.ofInt v1)), some (.int (Int32.ofInt v2)), some (.int (Int32.ofInt v3)), some (.int (Int32.ofInt (jz_and v4 1))), some (.int (Int32.ofInt (v5 + 1)))]) rfl rfl rfl ?_
      refine jw_goto rfl ?_
      exact jz_fg (l := [some (.ref 167), some (.int (Int32.ofInt v1)), some (.int (Int32.ofInt v2)), some (.int (Int32.ofInt v3)), some (.int (Int32.ofInt (jz_and v4 1))), some (.int (Int32.ofInt (v5 + 1)))]) ⟨rfl, rfl, rfl, rfl, rfl, rfl, trivial⟩ h
set_option maxHeartbeats 4000000 in
theorem e_184_137 {xs : Nat → Int32} {L d : Nat} {v1 : Int} {v2 : Int} {v3 : Int} {J K : jZ} {P : jZ → jZ → Prop} (h : l_184_57 xs L d v1 v2 (v3 + 1) J K P) : l_184_137 xs L d v1 v2 v3 J K P := by
  unfold l_184_137
  refine jw_iinc (ls' := [some (.ref 167), some (.int (Int32.ofInt v1)), some (.int (Int32.ofInt v2)), some (.int (Int32.ofInt (v3 + 1))), none, none]) rfl rfl rfl ?_
  refine jw_goto rfl ?_
  exact jz_fg (l := [some (.ref 167), some (.int (Int32.ofInt v1)), some (.int (Int32.ofInt v2)), some (.int (Int32.ofInt (v3 + 1))), none, none]) ⟨rfl, rfl, rfl, rfl, jz_n0, jz_n0, trivial⟩ h
set_option maxHeartbeats 4000000 in
theorem e_185 {xs : Nat → Int32} {L d : Nat} {J K : jZ} {P : jZ → jZ → Prop} (h : l_185_2 xs L d 0 J K P) : q_185 xs L (d + 1) J K P := by
  unfold q_185
  refine jq_in (ls := [some (.ref 167), none]) rfl (Nat.le_of_ble_eq_true rfl) rfl ?_
  refine jw_iconst rfl ?_
  refine jw_istore_n (ls' := [some (.ref 167), some (.int (Int32.ofInt 0))]) rfl rfl ?_
  exact jz_fg (l := [some (.ref 167), some (.int (Int32.ofInt 0))]) ⟨rfl, rfl, trivial⟩ h
set_option maxHeartbeats 4000000 in
theorem e_185_2 {xs : Nat → Int32} {L d : Nat} {v1 : Int} {J K : jZ} {P : jZ → jZ → Prop} (h : (-2147483648 ≤ v1 ∧ v1 < 2147483648) ∧ (60 ≤ v1 → P J K) ∧ (v1 < 60 → ((0 : Int) ≤ v1 ∧ v1 < 60) ∧ l_185_2 xs L d (v1 + 1) (jm_up J 198 v1.toNat (-1)) K P)) : l_185_2 xs L d v1 J K P := by
  unfold l_185_2
  refine jw_iload_n rfl rfl ?_
  refine jw_bipush rfl (by decide) ?_
  obtain ⟨o1, h⟩ := h
  refine jw_ic_ge rfl o1 (by omega) (fun c2 => ?_) (fun c2 => ?_)
  · replace h := h.1 c2
    refine jw_vret rfl ?_
    exact h
  · replace h := h.2 c2
    refine jw_aload_n rfl rfl ?_
    refine jw_gr (q := 198) rfl rfl rfl ?_
    refine jw_iload_n rfl rfl ?_
    refine jw_iconst rfl ?_
    obtain ⟨o3, h⟩ := h
    refine jw_iast (N := 60) rfl rfl rfl (by omega) o3 ?_
    refine jw_iinc (ls' := [some (.ref 167), some (.int (Int32.ofInt (v1 + 1)))]) rfl rfl rfl ?_
    refine jw_goto rfl ?_
    exact jz_fg (l := [some (.ref 167), some (.int (Int32.ofInt (v1 + 1)))]) ⟨rfl, rfl, trivial⟩ h
set_option maxHeartbeats 4000000 in
theorem e_186 {xs : Nat → Int32} {L d : Nat} {v1 : Int} {v2 : Int} {J K : jZ} {P : jZ → jZ → Prop} (h : ((0 : Int) ≤ v1 ∧ v1 < 60) ∧ (-2147483648 ≤ J 198 v1.toNat ∧ J 198 v1.toNat < 2147483648) ∧ ((J 198 v1.toNat) = (-1) → P (jm_up J 198 v1.toNat v2) K) ∧ (¬ (J 198 v1.toNat) = (-1) → (-2147483648 ≤ v2 ∧ v2 < 2147483648) ∧ ((J 198 v1.toNat) ≤ v2 → P (jm_up J 198 v1.toNat (J 198 v1.toNat)) K) ∧ (v2 < (J 198 v1.toNat) → P (jm_up J 198 v1.toNat v2) K))) : q_186 xs L (d + 1) v1 v2 J K P := by
  unfold q_186
  refine jq_in (ls := [some (.ref 167), some (.int (Int32.ofInt v1)), some (.int (Int32.ofInt v2))]) rfl (Nat.le_of_ble_eq_true rfl) rfl ?_
  refine jw_aload_n rfl rfl ?_
  refine jw_gr (q := 198) rfl rfl rfl ?_
  refine jw_iload_n rfl rfl ?_
  refine jw_aload_n rfl rfl ?_
  refine jw_gr (q := 198) rfl rfl rfl ?_
  refine jw_iload_n rfl rfl ?_
  obtain ⟨o1, h⟩ := h
  refine jw_iald (v := (J 198 v1.toNat)) (N := 60) rfl rfl rfl (by omega) o1 rfl ?_
  refine jw_iconst rfl ?_
  obtain ⟨o2, h⟩ := h
  refine jw_ic_eq rfl o2 (by omega) (fun c3 => ?_) (fun c3 => ?_)
  · replace h := h.1 c3
    refine jw_iload_n rfl rfl ?_
    refine jw_goto rfl ?_
    refine jw_iast (N := 60) rfl rfl rfl (by omega) o1 ?_
    refine jw_vret rfl ?_
    exact h
  · replace h := h.2 c3
    refine jw_iload_n rfl rfl ?_
    refine jw_aload_n rfl rfl ?_
    refine jw_gr (q := 198) rfl rfl rfl ?_
    refine jw_iload_n rfl rfl ?_
    refine jw_iald (v := (J 198 v1.toNat)) (N := 60) rfl rfl rfl (by omega) o1 rfl ?_
    obtain ⟨o4, h⟩ := h
    refine jw_ic_ge rfl o4 o2 (fun c5 => ?_) (fun c5 => ?_)
    · replace h := h.1 c5
      refine jw_aload_n rfl rfl ?_
      refine jw_gr (q := 198) rfl rfl rfl ?_
      refine jw_iload_n rfl rfl ?_
      refine jw_iald (v := (J 198 v1.toNat)) (N := 60) rfl rfl rfl (by omega) o1 rfl ?_
      refine jw_iast (N := 60) rfl rfl rfl (by omega) o1 ?_
      refine jw_vret rfl ?_
      exact h
    · replace h := h.2 c5
      refine jw_iload_n rfl rfl ?_
      refine jw_goto rfl ?_
      refine jw_iast (N := 60) rfl rfl rfl (by omega) o1 ?_
      refine jw_vret rfl ?_
      exact h
set_option maxHeartbeats 4000000 in
theorem e_187 {xs : Nat → Int32} {L d : Nat} {v1 : Int} {J K : jZ} {P : jZ → jZ → Prop} (h : l_187_6 xs L d v1 60 59 J K P) : q_187 xs L (d + 1) v1 J K P := by
  unfold q_187
  refine jq_in (ls := [some (.ref 167), some (.int (Int32.ofInt v1)), none, none]) rfl (Nat.le_of_ble_eq_true rfl) rfl ?_
  refine jw_bipush rfl (by decide) ?_
  refine jw_istore_n (ls' := [some (.ref 167), some (.int (Int32.ofInt v1)), some (.int (Int32.ofInt 60)), none]) rfl rfl ?_
  refine jw_bipush rfl (by decide) ?_
  refine jw_istore_n (ls' := [some (.ref 167), some (.int (Int32.ofInt v1)), some (.int (Int32.ofInt 60)), some (.int (Int32.ofInt 59))]) rfl rfl ?_
  exact jz_fg (l := [some (.ref 167), some (.int (Int32.ofInt v1)), some (.int (Int32.ofInt 60)), some (.int (Int32.ofInt 59))]) ⟨rfl, rfl, rfl, rfl, trivial⟩ h
set_option maxHeartbeats 4000000 in
theorem e_187_6 {xs : Nat → Int32} {L d : Nat} {v1 : Int} {v2 : Int} {v3 : Int} {J K : jZ} {P : jZ → jZ → Prop} (h : (-2147483648 ≤ v3 ∧ v3 < 2147483648) ∧ (v3 < 0 → ((0 : Int) ≤ v1 ∧ v1 < 27) ∧ l_187_62 xs L d v1 0 (jm_up J 195 v1.toNat 0) K P) ∧ (0 ≤ v3 → ((0 : Int) ≤ v3 ∧ v3 < 60) ∧ (-2147483648 ≤ J 198 v3.toNat ∧ J 198 v3.toNat < 2147483648) ∧ ((J 198 v3.toNat) = (-1) → l_187_6 xs L d v1 v2 (v3 + (-1)) (jm_up J 198 v3.toNat (-1)) K P) ∧ (¬ (J 198 v3.toNat) = (-1) → (-2147483648 ≤ v2 ∧ v2 < 2147483648) ∧ (v2 ≤ (J 198 v3.toNat) → l_187_6 xs L d v1 v2 (v3 + (-1)) (jm_up J 198 v3.toNat (-1)) K P) ∧ ((J 198 v3.toNat) < v2 → l_187_6 xs L d v1 (J 198 v3.toNat) (v3 + (-1)) J K P)))) : l_187_6 xs L d v1 v2 v3 J K P := by
  unfold l_187_6
  refine jw_iload_n rfl rfl ?_
  obtain ⟨o1, h⟩ := h
  refine jw_if_lt rfl o1 (fun c2 => ?_) (fun c2 => ?_)
  · replace h := h.1 c2
    refine jw_aload_n rfl rfl ?_
    refine jw_gr (q := 195) rfl rfl rfl ?_
    refine jw_iload_n rfl rfl ?_
    refine jw_iconst rfl ?_
    obtain ⟨o3, h⟩ := h
    refine jw_iast (N := 27) rfl rfl rfl (by omega) o3 ?_
    refine jw_iconst rfl ?_
    refine jw_istore_n (ls' := [some (.ref 167), some (.int (Int32.ofInt v1)), some (.int (Int32.ofInt v2)), some (.int (Int32.ofInt 0))]) rfl rfl ?_
    exact jz_fg (l := [some (.ref 167), some (.int (Int32.ofInt v1)), none, some (.int (Int32.ofInt 0))]) ⟨rfl, rfl, jz_ni, rfl, trivial⟩ h
  · replace h := h.2 c2
    refine jw_aload_n rfl rfl ?_
    refine jw_gr (q := 198) rfl rfl rfl ?_
    refine jw_iload_n rfl rfl ?_
    obtain ⟨o4, h⟩ := h
    refine jw_iald (v := (J 198 v3.toNat)) (N := 60) rfl rfl rfl (by omega) o4 rfl ?_
    refine jw_iconst rfl ?_
    obtain ⟨o5, h⟩ := h
    refine jw_ic_eq rfl o5 (by omega) (fun c6 => ?_) (fun c6 => ?_)
    · replace h := h.1 c6
      refine jw_aload_n rfl rfl ?_
      refine jw_gr (q := 198) rfl rfl rfl ?_
      refine jw_iload_n rfl rfl ?_
      refine jw_iconst rfl ?_
      refine jw_iast (N := 60) rfl rfl rfl (by omega) o4 ?_
      refine jw_iinc (ls' := [some (.ref 167), some (.int (Int32.ofInt v1)), some (.int (Int32.ofInt v2)), some (.int (Int32.ofInt (v3 + (-1))))]) rfl rfl rfl ?_
      refine jw_goto rfl ?_
      exact jz_fg (l := [some (.ref 167), some (.int (Int32.ofInt v1)), some (.int (Int32.ofInt v2)), some (.int (Int32.ofInt (v3 + (-1))))]) ⟨rfl, rfl, rfl, rfl, trivial⟩ h
    · replace h := h.2 c6
      refine jw_aload_n rfl rfl ?_
      refine jw_gr (q := 198) rfl rfl rfl ?_
      refine jw_iload_n rfl rfl ?_
      refine jw_iald (v := (J 198 v3.toNat)) (N := 60) rfl rfl rfl (by omega) o4 rfl ?_
      refine jw_iload_n rfl rfl ?_
      obtain ⟨o7, h⟩ := h
      refine jw_ic_ge rfl o5 o7 (fun c8 => ?_) (fun c8 => ?_)
      · replace h := h.1 c8
        refine jw_aload_n rfl rfl ?_
        refine jw_gr (q := 198) rfl rfl rfl ?_
        refine jw_iload_n rfl rfl ?_
        refine jw_iconst rfl ?_
        refine jw_iast (N := 60) rfl rfl rfl (by omega) o4 ?_
        refine jw_iinc (ls' := [some (.ref 167), some (.int (Int32.ofInt v1)), some (.int (Int32.ofInt v2)), some (.int (Int32.ofInt (v3 + (-1))))]) rfl rfl rfl ?_
        refine jw_goto rfl ?_
        exact jz_fg (l := [some (.ref 167), some (.int (Int32.ofInt v1)), some (.int (Int32.ofInt v2)), some (.int (Int32.ofInt (v3 + (-1))))]) ⟨rfl, rfl, rfl, rfl, trivial⟩ h
      · replace h := h.2 c8
        refine jw_aload_n rfl rfl ?_
        refine jw_gr (q := 198) rfl rfl rfl ?_
        refine jw_iload_n rfl rfl ?_
        refine jw_iald (v := (J 198 v3.toNat)) (N := 60) rfl rfl rfl (by omega) o4 rfl ?_
        refine jw_istore_n (ls' := [some (.ref 167), some (.int (Int32.ofInt v1)), some (.int (Int32.ofInt (J 198 v3.toNat))), some (.int (Int32.ofInt v3))]) rfl rfl ?_
        refine jw_goto rfl ?_
        refine jw_iinc (ls' := [some (.ref 167), some (.int (Int32.ofInt v1)), some (.int (Int32.ofInt (J 198 v3.toNat))), some (.int (Int32.ofInt (v3 + (-1))))]) rfl rfl rfl ?_
        refine jw_goto rfl ?_
        exact jz_fg (l := [some (.ref 167), some (.int (Int32.ofInt v1)), some (.int (Int32.ofInt (J 198 v3.toNat))), some (.int (Int32.ofInt (v3 + (-1))))]) ⟨rfl, rfl, rfl, rfl, trivial⟩ h
set_option maxHeartbeats 4000000 in
theorem e_187_62 {xs : Nat → Int32} {L d : Nat} {v1 : Int} {v3 : Int} {J K : jZ} {P : jZ → jZ → Prop} (h : (-2147483648 ≤ v3 ∧ v3 < 2147483648) ∧ (60 ≤ v3 → P J K) ∧ (v3 < 60 → ((0 : Int) ≤ v3 ∧ v3 < 60) ∧ (-2147483648 ≤ J 198 v3.toNat ∧ J 198 v3.toNat < 2147483648) ∧ ((J 198 v3.toNat) = (-1) → l_187_62 xs L d v1 (v3 + 1) J K P) ∧ (¬ (J 198 v3.toNat) = (-1) → ((0 : Int) ≤ v1 ∧ v1 < 27) ∧ ((0 : Int) ≤ ((v1 * 60) + (J 195 v1.toNat)) ∧ ((v1 * 60) + (J 195 v1.toNat)) < 1620) ∧ l_187_62 xs L d v1 (v3 + 1) (jm_up (jm_up (jm_up J 196 ((v1 * 60) + (J 195 v1.toNat)).toNat v3) 197 ((v1 * 60) + (J 195 v1.toNat)).toNat (J 198 v3.toNat)) 195 v1.toNat ((J 195 v1.toNat) + 1)) K P))) : l_187_62 xs L d v1 v3 J K P := by
  unfold l_187_62
  refine jw_iload_n rfl rfl ?_
  refine jw_bipush rfl (by decide) ?_
  obtain ⟨o1, h⟩ := h
  refine jw_ic_ge rfl o1 (by omega) (fun c2 => ?_) (fun c2 => ?_)
  · replace h := h.1 c2
    refine jw_vret rfl ?_
    exact h
  · replace h := h.2 c2
    refine jw_aload_n rfl rfl ?_
    refine jw_gr (q := 198) rfl rfl rfl ?_
    refine jw_iload_n rfl rfl ?_
    obtain ⟨o3, h⟩ := h
    refine jw_iald (v := (J 198 v3.toNat)) (N := 60) rfl rfl rfl (by omega) o3 rfl ?_
    refine jw_iconst rfl ?_
    obtain ⟨o4, h⟩ := h
    refine jw_ic_eq rfl o4 (by omega) (fun c5 => ?_) (fun c5 => ?_)
    · replace h := h.1 c5
      refine jw_iinc (ls' := [some (.ref 167), some (.int (Int32.ofInt v1)), none, some (.int (Int32.ofInt (v3 + 1)))]) rfl rfl rfl ?_
      refine jw_goto rfl ?_
      exact jz_fg (l := [some (.ref 167), some (.int (Int32.ofInt v1)), none, some (.int (Int32.ofInt (v3 + 1)))]) ⟨rfl, rfl, jz_n0, rfl, trivial⟩ h
    · replace h := h.2 c5
      refine jw_aload_n rfl rfl ?_
      refine jw_gr (q := 196) rfl rfl rfl ?_
      refine jw_iload_n rfl rfl ?_
      refine jw_bipush rfl (by decide) ?_
      refine jw_imul rfl ?_
      refine jw_aload_n rfl rfl ?_
      refine jw_gr (q := 195) rfl rfl rfl ?_
      refine jw_iload_n rfl rfl ?_
      obtain ⟨o6, h⟩ := h
      refine jw_iald (v := (J 195 v1.toNat)) (N := 27) rfl rfl rfl (by omega) o6 rfl ?_
      refine jw_iadd rfl ?_
      refine jw_iload_n rfl rfl ?_
      obtain ⟨o7, h⟩ := h
      refine jw_iast (N := 1620) rfl rfl rfl (by omega) o7 ?_
      refine jw_aload_n rfl rfl ?_
      refine jw_gr (q := 197) rfl rfl rfl ?_
      refine jw_iload_n rfl rfl ?_
      refine jw_bipush rfl (by decide) ?_
      refine jw_imul rfl ?_
      refine jw_aload_n rfl rfl ?_
      refine jw_gr (q := 195) rfl rfl rfl ?_
      refine jw_iload_n rfl rfl ?_
      refine jw_iald (v := (J 195 v1.toNat)) (N := 27) rfl rfl rfl (by omega) o6 (by simp [jm_up]) ?_
      refine jw_iadd rfl ?_
      refine jw_aload_n rfl rfl ?_
      refine jw_gr (q := 198) rfl rfl rfl ?_
      refine jw_iload_n rfl rfl ?_
      refine jw_iald (v := (J 198 v3.toNat)) (N := 60) rfl rfl rfl (by omega) o3 (by simp [jm_up]) ?_
      refine jw_iast (N := 1620) rfl rfl rfl (by omega) o7 ?_
      refine jw_aload_n rfl rfl ?_
      refine jw_gr (q := 195) rfl rfl rfl ?_
      refine jw_iload_n rfl rfl ?_
      refine jw_dup2 rfl ?_
      refine jw_iald (v := (J 195 v1.toNat)) (N := 27) rfl rfl rfl (by omega) o6 (by simp [jm_up]) ?_
      refine jw_iconst rfl ?_
      refine jw_iadd rfl ?_
      refine jw_iast (N := 27) rfl rfl rfl (by omega) o6 ?_
      refine jw_iinc (ls' := [some (.ref 167), some (.int (Int32.ofInt v1)), none, some (.int (Int32.ofInt (v3 + 1)))]) rfl rfl rfl ?_
      refine jw_goto rfl ?_
      exact jz_fg (l := [some (.ref 167), some (.int (Int32.ofInt v1)), none, some (.int (Int32.ofInt (v3 + 1)))]) ⟨rfl, rfl, jz_n0, rfl, trivial⟩ h
set_option maxHeartbeats 4000000 in
theorem e_188 {xs : Nat → Int32} {L d : Nat} {v1 : Int} {J K : jZ} {P : jZ → jZ → Prop} (h : q_185 xs L d J K (fun J1 K2 => ((0 : Int) ≤ (4 * v1) ∧ (4 * v1) < 96) ∧ l_188_18 xs L d v1 (J1 188 (4 * v1).toNat) 0 0 J1 K2 P)) : q_188 xs L (d + 1) v1 J K P := by
  unfold q_188
  refine jq_in (ls := [some (.ref 167), some (.int (Int32.ofInt v1)), none, none, none]) rfl (Nat.le_of_ble_eq_true rfl) rfl ?_
  refine jw_aload_n rfl rfl ?_
  refine jw_virt (k := 0) (c := 19) (as := []) rfl rfl rfl (Nat.le_of_ble_eq_true rfl) rfl (Nat.le_of_ble_eq_true rfl) rfl rfl (jz_cv ?_)
  refine jm_Q.mono h (jp_v_mono (fun J1 K2 h => ?_))
  refine jw_aload_n rfl rfl ?_
  refine jw_gr (q := 188) rfl rfl rfl ?_
  refine jw_iconst rfl ?_
  refine jw_iload_n rfl rfl ?_
  refine jw_imul rfl ?_
  obtain ⟨o3, h⟩ := h
  refine jw_iald (v := (J1 188 (4 * v1).toNat)) (N := 96) rfl rfl rfl (by omega) o3 rfl ?_
  refine jw_istore_n (ls' := [some (.ref 167), some (.int (Int32.ofInt v1)), some (.int (Int32.ofInt (J1 188 (4 * v1).toNat))), none, none]) rfl rfl ?_
  refine jw_iconst rfl ?_
  refine jw_istore_n (ls' := [some (.ref 167), some (.int (Int32.ofInt v1)), some (.int (Int32.ofInt (J1 188 (4 * v1).toNat))), some (.int (Int32.ofInt 0)), none]) rfl rfl ?_
  refine jw_iconst rfl ?_
  refine jw_istore (ls' := [some (.ref 167), some (.int (Int32.ofInt v1)), some (.int (Int32.ofInt (J1 188 (4 * v1).toNat))), some (.int (Int32.ofInt 0)), some (.int (Int32.ofInt 0))]) rfl rfl ?_
  exact jz_fg (l := [some (.ref 167), some (.int (Int32.ofInt v1)), some (.int (Int32.ofInt (J1 188 (4 * v1).toNat))), some (.int (Int32.ofInt 0)), some (.int (Int32.ofInt 0))]) ⟨rfl, rfl, rfl, rfl, rfl, trivial⟩ h
set_option maxHeartbeats 4000000 in
theorem e_188_18 {xs : Nat → Int32} {L d : Nat} {v1 : Int} {v2 : Int} {v3 : Int} {v4 : Int} {J K : jZ} {P : jZ → jZ → Prop} (h : (-2147483648 ≤ v4 ∧ v4 < 2147483648) ∧ (-2147483648 ≤ J 167 9 ∧ J 167 9 < 2147483648) ∧ ((J 167 9) ≤ v4 → q_187 xs L d v1 J K (fun J4 K5 => P J4 K5)) ∧ (v4 < (J 167 9) → (-2147483648 ≤ v2 ∧ v2 < 2147483648) ∧ (¬ v2 = 2 → q_189 xs L d v4 (v2 + 1) J K (fun r10 J8 K9 => (-2147483648 ≤ r10 ∧ r10 < 2147483648) ∧ (r10 = 0 → l_188_18 xs L d v1 v2 v3 (v4 + 1) J8 K9 P) ∧ (¬ r10 = 0 → q_186 xs L d v3 v4 J8 K9 (fun J13 K14 => l_188_18 xs L d v1 v2 (v4 + 1) (v4 + 1) J13 K14 P)))) ∧ (v2 = 2 → (-2147483648 ≤ ((J 167 9) - 1) ∧ ((J 167 9) - 1) < 2147483648) ∧ (¬ v4 = ((J 167 9) - 1) → l_188_18 xs L d v1 v2 v3 (v4 + 1) J K P) ∧ (v4 = ((J 167 9) - 1) → q_186 xs L d v3 v4 J K (fun J17 K18 => l_188_18 xs L d v1 v2 (v4 + 1) (v4 + 1) J17 K18 P))))) : l_188_18 xs L d v1 v2 v3 v4 J K P := by
  unfold l_188_18
  refine jw_iload rfl rfl ?_
  refine jw_aload_n rfl rfl ?_
  refine jw_gf (v := (J 167 9)) rfl (by decide) rfl rfl ?_
  obtain ⟨o1, h⟩ := h
  obtain ⟨o2, h⟩ := h
  refine jw_ic_ge rfl o1 o2 (fun c3 => ?_) (fun c3 => ?_)
  · replace h := h.1 c3
    refine jw_aload_n rfl rfl ?_
    refine jw_iload_n rfl rfl ?_
    refine jw_virt (k := 1) (c := 19) (as := [.int (Int32.ofInt v1)]) rfl rfl rfl (Nat.le_of_ble_eq_true rfl) rfl (Nat.le_of_ble_eq_true rfl) rfl rfl (jz_cv ?_)
    refine jm_Q.mono h (jp_v_mono (fun J4 K5 h => ?_))
    refine jw_vret rfl ?_
    exact h
  · replace h := h.2 c3
    refine jw_iload_n rfl rfl ?_
    refine jw_iconst rfl ?_
    obtain ⟨o6, h⟩ := h
    refine jw_ic_ne rfl o6 (by omega) (fun c7 => ?_) (fun c7 => ?_)
    · replace h := h.1 c7
      refine jw_aload_n rfl rfl ?_
      refine jw_iload rfl rfl ?_
      refine jw_iload_n rfl rfl ?_
      refine jw_iconst rfl ?_
      refine jw_iadd rfl ?_
      refine jw_virt (k := 2) (c := 19) (as := [.int (Int32.ofInt v4), .int (Int32.ofInt (v2 + 1))]) rfl rfl rfl (Nat.le_of_ble_eq_true rfl) rfl (Nat.le_of_ble_eq_true rfl) rfl rfl (jz_ci ?_)
      refine jm_Q.mono h (jp_i_mono (fun r10 J8 K9 h => ?_))
      obtain ⟨o11, h⟩ := h
      refine jw_if_eq rfl o11 (fun c12 => ?_) (fun c12 => ?_)
      · replace h := h.1 c12
        refine jw_iinc (ls' := [some (.ref 167), some (.int (Int32.ofInt v1)), some (.int (Int32.ofInt v2)), some (.int (Int32.ofInt v3)), some (.int (Int32.ofInt (v4 + 1)))]) rfl rfl rfl ?_
        refine jw_goto rfl ?_
        exact jz_fg (l := [some (.ref 167), some (.int (Int32.ofInt v1)), some (.int (Int32.ofInt v2)), some (.int (Int32.ofInt v3)), some (.int (Int32.ofInt (v4 + 1)))]) ⟨rfl, rfl, rfl, rfl, rfl, trivial⟩ h
      · replace h := h.2 c12
        refine jw_aload_n rfl rfl ?_
        refine jw_iload_n rfl rfl ?_
        refine jw_iload rfl rfl ?_
        refine jw_virt (k := 2) (c := 19) (as := [.int (Int32.ofInt v3), .int (Int32.ofInt v4)]) rfl rfl rfl (Nat.le_of_ble_eq_true rfl) rfl (Nat.le_of_ble_eq_true rfl) rfl rfl (jz_cv ?_)
        refine jm_Q.mono h (jp_v_mono (fun J13 K14 h => ?_))
        refine jw_iload rfl rfl ?_
        refine jw_iconst rfl ?_
        refine jw_iadd rfl ?_
        refine jw_istore_n (ls' := [some (.ref 167), some (.int (Int32.ofInt v1)), some (.int (Int32.ofInt v2)), some (.int (Int32.ofInt (v4 + 1))), some (.int (Int32.ofInt v4))]) rfl rfl ?_
        refine jw_iinc (ls' := [some (.ref 167), some (.int (Int32.ofInt v1)), some (.int (Int32.ofInt v2)), some (.int (Int32.ofInt (v4 + 1))), some (.int (Int32.ofInt (v4 + 1)))]) rfl rfl rfl ?_
        refine jw_goto rfl ?_
        exact jz_fg (l := [some (.ref 167), some (.int (Int32.ofInt v1)), some (.int (Int32.ofInt v2)), some (.int (Int32.ofInt (v4 + 1))), some (.int (Int32.ofInt (v4 + 1)))]) ⟨rfl, rfl, rfl, rfl, rfl, trivial⟩ h
    · replace h := h.2 c7
      refine jw_iload rfl rfl ?_
      refine jw_aload_n rfl rfl ?_
      refine jw_gf (v := (J 167 9)) rfl (by decide) rfl rfl ?_
      refine jw_iconst rfl ?_
      refine jw_isub rfl ?_
      obtain ⟨o15, h⟩ := h
      refine jw_ic_ne rfl o1 o15 (fun c16 => ?_) (fun c16 => ?_)
      · replace h := h.1 c16
        refine jw_iinc (ls' := [some (.ref 167), some (.int (Int32.ofInt v1)), some (.int (Int32.ofInt v2)), some (.int (Int32.ofInt v3)), some (.int (Int32.ofInt (v4 + 1)))]) rfl rfl rfl ?_
        refine jw_goto rfl ?_
        exact jz_fg (l := [some (.ref 167), some (.int (Int32.ofInt v1)), some (.int (Int32.ofInt v2)), some (.int (Int32.ofInt v3)), some (.int (Int32.ofInt (v4 + 1)))]) ⟨rfl, rfl, rfl, rfl, rfl, trivial⟩ h
      · replace h := h.2 c16
        refine jw_goto rfl ?_
        refine jw_aload_n rfl rfl ?_
        refine jw_iload_n rfl rfl ?_
        refine jw_iload rfl rfl ?_
        refine jw_virt (k := 2) (c := 19) (as := [.int (Int32.ofInt v3), .int (Int32.ofInt v4)]) rfl rfl rfl (Nat.le_of_ble_eq_true rfl) rfl (Nat.le_of_ble_eq_true rfl) rfl rfl (jz_cv ?_)
        refine jm_Q.mono h (jp_v_mono (fun J17 K18 h => ?_))
        refine jw_iload rfl rfl ?_
        refine jw_iconst rfl ?_
        refine jw_iadd rfl ?_
        refine jw_istore_n (ls' := [some (.ref 167), some (.int (Int32.ofInt v1)), some (.int (Int32.ofInt v2)), some (.int (Int32.ofInt (v4 + 1))), some (.int (Int32.ofInt v4))]) rfl rfl ?_
        refine jw_iinc (ls' := [some (.ref 167), some (.int (Int32.ofInt v1)), some (.int (Int32.ofInt v2)), some (.int (Int32.ofInt (v4 + 1))), some (.int (Int32.ofInt (v4 + 1)))]) rfl rfl rfl ?_
        refine jw_goto rfl ?_
        exact jz_fg (l := [some (.ref 167), some (.int (Int32.ofInt v1)), some (.int (Int32.ofInt v2)), some (.int (Int32.ofInt (v4 + 1))), some (.int (Int32.ofInt (v4 + 1)))]) ⟨rfl, rfl, rfl, rfl, rfl, trivial⟩ h
set_option maxHeartbeats 4000000 in
theorem e_189 {xs : Nat → Int32} {L d : Nat} {v1 : Int} {v2 : Int} {J K : jZ} {P : Int → jZ → jZ → Prop} (h : (-2147483648 ≤ v1 ∧ v1 < 2147483648) ∧ (-2147483648 ≤ ((J 167 9) - 1) ∧ ((J 167 9) - 1) < 2147483648) ∧ (v1 = ((J 167 9) - 1) → P 1 J K) ∧ (¬ v1 = ((J 167 9) - 1) → ((0 : Int) ≤ v1 ∧ v1 < 60) ∧ (-2147483648 ≤ J 185 v1.toNat ∧ J 185 v1.toNat < 2147483648) ∧ (-2147483648 ≤ v2 ∧ v2 < 2147483648) ∧ ((J 185 v1.toNat) < v2 → P 0 J K) ∧ (v2 ≤ (J 185 v1.toNat) → P 1 J K))) : q_189 xs L (d + 1) v1 v2 J K P := by
  unfold q_189
  refine jq_in (ls := [some (.ref 167), some (.int (Int32.ofInt v1)), some (.int (Int32.ofInt v2))]) rfl (Nat.le_of_ble_eq_true rfl) rfl ?_
  refine jw_iload_n rfl rfl ?_
  refine jw_aload_n rfl rfl ?_
  refine jw_gf (v := (J 167 9)) rfl (by decide) rfl rfl ?_
  refine jw_iconst rfl ?_
  refine jw_isub rfl ?_
  obtain ⟨o1, h⟩ := h
  obtain ⟨o2, h⟩ := h
  refine jw_ic_eq rfl o1 o2 (fun c3 => ?_) (fun c3 => ?_)
  · replace h := h.1 c3
    refine jw_iconst rfl ?_
    refine jw_goto rfl ?_
    refine jw_zret rfl (by omega) ?_
    exact h
  · replace h := h.2 c3
    refine jw_aload_n rfl rfl ?_
    refine jw_gr (q := 185) rfl rfl rfl ?_
    refine jw_iload_n rfl rfl ?_
    obtain ⟨o4, h⟩ := h
    refine jw_iald (v := (J 185 v1.toNat)) (N := 60) rfl rfl rfl (by omega) o4 rfl ?_
    refine jw_iload_n rfl rfl ?_
    obtain ⟨o5, h⟩ := h
    obtain ⟨o6, h⟩ := h
    refine jw_ic_lt rfl o5 o6 (fun c7 => ?_) (fun c7 => ?_)
    · replace h := h.1 c7
      refine jw_iconst rfl ?_
      refine jw_zret rfl (by omega) ?_
      exact h
    · replace h := h.2 c7
      refine jw_iconst rfl ?_
      refine jw_goto rfl ?_
      refine jw_zret rfl (by omega) ?_
      exact h
set_option maxHeartbeats 4000000 in
theorem e_190 {xs : Nat → Int32} {L d : Nat} {v1 : Int} {J K : jZ} {P : jZ → jZ → Prop} (h : ((0 : Int) ≤ (4 * v1) ∧ (4 * v1) < 96) ∧ q_185 xs L (d + 1) J K (fun J2 K3 => l_190_15 xs L (d + 1) v1 (J 188 (4 * v1).toNat) 0 J2 K3 P)) : q_190 xs L (d + 2) v1 J K P := by
  unfold q_190
  refine jq_in (ls := [some (.ref 167), some (.int (Int32.ofInt v1)), none, none]) rfl (Nat.le_of_ble_eq_true rfl) rfl ?_
  refine jw_aload_n rfl rfl ?_
  refine jw_gr (q := 188) rfl rfl rfl ?_
  refine jw_iconst rfl ?_
  refine jw_iload_n rfl rfl ?_
  refine jw_imul rfl ?_
  obtain ⟨o1, h⟩ := h
  refine jw_iald (v := (J 188 (4 * v1).toNat)) (N := 96) rfl rfl rfl (by omega) o1 rfl ?_
  refine jw_istore_n (ls' := [some (.ref 167), some (.int (Int32.ofInt v1)), some (.int (Int32.ofInt (J 188 (4 * v1).toNat))), none]) rfl rfl ?_
  refine jw_aload_n rfl rfl ?_
  refine jw_virt (k := 0) (c := 19) (as := []) rfl rfl rfl (Nat.le_of_ble_eq_true rfl) rfl (Nat.le_of_ble_eq_true rfl) rfl rfl (jz_cv ?_)
  refine jm_Q.mono h (jp_v_mono (fun J2 K3 h => ?_))
  refine jw_iconst rfl ?_
  refine jw_istore_n (ls' := [some (.ref 167), some (.int (Int32.ofInt v1)), some (.int (Int32.ofInt (J 188 (4 * v1).toNat))), some (.int (Int32.ofInt 0))]) rfl rfl ?_
  exact jz_fg (l := [some (.ref 167), some (.int (Int32.ofInt v1)), some (.int (Int32.ofInt (J 188 (4 * v1).toNat))), some (.int (Int32.ofInt 0))]) ⟨rfl, rfl, rfl, rfl, trivial⟩ h
set_option maxHeartbeats 4000000 in
theorem e_190_15 {xs : Nat → Int32} {L d : Nat} {v1 : Int} {v2 : Int} {v3 : Int} {J K : jZ} {P : jZ → jZ → Prop} (h : ((0 : Int) ≤ v2 ∧ v2 < 27) ∧ (-2147483648 ≤ v3 ∧ v3 < 2147483648) ∧ (-2147483648 ≤ J 195 v2.toNat ∧ J 195 v2.toNat < 2147483648) ∧ ((J 195 v2.toNat) ≤ v3 → q_187 xs L (d + 1) v1 J K (fun J5 K6 => P J5 K6)) ∧ (v3 < (J 195 v2.toNat) → ((0 : Int) ≤ ((v2 * 60) + v3) ∧ ((v2 * 60) + v3) < 1620) ∧ ((0 : Int) ≤ ((4 * v1) + 1) ∧ ((4 * v1) + 1) < 96) ∧ (-2147483648 ≤ ((J 197 ((v2 * 60) + v3).toNat) - (J 196 ((v2 * 60) + v3).toNat)) ∧ ((J 197 ((v2 * 60) + v3).toNat) - (J 196 ((v2 * 60) + v3).toNat)) < 2147483648) ∧ (-2147483648 ≤ J 188 ((4 * v1) + 1).toNat ∧ J 188 ((4 * v1) + 1).toNat < 2147483648) ∧ ((J 188 ((4 * v1) + 1).toNat) ≤ ((J 197 ((v2 * 60) + v3).toNat) - (J 196 ((v2 * 60) + v3).toNat)) → l_190_15 xs L (d + 1) v1 v2 (v3 + 1) J K P) ∧ (((J 197 ((v2 * 60) + v3).toNat) - (J 196 ((v2 * 60) + v3).toNat)) < (J 188 ((4 * v1) + 1).toNat) → q_186 xs L (d + 1) (J 196 ((v2 * 60) + v3).toNat) (J 197 ((v2 * 60) + v3).toNat) J K (fun J12 K13 => l_190_15 xs L (d + 1) v1 v2 (v3 + 1) J12 K13 P)))) : l_190_15 xs L (d + 1) v1 v2 v3 J K P := by
  unfold l_190_15
  refine jw_iload_n rfl rfl ?_
  refine jw_aload_n rfl rfl ?_
  refine jw_gr (q := 195) rfl rfl rfl ?_
  refine jw_iload_n rfl rfl ?_
  obtain ⟨o1, h⟩ := h
  refine jw_iald (v := (J 195 v2.toNat)) (N := 27) rfl rfl rfl (by omega) o1 rfl ?_
  obtain ⟨o2, h⟩ := h
  obtain ⟨o3, h⟩ := h
  refine jw_ic_ge rfl o2 o3 (fun c4 => ?_) (fun c4 => ?_)
  · replace h := h.1 c4
    refine jw_aload_n rfl rfl ?_
    refine jw_iload_n rfl rfl ?_
    refine jw_virt (k := 1) (c := 19) (as := [.int (Int32.ofInt v1)]) rfl rfl rfl (Nat.le_of_ble_eq_true rfl) rfl (Nat.le_of_ble_eq_true rfl) rfl rfl (jz_cv ?_)
    refine jm_Q.mono h (jp_v_mono (fun J5 K6 h => ?_))
    refine jw_vret rfl ?_
    exact h
  · replace h := h.2 c4
    refine jw_aload_n rfl rfl ?_
    refine jw_iload_n rfl rfl ?_
    refine jw_iload_n rfl rfl ?_
    refine jw_virt (k := 2) (c := 19) (as := [.int (Int32.ofInt v2), .int (Int32.ofInt v3)]) rfl rfl rfl (Nat.le_of_ble_eq_true rfl) rfl (Nat.le_of_ble_eq_true rfl) rfl rfl (jz_ci ?_)
    refine jq_in (ls := [some (.ref 167), some (.int (Int32.ofInt v2)), some (.int (Int32.ofInt v3))]) rfl (Nat.le_of_ble_eq_true rfl) rfl ?_
    refine jw_aload_n rfl rfl ?_
    refine jw_gr (q := 197) rfl rfl rfl ?_
    refine jw_iload_n rfl rfl ?_
    refine jw_bipush rfl (by decide) ?_
    refine jw_imul rfl ?_
    refine jw_iload_n rfl rfl ?_
    refine jw_iadd rfl ?_
    obtain ⟨o7, h⟩ := h
    refine jw_iald (v := (J 197 ((v2 * 60) + v3).toNat)) (N := 1620) rfl rfl rfl (by omega) o7 rfl ?_
    refine jw_iret rfl ?_
    refine jw_aload_n rfl rfl ?_
    refine jw_iload_n rfl rfl ?_
    refine jw_iload_n rfl rfl ?_
    refine jw_virt (k := 2) (c := 19) (as := [.int (Int32.ofInt v2), .int (Int32.ofInt v3)]) rfl rfl rfl (Nat.le_of_ble_eq_true rfl) rfl (Nat.le_of_ble_eq_true rfl) rfl rfl (jz_ci ?_)
    refine jq_in (ls := [some (.ref 167), some (.int (Int32.ofInt v2)), some (.int (Int32.ofInt v3))]) rfl (Nat.le_of_ble_eq_true rfl) rfl ?_
    refine jw_aload_n rfl rfl ?_
    refine jw_gr (q := 196) rfl rfl rfl ?_
    refine jw_iload_n rfl rfl ?_
    refine jw_bipush rfl (by decide) ?_
    refine jw_imul rfl ?_
    refine jw_iload_n rfl rfl ?_
    refine jw_iadd rfl ?_
    refine jw_iald (v := (J 196 ((v2 * 60) + v3).toNat)) (N := 1620) rfl rfl rfl (by omega) o7 rfl ?_
    refine jw_iret rfl ?_
    refine jw_isub rfl ?_
    refine jw_aload_n rfl rfl ?_
    refine jw_gr (q := 188) rfl rfl rfl ?_
    refine jw_iconst rfl ?_
    refine jw_iload_n rfl rfl ?_
    refine jw_imul rfl ?_
    refine jw_iconst rfl ?_
    refine jw_iadd rfl ?_
    obtain ⟨o8, h⟩ := h
    refine jw_iald (v := (J 188 ((4 * v1) + 1).toNat)) (N := 96) rfl rfl rfl (by omega) o8 rfl ?_
    obtain ⟨o9, h⟩ := h
    obtain ⟨o10, h⟩ := h
    refine jw_ic_ge rfl o9 o10 (fun c11 => ?_) (fun c11 => ?_)
    · replace h := h.1 c11
      refine jw_iinc (ls' := [some (.ref 167), some (.int (Int32.ofInt v1)), some (.int (Int32.ofInt v2)), some (.int (Int32.ofInt (v3 + 1)))]) rfl rfl rfl ?_
      refine jw_goto rfl ?_
      exact jz_fg (l := [some (.ref 167), some (.int (Int32.ofInt v1)), some (.int (Int32.ofInt v2)), some (.int (Int32.ofInt (v3 + 1)))]) ⟨rfl, rfl, rfl, rfl, trivial⟩ h
    · replace h := h.2 c11
      refine jw_aload_n rfl rfl ?_
      refine jw_aload_n rfl rfl ?_
      refine jw_iload_n rfl rfl ?_
      refine jw_iload_n rfl rfl ?_
      refine jw_virt (k := 2) (c := 19) (as := [.int (Int32.ofInt v2), .int (Int32.ofInt v3)]) rfl rfl rfl (Nat.le_of_ble_eq_true rfl) rfl (Nat.le_of_ble_eq_true rfl) rfl rfl (jz_ci ?_)
      refine jq_in (ls := [some (.ref 167), some (.int (Int32.ofInt v2)), some (.int (Int32.ofInt v3))]) rfl (Nat.le_of_ble_eq_true rfl) rfl ?_
      refine jw_aload_n rfl rfl ?_
      refine jw_gr (q := 196) rfl rfl rfl ?_
      refine jw_iload_n rfl rfl ?_
      refine jw_bipush rfl (by decide) ?_
      refine jw_imul rfl ?_
      refine jw_iload_n rfl rfl ?_
      refine jw_iadd rfl ?_
      refine jw_iald (v := (J 196 ((v2 * 60) + v3).toNat)) (N := 1620) rfl rfl rfl (by omega) o7 rfl ?_
      refine jw_iret rfl ?_
      refine jw_aload_n rfl rfl ?_
      refine jw_iload_n rfl rfl ?_
      refine jw_iload_n rfl rfl ?_
      refine jw_virt (k := 2) (c := 19) (as := [.int (Int32.ofInt v2), .int (Int32.ofInt v3)]) rfl rfl rfl (Nat.le_of_ble_eq_true rfl) rfl (Nat.le_of_ble_eq_true rfl) rfl rfl (jz_ci ?_)
      refine jq_in (ls := [some (.ref 167), some (.int (Int32.ofInt v2)), some (.int (Int32.ofInt v3))]) rfl (Nat.le_of_ble_eq_true rfl) rfl ?_
      refine jw_aload_n rfl rfl ?_
      refine jw_gr (q := 197) rfl rfl rfl ?_
      refine jw_iload_n rfl rfl ?_
      refine jw_bipush rfl (by decide) ?_
      refine jw_imul rfl ?_
      refine jw_iload_n rfl rfl ?_
      refine jw_iadd rfl ?_
      refine jw_iald (v := (J 197 ((v2 * 60) + v3).toNat)) (N := 1620) rfl rfl rfl (by omega) o7 rfl ?_
      refine jw_iret rfl ?_
      refine jw_virt (k := 2) (c := 19) (as := [.int (Int32.ofInt (J 196 ((v2 * 60) + v3).toNat)), .int (Int32.ofInt (J 197 ((v2 * 60) + v3).toNat))]) rfl rfl rfl (Nat.le_of_ble_eq_true rfl) rfl (Nat.le_of_ble_eq_true rfl) rfl rfl (jz_cv ?_)
      refine jm_Q.mono h (jp_v_mono (fun J12 K13 h => ?_))
      refine jw_iinc (ls' := [some (.ref 167), some (.int (Int32.ofInt v1)), some (.int (Int32.ofInt v2)), some (.int (Int32.ofInt (v3 + 1)))]) rfl rfl rfl ?_
      refine jw_goto rfl ?_
      exact jz_fg (l := [some (.ref 167), some (.int (Int32.ofInt v1)), some (.int (Int32.ofInt v2)), some (.int (Int32.ofInt (v3 + 1)))]) ⟨rfl, rfl, rfl, rfl, trivial⟩ h
set_option maxHeartbeats 4000000 in
theorem e_191 {xs : Nat → Int32} {L d : Nat} {v1 : Int} {v2 : Int} {J K : jZ} {P : Int → jZ → jZ → Prop} (h : ((0 : Int) ≤ ((v1 * 60) + v2) ∧ ((v1 * 60) + v2) < 1620) ∧ P (J 197 ((v1 * 60) + v2).toNat) J K) : q_191 xs L (d + 1) v1 v2 J K P := by
  unfold q_191
  refine jq_in (ls := [some (.ref 167), some (.int (Int32.ofInt v1)), some (.int (Int32.ofInt v2))]) rfl (Nat.le_of_ble_eq_true rfl) rfl ?_
  refine jw_aload_n rfl rfl ?_
  refine jw_gr (q := 197) rfl rfl rfl ?_
  refine jw_iload_n rfl rfl ?_
  refine jw_bipush rfl (by decide) ?_
  refine jw_imul rfl ?_
  refine jw_iload_n rfl rfl ?_
  refine jw_iadd rfl ?_
  obtain ⟨o1, h⟩ := h
  refine jw_iald (v := (J 197 ((v1 * 60) + v2).toNat)) (N := 1620) rfl rfl rfl (by omega) o1 rfl ?_
  refine jw_iret rfl ?_
  exact h
set_option maxHeartbeats 4000000 in
theorem e_192 {xs : Nat → Int32} {L d : Nat} {v1 : Int} {v2 : Int} {J K : jZ} {P : Int → jZ → jZ → Prop} (h : ((0 : Int) ≤ ((v1 * 60) + v2) ∧ ((v1 * 60) + v2) < 1620) ∧ P (J 196 ((v1 * 60) + v2).toNat) J K) : q_192 xs L (d + 1) v1 v2 J K P := by
  unfold q_192
  refine jq_in (ls := [some (.ref 167), some (.int (Int32.ofInt v1)), some (.int (Int32.ofInt v2))]) rfl (Nat.le_of_ble_eq_true rfl) rfl ?_
  refine jw_aload_n rfl rfl ?_
  refine jw_gr (q := 196) rfl rfl rfl ?_
  refine jw_iload_n rfl rfl ?_
  refine jw_bipush rfl (by decide) ?_
  refine jw_imul rfl ?_
  refine jw_iload_n rfl rfl ?_
  refine jw_iadd rfl ?_
  obtain ⟨o1, h⟩ := h
  refine jw_iald (v := (J 196 ((v1 * 60) + v2).toNat)) (N := 1620) rfl rfl rfl (by omega) o1 rfl ?_
  refine jw_iret rfl ?_
  exact h
set_option maxHeartbeats 4000000 in
theorem e_193 {xs : Nat → Int32} {L d : Nat} {v1 : Int} {J K : jZ} {P : jZ → jZ → Prop} (h : ((0 : Int) ≤ (4 * v1) ∧ (4 * v1) < 96) ∧ ((0 : Int) ≤ ((4 * v1) + 1) ∧ ((4 * v1) + 1) < 96) ∧ ((0 : Int) ≤ ((4 * v1) + 2) ∧ ((4 * v1) + 2) < 96) ∧ ((0 : Int) ≤ ((4 * v1) + 3) ∧ ((4 * v1) + 3) < 96) ∧ (-2147483648 ≤ J 188 ((4 * v1) + 3).toNat ∧ J 188 ((4 * v1) + 3).toNat < 2147483648) ∧ (¬ (J 188 ((4 * v1) + 3).toNat) = 3 → q_185 xs L d J K (fun J7 K8 => (¬ (J 188 ((4 * v1) + 3).toNat) = 1 → q_196 xs L d 3 (J 188 (4 * v1).toNat) (J 188 ((4 * v1) + 1).toNat) J7 K8 (fun J10 K11 => q_196 xs L d 3 (J 188 (4 * v1).toNat) (J 188 ((4 * v1) + 2).toNat) J10 K11 (fun J12 K13 => q_196 xs L d 3 (J 188 ((4 * v1) + 1).toNat) (J 188 ((4 * v1) + 2).toNat) J12 K13 (fun J14 K15 => l_193_122 xs L d v1 J14 K15 P)))) ∧ ((J 188 ((4 * v1) + 3).toNat) = 1 → q_195 xs L d (J 188 (4 * v1).toNat) J7 K8 (fun J16 K17 => q_195 xs L d (J 188 ((4 * v1) + 1).toNat) J16 K17 (fun J18 K19 => q_195 xs L d (J 188 ((4 * v1) + 2).toNat) J18 K19 (fun J20 K21 => l_193_122 xs L d v1 J20 K21 P)))))) ∧ ((J 188 ((4 * v1) + 3).toNat) = 3 → q_194 xs L d 25 3 (J 188 (4 * v1).toNat) (J 188 ((4 * v1) + 1).toNat) J K (fun J22 K23 => q_194 xs L d v1 3 25 (J 188 ((4 * v1) + 2).toNat) J22 K23 (fun J24 K25 => P J24 K25)))) : q_193 xs L (d + 1) v1 J K P := by
  unfold q_193
  refine jq_in (ls := [some (.ref 167), some (.int (Int32.ofInt v1)), none, none, none, none]) rfl (Nat.le_of_ble_eq_true rfl) rfl ?_
  refine jw_aload_n rfl rfl ?_
  refine jw_gr (q := 188) rfl rfl rfl ?_
  refine jw_iconst rfl ?_
  refine jw_iload_n rfl rfl ?_
  refine jw_imul rfl ?_
  obtain ⟨o1, h⟩ := h
  refine jw_iald (v := (J 188 (4 * v1).toNat)) (N := 96) rfl rfl rfl (by omega) o1 rfl ?_
  refine jw_istore_n (ls' := [some (.ref 167), some (.int (Int32.ofInt v1)), some (.int (Int32.ofInt (J 188 (4 * v1).toNat))), none, none, none]) rfl rfl ?_
  refine jw_aload_n rfl rfl ?_
  refine jw_gr (q := 188) rfl rfl rfl ?_
  refine jw_iconst rfl ?_
  refine jw_iload_n rfl rfl ?_
  refine jw_imul rfl ?_
  refine jw_iconst rfl ?_
  refine jw_iadd rfl ?_
  obtain ⟨o2, h⟩ := h
  refine jw_iald (v := (J 188 ((4 * v1) + 1).toNat)) (N := 96) rfl rfl rfl (by omega) o2 rfl ?_
  refine jw_istore_n (ls' := [some (.ref 167), some (.int (Int32.ofInt v1)), some (.int (Int32.ofInt (J 188 (4 * v1).toNat))), some (.int (Int32.ofInt (J 188 ((4 * v1) + 1).toNat))), none, none]) rfl rfl ?_
  refine jw_aload_n rfl rfl ?_
  refine jw_gr (q := 188) rfl rfl rfl ?_
  refine jw_iconst rfl ?_
  refine jw_iload_n rfl rfl ?_
  refine jw_imul rfl ?_
  refine jw_iconst rfl ?_
  refine jw_iadd rfl ?_
  obtain ⟨o3, h⟩ := h
  refine jw_iald (v := (J 188 ((4 * v1) + 2).toNat)) (N := 96) rfl rfl rfl (by omega) o3 rfl ?_
  refine jw_istore (ls' := [some (.ref 167), some (.int (Int32.ofInt v1)), some (.int (Int32.ofInt (J 188 (4 * v1).toNat))), some (.int (Int32.ofInt (J 188 ((4 * v1) + 1).toNat))), some (.int (Int32.ofInt (J 188 ((4 * v1) + 2).toNat))), none]) rfl rfl ?_
  refine jw_aload_n rfl rfl ?_
  refine jw_gr (q := 188) rfl rfl rfl ?_
  refine jw_iconst rfl ?_
  refine jw_iload_n rfl rfl ?_
  refine jw_imul rfl ?_
  refine jw_iconst rfl ?_
  refine jw_iadd rfl ?_
  obtain ⟨o4, h⟩ := h
  refine jw_iald (v := (J 188 ((4 * v1) + 3).toNat)) (N := 96) rfl rfl rfl (by omega) o4 rfl ?_
  refine jw_istore (ls' := [some (.ref 167), some (.int (Int32.ofInt v1)), some (.int (Int32.ofInt (J 188 (4 * v1).toNat))), some (.int (Int32.ofInt (J 188 ((4 * v1) + 1).toNat))), some (.int (Int32.ofInt (J 188 ((4 * v1) + 2).toNat))), some (.int (Int32.ofInt (J 188 ((4 * v1) + 3).toNat)))]) rfl rfl ?_
  refine jw_iload rfl rfl ?_
  refine jw_iconst rfl ?_
  obtain ⟨o5, h⟩ := h
  refine jw_ic_ne rfl o5 (by omega) (fun c6 => ?_) (fun c6 => ?_)
  · replace h := h.1 c6
    refine jw_aload_n rfl rfl ?_
    refine jw_virt (k := 0) (c := 19) (as := []) rfl rfl rfl (Nat.le_of_ble_eq_true rfl) rfl (Nat.le_of_ble_eq_true rfl) rfl rfl (jz_cv ?_)
    refine jm_Q.mono h (jp_v_mono (fun J7 K8 h => ?_))
    refine jw_iload rfl rfl ?_
    refine jw_iconst rfl ?_
    refine jw_ic_ne rfl o5 (by omega) (fun c9 => ?_) (fun c9 => ?_)
    · replace h := h.1 c9
      refine jw_aload_n rfl rfl ?_
      refine jw_iconst rfl ?_
      refine jw_iload_n rfl rfl ?_
      refine jw_iload_n rfl rfl ?_
      refine jw_virt (k := 3) (c := 19) (as := [.int (Int32.ofInt 3), .int (Int32.ofInt (J 188 (4 * v1).toNat)), .int (Int32.ofInt (J 188 ((4 * v1) + 1).toNat))]) rfl rfl rfl (Nat.le_of_ble_eq_true rfl) rfl (Nat.le_of_ble_eq_true rfl) rfl rfl (jz_cv ?_)
      refine jm_Q.mono h (jp_v_mono (fun J10 K11 h => ?_))
      refine jw_aload_n rfl rfl ?_
      refine jw_iconst rfl ?_
      refine jw_iload_n rfl rfl ?_
      refine jw_iload rfl rfl ?_
      refine jw_virt (k := 3) (c := 19) (as := [.int (Int32.ofInt 3), .int (Int32.ofInt (J 188 (4 * v1).toNat)), .int (Int32.ofInt (J 188 ((4 * v1) + 2).toNat))]) rfl rfl rfl (Nat.le_of_ble_eq_true rfl) rfl (Nat.le_of_ble_eq_true rfl) rfl rfl (jz_cv ?_)
      refine jm_Q.mono h (jp_v_mono (fun J12 K13 h => ?_))
      refine jw_aload_n rfl rfl ?_
      refine jw_iconst rfl ?_
      refine jw_iload_n rfl rfl ?_
      refine jw_iload rfl rfl ?_
      refine jw_virt (k := 3) (c := 19) (as := [.int (Int32.ofInt 3), .int (Int32.ofInt (J 188 ((4 * v1) + 1).toNat)), .int (Int32.ofInt (J 188 ((4 * v1) + 2).toNat))]) rfl rfl rfl (Nat.le_of_ble_eq_true rfl) rfl (Nat.le_of_ble_eq_true rfl) rfl rfl (jz_cv ?_)
      refine jm_Q.mono h (jp_v_mono (fun J14 K15 h => ?_))
      exact jz_fg (l := [some (.ref 167), some (.int (Int32.ofInt v1)), none, none, none, none]) ⟨rfl, rfl, jz_ni, jz_ni, jz_ni, jz_ni, trivial⟩ h
    · replace h := h.2 c9
      refine jw_aload_n rfl rfl ?_
      refine jw_iload_n rfl rfl ?_
      refine jw_virt (k := 1) (c := 19) (as := [.int (Int32.ofInt (J 188 (4 * v1).toNat))]) rfl rfl rfl (Nat.le_of_ble_eq_true rfl) rfl (Nat.le_of_ble_eq_true rfl) rfl rfl (jz_cv ?_)
      refine jm_Q.mono h (jp_v_mono (fun J16 K17 h => ?_))
      refine jw_aload_n rfl rfl ?_
      refine jw_iload_n rfl rfl ?_
      refine jw_virt (k := 1) (c := 19) (as := [.int (Int32.ofInt (J 188 ((4 * v1) + 1).toNat))]) rfl rfl rfl (Nat.le_of_ble_eq_true rfl) rfl (Nat.le_of_ble_eq_true rfl) rfl rfl (jz_cv ?_)
      refine jm_Q.mono h (jp_v_mono (fun J18 K19 h => ?_))
      refine jw_aload_n rfl rfl ?_
      refine jw_iload rfl rfl ?_
      refine jw_virt (k := 1) (c := 19) (as := [.int (Int32.ofInt (J 188 ((4 * v1) + 2).toNat))]) rfl rfl rfl (Nat.le_of_ble_eq_true rfl) rfl (Nat.le_of_ble_eq_true rfl) rfl rfl (jz_cv ?_)
      refine jm_Q.mono h (jp_v_mono (fun J20 K21 h => ?_))
      refine jw_goto rfl ?_
      exact jz_fg (l := [some (.ref 167), some (.int (Int32.ofInt v1)), none, none, none, none]) ⟨rfl, rfl, jz_ni, jz_ni, jz_ni, jz_ni, trivial⟩ h
  · replace h := h.2 c6
    refine jw_aload_n rfl rfl ?_
    refine jw_bipush rfl (by decide) ?_
    refine jw_iconst rfl ?_
    refine jw_iload_n rfl rfl ?_
    refine jw_iload_n rfl rfl ?_
    refine jw_virt (k := 4) (c := 19) (as := [.int (Int32.ofInt 25), .int (Int32.ofInt 3), .int (Int32.ofInt (J 188 (4 * v1).toNat)), .int (Int32.ofInt (J 188 ((4 * v1) + 1).toNat))]) rfl rfl rfl (Nat.le_of_ble_eq_true rfl) rfl (Nat.le_of_ble_eq_true rfl) rfl rfl (jz_cv ?_)
    refine jm_Q.mono h (jp_v_mono (fun J22 K23 h => ?_))
    refine jw_aload_n rfl rfl ?_
    refine jw_iload_n rfl rfl ?_
    refine jw_iconst rfl ?_
    refine jw_bipush rfl (by decide) ?_
    refine jw_iload rfl rfl ?_
    refine jw_virt (k := 4) (c := 19) (as := [.int (Int32.ofInt v1), .int (Int32.ofInt 3), .int (Int32.ofInt 25), .int (Int32.ofInt (J 188 ((4 * v1) + 2).toNat))]) rfl rfl rfl (Nat.le_of_ble_eq_true rfl) rfl (Nat.le_of_ble_eq_true rfl) rfl rfl (jz_cv ?_)
    refine jm_Q.mono h (jp_v_mono (fun J24 K25 h => ?_))
    refine jw_vret rfl ?_
    exact h
set_option maxHeartbeats 4000000 in
theorem e_193_122 {xs : Nat → Int32} {L d : Nat} {v1 : Int} {J K : jZ} {P : jZ → jZ → Prop} (h : q_187 xs L d v1 J K (fun J1 K2 => P J1 K2)) : l_193_122 xs L d v1 J K P := by
  unfold l_193_122
  refine jw_aload_n rfl rfl ?_
  refine jw_iload_n rfl rfl ?_
  refine jw_virt (k := 1) (c := 19) (as := [.int (Int32.ofInt v1)]) rfl rfl rfl (Nat.le_of_ble_eq_true rfl) rfl (Nat.le_of_ble_eq_true rfl) rfl rfl (jz_cv ?_)
  refine jm_Q.mono h (jp_v_mono (fun J1 K2 h => ?_))
  refine jw_vret rfl ?_
  exact h
set_option maxHeartbeats 4000000 in
theorem e_194 {xs : Nat → Int32} {L d : Nat} {v1 : Int} {v2 : Int} {v3 : Int} {v4 : Int} {J K : jZ} {P : jZ → jZ → Prop} (h : q_185 xs L d J K (fun J1 K2 => (-2147483648 ≤ v2 ∧ v2 < 2147483648) ∧ (¬ v2 = 2 → (4 < v2 → q_197 xs L d v2 v3 v4 J1 K2 (fun J6 K7 => q_187 xs L d v1 J6 K7 (fun J8 K9 => P J8 K9))) ∧ (v2 ≤ 4 → q_196 xs L d v2 v3 v4 J1 K2 (fun J10 K11 => q_187 xs L d v1 J10 K11 (fun J12 K13 => P J12 K13)))) ∧ (v2 = 2 → q_195 xs L d v3 J1 K2 (fun J14 K15 => q_195 xs L d v4 J14 K15 (fun J16 K17 => q_187 xs L d v1 J16 K17 (fun J18 K19 => P J18 K19)))))) : q_194 xs L (d + 1) v1 v2 v3 v4 J K P := by
  unfold q_194
  refine jq_in (ls := [some (.ref 167), some (.int (Int32.ofInt v1)), some (.int (Int32.ofInt v2)), some (.int (Int32.ofInt v3)), some (.int (Int32.ofInt v4))]) rfl (Nat.le_of_ble_eq_true rfl) rfl ?_
  refine jw_aload_n rfl rfl ?_
  refine jw_virt (k := 0) (c := 19) (as := []) rfl rfl rfl (Nat.le_of_ble_eq_true rfl) rfl (Nat.le_of_ble_eq_true rfl) rfl rfl (jz_cv ?_)
  refine jm_Q.mono h (jp_v_mono (fun J1 K2 h => ?_))
  refine jw_iload_n rfl rfl ?_
  refine jw_iconst rfl ?_
  obtain ⟨o3, h⟩ := h
  refine jw_ic_ne rfl o3 (by omega) (fun c4 => ?_) (fun c4 => ?_)
  · replace h := h.1 c4
    refine jw_iload_n rfl rfl ?_
    refine jw_iconst rfl ?_
    refine jw_ic_gt rfl o3 (by omega) (fun c5 => ?_) (fun c5 => ?_)
    · replace h := h.1 c5
      refine jw_aload_n rfl rfl ?_
      refine jw_iload_n rfl rfl ?_
      refine jw_iload_n rfl rfl ?_
      refine jw_iload rfl rfl ?_
      refine jw_virt (k := 3) (c := 19) (as := [.int (Int32.ofInt v2), .int (Int32.ofInt v3), .int (Int32.ofInt v4)]) rfl rfl rfl (Nat.le_of_ble_eq_true rfl) rfl (Nat.le_of_ble_eq_true rfl) rfl rfl (jz_cv ?_)
      refine jm_Q.mono h (jp_v_mono (fun J6 K7 h => ?_))
      refine jw_aload_n rfl rfl ?_
      refine jw_iload_n rfl rfl ?_
      refine jw_virt (k := 1) (c := 19) (as := [.int (Int32.ofInt v1)]) rfl rfl rfl (Nat.le_of_ble_eq_true rfl) rfl (Nat.le_of_ble_eq_true rfl) rfl rfl (jz_cv ?_)
      refine jm_Q.mono h (jp_v_mono (fun J8 K9 h => ?_))
      refine jw_vret rfl ?_
      exact h
    · replace h := h.2 c5
      refine jw_aload_n rfl rfl ?_
      refine jw_iload_n rfl rfl ?_
      refine jw_iload_n rfl rfl ?_
      refine jw_iload rfl rfl ?_
      refine jw_virt (k := 3) (c := 19) (as := [.int (Int32.ofInt v2), .int (Int32.ofInt v3), .int (Int32.ofInt v4)]) rfl rfl rfl (Nat.le_of_ble_eq_true rfl) rfl (Nat.le_of_ble_eq_true rfl) rfl rfl (jz_cv ?_)
      refine jm_Q.mono h (jp_v_mono (fun J10 K11 h => ?_))
      refine jw_goto rfl ?_
      refine jw_aload_n rfl rfl ?_
      refine jw_iload_n rfl rfl ?_
      refine jw_virt (k := 1) (c := 19) (as := [.int (Int32.ofInt v1)]) rfl rfl rfl (Nat.le_of_ble_eq_true rfl) rfl (Nat.le_of_ble_eq_true rfl) rfl rfl (jz_cv ?_)
      refine jm_Q.mono h (jp_v_mono (fun J12 K13 h => ?_))
      refine jw_vret rfl ?_
      exact h
  · replace h := h.2 c4
    refine jw_aload_n rfl rfl ?_
    refine jw_iload_n rfl rfl ?_
    refine jw_virt (k := 1) (c := 19) (as := [.int (Int32.ofInt v3)]) rfl rfl rfl (Nat.le_of_ble_eq_true rfl) rfl (Nat.le_of_ble_eq_true rfl) rfl rfl (jz_cv ?_)
    refine jm_Q.mono h (jp_v_mono (fun J14 K15 h => ?_))
    refine jw_aload_n rfl rfl ?_
    refine jw_iload rfl rfl ?_
    refine jw_virt (k := 1) (c := 19) (as := [.int (Int32.ofInt v4)]) rfl rfl rfl (Nat.le_of_ble_eq_true rfl) rfl (Nat.le_of_ble_eq_true rfl) rfl rfl (jz_cv ?_)
    refine jm_Q.mono h (jp_v_mono (fun J16 K17 h => ?_))
    refine jw_goto rfl ?_
    refine jw_aload_n rfl rfl ?_
    refine jw_iload_n rfl rfl ?_
    refine jw_virt (k := 1) (c := 19) (as := [.int (Int32.ofInt v1)]) rfl rfl rfl (Nat.le_of_ble_eq_true rfl) rfl (Nat.le_of_ble_eq_true rfl) rfl rfl (jz_cv ?_)
    refine jm_Q.mono h (jp_v_mono (fun J18 K19 h => ?_))
    refine jw_vret rfl ?_
    exact h
set_option maxHeartbeats 4000000 in
theorem e_195 {xs : Nat → Int32} {L d : Nat} {v1 : Int} {J K : jZ} {P : jZ → jZ → Prop} (h : l_195_2 xs L (d + 1) v1 0 J K P) : q_195 xs L (d + 2) v1 J K P := by
  unfold q_195
  refine jq_in (ls := [some (.ref 167), some (.int (Int32.ofInt v1)), none]) rfl (Nat.le_of_ble_eq_true rfl) rfl ?_
  refine jw_iconst rfl ?_
  refine jw_istore_n (ls' := [some (.ref 167), some (.int (Int32.ofInt v1)), some (.int (Int32.ofInt 0))]) rfl rfl ?_
  exact jz_fg (l := [some (.ref 167), some (.int (Int32.ofInt v1)), some (.int (Int32.ofInt 0))]) ⟨rfl, rfl, rfl, trivial⟩ h
set_option maxHeartbeats 4000000 in
theorem e_195_2 {xs : Nat → Int32} {L d : Nat} {v1 : Int} {v2 : Int} {J K : jZ} {P : jZ → jZ → Prop} (h : ((0 : Int) ≤ v1 ∧ v1 < 27) ∧ (-2147483648 ≤ v2 ∧ v2 < 2147483648) ∧ (-2147483648 ≤ J 195 v1.toNat ∧ J 195 v1.toNat < 2147483648) ∧ ((J 195 v1.toNat) ≤ v2 → P J K) ∧ (v2 < (J 195 v1.toNat) → ((0 : Int) ≤ ((v1 * 60) + v2) ∧ ((v1 * 60) + v2) < 1620) ∧ q_186 xs L (d + 1) (J 196 ((v1 * 60) + v2).toNat) (J 197 ((v1 * 60) + v2).toNat) J K (fun J6 K7 => l_195_2 xs L (d + 1) v1 (v2 + 1) J6 K7 P))) : l_195_2 xs L (d + 1) v1 v2 J K P := by
  unfold l_195_2
  refine jw_iload_n rfl rfl ?_
  refine jw_aload_n rfl rfl ?_
  refine jw_gr (q := 195) rfl rfl rfl ?_
  refine jw_iload_n rfl rfl ?_
  obtain ⟨o1, h⟩ := h
  refine jw_iald (v := (J 195 v1.toNat)) (N := 27) rfl rfl rfl (by omega) o1 rfl ?_
  obtain ⟨o2, h⟩ := h
  obtain ⟨o3, h⟩ := h
  refine jw_ic_ge rfl o2 o3 (fun c4 => ?_) (fun c4 => ?_)
  · replace h := h.1 c4
    refine jw_vret rfl ?_
    exact h
  · replace h := h.2 c4
    refine jw_aload_n rfl rfl ?_
    refine jw_aload_n rfl rfl ?_
    refine jw_iload_n rfl rfl ?_
    refine jw_iload_n rfl rfl ?_
    refine jw_virt (k := 2) (c := 19) (as := [.int (Int32.ofInt v1), .int (Int32.ofInt v2)]) rfl rfl rfl (Nat.le_of_ble_eq_true rfl) rfl (Nat.le_of_ble_eq_true rfl) rfl rfl (jz_ci ?_)
    refine jq_in (ls := [some (.ref 167), some (.int (Int32.ofInt v1)), some (.int (Int32.ofInt v2))]) rfl (Nat.le_of_ble_eq_true rfl) rfl ?_
    refine jw_aload_n rfl rfl ?_
    refine jw_gr (q := 196) rfl rfl rfl ?_
    refine jw_iload_n rfl rfl ?_
    refine jw_bipush rfl (by decide) ?_
    refine jw_imul rfl ?_
    refine jw_iload_n rfl rfl ?_
    refine jw_iadd rfl ?_
    obtain ⟨o5, h⟩ := h
    refine jw_iald (v := (J 196 ((v1 * 60) + v2).toNat)) (N := 1620) rfl rfl rfl (by omega) o5 rfl ?_
    refine jw_iret rfl ?_
    refine jw_aload_n rfl rfl ?_
    refine jw_iload_n rfl rfl ?_
    refine jw_iload_n rfl rfl ?_
    refine jw_virt (k := 2) (c := 19) (as := [.int (Int32.ofInt v1), .int (Int32.ofInt v2)]) rfl rfl rfl (Nat.le_of_ble_eq_true rfl) rfl (Nat.le_of_ble_eq_true rfl) rfl rfl (jz_ci ?_)
    refine jq_in (ls := [some (.ref 167), some (.int (Int32.ofInt v1)), some (.int (Int32.ofInt v2))]) rfl (Nat.le_of_ble_eq_true rfl) rfl ?_
    refine jw_aload_n rfl rfl ?_
    refine jw_gr (q := 197) rfl rfl rfl ?_
    refine jw_iload_n rfl rfl ?_
    refine jw_bipush rfl (by decide) ?_
    refine jw_imul rfl ?_
    refine jw_iload_n rfl rfl ?_
    refine jw_iadd rfl ?_
    refine jw_iald (v := (J 197 ((v1 * 60) + v2).toNat)) (N := 1620) rfl rfl rfl (by omega) o5 rfl ?_
    refine jw_iret rfl ?_
    refine jw_virt (k := 2) (c := 19) (as := [.int (Int32.ofInt (J 196 ((v1 * 60) + v2).toNat)), .int (Int32.ofInt (J 197 ((v1 * 60) + v2).toNat))]) rfl rfl rfl (Nat.le_of_ble_eq_true rfl) rfl (Nat.le_of_ble_eq_true rfl) rfl rfl (jz_cv ?_)
    refine jm_Q.mono h (jp_v_mono (fun J6 K7 h => ?_))
    refine jw_iinc (ls' := [some (.ref 167), some (.int (Int32.ofInt v1)), some (.int (Int32.ofInt (v2 + 1)))]) rfl rfl rfl ?_
    refine jw_goto rfl ?_
    exact jz_fg (l := [some (.ref 167), some (.int (Int32.ofInt v1)), some (.int (Int32.ofInt (v2 + 1)))]) ⟨rfl, rfl, rfl, trivial⟩ h
set_option maxHeartbeats 4000000 in
theorem e_196 {xs : Nat → Int32} {L d : Nat} {v1 : Int} {v2 : Int} {v3 : Int} {J K : jZ} {P : jZ → jZ → Prop} (h : l_196_3 xs L (d + 1) v1 v2 v3 0 J K P) : q_196 xs L (d + 2) v1 v2 v3 J K P := by
  unfold q_196
  refine jq_in (ls := [some (.ref 167), some (.int (Int32.ofInt v1)), some (.int (Int32.ofInt v2)), some (.int (Int32.ofInt v3)), none, none, none, none]) rfl (Nat.le_of_ble_eq_true rfl) rfl ?_
  refine jw_iconst rfl ?_
  refine jw_istore (ls' := [some (.ref 167), some (.int (Int32.ofInt v1)), some (.int (Int32.ofInt v2)), some (.int (Int32.ofInt v3)), some (.int (Int32.ofInt 0)), none, none, none]) rfl rfl ?_
  exact jz_fg (l := [some (.ref 167), some (.int (Int32.ofInt v1)), some (.int (Int32.ofInt v2)), some (.int (Int32.ofInt v3)), some (.int (Int32.ofInt 0)), none, none, none]) ⟨rfl, rfl, rfl, rfl, rfl, jz_n0, jz_n0, jz_n0, trivial⟩ h
set_option maxHeartbeats 4000000 in
theorem e_196_3 {xs : Nat → Int32} {L d : Nat} {v1 : Int} {v2 : Int} {v3 : Int} {v4 : Int} {J K : jZ} {P : jZ → jZ → Prop} (h : ((0 : Int) ≤ v2 ∧ v2 < 27) ∧ (-2147483648 ≤ v4 ∧ v4 < 2147483648) ∧ (-2147483648 ≤ J 195 v2.toNat ∧ J 195 v2.toNat < 2147483648) ∧ ((J 195 v2.toNat) ≤ v4 → P J K) ∧ (v4 < (J 195 v2.toNat) → l_196_17 xs L (d + 1) v1 v2 v3 v4 0 J K P)) : l_196_3 xs L (d + 1) v1 v2 v3 v4 J K P := by
  unfold l_196_3
  refine jw_iload rfl rfl ?_
  refine jw_aload_n rfl rfl ?_
  refine jw_gr (q := 195) rfl rfl rfl ?_
  refine jw_iload_n rfl rfl ?_
  obtain ⟨o1, h⟩ := h
  refine jw_iald (v := (J 195 v2.toNat)) (N := 27) rfl rfl rfl (by omega) o1 rfl ?_
  obtain ⟨o2, h⟩ := h
  obtain ⟨o3, h⟩ := h
  refine jw_ic_ge rfl o2 o3 (fun c4 => ?_) (fun c4 => ?_)
  · replace h := h.1 c4
    refine jw_vret rfl ?_
    exact h
  · replace h := h.2 c4
    refine jw_iconst rfl ?_
    refine jw_istore (ls' := [some (.ref 167), some (.int (Int32.ofInt v1)), some (.int (Int32.ofInt v2)), some (.int (Int32.ofInt v3)), some (.int (Int32.ofInt v4)), some (.int (Int32.ofInt 0)), none, none]) rfl rfl ?_
    exact jz_fg (l := [some (.ref 167), some (.int (Int32.ofInt v1)), some (.int (Int32.ofInt v2)), some (.int (Int32.ofInt v3)), some (.int (Int32.ofInt v4)), some (.int (Int32.ofInt 0)), none, none]) ⟨rfl, rfl, rfl, rfl, rfl, rfl, jz_n0, jz_n0, trivial⟩ h
set_option maxHeartbeats 4000000 in
theorem e_196_17 {xs : Nat → Int32} {L d : Nat} {v1 : Int} {v2 : Int} {v3 : Int} {v4 : Int} {v5 : Int} {J K : jZ} {P : jZ → jZ → Prop} (h : ((0 : Int) ≤ v3 ∧ v3 < 27) ∧ (-2147483648 ≤ v5 ∧ v5 < 2147483648) ∧ (-2147483648 ≤ J 195 v3.toNat ∧ J 195 v3.toNat < 2147483648) ∧ ((J 195 v3.toNat) ≤ v5 → l_196_3 xs L (d + 1) v1 v2 v3 (v4 + 1) J K P) ∧ (v5 < (J 195 v3.toNat) → ((0 : Int) ≤ ((v3 * 60) + v5) ∧ ((v3 * 60) + v5) < 1620) ∧ ((0 : Int) ≤ ((v2 * 60) + v4) ∧ ((v2 * 60) + v4) < 1620) ∧ (-2147483648 ≤ J 196 ((v3 * 60) + v5).toNat ∧ J 196 ((v3 * 60) + v5).toNat < 2147483648) ∧ (-2147483648 ≤ J 196 ((v2 * 60) + v4).toNat ∧ J 196 ((v2 * 60) + v4).toNat < 2147483648) ∧ ((J 196 ((v2 * 60) + v4).toNat) ≤ (J 196 ((v3 * 60) + v5).toNat) → l_196_64 xs L (d + 1) v1 v2 v3 v4 v5 (J 196 ((v2 * 60) + v4).toNat) J K P) ∧ ((J 196 ((v3 * 60) + v5).toNat) < (J 196 ((v2 * 60) + v4).toNat) → l_196_64 xs L (d + 1) v1 v2 v3 v4 v5 (J 196 ((v3 * 60) + v5).toNat) J K P))) : l_196_17 xs L (d + 1) v1 v2 v3 v4 v5 J K P := by
  unfold l_196_17
  refine jw_iload rfl rfl ?_
  refine jw_aload_n rfl rfl ?_
  refine jw_gr (q := 195) rfl rfl rfl ?_
  refine jw_iload_n rfl rfl ?_
  obtain ⟨o1, h⟩ := h
  refine jw_iald (v := (J 195 v3.toNat)) (N := 27) rfl rfl rfl (by omega) o1 rfl ?_
  obtain ⟨o2, h⟩ := h
  obtain ⟨o3, h⟩ := h
  refine jw_ic_ge rfl o2 o3 (fun c4 => ?_) (fun c4 => ?_)
  · replace h := h.1 c4
    refine jw_iinc (ls' := [some (.ref 167), some (.int (Int32.ofInt v1)), some (.int (Int32.ofInt v2)), some (.int (Int32.ofInt v3)), some (.int (Int32.ofInt (v4 + 1))), some (.int (Int32.ofInt v5)), none, none]) rfl rfl rfl ?_
    refine jw_goto rfl ?_
    exact jz_fg (l := [some (.ref 167), some (.int (Int32.ofInt v1)), some (.int (Int32.ofInt v2)), some (.int (Int32.ofInt v3)), some (.int (Int32.ofInt (v4 + 1))), none, none, none]) ⟨rfl, rfl, rfl, rfl, rfl, jz_ni, jz_n0, jz_n0, trivial⟩ h
  · replace h := h.2 c4
    refine jw_aload_n rfl rfl ?_
    refine jw_iload_n rfl rfl ?_
    refine jw_iload rfl rfl ?_
    refine jw_virt (k := 2) (c := 19) (as := [.int (Int32.ofInt v3), .int (Int32.ofInt v5)]) rfl rfl rfl (Nat.le_of_ble_eq_true rfl) rfl (Nat.le_of_ble_eq_true rfl) rfl rfl (jz_ci ?_)
    refine jq_in (ls := [some (.ref 167), some (.int (Int32.ofInt v3)), some (.int (Int32.ofInt v5))]) rfl (Nat.le_of_ble_eq_true rfl) rfl ?_
    refine jw_aload_n rfl rfl ?_
    refine jw_gr (q := 196) rfl rfl rfl ?_
    refine jw_iload_n rfl rfl ?_
    refine jw_bipush rfl (by decide) ?_
    refine jw_imul rfl ?_
    refine jw_iload_n rfl rfl ?_
    refine jw_iadd rfl ?_
    obtain ⟨o5, h⟩ := h
    refine jw_iald (v := (J 196 ((v3 * 60) + v5).toNat)) (N := 1620) rfl rfl rfl (by omega) o5 rfl ?_
    refine jw_iret rfl ?_
    refine jw_aload_n rfl rfl ?_
    refine jw_iload_n rfl rfl ?_
    refine jw_iload rfl rfl ?_
    refine jw_virt (k := 2) (c := 19) (as := [.int (Int32.ofInt v2), .int (Int32.ofInt v4)]) rfl rfl rfl (Nat.le_of_ble_eq_true rfl) rfl (Nat.le_of_ble_eq_true rfl) rfl rfl (jz_ci ?_)
    refine jq_in (ls := [some (.ref 167), some (.int (Int32.ofInt v2)), some (.int (Int32.ofInt v4))]) rfl (Nat.le_of_ble_eq_true rfl) rfl ?_
    refine jw_aload_n rfl rfl ?_
    refine jw_gr (q := 196) rfl rfl rfl ?_
    refine jw_iload_n rfl rfl ?_
    refine jw_bipush rfl (by decide) ?_
    refine jw_imul rfl ?_
    refine jw_iload_n rfl rfl ?_
    refine jw_iadd rfl ?_
    obtain ⟨o6, h⟩ := h
    refine jw_iald (v := (J 196 ((v2 * 60) + v4).toNat)) (N := 1620) rfl rfl rfl (by omega) o6 rfl ?_
    refine jw_iret rfl ?_
    obtain ⟨o7, h⟩ := h
    obtain ⟨o8, h⟩ := h
    refine jw_ic_ge rfl o7 o8 (fun c9 => ?_) (fun c9 => ?_)
    · replace h := h.1 c9
      refine jw_aload_n rfl rfl ?_
      refine jw_iload_n rfl rfl ?_
      refine jw_iload rfl rfl ?_
      refine jw_virt (k := 2) (c := 19) (as := [.int (Int32.ofInt v2), .int (Int32.ofInt v4)]) rfl rfl rfl (Nat.le_of_ble_eq_true rfl) rfl (Nat.le_of_ble_eq_true rfl) rfl rfl (jz_ci ?_)
      refine jq_in (ls := [some (.ref 167), some (.int (Int32.ofInt v2)), some (.int (Int32.ofInt v4))]) rfl (Nat.le_of_ble_eq_true rfl) rfl ?_
      refine jw_aload_n rfl rfl ?_
      refine jw_gr (q := 196) rfl rfl rfl ?_
      refine jw_iload_n rfl rfl ?_
      refine jw_bipush rfl (by decide) ?_
      refine jw_imul rfl ?_
      refine jw_iload_n rfl rfl ?_
      refine jw_iadd rfl ?_
      refine jw_iald (v := (J 196 ((v2 * 60) + v4).toNat)) (N := 1620) rfl rfl rfl (by omega) o6 rfl ?_
      refine jw_iret rfl ?_
      refine jw_istore (ls' := [some (.ref 167), some (.int (Int32.ofInt v1)), some (.int (Int32.ofInt v2)), some (.int (Int32.ofInt v3)), some (.int (Int32.ofInt v4)), some (.int (Int32.ofInt v5)), some (.int (Int32.ofInt (J 196 ((v2 * 60) + v4).toNat))), none]) rfl rfl ?_
      exact jz_fg (l := [some (.ref 167), some (.int (Int32.ofInt v1)), some (.int (Int32.ofInt v2)), some (.int (Int32.ofInt v3)), some (.int (Int32.ofInt v4)), some (.int (Int32.ofInt v5)), some (.int (Int32.ofInt (J 196 ((v2 * 60) + v4).toNat))), none]) ⟨rfl, rfl, rfl, rfl, rfl, rfl, rfl, jz_n0, trivial⟩ h
    · replace h := h.2 c9
      refine jw_aload_n rfl rfl ?_
      refine jw_iload_n rfl rfl ?_
      refine jw_iload rfl rfl ?_
      refine jw_virt (k := 2) (c := 19) (as := [.int (Int32.ofInt v3), .int (Int32.ofInt v5)]) rfl rfl rfl (Nat.le_of_ble_eq_true rfl) rfl (Nat.le_of_ble_eq_true rfl) rfl rfl (jz_ci ?_)
      refine jq_in (ls := [some (.ref 167), some (.int (Int32.ofInt v3)), some (.int (Int32.ofInt v5))]) rfl (Nat.le_of_ble_eq_true rfl) rfl ?_
      refine jw_aload_n rfl rfl ?_
      refine jw_gr (q := 196) rfl rfl rfl ?_
      refine jw_iload_n rfl rfl ?_
      refine jw_bipush rfl (by decide) ?_
      refine jw_imul rfl ?_
      refine jw_iload_n rfl rfl ?_
      refine jw_iadd rfl ?_
      refine jw_iald (v := (J 196 ((v3 * 60) + v5).toNat)) (N := 1620) rfl rfl rfl (by omega) o5 rfl ?_
      refine jw_iret rfl ?_
      refine jw_goto rfl ?_
      refine jw_istore (ls' := [some (.ref 167), some (.int (Int32.ofInt v1)), some (.int (Int32.ofInt v2)), some (.int (Int32.ofInt v3)), some (.int (Int32.ofInt v4)), some (.int (Int32.ofInt v5)), some (.int (Int32.ofInt (J 196 ((v3 * 60) + v5).toNat))), none]) rfl rfl ?_
      exact jz_fg (l := [some (.ref 167), some (.int (Int32.ofInt v1)), some (.int (Int32.ofInt v2)), some (.int (Int32.ofInt v3)), some (.int (Int32.ofInt v4)), some (.int (Int32.ofInt v5)), some (.int (Int32.ofInt (J 196 ((v3 * 60) + v5).toNat))), none]) ⟨rfl, rfl, rfl, rfl, rfl, rfl, rfl, jz_n0, trivial⟩ h
set_option maxHeartbeats 4000000 in
theorem e_196_64 {xs : Nat → Int32} {L d : Nat} {v1 : Int} {v2 : Int} {v3 : Int} {v4 : Int} {v5 : Int} {v6 : Int} {J K : jZ} {P : jZ → jZ → Prop} (h : ((0 : Int) ≤ ((v3 * 60) + v5) ∧ ((v3 * 60) + v5) < 1620) ∧ ((0 : Int) ≤ ((v2 * 60) + v4) ∧ ((v2 * 60) + v4) < 1620) ∧ (-2147483648 ≤ J 197 ((v3 * 60) + v5).toNat ∧ J 197 ((v3 * 60) + v5).toNat < 2147483648) ∧ (-2147483648 ≤ J 197 ((v2 * 60) + v4).toNat ∧ J 197 ((v2 * 60) + v4).toNat < 2147483648) ∧ ((J 197 ((v3 * 60) + v5).toNat) ≤ (J 197 ((v2 * 60) + v4).toNat) → l_196_100 xs L (d + 1) v1 v2 v3 v4 v5 v6 (J 197 ((v2 * 60) + v4).toNat) J K P) ∧ ((J 197 ((v2 * 60) + v4).toNat) < (J 197 ((v3 * 60) + v5).toNat) → l_196_100 xs L (d + 1) v1 v2 v3 v4 v5 v6 (J 197 ((v3 * 60) + v5).toNat) J K P)) : l_196_64 xs L (d + 1) v1 v2 v3 v4 v5 v6 J K P := by
  unfold l_196_64
  refine jw_aload_n rfl rfl ?_
  refine jw_iload_n rfl rfl ?_
  refine jw_iload rfl rfl ?_
  refine jw_virt (k := 2) (c := 19) (as := [.int (Int32.ofInt v3), .int (Int32.ofInt v5)]) rfl rfl rfl (Nat.le_of_ble_eq_true rfl) rfl (Nat.le_of_ble_eq_true rfl) rfl rfl (jz_ci ?_)
  refine jq_in (ls := [some (.ref 167), some (.int (Int32.ofInt v3)), some (.int (Int32.ofInt v5))]) rfl (Nat.le_of_ble_eq_true rfl) rfl ?_
  refine jw_aload_n rfl rfl ?_
  refine jw_gr (q := 197) rfl rfl rfl ?_
  refine jw_iload_n rfl rfl ?_
  refine jw_bipush rfl (by decide) ?_
  refine jw_imul rfl ?_
  refine jw_iload_n rfl rfl ?_
  refine jw_iadd rfl ?_
  obtain ⟨o1, h⟩ := h
  refine jw_iald (v := (J 197 ((v3 * 60) + v5).toNat)) (N := 1620) rfl rfl rfl (by omega) o1 rfl ?_
  refine jw_iret rfl ?_
  refine jw_aload_n rfl rfl ?_
  refine jw_iload_n rfl rfl ?_
  refine jw_iload rfl rfl ?_
  refine jw_virt (k := 2) (c := 19) (as := [.int (Int32.ofInt v2), .int (Int32.ofInt v4)]) rfl rfl rfl (Nat.le_of_ble_eq_true rfl) rfl (Nat.le_of_ble_eq_true rfl) rfl rfl (jz_ci ?_)
  refine jq_in (ls := [some (.ref 167), some (.int (Int32.ofInt v2)), some (.int (Int32.ofInt v4))]) rfl (Nat.le_of_ble_eq_true rfl) rfl ?_
  refine jw_aload_n rfl rfl ?_
  refine jw_gr (q := 197) rfl rfl rfl ?_
  refine jw_iload_n rfl rfl ?_
  refine jw_bipush rfl (by decide) ?_
  refine jw_imul rfl ?_
  refine jw_iload_n rfl rfl ?_
  refine jw_iadd rfl ?_
  obtain ⟨o2, h⟩ := h
  refine jw_iald (v := (J 197 ((v2 * 60) + v4).toNat)) (N := 1620) rfl rfl rfl (by omega) o2 rfl ?_
  refine jw_iret rfl ?_
  obtain ⟨o3, h⟩ := h
  obtain ⟨o4, h⟩ := h
  refine jw_ic_le rfl o3 o4 (fun c5 => ?_) (fun c5 => ?_)
  · replace h := h.1 c5
    refine jw_aload_n rfl rfl ?_
    refine jw_iload_n rfl rfl ?_
    refine jw_iload rfl rfl ?_
    refine jw_virt (k := 2) (c := 19) (as := [.int (Int32.ofInt v2), .int (Int32.ofInt v4)]) rfl rfl rfl (Nat.le_of_ble_eq_true rfl) rfl (Nat.le_of_ble_eq_true rfl) rfl rfl (jz_ci ?_)
    refine jq_in (ls := [some (.ref 167), some (.int (Int32.ofInt v2)), some (.int (Int32.ofInt v4))]) rfl (Nat.le_of_ble_eq_true rfl) rfl ?_
    refine jw_aload_n rfl rfl ?_
    refine jw_gr (q := 197) rfl rfl rfl ?_
    refine jw_iload_n rfl rfl ?_
    refine jw_bipush rfl (by decide) ?_
    refine jw_imul rfl ?_
    refine jw_iload_n rfl rfl ?_
    refine jw_iadd rfl ?_
    refine jw_iald (v := (J 197 ((v2 * 60) + v4).toNat)) (N := 1620) rfl rfl rfl (by omega) o2 rfl ?_
    refine jw_iret rfl ?_
    refine jw_istore (ls' := [some (.ref 167), some (.int (Int32.ofInt v1)), some (.int (Int32.ofInt v2)), some (.int (Int32.ofInt v3)), some (.int (Int32.ofInt v4)), some (.int (Int32.ofInt v5)), some (.int (Int32.ofInt v6)), some (.int (Int32.ofInt (J 197 ((v2 * 60) + v4).toNat)))]) rfl rfl ?_
    exact jz_fg (l := [some (.ref 167), some (.int (Int32.ofInt v1)), some (.int (Int32.ofInt v2)), some (.int (Int32.ofInt v3)), some (.int (Int32.ofInt v4)), some (.int (Int32.ofInt v5)), some (.int (Int32.ofInt v6)), some (.int (Int32.ofInt (J 197 ((v2 * 60) + v4).toNat)))]) ⟨rfl, rfl, rfl, rfl, rfl, rfl, rfl, rfl, trivial⟩ h
  · replace h := h.2 c5
    refine jw_aload_n rfl rfl ?_
    refine jw_iload_n rfl rfl ?_
    refine jw_iload rfl rfl ?_
    refine jw_virt (k := 2) (c := 19) (as := [.int (Int32.ofInt v3), .int (Int32.ofInt v5)]) rfl rfl rfl (Nat.le_of_ble_eq_true rfl) rfl (Nat.le_of_ble_eq_true rfl) rfl rfl (jz_ci ?_)
    refine jq_in (ls := [some (.ref 167), some (.int (Int32.ofInt v3)), some (.int (Int32.ofInt v5))]) rfl (Nat.le_of_ble_eq_true rfl) rfl ?_
    refine jw_aload_n rfl rfl ?_
    refine jw_gr (q := 197) rfl rfl rfl ?_
    refine jw_iload_n rfl rfl ?_
    refine jw_bipush rfl (by decide) ?_
    refine jw_imul rfl ?_
    refine jw_iload_n rfl rfl ?_
    refine jw_iadd rfl ?_
    refine jw_iald (v := (J 197 ((v3 * 60) + v5).toNat)) (N := 1620) rfl rfl rfl (by omega) o1 rfl ?_
    refine jw_iret rfl ?_
    refine jw_goto rfl ?_
    refine jw_istore (ls' := [some (.ref 167), some (.int (Int32.ofInt v1)), some (.int (Int32.ofInt v2)), some (.int (Int32.ofInt v3)), some (.int (Int32.ofInt v4)), some (.int (Int32.ofInt v5)), some (.int (Int32.ofInt v6)), some (.int (Int32.ofInt (J 197 ((v3 * 60) + v5).toNat)))]) rfl rfl ?_
    exact jz_fg (l := [some (.ref 167), some (.int (Int32.ofInt v1)), some (.int (Int32.ofInt v2)), some (.int (Int32.ofInt v3)), some (.int (Int32.ofInt v4)), some (.int (Int32.ofInt v5)), some (.int (Int32.ofInt v6)), some (.int (Int32.ofInt (J 197 ((v3 * 60) + v5).toNat)))]) ⟨rfl, rfl, rfl, rfl, rfl, rfl, rfl, rfl, trivial⟩ h
set_option maxHeartbeats 4000000 in
theorem e_196_100 {xs : Nat → Int32} {L d : Nat} {v1 : Int} {v2 : Int} {v3 : Int} {v4 : Int} {v5 : Int} {v6 : Int} {v7 : Int} {J K : jZ} {P : jZ → jZ → Prop} (h : (-2147483648 ≤ v1 ∧ v1 < 2147483648) ∧ (¬ v1 = 3 → ((0 : Int) ≤ ((v3 * 60) + v5) ∧ ((v3 * 60) + v5) < 1620) ∧ ((0 : Int) ≤ ((v2 * 60) + v4) ∧ ((v2 * 60) + v4) < 1620) ∧ (-2147483648 ≤ J 196 ((v3 * 60) + v5).toNat ∧ J 196 ((v3 * 60) + v5).toNat < 2147483648) ∧ (-2147483648 ≤ J 197 ((v2 * 60) + v4).toNat ∧ J 197 ((v2 * 60) + v4).toNat < 2147483648) ∧ ((J 196 ((v3 * 60) + v5).toNat) ≤ (J 197 ((v2 * 60) + v4).toNat) → l_196_151 xs L (d + 1) v1 v2 v3 v4 v5 J K P) ∧ ((J 197 ((v2 * 60) + v4).toNat) < (J 196 ((v3 * 60) + v5).toNat) → q_186 xs L (d + 1) (J 196 ((v2 * 60) + v4).toNat) (J 197 ((v3 * 60) + v5).toNat) J K (fun J8 K9 => l_196_151 xs L (d + 1) v1 v2 v3 v4 v5 J8 K9 P))) ∧ (v1 = 3 → q_186 xs L (d + 1) v6 v7 J K (fun J10 K11 => l_196_151 xs L (d + 1) v1 v2 v3 v4 v5 J10 K11 P))) : l_196_100 xs L (d + 1) v1 v2 v3 v4 v5 v6 v7 J K P := by
  unfold l_196_100
  refine jw_iload_n rfl rfl ?_
  refine jw_iconst rfl ?_
  obtain ⟨o1, h⟩ := h
  refine jw_ic_ne rfl o1 (by omega) (fun c2 => ?_) (fun c2 => ?_)
  · replace h := h.1 c2
    refine jw_aload_n rfl rfl ?_
    refine jw_iload_n rfl rfl ?_
    refine jw_iload rfl rfl ?_
    refine jw_virt (k := 2) (c := 19) (as := [.int (Int32.ofInt v3), .int (Int32.ofInt v5)]) rfl rfl rfl (Nat.le_of_ble_eq_true rfl) rfl (Nat.le_of_ble_eq_true rfl) rfl rfl (jz_ci ?_)
    refine jq_in (ls := [some (.ref 167), some (.int (Int32.ofInt v3)), some (.int (Int32.ofInt v5))]) rfl (Nat.le_of_ble_eq_true rfl) rfl ?_
    refine jw_aload_n rfl rfl ?_
    refine jw_gr (q := 196) rfl rfl rfl ?_
    refine jw_iload_n rfl rfl ?_
    refine jw_bipush rfl (by decide) ?_
    refine jw_imul rfl ?_
    refine jw_iload_n rfl rfl ?_
    refine jw_iadd rfl ?_
    obtain ⟨o3, h⟩ := h
    refine jw_iald (v := (J 196 ((v3 * 60) + v5).toNat)) (N := 1620) rfl rfl rfl (by omega) o3 rfl ?_
    refine jw_iret rfl ?_
    refine jw_aload_n rfl rfl ?_
    refine jw_iload_n rfl rfl ?_
    refine jw_iload rfl rfl ?_
    refine jw_virt (k := 2) (c := 19) (as := [.int (Int32.ofInt v2), .int (Int32.ofInt v4)]) rfl rfl rfl (Nat.le_of_ble_eq_true rfl) rfl (Nat.le_of_ble_eq_true rfl) rfl rfl (jz_ci ?_)
    refine jq_in (ls := [some (.ref 167), some (.int (Int32.ofInt v2)), some (.int (Int32.ofInt v4))]) rfl (Nat.le_of_ble_eq_true rfl) rfl ?_
    refine jw_aload_n rfl rfl ?_
    refine jw_gr (q := 197) rfl rfl rfl ?_
    refine jw_iload_n rfl rfl ?_
    refine jw_bipush rfl (by decide) ?_
    refine jw_imul rfl ?_
    refine jw_iload_n rfl rfl ?_
    refine jw_iadd rfl ?_
    obtain ⟨o4, h⟩ := h
    refine jw_iald (v := (J 197 ((v2 * 60) + v4).toNat)) (N := 1620) rfl rfl rfl (by omega) o4 rfl ?_
    refine jw_iret rfl ?_
    obtain ⟨o5, h⟩ := h
    obtain ⟨o6, h⟩ := h
    refine jw_ic_le rfl o5 o6 (fun c7 => ?_) (fun c7 => ?_)
    · replace h := h.1 c7
      exact jz_fg (l := [some (.ref 167), some (.int (Int32.ofInt v1)), some (.int (Int32.ofInt v2)), some (.int (Int32.ofInt v3)), some (.int (Int32.ofInt v4)), some (.int (Int32.ofInt v5)), none, none]) ⟨rfl, rfl, rfl, rfl, rfl, rfl, jz_ni, jz_ni, trivial⟩ h
    · replace h := h.2 c7
      refine jw_aload_n rfl rfl ?_
      refine jw_aload_n rfl rfl ?_
      refine jw_iload_n rfl rfl ?_
      refine jw_iload rfl rfl ?_
      refine jw_virt (k := 2) (c := 19) (as := [.int (Int32.ofInt v2), .int (Int32.ofInt v4)]) rfl rfl rfl (Nat.le_of_ble_eq_true rfl) rfl (Nat.le_of_ble_eq_true rfl) rfl rfl (jz_ci ?_)
      refine jq_in (ls := [some (.ref 167), some (.int (Int32.ofInt v2)), some (.int (Int32.ofInt v4))]) rfl (Nat.le_of_ble_eq_true rfl) rfl ?_
      refine jw_aload_n rfl rfl ?_
      refine jw_gr (q := 196) rfl rfl rfl ?_
      refine jw_iload_n rfl rfl ?_
      refine jw_bipush rfl (by decide) ?_
      refine jw_imul rfl ?_
      refine jw_iload_n rfl rfl ?_
      refine jw_iadd rfl ?_
      refine jw_iald (v := (J 196 ((v2 * 60) + v4).toNat)) (N := 1620) rfl rfl rfl (by omega) o4 rfl ?_
      refine jw_iret rfl ?_
      refine jw_aload_n rfl rfl ?_
      refine jw_iload_n rfl rfl ?_
      refine jw_iload rfl rfl ?_
      refine jw_virt (k := 2) (c := 19) (as := [.int (Int32.ofInt v3), .int (Int32.ofInt v5)]) rfl rfl rfl (Nat.le_of_ble_eq_true rfl) rfl (Nat.le_of_ble_eq_true rfl) rfl rfl (jz_ci ?_)
      refine jq_in (ls := [some (.ref 167), some (.int (Int32.ofInt v3)), some (.int (Int32.ofInt v5))]) rfl (Nat.le_of_ble_eq_true rfl) rfl ?_
      refine jw_aload_n rfl rfl ?_
      refine jw_gr (q := 197) rfl rfl rfl ?_
      refine jw_iload_n rfl rfl ?_
      refine jw_bipush rfl (by decide) ?_
      refine jw_imul rfl ?_
      refine jw_iload_n rfl rfl ?_
      refine jw_iadd rfl ?_
      refine jw_iald (v := (J 197 ((v3 * 60) + v5).toNat)) (N := 1620) rfl rfl rfl (by omega) o3 rfl ?_
      refine jw_iret rfl ?_
      refine jw_virt (k := 2) (c := 19) (as := [.int (Int32.ofInt (J 196 ((v2 * 60) + v4).toNat)), .int (Int32.ofInt (J 197 ((v3 * 60) + v5).toNat))]) rfl rfl rfl (Nat.le_of_ble_eq_true rfl) rfl (Nat.le_of_ble_eq_true rfl) rfl rfl (jz_cv ?_)
      refine jm_Q.mono h (jp_v_mono (fun J8 K9 h => ?_))
      exact jz_fg (l := [some (.ref 167), some (.int (Int32.ofInt v1)), some (.int (Int32.ofInt v2)), some (.int (Int32.ofInt v3)), some (.int (Int32.ofInt v4)), some (.int (Int32.ofInt v5)), none, none]) ⟨rfl, rfl, rfl, rfl, rfl, rfl, jz_ni, jz_ni, trivial⟩ h
  · replace h := h.2 c2
    refine jw_aload_n rfl rfl ?_
    refine jw_iload rfl rfl ?_
    refine jw_iload rfl rfl ?_
    refine jw_virt (k := 2) (c := 19) (as := [.int (Int32.ofInt v6), .int (Int32.ofInt v7)]) rfl rfl rfl (Nat.le_of_ble_eq_true rfl) rfl (Nat.le_of_ble_eq_true rfl) rfl rfl (jz_cv ?_)
    refine jm_Q.mono h (jp_v_mono (fun J10 K11 h => ?_))
    refine jw_goto rfl ?_
    exact jz_fg (l := [some (.ref 167), some (.int (Int32.ofInt v1)), some (.int (Int32.ofInt v2)), some (.int (Int32.ofInt v3)), some (.int (Int32.ofInt v4)), some (.int (Int32.ofInt v5)), none, none]) ⟨rfl, rfl, rfl, rfl, rfl, rfl, jz_ni, jz_ni, trivial⟩ h
set_option maxHeartbeats 4000000 in
theorem e_196_151 {xs : Nat → Int32} {L d : Nat} {v1 : Int} {v2 : Int} {v3 : Int} {v4 : Int} {v5 : Int} {J K : jZ} {P : jZ → jZ → Prop} (h : l_196_17 xs L (d + 1) v1 v2 v3 v4 (v5 + 1) J K P) : l_196_151 xs L (d + 1) v1 v2 v3 v4 v5 J K P := by
  unfold l_196_151
  refine jw_iinc (ls' := [some (.ref 167), some (.int (Int32.ofInt v1)), some (.int (Int32.ofInt v2)), some (.int (Int32.ofInt v3)), some (.int (Int32.ofInt v4)), some (.int (Int32.ofInt (v5 + 1))), none, none]) rfl rfl rfl ?_
  refine jw_goto rfl ?_
  exact jz_fg (l := [some (.ref 167), some (.int (Int32.ofInt v1)), some (.int (Int32.ofInt v2)), some (.int (Int32.ofInt v3)), some (.int (Int32.ofInt v4)), some (.int (Int32.ofInt (v5 + 1))), none, none]) ⟨rfl, rfl, rfl, rfl, rfl, rfl, jz_n0, jz_n0, trivial⟩ h
set_option maxHeartbeats 4000000 in
theorem e_197 {xs : Nat → Int32} {L d : Nat} {v1 : Int} {v2 : Int} {v3 : Int} {J K : jZ} {P : jZ → jZ → Prop} (h : l_197_3 xs L (d + 1) v1 v2 v3 0 J K P) : q_197 xs L (d + 2) v1 v2 v3 J K P := by
  unfold q_197
  refine jq_in (ls := [some (.ref 167), some (.int (Int32.ofInt v1)), some (.int (Int32.ofInt v2)), some (.int (Int32.ofInt v3)), none, none]) rfl (Nat.le_of_ble_eq_true rfl) rfl ?_
  refine jw_iconst rfl ?_
  refine jw_istore (ls' := [some (.ref 167), some (.int (Int32.ofInt v1)), some (.int (Int32.ofInt v2)), some (.int (Int32.ofInt v3)), some (.int (Int32.ofInt 0)), none]) rfl rfl ?_
  exact jz_fg (l := [some (.ref 167), some (.int (Int32.ofInt v1)), some (.int (Int32.ofInt v2)), some (.int (Int32.ofInt v3)), some (.int (Int32.ofInt 0)), none]) ⟨rfl, rfl, rfl, rfl, rfl, jz_n0, trivial⟩ h
set_option maxHeartbeats 4000000 in
theorem e_197_3 {xs : Nat → Int32} {L d : Nat} {v1 : Int} {v2 : Int} {v3 : Int} {v4 : Int} {J K : jZ} {P : jZ → jZ → Prop} (h : ((0 : Int) ≤ v2 ∧ v2 < 27) ∧ (-2147483648 ≤ v4 ∧ v4 < 2147483648) ∧ (-2147483648 ≤ J 195 v2.toNat ∧ J 195 v2.toNat < 2147483648) ∧ ((J 195 v2.toNat) ≤ v4 → P J K) ∧ (v4 < (J 195 v2.toNat) → (-2147483648 ≤ v1 ∧ v1 < 2147483648) ∧ (v1 = 7 → q_198 xs L (d + 1) v2 v4 v3 1 J K (fun r9 J7 K8 => (-2147483648 ≤ r9 ∧ r9 < 2147483648) ∧ (r9 ≤ 0 → l_197_49 xs L (d + 1) v1 v2 v3 v4 0 J7 K8 P) ∧ (0 < r9 → l_197_49 xs L (d + 1) v1 v2 v3 v4 1 J7 K8 P))) ∧ (¬ v1 = 7 → (¬ v1 = 8 → q_198 xs L (d + 1) v2 v4 v3 0 J K (fun r15 J13 K14 => (-2147483648 ≤ r15 ∧ r15 < 2147483648) ∧ (r15 ≤ 0 → l_197_49 xs L (d + 1) v1 v2 v3 v4 0 J13 K14 P) ∧ (0 < r15 → l_197_49 xs L (d + 1) v1 v2 v3 v4 1 J13 K14 P))) ∧ (v1 = 8 → q_198 xs L (d + 1) v2 v4 v3 1 J K (fun r20 J18 K19 => (-2147483648 ≤ r20 ∧ r20 < 2147483648) ∧ (r20 ≤ 0 → l_197_49 xs L (d + 1) v1 v2 v3 v4 0 J18 K19 P) ∧ (0 < r20 → l_197_49 xs L (d + 1) v1 v2 v3 v4 1 J18 K19 P)))))) : l_197_3 xs L (d + 1) v1 v2 v3 v4 J K P := by
  unfold l_197_3
  refine jw_iload rfl rfl ?_
  refine jw_aload_n rfl rfl ?_
  refine jw_gr (q := 195) rfl rfl rfl ?_
  refine jw_iload_n rfl rfl ?_
  obtain ⟨o1, h⟩ := h
  refine jw_iald (v := (J 195 v2.toNat)) (N := 27) rfl rfl rfl (by omega) o1 rfl ?_
  obtain ⟨o2, h⟩ := h
  obtain ⟨o3, h⟩ := h
  refine jw_ic_ge rfl o2 o3 (fun c4 => ?_) (fun c4 => ?_)
  · replace h := h.1 c4
    refine jw_vret rfl ?_
    exact h
  · replace h := h.2 c4
    refine jw_aload_n rfl rfl ?_
    refine jw_iload_n rfl rfl ?_
    refine jw_iload rfl rfl ?_
    refine jw_iload_n rfl rfl ?_
    refine jw_iload_n rfl rfl ?_
    refine jw_bipush rfl (by decide) ?_
    obtain ⟨o5, h⟩ := h
    refine jw_ic_eq rfl o5 (by omega) (fun c6 => ?_) (fun c6 => ?_)
    · replace h := h.1 c6
      refine jw_iconst rfl ?_
      refine jw_goto rfl ?_
      refine jw_virt (k := 4) (c := 19) (as := [.int (Int32.ofInt v2), .int (Int32.ofInt v4), .int (Int32.ofInt v3), .int (Int32.ofInt 1)]) rfl rfl rfl (Nat.le_of_ble_eq_true rfl) rfl (Nat.le_of_ble_eq_true rfl) rfl rfl (jz_ci ?_)
      refine jm_Q.mono h (jp_i_mono (fun r9 J7 K8 h => ?_))
      obtain ⟨o10, h⟩ := h
      refine jw_if_le rfl o10 (fun c11 => ?_) (fun c11 => ?_)
      · replace h := h.1 c11
        refine jw_iconst rfl ?_
        refine jw_istore (ls' := [some (.ref 167), some (.int (Int32.ofInt v1)), some (.int (Int32.ofInt v2)), some (.int (Int32.ofInt v3)), some (.int (Int32.ofInt v4)), some (.int (Int32.ofInt 0))]) rfl rfl ?_
        exact jz_fg (l := [some (.ref 167), some (.int (Int32.ofInt v1)), some (.int (Int32.ofInt v2)), some (.int (Int32.ofInt v3)), some (.int (Int32.ofInt v4)), some (.int (Int32.ofInt 0))]) ⟨rfl, rfl, rfl, rfl, rfl, rfl, trivial⟩ h
      · replace h := h.2 c11
        refine jw_iconst rfl ?_
        refine jw_goto rfl ?_
        refine jw_istore (ls' := [some (.ref 167), some (.int (Int32.ofInt v1)), some (.int (Int32.ofInt v2)), some (.int (Int32.ofInt v3)), some (.int (Int32.ofInt v4)), some (.int (Int32.ofInt 1))]) rfl rfl ?_
        exact jz_fg (l := [some (.ref 167), some (.int (Int32.ofInt v1)), some (.int (Int32.ofInt v2)), some (.int (Int32.ofInt v3)), some (.int (Int32.ofInt v4)), some (.int (Int32.ofInt 1))]) ⟨rfl, rfl, rfl, rfl, rfl, rfl, trivial⟩ h
    · replace h := h.2 c6
      refine jw_iload_n rfl rfl ?_
      refine jw_bipush rfl (by decide) ?_
      refine jw_ic_ne rfl o5 (by omega) (fun c12 => ?_) (fun c12 => ?_)
      · replace h := h.1 c12
        refine jw_iconst rfl ?_
        refine jw_virt (k := 4) (c := 19) (as := [.int (Int32.ofInt v2), .int (Int32.ofInt v4), .int (Int32.ofInt v3), .int (Int32.ofInt 0)]) rfl rfl rfl (Nat.le_of_ble_eq_true rfl) rfl (Nat.le_of_ble_eq_true rfl) rfl rfl (jz_ci ?_)
        refine jm_Q.mono h (jp_i_mono (fun r15 J13 K14 h => ?_))
        obtain ⟨o16, h⟩ := h
        refine jw_if_le rfl o16 (fun c17 => ?_) (fun c17 => ?_)
        · replace h := h.1 c17
          refine jw_iconst rfl ?_
          refine jw_istore (ls' := [some (.ref 167), some (.int (Int32.ofInt v1)), some (.int (Int32.ofInt v2)), some (.int (Int32.ofInt v3)), some (.int (Int32.ofInt v4)), some (.int (Int32.ofInt 0))]) rfl rfl ?_
          exact jz_fg (l := [some (.ref 167), some (.int (Int32.ofInt v1)), some (.int (Int32.ofInt v2)), some (.int (Int32.ofInt v3)), some (.int (Int32.ofInt v4)), some (.int (Int32.ofInt 0))]) ⟨rfl, rfl, rfl, rfl, rfl, rfl, trivial⟩ h
        · replace h := h.2 c17
          refine jw_iconst rfl ?_
          refine jw_goto rfl ?_
          refine jw_istore (ls' := [some (.ref 167), some (.int (Int32.ofInt v1)), some (.int (Int32.ofInt v2)), some (.int (Int32.ofInt v3)), some (.int (Int32.ofInt v4)), some (.int (Int32.ofInt 1))]) rfl rfl ?_
          exact jz_fg (l := [some (.ref 167), some (.int (Int32.ofInt v1)), some (.int (Int32.ofInt v2)), some (.int (Int32.ofInt v3)), some (.int (Int32.ofInt v4)), some (.int (Int32.ofInt 1))]) ⟨rfl, rfl, rfl, rfl, rfl, rfl, trivial⟩ h
      · replace h := h.2 c12
        refine jw_iconst rfl ?_
        refine jw_goto rfl ?_
        refine jw_virt (k := 4) (c := 19) (as := [.int (Int32.ofInt v2), .int (Int32.ofInt v4), .int (Int32.ofInt v3), .int (Int32.ofInt 1)]) rfl rfl rfl (Nat.le_of_ble_eq_true rfl) rfl (Nat.le_of_ble_eq_true rfl) rfl rfl (jz_ci ?_)
        refine jm_Q.mono h (jp_i_mono (fun r20 J18 K19 h => ?_))
        obtain ⟨o21, h⟩ := h
        refine jw_if_le rfl o21 (fun c22 => ?_) (fun c22 => ?_)
        · replace h := h.1 c22
          refine jw_iconst rfl ?_
          refine jw_istore (ls' := [some (.ref 167), some (.int (Int32.ofInt v1)), some (.int (Int32.ofInt v2)), some (.int (Int32.ofInt v3)), some (.int (Int32.ofInt v4)), some (.int (Int32.ofInt 0))]) rfl rfl ?_
          exact jz_fg (l := [some (.ref 167), some (.int (Int32.ofInt v1)), some (.int (Int32.ofInt v2)), some (.int (Int32.ofInt v3)), some (.int (Int32.ofInt v4)), some (.int (Int32.ofInt 0))]) ⟨rfl, rfl, rfl, rfl, rfl, rfl, trivial⟩ h
        · replace h := h.2 c22
          refine jw_iconst rfl ?_
          refine jw_goto rfl ?_
          refine jw_istore (ls' := [some (.ref 167), some (.int (Int32.ofInt v1)), some (.int (Int32.ofInt v2)), some (.int (Int32.ofInt v3)), some (.int (Int32.ofInt v4)), some (.int (Int32.ofInt 1))]) rfl rfl ?_
          exact jz_fg (l := [some (.ref 167), some (.int (Int32.ofInt v1)), some (.int (Int32.ofInt v2)), some (.int (Int32.ofInt v3)), some (.int (Int32.ofInt v4)), some (.int (Int32.ofInt 1))]) ⟨rfl, rfl, rfl, rfl, rfl, rfl, trivial⟩ h
set_option maxHeartbeats 4000000 in
theorem e_197_49 {xs : Nat → Int32} {L d : Nat} {v1 : Int} {v2 : Int} {v3 : Int} {v4 : Int} {v5 : Int} {J K : jZ} {P : jZ → jZ → Prop} (h : (-2147483648 ≤ v1 ∧ v1 < 2147483648) ∧ (v1 = 5 → (-2147483648 ≤ v5 ∧ v5 < 2147483648) ∧ (¬ v5 = 1 → l_197_88 xs L (d + 1) v1 v2 v3 v4 J K P) ∧ (v5 = 1 → ((0 : Int) ≤ ((v2 * 60) + v4) ∧ ((v2 * 60) + v4) < 1620) ∧ q_186 xs L (d + 1) (J 196 ((v2 * 60) + v4).toNat) (J 197 ((v2 * 60) + v4).toNat) J K (fun J6 K7 => l_197_88 xs L (d + 1) v1 v2 v3 v4 J6 K7 P))) ∧ (¬ v1 = 5 → (¬ v1 = 7 → (-2147483648 ≤ v5 ∧ v5 < 2147483648) ∧ (¬ v5 = 0 → l_197_88 xs L (d + 1) v1 v2 v3 v4 J K P) ∧ (v5 = 0 → ((0 : Int) ≤ ((v2 * 60) + v4) ∧ ((v2 * 60) + v4) < 1620) ∧ q_186 xs L (d + 1) (J 196 ((v2 * 60) + v4).toNat) (J 197 ((v2 * 60) + v4).toNat) J K (fun J12 K13 => l_197_88 xs L (d + 1) v1 v2 v3 v4 J12 K13 P))) ∧ (v1 = 7 → (-2147483648 ≤ v5 ∧ v5 < 2147483648) ∧ (¬ v5 = 1 → l_197_88 xs L (d + 1) v1 v2 v3 v4 J K P) ∧ (v5 = 1 → ((0 : Int) ≤ ((v2 * 60) + v4) ∧ ((v2 * 60) + v4) < 1620) ∧ q_186 xs L (d + 1) (J 196 ((v2 * 60) + v4).toNat) (J 197 ((v2 * 60) + v4).toNat) J K (fun J17 K18 => l_197_88 xs L (d + 1) v1 v2 v3 v4 J17 K18 P))))) : l_197_49 xs L (d + 1) v1 v2 v3 v4 v5 J K P := by
  unfold l_197_49
  refine jw_iload rfl rfl ?_
  refine jw_iload_n rfl rfl ?_
  refine jw_iconst rfl ?_
  obtain ⟨o1, h⟩ := h
  refine jw_ic_eq rfl o1 (by omega) (fun c2 => ?_) (fun c2 => ?_)
  · replace h := h.1 c2
    refine jw_iconst rfl ?_
    refine jw_goto rfl ?_
    obtain ⟨o3, h⟩ := h
    refine jw_ic_ne rfl o3 (by omega) (fun c4 => ?_) (fun c4 => ?_)
    · replace h := h.1 c4
      exact jz_fg (l := [some (.ref 167), some (.int (Int32.ofInt v1)), some (.int (Int32.ofInt v2)), some (.int (Int32.ofInt v3)), some (.int (Int32.ofInt v4)), none]) ⟨rfl, rfl, rfl, rfl, rfl, jz_ni, trivial⟩ h
    · replace h := h.2 c4
      refine jw_aload_n rfl rfl ?_
      refine jw_aload_n rfl rfl ?_
      refine jw_iload_n rfl rfl ?_
      refine jw_iload rfl rfl ?_
      refine jw_virt (k := 2) (c := 19) (as := [.int (Int32.ofInt v2), .int (Int32.ofInt v4)]) rfl rfl rfl (Nat.le_of_ble_eq_true rfl) rfl (Nat.le_of_ble_eq_true rfl) rfl rfl (jz_ci ?_)
      refine jq_in (ls := [some (.ref 167), some (.int (Int32.ofInt v2)), some (.int (Int32.ofInt v4))]) rfl (Nat.le_of_ble_eq_true rfl) rfl ?_
      refine jw_aload_n rfl rfl ?_
      refine jw_gr (q := 196) rfl rfl rfl ?_
      refine jw_iload_n rfl rfl ?_
      refine jw_bipush rfl (by decide) ?_
      refine jw_imul rfl ?_
      refine jw_iload_n rfl rfl ?_
      refine jw_iadd rfl ?_
      obtain ⟨o5, h⟩ := h
      refine jw_iald (v := (J 196 ((v2 * 60) + v4).toNat)) (N := 1620) rfl rfl rfl (by omega) o5 rfl ?_
      refine jw_iret rfl ?_
      refine jw_aload_n rfl rfl ?_
      refine jw_iload_n rfl rfl ?_
      refine jw_iload rfl rfl ?_
      refine jw_virt (k := 2) (c := 19) (as := [.int (Int32.ofInt v2), .int (Int32.ofInt v4)]) rfl rfl rfl (Nat.le_of_ble_eq_true rfl) rfl (Nat.le_of_ble_eq_true rfl) rfl rfl (jz_ci ?_)
      refine jq_in (ls := [some (.ref 167), some (.int (Int32.ofInt v2)), some (.int (Int32.ofInt v4))]) rfl (Nat.le_of_ble_eq_true rfl) rfl ?_
      refine jw_aload_n rfl rfl ?_
      refine jw_gr (q := 197) rfl rfl rfl ?_
      refine jw_iload_n rfl rfl ?_
      refine jw_bipush rfl (by decide) ?_
      refine jw_imul rfl ?_
      refine jw_iload_n rfl rfl ?_
      refine jw_iadd rfl ?_
      refine jw_iald (v := (J 197 ((v2 * 60) + v4).toNat)) (N := 1620) rfl rfl rfl (by omega) o5 rfl ?_
      refine jw_iret rfl ?_
      refine jw_virt (k := 2) (c := 19) (as := [.int (Int32.ofInt (J 196 ((v2 * 60) + v4).toNat)), .int (Int32.ofInt (J 197 ((v2 * 60) + v4).toNat))]) rfl rfl rfl (Nat.le_of_ble_eq_true rfl) rfl (Nat.le_of_ble_eq_true rfl) rfl rfl (jz_cv ?_)
      refine jm_Q.mono h (jp_v_mono (fun J6 K7 h => ?_))
      exact jz_fg (l := [some (.ref 167), some (.int (Int32.ofInt v1)), some (.int (Int32.ofInt v2)), some (.int (Int32.ofInt v3)), some (.int (Int32.ofInt v4)), none]) ⟨rfl, rfl, rfl, rfl, rfl, jz_ni, trivial⟩ h
  · replace h := h.2 c2
    refine jw_iload_n rfl rfl ?_
    refine jw_bipush rfl (by decide) ?_
    refine jw_ic_ne rfl o1 (by omega) (fun c8 => ?_) (fun c8 => ?_)
    · replace h := h.1 c8
      refine jw_iconst rfl ?_
      obtain ⟨o9, h⟩ := h
      refine jw_ic_ne rfl o9 (by omega) (fun c10 => ?_) (fun c10 => ?_)
      · replace h := h.1 c10
        exact jz_fg (l := [some (.ref 167), some (.int (Int32.ofInt v1)), some (.int (Int32.ofInt v2)), some (.int (Int32.ofInt v3)), some (.int (Int32.ofInt v4)), none]) ⟨rfl, rfl, rfl, rfl, rfl, jz_ni, trivial⟩ h
      · replace h := h.2 c10
        refine jw_aload_n rfl rfl ?_
        refine jw_aload_n rfl rfl ?_
        refine jw_iload_n rfl rfl ?_
        refine jw_iload rfl rfl ?_
        refine jw_virt (k := 2) (c := 19) (as := [.int (Int32.ofInt v2), .int (Int32.ofInt v4)]) rfl rfl rfl (Nat.le_of_ble_eq_true rfl) rfl (Nat.le_of_ble_eq_true rfl) rfl rfl (jz_ci ?_)
        refine jq_in (ls := [some (.ref 167), some (.int (Int32.ofInt v2)), some (.int (Int32.ofInt v4))]) rfl (Nat.le_of_ble_eq_true rfl) rfl ?_
        refine jw_aload_n rfl rfl ?_
        refine jw_gr (q := 196) rfl rfl rfl ?_
        refine jw_iload_n rfl rfl ?_
        refine jw_bipush rfl (by decide) ?_
        refine jw_imul rfl ?_
        refine jw_iload_n rfl rfl ?_
        refine jw_iadd rfl ?_
        obtain ⟨o11, h⟩ := h
        refine jw_iald (v := (J 196 ((v2 * 60) + v4).toNat)) (N := 1620) rfl rfl rfl (by omega) o11 rfl ?_
        refine jw_iret rfl ?_
        refine jw_aload_n rfl rfl ?_
        refine jw_iload_n rfl rfl ?_
        refine jw_iload rfl rfl ?_
        refine jw_virt (k := 2) (c := 19) (as := [.int (Int32.ofInt v2), .int (Int32.ofInt v4)]) rfl rfl rfl (Nat.le_of_ble_eq_true rfl) rfl (Nat.le_of_ble_eq_true rfl) rfl rfl (jz_ci ?_)
        refine jq_in (ls := [some (.ref 167), some (.int (Int32.ofInt v2)), some (.int (Int32.ofInt v4))]) rfl (Nat.le_of_ble_eq_true rfl) rfl ?_
        refine jw_aload_n rfl rfl ?_
        refine jw_gr (q := 197) rfl rfl rfl ?_
        refine jw_iload_n rfl rfl ?_
        refine jw_bipush rfl (by decide) ?_
        refine jw_imul rfl ?_
        refine jw_iload_n rfl rfl ?_
        refine jw_iadd rfl ?_
        refine jw_iald (v := (J 197 ((v2 * 60) + v4).toNat)) (N := 1620) rfl rfl rfl (by omega) o11 rfl ?_
        refine jw_iret rfl ?_
        refine jw_virt (k := 2) (c := 19) (as := [.int (Int32.ofInt (J 196 ((v2 * 60) + v4).toNat)), .int (Int32.ofInt (J 197 ((v2 * 60) + v4).toNat))]) rfl rfl rfl (Nat.le_of_ble_eq_true rfl) rfl (Nat.le_of_ble_eq_true rfl) rfl rfl (jz_cv ?_)
        refine jm_Q.mono h (jp_v_mono (fun J12 K13 h => ?_))
        exact jz_fg (l := [some (.ref 167), some (.int (Int32.ofInt v1)), some (.int (Int32.ofInt v2)), some (.int (Int32.ofInt v3)), some (.int (Int32.ofInt v4)), none]) ⟨rfl, rfl, rfl, rfl, rfl, jz_ni, trivial⟩ h
    · replace h := h.2 c8
      refine jw_iconst rfl ?_
      refine jw_goto rfl ?_
      obtain ⟨o14, h⟩ := h
      refine jw_ic_ne rfl o14 (by omega) (fun c15 => ?_) (fun c15 => ?_)
      · replace h := h.1 c15
        exact jz_fg (l := [some (.ref 167), some (.int (Int32.ofInt v1)), some (.int (Int32.ofInt v2)), some (.int (Int32.ofInt v3)), some (.int (Int32.ofInt v4)), none]) ⟨rfl, rfl, rfl, rfl, rfl, jz_ni, trivial⟩ h
      · replace h := h.2 c15
        refine jw_aload_n rfl rfl ?_
        refine jw_aload_n rfl rfl ?_
        refine jw_iload_n rfl rfl ?_
        refine jw_iload rfl rfl ?_
        refine jw_virt (k := 2) (c := 19) (as := [.int (Int32.ofInt v2), .int (Int32.ofInt v4)]) rfl rfl rfl (Nat.le_of_ble_eq_true rfl) rfl (Nat.le_of_ble_eq_true rfl) rfl rfl (jz_ci ?_)
        refine jq_in (ls := [some (.ref 167), some (.int (Int32.ofInt v2)), some (.int (Int32.ofInt v4))]) rfl (Nat.le_of_ble_eq_true rfl) rfl ?_
        refine jw_aload_n rfl rfl ?_
        refine jw_gr (q := 196) rfl rfl rfl ?_
        refine jw_iload_n rfl rfl ?_
        refine jw_bipush rfl (by decide) ?_
        refine jw_imul rfl ?_
        refine jw_iload_n rfl rfl ?_
        refine jw_iadd rfl ?_
        obtain ⟨o16, h⟩ := h
        refine jw_iald (v := (J 196 ((v2 * 60) + v4).toNat)) (N := 1620) rfl rfl rfl (by omega) o16 rfl ?_
        refine jw_iret rfl ?_
        refine jw_aload_n rfl rfl ?_
        refine jw_iload_n rfl rfl ?_
        refine jw_iload rfl rfl ?_
        refine jw_virt (k := 2) (c := 19) (as := [.int (Int32.ofInt v2), .int (Int32.ofInt v4)]) rfl rfl rfl (Nat.le_of_ble_eq_true rfl) rfl (Nat.le_of_ble_eq_true rfl) rfl rfl (jz_ci ?_)
        refine jq_in (ls := [some (.ref 167), some (.int (Int32.ofInt v2)), some (.int (Int32.ofInt v4))]) rfl (Nat.le_of_ble_eq_true rfl) rfl ?_
        refine jw_aload_n rfl rfl ?_
        refine jw_gr (q := 197) rfl rfl rfl ?_
        refine jw_iload_n rfl rfl ?_
        refine jw_bipush rfl (by decide) ?_
        refine jw_imul rfl ?_
        refine jw_iload_n rfl rfl ?_
        refine jw_iadd rfl ?_
        refine jw_iald (v := (J 197 ((v2 * 60) + v4).toNat)) (N := 1620) rfl rfl rfl (by omega) o16 rfl ?_
        refine jw_iret rfl ?_
        refine jw_virt (k := 2) (c := 19) (as := [.int (Int32.ofInt (J 196 ((v2 * 60) + v4).toNat)), .int (Int32.ofInt (J 197 ((v2 * 60) + v4).toNat))]) rfl rfl rfl (Nat.le_of_ble_eq_true rfl) rfl (Nat.le_of_ble_eq_true rfl) rfl rfl (jz_cv ?_)
        refine jm_Q.mono h (jp_v_mono (fun J17 K18 h => ?_))
        exact jz_fg (l := [some (.ref 167), some (.int (Int32.ofInt v1)), some (.int (Int32.ofInt v2)), some (.int (Int32.ofInt v3)), some (.int (Int32.ofInt v4)), none]) ⟨rfl, rfl, rfl, rfl, rfl, jz_ni, trivial⟩ h
set_option maxHeartbeats 4000000 in
theorem e_197_88 {xs : Nat → Int32} {L d : Nat} {v1 : Int} {v2 : Int} {v3 : Int} {v4 : Int} {J K : jZ} {P : jZ → jZ → Prop} (h : l_197_3 xs L (d + 1) v1 v2 v3 (v4 + 1) J K P) : l_197_88 xs L (d + 1) v1 v2 v3 v4 J K P := by
  unfold l_197_88
  refine jw_iinc (ls' := [some (.ref 167), some (.int (Int32.ofInt v1)), some (.int (Int32.ofInt v2)), some (.int (Int32.ofInt v3)), some (.int (Int32.ofInt (v4 + 1))), none]) rfl rfl rfl ?_
  refine jw_goto rfl ?_
  exact jz_fg (l := [some (.ref 167), some (.int (Int32.ofInt v1)), some (.int (Int32.ofInt v2)), some (.int (Int32.ofInt v3)), some (.int (Int32.ofInt (v4 + 1))), none]) ⟨rfl, rfl, rfl, rfl, rfl, jz_n0, trivial⟩ h
set_option maxHeartbeats 4000000 in
theorem e_198 {xs : Nat → Int32} {L d : Nat} {v1 : Int} {v2 : Int} {v3 : Int} {v4 : Int} {J K : jZ} {P : Int → jZ → jZ → Prop} (h : l_198_6 xs L d v1 v2 v3 v4 0 0 J K P) : q_198 xs L (d + 1) v1 v2 v3 v4 J K P := by
  unfold q_198
  refine jq_in (ls := [some (.ref 167), some (.int (Int32.ofInt v1)), some (.int (Int32.ofInt v2)), some (.int (Int32.ofInt v3)), some (.int (Int32.ofInt v4)), none, none]) rfl (Nat.le_of_ble_eq_true rfl) rfl ?_
  refine jw_iconst rfl ?_
  refine jw_istore (ls' := [some (.ref 167), some (.int (Int32.ofInt v1)), some (.int (Int32.ofInt v2)), some (.int (Int32.ofInt v3)), some (.int (Int32.ofInt v4)), some (.int (Int32.ofInt 0)), none]) rfl rfl ?_
  refine jw_iconst rfl ?_
  refine jw_istore (ls' := [some (.ref 167), some (.int (Int32.ofInt v1)), some (.int (Int32.ofInt v2)), some (.int (Int32.ofInt v3)), some (.int (Int32.ofInt v4)), some (.int (Int32.ofInt 0)), some (.int (Int32.ofInt 0))]) rfl rfl ?_
  exact jz_fg (l := [some (.ref 167), some (.int (Int32.ofInt v1)), some (.int (Int32.ofInt v2)), some (.int (Int32.ofInt v3)), some (.int (Int32.ofInt v4)), some (.int (Int32.ofInt 0)), some (.int (Int32.ofInt 0))]) ⟨rfl, rfl, rfl, rfl, rfl, rfl, rfl, trivial⟩ h
set_option maxHeartbeats 4000000 in
theorem e_198_6 {xs : Nat → Int32} {L d : Nat} {v1 : Int} {v2 : Int} {v3 : Int} {v4 : Int} {v5 : Int} {v6 : Int} {J K : jZ} {P : Int → jZ → jZ → Prop} (h : ((0 : Int) ≤ v3 ∧ v3 < 27) ∧ (-2147483648 ≤ v6 ∧ v6 < 2147483648) ∧ (-2147483648 ≤ J 195 v3.toNat ∧ J 195 v3.toNat < 2147483648) ∧ ((J 195 v3.toNat) ≤ v6 → P v5 J K) ∧ (v6 < (J 195 v3.toNat) → (-2147483648 ≤ v4 ∧ v4 < 2147483648) ∧ (v4 = 0 → q_199 xs L d v1 v2 v3 v6 J K (fun r9 J7 K8 => (-2147483648 ≤ r9 ∧ r9 < 2147483648) ∧ (r9 = 0 → l_198_6 xs L d v1 v2 v3 v4 (v5 + 0) (v6 + 1) J7 K8 P) ∧ (¬ r9 = 0 → l_198_6 xs L d v1 v2 v3 v4 (v5 + 1) (v6 + 1) J7 K8 P))) ∧ (¬ v4 = 0 → q_199 xs L d v3 v6 v1 v2 J K (fun r14 J12 K13 => (-2147483648 ≤ r14 ∧ r14 < 2147483648) ∧ (r14 = 0 → l_198_6 xs L d v1 v2 v3 v4 (v5 + 0) (v6 + 1) J12 K13 P) ∧ (¬ r14 = 0 → l_198_6 xs L d v1 v2 v3 v4 (v5 + 1) (v6 + 1) J12 K13 P))))) : l_198_6 xs L d v1 v2 v3 v4 v5 v6 J K P := by
  unfold l_198_6
  refine jw_iload rfl rfl ?_
  refine jw_aload_n rfl rfl ?_
  refine jw_gr (q := 195) rfl rfl rfl ?_
  refine jw_iload_n rfl rfl ?_
  obtain ⟨o1, h⟩ := h
  refine jw_iald (v := (J 195 v3.toNat)) (N := 27) rfl rfl rfl (by omega) o1 rfl ?_
  obtain ⟨o2, h⟩ := h
  obtain ⟨o3, h⟩ := h
  refine jw_ic_ge rfl o2 o3 (fun c4 => ?_) (fun c4 => ?_)
  · replace h := h.1 c4
    refine jw_iload rfl rfl ?_
    refine jw_iret rfl ?_
    exact h
  · replace h := h.2 c4
    refine jw_iload rfl rfl ?_
    refine jw_iload rfl rfl ?_
    obtain ⟨o5, h⟩ := h
    refine jw_if_eq rfl o5 (fun c6 => ?_) (fun c6 => ?_)
    · replace h := h.1 c6
      refine jw_aload_n rfl rfl ?_
      refine jw_iload_n rfl rfl ?_
      refine jw_iload_n rfl rfl ?_
      refine jw_iload_n rfl rfl ?_
      refine jw_iload rfl rfl ?_
      refine jw_virt (k := 4) (c := 19) (as := [.int (Int32.ofInt v1), .int (Int32.ofInt v2), .int (Int32.ofInt v3), .int (Int32.ofInt v6)]) rfl rfl rfl (Nat.le_of_ble_eq_true rfl) rfl (Nat.le_of_ble_eq_true rfl) rfl rfl (jz_ci ?_)
      refine jm_Q.mono h (jp_i_mono (fun r9 J7 K8 h => ?_))
      obtain ⟨o10, h⟩ := h
      refine jw_if_eq rfl o10 (fun c11 => ?_) (fun c11 => ?_)
      · replace h := h.1 c11
        refine jw_iconst rfl ?_
        refine jw_iadd rfl ?_
        refine jw_istore (ls' := [some (.ref 167), some (.int (Int32.ofInt v1)), some (.int (Int32.ofInt v2)), some (.int (Int32.ofInt v3)), some (.int (Int32.ofInt v4)), some (.int (Int32.ofInt (v5 + 0))), some (.int (Int32.ofInt v6))]) rfl rfl ?_
        refine jw_iinc (ls' := [some (.ref 167), some (.int (Int32.ofInt v1)), some (.int (Int32.ofInt v2)), some (.int (Int32.ofInt v3)), some (.int (Int32.ofInt v4)), some (.int (Int32.ofInt (v5 + 0))), some (.int (Int32.ofInt (v6 + 1)))]) rfl rfl rfl ?_
        refine jw_goto rfl ?_
        exact jz_fg (l := [some (.ref 167), some (.int (Int32.ofInt v1)), some (.int (Int32.ofInt v2)), some (.int (Int32.ofInt v3)), some (.int (Int32.ofInt v4)), some (.int (Int32.ofInt (v5 + 0))), some (.int (Int32.ofInt (v6 + 1)))]) ⟨rfl, rfl, rfl, rfl, rfl, rfl, rfl, trivial⟩ h
      · replace h := h.2 c11
        refine jw_iconst rfl ?_
        refine jw_goto rfl ?_
        refine jw_iadd rfl ?_
        refine jw_istore (ls' := [some (.ref 167), some (.int (Int32.ofInt v1)), some (.int (Int32.ofInt v2)), some (.int (Int32.ofInt v3)), some (.int (Int32.ofInt v4)), some (.int (Int32.ofInt (v5 + 1))), some (.int (Int32.ofInt v6))]) rfl rfl ?_
        refine jw_iinc (ls' := [some (.ref 167), some (.int (Int32.ofInt v1)), some (.int (Int32.ofInt v2)), some (.int (Int32.ofInt v3)), some (.int (Int32.ofInt v4)), some (.int (Int32.ofInt (v5 + 1))), some (.int (Int32.ofInt (v6 + 1)))]) rfl rfl rfl ?_
        refine jw_goto rfl ?_
        exact jz_fg (l := [some (.ref 167), some (.int (Int32.ofInt v1)), some (.int (Int32.ofInt v2)), some (.int (Int32.ofInt v3)), some (.int (Int32.ofInt v4)), some (.int (Int32.ofInt (v5 + 1))), some (.int (Int32.ofInt (v6 + 1)))]) ⟨rfl, rfl, rfl, rfl, rfl, rfl, rfl, trivial⟩ h
    · replace h := h.2 c6
      refine jw_aload_n rfl rfl ?_
      refine jw_iload_n rfl rfl ?_
      refine jw_iload rfl rfl ?_
      refine jw_iload_n rfl rfl ?_
      refine jw_iload_n rfl rfl ?_
      refine jw_virt (k := 4) (c := 19) (as := [.int (Int32.ofInt v3), .int (Int32.ofInt v6), .int (Int32.ofInt v1), .int (Int32.ofInt v2)]) rfl rfl rfl (Nat.le_of_ble_eq_true rfl) rfl (Nat.le_of_ble_eq_true rfl) rfl rfl (jz_ci ?_)
      refine jm_Q.mono h (jp_i_mono (fun r14 J12 K13 h => ?_))
      obtain ⟨o15, h⟩ := h
      refine jw_if_eq rfl o15 (fun c16 => ?_) (fun c16 => ?_)
      · replace h := h.1 c16
        refine jw_iconst rfl ?_
        refine jw_goto rfl ?_
        refine jw_iadd rfl ?_
        refine jw_istore (ls' := [some (.ref 167), some (.int (Int32.ofInt v1)), some (.int (Int32.ofInt v2)), some (.int (Int32.ofInt v3)), some (.int (Int32.ofInt v4)), some (.int (Int32.ofInt (v5 + 0))), some (.int (Int32.ofInt v6))]) rfl rfl ?_
        refine jw_iinc (ls' := [some (.ref 167), some (.int (Int32.ofInt v1)), some (.int (Int32.ofInt v2)), some (.int (Int32.ofInt v3)), some (.int (Int32.ofInt v4)), some (.int (Int32.ofInt (v5 + 0))), some (.int (Int32.ofInt (v6 + 1)))]) rfl rfl rfl ?_
        refine jw_goto rfl ?_
        exact jz_fg (l := [some (.ref 167), some (.int (Int32.ofInt v1)), some (.int (Int32.ofInt v2)), some (.int (Int32.ofInt v3)), some (.int (Int32.ofInt v4)), some (.int (Int32.ofInt (v5 + 0))), some (.int (Int32.ofInt (v6 + 1)))]) ⟨rfl, rfl, rfl, rfl, rfl, rfl, rfl, trivial⟩ h
      · replace h := h.2 c16
        refine jw_iconst rfl ?_
        refine jw_goto rfl ?_
        refine jw_iadd rfl ?_
        refine jw_istore (ls' := [some (.ref 167), some (.int (Int32.ofInt v1)), some (.int (Int32.ofInt v2)), some (.int (Int32.ofInt v3)), some (.int (Int32.ofInt v4)), some (.int (Int32.ofInt (v5 + 1))), some (.int (Int32.ofInt v6))]) rfl rfl ?_
        refine jw_iinc (ls' := [some (.ref 167), some (.int (Int32.ofInt v1)), some (.int (Int32.ofInt v2)), some (.int (Int32.ofInt v3)), some (.int (Int32.ofInt v4)), some (.int (Int32.ofInt (v5 + 1))), some (.int (Int32.ofInt (v6 + 1)))]) rfl rfl rfl ?_
        refine jw_goto rfl ?_
        exact jz_fg (l := [some (.ref 167), some (.int (Int32.ofInt v1)), some (.int (Int32.ofInt v2)), some (.int (Int32.ofInt v3)), some (.int (Int32.ofInt v4)), some (.int (Int32.ofInt (v5 + 1))), some (.int (Int32.ofInt (v6 + 1)))]) ⟨rfl, rfl, rfl, rfl, rfl, rfl, rfl, trivial⟩ h
set_option maxHeartbeats 4000000 in
theorem e_199 {xs : Nat → Int32} {L d : Nat} {v1 : Int} {v2 : Int} {v3 : Int} {v4 : Int} {J K : jZ} {P : Int → jZ → jZ → Prop} (h : ((0 : Int) ≤ ((v1 * 60) + v2) ∧ ((v1 * 60) + v2) < 1620) ∧ ((0 : Int) ≤ ((v3 * 60) + v4) ∧ ((v3 * 60) + v4) < 1620) ∧ (-2147483648 ≤ J 196 ((v1 * 60) + v2).toNat ∧ J 196 ((v1 * 60) + v2).toNat < 2147483648) ∧ (-2147483648 ≤ J 196 ((v3 * 60) + v4).toNat ∧ J 196 ((v3 * 60) + v4).toNat < 2147483648) ∧ ((J 196 ((v1 * 60) + v2).toNat) < (J 196 ((v3 * 60) + v4).toNat) → P 0 J K) ∧ ((J 196 ((v3 * 60) + v4).toNat) ≤ (J 196 ((v1 * 60) + v2).toNat) → (-2147483648 ≤ J 197 ((v1 * 60) + v2).toNat ∧ J 197 ((v1 * 60) + v2).toNat < 2147483648) ∧ (-2147483648 ≤ J 197 ((v3 * 60) + v4).toNat ∧ J 197 ((v3 * 60) + v4).toNat < 2147483648) ∧ ((J 197 ((v3 * 60) + v4).toNat) < (J 197 ((v1 * 60) + v2).toNat) → P 0 J K) ∧ ((J 197 ((v1 * 60) + v2).toNat) ≤ (J 197 ((v3 * 60) + v4).toNat) → P 1 J K))) : q_199 xs L (d + 2) v1 v2 v3 v4 J K P := by
  unfold q_199
  refine jq_in (ls := [some (.ref 167), some (.int (Int32.ofInt v1)), some (.int (Int32.ofInt v2)), some (.int (Int32.ofInt v3)), some (.int (Int32.ofInt v4))]) rfl (Nat.le_of_ble_eq_true rfl) rfl ?_
  refine jw_aload_n rfl rfl ?_
  refine jw_iload_n rfl rfl ?_
  refine jw_iload_n rfl rfl ?_
  refine jw_virt (k := 2) (c := 19) (as := [.int (Int32.ofInt v1), .int (Int32.ofInt v2)]) rfl rfl rfl (Nat.le_of_ble_eq_true rfl) rfl (Nat.le_of_ble_eq_true rfl) rfl rfl (jz_ci ?_)
  refine jq_in (ls := [some (.ref 167), some (.int (Int32.ofInt v1)), some (.int (Int32.ofInt v2))]) rfl (Nat.le_of_ble_eq_true rfl) rfl ?_
  refine jw_aload_n rfl rfl ?_
  refine jw_gr (q := 196) rfl rfl rfl ?_
  refine jw_iload_n rfl rfl ?_
  refine jw_bipush rfl (by decide) ?_
  refine jw_imul rfl ?_
  refine jw_iload_n rfl rfl ?_
  refine jw_iadd rfl ?_
  obtain ⟨o1, h⟩ := h
  refine jw_iald (v := (J 196 ((v1 * 60) + v2).toNat)) (N := 1620) rfl rfl rfl (by omega) o1 rfl ?_
  refine jw_iret rfl ?_
  refine jw_aload_n rfl rfl ?_
  refine jw_iload_n rfl rfl ?_
  refine jw_iload rfl rfl ?_
  refine jw_virt (k := 2) (c := 19) (as := [.int (Int32.ofInt v3), .int (Int32.ofInt v4)]) rfl rfl rfl (Nat.le_of_ble_eq_true rfl) rfl (Nat.le_of_ble_eq_true rfl) rfl rfl (jz_ci ?_)
  refine jq_in (ls := [some (.ref 167), some (.int (Int32.ofInt v3)), some (.int (Int32.ofInt v4))]) rfl (Nat.le_of_ble_eq_true rfl) rfl ?_
  refine jw_aload_n rfl rfl ?_
  refine jw_gr (q := 196) rfl rfl rfl ?_
  refine jw_iload_n rfl rfl ?_
  refine jw_bipush rfl (by decide) ?_
  refine jw_imul rfl ?_
  refine jw_iload_n rfl rfl ?_
  refine jw_iadd rfl ?_
  obtain ⟨o2, h⟩ := h
  refine jw_iald (v := (J 196 ((v3 * 60) + v4).toNat)) (N := 1620) rfl rfl rfl (by omega) o2 rfl ?_
  refine jw_iret rfl ?_
  obtain ⟨o3, h⟩ := h
  obtain ⟨o4, h⟩ := h
  refine jw_ic_lt rfl o3 o4 (fun c5 => ?_) (fun c5 => ?_)
  · replace h := h.1 c5
    refine jw_iconst rfl ?_
    refine jw_zret rfl (by omega) ?_
    exact h
  · replace h := h.2 c5
    refine jw_aload_n rfl rfl ?_
    refine jw_iload_n rfl rfl ?_
    refine jw_iload_n rfl rfl ?_
    refine jw_virt (k := 2) (c := 19) (as := [.int (Int32.ofInt v1), .int (Int32.ofInt v2)]) rfl rfl rfl (Nat.le_of_ble_eq_true rfl) rfl (Nat.le_of_ble_eq_true rfl) rfl rfl (jz_ci ?_)
    refine jq_in (ls := [some (.ref 167), some (.int (Int32.ofInt v1)), some (.int (Int32.ofInt v2))]) rfl (Nat.le_of_ble_eq_true rfl) rfl ?_
    refine jw_aload_n rfl rfl ?_
    refine jw_gr (q := 197) rfl rfl rfl ?_
    refine jw_iload_n rfl rfl ?_
    refine jw_bipush rfl (by decide) ?_
    refine jw_imul rfl ?_
    refine jw_iload_n rfl rfl ?_
    refine jw_iadd rfl ?_
    refine jw_iald (v := (J 197 ((v1 * 60) + v2).toNat)) (N := 1620) rfl rfl rfl (by omega) o1 rfl ?_
    refine jw_iret rfl ?_
    refine jw_aload_n rfl rfl ?_
    refine jw_iload_n rfl rfl ?_
    refine jw_iload rfl rfl ?_
    refine jw_virt (k := 2) (c := 19) (as := [.int (Int32.ofInt v3), .int (Int32.ofInt v4)]) rfl rfl rfl (Nat.le_of_ble_eq_true rfl) rfl (Nat.le_of_ble_eq_true rfl) rfl rfl (jz_ci ?_)
    refine jq_in (ls := [some (.ref 167), some (.int (Int32.ofInt v3)), some (.int (Int32.ofInt v4))]) rfl (Nat.le_of_ble_eq_true rfl) rfl ?_
    refine jw_aload_n rfl rfl ?_
    refine jw_gr (q := 197) rfl rfl rfl ?_
    refine jw_iload_n rfl rfl ?_
    refine jw_bipush rfl (by decide) ?_
    refine jw_imul rfl ?_
    refine jw_iload_n rfl rfl ?_
    refine jw_iadd rfl ?_
    refine jw_iald (v := (J 197 ((v3 * 60) + v4).toNat)) (N := 1620) rfl rfl rfl (by omega) o2 rfl ?_
    refine jw_iret rfl ?_
    obtain ⟨o6, h⟩ := h
    obtain ⟨o7, h⟩ := h
    refine jw_ic_gt rfl o6 o7 (fun c8 => ?_) (fun c8 => ?_)
    · replace h := h.1 c8
      refine jw_iconst rfl ?_
      refine jw_zret rfl (by omega) ?_
      exact h
    · replace h := h.2 c8
      refine jw_iconst rfl ?_
      refine jw_goto rfl ?_
      refine jw_zret rfl (by omega) ?_
      exact h
set_option maxHeartbeats 4000000 in
theorem e_200 {xs : Nat → Int32} {L d : Nat} {v1 : Int} {J K : jZ} {P : Int → jZ → jZ → Prop} (h : (-2147483648 ≤ v1 ∧ v1 < 2147483648) ∧ ((0 ≤ v1 ∧ v1 ≤ 15) → (-2147483648 ≤ J 167 9 ∧ J 167 9 < 2147483648) ∧ (¬ (J 167 9) = 60 → q_201 xs L (d + 1) v1 J K (fun J5 K6 => P ((J5 167 9) - 1) J5 K6)) ∧ ((J 167 9) = 60 → q_170 xs L (d + 1) (-6) J K (fun r9 J7 K8 => P r9 J7 K8))) ∧ (¬ (0 ≤ v1 ∧ v1 ≤ 15) → q_170 xs L (d + 1) (-2) J K (fun r12 J10 K11 => P r12 J10 K11))) : q_200 xs L (d + 2) v1 J K P := by
  unfold q_200
  refine jq_in (ls := [some (.ref 167), some (.int (Int32.ofInt v1))]) rfl (Nat.le_of_ble_eq_true rfl) rfl ?_
  refine jw_iload_n rfl rfl ?_
  obtain ⟨o1, h⟩ := h
  refine jw_i2l rfl o1 ?_
  refine jw_lconst (x := 0) rfl rfl ?_
  refine jw_ldc2_w rfl ?_
  refine jw_stat (k := 3) (as := [.long (Int64.ofInt v1), .long (Int64.ofInt 0), .long (Int64.ofInt 15)]) rfl (by decide) rfl rfl (Nat.le_of_ble_eq_true rfl) rfl (Nat.le_of_ble_eq_true rfl) (jz_ci ?_)
  refine sb_169 (by omega) (by omega) (by omega) (fun c2 => ?_) (fun c2 => ?_)
  · replace h := h.1 c2
    refine jw_if_ne rfl (by omega) (fun _ => ?_) (fun hc => by exfalso; omega)
    refine jw_aload_n rfl rfl ?_
    refine jw_gf (v := (J 167 9)) rfl (by decide) rfl rfl ?_
    refine jw_bipush rfl (by decide) ?_
    obtain ⟨o3, h⟩ := h
    refine jw_ic_ne rfl o3 (by omega) (fun c4 => ?_) (fun c4 => ?_)
    · replace h := h.1 c4
      refine jw_aload_n rfl rfl ?_
      refine jw_iload_n rfl rfl ?_
      refine jw_virt (k := 1) (c := 19) (as := [.int (Int32.ofInt v1)]) rfl rfl rfl (Nat.le_of_ble_eq_true rfl) rfl (Nat.le_of_ble_eq_true rfl) rfl rfl (jz_cv ?_)
      refine jm_Q.mono h (jp_v_mono (fun J5 K6 h => ?_))
      refine jw_aload_n rfl rfl ?_
      refine jw_gf (v := (J5 167 9)) rfl (by decide) rfl rfl ?_
      refine jw_iconst rfl ?_
      refine jw_isub rfl ?_
      refine jw_iret rfl ?_
      exact h
    · replace h := h.2 c4
      refine jw_aload_n rfl rfl ?_
      refine jw_bipush rfl (by decide) ?_
      refine jw_virt (k := 1) (c := 19) (as := [.int (Int32.ofInt (-6))]) rfl rfl rfl (Nat.le_of_ble_eq_true rfl) rfl (Nat.le_of_ble_eq_true rfl) rfl rfl (jz_ci ?_)
      refine jm_Q.mono h (jp_i_mono (fun r9 J7 K8 h => ?_))
      refine jw_iret rfl ?_
      exact h
  · replace h := h.2 c2
    refine jw_if_ne rfl (by omega) (fun hc => by exfalso; omega) (fun _ => ?_)
    refine jw_aload_n rfl rfl ?_
    refine jw_bipush rfl (by decide) ?_
    refine jw_virt (k := 1) (c := 19) (as := [.int (Int32.ofInt (-2))]) rfl rfl rfl (Nat.le_of_ble_eq_true rfl) rfl (Nat.le_of_ble_eq_true rfl) rfl rfl (jz_ci ?_)
    refine jm_Q.mono h (jp_i_mono (fun r12 J10 K11 h => ?_))
    refine jw_iret rfl ?_
    exact h
set_option maxHeartbeats 4000000 in
theorem e_201 {xs : Nat → Int32} {L d : Nat} {v1 : Int} {J K : jZ} {P : jZ → jZ → Prop} (h : ((0 : Int) ≤ J 167 9 ∧ J 167 9 < 60) ∧ P (jm_up (jm_up (jm_up (jm_up J 184 (J 167 9).toNat v1) 185 (J 167 9).toNat 0) 167 9 ((J 167 9) + 1)) 167 26 0) K) : q_201 xs L (d + 1) v1 J K P := by
  unfold q_201
  refine jq_in (ls := [some (.ref 167), some (.int (Int32.ofInt v1))]) rfl (Nat.le_of_ble_eq_true rfl) rfl ?_
  refine jw_aload_n rfl rfl ?_
  refine jw_gr (q := 184) rfl rfl rfl ?_
  refine jw_aload_n rfl rfl ?_
  refine jw_gf (v := (J 167 9)) rfl (by decide) rfl rfl ?_
  refine jw_iload_n rfl rfl ?_
  obtain ⟨o1, h⟩ := h
  refine jw_iast (N := 60) rfl rfl rfl (by omega) o1 ?_
  refine jw_aload_n rfl rfl ?_
  refine jw_gr (q := 185) rfl rfl rfl ?_
  refine jw_aload_n rfl rfl ?_
  refine jw_gf (v := (J 167 9)) rfl (by decide) rfl (by simp [jm_up]) ?_
  refine jw_iconst rfl ?_
  refine jw_iast (N := 60) rfl rfl rfl (by omega) o1 ?_
  refine jw_aload_n rfl rfl ?_
  refine jw_dup_r rfl ?_
  refine jw_gf (v := (J 167 9)) rfl (by decide) rfl (by simp [jm_up]) ?_
  refine jw_iconst rfl ?_
  refine jw_iadd rfl ?_
  refine jw_pf rfl rfl ?_
  refine jw_aload_n rfl rfl ?_
  refine jw_iconst rfl ?_
  refine jw_pfz rfl rfl (by omega) ?_
  refine jw_vret rfl ?_
  exact h
set_option maxHeartbeats 4000000 in
theorem e_202 {xs : Nat → Int32} {L d : Nat} {v1 : Int} {J K : jZ} {P : Int → jZ → jZ → Prop} (h : (-2147483648 ≤ v1 ∧ v1 < 2147483648) ∧ ((1 ≤ v1 ∧ v1 ≤ 2) → (-2147483648 ≤ J 167 9 ∧ J 167 9 < 2147483648) ∧ ((J 167 9) = 0 → q_170 xs L (d + 1) (-5) J K (fun r7 J5 K6 => P r7 J5 K6)) ∧ (¬ (J 167 9) = 0 → ((0 : Int) ≤ ((J 167 9) - 1) ∧ ((J 167 9) - 1) < 60) ∧ (-2147483648 ≤ J 185 ((J 167 9) - 1).toNat ∧ J 185 ((J 167 9) - 1).toNat < 2147483648) ∧ ((J 185 ((J 167 9) - 1).toNat) < v1 → P (J 185 ((J 167 9) - 1).toNat) (jm_up (jm_up J 185 ((J 167 9) - 1).toNat v1) 167 26 0) K) ∧ (v1 ≤ (J 185 ((J 167 9) - 1).toNat) → q_170 xs L (d + 1) (-5) J K (fun r13 J11 K12 => P r13 J11 K12)))) ∧ (¬ (1 ≤ v1 ∧ v1 ≤ 2) → q_170 xs L (d + 1) (-2) J K (fun r16 J14 K15 => P r16 J14 K15))) : q_202 xs L (d + 2) v1 J K P := by
  unfold q_202
  refine jq_in (ls := [some (.ref 167), some (.int (Int32.ofInt v1)), none]) rfl (Nat.le_of_ble_eq_true rfl) rfl ?_
  refine jw_iload_n rfl rfl ?_
  obtain ⟨o1, h⟩ := h
  refine jw_i2l rfl o1 ?_
  refine jw_lconst (x := 1) rfl rfl ?_
  refine jw_ldc2_w rfl ?_
  refine jw_stat (k := 3) (as := [.long (Int64.ofInt v1), .long (Int64.ofInt 1), .long (Int64.ofInt 2)]) rfl (by decide) rfl rfl (Nat.le_of_ble_eq_true rfl) rfl (Nat.le_of_ble_eq_true rfl) (jz_ci ?_)
  refine sb_169 (by omega) (by omega) (by omega) (fun c2 => ?_) (fun c2 => ?_)
  · replace h := h.1 c2
    refine jw_if_ne rfl (by omega) (fun _ => ?_) (fun hc => by exfalso; omega)
    refine jw_aload_n rfl rfl ?_
    refine jw_gf (v := (J 167 9)) rfl (by decide) rfl rfl ?_
    obtain ⟨o3, h⟩ := h
    refine jw_if_eq rfl o3 (fun c4 => ?_) (fun c4 => ?_)
    · replace h := h.1 c4
      refine jw_aload_n rfl rfl ?_
      refine jw_bipush rfl (by decide) ?_
      refine jw_virt (k := 1) (c := 19) (as := [.int (Int32.ofInt (-5))]) rfl rfl rfl (Nat.le_of_ble_eq_true rfl) rfl (Nat.le_of_ble_eq_true rfl) rfl rfl (jz_ci ?_)
      refine jm_Q.mono h (jp_i_mono (fun r7 J5 K6 h => ?_))
      refine jw_iret rfl ?_
      exact h
    · replace h := h.2 c4
      refine jw_aload_n rfl rfl ?_
      refine jw_gr (q := 185) rfl rfl rfl ?_
      refine jw_aload_n rfl rfl ?_
      refine jw_gf (v := (J 167 9)) rfl (by decide) rfl rfl ?_
      refine jw_iconst rfl ?_
      refine jw_isub rfl ?_
      obtain ⟨o8, h⟩ := h
      refine jw_iald (v := (J 185 ((J 167 9) - 1).toNat)) (N := 60) rfl rfl rfl (by omega) o8 rfl ?_
      refine jw_iload_n rfl rfl ?_
      obtain ⟨o9, h⟩ := h
      refine jw_ic_lt rfl o9 o1 (fun c10 => ?_) (fun c10 => ?_)
      · replace h := h.1 c10
        refine jw_aload_n rfl rfl ?_
        refine jw_gr (q := 185) rfl rfl rfl ?_
        refine jw_aload_n rfl rfl ?_
        refine jw_gf (v := (J 167 9)) rfl (by decide) rfl rfl ?_
        refine jw_iconst rfl ?_
        refine jw_isub rfl ?_
        refine jw_iald (v := (J 185 ((J 167 9) - 1).toNat)) (N := 60) rfl rfl rfl (by omega) o8 rfl ?_
        refine jw_istore_n (ls' := [some (.ref 167), some (.int (Int32.ofInt v1)), some (.int (Int32.ofInt (J 185 ((J 167 9) - 1).toNat)))]) rfl rfl ?_
        refine jw_aload_n rfl rfl ?_
        refine jw_gr (q := 185) rfl rfl rfl ?_
        refine jw_aload_n rfl rfl ?_
        refine jw_gf (v := (J 167 9)) rfl (by decide) rfl rfl ?_
        refine jw_iconst rfl ?_
        refine jw_isub rfl ?_
        refine jw_iload_n rfl rfl ?_
        refine jw_iast (N := 60) rfl rfl rfl (by omega) o8 ?_
        refine jw_aload_n rfl rfl ?_
        refine jw_iconst rfl ?_
        refine jw_pfz rfl rfl (by omega) ?_
        refine jw_iload_n rfl rfl ?_
        refine jw_iret rfl ?_
        exact h
      · replace h := h.2 c10
        refine jw_aload_n rfl rfl ?_
        refine jw_bipush rfl (by decide) ?_
        refine jw_virt (k := 1) (c := 19) (as := [.int (Int32.ofInt (-5))]) rfl rfl rfl (Nat.le_of_ble_eq_true rfl) rfl (Nat.le_of_ble_eq_true rfl) rfl rfl (jz_ci ?_)
        refine jm_Q.mono h (jp_i_mono (fun r13 J11 K12 h => ?_))
        refine jw_iret rfl ?_
        exact h
  · replace h := h.2 c2
    refine jw_if_ne rfl (by omega) (fun hc => by exfalso; omega) (fun _ => ?_)
    refine jw_aload_n rfl rfl ?_
    refine jw_bipush rfl (by decide) ?_
    refine jw_virt (k := 1) (c := 19) (as := [.int (Int32.ofInt (-2))]) rfl rfl rfl (Nat.le_of_ble_eq_true rfl) rfl (Nat.le_of_ble_eq_true rfl) rfl rfl (jz_ci ?_)
    refine jm_Q.mono h (jp_i_mono (fun r16 J14 K15 h => ?_))
    refine jw_iret rfl ?_
    exact h
set_option maxHeartbeats 4000000 in
theorem e_204 {xs : Nat → Int32} {L d : Nat} {v1 : Int} {J K : jZ} {P : Int → jZ → jZ → Prop} (h : (-2147483648 ≤ v1 ∧ v1 < 2147483648) ∧ (-2147483648 ≤ ((J 167 9) - 1) ∧ ((J 167 9) - 1) < 2147483648) ∧ ((0 ≤ v1 ∧ v1 ≤ ((J 167 9) - 1)) → P 1 J K) ∧ (¬ (0 ≤ v1 ∧ v1 ≤ ((J 167 9) - 1)) → P 0 J K)) : q_204 xs L (d + 2) v1 J K P := by
  unfold q_204
  refine jq_in (ls := [some (.ref 167), some (.int (Int32.ofInt v1))]) rfl (Nat.le_of_ble_eq_true rfl) rfl ?_
  refine jw_iload_n rfl rfl ?_
  obtain ⟨o1, h⟩ := h
  refine jw_i2l rfl o1 ?_
  refine jw_lconst (x := 0) rfl rfl ?_
  refine jw_aload_n rfl rfl ?_
  refine jw_gf (v := (J 167 9)) rfl (by decide) rfl rfl ?_
  refine jw_iconst rfl ?_
  refine jw_isub rfl ?_
  obtain ⟨o2, h⟩ := h
  refine jw_i2l rfl o2 ?_
  refine jw_stat (k := 3) (as := [.long (Int64.ofInt v1), .long (Int64.ofInt 0), .long (Int64.ofInt ((J 167 9) - 1))]) rfl (by decide) rfl rfl (Nat.le_of_ble_eq_true rfl) rfl (Nat.le_of_ble_eq_true rfl) (jz_ci ?_)
  refine sb_169 (by omega) (by omega) (by omega) (fun c3 => ?_) (fun c3 => ?_)
  · replace h := h.1 c3
    refine jw_zret rfl (by omega) ?_
    exact h
  · replace h := h.2 c3
    refine jw_zret rfl (by omega) ?_
    exact h
set_option maxHeartbeats 4000000 in
theorem sb_204 {xs : Nat → Int32} {L d : Nat} {v1 : Int} {J K : jZ} {P : Int → jZ → jZ → Prop} (o0 : -2147483648 ≤ v1 ∧ v1 < 2147483648) (o1 : -2147483648 ≤ ((J 167 9) - 1) ∧ ((J 167 9) - 1) < 2147483648) (h1 : ((0 : Int) ≤ v1 ∧ v1 < (J 167 9)) → P 1 J K) (h0 : ¬ ((0 : Int) ≤ v1 ∧ v1 < (J 167 9)) → P 0 J K) : q_204 xs L (d + 2) v1 J K P := by
  refine e_204 ?_
  repeat' (first | exact h1 (by omega) | exact h0 (by omega) | refine ⟨by omega, ?_⟩ | refine ⟨fun _ => ?_, fun _ => ?_⟩)
set_option maxHeartbeats 4000000 in
theorem e_203 {xs : Nat → Int32} {L d : Nat} {v1 : Int} {v2 : Int} {J K : jZ} {P : Int → jZ → jZ → Prop} (h : (-2147483648 ≤ v1 ∧ v1 < 2147483648) ∧ (-2147483648 ≤ ((J 167 9) - 1) ∧ ((J 167 9) - 1) < 2147483648) ∧ (((0 : Int) ≤ v1 ∧ v1 < (J 167 9)) → (-2147483648 ≤ v2 ∧ v2 < 2147483648) ∧ ((0 ≤ v2 ∧ v2 ≤ 15) → ((0 : Int) ≤ v1 ∧ v1 < 60) ∧ P (J 184 v1.toNat) (jm_up (jm_up J 184 v1.toNat v2) 167 26 0) K) ∧ (¬ (0 ≤ v2 ∧ v2 ≤ 15) → q_170 xs L (d + 2) (-2) J K (fun r9 J7 K8 => P r9 J7 K8))) ∧ (¬ ((0 : Int) ≤ v1 ∧ v1 < (J 167 9)) → q_170 xs L (d + 2) (-2) J K (fun r12 J10 K11 => P r12 J10 K11))) : q_203 xs L (d + 3) v1 v2 J K P := by
  unfold q_203
  refine jq_in (ls := [some (.ref 167), some (.int (Int32.ofInt v1)), some (.int (Int32.ofInt v2)), none]) rfl (Nat.le_of_ble_eq_true rfl) rfl ?_
  refine jw_aload_n rfl rfl ?_
  refine jw_iload_n rfl rfl ?_
  refine jw_virt (k := 1) (c := 19) (as := [.int (Int32.ofInt v1)]) rfl rfl rfl (Nat.le_of_ble_eq_true rfl) rfl (Nat.le_of_ble_eq_true rfl) rfl rfl (jz_ci ?_)
  obtain ⟨o1, h⟩ := h
  obtain ⟨o2, h⟩ := h
  refine sb_204 o1 o2 (fun c3 => ?_) (fun c3 => ?_)
  · replace h := h.1 c3
    refine jw_if_eq rfl (by omega) (fun hc => by exfalso; omega) (fun _ => ?_)
    refine jw_iload_n rfl rfl ?_
    obtain ⟨o4, h⟩ := h
    refine jw_i2l rfl o4 ?_
    refine jw_lconst (x := 0) rfl rfl ?_
    refine jw_ldc2_w rfl ?_
    refine jw_stat (k := 3) (as := [.long (Int64.ofInt v2), .long (Int64.ofInt 0), .long (Int64.ofInt 15)]) rfl (by decide) rfl rfl (Nat.le_of_ble_eq_true rfl) rfl (Nat.le_of_ble_eq_true rfl) (jz_ci ?_)
    refine sb_169 (by omega) (by omega) (by omega) (fun c5 => ?_) (fun c5 => ?_)
    · replace h := h.1 c5
      refine jw_if_ne rfl (by omega) (fun _ => ?_) (fun hc => by exfalso; omega)
      refine jw_aload_n rfl rfl ?_
      refine jw_gr (q := 184) rfl rfl rfl ?_
      refine jw_iload_n rfl rfl ?_
      obtain ⟨o6, h⟩ := h
      refine jw_iald (v := (J 184 v1.toNat)) (N := 60) rfl rfl rfl (by omega) o6 rfl ?_
      refine jw_istore_n (ls' := [some (.ref 167), some (.int (Int32.ofInt v1)), some (.int (Int32.ofInt v2)), some (.int (Int32.ofInt (J 184 v1.toNat)))]) rfl rfl ?_
      refine jw_aload_n rfl rfl ?_
      refine jw_gr (q := 184) rfl rfl rfl ?_
      refine jw_iload_n rfl rfl ?_
      refine jw_iload_n rfl rfl ?_
      refine jw_iast (N := 60) rfl rfl rfl (by omega) o6 ?_
      refine jw_aload_n rfl rfl ?_
      refine jw_iconst rfl ?_
      refine jw_pfz rfl rfl (by omega) ?_
      refine jw_iload_n rfl rfl ?_
      refine jw_iret rfl ?_
      exact h
    · replace h := h.2 c5
      refine jw_if_ne rfl (by omega) (fun hc => by exfalso; omega) (fun _ => ?_)
      refine jw_aload_n rfl rfl ?_
      refine jw_bipush rfl (by decide) ?_
      refine jw_virt (k := 1) (c := 19) (as := [.int (Int32.ofInt (-2))]) rfl rfl rfl (Nat.le_of_ble_eq_true rfl) rfl (Nat.le_of_ble_eq_true rfl) rfl rfl (jz_ci ?_)
      refine jm_Q.mono h (jp_i_mono (fun r9 J7 K8 h => ?_))
      refine jw_iret rfl ?_
      exact h
  · replace h := h.2 c3
    refine jw_if_eq rfl (by omega) (fun _ => ?_) (fun hc => by exfalso; omega)
    refine jw_aload_n rfl rfl ?_
    refine jw_bipush rfl (by decide) ?_
    refine jw_virt (k := 1) (c := 19) (as := [.int (Int32.ofInt (-2))]) rfl rfl rfl (Nat.le_of_ble_eq_true rfl) rfl (Nat.le_of_ble_eq_true rfl) rfl rfl (jz_ci ?_)
    refine jm_Q.mono h (jp_i_mono (fun r12 J10 K11 h => ?_))
    refine jw_iret rfl ?_
    exact h
set_option maxHeartbeats 4000000 in
theorem e_205 {xs : Nat → Int32} {L d : Nat} {v1 : Int} {v2 : Int} {v3 : Int} {J K : jZ} {P : Int → jZ → jZ → Prop} (h : (-2147483648 ≤ v1 ∧ v1 < 2147483648) ∧ ((0 ≤ v1 ∧ v1 ≤ 15) → (-2147483648 ≤ v2 ∧ v2 < 2147483648) ∧ ((0 ≤ v2 ∧ v2 ≤ 15) → (v1 = v2 → q_170 xs L (d + 1) (-2) J K (fun r8 J6 K7 => P r8 J6 K7)) ∧ (¬ v1 = v2 → (-2147483648 ≤ v3 ∧ v3 < 2147483648) ∧ ((0 ≤ v3 ∧ v3 ≤ 1) → ((0 : Int) ≤ v1 ∧ v1 < 16) ∧ (¬ v3 = 1 → P (jz_and (jz_shr (J 186 v1.toNat) v2) 1) (jm_up (jm_up J 186 v1.toNat (jz_and (J 186 v1.toNat) (jz_xor (jz_shl 1 v2) (-1)))) 167 26 0) K) ∧ (v3 = 1 → P (jz_and (jz_shr (J 186 v1.toNat) v2) 1) (jm_up (jm_up J 186 v1.toNat (jz_or (J 186 v1.toNat) (jz_shl 1 v2))) 167 26 0) K)) ∧ (¬ (0 ≤ v3 ∧ v3 ≤ 1) → q_170 xs L (d + 1) (-2) J K (fun r15 J13 K14 => P r15 J13 K14)))) ∧ (¬ (0 ≤ v2 ∧ v2 ≤ 15) → q_170 xs L (d + 1) (-2) J K (fun r18 J16 K17 => P r18 J16 K17))) ∧ (¬ (0 ≤ v1 ∧ v1 ≤ 15) → q_170 xs L (d + 1) (-2) J K (fun r21 J19 K20 => P r21 J19 K20))) : q_205 xs L (d + 2) v1 v2 v3 J K P := by
  unfold q_205
  refine jq_in (ls := [some (.ref 167), some (.int (Int32.ofInt v1)), some (.int (Int32.ofInt v2)), some (.int (Int32.ofInt v3)), none]) rfl (Nat.le_of_ble_eq_true rfl) rfl ?_
  refine jw_iload_n rfl rfl ?_
  obtain ⟨o1, h⟩ := h
  refine jw_i2l rfl o1 ?_
  refine jw_lconst (x := 0) rfl rfl ?_
  refine jw_ldc2_w rfl ?_
  refine jw_stat (k := 3) (as := [.long (Int64.ofInt v1), .long (Int64.ofInt 0), .long (Int64.ofInt 15)]) rfl (by decide) rfl rfl (Nat.le_of_ble_eq_true rfl) rfl (Nat.le_of_ble_eq_true rfl) (jz_ci ?_)
  refine sb_169 (by omega) (by omega) (by omega) (fun c2 => ?_) (fun c2 => ?_)
  · replace h := h.1 c2
    refine jw_if_eq rfl (by omega) (fun hc => by exfalso; omega) (fun _ => ?_)
    refine jw_iload_n rfl rfl ?_
    obtain ⟨o3, h⟩ := h
    refine jw_i2l rfl o3 ?_
    refine jw_lconst (x := 0) rfl rfl ?_
    refine jw_ldc2_w rfl ?_
    refine jw_stat (k := 3) (as := [.long (Int64.ofInt v2), .long (Int64.ofInt 0), .long (Int64.ofInt 15)]) rfl (by decide) rfl rfl (Nat.le_of_ble_eq_true rfl) rfl (Nat.le_of_ble_eq_true rfl) (jz_ci ?_)
    refine sb_169 (by omega) (by omega) (by omega) (fun c4 => ?_) (fun c4 => ?_)
    · replace h := h.1 c4
      refine jw_if_eq rfl (by omega) (fun hc => by exfalso; omega) (fun _ => ?_)
      refine jw_iload_n rfl rfl ?_
      refine jw_iload_n rfl rfl ?_
      refine jw_ic_eq rfl o1 o3 (fun c5 => ?_) (fun c5 => ?_)
      · replace h := h.1 c5
        refine jw_aload_n rfl rfl ?_
        refine jw_bipush rfl (by decide) ?_
        refine jw_virt (k := 1) (c := 19) (as := [.int (Int32.ofInt (-2))]) rfl rfl rfl (Nat.le_of_ble_eq_true rfl) rfl (Nat.le_of_ble_eq_true rfl) rfl rfl (jz_ci ?_)
        refine jm_Q.mono h (jp_i_mono (fun r8 J6 K7 h => ?_))
        refine jw_iret rfl ?_
        exact h
      · replace h := h.2 c5
        refine jw_iload_n rfl rfl ?_
        obtain ⟨o9, h⟩ := h
        refine jw_i2l rfl o9 ?_
        refine jw_lconst (x := 0) rfl rfl ?_
        refine jw_lconst (x := 1) rfl rfl ?_
        refine jw_stat (k := 3) (as := [.long (Int64.ofInt v3), .long (Int64.ofInt 0), .long (Int64.ofInt 1)]) rfl (by decide) rfl rfl (Nat.le_of_ble_eq_true rfl) rfl (Nat.le_of_ble_eq_true rfl) (jz_ci ?_)
        refine sb_169 (by omega) (by omega) (by omega) (fun c10 => ?_) (fun c10 => ?_)
        · replace h := h.1 c10
          refine jw_if_ne rfl (by omega) (fun _ => ?_) (fun hc => by exfalso; omega)
          refine jw_aload_n rfl rfl ?_
          refine jw_gr (q := 186) rfl rfl rfl ?_
          refine jw_iload_n rfl rfl ?_
          obtain ⟨o11, h⟩ := h
          refine jw_iald (v := (J 186 v1.toNat)) (N := 16) rfl rfl rfl (by omega) o11 rfl ?_
          refine jw_iload_n rfl rfl ?_
          refine jw_ishr rfl ?_
          refine jw_iconst rfl ?_
          refine jw_iand rfl ?_
          refine jw_istore (ls' := [some (.ref 167), some (.int (Int32.ofInt v1)), some (.int (Int32.ofInt v2)), some (.int (Int32.ofInt v3)), some (.int (Int32.ofInt (jz_and (jz_shr (J 186 v1.toNat) v2) 1)))]) rfl rfl ?_
          refine jw_aload_n rfl rfl ?_
          refine jw_gr (q := 186) rfl rfl rfl ?_
          refine jw_iload_n rfl rfl ?_
          refine jw_iload_n rfl rfl ?_
          refine jw_iconst rfl ?_
          refine jw_ic_ne rfl o9 (by omega) (fun c12 => ?_) (fun c12 => ?_)
          · replace h := h.1 c12
            refine jw_aload_n rfl rfl ?_
            refine jw_gr (q := 186) rfl rfl rfl ?_
            refine jw_iload_n rfl rfl ?_
            refine jw_iald (v := (J 186 v1.toNat)) (N := 16) rfl rfl rfl (by omega) o11 rfl ?_
            refine jw_iconst rfl ?_
            refine jw_iload_n rfl rfl ?_
            refine jw_ishl rfl ?_
            refine jw_iconst rfl ?_
            refine jw_ixor rfl ?_
            refine jw_iand rfl ?_
            refine jw_iast (N := 16) rfl rfl rfl (by omega) o11 ?_
            refine jw_aload_n rfl rfl ?_
            refine jw_iconst rfl ?_
            refine jw_pfz rfl rfl (by omega) ?_
            refine jw_iload rfl rfl ?_
            refine jw_iret rfl ?_
            exact h
          · replace h := h.2 c12
            refine jw_aload_n rfl rfl ?_
            refine jw_gr (q := 186) rfl rfl rfl ?_
            refine jw_iload_n rfl rfl ?_
            refine jw_iald (v := (J 186 v1.toNat)) (N := 16) rfl rfl rfl (by omega) o11 rfl ?_
            refine jw_iconst rfl ?_
            refine jw_iload_n rfl rfl ?_
            refine jw_ishl rfl ?_
            refine jw_ior rfl ?_
            refine jw_goto rfl ?_
            refine jw_iast (N := 16) rfl rfl rfl (by omega) o11 ?_
            refine jw_aload_n rfl rfl ?_
            refine jw_iconst rfl ?_
            refine jw_pfz rfl rfl (by omega) ?_
            refine jw_iload rfl rfl ?_
            refine jw_iret rfl ?_
            exact h
        · replace h := h.2 c10
          refine jw_if_ne rfl (by omega) (fun hc => by exfalso; omega) (fun _ => ?_)
          refine jw_aload_n rfl rfl ?_
          refine jw_bipush rfl (by decide) ?_
          refine jw_virt (k := 1) (c := 19) (as := [.int (Int32.ofInt (-2))]) rfl rfl rfl (Nat.le_of_ble_eq_true rfl) rfl (Nat.le_of_ble_eq_true rfl) rfl rfl (jz_ci ?_)
          refine jm_Q.mono h (jp_i_mono (fun r15 J13 K14 h => ?_))
          refine jw_iret rfl ?_
          exact h
    · replace h := h.2 c4
      refine jw_if_eq rfl (by omega) (fun _ => ?_) (fun hc => by exfalso; omega)
      refine jw_aload_n rfl rfl ?_
      refine jw_bipush rfl (by decide) ?_
      refine jw_virt (k := 1) (c := 19) (as := [.int (Int32.ofInt (-2))]) rfl rfl rfl (Nat.le_of_ble_eq_true rfl) rfl (Nat.le_of_ble_eq_true rfl) rfl rfl (jz_ci ?_)
      refine jm_Q.mono h (jp_i_mono (fun r18 J16 K17 h => ?_))
      refine jw_iret rfl ?_
      exact h
  · replace h := h.2 c2
    refine jw_if_eq rfl (by omega) (fun _ => ?_) (fun hc => by exfalso; omega)
    refine jw_aload_n rfl rfl ?_
    refine jw_bipush rfl (by decide) ?_
    refine jw_virt (k := 1) (c := 19) (as := [.int (Int32.ofInt (-2))]) rfl rfl rfl (Nat.le_of_ble_eq_true rfl) rfl (Nat.le_of_ble_eq_true rfl) rfl rfl (jz_ci ?_)
    refine jm_Q.mono h (jp_i_mono (fun r21 J19 K20 h => ?_))
    refine jw_iret rfl ?_
    exact h
set_option maxHeartbeats 4000000 in
theorem e_206 {xs : Nat → Int32} {L d : Nat} {v1 : Int} {J K : jZ} {P : Int → jZ → jZ → Prop} (h : (-2147483648 ≤ v1 ∧ v1 < 2147483648) ∧ ((0 ≤ v1 ∧ v1 ≤ 255) → (-2147483648 ≤ J 167 7 ∧ J 167 7 < 2147483648) ∧ (¬ (J 167 7) = 250 → ((0 : Int) ≤ J 167 7 ∧ J 167 7 < 250) ∧ P ((J 167 7) + 1) (jm_up (jm_up J 167 7 ((J 167 7) + 1)) 182 (J 167 7).toNat v1) K) ∧ ((J 167 7) = 250 → q_170 xs L (d + 1) (-6) J K (fun r8 J6 K7 => P r8 J6 K7))) ∧ (¬ (0 ≤ v1 ∧ v1 ≤ 255) → q_170 xs L (d + 1) (-2) J K (fun r11 J9 K10 => P r11 J9 K10))) : q_206 xs L (d + 2) v1 J K P := by
  unfold q_206
  refine jq_in (ls := [some (.ref 167), some (.int (Int32.ofInt v1))]) rfl (Nat.le_of_ble_eq_true rfl) rfl ?_
  refine jw_iload_n rfl rfl ?_
  obtain ⟨o1, h⟩ := h
  refine jw_i2l rfl o1 ?_
  refine jw_lconst (x := 0) rfl rfl ?_
  refine jw_ldc2_w rfl ?_
  refine jw_stat (k := 3) (as := [.long (Int64.ofInt v1), .long (Int64.ofInt 0), .long (Int64.ofInt 255)]) rfl (by decide) rfl rfl (Nat.le_of_ble_eq_true rfl) rfl (Nat.le_of_ble_eq_true rfl) (jz_ci ?_)
  refine sb_169 (by omega) (by omega) (by omega) (fun c2 => ?_) (fun c2 => ?_)
  · replace h := h.1 c2
    refine jw_if_ne rfl (by omega) (fun _ => ?_) (fun hc => by exfalso; omega)
    refine jw_aload_n rfl rfl ?_
    refine jw_gf (v := (J 167 7)) rfl (by decide) rfl rfl ?_
    refine jw_sipush rfl (by decide) ?_
    obtain ⟨o3, h⟩ := h
    refine jw_ic_ne rfl o3 (by omega) (fun c4 => ?_) (fun c4 => ?_)
    · replace h := h.1 c4
      refine jw_aload_n rfl rfl ?_
      refine jw_gr (q := 182) rfl rfl rfl ?_
      refine jw_aload_n rfl rfl ?_
      refine jw_dup_r rfl ?_
      refine jw_gf (v := (J 167 7)) rfl (by decide) rfl rfl ?_
      refine jw_dup_x1 rfl ?_
      refine jw_iconst rfl ?_
      refine jw_iadd rfl ?_
      refine jw_pf rfl rfl ?_
      refine jw_iload_n rfl rfl ?_
      obtain ⟨o5, h⟩ := h
      refine jw_iast (N := 250) rfl rfl rfl (by omega) o5 ?_
      refine jw_aload_n rfl rfl ?_
      refine jw_gf (v := ((J 167 7) + 1)) rfl (by decide) rfl (by simp [jm_up]) ?_
      refine jw_iret rfl ?_
      exact h
    · replace h := h.2 c4
      refine jw_aload_n rfl rfl ?_
      refine jw_bipush rfl (by decide) ?_
      refine jw_virt (k := 1) (c := 19) (as := [.int (Int32.ofInt (-6))]) rfl rfl rfl (Nat.le_of_ble_eq_true rfl) rfl (Nat.le_of_ble_eq_true rfl) rfl rfl (jz_ci ?_)
      refine jm_Q.mono h (jp_i_mono (fun r8 J6 K7 h => ?_))
      refine jw_iret rfl ?_
      exact h
  · replace h := h.2 c2
    refine jw_if_ne rfl (by omega) (fun hc => by exfalso; omega) (fun _ => ?_)
    refine jw_aload_n rfl rfl ?_
    refine jw_bipush rfl (by decide) ?_
    refine jw_virt (k := 1) (c := 19) (as := [.int (Int32.ofInt (-2))]) rfl rfl rfl (Nat.le_of_ble_eq_true rfl) rfl (Nat.le_of_ble_eq_true rfl) rfl rfl (jz_ci ?_)
    refine jm_Q.mono h (jp_i_mono (fun r11 J9 K10 h => ?_))
    refine jw_iret rfl ?_
    exact h
set_option maxHeartbeats 4000000 in
theorem e_207 {xs : Nat → Int32} {L d : Nat} {J K : jZ} {P : Int → jZ → jZ → Prop} (h : P (J 167 7) (jm_up J 167 7 0) K) : q_207 xs L (d + 1) J K P := by
  unfold q_207
  refine jq_in (ls := [some (.ref 167), none]) rfl (Nat.le_of_ble_eq_true rfl) rfl ?_
  refine jw_aload_n rfl rfl ?_
  refine jw_gf (v := (J 167 7)) rfl (by decide) rfl rfl ?_
  refine jw_istore_n (ls' := [some (.ref 167), some (.int (Int32.ofInt (J 167 7)))]) rfl rfl ?_
  refine jw_aload_n rfl rfl ?_
  refine jw_iconst rfl ?_
  refine jw_pf rfl rfl ?_
  refine jw_iload_n rfl rfl ?_
  refine jw_iret rfl ?_
  exact h
set_option maxHeartbeats 4000000 in
theorem e_208 {xs : Nat → Int32} {L d : Nat} {J K : jZ} {P : Int → jZ → jZ → Prop} (h : q_209 xs L (d + 1) J K (fun r3 J1 K2 => q_210 xs L (d + 1) J1 K2 (fun r6 J4 K5 => (-2147483648 ≤ r3 ∧ r3 < 2147483648) ∧ (r3 = (-1) → (-2147483648 ≤ ((J4 167 9) + r6) ∧ ((J4 167 9) + r6) < 2147483648) ∧ (((J4 167 9) + r6) ≤ 60 → l_208_58 xs L (d + 1) r6 (J4 167 7) 0 (jm_up J4 167 7 0) K5 P) ∧ (60 < ((J4 167 9) + r6) → q_170 xs L (d + 1) (-6) (jm_up J4 167 7 0) K5 (fun r13 J11 K12 => P r13 J11 K12))) ∧ (¬ r3 = (-1) → q_170 xs L (d + 1) (-2) (jm_up J4 167 7 0) K5 (fun r16 J14 K15 => P ((-20) - r3) J14 K15))))) : q_208 xs L (d + 2) J K P := by
  unfold q_208
  refine jq_in (ls := [some (.ref 167), none, none, none, none]) rfl (Nat.le_of_ble_eq_true rfl) rfl ?_
  refine jw_aload_n rfl rfl ?_
  refine jw_virt (k := 0) (c := 19) (as := []) rfl rfl rfl (Nat.le_of_ble_eq_true rfl) rfl (Nat.le_of_ble_eq_true rfl) rfl rfl (jz_ci ?_)
  refine jm_Q.mono h (jp_i_mono (fun r3 J1 K2 h => ?_))
  refine jw_istore_n (ls' := [some (.ref 167), some (.int (Int32.ofInt r3)), none, none, none]) rfl rfl ?_
  refine jw_aload_n rfl rfl ?_
  refine jw_virt (k := 0) (c := 19) (as := []) rfl rfl rfl (Nat.le_of_ble_eq_true rfl) rfl (Nat.le_of_ble_eq_true rfl) rfl rfl (jz_ci ?_)
  refine jm_Q.mono h (jp_i_mono (fun r6 J4 K5 h => ?_))
  refine jw_istore_n (ls' := [some (.ref 167), some (.int (Int32.ofInt r3)), some (.int (Int32.ofInt r6)), none, none]) rfl rfl ?_
  refine jw_aload_n rfl rfl ?_
  refine jw_gf (v := (J4 167 7)) rfl (by decide) rfl rfl ?_
  refine jw_istore_n (ls' := [some (.ref 167), some (.int (Int32.ofInt r3)), some (.int (Int32.ofInt r6)), some (.int (Int32.ofInt (J4 167 7))), none]) rfl rfl ?_
  refine jw_aload_n rfl rfl ?_
  refine jw_iconst rfl ?_
  refine jw_pf rfl rfl ?_
  refine jw_iload_n rfl rfl ?_
  refine jw_iconst rfl ?_
  obtain ⟨o7, h⟩ := h
  refine jw_ic_eq rfl o7 (by omega) (fun c8 => ?_) (fun c8 => ?_)
  · replace h := h.1 c8
    refine jw_aload_n rfl rfl ?_
    refine jw_gf (v := (J4 167 9)) rfl (by decide) rfl (by simp [jm_up]) ?_
    refine jw_iload_n rfl rfl ?_
    refine jw_iadd rfl ?_
    refine jw_bipush rfl (by decide) ?_
    obtain ⟨o9, h⟩ := h
    refine jw_ic_le rfl o9 (by omega) (fun c10 => ?_) (fun c10 => ?_)
    · replace h := h.1 c10
      refine jw_iconst rfl ?_
      refine jw_istore (ls' := [some (.ref 167), some (.int (Int32.ofInt r3)), some (.int (Int32.ofInt r6)), some (.int (Int32.ofInt (J4 167 7))), some (.int (Int32.ofInt 0))]) rfl rfl ?_
      exact jz_fg (l := [some (.ref 167), none, some (.int (Int32.ofInt r6)), some (.int (Int32.ofInt (J4 167 7))), some (.int (Int32.ofInt 0))]) ⟨rfl, jz_ni, rfl, rfl, rfl, trivial⟩ h
    · replace h := h.2 c10
      refine jw_aload_n rfl rfl ?_
      refine jw_bipush rfl (by decide) ?_
      refine jw_virt (k := 1) (c := 19) (as := [.int (Int32.ofInt (-6))]) rfl rfl rfl (Nat.le_of_ble_eq_true rfl) rfl (Nat.le_of_ble_eq_true rfl) rfl rfl (jz_ci ?_)
      refine jm_Q.mono h (jp_i_mono (fun r13 J11 K12 h => ?_))
      refine jw_iret rfl ?_
      exact h
  · replace h := h.2 c8
    refine jw_aload_n rfl rfl ?_
    refine jw_bipush rfl (by decide) ?_
    refine jw_virt (k := 1) (c := 19) (as := [.int (Int32.ofInt (-2))]) rfl rfl rfl (Nat.le_of_ble_eq_true rfl) rfl (Nat.le_of_ble_eq_true rfl) rfl rfl (jz_ci ?_)
    refine jm_Q.mono h (jp_i_mono (fun r16 J14 K15 h => ?_))
    refine jw_pop_i rfl ?_
    refine jw_bipush rfl (by decide) ?_
    refine jw_iload_n rfl rfl ?_
    refine jw_isub rfl ?_
    refine jw_iret rfl ?_
    exact h
set_option maxHeartbeats 4000000 in
theorem e_208_58 {xs : Nat → Int32} {L d : Nat} {v2 : Int} {v3 : Int} {v4 : Int} {J K : jZ} {P : Int → jZ → jZ → Prop} (h : (-2147483648 ≤ v4 ∧ v4 < 2147483648) ∧ (-2147483648 ≤ v3 ∧ v3 < 2147483648) ∧ (v3 ≤ v4 → P v2 (jm_up J 167 26 0) K) ∧ (v4 < v3 → ((0 : Int) ≤ v4 ∧ v4 < 250) ∧ (-2147483648 ≤ J 182 v4.toNat ∧ J 182 v4.toNat < 2147483648) ∧ ((97 ≤ (J 182 v4.toNat) ∧ (J 182 v4.toNat) ≤ 112) → q_201 xs L (d + 1) ((J 182 v4.toNat) - 97) J K (fun J7 K8 => l_208_141 xs L (d + 1) v2 v3 v4 J7 K8 P)) ∧ (¬ (97 ≤ (J 182 v4.toNat) ∧ (J 182 v4.toNat) ≤ 112) → ((J 182 v4.toNat) = 32 → l_208_141 xs L (d + 1) v2 v3 v4 J K P) ∧ (¬ (J 182 v4.toNat) = 32 → (¬ (J 182 v4.toNat) = 46 → ((0 : Int) ≤ ((J 167 9) - 1) ∧ ((J 167 9) - 1) < 60) ∧ l_208_141 xs L (d + 1) v2 v3 v4 (jm_up J 185 ((J 167 9) - 1).toNat 2) K P) ∧ ((J 182 v4.toNat) = 46 → ((0 : Int) ≤ ((J 167 9) - 1) ∧ ((J 167 9) - 1) < 60) ∧ l_208_141 xs L (d + 1) v2 v3 v4 (jm_up J 185 ((J 167 9) - 1).toNat 1) K P))))) : l_208_58 xs L (d + 1) v2 v3 v4 J K P := by
  unfold l_208_58
  refine jw_iload rfl rfl ?_
  refine jw_iload_n rfl rfl ?_
  obtain ⟨o1, h⟩ := h
  obtain ⟨o2, h⟩ := h
  refine jw_ic_ge rfl o1 o2 (fun c3 => ?_) (fun c3 => ?_)
  · replace h := h.1 c3
    refine jw_aload_n rfl rfl ?_
    refine jw_iconst rfl ?_
    refine jw_pfz rfl rfl (by omega) ?_
    refine jw_iload_n rfl rfl ?_
    refine jw_iret rfl ?_
    exact h
  · replace h := h.2 c3
    refine jw_aload_n rfl rfl ?_
    refine jw_gr (q := 182) rfl rfl rfl ?_
    refine jw_iload rfl rfl ?_
    obtain ⟨o4, h⟩ := h
    refine jw_iald (v := (J 182 v4.toNat)) (N := 250) rfl rfl rfl (by omega) o4 rfl ?_
    obtain ⟨o5, h⟩ := h
    refine jw_i2l rfl o5 ?_
    refine jw_ldc2_w rfl ?_
    refine jw_ldc2_w rfl ?_
    refine jw_stat (k := 3) (as := [.long (Int64.ofInt (J 182 v4.toNat)), .long (Int64.ofInt 97), .long (Int64.ofInt 112)]) rfl (by decide) rfl rfl (Nat.le_of_ble_eq_true rfl) rfl (Nat.le_of_ble_eq_true rfl) (jz_ci ?_)
    refine sb_169 (by omega) (by omega) (by omega) (fun c6 => ?_) (fun c6 => ?_)
    · replace h := h.1 c6
      refine jw_if_eq rfl (by omega) (fun hc => by exfalso; omega) (fun _ => ?_)
      refine jw_aload_n rfl rfl ?_
      refine jw_aload_n rfl rfl ?_
      refine jw_gr (q := 182) rfl rfl rfl ?_
      refine jw_iload rfl rfl ?_
      refine jw_iald (v := (J 182 v4.toNat)) (N := 250) rfl rfl rfl (by omega) o4 rfl ?_
      refine jw_bipush rfl (by decide) ?_
      refine jw_isub rfl ?_
      refine jw_virt (k := 1) (c := 19) (as := [.int (Int32.ofInt ((J 182 v4.toNat) - 97))]) rfl rfl rfl (Nat.le_of_ble_eq_true rfl) rfl (Nat.le_of_ble_eq_true rfl) rfl rfl (jz_cv ?_)
      refine jm_Q.mono h (jp_v_mono (fun J7 K8 h => ?_))
      refine jw_goto rfl ?_
      exact jz_fg (l := [some (.ref 167), none, some (.int (Int32.ofInt v2)), some (.int (Int32.ofInt v3)), some (.int (Int32.ofInt v4))]) ⟨rfl, jz_n0, rfl, rfl, rfl, trivial⟩ h
    · replace h := h.2 c6
      refine jw_if_eq rfl (by omega) (fun _ => ?_) (fun hc => by exfalso; omega)
      refine jw_aload_n rfl rfl ?_
      refine jw_gr (q := 182) rfl rfl rfl ?_
      refine jw_iload rfl rfl ?_
      refine jw_iald (v := (J 182 v4.toNat)) (N := 250) rfl rfl rfl (by omega) o4 rfl ?_
      refine jw_bipush rfl (by decide) ?_
      refine jw_ic_eq rfl o5 (by omega) (fun c9 => ?_) (fun c9 => ?_)
      · replace h := h.1 c9
        exact jz_fg (l := [some (.ref 167), none, some (.int (Int32.ofInt v2)), some (.int (Int32.ofInt v3)), some (.int (Int32.ofInt v4))]) ⟨rfl, jz_n0, rfl, rfl, rfl, trivial⟩ h
      · replace h := h.2 c9
        refine jw_aload_n rfl rfl ?_
        refine jw_gr (q := 185) rfl rfl rfl ?_
        refine jw_aload_n rfl rfl ?_
        refine jw_gf (v := (J 167 9)) rfl (by decide) rfl rfl ?_
        refine jw_iconst rfl ?_
        refine jw_isub rfl ?_
        refine jw_aload_n rfl rfl ?_
        refine jw_gr (q := 182) rfl rfl rfl ?_
        refine jw_iload rfl rfl ?_
        refine jw_iald (v := (J 182 v4.toNat)) (N := 250) rfl rfl rfl (by omega) o4 rfl ?_
        refine jw_bipush rfl (by decide) ?_
        refine jw_ic_ne rfl o5 (by omega) (fun c10 => ?_) (fun c10 => ?_)
        · replace h := h.1 c10
          refine jw_iconst rfl ?_
          obtain ⟨o11, h⟩ := h
          refine jw_iast (N := 60) rfl rfl rfl (by omega) o11 ?_
          exact jz_fg (l := [some (.ref 167), none, some (.int (Int32.ofInt v2)), some (.int (Int32.ofInt v3)), some (.int (Int32.ofInt v4))]) ⟨rfl, jz_n0, rfl, rfl, rfl, trivial⟩ h
        · replace h := h.2 c10
          refine jw_iconst rfl ?_
          refine jw_goto rfl ?_
          obtain ⟨o12, h⟩ := h
          refine jw_iast (N := 60) rfl rfl rfl (by omega) o12 ?_
          exact jz_fg (l := [some (.ref 167), none, some (.int (Int32.ofInt v2)), some (.int (Int32.ofInt v3)), some (.int (Int32.ofInt v4))]) ⟨rfl, jz_n0, rfl, rfl, rfl, trivial⟩ h
set_option maxHeartbeats 4000000 in
theorem e_208_141 {xs : Nat → Int32} {L d : Nat} {v2 : Int} {v3 : Int} {v4 : Int} {J K : jZ} {P : Int → jZ → jZ → Prop} (h : l_208_58 xs L (d + 1) v2 v3 (v4 + 1) J K P) : l_208_141 xs L (d + 1) v2 v3 v4 J K P := by
  unfold l_208_141
  refine jw_iinc (ls' := [some (.ref 167), none, some (.int (Int32.ofInt v2)), some (.int (Int32.ofInt v3)), some (.int (Int32.ofInt (v4 + 1)))]) rfl rfl rfl ?_
  refine jw_goto rfl ?_
  exact jz_fg (l := [some (.ref 167), none, some (.int (Int32.ofInt v2)), some (.int (Int32.ofInt v3)), some (.int (Int32.ofInt (v4 + 1)))]) ⟨rfl, jz_n0, rfl, rfl, rfl, trivial⟩ h
set_option maxHeartbeats 4000000 in
theorem e_209 {xs : Nat → Int32} {L d : Nat} {J K : jZ} {P : Int → jZ → jZ → Prop} (h : (-2147483648 ≤ J 167 9 ∧ J 167 9 < 2147483648) ∧ (¬ (J 167 9) = 0 → ((0 : Int) ≤ ((J 167 9) - 1) ∧ ((J 167 9) - 1) < 60) ∧ l_209_27 xs L (d + 1) (J 185 ((J 167 9) - 1).toNat) 0 0 J K P) ∧ ((J 167 9) = 0 → l_209_27 xs L (d + 1) 3 0 0 J K P)) : q_209 xs L (d + 2) J K P := by
  unfold q_209
  refine jq_in (ls := [some (.ref 167), none, none, none, none]) rfl (Nat.le_of_ble_eq_true rfl) rfl ?_
  refine jw_aload_n rfl rfl ?_
  refine jw_gf (v := (J 167 9)) rfl (by decide) rfl rfl ?_
  obtain ⟨o1, h⟩ := h
  refine jw_if_ne rfl o1 (fun c2 => ?_) (fun c2 => ?_)
  · replace h := h.1 c2
    refine jw_aload_n rfl rfl ?_
    refine jw_gr (q := 185) rfl rfl rfl ?_
    refine jw_aload_n rfl rfl ?_
    refine jw_gf (v := (J 167 9)) rfl (by decide) rfl rfl ?_
    refine jw_iconst rfl ?_
    refine jw_isub rfl ?_
    obtain ⟨o3, h⟩ := h
    refine jw_iald (v := (J 185 ((J 167 9) - 1).toNat)) (N := 60) rfl rfl rfl (by omega) o3 rfl ?_
    refine jw_istore_n (ls' := [some (.ref 167), some (.int (Int32.ofInt (J 185 ((J 167 9) - 1).toNat))), none, none, none]) rfl rfl ?_
    refine jw_iconst rfl ?_
    refine jw_istore_n (ls' := [some (.ref 167), some (.int (Int32.ofInt (J 185 ((J 167 9) - 1).toNat))), some (.int (Int32.ofInt 0)), none, none]) rfl rfl ?_
    refine jw_iconst rfl ?_
    refine jw_istore_n (ls' := [some (.ref 167), some (.int (Int32.ofInt (J 185 ((J 167 9) - 1).toNat))), some (.int (Int32.ofInt 0)), some (.int (Int32.ofInt 0)), none]) rfl rfl ?_
    exact jz_fg (l := [some (.ref 167), some (.int (Int32.ofInt (J 185 ((J 167 9) - 1).toNat))), some (.int (Int32.ofInt 0)), some (.int (Int32.ofInt 0)), none]) ⟨rfl, rfl, rfl, rfl, jz_n0, trivial⟩ h
  · replace h := h.2 c2
    refine jw_iconst rfl ?_
    refine jw_goto rfl ?_
    refine jw_istore_n (ls' := [some (.ref 167), some (.int (Int32.ofInt 3)), none, none, none]) rfl rfl ?_
    refine jw_iconst rfl ?_
    refine jw_istore_n (ls' := [some (.ref 167), some (.int (Int32.ofInt 3)), some (.int (Int32.ofInt 0)), none, none]) rfl rfl ?_
    refine jw_iconst rfl ?_
    refine jw_istore_n (ls' := [some (.ref 167), some (.int (Int32.ofInt 3)), some (.int (Int32.ofInt 0)), some (.int (Int32.ofInt 0)), none]) rfl rfl ?_
    exact jz_fg (l := [some (.ref 167), some (.int (Int32.ofInt 3)), some (.int (Int32.ofInt 0)), some (.int (Int32.ofInt 0)), none]) ⟨rfl, rfl, rfl, rfl, jz_n0, trivial⟩ h
set_option maxHeartbeats 4000000 in
theorem e_209_27 {xs : Nat → Int32} {L d : Nat} {v1 : Int} {v2 : Int} {v3 : Int} {J K : jZ} {P : Int → jZ → jZ → Prop} (h : (-2147483648 ≤ v3 ∧ v3 < 2147483648) ∧ (-2147483648 ≤ J 167 7 ∧ J 167 7 < 2147483648) ∧ ((J 167 7) ≤ v3 → (-2147483648 ≤ v2 ∧ v2 < 2147483648) ∧ (v2 = 0 → P (J 167 7) J K) ∧ (¬ v2 = 0 → P (-1) J K)) ∧ (v3 < (J 167 7) → ((0 : Int) ≤ v3 ∧ v3 < 250) ∧ (-2147483648 ≤ J 182 v3.toNat ∧ J 182 v3.toNat < 2147483648) ∧ ((97 ≤ (J 182 v3.toNat) ∧ (J 182 v3.toNat) ≤ 112) → l_209_105 xs L (d + 1) 0 v2 v3 (J 182 v3.toNat) J K P) ∧ (¬ (97 ≤ (J 182 v3.toNat) ∧ (J 182 v3.toNat) ≤ 112) → (¬ (J 182 v3.toNat) = 46 → l_209_79 xs L (d + 1) v1 v2 v3 (J 182 v3.toNat) J K P) ∧ ((J 182 v3.toNat) = 46 → (-2147483648 ≤ v1 ∧ v1 < 2147483648) ∧ (¬ v1 = 0 → l_209_79 xs L (d + 1) v1 v2 v3 (J 182 v3.toNat) J K P) ∧ (v1 = 0 → l_209_105 xs L (d + 1) 1 v2 v3 (J 182 v3.toNat) J K P))))) : l_209_27 xs L (d + 1) v1 v2 v3 J K P := by
  unfold l_209_27
  refine jw_iload_n rfl rfl ?_
  refine jw_aload_n rfl rfl ?_
  refine jw_gf (v := (J 167 7)) rfl (by decide) rfl rfl ?_
  obtain ⟨o1, h⟩ := h
  obtain ⟨o2, h⟩ := h
  refine jw_ic_ge rfl o1 o2 (fun c3 => ?_) (fun c3 => ?_)
  · replace h := h.1 c3
    refine jw_iload_n rfl rfl ?_
    obtain ⟨o4, h⟩ := h
    refine jw_if_eq rfl o4 (fun c5 => ?_) (fun c5 => ?_)
    · replace h := h.1 c5
      refine jw_aload_n rfl rfl ?_
      refine jw_gf (v := (J 167 7)) rfl (by decide) rfl rfl ?_
      refine jw_iret rfl ?_
      exact h
    · replace h := h.2 c5
      refine jw_iconst rfl ?_
      refine jw_goto rfl ?_
      refine jw_iret rfl ?_
      exact h
  · replace h := h.2 c3
    refine jw_aload_n rfl rfl ?_
    refine jw_gr (q := 182) rfl rfl rfl ?_
    refine jw_iload_n rfl rfl ?_
    obtain ⟨o6, h⟩ := h
    refine jw_iald (v := (J 182 v3.toNat)) (N := 250) rfl rfl rfl (by omega) o6 rfl ?_
    refine jw_istore (ls' := [some (.ref 167), some (.int (Int32.ofInt v1)), some (.int (Int32.ofInt v2)), some (.int (Int32.ofInt v3)), some (.int (Int32.ofInt (J 182 v3.toNat)))]) rfl rfl ?_
    refine jw_iload rfl rfl ?_
    obtain ⟨o7, h⟩ := h
    refine jw_i2l rfl o7 ?_
    refine jw_ldc2_w rfl ?_
    refine jw_ldc2_w rfl ?_
    refine jw_stat (k := 3) (as := [.long (Int64.ofInt (J 182 v3.toNat)), .long (Int64.ofInt 97), .long (Int64.ofInt 112)]) rfl (by decide) rfl rfl (Nat.le_of_ble_eq_true rfl) rfl (Nat.le_of_ble_eq_true rfl) (jz_ci ?_)
    refine sb_169 (by omega) (by omega) (by omega) (fun c8 => ?_) (fun c8 => ?_)
    · replace h := h.1 c8
      refine jw_if_eq rfl (by omega) (fun hc => by exfalso; omega) (fun _ => ?_)
      refine jw_iconst rfl ?_
      refine jw_istore_n (ls' := [some (.ref 167), some (.int (Int32.ofInt 0)), some (.int (Int32.ofInt v2)), some (.int (Int32.ofInt v3)), some (.int (Int32.ofInt (J 182 v3.toNat)))]) rfl rfl ?_
      refine jw_goto rfl ?_
      exact jz_fg (l := [some (.ref 167), some (.int (Int32.ofInt 0)), some (.int (Int32.ofInt v2)), some (.int (Int32.ofInt v3)), some (.int (Int32.ofInt (J 182 v3.toNat)))]) ⟨rfl, rfl, rfl, rfl, rfl, trivial⟩ h
    · replace h := h.2 c8
      refine jw_if_eq rfl (by omega) (fun _ => ?_) (fun hc => by exfalso; omega)
      refine jw_iload rfl rfl ?_
      refine jw_bipush rfl (by decide) ?_
      refine jw_ic_ne rfl o7 (by omega) (fun c9 => ?_) (fun c9 => ?_)
      · replace h := h.1 c9
        exact jz_fg (l := [some (.ref 167), some (.int (Int32.ofInt v1)), some (.int (Int32.ofInt v2)), some (.int (Int32.ofInt v3)), some (.int (Int32.ofInt (J 182 v3.toNat)))]) ⟨rfl, rfl, rfl, rfl, rfl, trivial⟩ h
      · replace h := h.2 c9
        refine jw_iload_n rfl rfl ?_
        obtain ⟨o10, h⟩ := h
        refine jw_if_ne rfl o10 (fun c11 => ?_) (fun c11 => ?_)
        · replace h := h.1 c11
          exact jz_fg (l := [some (.ref 167), some (.int (Int32.ofInt v1)), some (.int (Int32.ofInt v2)), some (.int (Int32.ofInt v3)), some (.int (Int32.ofInt (J 182 v3.toNat)))]) ⟨rfl, rfl, rfl, rfl, rfl, trivial⟩ h
        · replace h := h.2 c11
          refine jw_iconst rfl ?_
          refine jw_istore_n (ls' := [some (.ref 167), some (.int (Int32.ofInt 1)), some (.int (Int32.ofInt v2)), some (.int (Int32.ofInt v3)), some (.int (Int32.ofInt (J 182 v3.toNat)))]) rfl rfl ?_
          refine jw_goto rfl ?_
          exact jz_fg (l := [some (.ref 167), some (.int (Int32.ofInt 1)), some (.int (Int32.ofInt v2)), some (.int (Int32.ofInt v3)), some (.int (Int32.ofInt (J 182 v3.toNat)))]) ⟨rfl, rfl, rfl, rfl, rfl, trivial⟩ h
set_option maxHeartbeats 4000000 in
theorem e_209_79 {xs : Nat → Int32} {L d : Nat} {v1 : Int} {v2 : Int} {v3 : Int} {v4 : Int} {J K : jZ} {P : Int → jZ → jZ → Prop} (h : (-2147483648 ≤ v4 ∧ v4 < 2147483648) ∧ (¬ v4 = 47 → l_209_96 xs L (d + 1) v1 v2 v3 v4 J K P) ∧ (v4 = 47 → (-2147483648 ≤ v1 ∧ v1 < 2147483648) ∧ (2 ≤ v1 → l_209_96 xs L (d + 1) v1 v2 v3 v4 J K P) ∧ (v1 < 2 → l_209_105 xs L (d + 1) 2 v2 v3 v4 J K P))) : l_209_79 xs L (d + 1) v1 v2 v3 v4 J K P := by
  unfold l_209_79
  refine jw_iload rfl rfl ?_
  refine jw_bipush rfl (by decide) ?_
  obtain ⟨o1, h⟩ := h
  refine jw_ic_ne rfl o1 (by omega) (fun c2 => ?_) (fun c2 => ?_)
  · replace h := h.1 c2
    exact jz_fg (l := [some (.ref 167), some (.int (Int32.ofInt v1)), some (.int (Int32.ofInt v2)), some (.int (Int32.ofInt v3)), some (.int (Int32.ofInt v4))]) ⟨rfl, rfl, rfl, rfl, rfl, trivial⟩ h
  · replace h := h.2 c2
    refine jw_iload_n rfl rfl ?_
    refine jw_iconst rfl ?_
    obtain ⟨o3, h⟩ := h
    refine jw_ic_ge rfl o3 (by omega) (fun c4 => ?_) (fun c4 => ?_)
    · replace h := h.1 c4
      exact jz_fg (l := [some (.ref 167), some (.int (Int32.ofInt v1)), some (.int (Int32.ofInt v2)), some (.int (Int32.ofInt v3)), some (.int (Int32.ofInt v4))]) ⟨rfl, rfl, rfl, rfl, rfl, trivial⟩ h
    · replace h := h.2 c4
      refine jw_iconst rfl ?_
      refine jw_istore_n (ls' := [some (.ref 167), some (.int (Int32.ofInt 2)), some (.int (Int32.ofInt v2)), some (.int (Int32.ofInt v3)), some (.int (Int32.ofInt v4))]) rfl rfl ?_
      refine jw_goto rfl ?_
      exact jz_fg (l := [some (.ref 167), some (.int (Int32.ofInt 2)), some (.int (Int32.ofInt v2)), some (.int (Int32.ofInt v3)), some (.int (Int32.ofInt v4))]) ⟨rfl, rfl, rfl, rfl, rfl, trivial⟩ h
set_option maxHeartbeats 4000000 in
theorem e_209_96 {xs : Nat → Int32} {L d : Nat} {v1 : Int} {v2 : Int} {v3 : Int} {v4 : Int} {J K : jZ} {P : Int → jZ → jZ → Prop} (h : (-2147483648 ≤ v4 ∧ v4 < 2147483648) ∧ (v4 = 32 → l_209_105 xs L (d + 1) v1 v2 v3 v4 J K P) ∧ (¬ v4 = 32 → P v3 J K)) : l_209_96 xs L (d + 1) v1 v2 v3 v4 J K P := by
  unfold l_209_96
  refine jw_iload rfl rfl ?_
  refine jw_bipush rfl (by decide) ?_
  obtain ⟨o1, h⟩ := h
  refine jw_ic_eq rfl o1 (by omega) (fun c2 => ?_) (fun c2 => ?_)
  · replace h := h.1 c2
    exact jz_fg (l := [some (.ref 167), some (.int (Int32.ofInt v1)), some (.int (Int32.ofInt v2)), some (.int (Int32.ofInt v3)), some (.int (Int32.ofInt v4))]) ⟨rfl, rfl, rfl, rfl, rfl, trivial⟩ h
  · replace h := h.2 c2
    refine jw_iload_n rfl rfl ?_
    refine jw_iret rfl ?_
    exact h
set_option maxHeartbeats 4000000 in
theorem e_209_105 {xs : Nat → Int32} {L d : Nat} {v1 : Int} {v2 : Int} {v3 : Int} {v4 : Int} {J K : jZ} {P : Int → jZ → jZ → Prop} (h : (-2147483648 ≤ v4 ∧ v4 < 2147483648) ∧ (v4 = 32 → l_209_27 xs L (d + 1) v1 (jz_or v2 0) (v3 + 1) J K P) ∧ (¬ v4 = 32 → l_209_27 xs L (d + 1) v1 (jz_or v2 1) (v3 + 1) J K P)) : l_209_105 xs L (d + 1) v1 v2 v3 v4 J K P := by
  unfold l_209_105
  refine jw_iload_n rfl rfl ?_
  refine jw_iload rfl rfl ?_
  refine jw_bipush rfl (by decide) ?_
  obtain ⟨o1, h⟩ := h
  refine jw_ic_eq rfl o1 (by omega) (fun c2 => ?_) (fun c2 => ?_)
  · replace h := h.1 c2
    refine jw_iconst rfl ?_
    refine jw_ior rfl ?_
    refine jw_istore_n (ls' := [some (.ref 167), some (.int (Int32.ofInt v1)), some (.int (Int32.ofInt (jz_or v2 0))), some (.int (Int32.ofInt v3)), some (.int (Int32.ofInt v4))]) rfl rfl ?_
    refine jw_iinc (ls' := [some (.ref 167), some (.int (Int32.ofInt v1)), some (.int (Int32.ofInt (jz_or v2 0))), some (.int (Int32.ofInt (v3 + 1))), some (.int (Int32.ofInt v4))]) rfl rfl rfl ?_
    refine jw_goto rfl ?_
    exact jz_fg (l := [some (.ref 167), some (.int (Int32.ofInt v1)), some (.int (Int32.ofInt (jz_or v2 0))), some (.int (Int32.ofInt (v3 + 1))), none]) ⟨rfl, rfl, rfl, rfl, jz_ni, trivial⟩ h
  · replace h := h.2 c2
    refine jw_iconst rfl ?_
    refine jw_goto rfl ?_
    refine jw_ior rfl ?_
    refine jw_istore_n (ls' := [some (.ref 167), some (.int (Int32.ofInt v1)), some (.int (Int32.ofInt (jz_or v2 1))), some (.int (Int32.ofInt v3)), some (.int (Int32.ofInt v4))]) rfl rfl ?_
    refine jw_iinc (ls' := [some (.ref 167), some (.int (Int32.ofInt v1)), some (.int (Int32.ofInt (jz_or v2 1))), some (.int (Int32.ofInt (v3 + 1))), some (.int (Int32.ofInt v4))]) rfl rfl rfl ?_
    refine jw_goto rfl ?_
    exact jz_fg (l := [some (.ref 167), some (.int (Int32.ofInt v1)), some (.int (Int32.ofInt (jz_or v2 1))), some (.int (Int32.ofInt (v3 + 1))), none]) ⟨rfl, rfl, rfl, rfl, jz_ni, trivial⟩ h
set_option maxHeartbeats 4000000 in
theorem e_210 {xs : Nat → Int32} {L d : Nat} {J K : jZ} {P : Int → jZ → jZ → Prop} (h : l_210_4 xs L (d + 1) 0 0 J K P) : q_210 xs L (d + 2) J K P := by
  unfold q_210
  refine jq_in (ls := [some (.ref 167), none, none]) rfl (Nat.le_of_ble_eq_true rfl) rfl ?_
  refine jw_iconst rfl ?_
  refine jw_istore_n (ls' := [some (.ref 167), some (.int (Int32.ofInt 0)), none]) rfl rfl ?_
  refine jw_iconst rfl ?_
  refine jw_istore_n (ls' := [some (.ref 167), some (.int (Int32.ofInt 0)), some (.int (Int32.ofInt 0))]) rfl rfl ?_
  exact jz_fg (l := [some (.ref 167), some (.int (Int32.ofInt 0)), some (.int (Int32.ofInt 0))]) ⟨rfl, rfl, rfl, trivial⟩ h
set_option maxHeartbeats 4000000 in
theorem e_210_4 {xs : Nat → Int32} {L d : Nat} {v1 : Int} {v2 : Int} {J K : jZ} {P : Int → jZ → jZ → Prop} (h : (-2147483648 ≤ v2 ∧ v2 < 2147483648) ∧ (-2147483648 ≤ J 167 7 ∧ J 167 7 < 2147483648) ∧ ((J 167 7) ≤ v2 → P v1 J K) ∧ (v2 < (J 167 7) → ((0 : Int) ≤ v2 ∧ v2 < 250) ∧ (-2147483648 ≤ J 182 v2.toNat ∧ J 182 v2.toNat < 2147483648) ∧ ((97 ≤ (J 182 v2.toNat) ∧ (J 182 v2.toNat) ≤ 112) → l_210_4 xs L (d + 1) (v1 + 1) (v2 + 1) J K P) ∧ (¬ (97 ≤ (J 182 v2.toNat) ∧ (J 182 v2.toNat) ≤ 112) → l_210_4 xs L (d + 1) (v1 + 0) (v2 + 1) J K P))) : l_210_4 xs L (d + 1) v1 v2 J K P := by
  unfold l_210_4
  refine jw_iload_n rfl rfl ?_
  refine jw_aload_n rfl rfl ?_
  refine jw_gf (v := (J 167 7)) rfl (by decide) rfl rfl ?_
  obtain ⟨o1, h⟩ := h
  obtain ⟨o2, h⟩ := h
  refine jw_ic_ge rfl o1 o2 (fun c3 => ?_) (fun c3 => ?_)
  · replace h := h.1 c3
    refine jw_iload_n rfl rfl ?_
    refine jw_iret rfl ?_
    exact h
  · replace h := h.2 c3
    refine jw_iload_n rfl rfl ?_
    refine jw_aload_n rfl rfl ?_
    refine jw_gr (q := 182) rfl rfl rfl ?_
    refine jw_iload_n rfl rfl ?_
    obtain ⟨o4, h⟩ := h
    refine jw_iald (v := (J 182 v2.toNat)) (N := 250) rfl rfl rfl (by omega) o4 rfl ?_
    obtain ⟨o5, h⟩ := h
    refine jw_i2l rfl o5 ?_
    refine jw_ldc2_w rfl ?_
    refine jw_ldc2_w rfl ?_
    refine jw_stat (k := 3) (as := [.long (Int64.ofInt (J 182 v2.toNat)), .long (Int64.ofInt 97), .long (Int64.ofInt 112)]) rfl (by decide) rfl rfl (Nat.le_of_ble_eq_true rfl) rfl (Nat.le_of_ble_eq_true rfl) (jz_ci ?_)
    refine sb_169 (by omega) (by omega) (by omega) (fun c6 => ?_) (fun c6 => ?_)
    · replace h := h.1 c6
      refine jw_if_eq rfl (by omega) (fun hc => by exfalso; omega) (fun _ => ?_)
      refine jw_iconst rfl ?_
      refine jw_goto rfl ?_
      refine jw_iadd rfl ?_
      refine jw_istore_n (ls' := [some (.ref 167), some (.int (Int32.ofInt (v1 + 1))), some (.int (Int32.ofInt v2))]) rfl rfl ?_
      refine jw_iinc (ls' := [some (.ref 167), some (.int (Int32.ofInt (v1 + 1))), some (.int (Int32.ofInt (v2 + 1)))]) rfl rfl rfl ?_
      refine jw_goto rfl ?_
      exact jz_fg (l := [some (.ref 167), some (.int (Int32.ofInt (v1 + 1))), some (.int (Int32.ofInt (v2 + 1)))]) ⟨rfl, rfl, rfl, trivial⟩ h
    · replace h := h.2 c6
      refine jw_if_eq rfl (by omega) (fun _ => ?_) (fun hc => by exfalso; omega)
      refine jw_iconst rfl ?_
      refine jw_iadd rfl ?_
      refine jw_istore_n (ls' := [some (.ref 167), some (.int (Int32.ofInt (v1 + 0))), some (.int (Int32.ofInt v2))]) rfl rfl ?_
      refine jw_iinc (ls' := [some (.ref 167), some (.int (Int32.ofInt (v1 + 0))), some (.int (Int32.ofInt (v2 + 1)))]) rfl rfl rfl ?_
      refine jw_goto rfl ?_
      exact jz_fg (l := [some (.ref 167), some (.int (Int32.ofInt (v1 + 0))), some (.int (Int32.ofInt (v2 + 1)))]) ⟨rfl, rfl, rfl, trivial⟩ h
