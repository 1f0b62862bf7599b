/-! The methods of the reference walked (3). -/
set_option maxHeartbeats 4000000 in
theorem e_250 {xs : Nat → Int32} {L d : Nat} {v1 : Int} {v2 : Int} {J K : jZ} {P : Int → jZ → jZ → Prop} (h : ((0 : Int) ≤ ((v1 * 60) + v2) ∧ ((v1 * 60) + v2) < 1620) ∧ P (((J 197 ((v1 * 60) + v2).toNat) - (J 196 ((v1 * 60) + v2).toNat)) + 1) J K) : q_250 xs L (d + 2) v1 v2 J K P := by
  unfold q_250
  refine jq_in (ls := [some (.ref 167), some (.int (Int32.ofInt v1)), some (.int (Int32.ofInt v2))]) rfl (Nat.le_of_ble_eq_true rfl) rfl ?_
  refine jw_aload_n rfl rfl ?_
  refine jw_iload_n rfl rfl ?_
  refine jw_iload_n rfl rfl ?_
  refine jw_virt (k := 2) (c := 19) (as := [.int (Int32.ofInt v1), .int (Int32.ofInt v2)]) rfl rfl rfl (Nat.le_of_ble_eq_true rfl) rfl (Nat.le_of_ble_eq_true rfl) rfl rfl (jz_ci ?_)
  refine jq_in (ls := [some (.ref 167), some (.int (Int32.ofInt v1)), some (.int (Int32.ofInt v2))]) rfl (Nat.le_of_ble_eq_true rfl) rfl ?_
  refine jw_aload_n rfl rfl ?_
  refine jw_gr (q := 197) rfl rfl rfl ?_
  refine jw_iload_n rfl rfl ?_
  refine jw_bipush rfl (by decide) ?_
  refine jw_imul rfl ?_
  refine jw_iload_n rfl rfl ?_
  refine jw_iadd rfl ?_
  obtain ⟨o1, h⟩ := h
  refine jw_iald (v := (J 197 ((v1 * 60) + v2).toNat)) (N := 1620) rfl rfl rfl (by omega) o1 rfl ?_
  refine jw_iret rfl ?_
  refine jw_aload_n rfl rfl ?_
  refine jw_iload_n rfl rfl ?_
  refine jw_iload_n rfl rfl ?_
  refine jw_virt (k := 2) (c := 19) (as := [.int (Int32.ofInt v1), .int (Int32.ofInt v2)]) rfl rfl rfl (Nat.le_of_ble_eq_true rfl) rfl (Nat.le_of_ble_eq_true rfl) rfl rfl (jz_ci ?_)
  refine jq_in (ls := [some (.ref 167), some (.int (Int32.ofInt v1)), some (.int (Int32.ofInt v2))]) rfl (Nat.le_of_ble_eq_true rfl) rfl ?_
  refine jw_aload_n rfl rfl ?_
  refine jw_gr (q := 196) rfl rfl rfl ?_
  refine jw_iload_n rfl rfl ?_
  refine jw_bipush rfl (by decide) ?_
  refine jw_imul rfl ?_
  refine jw_iload_n rfl rfl ?_
  refine jw_iadd rfl ?_
  refine jw_iald (v := (J 196 ((v1 * 60) + v2).toNat)) (N := 1620) rfl rfl rfl (by omega) o1 rfl ?_
  refine jw_iret rfl ?_
  refine jw_isub rfl ?_
  refine jw_iconst rfl ?_
  refine jw_iadd rfl ?_
  refine jw_iret rfl ?_
  exact h
set_option maxHeartbeats 4000000 in
theorem e_251 {xs : Nat → Int32} {L d : Nat} {v1 : Int} {v2 : Int} {J K : jZ} {P : Int → jZ → jZ → Prop} (h : (-2147483648 ≤ v1 ∧ v1 < 2147483648) ∧ (-2147483648 ≤ ((J 167 10) - 1) ∧ ((J 167 10) - 1) < 2147483648) ∧ (((0 : Int) ≤ v1 ∧ v1 < (J 167 10)) → (-2147483648 ≤ v2 ∧ v2 < 2147483648) ∧ ((-1) ≤ v2 → q_181 xs L (d + 2) J K (fun J6 K7 => l_251_32 xs L (d + 2) v1 v2 0 (-1) 0 J6 K7 P)) ∧ (v2 < (-1) → q_170 xs L (d + 2) (-2) J K (fun r10 J8 K9 => P r10 J8 K9))) ∧ (¬ ((0 : Int) ≤ v1 ∧ v1 < (J 167 10)) → q_170 xs L (d + 2) (-2) J K (fun r13 J11 K12 => P r13 J11 K12))) : q_251 xs L (d + 3) v1 v2 J K P := by
  unfold q_251
  refine jq_in (ls := [some (.ref 167), some (.int (Int32.ofInt v1)), some (.int (Int32.ofInt v2)), none, none, none]) rfl (Nat.le_of_ble_eq_true rfl) rfl ?_
  refine jw_aload_n rfl rfl ?_
  refine jw_iload_n rfl rfl ?_
  refine jw_virt (k := 1) (c := 19) (as := [.int (Int32.ofInt v1)]) rfl rfl rfl (Nat.le_of_ble_eq_true rfl) rfl (Nat.le_of_ble_eq_true rfl) rfl rfl (jz_ci ?_)
  obtain ⟨o1, h⟩ := h
  obtain ⟨o2, h⟩ := h
  refine sb_178 o1 o2 (fun c3 => ?_) (fun c3 => ?_)
  · replace h := h.1 c3
    refine jw_if_eq rfl (by omega) (fun hc => by exfalso; omega) (fun _ => ?_)
    refine jw_iload_n rfl rfl ?_
    refine jw_iconst rfl ?_
    obtain ⟨o4, h⟩ := h
    refine jw_ic_ge rfl o4 (by omega) (fun c5 => ?_) (fun c5 => ?_)
    · replace h := h.1 c5
      refine jw_aload_n rfl rfl ?_
      refine jw_virt (k := 0) (c := 19) (as := []) rfl rfl rfl (Nat.le_of_ble_eq_true rfl) rfl (Nat.le_of_ble_eq_true rfl) rfl rfl (jz_cv ?_)
      refine jm_Q.mono h (jp_v_mono (fun J6 K7 h => ?_))
      refine jw_iconst rfl ?_
      refine jw_istore_n (ls' := [some (.ref 167), some (.int (Int32.ofInt v1)), some (.int (Int32.ofInt v2)), some (.int (Int32.ofInt 0)), none, none]) rfl rfl ?_
      refine jw_iconst rfl ?_
      refine jw_istore (ls' := [some (.ref 167), some (.int (Int32.ofInt v1)), some (.int (Int32.ofInt v2)), some (.int (Int32.ofInt 0)), some (.int (Int32.ofInt (-1))), none]) rfl rfl ?_
      refine jw_iconst rfl ?_
      refine jw_istore (ls' := [some (.ref 167), some (.int (Int32.ofInt v1)), some (.int (Int32.ofInt v2)), some (.int (Int32.ofInt 0)), some (.int (Int32.ofInt (-1))), some (.int (Int32.ofInt 0))]) rfl rfl ?_
      exact jz_fg (l := [some (.ref 167), some (.int (Int32.ofInt v1)), some (.int (Int32.ofInt v2)), some (.int (Int32.ofInt 0)), some (.int (Int32.ofInt (-1))), some (.int (Int32.ofInt 0))]) ⟨rfl, rfl, rfl, rfl, rfl, rfl, trivial⟩ h
    · replace h := h.2 c5
      refine jw_aload_n rfl rfl ?_
      refine jw_bipush rfl (by decide) ?_
      refine jw_virt (k := 1) (c := 19) (as := [.int (Int32.ofInt (-2))]) rfl rfl rfl (Nat.le_of_ble_eq_true rfl) rfl (Nat.le_of_ble_eq_true rfl) rfl rfl (jz_ci ?_)
      refine jm_Q.mono h (jp_i_mono (fun r10 J8 K9 h => ?_))
      refine jw_iret rfl ?_
      exact h
  · replace h := h.2 c3
    refine jw_if_eq rfl (by omega) (fun _ => ?_) (fun hc => by exfalso; omega)
    refine jw_aload_n rfl rfl ?_
    refine jw_bipush rfl (by decide) ?_
    refine jw_virt (k := 1) (c := 19) (as := [.int (Int32.ofInt (-2))]) rfl rfl rfl (Nat.le_of_ble_eq_true rfl) rfl (Nat.le_of_ble_eq_true rfl) rfl rfl (jz_ci ?_)
    refine jm_Q.mono h (jp_i_mono (fun r13 J11 K12 h => ?_))
    refine jw_iret rfl ?_
    exact h
set_option maxHeartbeats 4000000 in
theorem e_251_32 {xs : Nat → Int32} {L d : Nat} {v1 : Int} {v2 : Int} {v3 : Int} {v4 : Int} {v5 : Int} {J K : jZ} {P : Int → jZ → jZ → Prop} (h : ((0 : Int) ≤ v1 ∧ v1 < 27) ∧ (-2147483648 ≤ v5 ∧ v5 < 2147483648) ∧ (-2147483648 ≤ J 195 v1.toNat ∧ J 195 v1.toNat < 2147483648) ∧ ((J 195 v1.toNat) ≤ v5 → (-2147483648 ≤ v2 ∧ v2 < 2147483648) ∧ (¬ v2 = (-1) → q_170 xs L (d + 2) (-2) J K (fun r9 J7 K8 => P r9 J7 K8)) ∧ (v2 = (-1) → P v3 J K)) ∧ (v5 < (J 195 v1.toNat) → ((0 : Int) ≤ ((v1 * 60) + v5) ∧ ((v1 * 60) + v5) < 1620) ∧ (-2147483648 ≤ J 196 ((v1 * 60) + v5).toNat ∧ J 196 ((v1 * 60) + v5).toNat < 2147483648) ∧ (-2147483648 ≤ v4 ∧ v4 < 2147483648) ∧ ((J 196 ((v1 * 60) + v5).toNat) ≤ v4 → l_251_32 xs L (d + 2) v1 v2 v3 v4 (v5 + 1) J K P) ∧ (v4 < (J 196 ((v1 * 60) + v5).toNat) → (-2147483648 ≤ v3 ∧ v3 < 2147483648) ∧ (-2147483648 ≤ v2 ∧ v2 < 2147483648) ∧ (¬ v3 = v2 → l_251_32 xs L (d + 2) v1 v2 (v3 + 1) (J 197 ((v1 * 60) + v5).toNat) (v5 + 1) J K P) ∧ (v3 = v2 → P v5 J K)))) : l_251_32 xs L (d + 2) v1 v2 v3 v4 v5 J K P := by
  unfold l_251_32
  refine jw_iload rfl rfl ?_
  refine jw_aload_n rfl rfl ?_
  refine jw_gr (q := 195) rfl rfl rfl ?_
  refine jw_iload_n rfl rfl ?_
  obtain ⟨o1, h⟩ := h
  refine jw_iald (v := (J 195 v1.toNat)) (N := 27) rfl rfl rfl (by omega) o1 rfl ?_
  obtain ⟨o2, h⟩ := h
  obtain ⟨o3, h⟩ := h
  refine jw_ic_ge rfl o2 o3 (fun c4 => ?_) (fun c4 => ?_)
  · replace h := h.1 c4
    refine jw_iload_n rfl rfl ?_
    refine jw_iconst rfl ?_
    obtain ⟨o5, h⟩ := h
    refine jw_ic_ne rfl o5 (by omega) (fun c6 => ?_) (fun c6 => ?_)
    · replace h := h.1 c6
      refine jw_aload_n rfl rfl ?_
      refine jw_bipush rfl (by decide) ?_
      refine jw_virt (k := 1) (c := 19) (as := [.int (Int32.ofInt (-2))]) rfl rfl rfl (Nat.le_of_ble_eq_true rfl) rfl (Nat.le_of_ble_eq_true rfl) rfl rfl (jz_ci ?_)
      refine jm_Q.mono h (jp_i_mono (fun r9 J7 K8 h => ?_))
      refine jw_iret rfl ?_
      exact h
    · replace h := h.2 c6
      refine jw_iload_n rfl rfl ?_
      refine jw_goto rfl ?_
      refine jw_iret rfl ?_
      exact h
  · replace h := h.2 c4
    refine jw_aload_n rfl rfl ?_
    refine jw_iload_n rfl rfl ?_
    refine jw_iload rfl rfl ?_
    refine jw_virt (k := 2) (c := 19) (as := [.int (Int32.ofInt v1), .int (Int32.ofInt v5)]) rfl rfl rfl (Nat.le_of_ble_eq_true rfl) rfl (Nat.le_of_ble_eq_true rfl) rfl rfl (jz_ci ?_)
    refine jq_in (ls := [some (.ref 167), some (.int (Int32.ofInt v1)), some (.int (Int32.ofInt v5))]) rfl (Nat.le_of_ble_eq_true rfl) rfl ?_
    refine jw_aload_n rfl rfl ?_
    refine jw_gr (q := 196) rfl rfl rfl ?_
    refine jw_iload_n rfl rfl ?_
    refine jw_bipush rfl (by decide) ?_
    refine jw_imul rfl ?_
    refine jw_iload_n rfl rfl ?_
    refine jw_iadd rfl ?_
    obtain ⟨o10, h⟩ := h
    refine jw_iald (v := (J 196 ((v1 * 60) + v5).toNat)) (N := 1620) rfl rfl rfl (by omega) o10 rfl ?_
    refine jw_iret rfl ?_
    refine jw_iload rfl rfl ?_
    obtain ⟨o11, h⟩ := h
    obtain ⟨o12, h⟩ := h
    refine jw_ic_le rfl o11 o12 (fun c13 => ?_) (fun c13 => ?_)
    · replace h := h.1 c13
      refine jw_iinc (ls' := [some (.ref 167), some (.int (Int32.ofInt v1)), some (.int (Int32.ofInt v2)), some (.int (Int32.ofInt v3)), some (.int (Int32.ofInt v4)), some (.int (Int32.ofInt (v5 + 1)))]) rfl rfl rfl ?_
      refine jw_goto rfl ?_
      exact jz_fg (l := [some (.ref 167), some (.int (Int32.ofInt v1)), some (.int (Int32.ofInt v2)), some (.int (Int32.ofInt v3)), some (.int (Int32.ofInt v4)), some (.int (Int32.ofInt (v5 + 1)))]) ⟨rfl, rfl, rfl, rfl, rfl, rfl, trivial⟩ h
    · replace h := h.2 c13
      refine jw_aload_n rfl rfl ?_
      refine jw_iload_n rfl rfl ?_
      refine jw_iload rfl rfl ?_
      refine jw_virt (k := 2) (c := 19) (as := [.int (Int32.ofInt v1), .int (Int32.ofInt v5)]) rfl rfl rfl (Nat.le_of_ble_eq_true rfl) rfl (Nat.le_of_ble_eq_true rfl) rfl rfl (jz_ci ?_)
      refine jq_in (ls := [some (.ref 167), some (.int (Int32.ofInt v1)), some (.int (Int32.ofInt v5))]) rfl (Nat.le_of_ble_eq_true rfl) rfl ?_
      refine jw_aload_n rfl rfl ?_
      refine jw_gr (q := 197) rfl rfl rfl ?_
      refine jw_iload_n rfl rfl ?_
      refine jw_bipush rfl (by decide) ?_
      refine jw_imul rfl ?_
      refine jw_iload_n rfl rfl ?_
      refine jw_iadd rfl ?_
      refine jw_iald (v := (J 197 ((v1 * 60) + v5).toNat)) (N := 1620) rfl rfl rfl (by omega) o10 rfl ?_
      refine jw_iret rfl ?_
      refine jw_istore (ls' := [some (.ref 167), some (.int (Int32.ofInt v1)), some (.int (Int32.ofInt v2)), some (.int (Int32.ofInt v3)), some (.int (Int32.ofInt (J 197 ((v1 * 60) + v5).toNat))), some (.int (Int32.ofInt v5))]) rfl rfl ?_
      refine jw_iload_n rfl rfl ?_
      refine jw_iinc (ls' := [some (.ref 167), some (.int (Int32.ofInt v1)), some (.int (Int32.ofInt v2)), some (.int (Int32.ofInt (v3 + 1))), some (.int (Int32.ofInt (J 197 ((v1 * 60) + v5).toNat))), some (.int (Int32.ofInt v5))]) rfl rfl rfl ?_
      refine jw_iload_n rfl rfl ?_
      obtain ⟨o14, h⟩ := h
      obtain ⟨o15, h⟩ := h
      refine jw_ic_ne rfl o14 o15 (fun c16 => ?_) (fun c16 => ?_)
      · replace h := h.1 c16
        refine jw_iinc (ls' := [some (.ref 167), some (.int (Int32.ofInt v1)), some (.int (Int32.ofInt v2)), some (.int (Int32.ofInt (v3 + 1))), some (.int (Int32.ofInt (J 197 ((v1 * 60) + v5).toNat))), some (.int (Int32.ofInt (v5 + 1)))]) rfl rfl rfl ?_
        refine jw_goto rfl ?_
        exact jz_fg (l := [some (.ref 167), some (.int (Int32.ofInt v1)), some (.int (Int32.ofInt v2)), some (.int (Int32.ofInt (v3 + 1))), some (.int (Int32.ofInt (J 197 ((v1 * 60) + v5).toNat))), some (.int (Int32.ofInt (v5 + 1)))]) ⟨rfl, rfl, rfl, rfl, rfl, rfl, trivial⟩ h
      · replace h := h.2 c16
        refine jw_iload rfl rfl ?_
        refine jw_iret rfl ?_
        exact h
set_option maxHeartbeats 4000000 in
theorem e_252 {xs : Nat → Int32} {L d : Nat} {v1 : Int} {v2 : Int} {J K : jZ} {P : Int → jZ → jZ → Prop} (h : (-2147483648 ≤ v1 ∧ v1 < 2147483648) ∧ (-2147483648 ≤ ((J 167 10) - 1) ∧ ((J 167 10) - 1) < 2147483648) ∧ (((0 : Int) ≤ v1 ∧ v1 < (J 167 10)) → (-2147483648 ≤ v2 ∧ v2 < 2147483648) ∧ ((-1) ≤ v2 → q_181 xs L (d + 2) J K (fun J6 K7 => l_252_32 xs L (d + 2) v1 v2 0 (-1) 0 J6 K7 P)) ∧ (v2 < (-1) → q_170 xs L (d + 2) (-2) J K (fun r10 J8 K9 => P r10 J8 K9))) ∧ (¬ ((0 : Int) ≤ v1 ∧ v1 < (J 167 10)) → q_170 xs L (d + 2) (-2) J K (fun r13 J11 K12 => P r13 J11 K12))) : q_252 xs L (d + 3) v1 v2 J K P := by
  unfold q_252
  refine jq_in (ls := [some (.ref 167), some (.int (Int32.ofInt v1)), some (.int (Int32.ofInt v2)), none, none, none]) rfl (Nat.le_of_ble_eq_true rfl) rfl ?_
  refine jw_aload_n rfl rfl ?_
  refine jw_iload_n rfl rfl ?_
  refine jw_virt (k := 1) (c := 19) (as := [.int (Int32.ofInt v1)]) rfl rfl rfl (Nat.le_of_ble_eq_true rfl) rfl (Nat.le_of_ble_eq_true rfl) rfl rfl (jz_ci ?_)
  obtain ⟨o1, h⟩ := h
  obtain ⟨o2, h⟩ := h
  refine sb_178 o1 o2 (fun c3 => ?_) (fun c3 => ?_)
  · replace h := h.1 c3
    refine jw_if_eq rfl (by omega) (fun hc => by exfalso; omega) (fun _ => ?_)
    refine jw_iload_n rfl rfl ?_
    refine jw_iconst rfl ?_
    obtain ⟨o4, h⟩ := h
    refine jw_ic_ge rfl o4 (by omega) (fun c5 => ?_) (fun c5 => ?_)
    · replace h := h.1 c5
      refine jw_aload_n rfl rfl ?_
      refine jw_virt (k := 0) (c := 19) (as := []) rfl rfl rfl (Nat.le_of_ble_eq_true rfl) rfl (Nat.le_of_ble_eq_true rfl) rfl rfl (jz_cv ?_)
      refine jm_Q.mono h (jp_v_mono (fun J6 K7 h => ?_))
      refine jw_iconst rfl ?_
      refine jw_istore_n (ls' := [some (.ref 167), some (.int (Int32.ofInt v1)), some (.int (Int32.ofInt v2)), some (.int (Int32.ofInt 0)), none, none]) rfl rfl ?_
      refine jw_iconst rfl ?_
      refine jw_istore (ls' := [some (.ref 167), some (.int (Int32.ofInt v1)), some (.int (Int32.ofInt v2)), some (.int (Int32.ofInt 0)), some (.int (Int32.ofInt (-1))), none]) rfl rfl ?_
      refine jw_iconst rfl ?_
      refine jw_istore (ls' := [some (.ref 167), some (.int (Int32.ofInt v1)), some (.int (Int32.ofInt v2)), some (.int (Int32.ofInt 0)), some (.int (Int32.ofInt (-1))), some (.int (Int32.ofInt 0))]) rfl rfl ?_
      exact jz_fg (l := [some (.ref 167), some (.int (Int32.ofInt v1)), some (.int (Int32.ofInt v2)), some (.int (Int32.ofInt 0)), some (.int (Int32.ofInt (-1))), some (.int (Int32.ofInt 0))]) ⟨rfl, rfl, rfl, rfl, rfl, rfl, trivial⟩ h
    · replace h := h.2 c5
      refine jw_aload_n rfl rfl ?_
      refine jw_bipush rfl (by decide) ?_
      refine jw_virt (k := 1) (c := 19) (as := [.int (Int32.ofInt (-2))]) rfl rfl rfl (Nat.le_of_ble_eq_true rfl) rfl (Nat.le_of_ble_eq_true rfl) rfl rfl (jz_ci ?_)
      refine jm_Q.mono h (jp_i_mono (fun r10 J8 K9 h => ?_))
      refine jw_iret rfl ?_
      exact h
  · replace h := h.2 c3
    refine jw_if_eq rfl (by omega) (fun _ => ?_) (fun hc => by exfalso; omega)
    refine jw_aload_n rfl rfl ?_
    refine jw_bipush rfl (by decide) ?_
    refine jw_virt (k := 1) (c := 19) (as := [.int (Int32.ofInt (-2))]) rfl rfl rfl (Nat.le_of_ble_eq_true rfl) rfl (Nat.le_of_ble_eq_true rfl) rfl rfl (jz_ci ?_)
    refine jm_Q.mono h (jp_i_mono (fun r13 J11 K12 h => ?_))
    refine jw_iret rfl ?_
    exact h
set_option maxHeartbeats 4000000 in
theorem e_252_32 {xs : Nat → Int32} {L d : Nat} {v1 : Int} {v2 : Int} {v3 : Int} {v4 : Int} {v5 : Int} {J K : jZ} {P : Int → jZ → jZ → Prop} (h : ((0 : Int) ≤ v1 ∧ v1 < 27) ∧ (-2147483648 ≤ v5 ∧ v5 < 2147483648) ∧ (-2147483648 ≤ J 195 v1.toNat ∧ J 195 v1.toNat < 2147483648) ∧ ((J 195 v1.toNat) ≤ v5 → (-2147483648 ≤ v2 ∧ v2 < 2147483648) ∧ (¬ v2 = (-1) → q_170 xs L (d + 2) (-2) J K (fun r9 J7 K8 => P r9 J7 K8)) ∧ (v2 = (-1) → P v3 J K)) ∧ (v5 < (J 195 v1.toNat) → ((0 : Int) ≤ ((v1 * 60) + v5) ∧ ((v1 * 60) + v5) < 1620) ∧ (-2147483648 ≤ J 196 ((v1 * 60) + v5).toNat ∧ J 196 ((v1 * 60) + v5).toNat < 2147483648) ∧ (-2147483648 ≤ v4 ∧ v4 < 2147483648) ∧ ((J 196 ((v1 * 60) + v5).toNat) ≤ v4 → l_252_32 xs L (d + 2) v1 v2 v3 v4 (v5 + 1) J K P) ∧ (v4 < (J 196 ((v1 * 60) + v5).toNat) → (-2147483648 ≤ v3 ∧ v3 < 2147483648) ∧ (-2147483648 ≤ v2 ∧ v2 < 2147483648) ∧ (¬ v3 = v2 → l_252_32 xs L (d + 2) v1 v2 (v3 + 1) (J 197 ((v1 * 60) + v5).toNat) (v5 + 1) J K P) ∧ (v3 = v2 → P (J 197 ((v1 * 60) + v5).toNat) J K)))) : l_252_32 xs L (d + 2) v1 v2 v3 v4 v5 J K P := by
  unfold l_252_32
  refine jw_iload rfl rfl ?_
  refine jw_aload_n rfl rfl ?_
  refine jw_gr (q := 195) rfl rfl rfl ?_
  refine jw_iload_n rfl rfl ?_
  obtain ⟨o1, h⟩ := h
  refine jw_iald (v := (J 195 v1.toNat)) (N := 27) rfl rfl rfl (by omega) o1 rfl ?_
  obtain ⟨o2, h⟩ := h
  obtain ⟨o3, h⟩ := h
  refine jw_ic_ge rfl o2 o3 (fun c4 => ?_) (fun c4 => ?_)
  · replace h := h.1 c4
    refine jw_iload_n rfl rfl ?_
    refine jw_iconst rfl ?_
    obtain ⟨o5, h⟩ := h
    refine jw_ic_ne rfl o5 (by omega) (fun c6 => ?_) (fun c6 => ?_)
    · replace h := h.1 c6
      refine jw_aload_n rfl rfl ?_
      refine jw_bipush rfl (by decide) ?_
      refine jw_virt (k := 1) (c := 19) (as := [.int (Int32.ofInt (-2))]) rfl rfl rfl (Nat.le_of_ble_eq_true rfl) rfl (Nat.le_of_ble_eq_true rfl) rfl rfl (jz_ci ?_)
      refine jm_Q.mono h (jp_i_mono (fun r9 J7 K8 h => ?_))
      refine jw_iret rfl ?_
      exact h
    · replace h := h.2 c6
      refine jw_iload_n rfl rfl ?_
      refine jw_goto rfl ?_
      refine jw_iret rfl ?_
      exact h
  · replace h := h.2 c4
    refine jw_aload_n rfl rfl ?_
    refine jw_iload_n rfl rfl ?_
    refine jw_iload rfl rfl ?_
    refine jw_virt (k := 2) (c := 19) (as := [.int (Int32.ofInt v1), .int (Int32.ofInt v5)]) rfl rfl rfl (Nat.le_of_ble_eq_true rfl) rfl (Nat.le_of_ble_eq_true rfl) rfl rfl (jz_ci ?_)
    refine jq_in (ls := [some (.ref 167), some (.int (Int32.ofInt v1)), some (.int (Int32.ofInt v5))]) rfl (Nat.le_of_ble_eq_true rfl) rfl ?_
    refine jw_aload_n rfl rfl ?_
    refine jw_gr (q := 196) rfl rfl rfl ?_
    refine jw_iload_n rfl rfl ?_
    refine jw_bipush rfl (by decide) ?_
    refine jw_imul rfl ?_
    refine jw_iload_n rfl rfl ?_
    refine jw_iadd rfl ?_
    obtain ⟨o10, h⟩ := h
    refine jw_iald (v := (J 196 ((v1 * 60) + v5).toNat)) (N := 1620) rfl rfl rfl (by omega) o10 rfl ?_
    refine jw_iret rfl ?_
    refine jw_iload rfl rfl ?_
    obtain ⟨o11, h⟩ := h
    obtain ⟨o12, h⟩ := h
    refine jw_ic_le rfl o11 o12 (fun c13 => ?_) (fun c13 => ?_)
    · replace h := h.1 c13
      refine jw_iinc (ls' := [some (.ref 167), some (.int (Int32.ofInt v1)), some (.int (Int32.ofInt v2)), some (.int (Int32.ofInt v3)), some (.int (Int32.ofInt v4)), some (.int (Int32.ofInt (v5 + 1)))]) rfl rfl rfl ?_
      refine jw_goto rfl ?_
      exact jz_fg (l := [some (.ref 167), some (.int (Int32.ofInt v1)), some (.int (Int32.ofInt v2)), some (.int (Int32.ofInt v3)), some (.int (Int32.ofInt v4)), some (.int (Int32.ofInt (v5 + 1)))]) ⟨rfl, rfl, rfl, rfl, rfl, rfl, trivial⟩ h
    · replace h := h.2 c13
      refine jw_aload_n rfl rfl ?_
      refine jw_iload_n rfl rfl ?_
      refine jw_iload rfl rfl ?_
      refine jw_virt (k := 2) (c := 19) (as := [.int (Int32.ofInt v1), .int (Int32.ofInt v5)]) rfl rfl rfl (Nat.le_of_ble_eq_true rfl) rfl (Nat.le_of_ble_eq_true rfl) rfl rfl (jz_ci ?_)
      refine jq_in (ls := [some (.ref 167), some (.int (Int32.ofInt v1)), some (.int (Int32.ofInt v5))]) rfl (Nat.le_of_ble_eq_true rfl) rfl ?_
      refine jw_aload_n rfl rfl ?_
      refine jw_gr (q := 197) rfl rfl rfl ?_
      refine jw_iload_n rfl rfl ?_
      refine jw_bipush rfl (by decide) ?_
      refine jw_imul rfl ?_
      refine jw_iload_n rfl rfl ?_
      refine jw_iadd rfl ?_
      refine jw_iald (v := (J 197 ((v1 * 60) + v5).toNat)) (N := 1620) rfl rfl rfl (by omega) o10 rfl ?_
      refine jw_iret rfl ?_
      refine jw_istore (ls' := [some (.ref 167), some (.int (Int32.ofInt v1)), some (.int (Int32.ofInt v2)), some (.int (Int32.ofInt v3)), some (.int (Int32.ofInt (J 197 ((v1 * 60) + v5).toNat))), some (.int (Int32.ofInt v5))]) rfl rfl ?_
      refine jw_iload_n rfl rfl ?_
      refine jw_iinc (ls' := [some (.ref 167), some (.int (Int32.ofInt v1)), some (.int (Int32.ofInt v2)), some (.int (Int32.ofInt (v3 + 1))), some (.int (Int32.ofInt (J 197 ((v1 * 60) + v5).toNat))), some (.int (Int32.ofInt v5))]) rfl rfl rfl ?_
      refine jw_iload_n rfl rfl ?_
      obtain ⟨o14, h⟩ := h
      obtain ⟨o15, h⟩ := h
      refine jw_ic_ne rfl o14 o15 (fun c16 => ?_) (fun c16 => ?_)
      · replace h := h.1 c16
        refine jw_iinc (ls' := [some (.ref 167), some (.int (Int32.ofInt v1)), some (.int (Int32.ofInt v2)), some (.int (Int32.ofInt (v3 + 1))), some (.int (Int32.ofInt (J 197 ((v1 * 60) + v5).toNat))), some (.int (Int32.ofInt (v5 + 1)))]) rfl rfl rfl ?_
        refine jw_goto rfl ?_
        exact jz_fg (l := [some (.ref 167), some (.int (Int32.ofInt v1)), some (.int (Int32.ofInt v2)), some (.int (Int32.ofInt (v3 + 1))), some (.int (Int32.ofInt (J 197 ((v1 * 60) + v5).toNat))), some (.int (Int32.ofInt (v5 + 1)))]) ⟨rfl, rfl, rfl, rfl, rfl, rfl, trivial⟩ h
      · replace h := h.2 c16
        refine jw_iload rfl rfl ?_
        refine jw_iret rfl ?_
        exact h
set_option maxHeartbeats 4000000 in
theorem e_253 {xs : Nat → Int32} {L d : Nat} {v1 : Int} {v2 : Int} {J K : jZ} {P : Int → jZ → jZ → Prop} (h : (-2147483648 ≤ v1 ∧ v1 < 2147483648) ∧ (-2147483648 ≤ ((J 167 10) - 1) ∧ ((J 167 10) - 1) < 2147483648) ∧ (((0 : Int) ≤ v1 ∧ v1 < (J 167 10)) → (-2147483648 ≤ v2 ∧ v2 < 2147483648) ∧ q_254 xs L (d + 2) J K (fun r7 J5 K6 => (-2147483648 ≤ (r7 - 1) ∧ (r7 - 1) < 2147483648) ∧ ((0 ≤ v2 ∧ v2 ≤ (r7 - 1)) → q_181 xs L (d + 2) J5 K6 (fun J10 K11 => q_255 xs L (d + 2) v1 v2 J10 K11 (fun r14 J12 K13 => P r14 J12 K13))) ∧ (¬ (0 ≤ v2 ∧ v2 ≤ (r7 - 1)) → q_170 xs L (d + 2) (-2) J5 K6 (fun r17 J15 K16 => P r17 J15 K16)))) ∧ (¬ ((0 : Int) ≤ v1 ∧ v1 < (J 167 10)) → q_170 xs L (d + 2) (-2) J K (fun r20 J18 K19 => P r20 J18 K19))) : q_253 xs L (d + 3) v1 v2 J K P := by
  unfold q_253
  refine jq_in (ls := [some (.ref 167), some (.int (Int32.ofInt v1)), some (.int (Int32.ofInt v2))]) rfl (Nat.le_of_ble_eq_true rfl) rfl ?_
  refine jw_aload_n rfl rfl ?_
  refine jw_iload_n rfl rfl ?_
  refine jw_virt (k := 1) (c := 19) (as := [.int (Int32.ofInt v1)]) rfl rfl rfl (Nat.le_of_ble_eq_true rfl) rfl (Nat.le_of_ble_eq_true rfl) rfl rfl (jz_ci ?_)
  obtain ⟨o1, h⟩ := h
  obtain ⟨o2, h⟩ := h
  refine sb_178 o1 o2 (fun c3 => ?_) (fun c3 => ?_)
  · replace h := h.1 c3
    refine jw_if_eq rfl (by omega) (fun hc => by exfalso; omega) (fun _ => ?_)
    refine jw_iload_n rfl rfl ?_
    obtain ⟨o4, h⟩ := h
    refine jw_i2l rfl o4 ?_
    refine jw_lconst (x := 0) rfl rfl ?_
    refine jw_aload_n rfl rfl ?_
    refine jw_virt (k := 0) (c := 19) (as := []) rfl rfl rfl (Nat.le_of_ble_eq_true rfl) rfl (Nat.le_of_ble_eq_true rfl) rfl rfl (jz_ci ?_)
    refine jm_Q.mono h (jp_i_mono (fun r7 J5 K6 h => ?_))
    refine jw_iconst rfl ?_
    refine jw_isub rfl ?_
    obtain ⟨o8, h⟩ := h
    refine jw_i2l rfl o8 ?_
    refine jw_stat (k := 3) (as := [.long (Int64.ofInt v2), .long (Int64.ofInt 0), .long (Int64.ofInt (r7 - 1))]) rfl (by decide) rfl rfl (Nat.le_of_ble_eq_true rfl) rfl (Nat.le_of_ble_eq_true rfl) (jz_ci ?_)
    refine sb_169 (by omega) (by omega) (by omega) (fun c9 => ?_) (fun c9 => ?_)
    · replace h := h.1 c9
      refine jw_if_ne rfl (by omega) (fun _ => ?_) (fun hc => by exfalso; omega)
      refine jw_aload_n rfl rfl ?_
      refine jw_virt (k := 0) (c := 19) (as := []) rfl rfl rfl (Nat.le_of_ble_eq_true rfl) rfl (Nat.le_of_ble_eq_true rfl) rfl rfl (jz_cv ?_)
      refine jm_Q.mono h (jp_v_mono (fun J10 K11 h => ?_))
      refine jw_aload_n rfl rfl ?_
      refine jw_iload_n rfl rfl ?_
      refine jw_iload_n rfl rfl ?_
      refine jw_virt (k := 2) (c := 19) (as := [.int (Int32.ofInt v1), .int (Int32.ofInt v2)]) rfl rfl rfl (Nat.le_of_ble_eq_true rfl) rfl (Nat.le_of_ble_eq_true rfl) rfl rfl (jz_ci ?_)
      refine jm_Q.mono h (jp_i_mono (fun r14 J12 K13 h => ?_))
      refine jw_iret rfl ?_
      exact h
    · replace h := h.2 c9
      refine jw_if_ne rfl (by omega) (fun hc => by exfalso; omega) (fun _ => ?_)
      refine jw_aload_n rfl rfl ?_
      refine jw_bipush rfl (by decide) ?_
      refine jw_virt (k := 1) (c := 19) (as := [.int (Int32.ofInt (-2))]) rfl rfl rfl (Nat.le_of_ble_eq_true rfl) rfl (Nat.le_of_ble_eq_true rfl) rfl rfl (jz_ci ?_)
      refine jm_Q.mono h (jp_i_mono (fun r17 J15 K16 h => ?_))
      refine jw_iret rfl ?_
      exact h
  · replace h := h.2 c3
    refine jw_if_eq rfl (by omega) (fun _ => ?_) (fun hc => by exfalso; omega)
    refine jw_aload_n rfl rfl ?_
    refine jw_bipush rfl (by decide) ?_
    refine jw_virt (k := 1) (c := 19) (as := [.int (Int32.ofInt (-2))]) rfl rfl rfl (Nat.le_of_ble_eq_true rfl) rfl (Nat.le_of_ble_eq_true rfl) rfl rfl (jz_ci ?_)
    refine jm_Q.mono h (jp_i_mono (fun r20 J18 K19 h => ?_))
    refine jw_iret rfl ?_
    exact h
set_option maxHeartbeats 4000000 in
theorem e_254 {xs : Nat → Int32} {L d : Nat} {J K : jZ} {P : Int → jZ → jZ → Prop} (h : (-2147483648 ≤ J 167 9 ∧ J 167 9 < 2147483648) ∧ (¬ (J 167 9) = 0 → q_240 xs L d ((J 167 9) - 1) 2 J K (fun r5 J3 K4 => P (r5 + 1) J3 K4)) ∧ ((J 167 9) = 0 → P 0 J K)) : q_254 xs L (d + 1) J K P := by
  unfold q_254
  refine jq_in (ls := [some (.ref 167)]) rfl (Nat.le_of_ble_eq_true rfl) rfl ?_
  refine jw_aload_n rfl rfl ?_
  refine jw_gf (v := (J 167 9)) rfl (by decide) rfl rfl ?_
  obtain ⟨o1, h⟩ := h
  refine jw_if_ne rfl o1 (fun c2 => ?_) (fun c2 => ?_)
  · replace h := h.1 c2
    refine jw_aload_n rfl rfl ?_
    refine jw_aload_n rfl rfl ?_
    refine jw_gf (v := (J 167 9)) rfl (by decide) rfl rfl ?_
    refine jw_iconst rfl ?_
    refine jw_isub rfl ?_
    refine jw_iconst rfl ?_
    refine jw_virt (k := 2) (c := 19) (as := [.int (Int32.ofInt ((J 167 9) - 1)), .int (Int32.ofInt 2)]) rfl rfl rfl (Nat.le_of_ble_eq_true rfl) rfl (Nat.le_of_ble_eq_true rfl) rfl rfl (jz_ci ?_)
    refine jm_Q.mono h (jp_i_mono (fun r5 J3 K4 h => ?_))
    refine jw_iconst rfl ?_
    refine jw_iadd rfl ?_
    refine jw_iret rfl ?_
    exact h
  · replace h := h.2 c2
    refine jw_iconst rfl ?_
    refine jw_goto rfl ?_
    refine jw_iret rfl ?_
    exact h
set_option maxHeartbeats 4000000 in
theorem e_255 {xs : Nat → Int32} {L d : Nat} {v1 : Int} {v2 : Int} {J K : jZ} {P : Int → jZ → jZ → Prop} (h : l_255_5 xs L (d + 2) v1 v2 0 0 J K P) : q_255 xs L (d + 3) v1 v2 J K P := by
  unfold q_255
  refine jq_in (ls := [some (.ref 167), some (.int (Int32.ofInt v1)), some (.int (Int32.ofInt v2)), none, none, none]) rfl (Nat.le_of_ble_eq_true rfl) rfl ?_
  refine jw_iconst rfl ?_
  refine jw_istore_n (ls' := [some (.ref 167), some (.int (Int32.ofInt v1)), some (.int (Int32.ofInt v2)), some (.int (Int32.ofInt 0)), none, none]) rfl rfl ?_
  refine jw_iconst rfl ?_
  refine jw_istore (ls' := [some (.ref 167), some (.int (Int32.ofInt v1)), some (.int (Int32.ofInt v2)), some (.int (Int32.ofInt 0)), some (.int (Int32.ofInt 0)), none]) rfl rfl ?_
  exact jz_fg (l := [some (.ref 167), some (.int (Int32.ofInt v1)), some (.int (Int32.ofInt v2)), some (.int (Int32.ofInt 0)), some (.int (Int32.ofInt 0)), none]) ⟨rfl, rfl, rfl, rfl, rfl, jz_n0, trivial⟩ h
set_option maxHeartbeats 4000000 in
theorem e_255_5 {xs : Nat → Int32} {L d : Nat} {v1 : Int} {v2 : Int} {v3 : Int} {v4 : Int} {J K : jZ} {P : Int → jZ → jZ → Prop} (h : ((0 : Int) ≤ v1 ∧ v1 < 27) ∧ (-2147483648 ≤ v4 ∧ v4 < 2147483648) ∧ (-2147483648 ≤ J 195 v1.toNat ∧ J 195 v1.toNat < 2147483648) ∧ ((J 195 v1.toNat) ≤ v4 → P v3 J K) ∧ (v4 < (J 195 v1.toNat) → ((0 : Int) ≤ ((v1 * 60) + v4) ∧ ((v1 * 60) + v4) < 1620) ∧ q_240 xs L (d + 2) (J 196 ((v1 * 60) + v4).toNat) 2 J K (fun r8 J6 K7 => (-2147483648 ≤ r8 ∧ r8 < 2147483648) ∧ (-2147483648 ≤ v2 ∧ v2 < 2147483648) ∧ (¬ r8 = v2 → l_255_5 xs L (d + 2) v1 v2 (v3 + 0) (v4 + 1) J6 K7 P) ∧ (r8 = v2 → q_240 xs L (d + 2) (J6 197 ((v1 * 60) + v4).toNat) 2 J6 K7 (fun r14 J12 K13 => (-2147483648 ≤ r14 ∧ r14 < 2147483648) ∧ (¬ r14 = v2 → l_255_5 xs L (d + 2) v1 v2 (v3 + 0) (v4 + 1) J12 K13 P) ∧ (r14 = v2 → (-2147483648 ≤ (((J12 197 ((v1 * 60) + v4).toNat) - (J12 196 ((v1 * 60) + v4).toNat)) + 1) ∧ (((J12 197 ((v1 * 60) + v4).toNat) - (J12 196 ((v1 * 60) + v4).toNat)) + 1) < 2147483648) ∧ (¬ (((J12 197 ((v1 * 60) + v4).toNat) - (J12 196 ((v1 * 60) + v4).toNat)) + 1) = 0) ∧ l_255_5 xs L (d + 2) v1 v2 (v3 + (jz_div 5040 (((J12 197 ((v1 * 60) + v4).toNat) - (J12 196 ((v1 * 60) + v4).toNat)) + 1))) (v4 + 1) J12 K13 P)))))) : l_255_5 xs L (d + 2) v1 v2 v3 v4 J K P := by
  unfold l_255_5
  refine jw_iload rfl rfl ?_
  refine jw_aload_n rfl rfl ?_
  refine jw_gr (q := 195) rfl rfl rfl ?_
  refine jw_iload_n rfl rfl ?_
  obtain ⟨o1, h⟩ := h
  refine jw_iald (v := (J 195 v1.toNat)) (N := 27) rfl rfl rfl (by omega) o1 rfl ?_
  obtain ⟨o2, h⟩ := h
  obtain ⟨o3, h⟩ := h
  refine jw_ic_ge rfl o2 o3 (fun c4 => ?_) (fun c4 => ?_)
  · replace h := h.1 c4
    refine jw_iload_n rfl rfl ?_
    refine jw_iret rfl ?_
    exact h
  · replace h := h.2 c4
    refine jw_aload_n rfl rfl ?_
    refine jw_aload_n rfl rfl ?_
    refine jw_iload_n rfl rfl ?_
    refine jw_iload rfl rfl ?_
    refine jw_virt (k := 2) (c := 19) (as := [.int (Int32.ofInt v1), .int (Int32.ofInt v4)]) rfl rfl rfl (Nat.le_of_ble_eq_true rfl) rfl (Nat.le_of_ble_eq_true rfl) rfl rfl (jz_ci ?_)
    refine jq_in (ls := [some (.ref 167), some (.int (Int32.ofInt v1)), some (.int (Int32.ofInt v4))]) rfl (Nat.le_of_ble_eq_true rfl) rfl ?_
    refine jw_aload_n rfl rfl ?_
    refine jw_gr (q := 196) rfl rfl rfl ?_
    refine jw_iload_n rfl rfl ?_
    refine jw_bipush rfl (by decide) ?_
    refine jw_imul rfl ?_
    refine jw_iload_n rfl rfl ?_
    refine jw_iadd rfl ?_
    obtain ⟨o5, h⟩ := h
    refine jw_iald (v := (J 196 ((v1 * 60) + v4).toNat)) (N := 1620) rfl rfl rfl (by omega) o5 rfl ?_
    refine jw_iret rfl ?_
    refine jw_iconst rfl ?_
    refine jw_virt (k := 2) (c := 19) (as := [.int (Int32.ofInt (J 196 ((v1 * 60) + v4).toNat)), .int (Int32.ofInt 2)]) rfl rfl rfl (Nat.le_of_ble_eq_true rfl) rfl (Nat.le_of_ble_eq_true rfl) rfl rfl (jz_ci ?_)
    refine jm_Q.mono h (jp_i_mono (fun r8 J6 K7 h => ?_))
    refine jw_iload_n rfl rfl ?_
    obtain ⟨o9, h⟩ := h
    obtain ⟨o10, h⟩ := h
    refine jw_ic_ne rfl o9 o10 (fun c11 => ?_) (fun c11 => ?_)
    · replace h := h.1 c11
      refine jw_iconst rfl ?_
      refine jw_istore (ls' := [some (.ref 167), some (.int (Int32.ofInt v1)), some (.int (Int32.ofInt v2)), some (.int (Int32.ofInt v3)), some (.int (Int32.ofInt v4)), some (.int (Int32.ofInt 0))]) rfl rfl ?_
      refine jw_iload_n rfl rfl ?_
      refine jw_iload rfl rfl ?_
      refine jw_if_eq rfl (by omega) (fun _ => ?_) (fun hc => by exfalso; omega)
      refine jw_iconst rfl ?_
      refine jw_iadd rfl ?_
      refine jw_istore_n (ls' := [some (.ref 167), some (.int (Int32.ofInt v1)), some (.int (Int32.ofInt v2)), some (.int (Int32.ofInt (v3 + 0))), some (.int (Int32.ofInt v4)), some (.int (Int32.ofInt 0))]) rfl rfl ?_
      refine jw_iinc (ls' := [some (.ref 167), some (.int (Int32.ofInt v1)), some (.int (Int32.ofInt v2)), some (.int (Int32.ofInt (v3 + 0))), some (.int (Int32.ofInt (v4 + 1))), some (.int (Int32.ofInt 0))]) rfl rfl rfl ?_
      refine jw_goto rfl ?_
      exact jz_fg (l := [some (.ref 167), some (.int (Int32.ofInt v1)), some (.int (Int32.ofInt v2)), some (.int (Int32.ofInt (v3 + 0))), some (.int (Int32.ofInt (v4 + 1))), none]) ⟨rfl, rfl, rfl, rfl, rfl, jz_ni, trivial⟩ h
    · replace h := h.2 c11
      refine jw_aload_n rfl rfl ?_
      refine jw_aload_n rfl rfl ?_
      refine jw_iload_n rfl rfl ?_
      refine jw_iload rfl rfl ?_
      refine jw_virt (k := 2) (c := 19) (as := [.int (Int32.ofInt v1), .int (Int32.ofInt v4)]) rfl rfl rfl (Nat.le_of_ble_eq_true rfl) rfl (Nat.le_of_ble_eq_true rfl) rfl rfl (jz_ci ?_)
      refine jq_in (ls := [some (.ref 167), some (.int (Int32.ofInt v1)), some (.int (Int32.ofInt v4))]) rfl (Nat.le_of_ble_eq_true rfl) rfl ?_
      refine jw_aload_n rfl rfl ?_
      refine jw_gr (q := 197) rfl rfl rfl ?_
      refine jw_iload_n rfl rfl ?_
      refine jw_bipush rfl (by decide) ?_
      refine jw_imul rfl ?_
      refine jw_iload_n rfl rfl ?_
      refine jw_iadd rfl ?_
      refine jw_iald (v := (J6 197 ((v1 * 60) + v4).toNat)) (N := 1620) rfl rfl rfl (by omega) o5 rfl ?_
      refine jw_iret rfl ?_
      refine jw_iconst rfl ?_
      refine jw_virt (k := 2) (c := 19) (as := [.int (Int32.ofInt (J6 197 ((v1 * 60) + v4).toNat)), .int (Int32.ofInt 2)]) rfl rfl rfl (Nat.le_of_ble_eq_true rfl) rfl (Nat.le_of_ble_eq_true rfl) rfl rfl (jz_ci ?_)
      refine jm_Q.mono h (jp_i_mono (fun r14 J12 K13 h => ?_))
      refine jw_iload_n rfl rfl ?_
      obtain ⟨o15, h⟩ := h
      refine jw_ic_ne rfl o15 o10 (fun c16 => ?_) (fun c16 => ?_)
      · replace h := h.1 c16
        refine jw_iconst rfl ?_
        refine jw_istore (ls' := [some (.ref 167), some (.int (Int32.ofInt v1)), some (.int (Int32.ofInt v2)), some (.int (Int32.ofInt v3)), some (.int (Int32.ofInt v4)), some (.int (Int32.ofInt 0))]) rfl rfl ?_
        refine jw_iload_n rfl rfl ?_
        refine jw_iload rfl rfl ?_
        refine jw_if_eq rfl (by omega) (fun _ => ?_) (fun hc => by exfalso; omega)
        refine jw_iconst rfl ?_
        refine jw_iadd rfl ?_
        refine jw_istore_n (ls' := [some (.ref 167), some (.int (Int32.ofInt v1)), some (.int (Int32.ofInt v2)), some (.int (Int32.ofInt (v3 + 0))), some (.int (Int32.ofInt v4)), some (.int (Int32.ofInt 0))]) rfl rfl ?_
        refine jw_iinc (ls' := [some (.ref 167), some (.int (Int32.ofInt v1)), some (.int (Int32.ofInt v2)), some (.int (Int32.ofInt (v3 + 0))), some (.int (Int32.ofInt (v4 + 1))), some (.int (Int32.ofInt 0))]) rfl rfl rfl ?_
        refine jw_goto rfl ?_
        exact jz_fg (l := [some (.ref 167), some (.int (Int32.ofInt v1)), some (.int (Int32.ofInt v2)), some (.int (Int32.ofInt (v3 + 0))), some (.int (Int32.ofInt (v4 + 1))), none]) ⟨rfl, rfl, rfl, rfl, rfl, jz_ni, trivial⟩ h
      · replace h := h.2 c16
        refine jw_iconst rfl ?_
        refine jw_goto rfl ?_
        refine jw_istore (ls' := [some (.ref 167), some (.int (Int32.ofInt v1)), some (.int (Int32.ofInt v2)), some (.int (Int32.ofInt v3)), some (.int (Int32.ofInt v4)), some (.int (Int32.ofInt 1))]) rfl rfl ?_
        refine jw_iload_n rfl rfl ?_
        refine jw_iload rfl rfl ?_
        refine jw_if_eq rfl (by omega) (fun hc => by exfalso; omega) (fun _ => ?_)
        refine jw_sipush rfl (by decide) ?_
        refine jw_aload_n rfl rfl ?_
        refine jw_iload_n rfl rfl ?_
        refine jw_iload rfl rfl ?_
        refine jw_virt (k := 2) (c := 19) (as := [.int (Int32.ofInt v1), .int (Int32.ofInt v4)]) rfl rfl rfl (Nat.le_of_ble_eq_true rfl) rfl (Nat.le_of_ble_eq_true rfl) rfl rfl (jz_ci ?_)
        refine jq_in (ls := [some (.ref 167), some (.int (Int32.ofInt v1)), some (.int (Int32.ofInt v4))]) rfl (Nat.le_of_ble_eq_true rfl) rfl ?_
        refine jw_aload_n rfl rfl ?_
        refine jw_iload_n rfl rfl ?_
        refine jw_iload_n rfl rfl ?_
        refine jw_virt (k := 2) (c := 19) (as := [.int (Int32.ofInt v1), .int (Int32.ofInt v4)]) rfl rfl rfl (Nat.le_of_ble_eq_true rfl) rfl (Nat.le_of_ble_eq_true rfl) rfl rfl (jz_ci ?_)
        refine jq_in (ls := [some (.ref 167), some (.int (Int32.ofInt v1)), some (.int (Int32.ofInt v4))]) rfl (Nat.le_of_ble_eq_true rfl) rfl ?_
        refine jw_aload_n rfl rfl ?_
        refine jw_gr (q := 197) rfl rfl rfl ?_
        refine jw_iload_n rfl rfl ?_
        refine jw_bipush rfl (by decide) ?_
        refine jw_imul rfl ?_
        refine jw_iload_n rfl rfl ?_
        refine jw_iadd rfl ?_
        refine jw_iald (v := (J12 197 ((v1 * 60) + v4).toNat)) (N := 1620) rfl rfl rfl (by omega) o5 rfl ?_
        refine jw_iret rfl ?_
        refine jw_aload_n rfl rfl ?_
        refine jw_iload_n rfl rfl ?_
        refine jw_iload_n rfl rfl ?_
        refine jw_virt (k := 2) (c := 19) (as := [.int (Int32.ofInt v1), .int (Int32.ofInt v4)]) rfl rfl rfl (Nat.le_of_ble_eq_true rfl) rfl (Nat.le_of_ble_eq_true rfl) rfl rfl (jz_ci ?_)
        refine jq_in (ls := [some (.ref 167), some (.int (Int32.ofInt v1)), some (.int (Int32.ofInt v4))]) rfl (Nat.le_of_ble_eq_true rfl) rfl ?_
        refine jw_aload_n rfl rfl ?_
        refine jw_gr (q := 196) rfl rfl rfl ?_
        refine jw_iload_n rfl rfl ?_
        refine jw_bipush rfl (by decide) ?_
        refine jw_imul rfl ?_
        refine jw_iload_n rfl rfl ?_
        refine jw_iadd rfl ?_
        refine jw_iald (v := (J12 196 ((v1 * 60) + v4).toNat)) (N := 1620) rfl rfl rfl (by omega) o5 rfl ?_
        refine jw_iret rfl ?_
        refine jw_isub rfl ?_
        refine jw_iconst rfl ?_
        refine jw_iadd rfl ?_
        refine jw_iret rfl ?_
        obtain ⟨o17, h⟩ := h
        obtain ⟨o18, h⟩ := h
        refine jw_idiv rfl o17 o18 ?_
        refine jw_goto rfl ?_
        refine jw_iadd rfl ?_
        refine jw_istore_n (ls' := [some (.ref 167), some (.int (Int32.ofInt v1)), some (.int (Int32.ofInt v2)), some (.int (Int32.ofInt (v3 + (jz_div 5040 (((J12 197 ((v1 * 60) + v4).toNat) - (J12 196 ((v1 * 60) + v4).toNat)) + 1))))), some (.int (Int32.ofInt v4)), some (.int (Int32.ofInt 1))]) rfl rfl ?_
        refine jw_iinc (ls' := [some (.ref 167), some (.int (Int32.ofInt v1)), some (.int (Int32.ofInt v2)), some (.int (Int32.ofInt (v3 + (jz_div 5040 (((J12 197 ((v1 * 60) + v4).toNat) - (J12 196 ((v1 * 60) + v4).toNat)) + 1))))), some (.int (Int32.ofInt (v4 + 1))), some (.int (Int32.ofInt 1))]) rfl rfl rfl ?_
        refine jw_goto rfl ?_
        exact jz_fg (l := [some (.ref 167), some (.int (Int32.ofInt v1)), some (.int (Int32.ofInt v2)), some (.int (Int32.ofInt (v3 + (jz_div 5040 (((J12 197 ((v1 * 60) + v4).toNat) - (J12 196 ((v1 * 60) + v4).toNat)) + 1))))), some (.int (Int32.ofInt (v4 + 1))), none]) ⟨rfl, rfl, rfl, rfl, rfl, jz_ni, trivial⟩ h
set_option maxHeartbeats 4000000 in
theorem e_256 {xs : Nat → Int32} {L d : Nat} {v1 : Int} {v2 : Int} {J K : jZ} {P : Int → jZ → jZ → Prop} (h : (-2147483648 ≤ v1 ∧ v1 < 2147483648) ∧ (-2147483648 ≤ ((J 167 10) - 1) ∧ ((J 167 10) - 1) < 2147483648) ∧ (((0 : Int) ≤ v1 ∧ v1 < (J 167 10)) → (-2147483648 ≤ v2 ∧ v2 < 2147483648) ∧ q_254 xs L (d + 2) J K (fun r7 J5 K6 => (-2147483648 ≤ (r7 - 1) ∧ (r7 - 1) < 2147483648) ∧ ((0 ≤ v2 ∧ v2 ≤ (r7 - 1)) → q_181 xs L (d + 2) J5 K6 (fun J10 K11 => q_254 xs L (d + 2) J10 K11 (fun r14 J12 K13 => l_256_43 xs L (d + 2) v1 v2 r14 0 J12 K13 P))) ∧ (¬ (0 ≤ v2 ∧ v2 ≤ (r7 - 1)) → q_170 xs L (d + 2) (-2) J5 K6 (fun r17 J15 K16 => P r17 J15 K16)))) ∧ (¬ ((0 : Int) ≤ v1 ∧ v1 < (J 167 10)) → q_170 xs L (d + 2) (-2) J K (fun r20 J18 K19 => P r20 J18 K19))) : q_256 xs L (d + 3) v1 v2 J K P := by
  unfold q_256
  refine jq_in (ls := [some (.ref 167), some (.int (Int32.ofInt v1)), some (.int (Int32.ofInt v2)), none, none, none, none]) rfl (Nat.le_of_ble_eq_true rfl) rfl ?_
  refine jw_aload_n rfl rfl ?_
  refine jw_iload_n rfl rfl ?_
  refine jw_virt (k := 1) (c := 19) (as := [.int (Int32.ofInt v1)]) rfl rfl rfl (Nat.le_of_ble_eq_true rfl) rfl (Nat.le_of_ble_eq_true rfl) rfl rfl (jz_ci ?_)
  obtain ⟨o1, h⟩ := h
  obtain ⟨o2, h⟩ := h
  refine sb_178 o1 o2 (fun c3 => ?_) (fun c3 => ?_)
  · replace h := h.1 c3
    refine jw_if_eq rfl (by omega) (fun hc => by exfalso; omega) (fun _ => ?_)
    refine jw_iload_n rfl rfl ?_
    obtain ⟨o4, h⟩ := h
    refine jw_i2l rfl o4 ?_
    refine jw_lconst (x := 0) rfl rfl ?_
    refine jw_aload_n rfl rfl ?_
    refine jw_virt (k := 0) (c := 19) (as := []) rfl rfl rfl (Nat.le_of_ble_eq_true rfl) rfl (Nat.le_of_ble_eq_true rfl) rfl rfl (jz_ci ?_)
    refine jm_Q.mono h (jp_i_mono (fun r7 J5 K6 h => ?_))
    refine jw_iconst rfl ?_
    refine jw_isub rfl ?_
    obtain ⟨o8, h⟩ := h
    refine jw_i2l rfl o8 ?_
    refine jw_stat (k := 3) (as := [.long (Int64.ofInt v2), .long (Int64.ofInt 0), .long (Int64.ofInt (r7 - 1))]) rfl (by decide) rfl rfl (Nat.le_of_ble_eq_true rfl) rfl (Nat.le_of_ble_eq_true rfl) (jz_ci ?_)
    refine sb_169 (by omega) (by omega) (by omega) (fun c9 => ?_) (fun c9 => ?_)
    · replace h := h.1 c9
      refine jw_if_ne rfl (by omega) (fun _ => ?_) (fun hc => by exfalso; omega)
      refine jw_aload_n rfl rfl ?_
      refine jw_virt (k := 0) (c := 19) (as := []) rfl rfl rfl (Nat.le_of_ble_eq_true rfl) rfl (Nat.le_of_ble_eq_true rfl) rfl rfl (jz_cv ?_)
      refine jm_Q.mono h (jp_v_mono (fun J10 K11 h => ?_))
      refine jw_aload_n rfl rfl ?_
      refine jw_virt (k := 0) (c := 19) (as := []) rfl rfl rfl (Nat.le_of_ble_eq_true rfl) rfl (Nat.le_of_ble_eq_true rfl) rfl rfl (jz_ci ?_)
      refine jm_Q.mono h (jp_i_mono (fun r14 J12 K13 h => ?_))
      refine jw_istore_n (ls' := [some (.ref 167), some (.int (Int32.ofInt v1)), some (.int (Int32.ofInt v2)), some (.int (Int32.ofInt r14)), none, none, none]) rfl rfl ?_
      refine jw_iconst rfl ?_
      refine jw_istore (ls' := [some (.ref 167), some (.int (Int32.ofInt v1)), some (.int (Int32.ofInt v2)), some (.int (Int32.ofInt r14)), some (.int (Int32.ofInt 0)), none, none]) rfl rfl ?_
      exact jz_fg (l := [some (.ref 167), some (.int (Int32.ofInt v1)), some (.int (Int32.ofInt v2)), some (.int (Int32.ofInt r14)), some (.int (Int32.ofInt 0)), none, none]) ⟨rfl, rfl, rfl, rfl, rfl, jz_n0, jz_n0, trivial⟩ h
    · replace h := h.2 c9
      refine jw_if_ne rfl (by omega) (fun hc => by exfalso; omega) (fun _ => ?_)
      refine jw_aload_n rfl rfl ?_
      refine jw_bipush rfl (by decide) ?_
      refine jw_virt (k := 1) (c := 19) (as := [.int (Int32.ofInt (-2))]) rfl rfl rfl (Nat.le_of_ble_eq_true rfl) rfl (Nat.le_of_ble_eq_true rfl) rfl rfl (jz_ci ?_)
      refine jm_Q.mono h (jp_i_mono (fun r17 J15 K16 h => ?_))
      refine jw_iret rfl ?_
      exact h
  · replace h := h.2 c3
    refine jw_if_eq rfl (by omega) (fun _ => ?_) (fun hc => by exfalso; omega)
    refine jw_aload_n rfl rfl ?_
    refine jw_bipush rfl (by decide) ?_
    refine jw_virt (k := 1) (c := 19) (as := [.int (Int32.ofInt (-2))]) rfl rfl rfl (Nat.le_of_ble_eq_true rfl) rfl (Nat.le_of_ble_eq_true rfl) rfl rfl (jz_ci ?_)
    refine jm_Q.mono h (jp_i_mono (fun r20 J18 K19 h => ?_))
    refine jw_iret rfl ?_
    exact h
set_option maxHeartbeats 4000000 in
theorem e_256_43 {xs : Nat → Int32} {L d : Nat} {v1 : Int} {v2 : Int} {v3 : Int} {v4 : Int} {J K : jZ} {P : Int → jZ → jZ → Prop} (h : (-2147483648 ≤ v4 ∧ v4 < 2147483648) ∧ (-2147483648 ≤ v3 ∧ v3 < 2147483648) ∧ (v3 ≤ v4 → l_256_72 xs L (d + 2) v2 v3 0 J K P) ∧ (v4 < v3 → q_255 xs L (d + 2) v1 v4 J K (fun r6 J4 K5 => ((0 : Int) ≤ v4 ∧ v4 < 60) ∧ l_256_43 xs L (d + 2) v1 v2 v3 (v4 + 1) (jm_up J4 202 v4.toNat r6) K5 P))) : l_256_43 xs L (d + 2) v1 v2 v3 v4 J K P := by
  unfold l_256_43
  refine jw_iload rfl rfl ?_
  refine jw_iload_n rfl rfl ?_
  obtain ⟨o1, h⟩ := h
  obtain ⟨o2, h⟩ := h
  refine jw_ic_ge rfl o1 o2 (fun c3 => ?_) (fun c3 => ?_)
  · replace h := h.1 c3
    refine jw_iconst rfl ?_
    refine jw_istore (ls' := [some (.ref 167), some (.int (Int32.ofInt v1)), some (.int (Int32.ofInt v2)), some (.int (Int32.ofInt v3)), some (.int (Int32.ofInt 0)), none, none]) rfl rfl ?_
    exact jz_fg (l := [some (.ref 167), none, some (.int (Int32.ofInt v2)), some (.int (Int32.ofInt v3)), some (.int (Int32.ofInt 0)), none, none]) ⟨rfl, jz_ni, rfl, rfl, rfl, jz_n0, jz_n0, trivial⟩ h
  · replace h := h.2 c3
    refine jw_aload_n rfl rfl ?_
    refine jw_gr (q := 202) rfl rfl rfl ?_
    refine jw_iload rfl rfl ?_
    refine jw_aload_n rfl rfl ?_
    refine jw_iload_n rfl rfl ?_
    refine jw_iload rfl rfl ?_
    refine jw_virt (k := 2) (c := 19) (as := [.int (Int32.ofInt v1), .int (Int32.ofInt v4)]) rfl rfl rfl (Nat.le_of_ble_eq_true rfl) rfl (Nat.le_of_ble_eq_true rfl) rfl rfl (jz_ci ?_)
    refine jm_Q.mono h (jp_i_mono (fun r6 J4 K5 h => ?_))
    obtain ⟨o7, h⟩ := h
    refine jw_iast (N := 60) rfl rfl rfl (by omega) o7 ?_
    refine jw_iinc (ls' := [some (.ref 167), some (.int (Int32.ofInt v1)), some (.int (Int32.ofInt v2)), some (.int (Int32.ofInt v3)), some (.int (Int32.ofInt (v4 + 1))), none, none]) rfl rfl rfl ?_
    refine jw_goto rfl ?_
    exact jz_fg (l := [some (.ref 167), some (.int (Int32.ofInt v1)), some (.int (Int32.ofInt v2)), some (.int (Int32.ofInt v3)), some (.int (Int32.ofInt (v4 + 1))), none, none]) ⟨rfl, rfl, rfl, rfl, rfl, jz_n0, jz_n0, trivial⟩ h
set_option maxHeartbeats 4000000 in
theorem e_256_72 {xs : Nat → Int32} {L d : Nat} {v2 : Int} {v3 : Int} {v4 : Int} {J K : jZ} {P : Int → jZ → jZ → Prop} (h : (-2147483648 ≤ v4 ∧ v4 < 2147483648) ∧ (-2147483648 ≤ v3 ∧ v3 < 2147483648) ∧ (v3 ≤ v4 → ((0 : Int) ≤ v2 ∧ v2 < 60) ∧ P (J 203 v2.toNat) J K) ∧ (v4 < v3 → l_256_84 xs L (d + 2) v2 v3 v4 0 0 J K P)) : l_256_72 xs L (d + 2) v2 v3 v4 J K P := by
  unfold l_256_72
  refine jw_iload rfl rfl ?_
  refine jw_iload_n rfl rfl ?_
  obtain ⟨o1, h⟩ := h
  obtain ⟨o2, h⟩ := h
  refine jw_ic_ge rfl o1 o2 (fun c3 => ?_) (fun c3 => ?_)
  · replace h := h.1 c3
    refine jw_aload_n rfl rfl ?_
    refine jw_gr (q := 203) rfl rfl rfl ?_
    refine jw_iload_n rfl rfl ?_
    obtain ⟨o4, h⟩ := h
    refine jw_iald (v := (J 203 v2.toNat)) (N := 60) rfl rfl rfl (by omega) o4 rfl ?_
    refine jw_iret rfl ?_
    exact h
  · replace h := h.2 c3
    refine jw_iconst rfl ?_
    refine jw_istore (ls' := [some (.ref 167), none, some (.int (Int32.ofInt v2)), some (.int (Int32.ofInt v3)), some (.int (Int32.ofInt v4)), some (.int (Int32.ofInt 0)), none]) rfl rfl ?_
    refine jw_iconst rfl ?_
    refine jw_istore (ls' := [some (.ref 167), none, some (.int (Int32.ofInt v2)), some (.int (Int32.ofInt v3)), some (.int (Int32.ofInt v4)), some (.int (Int32.ofInt 0)), some (.int (Int32.ofInt 0))]) rfl rfl ?_
    exact jz_fg (l := [some (.ref 167), none, some (.int (Int32.ofInt v2)), some (.int (Int32.ofInt v3)), some (.int (Int32.ofInt v4)), some (.int (Int32.ofInt 0)), some (.int (Int32.ofInt 0))]) ⟨rfl, jz_n0, rfl, rfl, rfl, rfl, rfl, trivial⟩ h
set_option maxHeartbeats 4000000 in
theorem e_256_84 {xs : Nat → Int32} {L d : Nat} {v2 : Int} {v3 : Int} {v4 : Int} {v5 : Int} {v6 : Int} {J K : jZ} {P : Int → jZ → jZ → Prop} (h : (-2147483648 ≤ v6 ∧ v6 < 2147483648) ∧ (-2147483648 ≤ v3 ∧ v3 < 2147483648) ∧ (v3 ≤ v6 → ((0 : Int) ≤ v5 ∧ v5 < 60) ∧ l_256_72 xs L (d + 2) v2 v3 (v4 + 1) (jm_up J 203 v5.toNat v4) K P) ∧ (v6 < v3 → ((0 : Int) ≤ v6 ∧ v6 < 60) ∧ ((0 : Int) ≤ v4 ∧ v4 < 60) ∧ (-2147483648 ≤ J 202 v6.toNat ∧ J 202 v6.toNat < 2147483648) ∧ (-2147483648 ≤ J 202 v4.toNat ∧ J 202 v4.toNat < 2147483648) ∧ ((J 202 v4.toNat) < (J 202 v6.toNat) → l_256_84 xs L (d + 2) v2 v3 v4 (v5 + 1) (v6 + 1) J K P) ∧ ((J 202 v6.toNat) ≤ (J 202 v4.toNat) → (¬ (J 202 v6.toNat) = (J 202 v4.toNat) → l_256_84 xs L (d + 2) v2 v3 v4 (v5 + 0) (v6 + 1) J K P) ∧ ((J 202 v6.toNat) = (J 202 v4.toNat) → (-2147483648 ≤ v4 ∧ v4 < 2147483648) ∧ (v4 ≤ v6 → l_256_84 xs L (d + 2) v2 v3 v4 (v5 + 0) (v6 + 1) J K P) ∧ (v6 < v4 → l_256_84 xs L (d + 2) v2 v3 v4 (v5 + 1) (v6 + 1) J K P))))) : l_256_84 xs L (d + 2) v2 v3 v4 v5 v6 J K P := by
  unfold l_256_84
  refine jw_iload rfl rfl ?_
  refine jw_iload_n rfl rfl ?_
  obtain ⟨o1, h⟩ := h
  obtain ⟨o2, h⟩ := h
  refine jw_ic_ge rfl o1 o2 (fun c3 => ?_) (fun c3 => ?_)
  · replace h := h.1 c3
    refine jw_aload_n rfl rfl ?_
    refine jw_gr (q := 203) rfl rfl rfl ?_
    refine jw_iload rfl rfl ?_
    refine jw_iload rfl rfl ?_
    obtain ⟨o4, h⟩ := h
    refine jw_iast (N := 60) rfl rfl rfl (by omega) o4 ?_
    refine jw_iinc (ls' := [some (.ref 167), none, some (.int (Int32.ofInt v2)), some (.int (Int32.ofInt v3)), some (.int (Int32.ofInt (v4 + 1))), some (.int (Int32.ofInt v5)), some (.int (Int32.ofInt v6))]) rfl rfl rfl ?_
    refine jw_goto rfl ?_
    exact jz_fg (l := [some (.ref 167), none, some (.int (Int32.ofInt v2)), some (.int (Int32.ofInt v3)), some (.int (Int32.ofInt (v4 + 1))), none, none]) ⟨rfl, jz_n0, rfl, rfl, rfl, jz_ni, jz_ni, trivial⟩ h
  · replace h := h.2 c3
    refine jw_iload rfl rfl ?_
    refine jw_aload_n rfl rfl ?_
    refine jw_gr (q := 202) rfl rfl rfl ?_
    refine jw_iload rfl rfl ?_
    obtain ⟨o5, h⟩ := h
    refine jw_iald (v := (J 202 v6.toNat)) (N := 60) rfl rfl rfl (by omega) o5 rfl ?_
    refine jw_aload_n rfl rfl ?_
    refine jw_gr (q := 202) rfl rfl rfl ?_
    refine jw_iload rfl rfl ?_
    obtain ⟨o6, h⟩ := h
    refine jw_iald (v := (J 202 v4.toNat)) (N := 60) rfl rfl rfl (by omega) o6 rfl ?_
    obtain ⟨o7, h⟩ := h
    obtain ⟨o8, h⟩ := h
    refine jw_ic_gt rfl o7 o8 (fun c9 => ?_) (fun c9 => ?_)
    · replace h := h.1 c9
      refine jw_iconst rfl ?_
      refine jw_goto rfl ?_
      refine jw_iadd rfl ?_
      refine jw_istore (ls' := [some (.ref 167), none, some (.int (Int32.ofInt v2)), some (.int (Int32.ofInt v3)), some (.int (Int32.ofInt v4)), some (.int (Int32.ofInt (v5 + 1))), some (.int (Int32.ofInt v6))]) rfl rfl ?_
      refine jw_iinc (ls' := [some (.ref 167), none, some (.int (Int32.ofInt v2)), some (.int (Int32.ofInt v3)), some (.int (Int32.ofInt v4)), some (.int (Int32.ofInt (v5 + 1))), some (.int (Int32.ofInt (v6 + 1)))]) rfl rfl rfl ?_
      refine jw_goto rfl ?_
      exact jz_fg (l := [some (.ref 167), none, some (.int (Int32.ofInt v2)), some (.int (Int32.ofInt v3)), some (.int (Int32.ofInt v4)), some (.int (Int32.ofInt (v5 + 1))), some (.int (Int32.ofInt (v6 + 1)))]) ⟨rfl, jz_n0, rfl, rfl, rfl, rfl, rfl, trivial⟩ h
    · replace h := h.2 c9
      refine jw_aload_n rfl rfl ?_
      refine jw_gr (q := 202) rfl rfl rfl ?_
      refine jw_iload rfl rfl ?_
      refine jw_iald (v := (J 202 v6.toNat)) (N := 60) rfl rfl rfl (by omega) o5 rfl ?_
      refine jw_aload_n rfl rfl ?_
      refine jw_gr (q := 202) rfl rfl rfl ?_
      refine jw_iload rfl rfl ?_
      refine jw_iald (v := (J 202 v4.toNat)) (N := 60) rfl rfl rfl (by omega) o6 rfl ?_
      refine jw_ic_ne rfl o7 o8 (fun c10 => ?_) (fun c10 => ?_)
      · replace h := h.1 c10
        refine jw_iconst rfl ?_
        refine jw_iadd rfl ?_
        refine jw_istore (ls' := [some (.ref 167), none, some (.int (Int32.ofInt v2)), some (.int (Int32.ofInt v3)), some (.int (Int32.ofInt v4)), some (.int (Int32.ofInt (v5 + 0))), some (.int (Int32.ofInt v6))]) rfl rfl ?_
        refine jw_iinc (ls' := [some (.ref 167), none, some (.int (Int32.ofInt v2)), some (.int (Int32.ofInt v3)), some (.int (Int32.ofInt v4)), some (.int (Int32.ofInt (v5 + 0))), some (.int (Int32.ofInt (v6 + 1)))]) rfl rfl rfl ?_
        refine jw_goto rfl ?_
        exact jz_fg (l := [some (.ref 167), none, some (.int (Int32.ofInt v2)), some (.int (Int32.ofInt v3)), some (.int (Int32.ofInt v4)), some (.int (Int32.ofInt (v5 + 0))), some (.int (Int32.ofInt (v6 + 1)))]) ⟨rfl, jz_n0, rfl, rfl, rfl, rfl, rfl, trivial⟩ h
      · replace h := h.2 c10
        refine jw_iload rfl rfl ?_
        refine jw_iload rfl rfl ?_
        obtain ⟨o11, h⟩ := h
        refine jw_ic_ge rfl o1 o11 (fun c12 => ?_) (fun c12 => ?_)
        · replace h := h.1 c12
          refine jw_iconst rfl ?_
          refine jw_iadd rfl ?_
          refine jw_istore (ls' := [some (.ref 167), none, some (.int (Int32.ofInt v2)), some (.int (Int32.ofInt v3)), some (.int (Int32.ofInt v4)), some (.int (Int32.ofInt (v5 + 0))), some (.int (Int32.ofInt v6))]) rfl rfl ?_
          refine jw_iinc (ls' := [some (.ref 167), none, some (.int (Int32.ofInt v2)), some (.int (Int32.ofInt v3)), some (.int (Int32.ofInt v4)), some (.int (Int32.ofInt (v5 + 0))), some (.int (Int32.ofInt (v6 + 1)))]) rfl rfl rfl ?_
          refine jw_goto rfl ?_
          exact jz_fg (l := [some (.ref 167), none, some (.int (Int32.ofInt v2)), some (.int (Int32.ofInt v3)), some (.int (Int32.ofInt v4)), some (.int (Int32.ofInt (v5 + 0))), some (.int (Int32.ofInt (v6 + 1)))]) ⟨rfl, jz_n0, rfl, rfl, rfl, rfl, rfl, trivial⟩ h
        · replace h := h.2 c12
          refine jw_iconst rfl ?_
          refine jw_goto rfl ?_
          refine jw_iadd rfl ?_
          refine jw_istore (ls' := [some (.ref 167), none, some (.int (Int32.ofInt v2)), some (.int (Int32.ofInt v3)), some (.int (Int32.ofInt v4)), some (.int (Int32.ofInt (v5 + 1))), some (.int (Int32.ofInt v6))]) rfl rfl ?_
          refine jw_iinc (ls' := [some (.ref 167), none, some (.int (Int32.ofInt v2)), some (.int (Int32.ofInt v3)), some (.int (Int32.ofInt v4)), some (.int (Int32.ofInt (v5 + 1))), some (.int (Int32.ofInt (v6 + 1)))]) rfl rfl rfl ?_
          refine jw_goto rfl ?_
          exact jz_fg (l := [some (.ref 167), none, some (.int (Int32.ofInt v2)), some (.int (Int32.ofInt v3)), some (.int (Int32.ofInt v4)), some (.int (Int32.ofInt (v5 + 1))), some (.int (Int32.ofInt (v6 + 1)))]) ⟨rfl, jz_n0, rfl, rfl, rfl, rfl, rfl, trivial⟩ h
set_option maxHeartbeats 4000000 in
theorem e_257 {xs : Nat → Int32} {L d : Nat} {v1 : Int} {v2 : Int} {v3 : Int} {J K : jZ} {P : Int → jZ → jZ → Prop} (h : (-2147483648 ≤ v1 ∧ v1 < 2147483648) ∧ (-2147483648 ≤ ((J 167 10) - 1) ∧ ((J 167 10) - 1) < 2147483648) ∧ (((0 : Int) ≤ v1 ∧ v1 < (J 167 10)) → (-2147483648 ≤ v2 ∧ v2 < 2147483648) ∧ ((1 ≤ v2 ∧ v2 ≤ 60) → (-2147483648 ≤ v3 ∧ v3 < 2147483648) ∧ ((0 ≤ v3 ∧ v3 ≤ 1) → q_181 xs L (d + 2) J K (fun J8 K9 => l_257_50 xs L (d + 2) v1 v2 v3 0 (-1) 0 J8 K9 P)) ∧ (¬ (0 ≤ v3 ∧ v3 ≤ 1) → q_170 xs L (d + 2) (-2) J K (fun r12 J10 K11 => P r12 J10 K11))) ∧ (¬ (1 ≤ v2 ∧ v2 ≤ 60) → q_170 xs L (d + 2) (-2) J K (fun r15 J13 K14 => P r15 J13 K14))) ∧ (¬ ((0 : Int) ≤ v1 ∧ v1 < (J 167 10)) → q_170 xs L (d + 2) (-2) J K (fun r18 J16 K17 => P r18 J16 K17))) : q_257 xs L (d + 3) v1 v2 v3 J K P := by
  unfold q_257
  refine jq_in (ls := [some (.ref 167), some (.int (Int32.ofInt v1)), some (.int (Int32.ofInt v2)), some (.int (Int32.ofInt v3)), none, none, none, none, none]) rfl (Nat.le_of_ble_eq_true rfl) rfl ?_
  refine jw_aload_n rfl rfl ?_
  refine jw_iload_n rfl rfl ?_
  refine jw_virt (k := 1) (c := 19) (as := [.int (Int32.ofInt v1)]) rfl rfl rfl (Nat.le_of_ble_eq_true rfl) rfl (Nat.le_of_ble_eq_true rfl) rfl rfl (jz_ci ?_)
  obtain ⟨o1, h⟩ := h
  obtain ⟨o2, h⟩ := h
  refine sb_178 o1 o2 (fun c3 => ?_) (fun c3 => ?_)
  · replace h := h.1 c3
    refine jw_if_eq rfl (by omega) (fun hc => by exfalso; omega) (fun _ => ?_)
    refine jw_iload_n rfl rfl ?_
    obtain ⟨o4, h⟩ := h
    refine jw_i2l rfl o4 ?_
    refine jw_lconst (x := 1) rfl rfl ?_
    refine jw_ldc2_w rfl ?_
    refine jw_stat (k := 3) (as := [.long (Int64.ofInt v2), .long (Int64.ofInt 1), .long (Int64.ofInt 60)]) rfl (by decide) rfl rfl (Nat.le_of_ble_eq_true rfl) rfl (Nat.le_of_ble_eq_true rfl) (jz_ci ?_)
    refine sb_169 (by omega) (by omega) (by omega) (fun c5 => ?_) (fun c5 => ?_)
    · replace h := h.1 c5
      refine jw_if_eq rfl (by omega) (fun hc => by exfalso; omega) (fun _ => ?_)
      refine jw_iload_n rfl rfl ?_
      obtain ⟨o6, h⟩ := h
      refine jw_i2l rfl o6 ?_
      refine jw_lconst (x := 0) rfl rfl ?_
      refine jw_lconst (x := 1) rfl rfl ?_
      refine jw_stat (k := 3) (as := [.long (Int64.ofInt v3), .long (Int64.ofInt 0), .long (Int64.ofInt 1)]) rfl (by decide) rfl rfl (Nat.le_of_ble_eq_true rfl) rfl (Nat.le_of_ble_eq_true rfl) (jz_ci ?_)
      refine sb_169 (by omega) (by omega) (by omega) (fun c7 => ?_) (fun c7 => ?_)
      · replace h := h.1 c7
        refine jw_if_ne rfl (by omega) (fun _ => ?_) (fun hc => by exfalso; omega)
        refine jw_aload_n rfl rfl ?_
        refine jw_virt (k := 0) (c := 19) (as := []) rfl rfl rfl (Nat.le_of_ble_eq_true rfl) rfl (Nat.le_of_ble_eq_true rfl) rfl rfl (jz_cv ?_)
        refine jm_Q.mono h (jp_v_mono (fun J8 K9 h => ?_))
        refine jw_iconst rfl ?_
        refine jw_istore (ls' := [some (.ref 167), some (.int (Int32.ofInt v1)), some (.int (Int32.ofInt v2)), some (.int (Int32.ofInt v3)), some (.int (Int32.ofInt 0)), none, none, none, none]) rfl rfl ?_
        refine jw_iconst rfl ?_
        refine jw_istore (ls' := [some (.ref 167), some (.int (Int32.ofInt v1)), some (.int (Int32.ofInt v2)), some (.int (Int32.ofInt v3)), some (.int (Int32.ofInt 0)), some (.int (Int32.ofInt (-1))), none, none, none]) rfl rfl ?_
        refine jw_iconst rfl ?_
        refine jw_istore (ls' := [some (.ref 167), some (.int (Int32.ofInt v1)), some (.int (Int32.ofInt v2)), some (.int (Int32.ofInt v3)), some (.int (Int32.ofInt 0)), some (.int (Int32.ofInt (-1))), some (.int (Int32.ofInt 0)), none, none]) rfl rfl ?_
        exact jz_fg (l := [some (.ref 167), some (.int (Int32.ofInt v1)), some (.int (Int32.ofInt v2)), some (.int (Int32.ofInt v3)), some (.int (Int32.ofInt 0)), some (.int (Int32.ofInt (-1))), some (.int (Int32.ofInt 0)), none, none]) ⟨rfl, rfl, rfl, rfl, rfl, rfl, rfl, jz_n0, jz_n0, trivial⟩ h
      · replace h := h.2 c7
        refine jw_if_ne rfl (by omega) (fun hc => by exfalso; omega) (fun _ => ?_)
        refine jw_aload_n rfl rfl ?_
        refine jw_bipush rfl (by decide) ?_
        refine jw_virt (k := 1) (c := 19) (as := [.int (Int32.ofInt (-2))]) rfl rfl rfl (Nat.le_of_ble_eq_true rfl) rfl (Nat.le_of_ble_eq_true rfl) rfl rfl (jz_ci ?_)
        refine jm_Q.mono h (jp_i_mono (fun r12 J10 K11 h => ?_))
        refine jw_iret rfl ?_
        exact h
    · replace h := h.2 c5
      refine jw_if_eq rfl (by omega) (fun _ => ?_) (fun hc => by exfalso; omega)
      refine jw_aload_n rfl rfl ?_
      refine jw_bipush rfl (by decide) ?_
      refine jw_virt (k := 1) (c := 19) (as := [.int (Int32.ofInt (-2))]) rfl rfl rfl (Nat.le_of_ble_eq_true rfl) rfl (Nat.le_of_ble_eq_true rfl) rfl rfl (jz_ci ?_)
      refine jm_Q.mono h (jp_i_mono (fun r15 J13 K14 h => ?_))
      refine jw_iret rfl ?_
      exact h
  · replace h := h.2 c3
    refine jw_if_eq rfl (by omega) (fun _ => ?_) (fun hc => by exfalso; omega)
    refine jw_aload_n rfl rfl ?_
    refine jw_bipush rfl (by decide) ?_
    refine jw_virt (k := 1) (c := 19) (as := [.int (Int32.ofInt (-2))]) rfl rfl rfl (Nat.le_of_ble_eq_true rfl) rfl (Nat.le_of_ble_eq_true rfl) rfl rfl (jz_ci ?_)
    refine jm_Q.mono h (jp_i_mono (fun r18 J16 K17 h => ?_))
    refine jw_iret rfl ?_
    exact h
set_option maxHeartbeats 4000000 in
theorem e_257_50 {xs : Nat → Int32} {L d : Nat} {v1 : Int} {v2 : Int} {v3 : Int} {v4 : Int} {v5 : Int} {v6 : Int} {J K : jZ} {P : Int → jZ → jZ → Prop} (h : (-2147483648 ≤ v6 ∧ v6 < 2147483648) ∧ (v6 = 0 → l_257_66 xs L (d + 2) v1 v2 v3 v4 v5 v6 J K P) ∧ (¬ v6 = 0 → (-2147483648 ≤ (v6 + v2) ∧ (v6 + v2) < 2147483648) ∧ (-2147483648 ≤ J 167 9 ∧ J 167 9 < 2147483648) ∧ ((J 167 9) < (v6 + v2) → (-2147483648 ≤ v3 ∧ v3 < 2147483648) ∧ (¬ v3 = 0 → P v5 J K) ∧ (v3 = 0 → P v4 J K)) ∧ ((v6 + v2) ≤ (J 167 9) → l_257_66 xs L (d + 2) v1 v2 v3 v4 v5 v6 J K P))) : l_257_50 xs L (d + 2) v1 v2 v3 v4 v5 v6 J K P := by
  unfold l_257_50
  refine jw_iload rfl rfl ?_
  obtain ⟨o1, h⟩ := h
  refine jw_if_eq rfl o1 (fun c2 => ?_) (fun c2 => ?_)
  · replace h := h.1 c2
    exact jz_fg (l := [some (.ref 167), some (.int (Int32.ofInt v1)), some (.int (Int32.ofInt v2)), some (.int (Int32.ofInt v3)), some (.int (Int32.ofInt v4)), some (.int (Int32.ofInt v5)), some (.int (Int32.ofInt v6)), none, none]) ⟨rfl, rfl, rfl, rfl, rfl, rfl, rfl, jz_n0, jz_n0, trivial⟩ h
  · replace h := h.2 c2
    refine jw_iload rfl rfl ?_
    refine jw_iload_n rfl rfl ?_
    refine jw_iadd rfl ?_
    refine jw_aload_n rfl rfl ?_
    refine jw_gf (v := (J 167 9)) rfl (by decide) rfl rfl ?_
    obtain ⟨o3, h⟩ := h
    obtain ⟨o4, h⟩ := h
    refine jw_ic_gt rfl o3 o4 (fun c5 => ?_) (fun c5 => ?_)
    · replace h := h.1 c5
      refine jw_iload_n rfl rfl ?_
      obtain ⟨o6, h⟩ := h
      refine jw_if_ne rfl o6 (fun c7 => ?_) (fun c7 => ?_)
      · replace h := h.1 c7
        refine jw_iload rfl rfl ?_
        refine jw_iret rfl ?_
        exact h
      · replace h := h.2 c7
        refine jw_iload rfl rfl ?_
        refine jw_goto rfl ?_
        refine jw_iret rfl ?_
        exact h
    · replace h := h.2 c5
      exact jz_fg (l := [some (.ref 167), some (.int (Int32.ofInt v1)), some (.int (Int32.ofInt v2)), some (.int (Int32.ofInt v3)), some (.int (Int32.ofInt v4)), some (.int (Int32.ofInt v5)), some (.int (Int32.ofInt v6)), none, none]) ⟨rfl, rfl, rfl, rfl, rfl, rfl, rfl, jz_n0, jz_n0, trivial⟩ h
set_option maxHeartbeats 4000000 in
theorem e_257_66 {xs : Nat → Int32} {L d : Nat} {v1 : Int} {v2 : Int} {v3 : Int} {v4 : Int} {v5 : Int} {v6 : Int} {J K : jZ} {P : Int → jZ → jZ → Prop} (h : l_257_72 xs L (d + 2) v1 v2 v3 v4 v5 v6 0 0 J K P) : l_257_66 xs L (d + 2) v1 v2 v3 v4 v5 v6 J K P := by
  unfold l_257_66
  refine jw_iconst rfl ?_
  refine jw_istore (ls' := [some (.ref 167), some (.int (Int32.ofInt v1)), some (.int (Int32.ofInt v2)), some (.int (Int32.ofInt v3)), some (.int (Int32.ofInt v4)), some (.int (Int32.ofInt v5)), some (.int (Int32.ofInt v6)), some (.int (Int32.ofInt 0)), none]) rfl rfl ?_
  refine jw_iconst rfl ?_
  refine jw_istore (ls' := [some (.ref 167), some (.int (Int32.ofInt v1)), some (.int (Int32.ofInt v2)), some (.int (Int32.ofInt v3)), some (.int (Int32.ofInt v4)), some (.int (Int32.ofInt v5)), some (.int (Int32.ofInt v6)), some (.int (Int32.ofInt 0)), some (.int (Int32.ofInt 0))]) rfl rfl ?_
  exact jz_fg (l := [some (.ref 167), some (.int (Int32.ofInt v1)), some (.int (Int32.ofInt v2)), some (.int (Int32.ofInt v3)), some (.int (Int32.ofInt v4)), some (.int (Int32.ofInt v5)), some (.int (Int32.ofInt v6)), some (.int (Int32.ofInt 0)), some (.int (Int32.ofInt 0))]) ⟨rfl, rfl, rfl, rfl, rfl, rfl, rfl, rfl, rfl, trivial⟩ h
set_option maxHeartbeats 4000000 in
theorem e_257_72 {xs : Nat → Int32} {L d : Nat} {v1 : Int} {v2 : Int} {v3 : Int} {v4 : Int} {v5 : Int} {v6 : Int} {v7 : Int} {v8 : Int} {J K : jZ} {P : Int → jZ → jZ → Prop} (h : ((0 : Int) ≤ v1 ∧ v1 < 27) ∧ (-2147483648 ≤ v8 ∧ v8 < 2147483648) ∧ (-2147483648 ≤ J 195 v1.toNat ∧ J 195 v1.toNat < 2147483648) ∧ ((J 195 v1.toNat) ≤ v8 → (-2147483648 ≤ v7 ∧ v7 < 2147483648) ∧ (-2147483648 ≤ v5 ∧ v5 < 2147483648) ∧ (v7 ≤ v5 → l_257_141 xs L (d + 2) v1 v2 v3 v4 v5 v6 v7 J K P) ∧ (v5 < v7 → l_257_141 xs L (d + 2) v1 v2 v3 v6 v5 v6 v7 J K P)) ∧ (v8 < (J 195 v1.toNat) → ((0 : Int) ≤ ((v1 * 60) + v8) ∧ ((v1 * 60) + v8) < 1620) ∧ (-2147483648 ≤ J 196 ((v1 * 60) + v8).toNat ∧ J 196 ((v1 * 60) + v8).toNat < 2147483648) ∧ (-2147483648 ≤ v6 ∧ v6 < 2147483648) ∧ ((J 196 ((v1 * 60) + v8).toNat) < v6 → l_257_72 xs L (d + 2) v1 v2 v3 v4 v5 v6 (v7 + 0) (v8 + 1) J K P) ∧ (v6 ≤ (J 196 ((v1 * 60) + v8).toNat) → (-2147483648 ≤ J 197 ((v1 * 60) + v8).toNat ∧ J 197 ((v1 * 60) + v8).toNat < 2147483648) ∧ (-2147483648 ≤ (v6 + v2) ∧ (v6 + v2) < 2147483648) ∧ ((v6 + v2) ≤ (J 197 ((v1 * 60) + v8).toNat) → l_257_72 xs L (d + 2) v1 v2 v3 v4 v5 v6 (v7 + 0) (v8 + 1) J K P) ∧ ((J 197 ((v1 * 60) + v8).toNat) < (v6 + v2) → l_257_72 xs L (d + 2) v1 v2 v3 v4 v5 v6 (v7 + 1) (v8 + 1) J K P)))) : l_257_72 xs L (d + 2) v1 v2 v3 v4 v5 v6 v7 v8 J K P := by
  unfold l_257_72
  refine jw_iload rfl rfl ?_
  refine jw_aload_n rfl rfl ?_
  refine jw_gr (q := 195) rfl rfl rfl ?_
  refine jw_iload_n rfl rfl ?_
  obtain ⟨o1, h⟩ := h
  refine jw_iald (v := (J 195 v1.toNat)) (N := 27) rfl rfl rfl (by omega) o1 rfl ?_
  obtain ⟨o2, h⟩ := h
  obtain ⟨o3, h⟩ := h
  refine jw_ic_ge rfl o2 o3 (fun c4 => ?_) (fun c4 => ?_)
  · replace h := h.1 c4
    refine jw_iload rfl rfl ?_
    refine jw_iload rfl rfl ?_
    obtain ⟨o5, h⟩ := h
    obtain ⟨o6, h⟩ := h
    refine jw_ic_le rfl o5 o6 (fun c7 => ?_) (fun c7 => ?_)
    · replace h := h.1 c7
      refine jw_iload rfl rfl ?_
      refine jw_istore (ls' := [some (.ref 167), some (.int (Int32.ofInt v1)), some (.int (Int32.ofInt v2)), some (.int (Int32.ofInt v3)), some (.int (Int32.ofInt v4)), some (.int (Int32.ofInt v5)), some (.int (Int32.ofInt v6)), some (.int (Int32.ofInt v7)), some (.int (Int32.ofInt v8))]) rfl rfl ?_
      exact jz_fg (l := [some (.ref 167), some (.int (Int32.ofInt v1)), some (.int (Int32.ofInt v2)), some (.int (Int32.ofInt v3)), some (.int (Int32.ofInt v4)), some (.int (Int32.ofInt v5)), some (.int (Int32.ofInt v6)), some (.int (Int32.ofInt v7)), none]) ⟨rfl, rfl, rfl, rfl, rfl, rfl, rfl, rfl, jz_ni, trivial⟩ h
    · replace h := h.2 c7
      refine jw_iload rfl rfl ?_
      refine jw_goto rfl ?_
      refine jw_istore (ls' := [some (.ref 167), some (.int (Int32.ofInt v1)), some (.int (Int32.ofInt v2)), some (.int (Int32.ofInt v3)), some (.int (Int32.ofInt v6)), some (.int (Int32.ofInt v5)), some (.int (Int32.ofInt v6)), some (.int (Int32.ofInt v7)), some (.int (Int32.ofInt v8))]) rfl rfl ?_
      exact jz_fg (l := [some (.ref 167), some (.int (Int32.ofInt v1)), some (.int (Int32.ofInt v2)), some (.int (Int32.ofInt v3)), some (.int (Int32.ofInt v6)), some (.int (Int32.ofInt v5)), some (.int (Int32.ofInt v6)), some (.int (Int32.ofInt v7)), none]) ⟨rfl, rfl, rfl, rfl, rfl, rfl, rfl, rfl, jz_ni, trivial⟩ h
  · replace h := h.2 c4
    refine jw_iload rfl rfl ?_
    refine jw_aload_n rfl rfl ?_
    refine jw_iload_n rfl rfl ?_
    refine jw_iload rfl rfl ?_
    refine jw_virt (k := 2) (c := 19) (as := [.int (Int32.ofInt v1), .int (Int32.ofInt v8)]) rfl rfl rfl (Nat.le_of_ble_eq_true rfl) rfl (Nat.le_of_ble_eq_true rfl) rfl rfl (jz_ci ?_)
    refine jq_in (ls := [some (.ref 167), some (.int (Int32.ofInt v1)), some (.int (Int32.ofInt v8))]) rfl (Nat.le_of_ble_eq_true rfl) rfl ?_
    refine jw_aload_n rfl rfl ?_
    refine jw_gr (q := 196) rfl rfl rfl ?_
    refine jw_iload_n rfl rfl ?_
    refine jw_bipush rfl (by decide) ?_
    refine jw_imul rfl ?_
    refine jw_iload_n rfl rfl ?_
    refine jw_iadd rfl ?_
    obtain ⟨o8, h⟩ := h
    refine jw_iald (v := (J 196 ((v1 * 60) + v8).toNat)) (N := 1620) rfl rfl rfl (by omega) o8 rfl ?_
    refine jw_iret rfl ?_
    refine jw_iload rfl rfl ?_
    obtain ⟨o9, h⟩ := h
    obtain ⟨o10, h⟩ := h
    refine jw_ic_lt rfl o9 o10 (fun c11 => ?_) (fun c11 => ?_)
    · replace h := h.1 c11
      refine jw_iconst rfl ?_
      refine jw_iadd rfl ?_
      refine jw_istore (ls' := [some (.ref 167), some (.int (Int32.ofInt v1)), some (.int (Int32.ofInt v2)), some (.int (Int32.ofInt v3)), some (.int (Int32.ofInt v4)), some (.int (Int32.ofInt v5)), some (.int (Int32.ofInt v6)), some (.int (Int32.ofInt (v7 + 0))), some (.int (Int32.ofInt v8))]) rfl rfl ?_
      refine jw_iinc (ls' := [some (.ref 167), some (.int (Int32.ofInt v1)), some (.int (Int32.ofInt v2)), some (.int (Int32.ofInt v3)), some (.int (Int32.ofInt v4)), some (.int (Int32.ofInt v5)), some (.int (Int32.ofInt v6)), some (.int (Int32.ofInt (v7 + 0))), some (.int (Int32.ofInt (v8 + 1)))]) rfl rfl rfl ?_
      refine jw_goto rfl ?_
      exact jz_fg (l := [some (.ref 167), some (.int (Int32.ofInt v1)), some (.int (Int32.ofInt v2)), some (.int (Int32.ofInt v3)), some (.int (Int32.ofInt v4)), some (.int (Int32.ofInt v5)), some (.int (Int32.ofInt v6)), some (.int (Int32.ofInt (v7 + 0))), some (.int (Int32.ofInt (v8 + 1)))]) ⟨rfl, rfl, rfl, rfl, rfl, rfl, rfl, rfl, rfl, trivial⟩ h
    · replace h := h.2 c11
      refine jw_aload_n rfl rfl ?_
      refine jw_iload_n rfl rfl ?_
      refine jw_iload rfl rfl ?_
      refine jw_virt (k := 2) (c := 19) (as := [.int (Int32.ofInt v1), .int (Int32.ofInt v8)]) rfl rfl rfl (Nat.le_of_ble_eq_true rfl) rfl (Nat.le_of_ble_eq_true rfl) rfl rfl (jz_ci ?_)
      refine jq_in (ls := [some (.ref 167), some (.int (Int32.ofInt v1)), some (.int (Int32.ofInt v8))]) rfl (Nat.le_of_ble_eq_true rfl) rfl ?_
      refine jw_aload_n rfl rfl ?_
      refine jw_gr (q := 197) rfl rfl rfl ?_
      refine jw_iload_n rfl rfl ?_
      refine jw_bipush rfl (by decide) ?_
      refine jw_imul rfl ?_
      refine jw_iload_n rfl rfl ?_
      refine jw_iadd rfl ?_
      refine jw_iald (v := (J 197 ((v1 * 60) + v8).toNat)) (N := 1620) rfl rfl rfl (by omega) o8 rfl ?_
      refine jw_iret rfl ?_
      refine jw_iload rfl rfl ?_
      refine jw_iload_n rfl rfl ?_
      refine jw_iadd rfl ?_
      obtain ⟨o12, h⟩ := h
      obtain ⟨o13, h⟩ := h
      refine jw_ic_ge rfl o12 o13 (fun c14 => ?_) (fun c14 => ?_)
      · replace h := h.1 c14
        refine jw_iconst rfl ?_
        refine jw_iadd rfl ?_
        refine jw_istore (ls' := [some (.ref 167), some (.int (Int32.ofInt v1)), some (.int (Int32.ofInt v2)), some (.int (Int32.ofInt v3)), some (.int (Int32.ofInt v4)), some (.int (Int32.ofInt v5)), some (.int (Int32.ofInt v6)), some (.int (Int32.ofInt (v7 + 0))), some (.int (Int32.ofInt v8))]) rfl rfl ?_
        refine jw_iinc (ls' := [some (.ref 167), some (.int (Int32.ofInt v1)), some (.int (Int32.ofInt v2)), some (.int (Int32.ofInt v3)), some (.int (Int32.ofInt v4)), some (.int (Int32.ofInt v5)), some (.int (Int32.ofInt v6)), some (.int (Int32.ofInt (v7 + 0))), some (.int (Int32.ofInt (v8 + 1)))]) rfl rfl rfl ?_
        refine jw_goto rfl ?_
        exact jz_fg (l := [some (.ref 167), some (.int (Int32.ofInt v1)), some (.int (Int32.ofInt v2)), some (.int (Int32.ofInt v3)), some (.int (Int32.ofInt v4)), some (.int (Int32.ofInt v5)), some (.int (Int32.ofInt v6)), some (.int (Int32.ofInt (v7 + 0))), some (.int (Int32.ofInt (v8 + 1)))]) ⟨rfl, rfl, rfl, rfl, rfl, rfl, rfl, rfl, rfl, trivial⟩ h
      · replace h := h.2 c14
        refine jw_iconst rfl ?_
        refine jw_goto rfl ?_
        refine jw_iadd rfl ?_
        refine jw_istore (ls' := [some (.ref 167), some (.int (Int32.ofInt v1)), some (.int (Int32.ofInt v2)), some (.int (Int32.ofInt v3)), some (.int (Int32.ofInt v4)), some (.int (Int32.ofInt v5)), some (.int (Int32.ofInt v6)), some (.int (Int32.ofInt (v7 + 1))), some (.int (Int32.ofInt v8))]) rfl rfl ?_
        refine jw_iinc (ls' := [some (.ref 167), some (.int (Int32.ofInt v1)), some (.int (Int32.ofInt v2)), some (.int (Int32.ofInt v3)), some (.int (Int32.ofInt v4)), some (.int (Int32.ofInt v5)), some (.int (Int32.ofInt v6)), some (.int (Int32.ofInt (v7 + 1))), some (.int (Int32.ofInt (v8 + 1)))]) rfl rfl rfl ?_
        refine jw_goto rfl ?_
        exact jz_fg (l := [some (.ref 167), some (.int (Int32.ofInt v1)), some (.int (Int32.ofInt v2)), some (.int (Int32.ofInt v3)), some (.int (Int32.ofInt v4)), some (.int (Int32.ofInt v5)), some (.int (Int32.ofInt v6)), some (.int (Int32.ofInt (v7 + 1))), some (.int (Int32.ofInt (v8 + 1)))]) ⟨rfl, rfl, rfl, rfl, rfl, rfl, rfl, rfl, rfl, trivial⟩ h
set_option maxHeartbeats 4000000 in
theorem e_257_141 {xs : Nat → Int32} {L d : Nat} {v1 : Int} {v2 : Int} {v3 : Int} {v4 : Int} {v5 : Int} {v6 : Int} {v7 : Int} {J K : jZ} {P : Int → jZ → jZ → Prop} (h : (-2147483648 ≤ v7 ∧ v7 < 2147483648) ∧ (-2147483648 ≤ v5 ∧ v5 < 2147483648) ∧ (v7 ≤ v5 → l_257_157 xs L (d + 2) v1 v2 v3 v4 v5 v6 J K P) ∧ (v5 < v7 → l_257_157 xs L (d + 2) v1 v2 v3 v4 v7 v6 J K P)) : l_257_141 xs L (d + 2) v1 v2 v3 v4 v5 v6 v7 J K P := by
  unfold l_257_141
  refine jw_iload rfl rfl ?_
  refine jw_iload rfl rfl ?_
  obtain ⟨o1, h⟩ := h
  obtain ⟨o2, h⟩ := h
  refine jw_ic_le rfl o1 o2 (fun c3 => ?_) (fun c3 => ?_)
  · replace h := h.1 c3
    refine jw_iload rfl rfl ?_
    refine jw_istore (ls' := [some (.ref 167), some (.int (Int32.ofInt v1)), some (.int (Int32.ofInt v2)), some (.int (Int32.ofInt v3)), some (.int (Int32.ofInt v4)), some (.int (Int32.ofInt v5)), some (.int (Int32.ofInt v6)), some (.int (Int32.ofInt v7)), none]) rfl rfl ?_
    exact jz_fg (l := [some (.ref 167), some (.int (Int32.ofInt v1)), some (.int (Int32.ofInt v2)), some (.int (Int32.ofInt v3)), some (.int (Int32.ofInt v4)), some (.int (Int32.ofInt v5)), some (.int (Int32.ofInt v6)), none, none]) ⟨rfl, rfl, rfl, rfl, rfl, rfl, rfl, jz_ni, jz_n0, trivial⟩ h
  · replace h := h.2 c3
    refine jw_iload rfl rfl ?_
    refine jw_goto rfl ?_
    refine jw_istore (ls' := [some (.ref 167), some (.int (Int32.ofInt v1)), some (.int (Int32.ofInt v2)), some (.int (Int32.ofInt v3)), some (.int (Int32.ofInt v4)), some (.int (Int32.ofInt v7)), some (.int (Int32.ofInt v6)), some (.int (Int32.ofInt v7)), none]) rfl rfl ?_
    exact jz_fg (l := [some (.ref 167), some (.int (Int32.ofInt v1)), some (.int (Int32.ofInt v2)), some (.int (Int32.ofInt v3)), some (.int (Int32.ofInt v4)), some (.int (Int32.ofInt v7)), some (.int (Int32.ofInt v6)), none, none]) ⟨rfl, rfl, rfl, rfl, rfl, rfl, rfl, jz_ni, jz_n0, trivial⟩ h
set_option maxHeartbeats 4000000 in
theorem e_257_157 {xs : Nat → Int32} {L d : Nat} {v1 : Int} {v2 : Int} {v3 : Int} {v4 : Int} {v5 : Int} {v6 : Int} {J K : jZ} {P : Int → jZ → jZ → Prop} (h : l_257_50 xs L (d + 2) v1 v2 v3 v4 v5 (v6 + 1) J K P) : l_257_157 xs L (d + 2) v1 v2 v3 v4 v5 v6 J K P := by
  unfold l_257_157
  refine jw_iinc (ls' := [some (.ref 167), some (.int (Int32.ofInt v1)), some (.int (Int32.ofInt v2)), some (.int (Int32.ofInt v3)), some (.int (Int32.ofInt v4)), some (.int (Int32.ofInt v5)), some (.int (Int32.ofInt (v6 + 1))), none, none]) rfl rfl rfl ?_
  refine jw_goto rfl ?_
  exact jz_fg (l := [some (.ref 167), some (.int (Int32.ofInt v1)), some (.int (Int32.ofInt v2)), some (.int (Int32.ofInt v3)), some (.int (Int32.ofInt v4)), some (.int (Int32.ofInt v5)), some (.int (Int32.ofInt (v6 + 1))), none, none]) ⟨rfl, rfl, rfl, rfl, rfl, rfl, rfl, jz_n0, jz_n0, trivial⟩ h
set_option maxHeartbeats 4000000 in
theorem e_258 {xs : Nat → Int32} {L d : Nat} {v1 : Int} {v2 : Int} {J K : jZ} {P : Int → jZ → jZ → Prop} (h : (-2147483648 ≤ v1 ∧ v1 < 2147483648) ∧ (-2147483648 ≤ ((J 167 10) - 1) ∧ ((J 167 10) - 1) < 2147483648) ∧ (((0 : Int) ≤ v1 ∧ v1 < (J 167 10)) → (-2147483648 ≤ v2 ∧ v2 < 2147483648) ∧ (((0 : Int) ≤ v2 ∧ v2 < (J 167 10)) → q_181 xs L (d + 2) J K (fun J6 K7 => l_258_32 xs L (d + 2) v1 v2 (-1) 0 J6 K7 P)) ∧ (¬ ((0 : Int) ≤ v2 ∧ v2 < (J 167 10)) → q_170 xs L (d + 2) (-2) J K (fun r10 J8 K9 => P r10 J8 K9))) ∧ (¬ ((0 : Int) ≤ v1 ∧ v1 < (J 167 10)) → q_170 xs L (d + 2) (-2) J K (fun r13 J11 K12 => P r13 J11 K12))) : q_258 xs L (d + 3) v1 v2 J K P := by
  unfold q_258
  refine jq_in (ls := [some (.ref 167), some (.int (Int32.ofInt v1)), some (.int (Int32.ofInt v2)), none, none, none, none, none, none]) rfl (Nat.le_of_ble_eq_true rfl) rfl ?_
  refine jw_aload_n rfl rfl ?_
  refine jw_iload_n rfl rfl ?_
  refine jw_virt (k := 1) (c := 19) (as := [.int (Int32.ofInt v1)]) rfl rfl rfl (Nat.le_of_ble_eq_true rfl) rfl (Nat.le_of_ble_eq_true rfl) rfl rfl (jz_ci ?_)
  obtain ⟨o1, h⟩ := h
  obtain ⟨o2, h⟩ := h
  refine sb_178 o1 o2 (fun c3 => ?_) (fun c3 => ?_)
  · replace h := h.1 c3
    refine jw_if_eq rfl (by omega) (fun hc => by exfalso; omega) (fun _ => ?_)
    refine jw_aload_n rfl rfl ?_
    refine jw_iload_n rfl rfl ?_
    refine jw_virt (k := 1) (c := 19) (as := [.int (Int32.ofInt v2)]) rfl rfl rfl (Nat.le_of_ble_eq_true rfl) rfl (Nat.le_of_ble_eq_true rfl) rfl rfl (jz_ci ?_)
    obtain ⟨o4, h⟩ := h
    refine sb_178 o4 o2 (fun c5 => ?_) (fun c5 => ?_)
    · replace h := h.1 c5
      refine jw_if_ne rfl (by omega) (fun _ => ?_) (fun hc => by exfalso; omega)
      refine jw_aload_n rfl rfl ?_
      refine jw_virt (k := 0) (c := 19) (as := []) rfl rfl rfl (Nat.le_of_ble_eq_true rfl) rfl (Nat.le_of_ble_eq_true rfl) rfl rfl (jz_cv ?_)
      refine jm_Q.mono h (jp_v_mono (fun J6 K7 h => ?_))
      refine jw_iconst rfl ?_
      refine jw_istore_n (ls' := [some (.ref 167), some (.int (Int32.ofInt v1)), some (.int (Int32.ofInt v2)), some (.int (Int32.ofInt (-1))), none, none, none, none, none]) rfl rfl ?_
      refine jw_iconst rfl ?_
      refine jw_istore (ls' := [some (.ref 167), some (.int (Int32.ofInt v1)), some (.int (Int32.ofInt v2)), some (.int (Int32.ofInt (-1))), some (.int (Int32.ofInt 0)), none, none, none, none]) rfl rfl ?_
      exact jz_fg (l := [some (.ref 167), some (.int (Int32.ofInt v1)), some (.int (Int32.ofInt v2)), some (.int (Int32.ofInt (-1))), some (.int (Int32.ofInt 0)), none, none, none, none]) ⟨rfl, rfl, rfl, rfl, rfl, jz_n0, jz_n0, jz_n0, jz_n0, trivial⟩ h
    · replace h := h.2 c5
      refine jw_if_ne rfl (by omega) (fun hc => by exfalso; omega) (fun _ => ?_)
      refine jw_aload_n rfl rfl ?_
      refine jw_bipush rfl (by decide) ?_
      refine jw_virt (k := 1) (c := 19) (as := [.int (Int32.ofInt (-2))]) rfl rfl rfl (Nat.le_of_ble_eq_true rfl) rfl (Nat.le_of_ble_eq_true rfl) rfl rfl (jz_ci ?_)
      refine jm_Q.mono h (jp_i_mono (fun r10 J8 K9 h => ?_))
      refine jw_iret rfl ?_
      exact h
  · replace h := h.2 c3
    refine jw_if_eq rfl (by omega) (fun _ => ?_) (fun hc => by exfalso; omega)
    refine jw_aload_n rfl rfl ?_
    refine jw_bipush rfl (by decide) ?_
    refine jw_virt (k := 1) (c := 19) (as := [.int (Int32.ofInt (-2))]) rfl rfl rfl (Nat.le_of_ble_eq_true rfl) rfl (Nat.le_of_ble_eq_true rfl) rfl rfl (jz_ci ?_)
    refine jm_Q.mono h (jp_i_mono (fun r13 J11 K12 h => ?_))
    refine jw_iret rfl ?_
    exact h
set_option maxHeartbeats 4000000 in
theorem e_258_32 {xs : Nat → Int32} {L d : Nat} {v1 : Int} {v2 : Int} {v3 : Int} {v4 : Int} {J K : jZ} {P : Int → jZ → jZ → Prop} (h : ((0 : Int) ≤ v1 ∧ v1 < 27) ∧ (-2147483648 ≤ v4 ∧ v4 < 2147483648) ∧ (-2147483648 ≤ J 195 v1.toNat ∧ J 195 v1.toNat < 2147483648) ∧ ((J 195 v1.toNat) ≤ v4 → P v3 J K) ∧ (v4 < (J 195 v1.toNat) → l_258_46 xs L (d + 2) v1 v2 v3 v4 0 J K P)) : l_258_32 xs L (d + 2) v1 v2 v3 v4 J K P := by
  unfold l_258_32
  refine jw_iload rfl rfl ?_
  refine jw_aload_n rfl rfl ?_
  refine jw_gr (q := 195) rfl rfl rfl ?_
  refine jw_iload_n rfl rfl ?_
  obtain ⟨o1, h⟩ := h
  refine jw_iald (v := (J 195 v1.toNat)) (N := 27) rfl rfl rfl (by omega) o1 rfl ?_
  obtain ⟨o2, h⟩ := h
  obtain ⟨o3, h⟩ := h
  refine jw_ic_ge rfl o2 o3 (fun c4 => ?_) (fun c4 => ?_)
  · replace h := h.1 c4
    refine jw_iload_n rfl rfl ?_
    refine jw_iret rfl ?_
    exact h
  · replace h := h.2 c4
    refine jw_iconst rfl ?_
    refine jw_istore (ls' := [some (.ref 167), some (.int (Int32.ofInt v1)), some (.int (Int32.ofInt v2)), some (.int (Int32.ofInt v3)), some (.int (Int32.ofInt v4)), some (.int (Int32.ofInt 0)), none, none, none]) rfl rfl ?_
    exact jz_fg (l := [some (.ref 167), some (.int (Int32.ofInt v1)), some (.int (Int32.ofInt v2)), some (.int (Int32.ofInt v3)), some (.int (Int32.ofInt v4)), some (.int (Int32.ofInt 0)), none, none, none]) ⟨rfl, rfl, rfl, rfl, rfl, rfl, jz_n0, jz_n0, jz_n0, trivial⟩ h
set_option maxHeartbeats 4000000 in
theorem e_258_46 {xs : Nat → Int32} {L d : Nat} {v1 : Int} {v2 : Int} {v3 : Int} {v4 : Int} {v5 : Int} {J K : jZ} {P : Int → jZ → jZ → Prop} (h : ((0 : Int) ≤ v2 ∧ v2 < 27) ∧ (-2147483648 ≤ v5 ∧ v5 < 2147483648) ∧ (-2147483648 ≤ J 195 v2.toNat ∧ J 195 v2.toNat < 2147483648) ∧ ((J 195 v2.toNat) ≤ v5 → l_258_32 xs L (d + 2) v1 v2 v3 (v4 + 1) J K P) ∧ (v5 < (J 195 v2.toNat) → ((0 : Int) ≤ ((v2 * 60) + v5) ∧ ((v2 * 60) + v5) < 1620) ∧ ((0 : Int) ≤ ((v1 * 60) + v4) ∧ ((v1 * 60) + v4) < 1620) ∧ (-2147483648 ≤ (((J 196 ((v2 * 60) + v5).toNat) - (J 197 ((v1 * 60) + v4).toNat)) - 1) ∧ (((J 196 ((v2 * 60) + v5).toNat) - (J 197 ((v1 * 60) + v4).toNat)) - 1) < 2147483648) ∧ (-2147483648 ≤ (((J 196 ((v1 * 60) + v4).toNat) - (J 197 ((v2 * 60) + v5).toNat)) - 1) ∧ (((J 196 ((v1 * 60) + v4).toNat) - (J 197 ((v2 * 60) + v5).toNat)) - 1) < 2147483648) ∧ ((((J 196 ((v2 * 60) + v5).toNat) - (J 197 ((v1 * 60) + v4).toNat)) - 1) ≤ (((J 196 ((v1 * 60) + v4).toNat) - (J 197 ((v2 * 60) + v5).toNat)) - 1) → l_258_111 xs L (d + 2) v1 v2 v3 v4 v5 (((J 196 ((v1 * 60) + v4).toNat) - (J 197 ((v2 * 60) + v5).toNat)) - 1) J K P) ∧ ((((J 196 ((v1 * 60) + v4).toNat) - (J 197 ((v2 * 60) + v5).toNat)) - 1) < (((J 196 ((v2 * 60) + v5).toNat) - (J 197 ((v1 * 60) + v4).toNat)) - 1) → l_258_111 xs L (d + 2) v1 v2 v3 v4 v5 (((J 196 ((v2 * 60) + v5).toNat) - (J 197 ((v1 * 60) + v4).toNat)) - 1) J K P))) : l_258_46 xs L (d + 2) v1 v2 v3 v4 v5 J K P := by
  unfold l_258_46
  refine jw_iload rfl rfl ?_
  refine jw_aload_n rfl rfl ?_
  refine jw_gr (q := 195) rfl rfl rfl ?_
  refine jw_iload_n rfl rfl ?_
  obtain ⟨o1, h⟩ := h
  refine jw_iald (v := (J 195 v2.toNat)) (N := 27) rfl rfl rfl (by omega) o1 rfl ?_
  obtain ⟨o2, h⟩ := h
  obtain ⟨o3, h⟩ := h
  refine jw_ic_ge rfl o2 o3 (fun c4 => ?_) (fun c4 => ?_)
  · replace h := h.1 c4
    refine jw_iinc (ls' := [some (.ref 167), some (.int (Int32.ofInt v1)), some (.int (Int32.ofInt v2)), some (.int (Int32.ofInt v3)), some (.int (Int32.ofInt (v4 + 1))), some (.int (Int32.ofInt v5)), none, none, none]) rfl rfl rfl ?_
    refine jw_goto rfl ?_
    exact jz_fg (l := [some (.ref 167), some (.int (Int32.ofInt v1)), some (.int (Int32.ofInt v2)), some (.int (Int32.ofInt v3)), some (.int (Int32.ofInt (v4 + 1))), none, none, none, none]) ⟨rfl, rfl, rfl, rfl, rfl, jz_ni, jz_n0, jz_n0, jz_n0, trivial⟩ h
  · replace h := h.2 c4
    refine jw_aload_n rfl rfl ?_
    refine jw_iload_n rfl rfl ?_
    refine jw_iload rfl rfl ?_
    refine jw_virt (k := 2) (c := 19) (as := [.int (Int32.ofInt v2), .int (Int32.ofInt v5)]) rfl rfl rfl (Nat.le_of_ble_eq_true rfl) rfl (Nat.le_of_ble_eq_true rfl) rfl rfl (jz_ci ?_)
    refine jq_in (ls := [some (.ref 167), some (.int (Int32.ofInt v2)), some (.int (Int32.ofInt v5))]) rfl (Nat.le_of_ble_eq_true rfl) rfl ?_
    refine jw_aload_n rfl rfl ?_
    refine jw_gr (q := 196) rfl rfl rfl ?_
    refine jw_iload_n rfl rfl ?_
    refine jw_bipush rfl (by decide) ?_
    refine jw_imul rfl ?_
    refine jw_iload_n rfl rfl ?_
    refine jw_iadd rfl ?_
    obtain ⟨o5, h⟩ := h
    refine jw_iald (v := (J 196 ((v2 * 60) + v5).toNat)) (N := 1620) rfl rfl rfl (by omega) o5 rfl ?_
    refine jw_iret rfl ?_
    refine jw_aload_n rfl rfl ?_
    refine jw_iload_n rfl rfl ?_
    refine jw_iload rfl rfl ?_
    refine jw_virt (k := 2) (c := 19) (as := [.int (Int32.ofInt v1), .int (Int32.ofInt v4)]) rfl rfl rfl (Nat.le_of_ble_eq_true rfl) rfl (Nat.le_of_ble_eq_true rfl) rfl rfl (jz_ci ?_)
    refine jq_in (ls := [some (.ref 167), some (.int (Int32.ofInt v1)), some (.int (Int32.ofInt v4))]) rfl (Nat.le_of_ble_eq_true rfl) rfl ?_
    refine jw_aload_n rfl rfl ?_
    refine jw_gr (q := 197) rfl rfl rfl ?_
    refine jw_iload_n rfl rfl ?_
    refine jw_bipush rfl (by decide) ?_
    refine jw_imul rfl ?_
    refine jw_iload_n rfl rfl ?_
    refine jw_iadd rfl ?_
    obtain ⟨o6, h⟩ := h
    refine jw_iald (v := (J 197 ((v1 * 60) + v4).toNat)) (N := 1620) rfl rfl rfl (by omega) o6 rfl ?_
    refine jw_iret rfl ?_
    refine jw_isub rfl ?_
    refine jw_iconst rfl ?_
    refine jw_isub rfl ?_
    refine jw_istore (ls' := [some (.ref 167), some (.int (Int32.ofInt v1)), some (.int (Int32.ofInt v2)), some (.int (Int32.ofInt v3)), some (.int (Int32.ofInt v4)), some (.int (Int32.ofInt v5)), some (.int (Int32.ofInt (((J 196 ((v2 * 60) + v5).toNat) - (J 197 ((v1 * 60) + v4).toNat)) - 1))), none, none]) rfl rfl ?_
    refine jw_aload_n rfl rfl ?_
    refine jw_iload_n rfl rfl ?_
    refine jw_iload rfl rfl ?_
    refine jw_virt (k := 2) (c := 19) (as := [.int (Int32.ofInt v1), .int (Int32.ofInt v4)]) rfl rfl rfl (Nat.le_of_ble_eq_true rfl) rfl (Nat.le_of_ble_eq_true rfl) rfl rfl (jz_ci ?_)
    refine jq_in (ls := [some (.ref 167), some (.int (Int32.ofInt v1)), some (.int (Int32.ofInt v4))]) rfl (Nat.le_of_ble_eq_true rfl) rfl ?_
    refine jw_aload_n rfl rfl ?_
    refine jw_gr (q := 196) rfl rfl rfl ?_
    refine jw_iload_n rfl rfl ?_
    refine jw_bipush rfl (by decide) ?_
    refine jw_imul rfl ?_
    refine jw_iload_n rfl rfl ?_
    refine jw_iadd rfl ?_
    refine jw_iald (v := (J 196 ((v1 * 60) + v4).toNat)) (N := 1620) rfl rfl rfl (by omega) o6 rfl ?_
    refine jw_iret rfl ?_
    refine jw_aload_n rfl rfl ?_
    refine jw_iload_n rfl rfl ?_
    refine jw_iload rfl rfl ?_
    refine jw_virt (k := 2) (c := 19) (as := [.int (Int32.ofInt v2), .int (Int32.ofInt v5)]) rfl rfl rfl (Nat.le_of_ble_eq_true rfl) rfl (Nat.le_of_ble_eq_true rfl) rfl rfl (jz_ci ?_)
    refine jq_in (ls := [some (.ref 167), some (.int (Int32.ofInt v2)), some (.int (Int32.ofInt v5))]) rfl (Nat.le_of_ble_eq_true rfl) rfl ?_
    refine jw_aload_n rfl rfl ?_
    refine jw_gr (q := 197) rfl rfl rfl ?_
    refine jw_iload_n rfl rfl ?_
    refine jw_bipush rfl (by decide) ?_
    refine jw_imul rfl ?_
    refine jw_iload_n rfl rfl ?_
    refine jw_iadd rfl ?_
    refine jw_iald (v := (J 197 ((v2 * 60) + v5).toNat)) (N := 1620) rfl rfl rfl (by omega) o5 rfl ?_
    refine jw_iret rfl ?_
    refine jw_isub rfl ?_
    refine jw_iconst rfl ?_
    refine jw_isub rfl ?_
    refine jw_istore (ls' := [some (.ref 167), some (.int (Int32.ofInt v1)), some (.int (Int32.ofInt v2)), some (.int (Int32.ofInt v3)), some (.int (Int32.ofInt v4)), some (.int (Int32.ofInt v5)), some (.int (Int32.ofInt (((J 196 ((v2 * 60) + v5).toNat) - (J 197 ((v1 * 60) + v4).toNat)) - 1))), some (.int (Int32.ofInt (((J 196 ((v1 * 60) + v4).toNat) - (J 197 ((v2 * 60) + v5).toNat)) - 1))), none]) rfl rfl ?_
    refine jw_iload rfl rfl ?_
    refine jw_iload rfl rfl ?_
    obtain ⟨o7, h⟩ := h
    obtain ⟨o8, h⟩ := h
    refine jw_ic_le rfl o7 o8 (fun c9 => ?_) (fun c9 => ?_)
    · replace h := h.1 c9
      refine jw_iload rfl rfl ?_
      refine jw_istore (ls' := [some (.ref 167), some (.int (Int32.ofInt v1)), some (.int (Int32.ofInt v2)), some (.int (Int32.ofInt v3)), some (.int (Int32.ofInt v4)), some (.int (Int32.ofInt v5)), some (.int (Int32.ofInt (((J 196 ((v2 * 60) + v5).toNat) - (J 197 ((v1 * 60) + v4).toNat)) - 1))), some (.int (Int32.ofInt (((J 196 ((v1 * 60) + v4).toNat) - (J 197 ((v2 * 60) + v5).toNat)) - 1))), some (.int (Int32.ofInt (((J 196 ((v1 * 60) + v4).toNat) - (J 197 ((v2 * 60) + v5).toNat)) - 1)))]) rfl rfl ?_
      exact jz_fg (l := [some (.ref 167), some (.int (Int32.ofInt v1)), some (.int (Int32.ofInt v2)), some (.int (Int32.ofInt v3)), some (.int (Int32.ofInt v4)), some (.int (Int32.ofInt v5)), none, none, some (.int (Int32.ofInt (((J 196 ((v1 * 60) + v4).toNat) - (J 197 ((v2 * 60) + v5).toNat)) - 1)))]) ⟨rfl, rfl, rfl, rfl, rfl, rfl, jz_ni, jz_ni, rfl, trivial⟩ h
    · replace h := h.2 c9
      refine jw_iload rfl rfl ?_
      refine jw_goto rfl ?_
      refine jw_istore (ls' := [some (.ref 167), some (.int (Int32.ofInt v1)), some (.int (Int32.ofInt v2)), some (.int (Int32.ofInt v3)), some (.int (Int32.ofInt v4)), some (.int (Int32.ofInt v5)), some (.int (Int32.ofInt (((J 196 ((v2 * 60) + v5).toNat) - (J 197 ((v1 * 60) + v4).toNat)) - 1))), some (.int (Int32.ofInt (((J 196 ((v1 * 60) + v4).toNat) - (J 197 ((v2 * 60) + v5).toNat)) - 1))), some (.int (Int32.ofInt (((J 196 ((v2 * 60) + v5).toNat) - (J 197 ((v1 * 60) + v4).toNat)) - 1)))]) rfl rfl ?_
      exact jz_fg (l := [some (.ref 167), some (.int (Int32.ofInt v1)), some (.int (Int32.ofInt v2)), some (.int (Int32.ofInt v3)), some (.int (Int32.ofInt v4)), some (.int (Int32.ofInt v5)), none, none, some (.int (Int32.ofInt (((J 196 ((v2 * 60) + v5).toNat) - (J 197 ((v1 * 60) + v4).toNat)) - 1)))]) ⟨rfl, rfl, rfl, rfl, rfl, rfl, jz_ni, jz_ni, rfl, trivial⟩ h
set_option maxHeartbeats 4000000 in
theorem e_258_111 {xs : Nat → Int32} {L d : Nat} {v1 : Int} {v2 : Int} {v3 : Int} {v4 : Int} {v5 : Int} {v8 : Int} {J K : jZ} {P : Int → jZ → jZ → Prop} (h : (-2147483648 ≤ v8 ∧ v8 < 2147483648) ∧ (0 ≤ v8 → l_258_124 xs L (d + 2) v1 v2 v3 v4 v5 v8 J K P) ∧ (v8 < 0 → l_258_124 xs L (d + 2) v1 v2 v3 v4 v5 0 J K P)) : l_258_111 xs L (d + 2) v1 v2 v3 v4 v5 v8 J K P := by
  unfold l_258_111
  refine jw_iload rfl rfl ?_
  obtain ⟨o1, h⟩ := h
  refine jw_if_ge rfl o1 (fun c2 => ?_) (fun c2 => ?_)
  · replace h := h.1 c2
    refine jw_iload rfl rfl ?_
    refine jw_istore (ls' := [some (.ref 167), some (.int (Int32.ofInt v1)), some (.int (Int32.ofInt v2)), some (.int (Int32.ofInt v3)), some (.int (Int32.ofInt v4)), some (.int (Int32.ofInt v5)), none, none, some (.int (Int32.ofInt v8))]) rfl rfl ?_
    exact jz_fg (l := [some (.ref 167), some (.int (Int32.ofInt v1)), some (.int (Int32.ofInt v2)), some (.int (Int32.ofInt v3)), some (.int (Int32.ofInt v4)), some (.int (Int32.ofInt v5)), none, none, some (.int (Int32.ofInt v8))]) ⟨rfl, rfl, rfl, rfl, rfl, rfl, jz_n0, jz_n0, rfl, trivial⟩ h
  · replace h := h.2 c2
    refine jw_iconst rfl ?_
    refine jw_goto rfl ?_
    refine jw_istore (ls' := [some (.ref 167), some (.int (Int32.ofInt v1)), some (.int (Int32.ofInt v2)), some (.int (Int32.ofInt v3)), some (.int (Int32.ofInt v4)), some (.int (Int32.ofInt v5)), none, none, some (.int (Int32.ofInt 0))]) rfl rfl ?_
    exact jz_fg (l := [some (.ref 167), some (.int (Int32.ofInt v1)), some (.int (Int32.ofInt v2)), some (.int (Int32.ofInt v3)), some (.int (Int32.ofInt v4)), some (.int (Int32.ofInt v5)), none, none, some (.int (Int32.ofInt 0))]) ⟨rfl, rfl, rfl, rfl, rfl, rfl, jz_n0, jz_n0, rfl, trivial⟩ h
set_option maxHeartbeats 4000000 in
theorem e_258_124 {xs : Nat → Int32} {L d : Nat} {v1 : Int} {v2 : Int} {v3 : Int} {v4 : Int} {v5 : Int} {v8 : Int} {J K : jZ} {P : Int → jZ → jZ → Prop} (h : (-2147483648 ≤ v3 ∧ v3 < 2147483648) ∧ (v3 = (-1) → l_258_135 xs L (d + 2) v1 v2 v4 v5 v8 J K P) ∧ (¬ v3 = (-1) → (-2147483648 ≤ v8 ∧ v8 < 2147483648) ∧ (v3 ≤ v8 → l_258_142 xs L (d + 2) v1 v2 v3 v4 v5 J K P) ∧ (v8 < v3 → l_258_135 xs L (d + 2) v1 v2 v4 v5 v8 J K P))) : l_258_124 xs L (d + 2) v1 v2 v3 v4 v5 v8 J K P := by
  unfold l_258_124
  refine jw_iload_n rfl rfl ?_
  refine jw_iconst rfl ?_
  obtain ⟨o1, h⟩ := h
  refine jw_ic_eq rfl o1 (by omega) (fun c2 => ?_) (fun c2 => ?_)
  · replace h := h.1 c2
    exact jz_fg (l := [some (.ref 167), some (.int (Int32.ofInt v1)), some (.int (Int32.ofInt v2)), none, some (.int (Int32.ofInt v4)), some (.int (Int32.ofInt v5)), none, none, some (.int (Int32.ofInt v8))]) ⟨rfl, rfl, rfl, jz_ni, rfl, rfl, jz_n0, jz_n0, rfl, trivial⟩ h
  · replace h := h.2 c2
    refine jw_iload rfl rfl ?_
    refine jw_iload_n rfl rfl ?_
    obtain ⟨o3, h⟩ := h
    refine jw_ic_ge rfl o3 o1 (fun c4 => ?_) (fun c4 => ?_)
    · replace h := h.1 c4
      refine jw_iload_n rfl rfl ?_
      refine jw_istore_n (ls' := [some (.ref 167), some (.int (Int32.ofInt v1)), some (.int (Int32.ofInt v2)), some (.int (Int32.ofInt v3)), some (.int (Int32.ofInt v4)), some (.int (Int32.ofInt v5)), none, none, some (.int (Int32.ofInt v8))]) rfl rfl ?_
      exact jz_fg (l := [some (.ref 167), some (.int (Int32.ofInt v1)), some (.int (Int32.ofInt v2)), some (.int (Int32.ofInt v3)), some (.int (Int32.ofInt v4)), some (.int (Int32.ofInt v5)), none, none, none]) ⟨rfl, rfl, rfl, rfl, rfl, rfl, jz_n0, jz_n0, jz_ni, trivial⟩ h
    · replace h := h.2 c4
      exact jz_fg (l := [some (.ref 167), some (.int (Int32.ofInt v1)), some (.int (Int32.ofInt v2)), none, some (.int (Int32.ofInt v4)), some (.int (Int32.ofInt v5)), none, none, some (.int (Int32.ofInt v8))]) ⟨rfl, rfl, rfl, jz_ni, rfl, rfl, jz_n0, jz_n0, rfl, trivial⟩ h
set_option maxHeartbeats 4000000 in
theorem e_258_135 {xs : Nat → Int32} {L d : Nat} {v1 : Int} {v2 : Int} {v4 : Int} {v5 : Int} {v8 : Int} {J K : jZ} {P : Int → jZ → jZ → Prop} (h : l_258_142 xs L (d + 2) v1 v2 v8 v4 v5 J K P) : l_258_135 xs L (d + 2) v1 v2 v4 v5 v8 J K P := by
  unfold l_258_135
  refine jw_iload rfl rfl ?_
  refine jw_goto rfl ?_
  refine jw_istore_n (ls' := [some (.ref 167), some (.int (Int32.ofInt v1)), some (.int (Int32.ofInt v2)), some (.int (Int32.ofInt v8)), some (.int (Int32.ofInt v4)), some (.int (Int32.ofInt v5)), none, none, some (.int (Int32.ofInt v8))]) rfl rfl ?_
  exact jz_fg (l := [some (.ref 167), some (.int (Int32.ofInt v1)), some (.int (Int32.ofInt v2)), some (.int (Int32.ofInt v8)), some (.int (Int32.ofInt v4)), some (.int (Int32.ofInt v5)), none, none, none]) ⟨rfl, rfl, rfl, rfl, rfl, rfl, jz_n0, jz_n0, jz_ni, trivial⟩ h
set_option maxHeartbeats 4000000 in
theorem e_258_142 {xs : Nat → Int32} {L d : Nat} {v1 : Int} {v2 : Int} {v3 : Int} {v4 : Int} {v5 : Int} {J K : jZ} {P : Int → jZ → jZ → Prop} (h : l_258_46 xs L (d + 2) v1 v2 v3 v4 (v5 + 1) J K P) : l_258_142 xs L (d + 2) v1 v2 v3 v4 v5 J K P := by
  unfold l_258_142
  refine jw_iinc (ls' := [some (.ref 167), some (.int (Int32.ofInt v1)), some (.int (Int32.ofInt v2)), some (.int (Int32.ofInt v3)), some (.int (Int32.ofInt v4)), some (.int (Int32.ofInt (v5 + 1))), none, none, none]) rfl rfl rfl ?_
  refine jw_goto rfl ?_
  exact jz_fg (l := [some (.ref 167), some (.int (Int32.ofInt v1)), some (.int (Int32.ofInt v2)), some (.int (Int32.ofInt v3)), some (.int (Int32.ofInt v4)), some (.int (Int32.ofInt (v5 + 1))), none, none, none]) ⟨rfl, rfl, rfl, rfl, rfl, rfl, jz_n0, jz_n0, jz_n0, trivial⟩ h
set_option maxHeartbeats 4000000 in
theorem e_259 {xs : Nat → Int32} {L d : Nat} {v1 : Int} {v2 : Int} {v3 : Int} {J K : jZ} {P : Int → jZ → jZ → Prop} (h : (-2147483648 ≤ v1 ∧ v1 < 2147483648) ∧ (-2147483648 ≤ ((J 167 10) - 1) ∧ ((J 167 10) - 1) < 2147483648) ∧ (((0 : Int) ≤ v1 ∧ v1 < (J 167 10)) → (-2147483648 ≤ v2 ∧ v2 < 2147483648) ∧ (((0 : Int) ≤ v2 ∧ v2 < (J 167 10)) → (-2147483648 ≤ v3 ∧ v3 < 2147483648) ∧ ((0 ≤ v3 ∧ v3 ≤ 2) → q_181 xs L (d + 2) J K (fun J8 K9 => l_259_45 xs L (d + 2) v1 v2 v3 0 0 J8 K9 P)) ∧ (¬ (0 ≤ v3 ∧ v3 ≤ 2) → q_170 xs L (d + 2) (-2) J K (fun r12 J10 K11 => P r12 J10 K11))) ∧ (¬ ((0 : Int) ≤ v2 ∧ v2 < (J 167 10)) → q_170 xs L (d + 2) (-2) J K (fun r15 J13 K14 => P r15 J13 K14))) ∧ (¬ ((0 : Int) ≤ v1 ∧ v1 < (J 167 10)) → q_170 xs L (d + 2) (-2) J K (fun r18 J16 K17 => P r18 J16 K17))) : q_259 xs L (d + 3) v1 v2 v3 J K P := by
  unfold q_259
  refine jq_in (ls := [some (.ref 167), some (.int (Int32.ofInt v1)), some (.int (Int32.ofInt v2)), some (.int (Int32.ofInt v3)), none, none, none]) rfl (Nat.le_of_ble_eq_true rfl) rfl ?_
  refine jw_aload_n rfl rfl ?_
  refine jw_iload_n rfl rfl ?_
  refine jw_virt (k := 1) (c := 19) (as := [.int (Int32.ofInt v1)]) rfl rfl rfl (Nat.le_of_ble_eq_true rfl) rfl (Nat.le_of_ble_eq_true rfl) rfl rfl (jz_ci ?_)
  obtain ⟨o1, h⟩ := h
  obtain ⟨o2, h⟩ := h
  refine sb_178 o1 o2 (fun c3 => ?_) (fun c3 => ?_)
  · replace h := h.1 c3
    refine jw_if_eq rfl (by omega) (fun hc => by exfalso; omega) (fun _ => ?_)
    refine jw_aload_n rfl rfl ?_
    refine jw_iload_n rfl rfl ?_
    refine jw_virt (k := 1) (c := 19) (as := [.int (Int32.ofInt v2)]) rfl rfl rfl (Nat.le_of_ble_eq_true rfl) rfl (Nat.le_of_ble_eq_true rfl) rfl rfl (jz_ci ?_)
    obtain ⟨o4, h⟩ := h
    refine sb_178 o4 o2 (fun c5 => ?_) (fun c5 => ?_)
    · replace h := h.1 c5
      refine jw_if_eq rfl (by omega) (fun hc => by exfalso; omega) (fun _ => ?_)
      refine jw_iload_n rfl rfl ?_
      obtain ⟨o6, h⟩ := h
      refine jw_i2l rfl o6 ?_
      refine jw_lconst (x := 0) rfl rfl ?_
      refine jw_ldc2_w rfl ?_
      refine jw_stat (k := 3) (as := [.long (Int64.ofInt v3), .long (Int64.ofInt 0), .long (Int64.ofInt 2)]) rfl (by decide) rfl rfl (Nat.le_of_ble_eq_true rfl) rfl (Nat.le_of_ble_eq_true rfl) (jz_ci ?_)
      refine sb_169 (by omega) (by omega) (by omega) (fun c7 => ?_) (fun c7 => ?_)
      · replace h := h.1 c7
        refine jw_if_ne rfl (by omega) (fun _ => ?_) (fun hc => by exfalso; omega)
        refine jw_aload_n rfl rfl ?_
        refine jw_virt (k := 0) (c := 19) (as := []) rfl rfl rfl (Nat.le_of_ble_eq_true rfl) rfl (Nat.le_of_ble_eq_true rfl) rfl rfl (jz_cv ?_)
        refine jm_Q.mono h (jp_v_mono (fun J8 K9 h => ?_))
        refine jw_iconst rfl ?_
        refine jw_istore (ls' := [some (.ref 167), some (.int (Int32.ofInt v1)), some (.int (Int32.ofInt v2)), some (.int (Int32.ofInt v3)), some (.int (Int32.ofInt 0)), none, none]) rfl rfl ?_
        refine jw_iconst rfl ?_
        refine jw_istore (ls' := [some (.ref 167), some (.int (Int32.ofInt v1)), some (.int (Int32.ofInt v2)), some (.int (Int32.ofInt v3)), some (.int (Int32.ofInt 0)), some (.int (Int32.ofInt 0)), none]) rfl rfl ?_
        exact jz_fg (l := [some (.ref 167), some (.int (Int32.ofInt v1)), some (.int (Int32.ofInt v2)), some (.int (Int32.ofInt v3)), some (.int (Int32.ofInt 0)), some (.int (Int32.ofInt 0)), none]) ⟨rfl, rfl, rfl, rfl, rfl, rfl, jz_n0, trivial⟩ h
      · replace h := h.2 c7
        refine jw_if_ne rfl (by omega) (fun hc => by exfalso; omega) (fun _ => ?_)
        refine jw_aload_n rfl rfl ?_
        refine jw_bipush rfl (by decide) ?_
        refine jw_virt (k := 1) (c := 19) (as := [.int (Int32.ofInt (-2))]) rfl rfl rfl (Nat.le_of_ble_eq_true rfl) rfl (Nat.le_of_ble_eq_true rfl) rfl rfl (jz_ci ?_)
        refine jm_Q.mono h (jp_i_mono (fun r12 J10 K11 h => ?_))
        refine jw_iret rfl ?_
        exact h
    · replace h := h.2 c5
      refine jw_if_eq rfl (by omega) (fun _ => ?_) (fun hc => by exfalso; omega)
      refine jw_aload_n rfl rfl ?_
      refine jw_bipush rfl (by decide) ?_
      refine jw_virt (k := 1) (c := 19) (as := [.int (Int32.ofInt (-2))]) rfl rfl rfl (Nat.le_of_ble_eq_true rfl) rfl (Nat.le_of_ble_eq_true rfl) rfl rfl (jz_ci ?_)
      refine jm_Q.mono h (jp_i_mono (fun r15 J13 K14 h => ?_))
      refine jw_iret rfl ?_
      exact h
  · replace h := h.2 c3
    refine jw_if_eq rfl (by omega) (fun _ => ?_) (fun hc => by exfalso; omega)
    refine jw_aload_n rfl rfl ?_
    refine jw_bipush rfl (by decide) ?_
    refine jw_virt (k := 1) (c := 19) (as := [.int (Int32.ofInt (-2))]) rfl rfl rfl (Nat.le_of_ble_eq_true rfl) rfl (Nat.le_of_ble_eq_true rfl) rfl rfl (jz_ci ?_)
    refine jm_Q.mono h (jp_i_mono (fun r18 J16 K17 h => ?_))
    refine jw_iret rfl ?_
    exact h
set_option maxHeartbeats 4000000 in
theorem e_259_45 {xs : Nat → Int32} {L d : Nat} {v1 : Int} {v2 : Int} {v3 : Int} {v4 : Int} {v5 : Int} {J K : jZ} {P : Int → jZ → jZ → Prop} (h : ((0 : Int) ≤ v1 ∧ v1 < 27) ∧ (-2147483648 ≤ v5 ∧ v5 < 2147483648) ∧ (-2147483648 ≤ J 195 v1.toNat ∧ J 195 v1.toNat < 2147483648) ∧ ((J 195 v1.toNat) ≤ v5 → P v4 J K) ∧ (v5 < (J 195 v1.toNat) → (-2147483648 ≤ v3 ∧ v3 < 2147483648) ∧ (¬ v3 = 2 → (¬ v3 = 1 → q_198 xs L (d + 2) v1 v5 v2 0 J K (fun r10 J8 K9 => (-2147483648 ≤ r10 ∧ r10 < 2147483648) ∧ (r10 ≤ 0 → l_259_45 xs L (d + 2) v1 v2 v3 (v4 + 0) (v5 + 1) J8 K9 P) ∧ (0 < r10 → l_259_45 xs L (d + 2) v1 v2 v3 (v4 + 1) (v5 + 1) J8 K9 P))) ∧ (v3 = 1 → q_198 xs L (d + 2) v1 v5 v2 1 J K (fun r15 J13 K14 => (-2147483648 ≤ r15 ∧ r15 < 2147483648) ∧ (r15 ≤ 0 → l_259_45 xs L (d + 2) v1 v2 v3 (v4 + 0) (v5 + 1) J13 K14 P) ∧ (0 < r15 → l_259_45 xs L (d + 2) v1 v2 v3 (v4 + 1) (v5 + 1) J13 K14 P)))) ∧ (v3 = 2 → q_260 xs L (d + 2) v1 v5 v2 J K (fun r20 J18 K19 => (-2147483648 ≤ r20 ∧ r20 < 2147483648) ∧ (r20 = 0 → l_259_45 xs L (d + 2) v1 v2 v3 (v4 + 0) (v5 + 1) J18 K19 P) ∧ (¬ r20 = 0 → l_259_45 xs L (d + 2) v1 v2 v3 (v4 + 1) (v5 + 1) J18 K19 P))))) : l_259_45 xs L (d + 2) v1 v2 v3 v4 v5 J K P := by
  unfold l_259_45
  refine jw_iload rfl rfl ?_
  refine jw_aload_n rfl rfl ?_
  refine jw_gr (q := 195) rfl rfl rfl ?_
  refine jw_iload_n rfl rfl ?_
  obtain ⟨o1, h⟩ := h
  refine jw_iald (v := (J 195 v1.toNat)) (N := 27) rfl rfl rfl (by omega) o1 rfl ?_
  obtain ⟨o2, h⟩ := h
  obtain ⟨o3, h⟩ := h
  refine jw_ic_ge rfl o2 o3 (fun c4 => ?_) (fun c4 => ?_)
  · replace h := h.1 c4
    refine jw_iload rfl rfl ?_
    refine jw_iret rfl ?_
    exact h
  · replace h := h.2 c4
    refine jw_iload_n rfl rfl ?_
    refine jw_iconst rfl ?_
    obtain ⟨o5, h⟩ := h
    refine jw_ic_ne rfl o5 (by omega) (fun c6 => ?_) (fun c6 => ?_)
    · replace h := h.1 c6
      refine jw_aload_n rfl rfl ?_
      refine jw_iload_n rfl rfl ?_
      refine jw_iload rfl rfl ?_
      refine jw_iload_n rfl rfl ?_
      refine jw_iload_n rfl rfl ?_
      refine jw_iconst rfl ?_
      refine jw_ic_ne rfl o5 (by omega) (fun c7 => ?_) (fun c7 => ?_)
      · replace h := h.1 c7
        refine jw_iconst rfl ?_
        refine jw_virt (k := 4) (c := 19) (as := [.int (Int32.ofInt v1), .int (Int32.ofInt v5), .int (Int32.ofInt v2), .int (Int32.ofInt 0)]) rfl rfl rfl (Nat.le_of_ble_eq_true rfl) rfl (Nat.le_of_ble_eq_true rfl) rfl rfl (jz_ci ?_)
        refine jm_Q.mono h (jp_i_mono (fun r10 J8 K9 h => ?_))
        obtain ⟨o11, h⟩ := h
        refine jw_if_le rfl o11 (fun c12 => ?_) (fun c12 => ?_)
        · replace h := h.1 c12
          refine jw_iconst rfl ?_
          refine jw_istore (ls' := [some (.ref 167), some (.int (Int32.ofInt v1)), some (.int (Int32.ofInt v2)), some (.int (Int32.ofInt v3)), some (.int (Int32.ofInt v4)), some (.int (Int32.ofInt v5)), some (.int (Int32.ofInt 0))]) rfl rfl ?_
          refine jw_iload rfl rfl ?_
          refine jw_iload rfl rfl ?_
          refine jw_if_eq rfl (by omega) (fun _ => ?_) (fun hc => by exfalso; omega)
          refine jw_iconst rfl ?_
          refine jw_iadd rfl ?_
          refine jw_istore (ls' := [some (.ref 167), some (.int (Int32.ofInt v1)), some (.int (Int32.ofInt v2)), some (.int (Int32.ofInt v3)), some (.int (Int32.ofInt (v4 + 0))), some (.int (Int32.ofInt v5)), some (.int (Int32.ofInt 0))]) rfl rfl ?_
          refine jw_iinc (ls' := [some (.ref 167), some (.int (Int32.ofInt v1)), some (.int (Int32.ofInt v2)), some (.int (Int32.ofInt v3)), some (.int (Int32.ofInt (v4 + 0))), some (.int (Int32.ofInt (v5 + 1))), some (.int (Int32.ofInt 0))]) rfl rfl rfl ?_
          refine jw_goto rfl ?_
          exact jz_fg (l := [some (.ref 167), some (.int (Int32.ofInt v1)), some (.int (Int32.ofInt v2)), some (.int (Int32.ofInt v3)), some (.int (Int32.ofInt (v4 + 0))), some (.int (Int32.ofInt (v5 + 1))), none]) ⟨rfl, rfl, rfl, rfl, rfl, rfl, jz_ni, trivial⟩ h
        · replace h := h.2 c12
          refine jw_iconst rfl ?_
          refine jw_goto rfl ?_
          refine jw_istore (ls' := [some (.ref 167), some (.int (Int32.ofInt v1)), some (.int (Int32.ofInt v2)), some (.int (Int32.ofInt v3)), some (.int (Int32.ofInt v4)), some (.int (Int32.ofInt v5)), some (.int (Int32.ofInt 1))]) rfl rfl ?_
          refine jw_iload rfl rfl ?_
          refine jw_iload rfl rfl ?_
          refine jw_if_eq rfl (by omega) (fun hc => by exfalso; omega) (fun _ => ?_)
          refine jw_iconst rfl ?_
          refine jw_goto rfl ?_
          refine jw_iadd rfl ?_
          refine jw_istore (ls' := [some (.ref 167), some (.int (Int32.ofInt v1)), some (.int (Int32.ofInt v2)), some (.int (Int32.ofInt v3)), some (.int (Int32.ofInt (v4 + 1))), some (.int (Int32.ofInt v5)), some (.int (Int32.ofInt 1))]) rfl rfl ?_
          refine jw_iinc (ls' := [some (.ref 167), some (.int (Int32.ofInt v1)), some (.int (Int32.ofInt v2)), some (.int (Int32.ofInt v3)), some (.int (Int32.ofInt (v4 + 1))), some (.int (Int32.ofInt (v5 + 1))), some (.int (Int32.ofInt 1))]) rfl rfl rfl ?_
          refine jw_goto rfl ?_
          exact jz_fg (l := [some (.ref 167), some (.int (Int32.ofInt v1)), some (.int (Int32.ofInt v2)), some (.int (Int32.ofInt v3)), some (.int (Int32.ofInt (v4 + 1))), some (.int (Int32.ofInt (v5 + 1))), none]) ⟨rfl, rfl, rfl, rfl, rfl, rfl, jz_ni, trivial⟩ h
      · replace h := h.2 c7
        refine jw_iconst rfl ?_
        refine jw_goto rfl ?_
        refine jw_virt (k := 4) (c := 19) (as := [.int (Int32.ofInt v1), .int (Int32.ofInt v5), .int (Int32.ofInt v2), .int (Int32.ofInt 1)]) rfl rfl rfl (Nat.le_of_ble_eq_true rfl) rfl (Nat.le_of_ble_eq_true rfl) rfl rfl (jz_ci ?_)
        refine jm_Q.mono h (jp_i_mono (fun r15 J13 K14 h => ?_))
        obtain ⟨o16, h⟩ := h
        refine jw_if_le rfl o16 (fun c17 => ?_) (fun c17 => ?_)
        · replace h := h.1 c17
          refine jw_iconst rfl ?_
          refine jw_istore (ls' := [some (.ref 167), some (.int (Int32.ofInt v1)), some (.int (Int32.ofInt v2)), some (.int (Int32.ofInt v3)), some (.int (Int32.ofInt v4)), some (.int (Int32.ofInt v5)), some (.int (Int32.ofInt 0))]) rfl rfl ?_
          refine jw_iload rfl rfl ?_
          refine jw_iload rfl rfl ?_
          refine jw_if_eq rfl (by omega) (fun _ => ?_) (fun hc => by exfalso; omega)
          refine jw_iconst rfl ?_
          refine jw_iadd rfl ?_
          refine jw_istore (ls' := [some (.ref 167), some (.int (Int32.ofInt v1)), some (.int (Int32.ofInt v2)), some (.int (Int32.ofInt v3)), some (.int (Int32.ofInt (v4 + 0))), some (.int (Int32.ofInt v5)), some (.int (Int32.ofInt 0))]) rfl rfl ?_
          refine jw_iinc (ls' := [some (.ref 167), some (.int (Int32.ofInt v1)), some (.int (Int32.ofInt v2)), some (.int (Int32.ofInt v3)), some (.int (Int32.ofInt (v4 + 0))), some (.int (Int32.ofInt (v5 + 1))), some (.int (Int32.ofInt 0))]) rfl rfl rfl ?_
          refine jw_goto rfl ?_
          exact jz_fg (l := [some (.ref 167), some (.int (Int32.ofInt v1)), some (.int (Int32.ofInt v2)), some (.int (Int32.ofInt v3)), some (.int (Int32.ofInt (v4 + 0))), some (.int (Int32.ofInt (v5 + 1))), none]) ⟨rfl, rfl, rfl, rfl, rfl, rfl, jz_ni, trivial⟩ h
        · replace h := h.2 c17
          refine jw_iconst rfl ?_
          refine jw_goto rfl ?_
          refine jw_istore (ls' := [some (.ref 167), some (.int (Int32.ofInt v1)), some (.int (Int32.ofInt v2)), some (.int (Int32.ofInt v3)), some (.int (Int32.ofInt v4)), some (.int (Int32.ofInt v5)), some (.int (Int32.ofInt 1))]) rfl rfl ?_
          refine jw_iload rfl rfl ?_
          refine jw_iload rfl rfl ?_
          refine jw_if_eq rfl (by omega) (fun hc => by exfalso; omega) (fun _ => ?_)
          refine jw_iconst rfl ?_
          refine jw_goto rfl ?_
          refine jw_iadd rfl ?_
          refine jw_istore (ls' := [some (.ref 167), some (.int (Int32.ofInt v1)), some (.int (Int32.ofInt v2)), some (.int (Int32.ofInt v3)), some (.int (Int32.ofInt (v4 + 1))), some (.int (Int32.ofInt v5)), some (.int (Int32.ofInt 1))]) rfl rfl ?_
          refine jw_iinc (ls' := [some (.ref 167), some (.int (Int32.ofInt v1)), some (.int (Int32.ofInt v2)), some (.int (Int32.ofInt v3)), some (.int (Int32.ofInt (v4 + 1))), some (.int (Int32.ofInt (v5 + 1))), some (.int (Int32.ofInt 1))]) rfl rfl rfl ?_
          refine jw_goto rfl ?_
          exact jz_fg (l := [some (.ref 167), some (.int (Int32.ofInt v1)), some (.int (Int32.ofInt v2)), some (.int (Int32.ofInt v3)), some (.int (Int32.ofInt (v4 + 1))), some (.int (Int32.ofInt (v5 + 1))), none]) ⟨rfl, rfl, rfl, rfl, rfl, rfl, jz_ni, trivial⟩ h
    · replace h := h.2 c6
      refine jw_aload_n rfl rfl ?_
      refine jw_iload_n rfl rfl ?_
      refine jw_iload rfl rfl ?_
      refine jw_iload_n rfl rfl ?_
      refine jw_virt (k := 3) (c := 19) (as := [.int (Int32.ofInt v1), .int (Int32.ofInt v5), .int (Int32.ofInt v2)]) rfl rfl rfl (Nat.le_of_ble_eq_true rfl) rfl (Nat.le_of_ble_eq_true rfl) rfl rfl (jz_ci ?_)
      refine jm_Q.mono h (jp_i_mono (fun r20 J18 K19 h => ?_))
      refine jw_goto rfl ?_
      refine jw_istore (ls' := [some (.ref 167), some (.int (Int32.ofInt v1)), some (.int (Int32.ofInt v2)), some (.int (Int32.ofInt v3)), some (.int (Int32.ofInt v4)), some (.int (Int32.ofInt v5)), some (.int (Int32.ofInt r20))]) rfl rfl ?_
      refine jw_iload rfl rfl ?_
      refine jw_iload rfl rfl ?_
      obtain ⟨o21, h⟩ := h
      refine jw_if_eq rfl o21 (fun c22 => ?_) (fun c22 => ?_)
      · replace h := h.1 c22
        refine jw_iconst rfl ?_
        refine jw_iadd rfl ?_
        refine jw_istore (ls' := [some (.ref 167), some (.int (Int32.ofInt v1)), some (.int (Int32.ofInt v2)), some (.int (Int32.ofInt v3)), some (.int (Int32.ofInt (v4 + 0))), some (.int (Int32.ofInt v5)), some (.int (Int32.ofInt r20))]) rfl rfl ?_
        refine jw_iinc (ls' := [some (.ref 167), some (.int (Int32.ofInt v1)), some (.int (Int32.ofInt v2)), some (.int (Int32.ofInt v3)), some (.int (Int32.ofInt (v4 + 0))), some (.int (Int32.ofInt (v5 + 1))), some (.int (Int32.ofInt r20))]) rfl rfl rfl ?_
        refine jw_goto rfl ?_
        exact jz_fg (l := [some (.ref 167), some (.int (Int32.ofInt v1)), some (.int (Int32.ofInt v2)), some (.int (Int32.ofInt v3)), some (.int (Int32.ofInt (v4 + 0))), some (.int (Int32.ofInt (v5 + 1))), none]) ⟨rfl, rfl, rfl, rfl, rfl, rfl, jz_ni, trivial⟩ h
      · replace h := h.2 c22
        refine jw_iconst rfl ?_
        refine jw_goto rfl ?_
        refine jw_iadd rfl ?_
        refine jw_istore (ls' := [some (.ref 167), some (.int (Int32.ofInt v1)), some (.int (Int32.ofInt v2)), some (.int (Int32.ofInt v3)), some (.int (Int32.ofInt (v4 + 1))), some (.int (Int32.ofInt v5)), some (.int (Int32.ofInt r20))]) rfl rfl ?_
        refine jw_iinc (ls' := [some (.ref 167), some (.int (Int32.ofInt v1)), some (.int (Int32.ofInt v2)), some (.int (Int32.ofInt v3)), some (.int (Int32.ofInt (v4 + 1))), some (.int (Int32.ofInt (v5 + 1))), some (.int (Int32.ofInt r20))]) rfl rfl rfl ?_
        refine jw_goto rfl ?_
        exact jz_fg (l := [some (.ref 167), some (.int (Int32.ofInt v1)), some (.int (Int32.ofInt v2)), some (.int (Int32.ofInt v3)), some (.int (Int32.ofInt (v4 + 1))), some (.int (Int32.ofInt (v5 + 1))), none]) ⟨rfl, rfl, rfl, rfl, rfl, rfl, jz_ni, trivial⟩ h
set_option maxHeartbeats 4000000 in
theorem e_260 {xs : Nat → Int32} {L d : Nat} {v1 : Int} {v2 : Int} {v3 : Int} {J K : jZ} {P : Int → jZ → jZ → Prop} (h : l_260_3 xs L (d + 1) v1 v2 v3 0 J K P) : q_260 xs L (d + 2) v1 v2 v3 J K P := by
  unfold q_260
  refine jq_in (ls := [some (.ref 167), some (.int (Int32.ofInt v1)), some (.int (Int32.ofInt v2)), some (.int (Int32.ofInt v3)), none]) rfl (Nat.le_of_ble_eq_true rfl) rfl ?_
  refine jw_iconst rfl ?_
  refine jw_istore (ls' := [some (.ref 167), some (.int (Int32.ofInt v1)), some (.int (Int32.ofInt v2)), some (.int (Int32.ofInt v3)), some (.int (Int32.ofInt 0))]) rfl rfl ?_
  exact jz_fg (l := [some (.ref 167), some (.int (Int32.ofInt v1)), some (.int (Int32.ofInt v2)), some (.int (Int32.ofInt v3)), some (.int (Int32.ofInt 0))]) ⟨rfl, rfl, rfl, rfl, rfl, trivial⟩ h
set_option maxHeartbeats 4000000 in
theorem e_260_3 {xs : Nat → Int32} {L d : Nat} {v1 : Int} {v2 : Int} {v3 : Int} {v4 : Int} {J K : jZ} {P : Int → jZ → jZ → Prop} (h : ((0 : Int) ≤ v3 ∧ v3 < 27) ∧ (-2147483648 ≤ v4 ∧ v4 < 2147483648) ∧ (-2147483648 ≤ J 195 v3.toNat ∧ J 195 v3.toNat < 2147483648) ∧ ((J 195 v3.toNat) ≤ v4 → P 0 J K) ∧ (v4 < (J 195 v3.toNat) → ((0 : Int) ≤ ((v3 * 60) + v4) ∧ ((v3 * 60) + v4) < 1620) ∧ ((0 : Int) ≤ ((v1 * 60) + v2) ∧ ((v1 * 60) + v2) < 1620) ∧ (-2147483648 ≤ J 196 ((v3 * 60) + v4).toNat ∧ J 196 ((v3 * 60) + v4).toNat < 2147483648) ∧ (-2147483648 ≤ J 196 ((v1 * 60) + v2).toNat ∧ J 196 ((v1 * 60) + v2).toNat < 2147483648) ∧ (¬ (J 196 ((v3 * 60) + v4).toNat) = (J 196 ((v1 * 60) + v2).toNat) → l_260_3 xs L (d + 1) v1 v2 v3 (v4 + 1) J K P) ∧ ((J 196 ((v3 * 60) + v4).toNat) = (J 196 ((v1 * 60) + v2).toNat) → (-2147483648 ≤ J 197 ((v3 * 60) + v4).toNat ∧ J 197 ((v3 * 60) + v4).toNat < 2147483648) ∧ (-2147483648 ≤ J 197 ((v1 * 60) + v2).toNat ∧ J 197 ((v1 * 60) + v2).toNat < 2147483648) ∧ (¬ (J 197 ((v3 * 60) + v4).toNat) = (J 197 ((v1 * 60) + v2).toNat) → l_260_3 xs L (d + 1) v1 v2 v3 (v4 + 1) J K P) ∧ ((J 197 ((v3 * 60) + v4).toNat) = (J 197 ((v1 * 60) + v2).toNat) → P 1 J K)))) : l_260_3 xs L (d + 1) v1 v2 v3 v4 J K P := by
  unfold l_260_3
  refine jw_iload rfl rfl ?_
  refine jw_aload_n rfl rfl ?_
  refine jw_gr (q := 195) rfl rfl rfl ?_
  refine jw_iload_n rfl rfl ?_
  obtain ⟨o1, h⟩ := h
  refine jw_iald (v := (J 195 v3.toNat)) (N := 27) rfl rfl rfl (by omega) o1 rfl ?_
  obtain ⟨o2, h⟩ := h
  obtain ⟨o3, h⟩ := h
  refine jw_ic_ge rfl o2 o3 (fun c4 => ?_) (fun c4 => ?_)
  · replace h := h.1 c4
    refine jw_iconst rfl ?_
    refine jw_zret rfl (by omega) ?_
    exact h
  · replace h := h.2 c4
    refine jw_aload_n rfl rfl ?_
    refine jw_iload_n rfl rfl ?_
    refine jw_iload rfl rfl ?_
    refine jw_virt (k := 2) (c := 19) (as := [.int (Int32.ofInt v3), .int (Int32.ofInt v4)]) rfl rfl rfl (Nat.le_of_ble_eq_true rfl) rfl (Nat.le_of_ble_eq_true rfl) rfl rfl (jz_ci ?_)
    refine jq_in (ls := [some (.ref 167), some (.int (Int32.ofInt v3)), some (.int (Int32.ofInt v4))]) rfl (Nat.le_of_ble_eq_true rfl) rfl ?_
    refine jw_aload_n rfl rfl ?_
    refine jw_gr (q := 196) rfl rfl rfl ?_
    refine jw_iload_n rfl rfl ?_
    refine jw_bipush rfl (by decide) ?_
    refine jw_imul rfl ?_
    refine jw_iload_n rfl rfl ?_
    refine jw_iadd rfl ?_
    obtain ⟨o5, h⟩ := h
    refine jw_iald (v := (J 196 ((v3 * 60) + v4).toNat)) (N := 1620) rfl rfl rfl (by omega) o5 rfl ?_
    refine jw_iret rfl ?_
    refine jw_aload_n rfl rfl ?_
    refine jw_iload_n rfl rfl ?_
    refine jw_iload_n rfl rfl ?_
    refine jw_virt (k := 2) (c := 19) (as := [.int (Int32.ofInt v1), .int (Int32.ofInt v2)]) rfl rfl rfl (Nat.le_of_ble_eq_true rfl) rfl (Nat.le_of_ble_eq_true rfl) rfl rfl (jz_ci ?_)
    refine jq_in (ls := [some (.ref 167), some (.int (Int32.ofInt v1)), some (.int (Int32.ofInt v2))]) rfl (Nat.le_of_ble_eq_true rfl) rfl ?_
    refine jw_aload_n rfl rfl ?_
    refine jw_gr (q := 196) rfl rfl rfl ?_
    refine jw_iload_n rfl rfl ?_
    refine jw_bipush rfl (by decide) ?_
    refine jw_imul rfl ?_
    refine jw_iload_n rfl rfl ?_
    refine jw_iadd rfl ?_
    obtain ⟨o6, h⟩ := h
    refine jw_iald (v := (J 196 ((v1 * 60) + v2).toNat)) (N := 1620) rfl rfl rfl (by omega) o6 rfl ?_
    refine jw_iret rfl ?_
    obtain ⟨o7, h⟩ := h
    obtain ⟨o8, h⟩ := h
    refine jw_ic_ne rfl o7 o8 (fun c9 => ?_) (fun c9 => ?_)
    · replace h := h.1 c9
      refine jw_iinc (ls' := [some (.ref 167), some (.int (Int32.ofInt v1)), some (.int (Int32.ofInt v2)), some (.int (Int32.ofInt v3)), some (.int (Int32.ofInt (v4 + 1)))]) rfl rfl rfl ?_
      refine jw_goto rfl ?_
      exact jz_fg (l := [some (.ref 167), some (.int (Int32.ofInt v1)), some (.int (Int32.ofInt v2)), some (.int (Int32.ofInt v3)), some (.int (Int32.ofInt (v4 + 1)))]) ⟨rfl, rfl, rfl, rfl, rfl, trivial⟩ h
    · replace h := h.2 c9
      refine jw_aload_n rfl rfl ?_
      refine jw_iload_n rfl rfl ?_
      refine jw_iload rfl rfl ?_
      refine jw_virt (k := 2) (c := 19) (as := [.int (Int32.ofInt v3), .int (Int32.ofInt v4)]) rfl rfl rfl (Nat.le_of_ble_eq_true rfl) rfl (Nat.le_of_ble_eq_true rfl) rfl rfl (jz_ci ?_)
      refine jq_in (ls := [some (.ref 167), some (.int (Int32.ofInt v3)), some (.int (Int32.ofInt v4))]) rfl (Nat.le_of_ble_eq_true rfl) rfl ?_
      refine jw_aload_n rfl rfl ?_
      refine jw_gr (q := 197) rfl rfl rfl ?_
      refine jw_iload_n rfl rfl ?_
      refine jw_bipush rfl (by decide) ?_
      refine jw_imul rfl ?_
      refine jw_iload_n rfl rfl ?_
      refine jw_iadd rfl ?_
      refine jw_iald (v := (J 197 ((v3 * 60) + v4).toNat)) (N := 1620) rfl rfl rfl (by omega) o5 rfl ?_
      refine jw_iret rfl ?_
      refine jw_aload_n rfl rfl ?_
      refine jw_iload_n rfl rfl ?_
      refine jw_iload_n rfl rfl ?_
      refine jw_virt (k := 2) (c := 19) (as := [.int (Int32.ofInt v1), .int (Int32.ofInt v2)]) rfl rfl rfl (Nat.le_of_ble_eq_true rfl) rfl (Nat.le_of_ble_eq_true rfl) rfl rfl (jz_ci ?_)
      refine jq_in (ls := [some (.ref 167), some (.int (Int32.ofInt v1)), some (.int (Int32.ofInt v2))]) rfl (Nat.le_of_ble_eq_true rfl) rfl ?_
      refine jw_aload_n rfl rfl ?_
      refine jw_gr (q := 197) rfl rfl rfl ?_
      refine jw_iload_n rfl rfl ?_
      refine jw_bipush rfl (by decide) ?_
      refine jw_imul rfl ?_
      refine jw_iload_n rfl rfl ?_
      refine jw_iadd rfl ?_
      refine jw_iald (v := (J 197 ((v1 * 60) + v2).toNat)) (N := 1620) rfl rfl rfl (by omega) o6 rfl ?_
      refine jw_iret rfl ?_
      obtain ⟨o10, h⟩ := h
      obtain ⟨o11, h⟩ := h
      refine jw_ic_ne rfl o10 o11 (fun c12 => ?_) (fun c12 => ?_)
      · replace h := h.1 c12
        refine jw_iinc (ls' := [some (.ref 167), some (.int (Int32.ofInt v1)), some (.int (Int32.ofInt v2)), some (.int (Int32.ofInt v3)), some (.int (Int32.ofInt (v4 + 1)))]) rfl rfl rfl ?_
        refine jw_goto rfl ?_
        exact jz_fg (l := [some (.ref 167), some (.int (Int32.ofInt v1)), some (.int (Int32.ofInt v2)), some (.int (Int32.ofInt v3)), some (.int (Int32.ofInt (v4 + 1)))]) ⟨rfl, rfl, rfl, rfl, rfl, trivial⟩ h
      · replace h := h.2 c12
        refine jw_iconst rfl ?_
        refine jw_zret rfl (by omega) ?_
        exact h
set_option maxHeartbeats 4000000 in
theorem e_261 {xs : Nat → Int32} {L d : Nat} {v1 : Int} {v2 : Int} {J K : jZ} {P : Int → jZ → jZ → Prop} (h : (-2147483648 ≤ v1 ∧ v1 < 2147483648) ∧ (-2147483648 ≤ ((J 167 10) - 1) ∧ ((J 167 10) - 1) < 2147483648) ∧ (((0 : Int) ≤ v1 ∧ v1 < (J 167 10)) → (-2147483648 ≤ v2 ∧ v2 < 2147483648) ∧ (((0 : Int) ≤ v2 ∧ v2 < (J 167 10)) → q_181 xs L (d + 2) J K (fun J6 K7 => q_262 xs L (d + 2) v1 v2 J6 K7 (fun r10 J8 K9 => P r10 J8 K9))) ∧ (¬ ((0 : Int) ≤ v2 ∧ v2 < (J 167 10)) → q_170 xs L (d + 2) (-2) J K (fun r13 J11 K12 => P r13 J11 K12))) ∧ (¬ ((0 : Int) ≤ v1 ∧ v1 < (J 167 10)) → q_170 xs L (d + 2) (-2) J K (fun r16 J14 K15 => P r16 J14 K15))) : q_261 xs L (d + 3) v1 v2 J K P := by
  unfold q_261
  refine jq_in (ls := [some (.ref 167), some (.int (Int32.ofInt v1)), some (.int (Int32.ofInt v2))]) rfl (Nat.le_of_ble_eq_true rfl) rfl ?_
  refine jw_aload_n rfl rfl ?_
  refine jw_iload_n rfl rfl ?_
  refine jw_virt (k := 1) (c := 19) (as := [.int (Int32.ofInt v1)]) rfl rfl rfl (Nat.le_of_ble_eq_true rfl) rfl (Nat.le_of_ble_eq_true rfl) rfl rfl (jz_ci ?_)
  obtain ⟨o1, h⟩ := h
  obtain ⟨o2, h⟩ := h
  refine sb_178 o1 o2 (fun c3 => ?_) (fun c3 => ?_)
  · replace h := h.1 c3
    refine jw_if_eq rfl (by omega) (fun hc => by exfalso; omega) (fun _ => ?_)
    refine jw_aload_n rfl rfl ?_
    refine jw_iload_n rfl rfl ?_
    refine jw_virt (k := 1) (c := 19) (as := [.int (Int32.ofInt v2)]) rfl rfl rfl (Nat.le_of_ble_eq_true rfl) rfl (Nat.le_of_ble_eq_true rfl) rfl rfl (jz_ci ?_)
    obtain ⟨o4, h⟩ := h
    refine sb_178 o4 o2 (fun c5 => ?_) (fun c5 => ?_)
    · replace h := h.1 c5
      refine jw_if_ne rfl (by omega) (fun _ => ?_) (fun hc => by exfalso; omega)
      refine jw_aload_n rfl rfl ?_
      refine jw_virt (k := 0) (c := 19) (as := []) rfl rfl rfl (Nat.le_of_ble_eq_true rfl) rfl (Nat.le_of_ble_eq_true rfl) rfl rfl (jz_cv ?_)
      refine jm_Q.mono h (jp_v_mono (fun J6 K7 h => ?_))
      refine jw_aload_n rfl rfl ?_
      refine jw_iload_n rfl rfl ?_
      refine jw_iload_n rfl rfl ?_
      refine jw_virt (k := 2) (c := 19) (as := [.int (Int32.ofInt v1), .int (Int32.ofInt v2)]) rfl rfl rfl (Nat.le_of_ble_eq_true rfl) rfl (Nat.le_of_ble_eq_true rfl) rfl rfl (jz_ci ?_)
      refine jm_Q.mono h (jp_i_mono (fun r10 J8 K9 h => ?_))
      refine jw_iret rfl ?_
      exact h
    · replace h := h.2 c5
      refine jw_if_ne rfl (by omega) (fun hc => by exfalso; omega) (fun _ => ?_)
      refine jw_aload_n rfl rfl ?_
      refine jw_bipush rfl (by decide) ?_
      refine jw_virt (k := 1) (c := 19) (as := [.int (Int32.ofInt (-2))]) rfl rfl rfl (Nat.le_of_ble_eq_true rfl) rfl (Nat.le_of_ble_eq_true rfl) rfl rfl (jz_ci ?_)
      refine jm_Q.mono h (jp_i_mono (fun r13 J11 K12 h => ?_))
      refine jw_iret rfl ?_
      exact h
  · replace h := h.2 c3
    refine jw_if_eq rfl (by omega) (fun _ => ?_) (fun hc => by exfalso; omega)
    refine jw_aload_n rfl rfl ?_
    refine jw_bipush rfl (by decide) ?_
    refine jw_virt (k := 1) (c := 19) (as := [.int (Int32.ofInt (-2))]) rfl rfl rfl (Nat.le_of_ble_eq_true rfl) rfl (Nat.le_of_ble_eq_true rfl) rfl rfl (jz_ci ?_)
    refine jm_Q.mono h (jp_i_mono (fun r16 J14 K15 h => ?_))
    refine jw_iret rfl ?_
    exact h
set_option maxHeartbeats 4000000 in
theorem e_262 {xs : Nat → Int32} {L d : Nat} {v1 : Int} {v2 : Int} {J K : jZ} {P : Int → jZ → jZ → Prop} (h : l_262_2 xs L (d + 2) v1 v2 0 J K P) : q_262 xs L (d + 3) v1 v2 J K P := by
  unfold q_262
  refine jq_in (ls := [some (.ref 167), some (.int (Int32.ofInt v1)), some (.int (Int32.ofInt v2)), none]) rfl (Nat.le_of_ble_eq_true rfl) rfl ?_
  refine jw_iconst rfl ?_
  refine jw_istore_n (ls' := [some (.ref 167), some (.int (Int32.ofInt v1)), some (.int (Int32.ofInt v2)), some (.int (Int32.ofInt 0))]) rfl rfl ?_
  exact jz_fg (l := [some (.ref 167), some (.int (Int32.ofInt v1)), some (.int (Int32.ofInt v2)), some (.int (Int32.ofInt 0))]) ⟨rfl, rfl, rfl, rfl, trivial⟩ h
set_option maxHeartbeats 4000000 in
theorem e_262_2 {xs : Nat → Int32} {L d : Nat} {v1 : Int} {v2 : Int} {v3 : Int} {J K : jZ} {P : Int → jZ → jZ → Prop} (h : ((0 : Int) ≤ v1 ∧ v1 < 27) ∧ (-2147483648 ≤ v3 ∧ v3 < 2147483648) ∧ (-2147483648 ≤ J 195 v1.toNat ∧ J 195 v1.toNat < 2147483648) ∧ ((J 195 v1.toNat) ≤ v3 → l_262_43 xs L (d + 2) v1 v2 v3 J K P) ∧ (v3 < (J 195 v1.toNat) → ((0 : Int) ≤ v2 ∧ v2 < 27) ∧ (-2147483648 ≤ J 195 v2.toNat ∧ J 195 v2.toNat < 2147483648) ∧ ((J 195 v2.toNat) ≤ v3 → l_262_43 xs L (d + 2) v1 v2 v3 J K P) ∧ (v3 < (J 195 v2.toNat) → ((0 : Int) ≤ ((v1 * 60) + v3) ∧ ((v1 * 60) + v3) < 1620) ∧ ((0 : Int) ≤ ((v2 * 60) + v3) ∧ ((v2 * 60) + v3) < 1620) ∧ (-2147483648 ≤ ((100 * (J 196 ((v1 * 60) + v3).toNat)) + (J 197 ((v1 * 60) + v3).toNat)) ∧ ((100 * (J 196 ((v1 * 60) + v3).toNat)) + (J 197 ((v1 * 60) + v3).toNat)) < 2147483648) ∧ (-2147483648 ≤ ((100 * (J 196 ((v2 * 60) + v3).toNat)) + (J 197 ((v2 * 60) + v3).toNat)) ∧ ((100 * (J 196 ((v2 * 60) + v3).toNat)) + (J 197 ((v2 * 60) + v3).toNat)) < 2147483648) ∧ (¬ ((100 * (J 196 ((v1 * 60) + v3).toNat)) + (J 197 ((v1 * 60) + v3).toNat)) = ((100 * (J 196 ((v2 * 60) + v3).toNat)) + (J 197 ((v2 * 60) + v3).toNat)) → l_262_43 xs L (d + 2) v1 v2 v3 J K P) ∧ (((100 * (J 196 ((v1 * 60) + v3).toNat)) + (J 197 ((v1 * 60) + v3).toNat)) = ((100 * (J 196 ((v2 * 60) + v3).toNat)) + (J 197 ((v2 * 60) + v3).toNat)) → l_262_2 xs L (d + 2) v1 v2 (v3 + 1) J K P)))) : l_262_2 xs L (d + 2) v1 v2 v3 J K P := by
  unfold l_262_2
  refine jw_iload_n rfl rfl ?_
  refine jw_aload_n rfl rfl ?_
  refine jw_gr (q := 195) rfl rfl rfl ?_
  refine jw_iload_n rfl rfl ?_
  obtain ⟨o1, h⟩ := h
  refine jw_iald (v := (J 195 v1.toNat)) (N := 27) rfl rfl rfl (by omega) o1 rfl ?_
  obtain ⟨o2, h⟩ := h
  obtain ⟨o3, h⟩ := h
  refine jw_ic_ge rfl o2 o3 (fun c4 => ?_) (fun c4 => ?_)
  · replace h := h.1 c4
    exact jz_fg (l := [some (.ref 167), some (.int (Int32.ofInt v1)), some (.int (Int32.ofInt v2)), some (.int (Int32.ofInt v3))]) ⟨rfl, rfl, rfl, rfl, trivial⟩ h
  · replace h := h.2 c4
    refine jw_iload_n rfl rfl ?_
    refine jw_aload_n rfl rfl ?_
    refine jw_gr (q := 195) rfl rfl rfl ?_
    refine jw_iload_n rfl rfl ?_
    obtain ⟨o5, h⟩ := h
    refine jw_iald (v := (J 195 v2.toNat)) (N := 27) rfl rfl rfl (by omega) o5 rfl ?_
    obtain ⟨o6, h⟩ := h
    refine jw_ic_ge rfl o2 o6 (fun c7 => ?_) (fun c7 => ?_)
    · replace h := h.1 c7
      exact jz_fg (l := [some (.ref 167), some (.int (Int32.ofInt v1)), some (.int (Int32.ofInt v2)), some (.int (Int32.ofInt v3))]) ⟨rfl, rfl, rfl, rfl, trivial⟩ h
    · replace h := h.2 c7
      refine jw_aload_n rfl rfl ?_
      refine jw_iload_n rfl rfl ?_
      refine jw_iload_n rfl rfl ?_
      refine jw_virt (k := 2) (c := 19) (as := [.int (Int32.ofInt v1), .int (Int32.ofInt v3)]) rfl rfl rfl (Nat.le_of_ble_eq_true rfl) rfl (Nat.le_of_ble_eq_true rfl) rfl rfl (jz_ci ?_)
      refine jq_in (ls := [some (.ref 167), some (.int (Int32.ofInt v1)), some (.int (Int32.ofInt v3))]) rfl (Nat.le_of_ble_eq_true rfl) rfl ?_
      refine jw_bipush rfl (by decide) ?_
      refine jw_aload_n rfl rfl ?_
      refine jw_iload_n rfl rfl ?_
      refine jw_iload_n rfl rfl ?_
      refine jw_virt (k := 2) (c := 19) (as := [.int (Int32.ofInt v1), .int (Int32.ofInt v3)]) rfl rfl rfl (Nat.le_of_ble_eq_true rfl) rfl (Nat.le_of_ble_eq_true rfl) rfl rfl (jz_ci ?_)
      refine jq_in (ls := [some (.ref 167), some (.int (Int32.ofInt v1)), some (.int (Int32.ofInt v3))]) rfl (Nat.le_of_ble_eq_true rfl) rfl ?_
      refine jw_aload_n rfl rfl ?_
      refine jw_gr (q := 196) rfl rfl rfl ?_
      refine jw_iload_n rfl rfl ?_
      refine jw_bipush rfl (by decide) ?_
      refine jw_imul rfl ?_
      refine jw_iload_n rfl rfl ?_
      refine jw_iadd rfl ?_
      obtain ⟨o8, h⟩ := h
      refine jw_iald (v := (J 196 ((v1 * 60) + v3).toNat)) (N := 1620) rfl rfl rfl (by omega) o8 rfl ?_
      refine jw_iret rfl ?_
      refine jw_imul rfl ?_
      refine jw_aload_n rfl rfl ?_
      refine jw_iload_n rfl rfl ?_
      refine jw_iload_n rfl rfl ?_
      refine jw_virt (k := 2) (c := 19) (as := [.int (Int32.ofInt v1), .int (Int32.ofInt v3)]) rfl rfl rfl (Nat.le_of_ble_eq_true rfl) rfl (Nat.le_of_ble_eq_true rfl) rfl rfl (jz_ci ?_)
      refine jq_in (ls := [some (.ref 167), some (.int (Int32.ofInt v1)), some (.int (Int32.ofInt v3))]) rfl (Nat.le_of_ble_eq_true rfl) rfl ?_
      refine jw_aload_n rfl rfl ?_
      refine jw_gr (q := 197) rfl rfl rfl ?_
      refine jw_iload_n rfl rfl ?_
      refine jw_bipush rfl (by decide) ?_
      refine jw_imul rfl ?_
      refine jw_iload_n rfl rfl ?_
      refine jw_iadd rfl ?_
      refine jw_iald (v := (J 197 ((v1 * 60) + v3).toNat)) (N := 1620) rfl rfl rfl (by omega) o8 rfl ?_
      refine jw_iret rfl ?_
      refine jw_iadd rfl ?_
      refine jw_iret rfl ?_
      refine jw_aload_n rfl rfl ?_
      refine jw_iload_n rfl rfl ?_
      refine jw_iload_n rfl rfl ?_
      refine jw_virt (k := 2) (c := 19) (as := [.int (Int32.ofInt v2), .int (Int32.ofInt v3)]) rfl rfl rfl (Nat.le_of_ble_eq_true rfl) rfl (Nat.le_of_ble_eq_true rfl) rfl rfl (jz_ci ?_)
      refine jq_in (ls := [some (.ref 167), some (.int (Int32.ofInt v2)), some (.int (Int32.ofInt v3))]) rfl (Nat.le_of_ble_eq_true rfl) rfl ?_
      refine jw_bipush rfl (by decide) ?_
      refine jw_aload_n rfl rfl ?_
      refine jw_iload_n rfl rfl ?_
      refine jw_iload_n rfl rfl ?_
      refine jw_virt (k := 2) (c := 19) (as := [.int (Int32.ofInt v2), .int (Int32.ofInt v3)]) rfl rfl rfl (Nat.le_of_ble_eq_true rfl) rfl (Nat.le_of_ble_eq_true rfl) rfl rfl (jz_ci ?_)
      refine jq_in (ls := [some (.ref 167), some (.int (Int32.ofInt v2)), some (.int (Int32.ofInt v3))]) rfl (Nat.le_of_ble_eq_true rfl) rfl ?_
      refine jw_aload_n rfl rfl ?_
      refine jw_gr (q := 196) rfl rfl rfl ?_
      refine jw_iload_n rfl rfl ?_
      refine jw_bipush rfl (by decide) ?_
      refine jw_imul rfl ?_
      refine jw_iload_n rfl rfl ?_
      refine jw_iadd rfl ?_
      obtain ⟨o9, h⟩ := h
      refine jw_iald (v := (J 196 ((v2 * 60) + v3).toNat)) (N := 1620) rfl rfl rfl (by omega) o9 rfl ?_
      refine jw_iret rfl ?_
      refine jw_imul rfl ?_
      refine jw_aload_n rfl rfl ?_
      refine jw_iload_n rfl rfl ?_
      refine jw_iload_n rfl rfl ?_
      refine jw_virt (k := 2) (c := 19) (as := [.int (Int32.ofInt v2), .int (Int32.ofInt v3)]) rfl rfl rfl (Nat.le_of_ble_eq_true rfl) rfl (Nat.le_of_ble_eq_true rfl) rfl rfl (jz_ci ?_)
      refine jq_in (ls := [some (.ref 167), some (.int (Int32.ofInt v2)), some (.int (Int32.ofInt v3))]) rfl (Nat.le_of_ble_eq_true rfl) rfl ?_
      refine jw_aload_n rfl rfl ?_
      refine jw_gr (q := 197) rfl rfl rfl ?_
      refine jw_iload_n rfl rfl ?_
      refine jw_bipush rfl (by decide) ?_
      refine jw_imul rfl ?_
      refine jw_iload_n rfl rfl ?_
      refine jw_iadd rfl ?_
      refine jw_iald (v := (J 197 ((v2 * 60) + v3).toNat)) (N := 1620) rfl rfl rfl (by omega) o9 rfl ?_
      refine jw_iret rfl ?_
      refine jw_iadd rfl ?_
      refine jw_iret rfl ?_
      obtain ⟨o10, h⟩ := h
      obtain ⟨o11, h⟩ := h
      refine jw_ic_ne rfl o10 o11 (fun c12 => ?_) (fun c12 => ?_)
      · replace h := h.1 c12
        exact jz_fg (l := [some (.ref 167), some (.int (Int32.ofInt v1)), some (.int (Int32.ofInt v2)), some (.int (Int32.ofInt v3))]) ⟨rfl, rfl, rfl, rfl, trivial⟩ h
      · replace h := h.2 c12
        refine jw_iinc (ls' := [some (.ref 167), some (.int (Int32.ofInt v1)), some (.int (Int32.ofInt v2)), some (.int (Int32.ofInt (v3 + 1)))]) rfl rfl rfl ?_
        refine jw_goto rfl ?_
        exact jz_fg (l := [some (.ref 167), some (.int (Int32.ofInt v1)), some (.int (Int32.ofInt v2)), some (.int (Int32.ofInt (v3 + 1)))]) ⟨rfl, rfl, rfl, rfl, trivial⟩ h
set_option maxHeartbeats 4000000 in
theorem e_262_43 {xs : Nat → Int32} {L d : Nat} {v1 : Int} {v2 : Int} {v3 : Int} {J K : jZ} {P : Int → jZ → jZ → Prop} (h : ((0 : Int) ≤ v1 ∧ v1 < 27) ∧ (-2147483648 ≤ v3 ∧ v3 < 2147483648) ∧ (-2147483648 ≤ J 195 v1.toNat ∧ J 195 v1.toNat < 2147483648) ∧ (v3 < (J 195 v1.toNat) → l_262_63 xs L (d + 2) v3 J K P) ∧ ((J 195 v1.toNat) ≤ v3 → ((0 : Int) ≤ v2 ∧ v2 < 27) ∧ (-2147483648 ≤ J 195 v2.toNat ∧ J 195 v2.toNat < 2147483648) ∧ ((J 195 v2.toNat) ≤ v3 → P (-1) J K) ∧ (v3 < (J 195 v2.toNat) → l_262_63 xs L (d + 2) v3 J K P))) : l_262_43 xs L (d + 2) v1 v2 v3 J K P := by
  unfold l_262_43
  refine jw_iload_n rfl rfl ?_
  refine jw_aload_n rfl rfl ?_
  refine jw_gr (q := 195) rfl rfl rfl ?_
  refine jw_iload_n rfl rfl ?_
  obtain ⟨o1, h⟩ := h
  refine jw_iald (v := (J 195 v1.toNat)) (N := 27) rfl rfl rfl (by omega) o1 rfl ?_
  obtain ⟨o2, h⟩ := h
  obtain ⟨o3, h⟩ := h
  refine jw_ic_lt rfl o2 o3 (fun c4 => ?_) (fun c4 => ?_)
  · replace h := h.1 c4
    exact jz_fg (l := [none, none, none, some (.int (Int32.ofInt v3))]) ⟨jz_nr, jz_ni, jz_ni, rfl, trivial⟩ h
  · replace h := h.2 c4
    refine jw_iload_n rfl rfl ?_
    refine jw_aload_n rfl rfl ?_
    refine jw_gr (q := 195) rfl rfl rfl ?_
    refine jw_iload_n rfl rfl ?_
    obtain ⟨o5, h⟩ := h
    refine jw_iald (v := (J 195 v2.toNat)) (N := 27) rfl rfl rfl (by omega) o5 rfl ?_
    obtain ⟨o6, h⟩ := h
    refine jw_ic_ge rfl o2 o6 (fun c7 => ?_) (fun c7 => ?_)
    · replace h := h.1 c7
      refine jw_iconst rfl ?_
      refine jw_iret rfl ?_
      exact h
    · replace h := h.2 c7
      exact jz_fg (l := [none, none, none, some (.int (Int32.ofInt v3))]) ⟨jz_nr, jz_ni, jz_ni, rfl, trivial⟩ h
set_option maxHeartbeats 4000000 in
theorem e_262_63 {xs : Nat → Int32} {L d : Nat} {v3 : Int} {J K : jZ} {P : Int → jZ → jZ → Prop} (h : P v3 J K) : l_262_63 xs L (d + 2) v3 J K P := by
  unfold l_262_63
  refine jw_iload_n rfl rfl ?_
  refine jw_goto rfl ?_
  refine jw_iret rfl ?_
  exact h
set_option maxHeartbeats 4000000 in
theorem e_263 {xs : Nat → Int32} {L d : Nat} {v1 : Int} {J K : jZ} {P : Int → jZ → jZ → Prop} (h : (-2147483648 ≤ v1 ∧ v1 < 2147483648) ∧ (-2147483648 ≤ ((J 167 10) - 1) ∧ ((J 167 10) - 1) < 2147483648) ∧ (((0 : Int) ≤ v1 ∧ v1 < (J 167 10)) → q_181 xs L (d + 2) J K (fun J4 K5 => l_263_21 xs L (d + 2) v1 0 J4 K5 P)) ∧ (¬ ((0 : Int) ≤ v1 ∧ v1 < (J 167 10)) → q_170 xs L (d + 2) (-2) J K (fun r8 J6 K7 => P r8 J6 K7))) : q_263 xs L (d + 3) v1 J K P := by
  unfold q_263
  refine jq_in (ls := [some (.ref 167), some (.int (Int32.ofInt v1)), none]) rfl (Nat.le_of_ble_eq_true rfl) rfl ?_
  refine jw_aload_n rfl rfl ?_
  refine jw_iload_n rfl rfl ?_
  refine jw_virt (k := 1) (c := 19) (as := [.int (Int32.ofInt v1)]) rfl rfl rfl (Nat.le_of_ble_eq_true rfl) rfl (Nat.le_of_ble_eq_true rfl) rfl rfl (jz_ci ?_)
  obtain ⟨o1, h⟩ := h
  obtain ⟨o2, h⟩ := h
  refine sb_178 o1 o2 (fun c3 => ?_) (fun c3 => ?_)
  · replace h := h.1 c3
    refine jw_if_ne rfl (by omega) (fun _ => ?_) (fun hc => by exfalso; omega)
    refine jw_aload_n rfl rfl ?_
    refine jw_virt (k := 0) (c := 19) (as := []) rfl rfl rfl (Nat.le_of_ble_eq_true rfl) rfl (Nat.le_of_ble_eq_true rfl) rfl rfl (jz_cv ?_)
    refine jm_Q.mono h (jp_v_mono (fun J4 K5 h => ?_))
    refine jw_iconst rfl ?_
    refine jw_istore_n (ls' := [some (.ref 167), some (.int (Int32.ofInt v1)), some (.int (Int32.ofInt 0))]) rfl rfl ?_
    exact jz_fg (l := [some (.ref 167), some (.int (Int32.ofInt v1)), some (.int (Int32.ofInt 0))]) ⟨rfl, rfl, rfl, trivial⟩ h
  · replace h := h.2 c3
    refine jw_if_ne rfl (by omega) (fun hc => by exfalso; omega) (fun _ => ?_)
    refine jw_aload_n rfl rfl ?_
    refine jw_bipush rfl (by decide) ?_
    refine jw_virt (k := 1) (c := 19) (as := [.int (Int32.ofInt (-2))]) rfl rfl rfl (Nat.le_of_ble_eq_true rfl) rfl (Nat.le_of_ble_eq_true rfl) rfl rfl (jz_ci ?_)
    refine jm_Q.mono h (jp_i_mono (fun r8 J6 K7 h => ?_))
    refine jw_iret rfl ?_
    exact h
set_option maxHeartbeats 4000000 in
theorem e_263_21 {xs : Nat → Int32} {L d : Nat} {v1 : Int} {v2 : Int} {J K : jZ} {P : Int → jZ → jZ → Prop} (h : q_262 xs L (d + 2) v2 v1 J K (fun r3 J1 K2 => (-2147483648 ≤ r3 ∧ r3 < 2147483648) ∧ (r3 = (-1) → P v2 J1 K2) ∧ (¬ r3 = (-1) → l_263_21 xs L (d + 2) v1 (v2 + 1) J1 K2 P))) : l_263_21 xs L (d + 2) v1 v2 J K P := by
  unfold l_263_21
  refine jw_aload_n rfl rfl ?_
  refine jw_iload_n rfl rfl ?_
  refine jw_iload_n rfl rfl ?_
  refine jw_virt (k := 2) (c := 19) (as := [.int (Int32.ofInt v2), .int (Int32.ofInt v1)]) rfl rfl rfl (Nat.le_of_ble_eq_true rfl) rfl (Nat.le_of_ble_eq_true rfl) rfl rfl (jz_ci ?_)
  refine jm_Q.mono h (jp_i_mono (fun r3 J1 K2 h => ?_))
  refine jw_iconst rfl ?_
  obtain ⟨o4, h⟩ := h
  refine jw_ic_eq rfl o4 (by omega) (fun c5 => ?_) (fun c5 => ?_)
  · replace h := h.1 c5
    refine jw_iload_n rfl rfl ?_
    refine jw_iret rfl ?_
    exact h
  · replace h := h.2 c5
    refine jw_iinc (ls' := [some (.ref 167), some (.int (Int32.ofInt v1)), some (.int (Int32.ofInt (v2 + 1)))]) rfl rfl rfl ?_
    refine jw_goto rfl ?_
    exact jz_fg (l := [some (.ref 167), some (.int (Int32.ofInt v1)), some (.int (Int32.ofInt (v2 + 1)))]) ⟨rfl, rfl, rfl, trivial⟩ h
set_option maxHeartbeats 4000000 in
theorem e_264 {xs : Nat → Int32} {L d : Nat} {v1 : Int} {J K : jZ} {P : Int → jZ → jZ → Prop} (h : (-2147483648 ≤ v1 ∧ v1 < 2147483648) ∧ (-2147483648 ≤ ((J 167 10) - 1) ∧ ((J 167 10) - 1) < 2147483648) ∧ (((0 : Int) ≤ v1 ∧ v1 < (J 167 10)) → q_181 xs L (d + 2) J K (fun J4 K5 => l_264_23 xs L (d + 2) v1 0 0 J4 K5 P)) ∧ (¬ ((0 : Int) ≤ v1 ∧ v1 < (J 167 10)) → q_170 xs L (d + 2) (-2) J K (fun r8 J6 K7 => P r8 J6 K7))) : q_264 xs L (d + 3) v1 J K P := by
  unfold q_264
  refine jq_in (ls := [some (.ref 167), some (.int (Int32.ofInt v1)), none, none]) rfl (Nat.le_of_ble_eq_true rfl) rfl ?_
  refine jw_aload_n rfl rfl ?_
  refine jw_iload_n rfl rfl ?_
  refine jw_virt (k := 1) (c := 19) (as := [.int (Int32.ofInt v1)]) rfl rfl rfl (Nat.le_of_ble_eq_true rfl) rfl (Nat.le_of_ble_eq_true rfl) rfl rfl (jz_ci ?_)
  obtain ⟨o1, h⟩ := h
  obtain ⟨o2, h⟩ := h
  refine sb_178 o1 o2 (fun c3 => ?_) (fun c3 => ?_)
  · replace h := h.1 c3
    refine jw_if_ne rfl (by omega) (fun _ => ?_) (fun hc => by exfalso; omega)
    refine jw_aload_n rfl rfl ?_
    refine jw_virt (k := 0) (c := 19) (as := []) rfl rfl rfl (Nat.le_of_ble_eq_true rfl) rfl (Nat.le_of_ble_eq_true rfl) rfl rfl (jz_cv ?_)
    refine jm_Q.mono h (jp_v_mono (fun J4 K5 h => ?_))
    refine jw_iconst rfl ?_
    refine jw_istore_n (ls' := [some (.ref 167), some (.int (Int32.ofInt v1)), some (.int (Int32.ofInt 0)), none]) rfl rfl ?_
    refine jw_iconst rfl ?_
    refine jw_istore_n (ls' := [some (.ref 167), some (.int (Int32.ofInt v1)), some (.int (Int32.ofInt 0)), some (.int (Int32.ofInt 0))]) rfl rfl ?_
    exact jz_fg (l := [some (.ref 167), some (.int (Int32.ofInt v1)), some (.int (Int32.ofInt 0)), some (.int (Int32.ofInt 0))]) ⟨rfl, rfl, rfl, rfl, trivial⟩ h
  · replace h := h.2 c3
    refine jw_if_ne rfl (by omega) (fun hc => by exfalso; omega) (fun _ => ?_)
    refine jw_aload_n rfl rfl ?_
    refine jw_bipush rfl (by decide) ?_
    refine jw_virt (k := 1) (c := 19) (as := [.int (Int32.ofInt (-2))]) rfl rfl rfl (Nat.le_of_ble_eq_true rfl) rfl (Nat.le_of_ble_eq_true rfl) rfl rfl (jz_ci ?_)
    refine jm_Q.mono h (jp_i_mono (fun r8 J6 K7 h => ?_))
    refine jw_iret rfl ?_
    exact h
set_option maxHeartbeats 4000000 in
theorem e_264_23 {xs : Nat → Int32} {L d : Nat} {v1 : Int} {v2 : Int} {v3 : Int} {J K : jZ} {P : Int → jZ → jZ → Prop} (h : (-2147483648 ≤ v3 ∧ v3 < 2147483648) ∧ (-2147483648 ≤ J 167 10 ∧ J 167 10 < 2147483648) ∧ ((J 167 10) ≤ v3 → P v2 J K) ∧ (v3 < (J 167 10) → q_265 xs L (d + 2) v3 v1 J K (fun r6 J4 K5 => (-2147483648 ≤ r6 ∧ r6 < 2147483648) ∧ (r6 = 0 → l_264_23 xs L (d + 2) v1 (jz_or v2 0) (v3 + 1) J4 K5 P) ∧ (¬ r6 = 0 → l_264_23 xs L (d + 2) v1 (jz_or v2 (jz_shl 1 v3)) (v3 + 1) J4 K5 P)))) : l_264_23 xs L (d + 2) v1 v2 v3 J K P := by
  unfold l_264_23
  refine jw_iload_n rfl rfl ?_
  refine jw_aload_n rfl rfl ?_
  refine jw_gf (v := (J 167 10)) rfl (by decide) rfl rfl ?_
  obtain ⟨o1, h⟩ := h
  obtain ⟨o2, h⟩ := h
  refine jw_ic_ge rfl o1 o2 (fun c3 => ?_) (fun c3 => ?_)
  · replace h := h.1 c3
    refine jw_iload_n rfl rfl ?_
    refine jw_iret rfl ?_
    exact h
  · replace h := h.2 c3
    refine jw_iload_n rfl rfl ?_
    refine jw_aload_n rfl rfl ?_
    refine jw_iload_n rfl rfl ?_
    refine jw_iload_n rfl rfl ?_
    refine jw_virt (k := 2) (c := 19) (as := [.int (Int32.ofInt v3), .int (Int32.ofInt v1)]) rfl rfl rfl (Nat.le_of_ble_eq_true rfl) rfl (Nat.le_of_ble_eq_true rfl) rfl rfl (jz_ci ?_)
    refine jm_Q.mono h (jp_i_mono (fun r6 J4 K5 h => ?_))
    obtain ⟨o7, h⟩ := h
    refine jw_if_eq rfl o7 (fun c8 => ?_) (fun c8 => ?_)
    · replace h := h.1 c8
      refine jw_iconst rfl ?_
      refine jw_ior rfl ?_
      refine jw_istore_n (ls' := [some (.ref 167), some (.int (Int32.ofInt v1)), some (.int (Int32.ofInt (jz_or v2 0))), some (.int (Int32.ofInt v3))]) rfl rfl ?_
      refine jw_iinc (ls' := [some (.ref 167), some (.int (Int32.ofInt v1)), some (.int (Int32.ofInt (jz_or v2 0))), some (.int (Int32.ofInt (v3 + 1)))]) rfl rfl rfl ?_
      refine jw_goto rfl ?_
      exact jz_fg (l := [some (.ref 167), some (.int (Int32.ofInt v1)), some (.int (Int32.ofInt (jz_or v2 0))), some (.int (Int32.ofInt (v3 + 1)))]) ⟨rfl, rfl, rfl, rfl, trivial⟩ h
    · replace h := h.2 c8
      refine jw_iconst rfl ?_
      refine jw_iload_n rfl rfl ?_
      refine jw_ishl rfl ?_
      refine jw_goto rfl ?_
      refine jw_ior rfl ?_
      refine jw_istore_n (ls' := [some (.ref 167), some (.int (Int32.ofInt v1)), some (.int (Int32.ofInt (jz_or v2 (jz_shl 1 v3)))), some (.int (Int32.ofInt v3))]) rfl rfl ?_
      refine jw_iinc (ls' := [some (.ref 167), some (.int (Int32.ofInt v1)), some (.int (Int32.ofInt (jz_or v2 (jz_shl 1 v3)))), some (.int (Int32.ofInt (v3 + 1)))]) rfl rfl rfl ?_
      refine jw_goto rfl ?_
      exact jz_fg (l := [some (.ref 167), some (.int (Int32.ofInt v1)), some (.int (Int32.ofInt (jz_or v2 (jz_shl 1 v3)))), some (.int (Int32.ofInt (v3 + 1)))]) ⟨rfl, rfl, rfl, rfl, trivial⟩ h
set_option maxHeartbeats 4000000 in
theorem e_265 {xs : Nat → Int32} {L d : Nat} {v1 : Int} {v2 : Int} {J K : jZ} {P : Int → jZ → jZ → Prop} (h : l_265_2 xs L d v1 v2 0 J K P) : q_265 xs L (d + 1) v1 v2 J K P := by
  unfold q_265
  refine jq_in (ls := [some (.ref 167), some (.int (Int32.ofInt v1)), some (.int (Int32.ofInt v2)), none]) rfl (Nat.le_of_ble_eq_true rfl) rfl ?_
  refine jw_iconst rfl ?_
  refine jw_istore_n (ls' := [some (.ref 167), some (.int (Int32.ofInt v1)), some (.int (Int32.ofInt v2)), some (.int (Int32.ofInt 0))]) rfl rfl ?_
  exact jz_fg (l := [some (.ref 167), some (.int (Int32.ofInt v1)), some (.int (Int32.ofInt v2)), some (.int (Int32.ofInt 0))]) ⟨rfl, rfl, rfl, rfl, trivial⟩ h
set_option maxHeartbeats 4000000 in
theorem e_265_2 {xs : Nat → Int32} {L d : Nat} {v1 : Int} {v2 : Int} {v3 : Int} {J K : jZ} {P : Int → jZ → jZ → Prop} (h : ((0 : Int) ≤ v1 ∧ v1 < 27) ∧ (-2147483648 ≤ v3 ∧ v3 < 2147483648) ∧ (-2147483648 ≤ J 195 v1.toNat ∧ J 195 v1.toNat < 2147483648) ∧ ((J 195 v1.toNat) ≤ v3 → P 1 J K) ∧ (v3 < (J 195 v1.toNat) → q_198 xs L d v1 v3 v2 0 J K (fun r7 J5 K6 => (-2147483648 ≤ r7 ∧ r7 < 2147483648) ∧ (¬ r7 = 0 → l_265_2 xs L d v1 v2 (v3 + 1) J5 K6 P) ∧ (r7 = 0 → P 0 J5 K6)))) : l_265_2 xs L d v1 v2 v3 J K P := by
  unfold l_265_2
  refine jw_iload_n rfl rfl ?_
  refine jw_aload_n rfl rfl ?_
  refine jw_gr (q := 195) rfl rfl rfl ?_
  refine jw_iload_n rfl rfl ?_
  obtain ⟨o1, h⟩ := h
  refine jw_iald (v := (J 195 v1.toNat)) (N := 27) rfl rfl rfl (by omega) o1 rfl ?_
  obtain ⟨o2, h⟩ := h
  obtain ⟨o3, h⟩ := h
  refine jw_ic_ge rfl o2 o3 (fun c4 => ?_) (fun c4 => ?_)
  · replace h := h.1 c4
    refine jw_iconst rfl ?_
    refine jw_zret rfl (by omega) ?_
    exact h
  · replace h := h.2 c4
    refine jw_aload_n rfl rfl ?_
    refine jw_iload_n rfl rfl ?_
    refine jw_iload_n rfl rfl ?_
    refine jw_iload_n rfl rfl ?_
    refine jw_iconst rfl ?_
    refine jw_virt (k := 4) (c := 19) (as := [.int (Int32.ofInt v1), .int (Int32.ofInt v3), .int (Int32.ofInt v2), .int (Int32.ofInt 0)]) rfl rfl rfl (Nat.le_of_ble_eq_true rfl) rfl (Nat.le_of_ble_eq_true rfl) rfl rfl (jz_ci ?_)
    refine jm_Q.mono h (jp_i_mono (fun r7 J5 K6 h => ?_))
    obtain ⟨o8, h⟩ := h
    refine jw_if_ne rfl o8 (fun c9 => ?_) (fun c9 => ?_)
    · replace h := h.1 c9
      refine jw_iinc (ls' := [some (.ref 167), some (.int (Int32.ofInt v1)), some (.int (Int32.ofInt v2)), some (.int (Int32.ofInt (v3 + 1)))]) rfl rfl rfl ?_
      refine jw_goto rfl ?_
      exact jz_fg (l := [some (.ref 167), some (.int (Int32.ofInt v1)), some (.int (Int32.ofInt v2)), some (.int (Int32.ofInt (v3 + 1)))]) ⟨rfl, rfl, rfl, rfl, trivial⟩ h
    · replace h := h.2 c9
      refine jw_iconst rfl ?_
      refine jw_zret rfl (by omega) ?_
      exact h
set_option maxHeartbeats 4000000 in
theorem e_266 {xs : Nat → Int32} {L d : Nat} {v1 : Int} {v2 : Int} {J K : jZ} {P : Int → jZ → jZ → Prop} (h : (-2147483648 ≤ v1 ∧ v1 < 2147483648) ∧ (-2147483648 ≤ ((J 167 10) - 1) ∧ ((J 167 10) - 1) < 2147483648) ∧ (((0 : Int) ≤ v1 ∧ v1 < (J 167 10)) → (-2147483648 ≤ v2 ∧ v2 < 2147483648) ∧ ((0 ≤ v2 ∧ v2 ≤ 2) → q_181 xs L (d + 2) J K (fun J6 K7 => ((0 : Int) ≤ v1 ∧ v1 < 27) ∧ l_266_44 xs L (d + 2) v1 v2 (J6 195 v1.toNat) 0 0 J6 K7 P)) ∧ (¬ (0 ≤ v2 ∧ v2 ≤ 2) → q_170 xs L (d + 2) (-2) J K (fun r11 J9 K10 => P r11 J9 K10))) ∧ (¬ ((0 : Int) ≤ v1 ∧ v1 < (J 167 10)) → q_170 xs L (d + 2) (-2) J K (fun r14 J12 K13 => P r14 J12 K13))) : q_266 xs L (d + 3) v1 v2 J K P := by
  unfold q_266
  refine jq_in (ls := [some (.ref 167), some (.int (Int32.ofInt v1)), some (.int (Int32.ofInt v2)), none, none, none, none, none]) rfl (Nat.le_of_ble_eq_true rfl) rfl ?_
  refine jw_aload_n rfl rfl ?_
  refine jw_iload_n rfl rfl ?_
  refine jw_virt (k := 1) (c := 19) (as := [.int (Int32.ofInt v1)]) rfl rfl rfl (Nat.le_of_ble_eq_true rfl) rfl (Nat.le_of_ble_eq_true rfl) rfl rfl (jz_ci ?_)
  obtain ⟨o1, h⟩ := h
  obtain ⟨o2, h⟩ := h
  refine sb_178 o1 o2 (fun c3 => ?_) (fun c3 => ?_)
  · replace h := h.1 c3
    refine jw_if_eq rfl (by omega) (fun hc => by exfalso; omega) (fun _ => ?_)
    refine jw_iload_n rfl rfl ?_
    obtain ⟨o4, h⟩ := h
    refine jw_i2l rfl o4 ?_
    refine jw_lconst (x := 0) rfl rfl ?_
    refine jw_ldc2_w rfl ?_
    refine jw_stat (k := 3) (as := [.long (Int64.ofInt v2), .long (Int64.ofInt 0), .long (Int64.ofInt 2)]) rfl (by decide) rfl rfl (Nat.le_of_ble_eq_true rfl) rfl (Nat.le_of_ble_eq_true rfl) (jz_ci ?_)
    refine sb_169 (by omega) (by omega) (by omega) (fun c5 => ?_) (fun c5 => ?_)
    · replace h := h.1 c5
      refine jw_if_ne rfl (by omega) (fun _ => ?_) (fun hc => by exfalso; omega)
      refine jw_aload_n rfl rfl ?_
      refine jw_virt (k := 0) (c := 19) (as := []) rfl rfl rfl (Nat.le_of_ble_eq_true rfl) rfl (Nat.le_of_ble_eq_true rfl) rfl rfl (jz_cv ?_)
      refine jm_Q.mono h (jp_v_mono (fun J6 K7 h => ?_))
      refine jw_aload_n rfl rfl ?_
      refine jw_gr (q := 195) rfl rfl rfl ?_
      refine jw_iload_n rfl rfl ?_
      obtain ⟨o8, h⟩ := h
      refine jw_iald (v := (J6 195 v1.toNat)) (N := 27) rfl rfl rfl (by omega) o8 rfl ?_
      refine jw_istore_n (ls' := [some (.ref 167), some (.int (Int32.ofInt v1)), some (.int (Int32.ofInt v2)), some (.int (Int32.ofInt (J6 195 v1.toNat))), none, none, none, none]) rfl rfl ?_
      refine jw_iconst rfl ?_
      refine jw_istore (ls' := [some (.ref 167), some (.int (Int32.ofInt v1)), some (.int (Int32.ofInt v2)), some (.int (Int32.ofInt (J6 195 v1.toNat))), some (.int (Int32.ofInt 0)), none, none, none]) rfl rfl ?_
      refine jw_iconst rfl ?_
      refine jw_istore (ls' := [some (.ref 167), some (.int (Int32.ofInt v1)), some (.int (Int32.ofInt v2)), some (.int (Int32.ofInt (J6 195 v1.toNat))), some (.int (Int32.ofInt 0)), some (.int (Int32.ofInt 0)), none, none]) rfl rfl ?_
      exact jz_fg (l := [some (.ref 167), some (.int (Int32.ofInt v1)), some (.int (Int32.ofInt v2)), some (.int (Int32.ofInt (J6 195 v1.toNat))), some (.int (Int32.ofInt 0)), some (.int (Int32.ofInt 0)), none, none]) ⟨rfl, rfl, rfl, rfl, rfl, rfl, jz_n0, jz_n0, trivial⟩ h
    · replace h := h.2 c5
      refine jw_if_ne rfl (by omega) (fun hc => by exfalso; omega) (fun _ => ?_)
      refine jw_aload_n rfl rfl ?_
      refine jw_bipush rfl (by decide) ?_
      refine jw_virt (k := 1) (c := 19) (as := [.int (Int32.ofInt (-2))]) rfl rfl rfl (Nat.le_of_ble_eq_true rfl) rfl (Nat.le_of_ble_eq_true rfl) rfl rfl (jz_ci ?_)
      refine jm_Q.mono h (jp_i_mono (fun r11 J9 K10 h => ?_))
      refine jw_iret rfl ?_
      exact h
  · replace h := h.2 c3
    refine jw_if_eq rfl (by omega) (fun _ => ?_) (fun hc => by exfalso; omega)
    refine jw_aload_n rfl rfl ?_
    refine jw_bipush rfl (by decide) ?_
    refine jw_virt (k := 1) (c := 19) (as := [.int (Int32.ofInt (-2))]) rfl rfl rfl (Nat.le_of_ble_eq_true rfl) rfl (Nat.le_of_ble_eq_true rfl) rfl rfl (jz_ci ?_)
    refine jm_Q.mono h (jp_i_mono (fun r14 J12 K13 h => ?_))
    refine jw_iret rfl ?_
    exact h
set_option maxHeartbeats 4000000 in
theorem e_266_44 {xs : Nat → Int32} {L d : Nat} {v1 : Int} {v2 : Int} {v3 : Int} {v4 : Int} {v5 : Int} {J K : jZ} {P : Int → jZ → jZ → Prop} (h : (-2147483648 ≤ v5 ∧ v5 < 2147483648) ∧ (16 ≤ v5 → q_182 xs L (d + 2) (jm_up J 167 37 (-1)) K (fun J3 K4 => P v4 J3 K4)) ∧ (v5 < 16 → q_182 xs L (d + 2) (jm_up J 167 37 v5) K (fun J5 K6 => ((0 : Int) ≤ v1 ∧ v1 < 27) ∧ (-2147483648 ≤ v2 ∧ v2 < 2147483648) ∧ (¬ v2 = 0 → (¬ v2 = 1 → (-2147483648 ≤ J5 195 v1.toNat ∧ J5 195 v1.toNat < 2147483648) ∧ (-2147483648 ≤ v3 ∧ v3 < 2147483648) ∧ (v3 ≤ (J5 195 v1.toNat) → l_266_118 xs L (d + 2) v1 v2 v3 v4 v5 0 J5 K6 P) ∧ ((J5 195 v1.toNat) < v3 → l_266_118 xs L (d + 2) v1 v2 v3 v4 v5 1 J5 K6 P)) ∧ (v2 = 1 → (-2147483648 ≤ J5 195 v1.toNat ∧ J5 195 v1.toNat < 2147483648) ∧ (-2147483648 ≤ v3 ∧ v3 < 2147483648) ∧ ((J5 195 v1.toNat) ≤ v3 → l_266_118 xs L (d + 2) v1 v2 v3 v4 v5 0 J5 K6 P) ∧ (v3 < (J5 195 v1.toNat) → l_266_118 xs L (d + 2) v1 v2 v3 v4 v5 1 J5 K6 P))) ∧ (v2 = 0 → (-2147483648 ≤ J5 195 v1.toNat ∧ J5 195 v1.toNat < 2147483648) ∧ (¬ (J5 195 v1.toNat) = 0 → l_266_118 xs L (d + 2) v1 v2 v3 v4 v5 0 J5 K6 P) ∧ ((J5 195 v1.toNat) = 0 → l_266_118 xs L (d + 2) v1 v2 v3 v4 v5 1 J5 K6 P))))) : l_266_44 xs L (d + 2) v1 v2 v3 v4 v5 J K P := by
  unfold l_266_44
  refine jw_iload rfl rfl ?_
  refine jw_bipush rfl (by decide) ?_
  obtain ⟨o1, h⟩ := h
  refine jw_ic_ge rfl o1 (by omega) (fun c2 => ?_) (fun c2 => ?_)
  · replace h := h.1 c2
    refine jw_aload_n rfl rfl ?_
    refine jw_iconst rfl ?_
    refine jw_pf rfl rfl ?_
    refine jw_aload_n rfl rfl ?_
    refine jw_virt (k := 0) (c := 19) (as := []) rfl rfl rfl (Nat.le_of_ble_eq_true rfl) rfl (Nat.le_of_ble_eq_true rfl) rfl rfl (jz_cv ?_)
    refine jm_Q.mono h (jp_v_mono (fun J3 K4 h => ?_))
    refine jw_iload rfl rfl ?_
    refine jw_iret rfl ?_
    exact h
  · replace h := h.2 c2
    refine jw_aload_n rfl rfl ?_
    refine jw_iload rfl rfl ?_
    refine jw_pf rfl rfl ?_
    refine jw_aload_n rfl rfl ?_
    refine jw_virt (k := 0) (c := 19) (as := []) rfl rfl rfl (Nat.le_of_ble_eq_true rfl) rfl (Nat.le_of_ble_eq_true rfl) rfl rfl (jz_cv ?_)
    refine jm_Q.mono h (jp_v_mono (fun J5 K6 h => ?_))
    refine jw_aload_n rfl rfl ?_
    refine jw_gr (q := 195) rfl rfl rfl ?_
    refine jw_iload_n rfl rfl ?_
    obtain ⟨o7, h⟩ := h
    refine jw_iald (v := (J5 195 v1.toNat)) (N := 27) rfl rfl rfl (by omega) o7 rfl ?_
    refine jw_istore (ls' := [some (.ref 167), some (.int (Int32.ofInt v1)), some (.int (Int32.ofInt v2)), some (.int (Int32.ofInt v3)), some (.int (Int32.ofInt v4)), some (.int (Int32.ofInt v5)), some (.int (Int32.ofInt (J5 195 v1.toNat))), none]) rfl rfl ?_
    refine jw_iload_n rfl rfl ?_
    obtain ⟨o8, h⟩ := h
    refine jw_if_ne rfl o8 (fun c9 => ?_) (fun c9 => ?_)
    · replace h := h.1 c9
      refine jw_iload_n rfl rfl ?_
      refine jw_iconst rfl ?_
      refine jw_ic_ne rfl o8 (by omega) (fun c10 => ?_) (fun c10 => ?_)
      · replace h := h.1 c10
        refine jw_iload rfl rfl ?_
        refine jw_iload_n rfl rfl ?_
        obtain ⟨o11, h⟩ := h
        obtain ⟨o12, h⟩ := h
        refine jw_ic_ge rfl o11 o12 (fun c13 => ?_) (fun c13 => ?_)
        · replace h := h.1 c13
          refine jw_iconst rfl ?_
          refine jw_istore (ls' := [some (.ref 167), some (.int (Int32.ofInt v1)), some (.int (Int32.ofInt v2)), some (.int (Int32.ofInt v3)), some (.int (Int32.ofInt v4)), some (.int (Int32.ofInt v5)), some (.int (Int32.ofInt (J5 195 v1.toNat))), some (.int (Int32.ofInt 0))]) rfl rfl ?_
          exact jz_fg (l := [some (.ref 167), some (.int (Int32.ofInt v1)), some (.int (Int32.ofInt v2)), some (.int (Int32.ofInt v3)), some (.int (Int32.ofInt v4)), some (.int (Int32.ofInt v5)), none, some (.int (Int32.ofInt 0))]) ⟨rfl, rfl, rfl, rfl, rfl, rfl, jz_ni, rfl, trivial⟩ h
        · replace h := h.2 c13
          refine jw_iconst rfl ?_
          refine jw_goto rfl ?_
          refine jw_istore (ls' := [some (.ref 167), some (.int (Int32.ofInt v1)), some (.int (Int32.ofInt v2)), some (.int (Int32.ofInt v3)), some (.int (Int32.ofInt v4)), some (.int (Int32.ofInt v5)), some (.int (Int32.ofInt (J5 195 v1.toNat))), some (.int (Int32.ofInt 1))]) rfl rfl ?_
          exact jz_fg (l := [some (.ref 167), some (.int (Int32.ofInt v1)), some (.int (Int32.ofInt v2)), some (.int (Int32.ofInt v3)), some (.int (Int32.ofInt v4)), some (.int (Int32.ofInt v5)), none, some (.int (Int32.ofInt 1))]) ⟨rfl, rfl, rfl, rfl, rfl, rfl, jz_ni, rfl, trivial⟩ h
      · replace h := h.2 c10
        refine jw_iload rfl rfl ?_
        refine jw_iload_n rfl rfl ?_
        obtain ⟨o14, h⟩ := h
        obtain ⟨o15, h⟩ := h
        refine jw_ic_le rfl o14 o15 (fun c16 => ?_) (fun c16 => ?_)
        · replace h := h.1 c16
          refine jw_iconst rfl ?_
          refine jw_goto rfl ?_
          refine jw_istore (ls' := [some (.ref 167), some (.int (Int32.ofInt v1)), some (.int (Int32.ofInt v2)), some (.int (Int32.ofInt v3)), some (.int (Int32.ofInt v4)), some (.int (Int32.ofInt v5)), some (.int (Int32.ofInt (J5 195 v1.toNat))), some (.int (Int32.ofInt 0))]) rfl rfl ?_
          exact jz_fg (l := [some (.ref 167), some (.int (Int32.ofInt v1)), some (.int (Int32.ofInt v2)), some (.int (Int32.ofInt v3)), some (.int (Int32.ofInt v4)), some (.int (Int32.ofInt v5)), none, some (.int (Int32.ofInt 0))]) ⟨rfl, rfl, rfl, rfl, rfl, rfl, jz_ni, rfl, trivial⟩ h
        · replace h := h.2 c16
          refine jw_iconst rfl ?_
          refine jw_goto rfl ?_
          refine jw_istore (ls' := [some (.ref 167), some (.int (Int32.ofInt v1)), some (.int (Int32.ofInt v2)), some (.int (Int32.ofInt v3)), some (.int (Int32.ofInt v4)), some (.int (Int32.ofInt v5)), some (.int (Int32.ofInt (J5 195 v1.toNat))), some (.int (Int32.ofInt 1))]) rfl rfl ?_
          exact jz_fg (l := [some (.ref 167), some (.int (Int32.ofInt v1)), some (.int (Int32.ofInt v2)), some (.int (Int32.ofInt v3)), some (.int (Int32.ofInt v4)), some (.int (Int32.ofInt v5)), none, some (.int (Int32.ofInt 1))]) ⟨rfl, rfl, rfl, rfl, rfl, rfl, jz_ni, rfl, trivial⟩ h
    · replace h := h.2 c9
      refine jw_iload rfl rfl ?_
      obtain ⟨o17, h⟩ := h
      refine jw_if_ne rfl o17 (fun c18 => ?_) (fun c18 => ?_)
      · replace h := h.1 c18
        refine jw_iconst rfl ?_
        refine jw_goto rfl ?_
        refine jw_istore (ls' := [some (.ref 167), some (.int (Int32.ofInt v1)), some (.int (Int32.ofInt v2)), some (.int (Int32.ofInt v3)), some (.int (Int32.ofInt v4)), some (.int (Int32.ofInt v5)), some (.int (Int32.ofInt (J5 195 v1.toNat))), some (.int (Int32.ofInt 0))]) rfl rfl ?_
        exact jz_fg (l := [some (.ref 167), some (.int (Int32.ofInt v1)), some (.int (Int32.ofInt v2)), some (.int (Int32.ofInt v3)), some (.int (Int32.ofInt v4)), some (.int (Int32.ofInt v5)), none, some (.int (Int32.ofInt 0))]) ⟨rfl, rfl, rfl, rfl, rfl, rfl, jz_ni, rfl, trivial⟩ h
      · replace h := h.2 c18
        refine jw_iconst rfl ?_
        refine jw_goto rfl ?_
        refine jw_istore (ls' := [some (.ref 167), some (.int (Int32.ofInt v1)), some (.int (Int32.ofInt v2)), some (.int (Int32.ofInt v3)), some (.int (Int32.ofInt v4)), some (.int (Int32.ofInt v5)), some (.int (Int32.ofInt (J5 195 v1.toNat))), some (.int (Int32.ofInt 1))]) rfl rfl ?_
        exact jz_fg (l := [some (.ref 167), some (.int (Int32.ofInt v1)), some (.int (Int32.ofInt v2)), some (.int (Int32.ofInt v3)), some (.int (Int32.ofInt v4)), some (.int (Int32.ofInt v5)), none, some (.int (Int32.ofInt 1))]) ⟨rfl, rfl, rfl, rfl, rfl, rfl, jz_ni, rfl, trivial⟩ h
set_option maxHeartbeats 4000000 in
theorem e_266_118 {xs : Nat → Int32} {L d : Nat} {v1 : Int} {v2 : Int} {v3 : Int} {v4 : Int} {v5 : Int} {v7 : Int} {J K : jZ} {P : Int → jZ → jZ → Prop} (h : (-2147483648 ≤ v7 ∧ v7 < 2147483648) ∧ (v7 = 0 → l_266_44 xs L (d + 2) v1 v2 v3 (jz_or v4 0) (v5 + 1) J K P) ∧ (¬ v7 = 0 → l_266_44 xs L (d + 2) v1 v2 v3 (jz_or v4 (jz_shl 1 v5)) (v5 + 1) J K P)) : l_266_118 xs L (d + 2) v1 v2 v3 v4 v5 v7 J K P := by
  unfold l_266_118
  refine jw_iload rfl rfl ?_
  refine jw_iload rfl rfl ?_
  obtain ⟨o1, h⟩ := h
  refine jw_if_eq rfl o1 (fun c2 => ?_) (fun c2 => ?_)
  · replace h := h.1 c2
    refine jw_iconst rfl ?_
    refine jw_ior rfl ?_
    refine jw_istore (ls' := [some (.ref 167), some (.int (Int32.ofInt v1)), some (.int (Int32.ofInt v2)), some (.int (Int32.ofInt v3)), some (.int (Int32.ofInt (jz_or v4 0))), some (.int (Int32.ofInt v5)), none, some (.int (Int32.ofInt v7))]) rfl rfl ?_
    refine jw_iinc (ls' := [some (.ref 167), some (.int (Int32.ofInt v1)), some (.int (Int32.ofInt v2)), some (.int (Int32.ofInt v3)), some (.int (Int32.ofInt (jz_or v4 0))), some (.int (Int32.ofInt (v5 + 1))), none, some (.int (Int32.ofInt v7))]) rfl rfl rfl ?_
    refine jw_goto rfl ?_
    exact jz_fg (l := [some (.ref 167), some (.int (Int32.ofInt v1)), some (.int (Int32.ofInt v2)), some (.int (Int32.ofInt v3)), some (.int (Int32.ofInt (jz_or v4 0))), some (.int (Int32.ofInt (v5 + 1))), none, none]) ⟨rfl, rfl, rfl, rfl, rfl, rfl, jz_n0, jz_ni, trivial⟩ h
  · replace h := h.2 c2
    refine jw_iconst rfl ?_
    refine jw_iload rfl rfl ?_
    refine jw_ishl rfl ?_
    refine jw_goto rfl ?_
    refine jw_ior rfl ?_
    refine jw_istore (ls' := [some (.ref 167), some (.int (Int32.ofInt v1)), some (.int (Int32.ofInt v2)), some (.int (Int32.ofInt v3)), some (.int (Int32.ofInt (jz_or v4 (jz_shl 1 v5)))), some (.int (Int32.ofInt v5)), none, some (.int (Int32.ofInt v7))]) rfl rfl ?_
    refine jw_iinc (ls' := [some (.ref 167), some (.int (Int32.ofInt v1)), some (.int (Int32.ofInt v2)), some (.int (Int32.ofInt v3)), some (.int (Int32.ofInt (jz_or v4 (jz_shl 1 v5)))), some (.int (Int32.ofInt (v5 + 1))), none, some (.int (Int32.ofInt v7))]) rfl rfl rfl ?_
    refine jw_goto rfl ?_
    exact jz_fg (l := [some (.ref 167), some (.int (Int32.ofInt v1)), some (.int (Int32.ofInt v2)), some (.int (Int32.ofInt v3)), some (.int (Int32.ofInt (jz_or v4 (jz_shl 1 v5)))), some (.int (Int32.ofInt (v5 + 1))), none, none]) ⟨rfl, rfl, rfl, rfl, rfl, rfl, jz_n0, jz_ni, trivial⟩ h
set_option maxHeartbeats 4000000 in
theorem e_267 {xs : Nat → Int32} {L d : Nat} {v1 : Int} {v2 : Int} {v3 : Int} {J K : jZ} {P : Int → jZ → jZ → Prop} (h : (-2147483648 ≤ v1 ∧ v1 < 2147483648) ∧ (-2147483648 ≤ ((J 167 10) - 1) ∧ ((J 167 10) - 1) < 2147483648) ∧ (((0 : Int) ≤ v1 ∧ v1 < (J 167 10)) → (-2147483648 ≤ v2 ∧ v2 < 2147483648) ∧ (-2147483648 ≤ ((J 167 9) - 1) ∧ ((J 167 9) - 1) < 2147483648) ∧ (((0 : Int) ≤ v2 ∧ v2 < (J 167 9)) → (-2147483648 ≤ v3 ∧ v3 < 2147483648) ∧ ((0 ≤ v3 ∧ v3 ≤ 15) → q_268 xs L (d + 2) v1 v2 v3 J K (fun r11 J9 K10 => P r11 J9 K10)) ∧ (¬ (0 ≤ v3 ∧ v3 ≤ 15) → q_170 xs L (d + 2) (-2) J K (fun r14 J12 K13 => P r14 J12 K13))) ∧ (¬ ((0 : Int) ≤ v2 ∧ v2 < (J 167 9)) → q_170 xs L (d + 2) (-2) J K (fun r17 J15 K16 => P r17 J15 K16))) ∧ (¬ ((0 : Int) ≤ v1 ∧ v1 < (J 167 10)) → q_170 xs L (d + 2) (-2) J K (fun r20 J18 K19 => P r20 J18 K19))) : q_267 xs L (d + 3) v1 v2 v3 J K P := by
  unfold q_267
  refine jq_in (ls := [some (.ref 167), some (.int (Int32.ofInt v1)), some (.int (Int32.ofInt v2)), some (.int (Int32.ofInt v3))]) rfl (Nat.le_of_ble_eq_true rfl) rfl ?_
  refine jw_aload_n rfl rfl ?_
  refine jw_iload_n rfl rfl ?_
  refine jw_virt (k := 1) (c := 19) (as := [.int (Int32.ofInt v1)]) rfl rfl rfl (Nat.le_of_ble_eq_true rfl) rfl (Nat.le_of_ble_eq_true rfl) rfl rfl (jz_ci ?_)
  obtain ⟨o1, h⟩ := h
  obtain ⟨o2, h⟩ := h
  refine sb_178 o1 o2 (fun c3 => ?_) (fun c3 => ?_)
  · replace h := h.1 c3
    refine jw_if_eq rfl (by omega) (fun hc => by exfalso; omega) (fun _ => ?_)
    refine jw_aload_n rfl rfl ?_
    refine jw_iload_n rfl rfl ?_
    refine jw_virt (k := 1) (c := 19) (as := [.int (Int32.ofInt v2)]) rfl rfl rfl (Nat.le_of_ble_eq_true rfl) rfl (Nat.le_of_ble_eq_true rfl) rfl rfl (jz_ci ?_)
    obtain ⟨o4, h⟩ := h
    obtain ⟨o5, h⟩ := h
    refine sb_204 o4 o5 (fun c6 => ?_) (fun c6 => ?_)
    · replace h := h.1 c6
      refine jw_if_eq rfl (by omega) (fun hc => by exfalso; omega) (fun _ => ?_)
      refine jw_iload_n rfl rfl ?_
      obtain ⟨o7, h⟩ := h
      refine jw_i2l rfl o7 ?_
      refine jw_lconst (x := 0) rfl rfl ?_
      refine jw_ldc2_w rfl ?_
      refine jw_stat (k := 3) (as := [.long (Int64.ofInt v3), .long (Int64.ofInt 0), .long (Int64.ofInt 15)]) rfl (by decide) rfl rfl (Nat.le_of_ble_eq_true rfl) rfl (Nat.le_of_ble_eq_true rfl) (jz_ci ?_)
      refine sb_169 (by omega) (by omega) (by omega) (fun c8 => ?_) (fun c8 => ?_)
      · replace h := h.1 c8
        refine jw_if_eq rfl (by omega) (fun hc => by exfalso; omega) (fun _ => ?_)
        refine jw_aload_n rfl rfl ?_
        refine jw_iload_n rfl rfl ?_
        refine jw_iload_n rfl rfl ?_
        refine jw_iload_n rfl rfl ?_
        refine jw_virt (k := 3) (c := 19) (as := [.int (Int32.ofInt v1), .int (Int32.ofInt v2), .int (Int32.ofInt v3)]) rfl rfl rfl (Nat.le_of_ble_eq_true rfl) rfl (Nat.le_of_ble_eq_true rfl) rfl rfl (jz_ci ?_)
        refine jm_Q.mono h (jp_i_mono (fun r11 J9 K10 h => ?_))
        refine jw_goto rfl ?_
        refine jw_iret rfl ?_
        exact h
      · replace h := h.2 c8
        refine jw_if_eq rfl (by omega) (fun _ => ?_) (fun hc => by exfalso; omega)
        refine jw_aload_n rfl rfl ?_
        refine jw_bipush rfl (by decide) ?_
        refine jw_virt (k := 1) (c := 19) (as := [.int (Int32.ofInt (-2))]) rfl rfl rfl (Nat.le_of_ble_eq_true rfl) rfl (Nat.le_of_ble_eq_true rfl) rfl rfl (jz_ci ?_)
        refine jm_Q.mono h (jp_i_mono (fun r14 J12 K13 h => ?_))
        refine jw_iret rfl ?_
        exact h
    · replace h := h.2 c6
      refine jw_if_eq rfl (by omega) (fun _ => ?_) (fun hc => by exfalso; omega)
      refine jw_aload_n rfl rfl ?_
      refine jw_bipush rfl (by decide) ?_
      refine jw_virt (k := 1) (c := 19) (as := [.int (Int32.ofInt (-2))]) rfl rfl rfl (Nat.le_of_ble_eq_true rfl) rfl (Nat.le_of_ble_eq_true rfl) rfl rfl (jz_ci ?_)
      refine jm_Q.mono h (jp_i_mono (fun r17 J15 K16 h => ?_))
      refine jw_iret rfl ?_
      exact h
  · replace h := h.2 c3
    refine jw_if_eq rfl (by omega) (fun _ => ?_) (fun hc => by exfalso; omega)
    refine jw_aload_n rfl rfl ?_
    refine jw_bipush rfl (by decide) ?_
    refine jw_virt (k := 1) (c := 19) (as := [.int (Int32.ofInt (-2))]) rfl rfl rfl (Nat.le_of_ble_eq_true rfl) rfl (Nat.le_of_ble_eq_true rfl) rfl rfl (jz_ci ?_)
    refine jm_Q.mono h (jp_i_mono (fun r20 J18 K19 h => ?_))
    refine jw_iret rfl ?_
    exact h
set_option maxHeartbeats 4000000 in
theorem e_268 {xs : Nat → Int32} {L d : Nat} {v1 : Int} {v2 : Int} {v3 : Int} {J K : jZ} {P : Int → jZ → jZ → Prop} (h : ((0 : Int) ≤ v2 ∧ v2 < 60) ∧ q_182 xs L d (jm_up J 184 v2.toNat v3) K (fun J2 K3 => ((0 : Int) ≤ v1 ∧ v1 < 27) ∧ P (J2 195 v1.toNat) (jm_up (jm_up J2 184 v2.toNat (J 184 v2.toNat)) 167 26 0) K3)) : q_268 xs L (d + 1) v1 v2 v3 J K P := by
  unfold q_268
  refine jq_in (ls := [some (.ref 167), some (.int (Int32.ofInt v1)), some (.int (Int32.ofInt v2)), some (.int (Int32.ofInt v3)), none]) rfl (Nat.le_of_ble_eq_true rfl) rfl ?_
  refine jw_aload_n rfl rfl ?_
  refine jw_gr (q := 184) rfl rfl rfl ?_
  refine jw_iload_n rfl rfl ?_
  obtain ⟨o1, h⟩ := h
  refine jw_iald (v := (J 184 v2.toNat)) (N := 60) rfl rfl rfl (by omega) o1 rfl ?_
  refine jw_istore (ls' := [some (.ref 167), some (.int (Int32.ofInt v1)), some (.int (Int32.ofInt v2)), some (.int (Int32.ofInt v3)), some (.int (Int32.ofInt (J 184 v2.toNat)))]) rfl rfl ?_
  refine jw_aload_n rfl rfl ?_
  refine jw_gr (q := 184) rfl rfl rfl ?_
  refine jw_iload_n rfl rfl ?_
  refine jw_iload_n rfl rfl ?_
  refine jw_iast (N := 60) rfl rfl rfl (by omega) o1 ?_
  refine jw_aload_n rfl rfl ?_
  refine jw_virt (k := 0) (c := 19) (as := []) rfl rfl rfl (Nat.le_of_ble_eq_true rfl) rfl (Nat.le_of_ble_eq_true rfl) rfl rfl (jz_cv ?_)
  refine jm_Q.mono h (jp_v_mono (fun J2 K3 h => ?_))
  refine jw_aload_n rfl rfl ?_
  refine jw_gr (q := 184) rfl rfl rfl ?_
  refine jw_iload_n rfl rfl ?_
  refine jw_iload rfl rfl ?_
  refine jw_iast (N := 60) rfl rfl rfl (by omega) o1 ?_
  refine jw_aload_n rfl rfl ?_
  refine jw_iconst rfl ?_
  refine jw_pfz rfl rfl (by omega) ?_
  refine jw_aload_n rfl rfl ?_
  refine jw_gr (q := 195) rfl rfl rfl ?_
  refine jw_iload_n rfl rfl ?_
  obtain ⟨o4, h⟩ := h
  refine jw_iald (v := (J2 195 v1.toNat)) (N := 27) rfl rfl rfl (by omega) o4 (by simp [jm_up]) ?_
  refine jw_iret rfl ?_
  exact h
set_option maxHeartbeats 4000000 in
theorem e_269 {xs : Nat → Int32} {L d : Nat} {v1 : Int} {v2 : Int} {J K : jZ} {P : Int → jZ → jZ → Prop} (h : (-2147483648 ≤ v1 ∧ v1 < 2147483648) ∧ (-2147483648 ≤ ((J 167 10) - 1) ∧ ((J 167 10) - 1) < 2147483648) ∧ (((0 : Int) ≤ v1 ∧ v1 < (J 167 10)) → (-2147483648 ≤ v2 ∧ v2 < 2147483648) ∧ (-2147483648 ≤ ((J 167 9) - 1) ∧ ((J 167 9) - 1) < 2147483648) ∧ (((0 : Int) ≤ v2 ∧ v2 < (J 167 9)) → l_269_31 xs L (d + 2) v1 v2 (-1) (-1) 0 J K P) ∧ (¬ ((0 : Int) ≤ v2 ∧ v2 < (J 167 9)) → q_170 xs L (d + 2) (-2) J K (fun r9 J7 K8 => P r9 J7 K8))) ∧ (¬ ((0 : Int) ≤ v1 ∧ v1 < (J 167 10)) → q_170 xs L (d + 2) (-2) J K (fun r12 J10 K11 => P r12 J10 K11))) : q_269 xs L (d + 3) v1 v2 J K P := by
  unfold q_269
  refine jq_in (ls := [some (.ref 167), some (.int (Int32.ofInt v1)), some (.int (Int32.ofInt v2)), none, none, none, none]) rfl (Nat.le_of_ble_eq_true rfl) rfl ?_
  refine jw_aload_n rfl rfl ?_
  refine jw_iload_n rfl rfl ?_
  refine jw_virt (k := 1) (c := 19) (as := [.int (Int32.ofInt v1)]) rfl rfl rfl (Nat.le_of_ble_eq_true rfl) rfl (Nat.le_of_ble_eq_true rfl) rfl rfl (jz_ci ?_)
  obtain ⟨o1, h⟩ := h
  obtain ⟨o2, h⟩ := h
  refine sb_178 o1 o2 (fun c3 => ?_) (fun c3 => ?_)
  · replace h := h.1 c3
    refine jw_if_eq rfl (by omega) (fun hc => by exfalso; omega) (fun _ => ?_)
    refine jw_aload_n rfl rfl ?_
    refine jw_iload_n rfl rfl ?_
    refine jw_virt (k := 1) (c := 19) (as := [.int (Int32.ofInt v2)]) rfl rfl rfl (Nat.le_of_ble_eq_true rfl) rfl (Nat.le_of_ble_eq_true rfl) rfl rfl (jz_ci ?_)
    obtain ⟨o4, h⟩ := h
    obtain ⟨o5, h⟩ := h
    refine sb_204 o4 o5 (fun c6 => ?_) (fun c6 => ?_)
    · replace h := h.1 c6
      refine jw_if_ne rfl (by omega) (fun _ => ?_) (fun hc => by exfalso; omega)
      refine jw_iconst rfl ?_
      refine jw_istore_n (ls' := [some (.ref 167), some (.int (Int32.ofInt v1)), some (.int (Int32.ofInt v2)), some (.int (Int32.ofInt (-1))), none, none, none]) rfl rfl ?_
      refine jw_iconst rfl ?_
      refine jw_istore (ls' := [some (.ref 167), some (.int (Int32.ofInt v1)), some (.int (Int32.ofInt v2)), some (.int (Int32.ofInt (-1))), some (.int (Int32.ofInt (-1))), none, none]) rfl rfl ?_
      refine jw_iconst rfl ?_
      refine jw_istore (ls' := [some (.ref 167), some (.int (Int32.ofInt v1)), some (.int (Int32.ofInt v2)), some (.int (Int32.ofInt (-1))), some (.int (Int32.ofInt (-1))), some (.int (Int32.ofInt 0)), none]) rfl rfl ?_
      exact jz_fg (l := [some (.ref 167), some (.int (Int32.ofInt v1)), some (.int (Int32.ofInt v2)), some (.int (Int32.ofInt (-1))), some (.int (Int32.ofInt (-1))), some (.int (Int32.ofInt 0)), none]) ⟨rfl, rfl, rfl, rfl, rfl, rfl, jz_n0, trivial⟩ h
    · replace h := h.2 c6
      refine jw_if_ne rfl (by omega) (fun hc => by exfalso; omega) (fun _ => ?_)
      refine jw_aload_n rfl rfl ?_
      refine jw_bipush rfl (by decide) ?_
      refine jw_virt (k := 1) (c := 19) (as := [.int (Int32.ofInt (-2))]) rfl rfl rfl (Nat.le_of_ble_eq_true rfl) rfl (Nat.le_of_ble_eq_true rfl) rfl rfl (jz_ci ?_)
      refine jm_Q.mono h (jp_i_mono (fun r9 J7 K8 h => ?_))
      refine jw_iret rfl ?_
      exact h
  · replace h := h.2 c3
    refine jw_if_eq rfl (by omega) (fun _ => ?_) (fun hc => by exfalso; omega)
    refine jw_aload_n rfl rfl ?_
    refine jw_bipush rfl (by decide) ?_
    refine jw_virt (k := 1) (c := 19) (as := [.int (Int32.ofInt (-2))]) rfl rfl rfl (Nat.le_of_ble_eq_true rfl) rfl (Nat.le_of_ble_eq_true rfl) rfl rfl (jz_ci ?_)
    refine jm_Q.mono h (jp_i_mono (fun r12 J10 K11 h => ?_))
    refine jw_iret rfl ?_
    exact h
set_option maxHeartbeats 4000000 in
theorem e_269_31 {xs : Nat → Int32} {L d : Nat} {v1 : Int} {v2 : Int} {v3 : Int} {v4 : Int} {v5 : Int} {J K : jZ} {P : Int → jZ → jZ → Prop} (h : (-2147483648 ≤ v5 ∧ v5 < 2147483648) ∧ (16 ≤ v5 → P v3 J K) ∧ (v5 < 16 → q_268 xs L (d + 2) v1 v2 v5 J K (fun r5 J3 K4 => (-2147483648 ≤ r5 ∧ r5 < 2147483648) ∧ (-2147483648 ≤ v4 ∧ v4 < 2147483648) ∧ (r5 ≤ v4 → l_269_31 xs L (d + 2) v1 v2 v3 v4 (v5 + 1) J3 K4 P) ∧ (v4 < r5 → l_269_31 xs L (d + 2) v1 v2 v5 r5 (v5 + 1) J3 K4 P)))) : l_269_31 xs L (d + 2) v1 v2 v3 v4 v5 J K P := by
  unfold l_269_31
  refine jw_iload rfl rfl ?_
  refine jw_bipush rfl (by decide) ?_
  obtain ⟨o1, h⟩ := h
  refine jw_ic_ge rfl o1 (by omega) (fun c2 => ?_) (fun c2 => ?_)
  · replace h := h.1 c2
    refine jw_iload_n rfl rfl ?_
    refine jw_iret rfl ?_
    exact h
  · replace h := h.2 c2
    refine jw_aload_n rfl rfl ?_
    refine jw_iload_n rfl rfl ?_
    refine jw_iload_n rfl rfl ?_
    refine jw_iload rfl rfl ?_
    refine jw_virt (k := 3) (c := 19) (as := [.int (Int32.ofInt v1), .int (Int32.ofInt v2), .int (Int32.ofInt v5)]) rfl rfl rfl (Nat.le_of_ble_eq_true rfl) rfl (Nat.le_of_ble_eq_true rfl) rfl rfl (jz_ci ?_)
    refine jm_Q.mono h (jp_i_mono (fun r5 J3 K4 h => ?_))
    refine jw_istore (ls' := [some (.ref 167), some (.int (Int32.ofInt v1)), some (.int (Int32.ofInt v2)), some (.int (Int32.ofInt v3)), some (.int (Int32.ofInt v4)), some (.int (Int32.ofInt v5)), some (.int (Int32.ofInt r5))]) rfl rfl ?_
    refine jw_iload rfl rfl ?_
    refine jw_iload rfl rfl ?_
    obtain ⟨o6, h⟩ := h
    obtain ⟨o7, h⟩ := h
    refine jw_ic_le rfl o6 o7 (fun c8 => ?_) (fun c8 => ?_)
    · replace h := h.1 c8
      refine jw_iload_n rfl rfl ?_
      refine jw_istore_n (ls' := [some (.ref 167), some (.int (Int32.ofInt v1)), some (.int (Int32.ofInt v2)), some (.int (Int32.ofInt v3)), some (.int (Int32.ofInt v4)), some (.int (Int32.ofInt v5)), some (.int (Int32.ofInt r5))]) rfl rfl ?_
      refine jw_iload rfl rfl ?_
      refine jw_iload rfl rfl ?_
      refine jw_ic_le rfl o6 o7 (fun _ => ?_) (fun hc => by exfalso; omega)
      refine jw_iload rfl rfl ?_
      refine jw_istore (ls' := [some (.ref 167), some (.int (Int32.ofInt v1)), some (.int (Int32.ofInt v2)), some (.int (Int32.ofInt v3)), some (.int (Int32.ofInt v4)), some (.int (Int32.ofInt v5)), some (.int (Int32.ofInt r5))]) rfl rfl ?_
      refine jw_iinc (ls' := [some (.ref 167), some (.int (Int32.ofInt v1)), some (.int (Int32.ofInt v2)), some (.int (Int32.ofInt v3)), some (.int (Int32.ofInt v4)), some (.int (Int32.ofInt (v5 + 1))), some (.int (Int32.ofInt r5))]) rfl rfl rfl ?_
      refine jw_goto rfl ?_
      exact jz_fg (l := [some (.ref 167), some (.int (Int32.ofInt v1)), some (.int (Int32.ofInt v2)), some (.int (Int32.ofInt v3)), some (.int (Int32.ofInt v4)), some (.int (Int32.ofInt (v5 + 1))), none]) ⟨rfl, rfl, rfl, rfl, rfl, rfl, jz_ni, trivial⟩ h
    · replace h := h.2 c8
      refine jw_iload rfl rfl ?_
      refine jw_goto rfl ?_
      refine jw_istore_n (ls' := [some (.ref 167), some (.int (Int32.ofInt v1)), some (.int (Int32.ofInt v2)), some (.int (Int32.ofInt v5)), some (.int (Int32.ofInt v4)), some (.int (Int32.ofInt v5)), some (.int (Int32.ofInt r5))]) rfl rfl ?_
      refine jw_iload rfl rfl ?_
      refine jw_iload rfl rfl ?_
      refine jw_ic_le rfl o6 o7 (fun hc => by exfalso; omega) (fun _ => ?_)
      refine jw_iload rfl rfl ?_
      refine jw_goto rfl ?_
      refine jw_istore (ls' := [some (.ref 167), some (.int (Int32.ofInt v1)), some (.int (Int32.ofInt v2)), some (.int (Int32.ofInt v5)), some (.int (Int32.ofInt r5)), some (.int (Int32.ofInt v5)), some (.int (Int32.ofInt r5))]) rfl rfl ?_
      refine jw_iinc (ls' := [some (.ref 167), some (.int (Int32.ofInt v1)), some (.int (Int32.ofInt v2)), some (.int (Int32.ofInt v5)), some (.int (Int32.ofInt r5)), some (.int (Int32.ofInt (v5 + 1))), some (.int (Int32.ofInt r5))]) rfl rfl rfl ?_
      refine jw_goto rfl ?_
      exact jz_fg (l := [some (.ref 167), some (.int (Int32.ofInt v1)), some (.int (Int32.ofInt v2)), some (.int (Int32.ofInt v5)), some (.int (Int32.ofInt r5)), some (.int (Int32.ofInt (v5 + 1))), none]) ⟨rfl, rfl, rfl, rfl, rfl, rfl, jz_ni, trivial⟩ h
set_option maxHeartbeats 4000000 in
theorem e_270 {xs : Nat → Int32} {L d : Nat} {v1 : Int} {v2 : Int} {v3 : Int} {v4 : Int} {J K : jZ} {P : Int → jZ → jZ → Prop} (h : (-2147483648 ≤ v1 ∧ v1 < 2147483648) ∧ (-2147483648 ≤ ((J 167 10) - 1) ∧ ((J 167 10) - 1) < 2147483648) ∧ (((0 : Int) ≤ v1 ∧ v1 < (J 167 10)) → (-2147483648 ≤ v2 ∧ v2 < 2147483648) ∧ (((0 : Int) ≤ v2 ∧ v2 < (J 167 10)) → (-2147483648 ≤ v3 ∧ v3 < 2147483648) ∧ ((0 ≤ v3 ∧ v3 ≤ 7) → (-2147483648 ≤ v4 ∧ v4 < 2147483648) ∧ ((0 ≤ v4 ∧ v4 ≤ 20) → q_229 xs L (d + 2) v3 (2 * v4) J K (fun r12 J10 K11 => (-2147483648 ≤ r12 ∧ r12 < 2147483648) ∧ (r12 = 0 → q_181 xs L (d + 2) J10 K11 (fun J15 K16 => l_270_77 xs L (d + 2) v1 v2 v3 v4 0 2 J15 K16 P)) ∧ (¬ r12 = 0 → P r12 J10 K11))) ∧ (¬ (0 ≤ v4 ∧ v4 ≤ 20) → q_170 xs L (d + 2) (-2) J K (fun r19 J17 K18 => P r19 J17 K18))) ∧ (¬ (0 ≤ v3 ∧ v3 ≤ 7) → q_170 xs L (d + 2) (-2) J K (fun r22 J20 K21 => P r22 J20 K21))) ∧ (¬ ((0 : Int) ≤ v2 ∧ v2 < (J 167 10)) → q_170 xs L (d + 2) (-2) J K (fun r25 J23 K24 => P r25 J23 K24))) ∧ (¬ ((0 : Int) ≤ v1 ∧ v1 < (J 167 10)) → q_170 xs L (d + 2) (-2) J K (fun r28 J26 K27 => P r28 J26 K27))) : q_270 xs L (d + 3) v1 v2 v3 v4 J K P := by
  unfold q_270
  refine jq_in (ls := [some (.ref 167), some (.int (Int32.ofInt v1)), some (.int (Int32.ofInt v2)), some (.int (Int32.ofInt v3)), some (.int (Int32.ofInt v4)), none, none, none]) rfl (Nat.le_of_ble_eq_true rfl) rfl ?_
  refine jw_aload_n rfl rfl ?_
  refine jw_iload_n rfl rfl ?_
  refine jw_virt (k := 1) (c := 19) (as := [.int (Int32.ofInt v1)]) rfl rfl rfl (Nat.le_of_ble_eq_true rfl) rfl (Nat.le_of_ble_eq_true rfl) rfl rfl (jz_ci ?_)
  obtain ⟨o1, h⟩ := h
  obtain ⟨o2, h⟩ := h
  refine sb_178 o1 o2 (fun c3 => ?_) (fun c3 => ?_)
  · replace h := h.1 c3
    refine jw_if_eq rfl (by omega) (fun hc => by exfalso; omega) (fun _ => ?_)
    refine jw_aload_n rfl rfl ?_
    refine jw_iload_n rfl rfl ?_
    refine jw_virt (k := 1) (c := 19) (as := [.int (Int32.ofInt v2)]) rfl rfl rfl (Nat.le_of_ble_eq_true rfl) rfl (Nat.le_of_ble_eq_true rfl) rfl rfl (jz_ci ?_)
    obtain ⟨o4, h⟩ := h
    refine sb_178 o4 o2 (fun c5 => ?_) (fun c5 => ?_)
    · replace h := h.1 c5
      refine jw_if_eq rfl (by omega) (fun hc => by exfalso; omega) (fun _ => ?_)
      refine jw_iload_n rfl rfl ?_
      obtain ⟨o6, h⟩ := h
      refine jw_i2l rfl o6 ?_
      refine jw_lconst (x := 0) rfl rfl ?_
      refine jw_ldc2_w rfl ?_
      refine jw_stat (k := 3) (as := [.long (Int64.ofInt v3), .long (Int64.ofInt 0), .long (Int64.ofInt 7)]) rfl (by decide) rfl rfl (Nat.le_of_ble_eq_true rfl) rfl (Nat.le_of_ble_eq_true rfl) (jz_ci ?_)
      refine sb_169 (by omega) (by omega) (by omega) (fun c7 => ?_) (fun c7 => ?_)
      · replace h := h.1 c7
        refine jw_if_eq rfl (by omega) (fun hc => by exfalso; omega) (fun _ => ?_)
        refine jw_iload rfl rfl ?_
        obtain ⟨o8, h⟩ := h
        refine jw_i2l rfl o8 ?_
        refine jw_lconst (x := 0) rfl rfl ?_
        refine jw_ldc2_w rfl ?_
        refine jw_stat (k := 3) (as := [.long (Int64.ofInt v4), .long (Int64.ofInt 0), .long (Int64.ofInt 20)]) rfl (by decide) rfl rfl (Nat.le_of_ble_eq_true rfl) rfl (Nat.le_of_ble_eq_true rfl) (jz_ci ?_)
        refine sb_169 (by omega) (by omega) (by omega) (fun c9 => ?_) (fun c9 => ?_)
        · replace h := h.1 c9
          refine jw_if_ne rfl (by omega) (fun _ => ?_) (fun hc => by exfalso; omega)
          refine jw_aload_n rfl rfl ?_
          refine jw_iload_n rfl rfl ?_
          refine jw_iconst rfl ?_
          refine jw_iload rfl rfl ?_
          refine jw_imul rfl ?_
          refine jw_virt (k := 2) (c := 19) (as := [.int (Int32.ofInt v3), .int (Int32.ofInt (2 * v4))]) rfl rfl rfl (Nat.le_of_ble_eq_true rfl) rfl (Nat.le_of_ble_eq_true rfl) rfl rfl (jz_ci ?_)
          refine jm_Q.mono h (jp_i_mono (fun r12 J10 K11 h => ?_))
          refine jw_istore (ls' := [some (.ref 167), some (.int (Int32.ofInt v1)), some (.int (Int32.ofInt v2)), some (.int (Int32.ofInt v3)), some (.int (Int32.ofInt v4)), some (.int (Int32.ofInt r12)), none, none]) rfl rfl ?_
          refine jw_iload rfl rfl ?_
          obtain ⟨o13, h⟩ := h
          refine jw_if_eq rfl o13 (fun c14 => ?_) (fun c14 => ?_)
          · replace h := h.1 c14
            refine jw_aload_n rfl rfl ?_
            refine jw_virt (k := 0) (c := 19) (as := []) rfl rfl rfl (Nat.le_of_ble_eq_true rfl) rfl (Nat.le_of_ble_eq_true rfl) rfl rfl (jz_cv ?_)
            refine jm_Q.mono h (jp_v_mono (fun J15 K16 h => ?_))
            refine jw_iconst rfl ?_
            refine jw_istore (ls' := [some (.ref 167), some (.int (Int32.ofInt v1)), some (.int (Int32.ofInt v2)), some (.int (Int32.ofInt v3)), some (.int (Int32.ofInt v4)), some (.int (Int32.ofInt r12)), some (.int (Int32.ofInt 0)), none]) rfl rfl ?_
            refine jw_iconst rfl ?_
            refine jw_istore (ls' := [some (.ref 167), some (.int (Int32.ofInt v1)), some (.int (Int32.ofInt v2)), some (.int (Int32.ofInt v3)), some (.int (Int32.ofInt v4)), some (.int (Int32.ofInt r12)), some (.int (Int32.ofInt 0)), some (.int (Int32.ofInt 2))]) rfl rfl ?_
            exact jz_fg (l := [some (.ref 167), some (.int (Int32.ofInt v1)), some (.int (Int32.ofInt v2)), some (.int (Int32.ofInt v3)), some (.int (Int32.ofInt v4)), none, some (.int (Int32.ofInt 0)), some (.int (Int32.ofInt 2))]) ⟨rfl, rfl, rfl, rfl, rfl, jz_ni, rfl, rfl, trivial⟩ h
          · replace h := h.2 c14
            refine jw_iload rfl rfl ?_
            refine jw_iret rfl ?_
            exact h
        · replace h := h.2 c9
          refine jw_if_ne rfl (by omega) (fun hc => by exfalso; omega) (fun _ => ?_)
          refine jw_aload_n rfl rfl ?_
          refine jw_bipush rfl (by decide) ?_
          refine jw_virt (k := 1) (c := 19) (as := [.int (Int32.ofInt (-2))]) rfl rfl rfl (Nat.le_of_ble_eq_true rfl) rfl (Nat.le_of_ble_eq_true rfl) rfl rfl (jz_ci ?_)
          refine jm_Q.mono h (jp_i_mono (fun r19 J17 K18 h => ?_))
          refine jw_iret rfl ?_
          exact h
      · replace h := h.2 c7
        refine jw_if_eq rfl (by omega) (fun _ => ?_) (fun hc => by exfalso; omega)
        refine jw_aload_n rfl rfl ?_
        refine jw_bipush rfl (by decide) ?_
        refine jw_virt (k := 1) (c := 19) (as := [.int (Int32.ofInt (-2))]) rfl rfl rfl (Nat.le_of_ble_eq_true rfl) rfl (Nat.le_of_ble_eq_true rfl) rfl rfl (jz_ci ?_)
        refine jm_Q.mono h (jp_i_mono (fun r22 J20 K21 h => ?_))
        refine jw_iret rfl ?_
        exact h
    · replace h := h.2 c5
      refine jw_if_eq rfl (by omega) (fun _ => ?_) (fun hc => by exfalso; omega)
      refine jw_aload_n rfl rfl ?_
      refine jw_bipush rfl (by decide) ?_
      refine jw_virt (k := 1) (c := 19) (as := [.int (Int32.ofInt (-2))]) rfl rfl rfl (Nat.le_of_ble_eq_true rfl) rfl (Nat.le_of_ble_eq_true rfl) rfl rfl (jz_ci ?_)
      refine jm_Q.mono h (jp_i_mono (fun r25 J23 K24 h => ?_))
      refine jw_iret rfl ?_
      exact h
  · replace h := h.2 c3
    refine jw_if_eq rfl (by omega) (fun _ => ?_) (fun hc => by exfalso; omega)
    refine jw_aload_n rfl rfl ?_
    refine jw_bipush rfl (by decide) ?_
    refine jw_virt (k := 1) (c := 19) (as := [.int (Int32.ofInt (-2))]) rfl rfl rfl (Nat.le_of_ble_eq_true rfl) rfl (Nat.le_of_ble_eq_true rfl) rfl rfl (jz_ci ?_)
    refine jm_Q.mono h (jp_i_mono (fun r28 J26 K27 h => ?_))
    refine jw_iret rfl ?_
    exact h
set_option maxHeartbeats 4000000 in
theorem e_270_77 {xs : Nat → Int32} {L d : Nat} {v1 : Int} {v2 : Int} {v3 : Int} {v4 : Int} {v6 : Int} {v7 : Int} {J K : jZ} {P : Int → jZ → jZ → Prop} (h : (-2147483648 ≤ v7 ∧ v7 < 2147483648) ∧ (8 < v7 → P v6 J K) ∧ (v7 ≤ 8 → q_194 xs L (d + 2) 24 v7 v1 v2 J K (fun J3 K4 => q_271 xs L (d + 2) 24 v3 v4 J3 K4 (fun r7 J5 K6 => (-2147483648 ≤ r7 ∧ r7 < 2147483648) ∧ (¬ r7 = (-1) → l_270_77 xs L (d + 2) v1 v2 v3 v4 (jz_or v6 0) (v7 + 1) J5 K6 P) ∧ (r7 = (-1) → l_270_77 xs L (d + 2) v1 v2 v3 v4 (jz_or v6 (jz_shl 1 v7)) (v7 + 1) J5 K6 P))))) : l_270_77 xs L (d + 2) v1 v2 v3 v4 v6 v7 J K P := by
  unfold l_270_77
  refine jw_iload rfl rfl ?_
  refine jw_bipush rfl (by decide) ?_
  obtain ⟨o1, h⟩ := h
  refine jw_ic_gt rfl o1 (by omega) (fun c2 => ?_) (fun c2 => ?_)
  · replace h := h.1 c2
    refine jw_iload rfl rfl ?_
    refine jw_iret rfl ?_
    exact h
  · replace h := h.2 c2
    refine jw_aload_n rfl rfl ?_
    refine jw_bipush rfl (by decide) ?_
    refine jw_iload rfl rfl ?_
    refine jw_iload_n rfl rfl ?_
    refine jw_iload_n rfl rfl ?_
    refine jw_virt (k := 4) (c := 19) (as := [.int (Int32.ofInt 24), .int (Int32.ofInt v7), .int (Int32.ofInt v1), .int (Int32.ofInt v2)]) rfl rfl rfl (Nat.le_of_ble_eq_true rfl) rfl (Nat.le_of_ble_eq_true rfl) rfl rfl (jz_cv ?_)
    refine jm_Q.mono h (jp_v_mono (fun J3 K4 h => ?_))
    refine jw_iload rfl rfl ?_
    refine jw_aload_n rfl rfl ?_
    refine jw_bipush rfl (by decide) ?_
    refine jw_iload_n rfl rfl ?_
    refine jw_iload rfl rfl ?_
    refine jw_virt (k := 3) (c := 19) (as := [.int (Int32.ofInt 24), .int (Int32.ofInt v3), .int (Int32.ofInt v4)]) rfl rfl rfl (Nat.le_of_ble_eq_true rfl) rfl (Nat.le_of_ble_eq_true rfl) rfl rfl (jz_ci ?_)
    refine jm_Q.mono h (jp_i_mono (fun r7 J5 K6 h => ?_))
    refine jw_iconst rfl ?_
    obtain ⟨o8, h⟩ := h
    refine jw_ic_ne rfl o8 (by omega) (fun c9 => ?_) (fun c9 => ?_)
    · replace h := h.1 c9
      refine jw_iconst rfl ?_
      refine jw_ior rfl ?_
      refine jw_istore (ls' := [some (.ref 167), some (.int (Int32.ofInt v1)), some (.int (Int32.ofInt v2)), some (.int (Int32.ofInt v3)), some (.int (Int32.ofInt v4)), none, some (.int (Int32.ofInt (jz_or v6 0))), some (.int (Int32.ofInt v7))]) rfl rfl ?_
      refine jw_iinc (ls' := [some (.ref 167), some (.int (Int32.ofInt v1)), some (.int (Int32.ofInt v2)), some (.int (Int32.ofInt v3)), some (.int (Int32.ofInt v4)), none, some (.int (Int32.ofInt (jz_or v6 0))), some (.int (Int32.ofInt (v7 + 1)))]) rfl rfl rfl ?_
      refine jw_goto rfl ?_
      exact jz_fg (l := [some (.ref 167), some (.int (Int32.ofInt v1)), some (.int (Int32.ofInt v2)), some (.int (Int32.ofInt v3)), some (.int (Int32.ofInt v4)), none, some (.int (Int32.ofInt (jz_or v6 0))), some (.int (Int32.ofInt (v7 + 1)))]) ⟨rfl, rfl, rfl, rfl, rfl, jz_n0, rfl, rfl, trivial⟩ h
    · replace h := h.2 c9
      refine jw_iconst rfl ?_
      refine jw_iload rfl rfl ?_
      refine jw_ishl rfl ?_
      refine jw_goto rfl ?_
      refine jw_ior rfl ?_
      refine jw_istore (ls' := [some (.ref 167), some (.int (Int32.ofInt v1)), some (.int (Int32.ofInt v2)), some (.int (Int32.ofInt v3)), some (.int (Int32.ofInt v4)), none, some (.int (Int32.ofInt (jz_or v6 (jz_shl 1 v7)))), some (.int (Int32.ofInt v7))]) rfl rfl ?_
      refine jw_iinc (ls' := [some (.ref 167), some (.int (Int32.ofInt v1)), some (.int (Int32.ofInt v2)), some (.int (Int32.ofInt v3)), some (.int (Int32.ofInt v4)), none, some (.int (Int32.ofInt (jz_or v6 (jz_shl 1 v7)))), some (.int (Int32.ofInt (v7 + 1)))]) rfl rfl rfl ?_
      refine jw_goto rfl ?_
      exact jz_fg (l := [some (.ref 167), some (.int (Int32.ofInt v1)), some (.int (Int32.ofInt v2)), some (.int (Int32.ofInt v3)), some (.int (Int32.ofInt v4)), none, some (.int (Int32.ofInt (jz_or v6 (jz_shl 1 v7)))), some (.int (Int32.ofInt (v7 + 1)))]) ⟨rfl, rfl, rfl, rfl, rfl, jz_n0, rfl, rfl, trivial⟩ h
set_option maxHeartbeats 4000000 in
theorem e_271 {xs : Nat → Int32} {L d : Nat} {v1 : Int} {v2 : Int} {v3 : Int} {J K : jZ} {P : Int → jZ → jZ → Prop} (h : l_271_3 xs L (d + 1) v1 v2 v3 0 J K P) : q_271 xs L (d + 2) v1 v2 v3 J K P := by
  unfold q_271
  refine jq_in (ls := [some (.ref 167), some (.int (Int32.ofInt v1)), some (.int (Int32.ofInt v2)), some (.int (Int32.ofInt v3)), none]) rfl (Nat.le_of_ble_eq_true rfl) rfl ?_
  refine jw_iconst rfl ?_
  refine jw_istore (ls' := [some (.ref 167), some (.int (Int32.ofInt v1)), some (.int (Int32.ofInt v2)), some (.int (Int32.ofInt v3)), some (.int (Int32.ofInt 0))]) rfl rfl ?_
  exact jz_fg (l := [some (.ref 167), some (.int (Int32.ofInt v1)), some (.int (Int32.ofInt v2)), some (.int (Int32.ofInt v3)), some (.int (Int32.ofInt 0))]) ⟨rfl, rfl, rfl, rfl, rfl, trivial⟩ h
set_option maxHeartbeats 4000000 in
theorem e_271_3 {xs : Nat → Int32} {L d : Nat} {v1 : Int} {v2 : Int} {v3 : Int} {v4 : Int} {J K : jZ} {P : Int → jZ → jZ → Prop} (h : (-2147483648 ≤ v4 ∧ v4 < 2147483648) ∧ (-2147483648 ≤ v3 ∧ v3 < 2147483648) ∧ (v3 ≤ v4 → ((0 : Int) ≤ v1 ∧ v1 < 27) ∧ (-2147483648 ≤ J 195 v1.toNat ∧ J 195 v1.toNat < 2147483648) ∧ ((J 195 v1.toNat) ≤ v3 → P (-1) J K) ∧ (v3 < (J 195 v1.toNat) → P v3 J K)) ∧ (v4 < v3 → ((0 : Int) ≤ v1 ∧ v1 < 27) ∧ (-2147483648 ≤ J 195 v1.toNat ∧ J 195 v1.toNat < 2147483648) ∧ ((J 195 v1.toNat) ≤ v4 → P v4 J K) ∧ (v4 < (J 195 v1.toNat) → ((0 : Int) ≤ v2 ∧ v2 < 8) ∧ ((0 : Int) ≤ (2 * v4) ∧ (2 * v4) < 40) ∧ ((0 : Int) ≤ ((v1 * 60) + v4) ∧ ((v1 * 60) + v4) < 1620) ∧ (-2147483648 ≤ J 196 ((v1 * 60) + v4).toNat ∧ J 196 ((v1 * 60) + v4).toNat < 2147483648) ∧ (-9223372036854775808 ≤ K (172 + v2.toNat) (2 * v4).toNat ∧ K (172 + v2.toNat) (2 * v4).toNat < 9223372036854775808) ∧ (¬ (K (172 + v2.toNat) (2 * v4).toNat) = (J 196 ((v1 * 60) + v4).toNat) → P v4 J K) ∧ ((K (172 + v2.toNat) (2 * v4).toNat) = (J 196 ((v1 * 60) + v4).toNat) → ((0 : Int) ≤ ((2 * v4) + 1) ∧ ((2 * v4) + 1) < 40) ∧ (-2147483648 ≤ J 197 ((v1 * 60) + v4).toNat ∧ J 197 ((v1 * 60) + v4).toNat < 2147483648) ∧ (-9223372036854775808 ≤ K (172 + v2.toNat) ((2 * v4) + 1).toNat ∧ K (172 + v2.toNat) ((2 * v4) + 1).toNat < 9223372036854775808) ∧ ((K (172 + v2.toNat) ((2 * v4) + 1).toNat) = (J 197 ((v1 * 60) + v4).toNat) → l_271_3 xs L (d + 1) v1 v2 v3 (v4 + 1) J K P) ∧ (¬ (K (172 + v2.toNat) ((2 * v4) + 1).toNat) = (J 197 ((v1 * 60) + v4).toNat) → P v4 J K))))) : l_271_3 xs L (d + 1) v1 v2 v3 v4 J K P := by
  unfold l_271_3
  refine jw_iload rfl rfl ?_
  refine jw_iload_n rfl rfl ?_
  obtain ⟨o1, h⟩ := h
  obtain ⟨o2, h⟩ := h
  refine jw_ic_ge rfl o1 o2 (fun c3 => ?_) (fun c3 => ?_)
  · replace h := h.1 c3
    refine jw_aload_n rfl rfl ?_
    refine jw_gr (q := 195) rfl rfl rfl ?_
    refine jw_iload_n rfl rfl ?_
    obtain ⟨o4, h⟩ := h
    refine jw_iald (v := (J 195 v1.toNat)) (N := 27) rfl rfl rfl (by omega) o4 rfl ?_
    refine jw_iload_n rfl rfl ?_
    obtain ⟨o5, h⟩ := h
    refine jw_ic_le rfl o5 o2 (fun c6 => ?_) (fun c6 => ?_)
    · replace h := h.1 c6
      refine jw_iconst rfl ?_
      refine jw_iret rfl ?_
      exact h
    · replace h := h.2 c6
      refine jw_iload_n rfl rfl ?_
      refine jw_goto rfl ?_
      refine jw_iret rfl ?_
      exact h
  · replace h := h.2 c3
    refine jw_iload rfl rfl ?_
    refine jw_aload_n rfl rfl ?_
    refine jw_gr (q := 195) rfl rfl rfl ?_
    refine jw_iload_n rfl rfl ?_
    obtain ⟨o7, h⟩ := h
    refine jw_iald (v := (J 195 v1.toNat)) (N := 27) rfl rfl rfl (by omega) o7 rfl ?_
    obtain ⟨o8, h⟩ := h
    refine jw_ic_ge rfl o1 o8 (fun c9 => ?_) (fun c9 => ?_)
    · replace h := h.1 c9
      refine jw_iload rfl rfl ?_
      refine jw_iret rfl ?_
      exact h
    · replace h := h.2 c9
      refine jw_aload_n rfl rfl ?_
      refine jw_gr (q := 171) rfl rfl rfl ?_
      refine jw_iload_n rfl rfl ?_
      obtain ⟨o10, h⟩ := h
      refine jw_aald (k := 5) (q := (172 + v2.toNat)) (N := 8) rfl rfl (by omega) rfl (by omega) o10 (jzr_171 o10) ?_
      refine jw_iconst rfl ?_
      refine jw_iload rfl rfl ?_
      refine jw_imul rfl ?_
      obtain ⟨o11, h⟩ := h
      refine jw_lald (v := (K (172 + v2.toNat) (2 * v4).toNat)) (N := 40) rfl (jze_171 o10) (jzl_171 o10) (by omega) o11 rfl ?_
      refine jw_aload_n rfl rfl ?_
      refine jw_iload_n rfl rfl ?_
      refine jw_iload rfl rfl ?_
      refine jw_virt (k := 2) (c := 19) (as := [.int (Int32.ofInt v1), .int (Int32.ofInt v4)]) rfl rfl rfl (Nat.le_of_ble_eq_true rfl) rfl (Nat.le_of_ble_eq_true rfl) rfl rfl (jz_ci ?_)
      refine jq_in (ls := [some (.ref 167), some (.int (Int32.ofInt v1)), some (.int (Int32.ofInt v4))]) rfl (Nat.le_of_ble_eq_true rfl) rfl ?_
      refine jw_aload_n rfl rfl ?_
      refine jw_gr (q := 196) rfl rfl rfl ?_
      refine jw_iload_n rfl rfl ?_
      refine jw_bipush rfl (by decide) ?_
      refine jw_imul rfl ?_
      refine jw_iload_n rfl rfl ?_
      refine jw_iadd rfl ?_
      obtain ⟨o12, h⟩ := h
      refine jw_iald (v := (J 196 ((v1 * 60) + v4).toNat)) (N := 1620) rfl rfl rfl (by omega) o12 rfl ?_
      refine jw_iret rfl ?_
      obtain ⟨o13, h⟩ := h
      refine jw_i2l rfl o13 ?_
      obtain ⟨o14, h⟩ := h
      refine jw_lc_ne rfl rfl o14 (by omega) (fun c15 => ?_) (fun c15 => ?_)
      · replace h := h.1 c15
        refine jw_iload rfl rfl ?_
        refine jw_iret rfl ?_
        exact h
      · replace h := h.2 c15
        refine jw_aload_n rfl rfl ?_
        refine jw_gr (q := 171) rfl rfl rfl ?_
        refine jw_iload_n rfl rfl ?_
        refine jw_aald (k := 5) (q := (172 + v2.toNat)) (N := 8) rfl rfl (by omega) rfl (by omega) o10 (jzr_171 o10) ?_
        refine jw_iconst rfl ?_
        refine jw_iload rfl rfl ?_
        refine jw_imul rfl ?_
        refine jw_iconst rfl ?_
        refine jw_iadd rfl ?_
        obtain ⟨o16, h⟩ := h
        refine jw_lald (v := (K (172 + v2.toNat) ((2 * v4) + 1).toNat)) (N := 40) rfl (jze_171 o10) (jzl_171 o10) (by omega) o16 rfl ?_
        refine jw_aload_n rfl rfl ?_
        refine jw_iload_n rfl rfl ?_
        refine jw_iload rfl rfl ?_
        refine jw_virt (k := 2) (c := 19) (as := [.int (Int32.ofInt v1), .int (Int32.ofInt v4)]) rfl rfl rfl (Nat.le_of_ble_eq_true rfl) rfl (Nat.le_of_ble_eq_true rfl) rfl rfl (jz_ci ?_)
        refine jq_in (ls := [some (.ref 167), some (.int (Int32.ofInt v1)), some (.int (Int32.ofInt v4))]) rfl (Nat.le_of_ble_eq_true rfl) rfl ?_
        refine jw_aload_n rfl rfl ?_
        refine jw_gr (q := 197) rfl rfl rfl ?_
        refine jw_iload_n rfl rfl ?_
        refine jw_bipush rfl (by decide) ?_
        refine jw_imul rfl ?_
        refine jw_iload_n rfl rfl ?_
        refine jw_iadd rfl ?_
        refine jw_iald (v := (J 197 ((v1 * 60) + v4).toNat)) (N := 1620) rfl rfl rfl (by omega) o12 rfl ?_
        refine jw_iret rfl ?_
        obtain ⟨o17, h⟩ := h
        refine jw_i2l rfl o17 ?_
        obtain ⟨o18, h⟩ := h
        refine jw_lc_eq rfl rfl o18 (by omega) (fun c19 => ?_) (fun c19 => ?_)
        · replace h := h.1 c19
          refine jw_iinc (ls' := [some (.ref 167), some (.int (Int32.ofInt v1)), some (.int (Int32.ofInt v2)), some (.int (Int32.ofInt v3)), some (.int (Int32.ofInt (v4 + 1)))]) rfl rfl rfl ?_
          refine jw_goto rfl ?_
          exact jz_fg (l := [some (.ref 167), some (.int (Int32.ofInt v1)), some (.int (Int32.ofInt v2)), some (.int (Int32.ofInt v3)), some (.int (Int32.ofInt (v4 + 1)))]) ⟨rfl, rfl, rfl, rfl, rfl, trivial⟩ h
        · replace h := h.2 c19
          refine jw_iload rfl rfl ?_
          refine jw_iret rfl ?_
          exact h
set_option maxHeartbeats 4000000 in
theorem e_272 {xs : Nat → Int32} {L d : Nat} {v1 : Int} {v2 : Int} {v3 : Int} {J K : jZ} {P : Int → jZ → jZ → Prop} (h : (-2147483648 ≤ v1 ∧ v1 < 2147483648) ∧ (-2147483648 ≤ ((J 167 10) - 1) ∧ ((J 167 10) - 1) < 2147483648) ∧ (((0 : Int) ≤ v1 ∧ v1 < (J 167 10)) → (-2147483648 ≤ v2 ∧ v2 < 2147483648) ∧ ((0 ≤ v2 ∧ v2 ≤ 7) → (-2147483648 ≤ v3 ∧ v3 < 2147483648) ∧ ((0 ≤ v3 ∧ v3 ≤ 20) → q_229 xs L (d + 2) v2 (2 * v3) J K (fun r10 J8 K9 => (-2147483648 ≤ r10 ∧ r10 < 2147483648) ∧ (r10 = 0 → q_181 xs L (d + 2) J8 K9 (fun J13 K14 => q_271 xs L (d + 2) v1 v2 v3 J13 K14 (fun r17 J15 K16 => P r17 J15 K16))) ∧ (¬ r10 = 0 → P r10 J8 K9))) ∧ (¬ (0 ≤ v3 ∧ v3 ≤ 20) → q_170 xs L (d + 2) (-2) J K (fun r20 J18 K19 => P r20 J18 K19))) ∧ (¬ (0 ≤ v2 ∧ v2 ≤ 7) → q_170 xs L (d + 2) (-2) J K (fun r23 J21 K22 => P r23 J21 K22))) ∧ (¬ ((0 : Int) ≤ v1 ∧ v1 < (J 167 10)) → q_170 xs L (d + 2) (-2) J K (fun r26 J24 K25 => P r26 J24 K25))) : q_272 xs L (d + 3) v1 v2 v3 J K P := by
  unfold q_272
  refine jq_in (ls := [some (.ref 167), some (.int (Int32.ofInt v1)), some (.int (Int32.ofInt v2)), some (.int (Int32.ofInt v3)), none]) rfl (Nat.le_of_ble_eq_true rfl) rfl ?_
  refine jw_aload_n rfl rfl ?_
  refine jw_iload_n rfl rfl ?_
  refine jw_virt (k := 1) (c := 19) (as := [.int (Int32.ofInt v1)]) rfl rfl rfl (Nat.le_of_ble_eq_true rfl) rfl (Nat.le_of_ble_eq_true rfl) rfl rfl (jz_ci ?_)
  obtain ⟨o1, h⟩ := h
  obtain ⟨o2, h⟩ := h
  refine sb_178 o1 o2 (fun c3 => ?_) (fun c3 => ?_)
  · replace h := h.1 c3
    refine jw_if_eq rfl (by omega) (fun hc => by exfalso; omega) (fun _ => ?_)
    refine jw_iload_n rfl rfl ?_
    obtain ⟨o4, h⟩ := h
    refine jw_i2l rfl o4 ?_
    refine jw_lconst (x := 0) rfl rfl ?_
    refine jw_ldc2_w rfl ?_
    refine jw_stat (k := 3) (as := [.long (Int64.ofInt v2), .long (Int64.ofInt 0), .long (Int64.ofInt 7)]) rfl (by decide) rfl rfl (Nat.le_of_ble_eq_true rfl) rfl (Nat.le_of_ble_eq_true rfl) (jz_ci ?_)
    refine sb_169 (by omega) (by omega) (by omega) (fun c5 => ?_) (fun c5 => ?_)
    · replace h := h.1 c5
      refine jw_if_eq rfl (by omega) (fun hc => by exfalso; omega) (fun _ => ?_)
      refine jw_iload_n rfl rfl ?_
      obtain ⟨o6, h⟩ := h
      refine jw_i2l rfl o6 ?_
      refine jw_lconst (x := 0) rfl rfl ?_
      refine jw_ldc2_w rfl ?_
      refine jw_stat (k := 3) (as := [.long (Int64.ofInt v3), .long (Int64.ofInt 0), .long (Int64.ofInt 20)]) rfl (by decide) rfl rfl (Nat.le_of_ble_eq_true rfl) rfl (Nat.le_of_ble_eq_true rfl) (jz_ci ?_)
      refine sb_169 (by omega) (by omega) (by omega) (fun c7 => ?_) (fun c7 => ?_)
      · replace h := h.1 c7
        refine jw_if_ne rfl (by omega) (fun _ => ?_) (fun hc => by exfalso; omega)
        refine jw_aload_n rfl rfl ?_
        refine jw_iload_n rfl rfl ?_
        refine jw_iconst rfl ?_
        refine jw_iload_n rfl rfl ?_
        refine jw_imul rfl ?_
        refine jw_virt (k := 2) (c := 19) (as := [.int (Int32.ofInt v2), .int (Int32.ofInt (2 * v3))]) rfl rfl rfl (Nat.le_of_ble_eq_true rfl) rfl (Nat.le_of_ble_eq_true rfl) rfl rfl (jz_ci ?_)
        refine jm_Q.mono h (jp_i_mono (fun r10 J8 K9 h => ?_))
        refine jw_istore (ls' := [some (.ref 167), some (.int (Int32.ofInt v1)), some (.int (Int32.ofInt v2)), some (.int (Int32.ofInt v3)), some (.int (Int32.ofInt r10))]) rfl rfl ?_
        refine jw_iload rfl rfl ?_
        obtain ⟨o11, h⟩ := h
        refine jw_if_eq rfl o11 (fun c12 => ?_) (fun c12 => ?_)
        · replace h := h.1 c12
          refine jw_aload_n rfl rfl ?_
          refine jw_virt (k := 0) (c := 19) (as := []) rfl rfl rfl (Nat.le_of_ble_eq_true rfl) rfl (Nat.le_of_ble_eq_true rfl) rfl rfl (jz_cv ?_)
          refine jm_Q.mono h (jp_v_mono (fun J13 K14 h => ?_))
          refine jw_aload_n rfl rfl ?_
          refine jw_iload_n rfl rfl ?_
          refine jw_iload_n rfl rfl ?_
          refine jw_iload_n rfl rfl ?_
          refine jw_virt (k := 3) (c := 19) (as := [.int (Int32.ofInt v1), .int (Int32.ofInt v2), .int (Int32.ofInt v3)]) rfl rfl rfl (Nat.le_of_ble_eq_true rfl) rfl (Nat.le_of_ble_eq_true rfl) rfl rfl (jz_ci ?_)
          refine jm_Q.mono h (jp_i_mono (fun r17 J15 K16 h => ?_))
          refine jw_iret rfl ?_
          exact h
        · replace h := h.2 c12
          refine jw_iload rfl rfl ?_
          refine jw_iret rfl ?_
          exact h
      · replace h := h.2 c7
        refine jw_if_ne rfl (by omega) (fun hc => by exfalso; omega) (fun _ => ?_)
        refine jw_aload_n rfl rfl ?_
        refine jw_bipush rfl (by decide) ?_
        refine jw_virt (k := 1) (c := 19) (as := [.int (Int32.ofInt (-2))]) rfl rfl rfl (Nat.le_of_ble_eq_true rfl) rfl (Nat.le_of_ble_eq_true rfl) rfl rfl (jz_ci ?_)
        refine jm_Q.mono h (jp_i_mono (fun r20 J18 K19 h => ?_))
        refine jw_iret rfl ?_
        exact h
    · replace h := h.2 c5
      refine jw_if_eq rfl (by omega) (fun _ => ?_) (fun hc => by exfalso; omega)
      refine jw_aload_n rfl rfl ?_
      refine jw_bipush rfl (by decide) ?_
      refine jw_virt (k := 1) (c := 19) (as := [.int (Int32.ofInt (-2))]) rfl rfl rfl (Nat.le_of_ble_eq_true rfl) rfl (Nat.le_of_ble_eq_true rfl) rfl rfl (jz_ci ?_)
      refine jm_Q.mono h (jp_i_mono (fun r23 J21 K22 h => ?_))
      refine jw_iret rfl ?_
      exact h
  · replace h := h.2 c3
    refine jw_if_eq rfl (by omega) (fun _ => ?_) (fun hc => by exfalso; omega)
    refine jw_aload_n rfl rfl ?_
    refine jw_bipush rfl (by decide) ?_
    refine jw_virt (k := 1) (c := 19) (as := [.int (Int32.ofInt (-2))]) rfl rfl rfl (Nat.le_of_ble_eq_true rfl) rfl (Nat.le_of_ble_eq_true rfl) rfl rfl (jz_ci ?_)
    refine jm_Q.mono h (jp_i_mono (fun r26 J24 K25 h => ?_))
    refine jw_iret rfl ?_
    exact h
set_option maxHeartbeats 4000000 in
theorem e_273 {xs : Nat → Int32} {L d : Nat} {v1 : Int} {v2 : Int} {v3 : Int} {J K : jZ} {P : Int → jZ → jZ → Prop} (h : (-2147483648 ≤ v1 ∧ v1 < 2147483648) ∧ (-2147483648 ≤ ((J 167 10) - 1) ∧ ((J 167 10) - 1) < 2147483648) ∧ (((0 : Int) ≤ v1 ∧ v1 < (J 167 10)) → (-2147483648 ≤ v2 ∧ v2 < 2147483648) ∧ ((0 ≤ v2 ∧ v2 ≤ 7) → (-2147483648 ≤ v3 ∧ v3 < 2147483648) ∧ ((0 ≤ v3 ∧ v3 ≤ 40) → q_229 xs L (d + 2) v2 v3 J K (fun r10 J8 K9 => (-2147483648 ≤ r10 ∧ r10 < 2147483648) ∧ (r10 = 0 → q_181 xs L (d + 2) J8 K9 (fun J13 K14 => l_273_65 xs L (d + 2) v1 v2 v3 0 0 J13 K14 P)) ∧ (¬ r10 = 0 → P r10 J8 K9))) ∧ (¬ (0 ≤ v3 ∧ v3 ≤ 40) → q_170 xs L (d + 2) (-2) J K (fun r17 J15 K16 => P r17 J15 K16))) ∧ (¬ (0 ≤ v2 ∧ v2 ≤ 7) → q_170 xs L (d + 2) (-2) J K (fun r20 J18 K19 => P r20 J18 K19))) ∧ (¬ ((0 : Int) ≤ v1 ∧ v1 < (J 167 10)) → q_170 xs L (d + 2) (-2) J K (fun r23 J21 K22 => P r23 J21 K22))) : q_273 xs L (d + 3) v1 v2 v3 J K P := by
  unfold q_273
  refine jq_in (ls := [some (.ref 167), some (.int (Int32.ofInt v1)), some (.int (Int32.ofInt v2)), some (.int (Int32.ofInt v3)), none, none, none]) rfl (Nat.le_of_ble_eq_true rfl) rfl ?_
  refine jw_aload_n rfl rfl ?_
  refine jw_iload_n rfl rfl ?_
  refine jw_virt (k := 1) (c := 19) (as := [.int (Int32.ofInt v1)]) rfl rfl rfl (Nat.le_of_ble_eq_true rfl) rfl (Nat.le_of_ble_eq_true rfl) rfl rfl (jz_ci ?_)
  obtain ⟨o1, h⟩ := h
  obtain ⟨o2, h⟩ := h
  refine sb_178 o1 o2 (fun c3 => ?_) (fun c3 => ?_)
  · replace h := h.1 c3
    refine jw_if_eq rfl (by omega) (fun hc => by exfalso; omega) (fun _ => ?_)
    refine jw_iload_n rfl rfl ?_
    obtain ⟨o4, h⟩ := h
    refine jw_i2l rfl o4 ?_
    refine jw_lconst (x := 0) rfl rfl ?_
    refine jw_ldc2_w rfl ?_
    refine jw_stat (k := 3) (as := [.long (Int64.ofInt v2), .long (Int64.ofInt 0), .long (Int64.ofInt 7)]) rfl (by decide) rfl rfl (Nat.le_of_ble_eq_true rfl) rfl (Nat.le_of_ble_eq_true rfl) (jz_ci ?_)
    refine sb_169 (by omega) (by omega) (by omega) (fun c5 => ?_) (fun c5 => ?_)
    · replace h := h.1 c5
      refine jw_if_eq rfl (by omega) (fun hc => by exfalso; omega) (fun _ => ?_)
      refine jw_iload_n rfl rfl ?_
      obtain ⟨o6, h⟩ := h
      refine jw_i2l rfl o6 ?_
      refine jw_lconst (x := 0) rfl rfl ?_
      refine jw_ldc2_w rfl ?_
      refine jw_stat (k := 3) (as := [.long (Int64.ofInt v3), .long (Int64.ofInt 0), .long (Int64.ofInt 40)]) rfl (by decide) rfl rfl (Nat.le_of_ble_eq_true rfl) rfl (Nat.le_of_ble_eq_true rfl) (jz_ci ?_)
      refine sb_169 (by omega) (by omega) (by omega) (fun c7 => ?_) (fun c7 => ?_)
      · replace h := h.1 c7
        refine jw_if_ne rfl (by omega) (fun _ => ?_) (fun hc => by exfalso; omega)
        refine jw_aload_n rfl rfl ?_
        refine jw_iload_n rfl rfl ?_
        refine jw_iload_n rfl rfl ?_
        refine jw_virt (k := 2) (c := 19) (as := [.int (Int32.ofInt v2), .int (Int32.ofInt v3)]) rfl rfl rfl (Nat.le_of_ble_eq_true rfl) rfl (Nat.le_of_ble_eq_true rfl) rfl rfl (jz_ci ?_)
        refine jm_Q.mono h (jp_i_mono (fun r10 J8 K9 h => ?_))
        refine jw_istore (ls' := [some (.ref 167), some (.int (Int32.ofInt v1)), some (.int (Int32.ofInt v2)), some (.int (Int32.ofInt v3)), some (.int (Int32.ofInt r10)), none, none]) rfl rfl ?_
        refine jw_iload rfl rfl ?_
        obtain ⟨o11, h⟩ := h
        refine jw_if_eq rfl o11 (fun c12 => ?_) (fun c12 => ?_)
        · replace h := h.1 c12
          refine jw_aload_n rfl rfl ?_
          refine jw_virt (k := 0) (c := 19) (as := []) rfl rfl rfl (Nat.le_of_ble_eq_true rfl) rfl (Nat.le_of_ble_eq_true rfl) rfl rfl (jz_cv ?_)
          refine jm_Q.mono h (jp_v_mono (fun J13 K14 h => ?_))
          refine jw_iconst rfl ?_
          refine jw_istore (ls' := [some (.ref 167), some (.int (Int32.ofInt v1)), some (.int (Int32.ofInt v2)), some (.int (Int32.ofInt v3)), some (.int (Int32.ofInt r10)), some (.int (Int32.ofInt 0)), none]) rfl rfl ?_
          refine jw_iconst rfl ?_
          refine jw_istore (ls' := [some (.ref 167), some (.int (Int32.ofInt v1)), some (.int (Int32.ofInt v2)), some (.int (Int32.ofInt v3)), some (.int (Int32.ofInt r10)), some (.int (Int32.ofInt 0)), some (.int (Int32.ofInt 0))]) rfl rfl ?_
          exact jz_fg (l := [some (.ref 167), some (.int (Int32.ofInt v1)), some (.int (Int32.ofInt v2)), some (.int (Int32.ofInt v3)), none, some (.int (Int32.ofInt 0)), some (.int (Int32.ofInt 0))]) ⟨rfl, rfl, rfl, rfl, jz_ni, rfl, rfl, trivial⟩ h
        · replace h := h.2 c12
          refine jw_iload rfl rfl ?_
          refine jw_iret rfl ?_
          exact h
      · replace h := h.2 c7
        refine jw_if_ne rfl (by omega) (fun hc => by exfalso; omega) (fun _ => ?_)
        refine jw_aload_n rfl rfl ?_
        refine jw_bipush rfl (by decide) ?_
        refine jw_virt (k := 1) (c := 19) (as := [.int (Int32.ofInt (-2))]) rfl rfl rfl (Nat.le_of_ble_eq_true rfl) rfl (Nat.le_of_ble_eq_true rfl) rfl rfl (jz_ci ?_)
        refine jm_Q.mono h (jp_i_mono (fun r17 J15 K16 h => ?_))
        refine jw_iret rfl ?_
        exact h
    · replace h := h.2 c5
      refine jw_if_eq rfl (by omega) (fun _ => ?_) (fun hc => by exfalso; omega)
      refine jw_aload_n rfl rfl ?_
      refine jw_bipush rfl (by decide) ?_
      refine jw_virt (k := 1) (c := 19) (as := [.int (Int32.ofInt (-2))]) rfl rfl rfl (Nat.le_of_ble_eq_true rfl) rfl (Nat.le_of_ble_eq_true rfl) rfl rfl (jz_ci ?_)
      refine jm_Q.mono h (jp_i_mono (fun r20 J18 K19 h => ?_))
      refine jw_iret rfl ?_
      exact h
  · replace h := h.2 c3
    refine jw_if_eq rfl (by omega) (fun _ => ?_) (fun hc => by exfalso; omega)
    refine jw_aload_n rfl rfl ?_
    refine jw_bipush rfl (by decide) ?_
    refine jw_virt (k := 1) (c := 19) (as := [.int (Int32.ofInt (-2))]) rfl rfl rfl (Nat.le_of_ble_eq_true rfl) rfl (Nat.le_of_ble_eq_true rfl) rfl rfl (jz_ci ?_)
    refine jm_Q.mono h (jp_i_mono (fun r23 J21 K22 h => ?_))
    refine jw_iret rfl ?_
    exact h
set_option maxHeartbeats 4000000 in
theorem e_273_65 {xs : Nat → Int32} {L d : Nat} {v1 : Int} {v2 : Int} {v3 : Int} {v5 : Int} {v6 : Int} {J K : jZ} {P : Int → jZ → jZ → Prop} (h : (-2147483648 ≤ v6 ∧ v6 < 2147483648) ∧ (-2147483648 ≤ v3 ∧ v3 < 2147483648) ∧ (v3 ≤ v6 → ((0 : Int) ≤ v1 ∧ v1 < 27) ∧ (-2147483648 ≤ v5 ∧ v5 < 2147483648) ∧ (-2147483648 ≤ J 195 v1.toNat ∧ J 195 v1.toNat < 2147483648) ∧ ((J 195 v1.toNat) ≤ v5 → P (-1) J K) ∧ (v5 < (J 195 v1.toNat) → P v5 J K)) ∧ (v6 < v3 → l_273_71 xs L (d + 2) v1 v2 v3 v5 v6 J K P)) : l_273_65 xs L (d + 2) v1 v2 v3 v5 v6 J K P := by
  unfold l_273_65
  refine jw_iload rfl rfl ?_
  refine jw_iload_n rfl rfl ?_
  obtain ⟨o1, h⟩ := h
  obtain ⟨o2, h⟩ := h
  refine jw_ic_ge rfl o1 o2 (fun c3 => ?_) (fun c3 => ?_)
  · replace h := h.1 c3
    refine jw_iload rfl rfl ?_
    refine jw_aload_n rfl rfl ?_
    refine jw_gr (q := 195) rfl rfl rfl ?_
    refine jw_iload_n rfl rfl ?_
    obtain ⟨o4, h⟩ := h
    refine jw_iald (v := (J 195 v1.toNat)) (N := 27) rfl rfl rfl (by omega) o4 rfl ?_
    obtain ⟨o5, h⟩ := h
    obtain ⟨o6, h⟩ := h
    refine jw_ic_ge rfl o5 o6 (fun c7 => ?_) (fun c7 => ?_)
    · replace h := h.1 c7
      refine jw_iconst rfl ?_
      refine jw_iret rfl ?_
      exact h
    · replace h := h.2 c7
      refine jw_iload rfl rfl ?_
      refine jw_goto rfl ?_
      refine jw_iret rfl ?_
      exact h
  · replace h := h.2 c3
    exact jz_fg (l := [some (.ref 167), some (.int (Int32.ofInt v1)), some (.int (Int32.ofInt v2)), some (.int (Int32.ofInt v3)), none, some (.int (Int32.ofInt v5)), some (.int (Int32.ofInt v6))]) ⟨rfl, rfl, rfl, rfl, jz_n0, rfl, rfl, trivial⟩ h
set_option maxHeartbeats 4000000 in
theorem e_273_71 {xs : Nat → Int32} {L d : Nat} {v1 : Int} {v2 : Int} {v3 : Int} {v5 : Int} {v6 : Int} {J K : jZ} {P : Int → jZ → jZ → Prop} (h : ((0 : Int) ≤ v1 ∧ v1 < 27) ∧ (-2147483648 ≤ v5 ∧ v5 < 2147483648) ∧ (-2147483648 ≤ J 195 v1.toNat ∧ J 195 v1.toNat < 2147483648) ∧ ((J 195 v1.toNat) ≤ v5 → l_273_109 xs L (d + 2) v1 v2 v3 v5 v6 J K P) ∧ (v5 < (J 195 v1.toNat) → ((0 : Int) ≤ ((v1 * 60) + v5) ∧ ((v1 * 60) + v5) < 1620) ∧ (-2147483648 ≤ J 196 ((v1 * 60) + v5).toNat ∧ J 196 ((v1 * 60) + v5).toNat < 2147483648) ∧ ((0 : Int) ≤ v2 ∧ v2 < 8) ∧ ((0 : Int) ≤ v6 ∧ v6 < 40) ∧ (-9223372036854775808 ≤ K (172 + v2.toNat) v6.toNat ∧ K (172 + v2.toNat) v6.toNat < 9223372036854775808) ∧ ((K (172 + v2.toNat) v6.toNat) ≤ (J 196 ((v1 * 60) + v5).toNat) → l_273_109 xs L (d + 2) v1 v2 v3 v5 v6 J K P) ∧ ((J 196 ((v1 * 60) + v5).toNat) < (K (172 + v2.toNat) v6.toNat) → l_273_71 xs L (d + 2) v1 v2 v3 (v5 + 1) v6 J K P))) : l_273_71 xs L (d + 2) v1 v2 v3 v5 v6 J K P := by
  unfold l_273_71
  refine jw_iload rfl rfl ?_
  refine jw_aload_n rfl rfl ?_
  refine jw_gr (q := 195) rfl rfl rfl ?_
  refine jw_iload_n rfl rfl ?_
  obtain ⟨o1, h⟩ := h
  refine jw_iald (v := (J 195 v1.toNat)) (N := 27) rfl rfl rfl (by omega) o1 rfl ?_
  obtain ⟨o2, h⟩ := h
  obtain ⟨o3, h⟩ := h
  refine jw_ic_ge rfl o2 o3 (fun c4 => ?_) (fun c4 => ?_)
  · replace h := h.1 c4
    exact jz_fg (l := [some (.ref 167), some (.int (Int32.ofInt v1)), some (.int (Int32.ofInt v2)), some (.int (Int32.ofInt v3)), none, some (.int (Int32.ofInt v5)), some (.int (Int32.ofInt v6))]) ⟨rfl, rfl, rfl, rfl, jz_n0, rfl, rfl, trivial⟩ h
  · replace h := h.2 c4
    refine jw_aload_n rfl rfl ?_
    refine jw_iload_n rfl rfl ?_
    refine jw_iload rfl rfl ?_
    refine jw_virt (k := 2) (c := 19) (as := [.int (Int32.ofInt v1), .int (Int32.ofInt v5)]) rfl rfl rfl (Nat.le_of_ble_eq_true rfl) rfl (Nat.le_of_ble_eq_true rfl) rfl rfl (jz_ci ?_)
    refine jq_in (ls := [some (.ref 167), some (.int (Int32.ofInt v1)), some (.int (Int32.ofInt v5))]) rfl (Nat.le_of_ble_eq_true rfl) rfl ?_
    refine jw_aload_n rfl rfl ?_
    refine jw_gr (q := 196) rfl rfl rfl ?_
    refine jw_iload_n rfl rfl ?_
    refine jw_bipush rfl (by decide) ?_
    refine jw_imul rfl ?_
    refine jw_iload_n rfl rfl ?_
    refine jw_iadd rfl ?_
    obtain ⟨o5, h⟩ := h
    refine jw_iald (v := (J 196 ((v1 * 60) + v5).toNat)) (N := 1620) rfl rfl rfl (by omega) o5 rfl ?_
    refine jw_iret rfl ?_
    obtain ⟨o6, h⟩ := h
    refine jw_i2l rfl o6 ?_
    refine jw_aload_n rfl rfl ?_
    refine jw_gr (q := 171) rfl rfl rfl ?_
    refine jw_iload_n rfl rfl ?_
    obtain ⟨o7, h⟩ := h
    refine jw_aald (k := 5) (q := (172 + v2.toNat)) (N := 8) rfl rfl (by omega) rfl (by omega) o7 (jzr_171 o7) ?_
    refine jw_iload rfl rfl ?_
    obtain ⟨o8, h⟩ := h
    refine jw_lald (v := (K (172 + v2.toNat) v6.toNat)) (N := 40) rfl (jze_171 o7) (jzl_171 o7) (by omega) o8 rfl ?_
    obtain ⟨o9, h⟩ := h
    refine jw_lc_ge rfl rfl (by omega) o9 (fun c10 => ?_) (fun c10 => ?_)
    · replace h := h.1 c10
      exact jz_fg (l := [some (.ref 167), some (.int (Int32.ofInt v1)), some (.int (Int32.ofInt v2)), some (.int (Int32.ofInt v3)), none, some (.int (Int32.ofInt v5)), some (.int (Int32.ofInt v6))]) ⟨rfl, rfl, rfl, rfl, jz_n0, rfl, rfl, trivial⟩ h
    · replace h := h.2 c10
      refine jw_iinc (ls' := [some (.ref 167), some (.int (Int32.ofInt v1)), some (.int (Int32.ofInt v2)), some (.int (Int32.ofInt v3)), none, some (.int (Int32.ofInt (v5 + 1))), some (.int (Int32.ofInt v6))]) rfl rfl rfl ?_
      refine jw_goto rfl ?_
      exact jz_fg (l := [some (.ref 167), some (.int (Int32.ofInt v1)), some (.int (Int32.ofInt v2)), some (.int (Int32.ofInt v3)), none, some (.int (Int32.ofInt (v5 + 1))), some (.int (Int32.ofInt v6))]) ⟨rfl, rfl, rfl, rfl, jz_n0, rfl, rfl, trivial⟩ h
set_option maxHeartbeats 4000000 in
theorem e_273_109 {xs : Nat → Int32} {L d : Nat} {v1 : Int} {v2 : Int} {v3 : Int} {v5 : Int} {v6 : Int} {J K : jZ} {P : Int → jZ → jZ → Prop} (h : l_273_65 xs L (d + 2) v1 v2 v3 v5 (v6 + 1) J K P) : l_273_109 xs L (d + 2) v1 v2 v3 v5 v6 J K P := by
  unfold l_273_109
  refine jw_iinc (ls' := [some (.ref 167), some (.int (Int32.ofInt v1)), some (.int (Int32.ofInt v2)), some (.int (Int32.ofInt v3)), none, some (.int (Int32.ofInt v5)), some (.int (Int32.ofInt (v6 + 1)))]) rfl rfl rfl ?_
  refine jw_goto rfl ?_
  exact jz_fg (l := [some (.ref 167), some (.int (Int32.ofInt v1)), some (.int (Int32.ofInt v2)), some (.int (Int32.ofInt v3)), none, some (.int (Int32.ofInt v5)), some (.int (Int32.ofInt (v6 + 1)))]) ⟨rfl, rfl, rfl, rfl, jz_n0, rfl, rfl, trivial⟩ h
set_option maxHeartbeats 4000000 in
theorem e_274 {xs : Nat → Int32} {L d : Nat} {v1 : Int} {v2 : Int} {v3 : Int} {v4 : Int} {J K : jZ} {P : Int → jZ → jZ → Prop} (h : (-2147483648 ≤ v1 ∧ v1 < 2147483648) ∧ ((2 ≤ v1 ∧ v1 ≤ 8) → (-2147483648 ≤ v2 ∧ v2 < 2147483648) ∧ ((0 ≤ v2 ∧ v2 ≤ 7) → (-2147483648 ≤ v3 ∧ v3 < 2147483648) ∧ ((1 ≤ v3 ∧ v3 ≤ 6) → (-2147483648 ≤ v4 ∧ v4 < 2147483648) ∧ ((-1) ≤ v4 → q_229 xs L (d + 2) v2 v3 J K (fun r11 J9 K10 => (-2147483648 ≤ r11 ∧ r11 < 2147483648) ∧ (r11 = 0 → l_274_70 xs L (d + 2) v1 v2 v3 v4 0 J9 K10 P) ∧ (¬ r11 = 0 → P r11 J9 K10))) ∧ (v4 < (-1) → q_170 xs L (d + 2) (-2) J K (fun r16 J14 K15 => P r16 J14 K15))) ∧ (¬ (1 ≤ v3 ∧ v3 ≤ 6) → q_170 xs L (d + 2) (-2) J K (fun r19 J17 K18 => P r19 J17 K18))) ∧ (¬ (0 ≤ v2 ∧ v2 ≤ 7) → q_170 xs L (d + 2) (-2) J K (fun r22 J20 K21 => P r22 J20 K21))) ∧ (¬ (2 ≤ v1 ∧ v1 ≤ 8) → q_170 xs L (d + 2) (-2) J K (fun r25 J23 K24 => P r25 J23 K24))) : q_274 xs L (d + 3) v1 v2 v3 v4 J K P := by
  unfold q_274
  refine jq_in (ls := [some (.ref 167), some (.int (Int32.ofInt v1)), some (.int (Int32.ofInt v2)), some (.int (Int32.ofInt v3)), some (.int (Int32.ofInt v4)), none, none, none, none]) rfl (Nat.le_of_ble_eq_true rfl) rfl ?_
  refine jw_iload_n rfl rfl ?_
  obtain ⟨o1, h⟩ := h
  refine jw_i2l rfl o1 ?_
  refine jw_ldc2_w rfl ?_
  refine jw_ldc2_w rfl ?_
  refine jw_stat (k := 3) (as := [.long (Int64.ofInt v1), .long (Int64.ofInt 2), .long (Int64.ofInt 8)]) rfl (by decide) rfl rfl (Nat.le_of_ble_eq_true rfl) rfl (Nat.le_of_ble_eq_true rfl) (jz_ci ?_)
  refine sb_169 (by omega) (by omega) (by omega) (fun c2 => ?_) (fun c2 => ?_)
  · replace h := h.1 c2
    refine jw_if_eq rfl (by omega) (fun hc => by exfalso; omega) (fun _ => ?_)
    refine jw_iload_n rfl rfl ?_
    obtain ⟨o3, h⟩ := h
    refine jw_i2l rfl o3 ?_
    refine jw_lconst (x := 0) rfl rfl ?_
    refine jw_ldc2_w rfl ?_
    refine jw_stat (k := 3) (as := [.long (Int64.ofInt v2), .long (Int64.ofInt 0), .long (Int64.ofInt 7)]) rfl (by decide) rfl rfl (Nat.le_of_ble_eq_true rfl) rfl (Nat.le_of_ble_eq_true rfl) (jz_ci ?_)
    refine sb_169 (by omega) (by omega) (by omega) (fun c4 => ?_) (fun c4 => ?_)
    · replace h := h.1 c4
      refine jw_if_eq rfl (by omega) (fun hc => by exfalso; omega) (fun _ => ?_)
      refine jw_iload_n rfl rfl ?_
      obtain ⟨o5, h⟩ := h
      refine jw_i2l rfl o5 ?_
      refine jw_lconst (x := 1) rfl rfl ?_
      refine jw_ldc2_w rfl ?_
      refine jw_stat (k := 3) (as := [.long (Int64.ofInt v3), .long (Int64.ofInt 1), .long (Int64.ofInt 6)]) rfl (by decide) rfl rfl (Nat.le_of_ble_eq_true rfl) rfl (Nat.le_of_ble_eq_true rfl) (jz_ci ?_)
      refine sb_169 (by omega) (by omega) (by omega) (fun c6 => ?_) (fun c6 => ?_)
      · replace h := h.1 c6
        refine jw_if_eq rfl (by omega) (fun hc => by exfalso; omega) (fun _ => ?_)
        refine jw_iload rfl rfl ?_
        refine jw_iconst rfl ?_
        obtain ⟨o7, h⟩ := h
        refine jw_ic_ge rfl o7 (by omega) (fun c8 => ?_) (fun c8 => ?_)
        · replace h := h.1 c8
          refine jw_aload_n rfl rfl ?_
          refine jw_iload_n rfl rfl ?_
          refine jw_iload_n rfl rfl ?_
          refine jw_virt (k := 2) (c := 19) (as := [.int (Int32.ofInt v2), .int (Int32.ofInt v3)]) rfl rfl rfl (Nat.le_of_ble_eq_true rfl) rfl (Nat.le_of_ble_eq_true rfl) rfl rfl (jz_ci ?_)
          refine jm_Q.mono h (jp_i_mono (fun r11 J9 K10 h => ?_))
          refine jw_istore (ls' := [some (.ref 167), some (.int (Int32.ofInt v1)), some (.int (Int32.ofInt v2)), some (.int (Int32.ofInt v3)), some (.int (Int32.ofInt v4)), some (.int (Int32.ofInt r11)), none, none, none]) rfl rfl ?_
          refine jw_iload rfl rfl ?_
          obtain ⟨o12, h⟩ := h
          refine jw_if_eq rfl o12 (fun c13 => ?_) (fun c13 => ?_)
          · replace h := h.1 c13
            refine jw_iconst rfl ?_
            refine jw_istore (ls' := [some (.ref 167), some (.int (Int32.ofInt v1)), some (.int (Int32.ofInt v2)), some (.int (Int32.ofInt v3)), some (.int (Int32.ofInt v4)), some (.int (Int32.ofInt r11)), some (.int (Int32.ofInt 0)), none, none]) rfl rfl ?_
            exact jz_fg (l := [some (.ref 167), some (.int (Int32.ofInt v1)), some (.int (Int32.ofInt v2)), some (.int (Int32.ofInt v3)), some (.int (Int32.ofInt v4)), none, some (.int (Int32.ofInt 0)), none, none]) ⟨rfl, rfl, rfl, rfl, rfl, jz_ni, rfl, jz_n0, jz_n0, trivial⟩ h
          · replace h := h.2 c13
            refine jw_iload rfl rfl ?_
            refine jw_iret rfl ?_
            exact h
        · replace h := h.2 c8
          refine jw_aload_n rfl rfl ?_
          refine jw_bipush rfl (by decide) ?_
          refine jw_virt (k := 1) (c := 19) (as := [.int (Int32.ofInt (-2))]) rfl rfl rfl (Nat.le_of_ble_eq_true rfl) rfl (Nat.le_of_ble_eq_true rfl) rfl rfl (jz_ci ?_)
          refine jm_Q.mono h (jp_i_mono (fun r16 J14 K15 h => ?_))
          refine jw_iret rfl ?_
          exact h
      · replace h := h.2 c6
        refine jw_if_eq rfl (by omega) (fun _ => ?_) (fun hc => by exfalso; omega)
        refine jw_aload_n rfl rfl ?_
        refine jw_bipush rfl (by decide) ?_
        refine jw_virt (k := 1) (c := 19) (as := [.int (Int32.ofInt (-2))]) rfl rfl rfl (Nat.le_of_ble_eq_true rfl) rfl (Nat.le_of_ble_eq_true rfl) rfl rfl (jz_ci ?_)
        refine jm_Q.mono h (jp_i_mono (fun r19 J17 K18 h => ?_))
        refine jw_iret rfl ?_
        exact h
    · replace h := h.2 c4
      refine jw_if_eq rfl (by omega) (fun _ => ?_) (fun hc => by exfalso; omega)
      refine jw_aload_n rfl rfl ?_
      refine jw_bipush rfl (by decide) ?_
      refine jw_virt (k := 1) (c := 19) (as := [.int (Int32.ofInt (-2))]) rfl rfl rfl (Nat.le_of_ble_eq_true rfl) rfl (Nat.le_of_ble_eq_true rfl) rfl rfl (jz_ci ?_)
      refine jm_Q.mono h (jp_i_mono (fun r22 J20 K21 h => ?_))
      refine jw_iret rfl ?_
      exact h
  · replace h := h.2 c2
    refine jw_if_eq rfl (by omega) (fun _ => ?_) (fun hc => by exfalso; omega)
    refine jw_aload_n rfl rfl ?_
    refine jw_bipush rfl (by decide) ?_
    refine jw_virt (k := 1) (c := 19) (as := [.int (Int32.ofInt (-2))]) rfl rfl rfl (Nat.le_of_ble_eq_true rfl) rfl (Nat.le_of_ble_eq_true rfl) rfl rfl (jz_ci ?_)
    refine jm_Q.mono h (jp_i_mono (fun r25 J23 K24 h => ?_))
    refine jw_iret rfl ?_
    exact h
set_option maxHeartbeats 4000000 in
theorem e_274_70 {xs : Nat → Int32} {L d : Nat} {v1 : Int} {v2 : Int} {v3 : Int} {v4 : Int} {v6 : Int} {J K : jZ} {P : Int → jZ → jZ → Prop} (h : (-2147483648 ≤ v6 ∧ v6 < 2147483648) ∧ (-2147483648 ≤ v3 ∧ v3 < 2147483648) ∧ (v3 ≤ v6 → q_181 xs L (d + 2) J K (fun J4 K5 => ((0 : Int) ≤ v2 ∧ v2 < 8) ∧ l_274_130 xs L (d + 2) v1 v2 v3 v4 (K5 (172 + v2.toNat) (Int.toNat 0)) 1 J4 K5 P)) ∧ (v6 < v3 → ((0 : Int) ≤ v2 ∧ v2 < 8) ∧ ((0 : Int) ≤ v6 ∧ v6 < 40) ∧ (-2147483648 ≤ ((J 167 10) - 1) ∧ ((J 167 10) - 1) < 2147483648) ∧ (-9223372036854775808 ≤ K (172 + v2.toNat) v6.toNat ∧ K (172 + v2.toNat) v6.toNat < 9223372036854775808) ∧ ((0 ≤ (K (172 + v2.toNat) v6.toNat) ∧ (K (172 + v2.toNat) v6.toNat) ≤ ((J 167 10) - 1)) → l_274_70 xs L (d + 2) v1 v2 v3 v4 (v6 + 1) J K P) ∧ (¬ (0 ≤ (K (172 + v2.toNat) v6.toNat) ∧ (K (172 + v2.toNat) v6.toNat) ≤ ((J 167 10) - 1)) → q_170 xs L (d + 2) (-5) J K (fun r14 J12 K13 => P r14 J12 K13)))) : l_274_70 xs L (d + 2) v1 v2 v3 v4 v6 J K P := by
  unfold l_274_70
  refine jw_iload rfl rfl ?_
  refine jw_iload_n rfl rfl ?_
  obtain ⟨o1, h⟩ := h
  obtain ⟨o2, h⟩ := h
  refine jw_ic_ge rfl o1 o2 (fun c3 => ?_) (fun c3 => ?_)
  · replace h := h.1 c3
    refine jw_aload_n rfl rfl ?_
    refine jw_virt (k := 0) (c := 19) (as := []) rfl rfl rfl (Nat.le_of_ble_eq_true rfl) rfl (Nat.le_of_ble_eq_true rfl) rfl rfl (jz_cv ?_)
    refine jm_Q.mono h (jp_v_mono (fun J4 K5 h => ?_))
    refine jw_aload_n rfl rfl ?_
    refine jw_gr (q := 171) rfl rfl rfl ?_
    refine jw_iload_n rfl rfl ?_
    obtain ⟨o6, h⟩ := h
    refine jw_aald (k := 5) (q := (172 + v2.toNat)) (N := 8) rfl rfl (by omega) rfl (by omega) o6 (jzr_171 o6) ?_
    refine jw_iconst rfl ?_
    refine jw_lald (v := (K5 (172 + v2.toNat) (Int.toNat 0))) (N := 40) rfl (jze_171 o6) (jzl_171 o6) (by omega) (by omega) rfl ?_
    refine jw_l2i rfl ?_
    refine jw_istore (ls' := [some (.ref 167), some (.int (Int32.ofInt v1)), some (.int (Int32.ofInt v2)), some (.int (Int32.ofInt v3)), some (.int (Int32.ofInt v4)), none, some (.int (Int32.ofInt (K5 (172 + v2.toNat) (Int.toNat 0)))), none, none]) rfl rfl ?_
    refine jw_iconst rfl ?_
    refine jw_istore (ls' := [some (.ref 167), some (.int (Int32.ofInt v1)), some (.int (Int32.ofInt v2)), some (.int (Int32.ofInt v3)), some (.int (Int32.ofInt v4)), none, some (.int (Int32.ofInt (K5 (172 + v2.toNat) (Int.toNat 0)))), some (.int (Int32.ofInt 1)), none]) rfl rfl ?_
    exact jz_fg (l := [some (.ref 167), some (.int (Int32.ofInt v1)), some (.int (Int32.ofInt v2)), some (.int (Int32.ofInt v3)), some (.int (Int32.ofInt v4)), none, some (.int (Int32.ofInt (K5 (172 + v2.toNat) (Int.toNat 0)))), some (.int (Int32.ofInt 1)), none]) ⟨rfl, rfl, rfl, rfl, rfl, jz_n0, rfl, rfl, jz_n0, trivial⟩ h
  · replace h := h.2 c3
    refine jw_aload_n rfl rfl ?_
    refine jw_gr (q := 171) rfl rfl rfl ?_
    refine jw_iload_n rfl rfl ?_
    obtain ⟨o7, h⟩ := h
    refine jw_aald (k := 5) (q := (172 + v2.toNat)) (N := 8) rfl rfl (by omega) rfl (by omega) o7 (jzr_171 o7) ?_
    refine jw_iload rfl rfl ?_
    obtain ⟨o8, h⟩ := h
    refine jw_lald (v := (K (172 + v2.toNat) v6.toNat)) (N := 40) rfl (jze_171 o7) (jzl_171 o7) (by omega) o8 rfl ?_
    refine jw_lconst (x := 0) rfl rfl ?_
    refine jw_aload_n rfl rfl ?_
    refine jw_gf (v := (J 167 10)) rfl (by decide) rfl rfl ?_
    refine jw_iconst rfl ?_
    refine jw_isub rfl ?_
    obtain ⟨o9, h⟩ := h
    refine jw_i2l rfl o9 ?_
    refine jw_stat (k := 3) (as := [.long (Int64.ofInt (K (172 + v2.toNat) v6.toNat)), .long (Int64.ofInt 0), .long (Int64.ofInt ((J 167 10) - 1))]) rfl (by decide) rfl rfl (Nat.le_of_ble_eq_true rfl) rfl (Nat.le_of_ble_eq_true rfl) (jz_ci ?_)
    obtain ⟨o10, h⟩ := h
    refine sb_169 o10 (by omega) (by omega) (fun c11 => ?_) (fun c11 => ?_)
    · replace h := h.1 c11
      refine jw_if_ne rfl (by omega) (fun _ => ?_) (fun hc => by exfalso; omega)
      refine jw_iinc (ls' := [some (.ref 167), some (.int (Int32.ofInt v1)), some (.int (Int32.ofInt v2)), some (.int (Int32.ofInt v3)), some (.int (Int32.ofInt v4)), none, some (.int (Int32.ofInt (v6 + 1))), none, none]) rfl rfl rfl ?_
      refine jw_goto rfl ?_
      exact jz_fg (l := [some (.ref 167), some (.int (Int32.ofInt v1)), some (.int (Int32.ofInt v2)), some (.int (Int32.ofInt v3)), some (.int (Int32.ofInt v4)), none, some (.int (Int32.ofInt (v6 + 1))), none, none]) ⟨rfl, rfl, rfl, rfl, rfl, jz_n0, rfl, jz_n0, jz_n0, trivial⟩ h
    · replace h := h.2 c11
      refine jw_if_ne rfl (by omega) (fun hc => by exfalso; omega) (fun _ => ?_)
      refine jw_aload_n rfl rfl ?_
      refine jw_bipush rfl (by decide) ?_
      refine jw_virt (k := 1) (c := 19) (as := [.int (Int32.ofInt (-5))]) rfl rfl rfl (Nat.le_of_ble_eq_true rfl) rfl (Nat.le_of_ble_eq_true rfl) rfl rfl (jz_ci ?_)
      refine jm_Q.mono h (jp_i_mono (fun r14 J12 K13 h => ?_))
      refine jw_iret rfl ?_
      exact h
set_option maxHeartbeats 4000000 in
theorem e_274_130 {xs : Nat → Int32} {L d : Nat} {v1 : Int} {v2 : Int} {v3 : Int} {v4 : Int} {v6 : Int} {v7 : Int} {J K : jZ} {P : Int → jZ → jZ → Prop} (h : (-2147483648 ≤ v7 ∧ v7 < 2147483648) ∧ (-2147483648 ≤ v3 ∧ v3 < 2147483648) ∧ (v3 ≤ v7 → (-2147483648 ≤ v4 ∧ v4 < 2147483648) ∧ (¬ v4 = (-1) → ((0 : Int) ≤ v6 ∧ v6 < 27) ∧ (-2147483648 ≤ J 195 v6.toNat ∧ J 195 v6.toNat < 2147483648) ∧ ((J 195 v6.toNat) ≤ v4 → P (-1) J K) ∧ (v4 < (J 195 v6.toNat) → ((0 : Int) ≤ ((v6 * 60) + v4) ∧ ((v6 * 60) + v4) < 1620) ∧ P ((100 * (J 196 ((v6 * 60) + v4).toNat)) + (J 197 ((v6 * 60) + v4).toNat)) J K)) ∧ (v4 = (-1) → ((0 : Int) ≤ v6 ∧ v6 < 27) ∧ P (J 195 v6.toNat) J K)) ∧ (v7 < v3 → (-2147483648 ≤ v6 ∧ v6 < 2147483648) ∧ (¬ v6 = 24 → ((0 : Int) ≤ v2 ∧ v2 < 8) ∧ ((0 : Int) ≤ v7 ∧ v7 < 40) ∧ q_194 xs L (d + 2) 24 v1 v6 (K (172 + v2.toNat) v7.toNat) J K (fun J15 K16 => l_274_130 xs L (d + 2) v1 v2 v3 v4 24 (v7 + 1) J15 K16 P)) ∧ (v6 = 24 → ((0 : Int) ≤ v2 ∧ v2 < 8) ∧ ((0 : Int) ≤ v7 ∧ v7 < 40) ∧ q_194 xs L (d + 2) 26 v1 v6 (K (172 + v2.toNat) v7.toNat) J K (fun J19 K20 => l_274_130 xs L (d + 2) v1 v2 v3 v4 26 (v7 + 1) J19 K20 P)))) : l_274_130 xs L (d + 2) v1 v2 v3 v4 v6 v7 J K P := by
  unfold l_274_130
  refine jw_iload rfl rfl ?_
  refine jw_iload_n rfl rfl ?_
  obtain ⟨o1, h⟩ := h
  obtain ⟨o2, h⟩ := h
  refine jw_ic_ge rfl o1 o2 (fun c3 => ?_) (fun c3 => ?_)
  · replace h := h.1 c3
    refine jw_iload rfl rfl ?_
    refine jw_iconst rfl ?_
    obtain ⟨o4, h⟩ := h
    refine jw_ic_ne rfl o4 (by omega) (fun c5 => ?_) (fun c5 => ?_)
    · replace h := h.1 c5
      refine jw_iload rfl rfl ?_
      refine jw_aload_n rfl rfl ?_
      refine jw_gr (q := 195) rfl rfl rfl ?_
      refine jw_iload rfl rfl ?_
      obtain ⟨o6, h⟩ := h
      refine jw_iald (v := (J 195 v6.toNat)) (N := 27) rfl rfl rfl (by omega) o6 rfl ?_
      obtain ⟨o7, h⟩ := h
      refine jw_ic_ge rfl o4 o7 (fun c8 => ?_) (fun c8 => ?_)
      · replace h := h.1 c8
        refine jw_iconst rfl ?_
        refine jw_iret rfl ?_
        exact h
      · replace h := h.2 c8
        refine jw_aload_n rfl rfl ?_
        refine jw_iload rfl rfl ?_
        refine jw_iload rfl rfl ?_
        refine jw_virt (k := 2) (c := 19) (as := [.int (Int32.ofInt v6), .int (Int32.ofInt v4)]) rfl rfl rfl (Nat.le_of_ble_eq_true rfl) rfl (Nat.le_of_ble_eq_true rfl) rfl rfl (jz_ci ?_)
        refine jq_in (ls := [some (.ref 167), some (.int (Int32.ofInt v6)), some (.int (Int32.ofInt v4))]) rfl (Nat.le_of_ble_eq_true rfl) rfl ?_
        refine jw_bipush rfl (by decide) ?_
        refine jw_aload_n rfl rfl ?_
        refine jw_iload_n rfl rfl ?_
        refine jw_iload_n rfl rfl ?_
        refine jw_virt (k := 2) (c := 19) (as := [.int (Int32.ofInt v6), .int (Int32.ofInt v4)]) rfl rfl rfl (Nat.le_of_ble_eq_true rfl) rfl (Nat.le_of_ble_eq_true rfl) rfl rfl (jz_ci ?_)
        refine jq_in (ls := [some (.ref 167), some (.int (Int32.ofInt v6)), some (.int (Int32.ofInt v4))]) rfl (Nat.le_of_ble_eq_true rfl) rfl ?_
        refine jw_aload_n rfl rfl ?_
        refine jw_gr (q := 196) rfl rfl rfl ?_
        refine jw_iload_n rfl rfl ?_
        refine jw_bipush rfl (by decide) ?_
        refine jw_imul rfl ?_
        refine jw_iload_n rfl rfl ?_
        refine jw_iadd rfl ?_
        obtain ⟨o9, h⟩ := h
        refine jw_iald (v := (J 196 ((v6 * 60) + v4).toNat)) (N := 1620) rfl rfl rfl (by omega) o9 rfl ?_
        refine jw_iret rfl ?_
        refine jw_imul rfl ?_
        refine jw_aload_n rfl rfl ?_
        refine jw_iload_n rfl rfl ?_
        refine jw_iload_n rfl rfl ?_
        refine jw_virt (k := 2) (c := 19) (as := [.int (Int32.ofInt v6), .int (Int32.ofInt v4)]) rfl rfl rfl (Nat.le_of_ble_eq_true rfl) rfl (Nat.le_of_ble_eq_true rfl) rfl rfl (jz_ci ?_)
        refine jq_in (ls := [some (.ref 167), some (.int (Int32.ofInt v6)), some (.int (Int32.ofInt v4))]) rfl (Nat.le_of_ble_eq_true rfl) rfl ?_
        refine jw_aload_n rfl rfl ?_
        refine jw_gr (q := 197) rfl rfl rfl ?_
        refine jw_iload_n rfl rfl ?_
        refine jw_bipush rfl (by decide) ?_
        refine jw_imul rfl ?_
        refine jw_iload_n rfl rfl ?_
        refine jw_iadd rfl ?_
        refine jw_iald (v := (J 197 ((v6 * 60) + v4).toNat)) (N := 1620) rfl rfl rfl (by omega) o9 rfl ?_
        refine jw_iret rfl ?_
        refine jw_iadd rfl ?_
        refine jw_iret rfl ?_
        refine jw_goto rfl ?_
        refine jw_iret rfl ?_
        exact h
    · replace h := h.2 c5
      refine jw_aload_n rfl rfl ?_
      refine jw_gr (q := 195) rfl rfl rfl ?_
      refine jw_iload rfl rfl ?_
      obtain ⟨o10, h⟩ := h
      refine jw_iald (v := (J 195 v6.toNat)) (N := 27) rfl rfl rfl (by omega) o10 rfl ?_
      refine jw_goto rfl ?_
      refine jw_iret rfl ?_
      exact h
  · replace h := h.2 c3
    refine jw_iload rfl rfl ?_
    refine jw_bipush rfl (by decide) ?_
    obtain ⟨o11, h⟩ := h
    refine jw_ic_ne rfl o11 (by omega) (fun c12 => ?_) (fun c12 => ?_)
    · replace h := h.1 c12
      refine jw_bipush rfl (by decide) ?_
      refine jw_istore (ls' := [some (.ref 167), some (.int (Int32.ofInt v1)), some (.int (Int32.ofInt v2)), some (.int (Int32.ofInt v3)), some (.int (Int32.ofInt v4)), none, some (.int (Int32.ofInt v6)), some (.int (Int32.ofInt v7)), some (.int (Int32.ofInt 24))]) rfl rfl ?_
      refine jw_aload_n rfl rfl ?_
      refine jw_iload rfl rfl ?_
      refine jw_iload_n rfl rfl ?_
      refine jw_iload rfl rfl ?_
      refine jw_aload_n rfl rfl ?_
      refine jw_gr (q := 171) rfl rfl rfl ?_
      refine jw_iload_n rfl rfl ?_
      obtain ⟨o13, h⟩ := h
      refine jw_aald (k := 5) (q := (172 + v2.toNat)) (N := 8) rfl rfl (by omega) rfl (by omega) o13 (jzr_171 o13) ?_
      refine jw_iload rfl rfl ?_
      obtain ⟨o14, h⟩ := h
      refine jw_lald (v := (K (172 + v2.toNat) v7.toNat)) (N := 40) rfl (jze_171 o13) (jzl_171 o13) (by omega) o14 rfl ?_
      refine jw_l2i rfl ?_
      refine jw_virt (k := 4) (c := 19) (as := [.int (Int32.ofInt 24), .int (Int32.ofInt v1), .int (Int32.ofInt v6), .int (Int32.ofInt (K (172 + v2.toNat) v7.toNat))]) rfl rfl rfl (Nat.le_of_ble_eq_true rfl) rfl (Nat.le_of_ble_eq_true rfl) rfl rfl (jz_cv ?_)
      refine jm_Q.mono h (jp_v_mono (fun J15 K16 h => ?_))
      refine jw_iload rfl rfl ?_
      refine jw_istore (ls' := [some (.ref 167), some (.int (Int32.ofInt v1)), some (.int (Int32.ofInt v2)), some (.int (Int32.ofInt v3)), some (.int (Int32.ofInt v4)), none, some (.int (Int32.ofInt 24)), some (.int (Int32.ofInt v7)), some (.int (Int32.ofInt 24))]) rfl rfl ?_
      refine jw_iinc (ls' := [some (.ref 167), some (.int (Int32.ofInt v1)), some (.int (Int32.ofInt v2)), some (.int (Int32.ofInt v3)), some (.int (Int32.ofInt v4)), none, some (.int (Int32.ofInt 24)), some (.int (Int32.ofInt (v7 + 1))), some (.int (Int32.ofInt 24))]) rfl rfl rfl ?_
      refine jw_goto rfl ?_
      exact jz_fg (l := [some (.ref 167), some (.int (Int32.ofInt v1)), some (.int (Int32.ofInt v2)), some (.int (Int32.ofInt v3)), some (.int (Int32.ofInt v4)), none, some (.int (Int32.ofInt 24)), some (.int (Int32.ofInt (v7 + 1))), none]) ⟨rfl, rfl, rfl, rfl, rfl, jz_n0, rfl, rfl, jz_ni, trivial⟩ h
    · replace h := h.2 c12
      refine jw_bipush rfl (by decide) ?_
      refine jw_goto rfl ?_
      refine jw_istore (ls' := [some (.ref 167), some (.int (Int32.ofInt v1)), some (.int (Int32.ofInt v2)), some (.int (Int32.ofInt v3)), some (.int (Int32.ofInt v4)), none, some (.int (Int32.ofInt v6)), some (.int (Int32.ofInt v7)), some (.int (Int32.ofInt 26))]) rfl rfl ?_
      refine jw_aload_n rfl rfl ?_
      refine jw_iload rfl rfl ?_
      refine jw_iload_n rfl rfl ?_
      refine jw_iload rfl rfl ?_
      refine jw_aload_n rfl rfl ?_
      refine jw_gr (q := 171) rfl rfl rfl ?_
      refine jw_iload_n rfl rfl ?_
      obtain ⟨o17, h⟩ := h
      refine jw_aald (k := 5) (q := (172 + v2.toNat)) (N := 8) rfl rfl (by omega) rfl (by omega) o17 (jzr_171 o17) ?_
      refine jw_iload rfl rfl ?_
      obtain ⟨o18, h⟩ := h
      refine jw_lald (v := (K (172 + v2.toNat) v7.toNat)) (N := 40) rfl (jze_171 o17) (jzl_171 o17) (by omega) o18 rfl ?_
      refine jw_l2i rfl ?_
      refine jw_virt (k := 4) (c := 19) (as := [.int (Int32.ofInt 26), .int (Int32.ofInt v1), .int (Int32.ofInt v6), .int (Int32.ofInt (K (172 + v2.toNat) v7.toNat))]) rfl rfl rfl (Nat.le_of_ble_eq_true rfl) rfl (Nat.le_of_ble_eq_true rfl) rfl rfl (jz_cv ?_)
      refine jm_Q.mono h (jp_v_mono (fun J19 K20 h => ?_))
      refine jw_iload rfl rfl ?_
      refine jw_istore (ls' := [some (.ref 167), some (.int (Int32.ofInt v1)), some (.int (Int32.ofInt v2)), some (.int (Int32.ofInt v3)), some (.int (Int32.ofInt v4)), none, some (.int (Int32.ofInt 26)), some (.int (Int32.ofInt v7)), some (.int (Int32.ofInt 26))]) rfl rfl ?_
      refine jw_iinc (ls' := [some (.ref 167), some (.int (Int32.ofInt v1)), some (.int (Int32.ofInt v2)), some (.int (Int32.ofInt v3)), some (.int (Int32.ofInt v4)), none, some (.int (Int32.ofInt 26)), some (.int (Int32.ofInt (v7 + 1))), some (.int (Int32.ofInt 26))]) rfl rfl rfl ?_
      refine jw_goto rfl ?_
      exact jz_fg (l := [some (.ref 167), some (.int (Int32.ofInt v1)), some (.int (Int32.ofInt v2)), some (.int (Int32.ofInt v3)), some (.int (Int32.ofInt v4)), none, some (.int (Int32.ofInt 26)), some (.int (Int32.ofInt (v7 + 1))), none]) ⟨rfl, rfl, rfl, rfl, rfl, jz_n0, rfl, rfl, jz_ni, trivial⟩ h
set_option maxHeartbeats 4000000 in
theorem e_275 {xs : Nat → Int32} {L d : Nat} {v1 : Int} {J K : jZ} {P : Int → jZ → jZ → Prop} (h : (-2147483648 ≤ v1 ∧ v1 < 2147483648) ∧ ((1 ≤ v1 ∧ v1 ≤ 60) → l_275_21 xs L (d + 1) v1 0 J K P) ∧ (¬ (1 ≤ v1 ∧ v1 ≤ 60) → q_170 xs L (d + 1) (-2) J K (fun r5 J3 K4 => P r5 J3 K4))) : q_275 xs L (d + 2) v1 J K P := by
  unfold q_275
  refine jq_in (ls := [some (.ref 167), some (.int (Int32.ofInt v1)), none, none, none]) rfl (Nat.le_of_ble_eq_true rfl) rfl ?_
  refine jw_iload_n rfl rfl ?_
  obtain ⟨o1, h⟩ := h
  refine jw_i2l rfl o1 ?_
  refine jw_lconst (x := 1) rfl rfl ?_
  refine jw_ldc2_w rfl ?_
  refine jw_stat (k := 3) (as := [.long (Int64.ofInt v1), .long (Int64.ofInt 1), .long (Int64.ofInt 60)]) rfl (by decide) rfl rfl (Nat.le_of_ble_eq_true rfl) rfl (Nat.le_of_ble_eq_true rfl) (jz_ci ?_)
  refine sb_169 (by omega) (by omega) (by omega) (fun c2 => ?_) (fun c2 => ?_)
  · replace h := h.1 c2
    refine jw_if_ne rfl (by omega) (fun _ => ?_) (fun hc => by exfalso; omega)
    refine jw_iconst rfl ?_
    refine jw_istore_n (ls' := [some (.ref 167), some (.int (Int32.ofInt v1)), some (.int (Int32.ofInt 0)), none, none]) rfl rfl ?_
    exact jz_fg (l := [some (.ref 167), some (.int (Int32.ofInt v1)), some (.int (Int32.ofInt 0)), none, none]) ⟨rfl, rfl, rfl, jz_n0, jz_n0, trivial⟩ h
  · replace h := h.2 c2
    refine jw_if_ne rfl (by omega) (fun hc => by exfalso; omega) (fun _ => ?_)
    refine jw_aload_n rfl rfl ?_
    refine jw_bipush rfl (by decide) ?_
    refine jw_virt (k := 1) (c := 19) (as := [.int (Int32.ofInt (-2))]) rfl rfl rfl (Nat.le_of_ble_eq_true rfl) rfl (Nat.le_of_ble_eq_true rfl) rfl rfl (jz_ci ?_)
    refine jm_Q.mono h (jp_i_mono (fun r5 J3 K4 h => ?_))
    refine jw_iret rfl ?_
    exact h
set_option maxHeartbeats 4000000 in
theorem e_275_21 {xs : Nat → Int32} {L d : Nat} {v1 : Int} {v2 : Int} {J K : jZ} {P : Int → jZ → jZ → Prop} (h : (-2147483648 ≤ v2 ∧ v2 < 2147483648) ∧ (-2147483648 ≤ v1 ∧ v1 < 2147483648) ∧ (v1 ≤ v2 → P (J 167 9) (jm_up J 167 26 0) K) ∧ (v2 < v1 → q_276 xs L (d + 1) 16 J K (fun r6 J4 K5 => (-2147483648 ≤ J4 167 9 ∧ J4 167 9 < 2147483648) ∧ (60 ≤ (J4 167 9) → q_276 xs L (d + 1) 60 J4 K5 (fun r11 J9 K10 => ((0 : Int) ≤ r11 ∧ r11 < 60) ∧ l_275_62 xs L (d + 1) v1 v2 (jm_up J9 184 r11.toNat r6) K10 P)) ∧ ((J4 167 9) < 60 → q_201 xs L (d + 1) r6 J4 K5 (fun J13 K14 => l_275_62 xs L (d + 1) v1 v2 J13 K14 P))))) : l_275_21 xs L (d + 1) v1 v2 J K P := by
  unfold l_275_21
  refine jw_iload_n rfl rfl ?_
  refine jw_iload_n rfl rfl ?_
  obtain ⟨o1, h⟩ := h
  obtain ⟨o2, h⟩ := h
  refine jw_ic_ge rfl o1 o2 (fun c3 => ?_) (fun c3 => ?_)
  · replace h := h.1 c3
    refine jw_aload_n rfl rfl ?_
    refine jw_iconst rfl ?_
    refine jw_pfz rfl rfl (by omega) ?_
    refine jw_aload_n rfl rfl ?_
    refine jw_gf (v := (J 167 9)) rfl (by decide) rfl (by simp [jm_up]) ?_
    refine jw_iret rfl ?_
    exact h
  · replace h := h.2 c3
    refine jw_aload_n rfl rfl ?_
    refine jw_bipush rfl (by decide) ?_
    refine jw_virt (k := 1) (c := 19) (as := [.int (Int32.ofInt 16)]) rfl rfl rfl (Nat.le_of_ble_eq_true rfl) rfl (Nat.le_of_ble_eq_true rfl) rfl rfl (jz_ci ?_)
    refine jm_Q.mono h (jp_i_mono (fun r6 J4 K5 h => ?_))
    refine jw_istore_n (ls' := [some (.ref 167), some (.int (Int32.ofInt v1)), some (.int (Int32.ofInt v2)), some (.int (Int32.ofInt r6)), none]) rfl rfl ?_
    refine jw_aload_n rfl rfl ?_
    refine jw_gf (v := (J4 167 9)) rfl (by decide) rfl rfl ?_
    refine jw_bipush rfl (by decide) ?_
    obtain ⟨o7, h⟩ := h
    refine jw_ic_ge rfl o7 (by omega) (fun c8 => ?_) (fun c8 => ?_)
    · replace h := h.1 c8
      refine jw_aload_n rfl rfl ?_
      refine jw_gr (q := 184) rfl rfl rfl ?_
      refine jw_aload_n rfl rfl ?_
      refine jw_bipush rfl (by decide) ?_
      refine jw_virt (k := 1) (c := 19) (as := [.int (Int32.ofInt 60)]) rfl rfl rfl (Nat.le_of_ble_eq_true rfl) rfl (Nat.le_of_ble_eq_true rfl) rfl rfl (jz_ci ?_)
      refine jm_Q.mono h (jp_i_mono (fun r11 J9 K10 h => ?_))
      refine jw_iload_n rfl rfl ?_
      obtain ⟨o12, h⟩ := h
      refine jw_iast (N := 60) rfl rfl rfl (by omega) o12 ?_
      exact jz_fg (l := [some (.ref 167), some (.int (Int32.ofInt v1)), some (.int (Int32.ofInt v2)), none, none]) ⟨rfl, rfl, rfl, jz_ni, jz_n0, trivial⟩ h
    · replace h := h.2 c8
      refine jw_aload_n rfl rfl ?_
      refine jw_iload_n rfl rfl ?_
      refine jw_virt (k := 1) (c := 19) (as := [.int (Int32.ofInt r6)]) rfl rfl rfl (Nat.le_of_ble_eq_true rfl) rfl (Nat.le_of_ble_eq_true rfl) rfl rfl (jz_cv ?_)
      refine jm_Q.mono h (jp_v_mono (fun J13 K14 h => ?_))
      refine jw_goto rfl ?_
      exact jz_fg (l := [some (.ref 167), some (.int (Int32.ofInt v1)), some (.int (Int32.ofInt v2)), none, none]) ⟨rfl, rfl, rfl, jz_ni, jz_n0, trivial⟩ h
set_option maxHeartbeats 4000000 in
theorem e_275_62 {xs : Nat → Int32} {L d : Nat} {v1 : Int} {v2 : Int} {J K : jZ} {P : Int → jZ → jZ → Prop} (h : q_276 xs L (d + 1) 8 J K (fun r3 J1 K2 => (-2147483648 ≤ r3 ∧ r3 < 2147483648) ∧ (¬ r3 = 0 → (2 < r3 → l_275_122 xs L (d + 1) v1 v2 J1 K2 P) ∧ (r3 ≤ 2 → ((0 : Int) ≤ ((J1 167 9) - 1) ∧ ((J1 167 9) - 1) < 60) ∧ (-2147483648 ≤ J1 185 ((J1 167 9) - 1).toNat ∧ J1 185 ((J1 167 9) - 1).toNat < 2147483648) ∧ (¬ (J1 185 ((J1 167 9) - 1).toNat) = 0 → l_275_122 xs L (d + 1) v1 v2 J1 K2 P) ∧ ((J1 185 ((J1 167 9) - 1).toNat) = 0 → l_275_122 xs L (d + 1) v1 v2 (jm_up J1 185 ((J1 167 9) - 1).toNat 1) K2 P))) ∧ (r3 = 0 → ((0 : Int) ≤ ((J1 167 9) - 1) ∧ ((J1 167 9) - 1) < 60) ∧ l_275_122 xs L (d + 1) v1 v2 (jm_up J1 185 ((J1 167 9) - 1).toNat 2) K2 P))) : l_275_62 xs L (d + 1) v1 v2 J K P := by
  unfold l_275_62
  refine jw_aload_n rfl rfl ?_
  refine jw_bipush rfl (by decide) ?_
  refine jw_virt (k := 1) (c := 19) (as := [.int (Int32.ofInt 8)]) rfl rfl rfl (Nat.le_of_ble_eq_true rfl) rfl (Nat.le_of_ble_eq_true rfl) rfl rfl (jz_ci ?_)
  refine jm_Q.mono h (jp_i_mono (fun r3 J1 K2 h => ?_))
  refine jw_istore (ls' := [some (.ref 167), some (.int (Int32.ofInt v1)), some (.int (Int32.ofInt v2)), none, some (.int (Int32.ofInt r3))]) rfl rfl ?_
  refine jw_iload rfl rfl ?_
  obtain ⟨o4, h⟩ := h
  refine jw_if_ne rfl o4 (fun c5 => ?_) (fun c5 => ?_)
  · replace h := h.1 c5
    refine jw_iload rfl rfl ?_
    refine jw_iconst rfl ?_
    refine jw_ic_gt rfl o4 (by omega) (fun c6 => ?_) (fun c6 => ?_)
    · replace h := h.1 c6
      exact jz_fg (l := [some (.ref 167), some (.int (Int32.ofInt v1)), some (.int (Int32.ofInt v2)), none, none]) ⟨rfl, rfl, rfl, jz_n0, jz_ni, trivial⟩ h
    · replace h := h.2 c6
      refine jw_aload_n rfl rfl ?_
      refine jw_gr (q := 185) rfl rfl rfl ?_
      refine jw_aload_n rfl rfl ?_
      refine jw_gf (v := (J1 167 9)) rfl (by decide) rfl rfl ?_
      refine jw_iconst rfl ?_
      refine jw_isub rfl ?_
      obtain ⟨o7, h⟩ := h
      refine jw_iald (v := (J1 185 ((J1 167 9) - 1).toNat)) (N := 60) rfl rfl rfl (by omega) o7 rfl ?_
      obtain ⟨o8, h⟩ := h
      refine jw_if_ne rfl o8 (fun c9 => ?_) (fun c9 => ?_)
      · replace h := h.1 c9
        exact jz_fg (l := [some (.ref 167), some (.int (Int32.ofInt v1)), some (.int (Int32.ofInt v2)), none, none]) ⟨rfl, rfl, rfl, jz_n0, jz_ni, trivial⟩ h
      · replace h := h.2 c9
        refine jw_aload_n rfl rfl ?_
        refine jw_gr (q := 185) rfl rfl rfl ?_
        refine jw_aload_n rfl rfl ?_
        refine jw_gf (v := (J1 167 9)) rfl (by decide) rfl rfl ?_
        refine jw_iconst rfl ?_
        refine jw_isub rfl ?_
        refine jw_iconst rfl ?_
        refine jw_iast (N := 60) rfl rfl rfl (by omega) o7 ?_
        exact jz_fg (l := [some (.ref 167), some (.int (Int32.ofInt v1)), some (.int (Int32.ofInt v2)), none, none]) ⟨rfl, rfl, rfl, jz_n0, jz_ni, trivial⟩ h
  · replace h := h.2 c5
    refine jw_aload_n rfl rfl ?_
    refine jw_gr (q := 185) rfl rfl rfl ?_
    refine jw_aload_n rfl rfl ?_
    refine jw_gf (v := (J1 167 9)) rfl (by decide) rfl rfl ?_
    refine jw_iconst rfl ?_
    refine jw_isub rfl ?_
    refine jw_iconst rfl ?_
    obtain ⟨o10, h⟩ := h
    refine jw_iast (N := 60) rfl rfl rfl (by omega) o10 ?_
    refine jw_goto rfl ?_
    exact jz_fg (l := [some (.ref 167), some (.int (Int32.ofInt v1)), some (.int (Int32.ofInt v2)), none, none]) ⟨rfl, rfl, rfl, jz_n0, jz_ni, trivial⟩ h
set_option maxHeartbeats 4000000 in
theorem e_275_122 {xs : Nat → Int32} {L d : Nat} {v1 : Int} {v2 : Int} {J K : jZ} {P : Int → jZ → jZ → Prop} (h : l_275_21 xs L (d + 1) v1 (v2 + 1) J K P) : l_275_122 xs L (d + 1) v1 v2 J K P := by
  unfold l_275_122
  refine jw_iinc (ls' := [some (.ref 167), some (.int (Int32.ofInt v1)), some (.int (Int32.ofInt (v2 + 1))), none, none]) rfl rfl rfl ?_
  refine jw_goto rfl ?_
  exact jz_fg (l := [some (.ref 167), some (.int (Int32.ofInt v1)), some (.int (Int32.ofInt (v2 + 1))), none, none]) ⟨rfl, rfl, rfl, jz_n0, jz_n0, trivial⟩ h
set_option maxHeartbeats 4000000 in
theorem e_276 {xs : Nat → Int32} {L d : Nat} {v1 : Int} {J K : jZ} {P : Int → jZ → jZ → Prop} (h : (-2147483648 ≤ v1 ∧ v1 < 2147483648) ∧ (¬ v1 = 0) ∧ P (jz_rem (jz_ushr (((J 167 11) * 1103515245) + 12345) 16) v1) (jm_up J 167 11 (((J 167 11) * 1103515245) + 12345)) K) : q_276 xs L (d + 1) v1 J K P := by
  unfold q_276
  refine jq_in (ls := [some (.ref 167), some (.int (Int32.ofInt v1))]) rfl (Nat.le_of_ble_eq_true rfl) rfl ?_
  refine jw_aload_n rfl rfl ?_
  refine jw_aload_n rfl rfl ?_
  refine jw_gf (v := (J 167 11)) rfl (by decide) rfl rfl ?_
  refine jw_ldc_w rfl ?_
  refine jw_imul rfl ?_
  refine jw_sipush rfl (by decide) ?_
  refine jw_iadd rfl ?_
  refine jw_pf rfl rfl ?_
  refine jw_aload_n rfl rfl ?_
  refine jw_gf (v := (((J 167 11) * 1103515245) + 12345)) rfl (by decide) rfl (by simp [jm_up]) ?_
  refine jw_bipush rfl (by decide) ?_
  refine jw_iushr rfl ?_
  refine jw_iload_n rfl rfl ?_
  obtain ⟨o1, h⟩ := h
  obtain ⟨o2, h⟩ := h
  refine jw_irem rfl o1 o2 ?_
  refine jw_iret rfl ?_
  exact h
set_option maxHeartbeats 4000000 in
theorem e_277 {xs : Nat → Int32} {L d : Nat} {v1 : Int} {J K : jZ} {P : Int → jZ → jZ → Prop} (h : P (J 167 11) (jm_up J 167 11 v1) K) : q_277 xs L (d + 1) v1 J K P := by
  unfold q_277
  refine jq_in (ls := [some (.ref 167), some (.int (Int32.ofInt v1)), none]) rfl (Nat.le_of_ble_eq_true rfl) rfl ?_
  refine jw_aload_n rfl rfl ?_
  refine jw_gf (v := (J 167 11)) rfl (by decide) rfl rfl ?_
  refine jw_istore_n (ls' := [some (.ref 167), some (.int (Int32.ofInt v1)), some (.int (Int32.ofInt (J 167 11)))]) rfl rfl ?_
  refine jw_aload_n rfl rfl ?_
  refine jw_iload_n rfl rfl ?_
  refine jw_pf rfl rfl ?_
  refine jw_iload_n rfl rfl ?_
  refine jw_iret rfl ?_
  exact h
set_option maxHeartbeats 4000000 in
theorem e_278 {xs : Nat → Int32} {L d : Nat} {J K : jZ} {P : Int → jZ → jZ → Prop} (h : q_279 xs L d 184 189 (jm_up (jm_up (jm_up (jm_up J 167 17 1) 167 18 (J 167 9)) 167 19 (J 167 10)) 167 20 (J 167 11)) K (fun J1 K2 => q_279 xs L d 185 190 J1 K2 (fun J3 K4 => q_279 xs L d 186 191 J3 K4 (fun J5 K6 => q_279 xs L d 187 192 J5 K6 (fun J7 K8 => q_279 xs L d 188 193 J7 K8 (fun J9 K10 => P 1 J9 K10)))))) : q_278 xs L (d + 1) J K P := by
  unfold q_278
  refine jq_in (ls := [some (.ref 167)]) rfl (Nat.le_of_ble_eq_true rfl) rfl ?_
  refine jw_aload_n rfl rfl ?_
  refine jw_iconst rfl ?_
  refine jw_pfz rfl rfl (by omega) ?_
  refine jw_aload_n rfl rfl ?_
  refine jw_aload_n rfl rfl ?_
  refine jw_gf (v := (J 167 9)) rfl (by decide) rfl (by simp [jm_up]) ?_
  refine jw_pf rfl rfl ?_
  refine jw_aload_n rfl rfl ?_
  refine jw_aload_n rfl rfl ?_
  refine jw_gf (v := (J 167 10)) rfl (by decide) rfl (by simp [jm_up]) ?_
  refine jw_pf rfl rfl ?_
  refine jw_aload_n rfl rfl ?_
  refine jw_aload_n rfl rfl ?_
  refine jw_gf (v := (J 167 11)) rfl (by decide) rfl (by simp [jm_up]) ?_
  refine jw_pf rfl rfl ?_
  refine jw_aload_n rfl rfl ?_
  refine jw_gr (q := 184) rfl rfl rfl ?_
  refine jw_aload_n rfl rfl ?_
  refine jw_gr (q := 189) rfl rfl rfl ?_
  refine jw_stat (k := 2) (as := [.ref 184, .ref 189]) rfl (by decide) rfl rfl (Nat.le_of_ble_eq_true rfl) rfl (Nat.le_of_ble_eq_true rfl) (jz_cv ?_)
  refine jm_Q.mono h (jp_v_mono (fun J1 K2 h => ?_))
  refine jw_aload_n rfl rfl ?_
  refine jw_gr (q := 185) rfl rfl rfl ?_
  refine jw_aload_n rfl rfl ?_
  refine jw_gr (q := 190) rfl rfl rfl ?_
  refine jw_stat (k := 2) (as := [.ref 185, .ref 190]) rfl (by decide) rfl rfl (Nat.le_of_ble_eq_true rfl) rfl (Nat.le_of_ble_eq_true rfl) (jz_cv ?_)
  refine jm_Q.mono h (jp_v_mono (fun J3 K4 h => ?_))
  refine jw_aload_n rfl rfl ?_
  refine jw_gr (q := 186) rfl rfl rfl ?_
  refine jw_aload_n rfl rfl ?_
  refine jw_gr (q := 191) rfl rfl rfl ?_
  refine jw_stat (k := 2) (as := [.ref 186, .ref 191]) rfl (by decide) rfl rfl (Nat.le_of_ble_eq_true rfl) rfl (Nat.le_of_ble_eq_true rfl) (jz_cv ?_)
  refine jm_Q.mono h (jp_v_mono (fun J5 K6 h => ?_))
  refine jw_aload_n rfl rfl ?_
  refine jw_gr (q := 187) rfl rfl rfl ?_
  refine jw_aload_n rfl rfl ?_
  refine jw_gr (q := 192) rfl rfl rfl ?_
  refine jw_stat (k := 2) (as := [.ref 187, .ref 192]) rfl (by decide) rfl rfl (Nat.le_of_ble_eq_true rfl) rfl (Nat.le_of_ble_eq_true rfl) (jz_cv ?_)
  refine jm_Q.mono h (jp_v_mono (fun J7 K8 h => ?_))
  refine jw_aload_n rfl rfl ?_
  refine jw_gr (q := 188) rfl rfl rfl ?_
  refine jw_aload_n rfl rfl ?_
  refine jw_gr (q := 193) rfl rfl rfl ?_
  refine jw_stat (k := 2) (as := [.ref 188, .ref 193]) rfl (by decide) rfl rfl (Nat.le_of_ble_eq_true rfl) rfl (Nat.le_of_ble_eq_true rfl) (jz_cv ?_)
  refine jm_Q.mono h (jp_v_mono (fun J9 K10 h => ?_))
  refine jw_iconst rfl ?_
  refine jw_iret rfl ?_
  exact h
set_option maxHeartbeats 4000000 in
theorem e_279 {xs : Nat → Int32} {L d : Nat} {v0 : Nat} {v1 : Nat} {n0 : Int} {n1 : Int} {J K : jZ} {P : jZ → jZ → Prop} (hk0 : jz_kd v0 = 1) (hl0 : (jz_ln v0 : Int) = n0) (hN0 : n0 ≤ 100000) (hk1 : jz_kd v1 = 1) (hl1 : (jz_ln v1 : Int) = n1) (hN1 : n1 ≤ 100000) (h : l_279_2 xs L d v0 v1 0 J K P) : q_279 xs L (d + 1) v0 v1 J K P := by
  unfold q_279
  refine jq_in (ls := [some (.ref v0), some (.ref v1), none]) rfl (Nat.le_of_ble_eq_true rfl) rfl ?_
  refine jw_iconst rfl ?_
  refine jw_istore_n (ls' := [some (.ref v0), some (.ref v1), some (.int (Int32.ofInt 0))]) rfl rfl ?_
  exact jz_fg (l := [some (.ref v0), some (.ref v1), some (.int (Int32.ofInt 0))]) ⟨rfl, rfl, rfl, trivial⟩ h
set_option maxHeartbeats 4000000 in
theorem e_279_2 {xs : Nat → Int32} {L d : Nat} {v0 : Nat} {v1 : Nat} {v2 : Int} {n0 : Int} {n1 : Int} {J K : jZ} {P : jZ → jZ → Prop} (hk0 : jz_kd v0 = 1) (hl0 : (jz_ln v0 : Int) = n0) (hN0 : n0 ≤ 100000) (hk1 : jz_kd v1 = 1) (hl1 : (jz_ln v1 : Int) = n1) (hN1 : n1 ≤ 100000) (h : (-2147483648 ≤ v2 ∧ v2 < 2147483648) ∧ (-2147483648 ≤ n1 ∧ n1 < 2147483648) ∧ (n1 ≤ v2 → P J K) ∧ (v2 < n1 → ((0 : Int) ≤ v2 ∧ v2 < n0) ∧ ((0 : Int) ≤ v2 ∧ v2 < n1) ∧ l_279_2 xs L d v0 v1 (v2 + 1) (jm_up J v1 v2.toNat (J v0 v2.toNat)) K P)) : l_279_2 xs L d v0 v1 v2 J K P := by
  unfold l_279_2
  refine jw_iload_n rfl rfl ?_
  refine jw_aload_n rfl rfl ?_
  refine jw_alen (k := 0) (N := n1) rfl hk1 (by omega) hl1 ?_
  obtain ⟨o1, h⟩ := h
  obtain ⟨o2, h⟩ := h
  refine jw_ic_ge rfl o1 o2 (fun c3 => ?_) (fun c3 => ?_)
  · replace h := h.1 c3
    refine jw_vret rfl ?_
    exact h
  · replace h := h.2 c3
    refine jw_aload_n rfl rfl ?_
    refine jw_iload_n rfl rfl ?_
    refine jw_aload_n rfl rfl ?_
    refine jw_iload_n rfl rfl ?_
    obtain ⟨o4, h⟩ := h
    refine jw_iald (v := (J v0 v2.toNat)) (N := n0) rfl hk0 hl0 (by omega) o4 rfl ?_
    obtain ⟨o5, h⟩ := h
    refine jw_iast (N := n1) rfl hk1 hl1 (by omega) o5 ?_
    refine jw_iinc (ls' := [some (.ref v0), some (.ref v1), some (.int (Int32.ofInt (v2 + 1)))]) rfl rfl rfl ?_
    refine jw_goto rfl ?_
    exact jz_fg (l := [some (.ref v0), some (.ref v1), some (.int (Int32.ofInt (v2 + 1)))]) ⟨rfl, rfl, rfl, trivial⟩ h
set_option maxHeartbeats 4000000 in
theorem e_280 {xs : Nat → Int32} {L d : Nat} {J K : jZ} {P : Int → jZ → jZ → Prop} (h : (-2147483648 ≤ J 167 17 ∧ J 167 17 < 2147483648) ∧ (¬ (J 167 17) = 0 → q_279 xs L d 189 184 (jm_up (jm_up (jm_up J 167 9 (J 167 18)) 167 10 (J 167 19)) 167 11 (J 167 20)) K (fun J3 K4 => q_279 xs L d 190 185 J3 K4 (fun J5 K6 => q_279 xs L d 191 186 J5 K6 (fun J7 K8 => q_279 xs L d 192 187 J7 K8 (fun J9 K10 => q_279 xs L d 193 188 J9 K10 (fun J11 K12 => l_280_100 xs L d 0 (jm_up J11 167 26 0) K12 P)))))) ∧ ((J 167 17) = 0 → q_170 xs L d (-5) J K (fun r15 J13 K14 => P r15 J13 K14))) : q_280 xs L (d + 1) J K P := by
  unfold q_280
  refine jq_in (ls := [some (.ref 167), none]) rfl (Nat.le_of_ble_eq_true rfl) rfl ?_
  refine jw_aload_n rfl rfl ?_
  refine jw_gf (v := (J 167 17)) rfl (by decide) rfl rfl ?_
  obtain ⟨o1, h⟩ := h
  refine jw_if_ne rfl o1 (fun c2 => ?_) (fun c2 => ?_)
  · replace h := h.1 c2
    refine jw_aload_n rfl rfl ?_
    refine jw_aload_n rfl rfl ?_
    refine jw_gf (v := (J 167 18)) rfl (by decide) rfl rfl ?_
    refine jw_pf rfl rfl ?_
    refine jw_aload_n rfl rfl ?_
    refine jw_aload_n rfl rfl ?_
    refine jw_gf (v := (J 167 19)) rfl (by decide) rfl (by simp [jm_up]) ?_
    refine jw_pf rfl rfl ?_
    refine jw_aload_n rfl rfl ?_
    refine jw_aload_n rfl rfl ?_
    refine jw_gf (v := (J 167 20)) rfl (by decide) rfl (by simp [jm_up]) ?_
    refine jw_pf rfl rfl ?_
    refine jw_aload_n rfl rfl ?_
    refine jw_gr (q := 189) rfl rfl rfl ?_
    refine jw_aload_n rfl rfl ?_
    refine jw_gr (q := 184) rfl rfl rfl ?_
    refine jw_stat (k := 2) (as := [.ref 189, .ref 184]) rfl (by decide) rfl rfl (Nat.le_of_ble_eq_true rfl) rfl (Nat.le_of_ble_eq_true rfl) (jz_cv ?_)
    refine jm_Q.mono h (jp_v_mono (fun J3 K4 h => ?_))
    refine jw_aload_n rfl rfl ?_
    refine jw_gr (q := 190) rfl rfl rfl ?_
    refine jw_aload_n rfl rfl ?_
    refine jw_gr (q := 185) rfl rfl rfl ?_
    refine jw_stat (k := 2) (as := [.ref 190, .ref 185]) rfl (by decide) rfl rfl (Nat.le_of_ble_eq_true rfl) rfl (Nat.le_of_ble_eq_true rfl) (jz_cv ?_)
    refine jm_Q.mono h (jp_v_mono (fun J5 K6 h => ?_))
    refine jw_aload_n rfl rfl ?_
    refine jw_gr (q := 191) rfl rfl rfl ?_
    refine jw_aload_n rfl rfl ?_
    refine jw_gr (q := 186) rfl rfl rfl ?_
    refine jw_stat (k := 2) (as := [.ref 191, .ref 186]) rfl (by decide) rfl rfl (Nat.le_of_ble_eq_true rfl) rfl (Nat.le_of_ble_eq_true rfl) (jz_cv ?_)
    refine jm_Q.mono h (jp_v_mono (fun J7 K8 h => ?_))
    refine jw_aload_n rfl rfl ?_
    refine jw_gr (q := 192) rfl rfl rfl ?_
    refine jw_aload_n rfl rfl ?_
    refine jw_gr (q := 187) rfl rfl rfl ?_
    refine jw_stat (k := 2) (as := [.ref 192, .ref 187]) rfl (by decide) rfl rfl (Nat.le_of_ble_eq_true rfl) rfl (Nat.le_of_ble_eq_true rfl) (jz_cv ?_)
    refine jm_Q.mono h (jp_v_mono (fun J9 K10 h => ?_))
    refine jw_aload_n rfl rfl ?_
    refine jw_gr (q := 193) rfl rfl rfl ?_
    refine jw_aload_n rfl rfl ?_
    refine jw_gr (q := 188) rfl rfl rfl ?_
    refine jw_stat (k := 2) (as := [.ref 193, .ref 188]) rfl (by decide) rfl rfl (Nat.le_of_ble_eq_true rfl) rfl (Nat.le_of_ble_eq_true rfl) (jz_cv ?_)
    refine jm_Q.mono h (jp_v_mono (fun J11 K12 h => ?_))
    refine jw_aload_n rfl rfl ?_
    refine jw_iconst rfl ?_
    refine jw_pfz rfl rfl (by omega) ?_
    refine jw_iconst rfl ?_
    refine jw_istore_n (ls' := [some (.ref 167), some (.int (Int32.ofInt 0))]) rfl rfl ?_
    exact jz_fg (l := [some (.ref 167), some (.int (Int32.ofInt 0))]) ⟨rfl, rfl, trivial⟩ h
  · replace h := h.2 c2
    refine jw_aload_n rfl rfl ?_
    refine jw_bipush rfl (by decide) ?_
    refine jw_virt (k := 1) (c := 19) (as := [.int (Int32.ofInt (-5))]) rfl rfl rfl (Nat.le_of_ble_eq_true rfl) rfl (Nat.le_of_ble_eq_true rfl) rfl rfl (jz_ci ?_)
    refine jm_Q.mono h (jp_i_mono (fun r15 J13 K14 h => ?_))
    refine jw_iret rfl ?_
    exact h
set_option maxHeartbeats 4000000 in
theorem e_280_100 {xs : Nat → Int32} {L d : Nat} {v1 : Int} {J K : jZ} {P : Int → jZ → jZ → Prop} (h : (-2147483648 ≤ v1 ∧ v1 < 2147483648) ∧ (8 ≤ v1 → P 1 J K) ∧ (v1 < 8 → ((0 : Int) ≤ v1 ∧ v1 < 8) ∧ (-2147483648 ≤ J 168 v1.toNat ∧ J 168 v1.toNat < 2147483648) ∧ (¬ (J 168 v1.toNat) = 2 → l_280_100 xs L d (v1 + 1) (jm_up J 168 v1.toNat (J 168 v1.toNat)) K P) ∧ ((J 168 v1.toNat) = 2 → (-2147483648 ≤ J 181 v1.toNat ∧ J 181 v1.toNat < 2147483648) ∧ (-2147483648 ≤ J 167 10 ∧ J 167 10 < 2147483648) ∧ ((J 181 v1.toNat) < (J 167 10) → l_280_100 xs L d (v1 + 1) (jm_up J 168 v1.toNat (J 168 v1.toNat)) K P) ∧ ((J 167 10) ≤ (J 181 v1.toNat) → l_280_100 xs L d (v1 + 1) (jm_up J 168 v1.toNat 0) K P)))) : l_280_100 xs L d v1 J K P := by
  unfold l_280_100
  refine jw_iload_n rfl rfl ?_
  refine jw_bipush rfl (by decide) ?_
  obtain ⟨o1, h⟩ := h
  refine jw_ic_ge rfl o1 (by omega) (fun c2 => ?_) (fun c2 => ?_)
  · replace h := h.1 c2
    refine jw_iconst rfl ?_
    refine jw_iret rfl ?_
    exact h
  · replace h := h.2 c2
    refine jw_aload_n rfl rfl ?_
    refine jw_gr (q := 168) rfl rfl rfl ?_
    refine jw_iload_n rfl rfl ?_
    refine jw_aload_n rfl rfl ?_
    refine jw_gr (q := 168) rfl rfl rfl ?_
    refine jw_iload_n rfl rfl ?_
    obtain ⟨o3, h⟩ := h
    refine jw_iald (v := (J 168 v1.toNat)) (N := 8) rfl rfl rfl (by omega) o3 rfl ?_
    refine jw_iconst rfl ?_
    obtain ⟨o4, h⟩ := h
    refine jw_ic_ne rfl o4 (by omega) (fun c5 => ?_) (fun c5 => ?_)
    · replace h := h.1 c5
      refine jw_aload_n rfl rfl ?_
      refine jw_gr (q := 168) rfl rfl rfl ?_
      refine jw_iload_n rfl rfl ?_
      refine jw_iald (v := (J 168 v1.toNat)) (N := 8) rfl rfl rfl (by omega) o3 rfl ?_
      refine jw_iast (N := 8) rfl rfl rfl (by omega) o3 ?_
      refine jw_iinc (ls' := [some (.ref 167), some (.int (Int32.ofInt (v1 + 1)))]) rfl rfl rfl ?_
      refine jw_goto rfl ?_
      exact jz_fg (l := [some (.ref 167), some (.int (Int32.ofInt (v1 + 1)))]) ⟨rfl, rfl, trivial⟩ h
    · replace h := h.2 c5
      refine jw_aload_n rfl rfl ?_
      refine jw_gr (q := 181) rfl rfl rfl ?_
      refine jw_iload_n rfl rfl ?_
      refine jw_iald (v := (J 181 v1.toNat)) (N := 8) rfl rfl rfl (by omega) o3 rfl ?_
      refine jw_aload_n rfl rfl ?_
      refine jw_gf (v := (J 167 10)) rfl (by decide) rfl rfl ?_
      obtain ⟨o6, h⟩ := h
      obtain ⟨o7, h⟩ := h
      refine jw_ic_lt rfl o6 o7 (fun c8 => ?_) (fun c8 => ?_)
      · replace h := h.1 c8
        refine jw_aload_n rfl rfl ?_
        refine jw_gr (q := 168) rfl rfl rfl ?_
        refine jw_iload_n rfl rfl ?_
        refine jw_iald (v := (J 168 v1.toNat)) (N := 8) rfl rfl rfl (by omega) o3 rfl ?_
        refine jw_iast (N := 8) rfl rfl rfl (by omega) o3 ?_
        refine jw_iinc (ls' := [some (.ref 167), some (.int (Int32.ofInt (v1 + 1)))]) rfl rfl rfl ?_
        refine jw_goto rfl ?_
        exact jz_fg (l := [some (.ref 167), some (.int (Int32.ofInt (v1 + 1)))]) ⟨rfl, rfl, trivial⟩ h
      · replace h := h.2 c8
        refine jw_iconst rfl ?_
        refine jw_goto rfl ?_
        refine jw_iast (N := 8) rfl rfl rfl (by omega) o3 ?_
        refine jw_iinc (ls' := [some (.ref 167), some (.int (Int32.ofInt (v1 + 1)))]) rfl rfl rfl ?_
        refine jw_goto rfl ?_
        exact jz_fg (l := [some (.ref 167), some (.int (Int32.ofInt (v1 + 1)))]) ⟨rfl, rfl, trivial⟩ h
set_option maxHeartbeats 4000000 in
theorem e_281 {xs : Nat → Int32} {L d : Nat} {v1 : Int} {J K : jZ} {P : Int → jZ → jZ → Prop} (h : (-2147483648 ≤ v1 ∧ v1 < 2147483648) ∧ (v1 = 0 → P (J 167 9) J K) ∧ (¬ v1 = 0 → (v1 = 1 → (-2147483648 ≤ J 167 9 ∧ J 167 9 < 2147483648) ∧ (¬ (J 167 9) = 0 → q_240 xs L (d + 1) ((J 167 9) - 1) 1 J K (fun r9 J7 K8 => P (r9 + 1) J7 K8)) ∧ ((J 167 9) = 0 → P 0 J K)) ∧ (¬ v1 = 1 → (v1 = 2 → q_254 xs L (d + 1) J K (fun r13 J11 K12 => P r13 J11 K12)) ∧ (¬ v1 = 2 → (v1 = 3 → P (J 167 10) J K) ∧ (¬ v1 = 3 → (v1 = 4 → l_281_94 xs L (d + 1) 0 0 J K P) ∧ (¬ v1 = 4 → (v1 = 5 → l_281_126 xs L (d + 1) 0 0 J K P) ∧ (¬ v1 = 5 → (v1 = 6 → P (J 167 7) J K) ∧ (¬ v1 = 6 → (v1 = 7 → P (J 167 11) J K) ∧ (¬ v1 = 7 → (v1 = 8 → l_281_164 xs L (d + 1) 0 0 J K P) ∧ (¬ v1 = 8 → ((12 ≤ v1 ∧ v1 ≤ 16) → ((0 : Int) ≤ (v1 - 10) ∧ (v1 - 10) < 8) ∧ P (J 183 (v1 - 10).toNat) J K) ∧ (¬ (12 ≤ v1 ∧ v1 ≤ 16) → P (-1) J K))))))))))) : q_281 xs L (d + 2) v1 J K P := by
  unfold q_281
  refine jq_in (ls := [some (.ref 167), some (.int (Int32.ofInt v1)), none, none]) rfl (Nat.le_of_ble_eq_true rfl) rfl ?_
  refine jw_iconst rfl ?_
  refine jw_istore_n (ls' := [some (.ref 167), some (.int (Int32.ofInt v1)), some (.int (Int32.ofInt 0)), none]) rfl rfl ?_
  refine jw_iload_n rfl rfl ?_
  obtain ⟨o1, h⟩ := h
  by_cases c3 : v1 = 0
  · replace h := h.1 c3
    refine jw_tab_in (pc2 := 52) (v := 0) (o := 49) rfl o1 c3 (by omega) rfl (by omega) ?_
    refine jw_aload_n rfl rfl ?_
    refine jw_gf (v := (J 167 9)) rfl (by decide) rfl rfl ?_
    refine jw_iret rfl ?_
    exact h
  · replace h := h.2 c3
    by_cases c4 : v1 = 1
    · replace h := h.1 c4
      refine jw_tab_in (pc2 := 57) (v := 1) (o := 54) rfl o1 c4 (by omega) rfl (by omega) ?_
      refine jw_aload_n rfl rfl ?_
      refine jw_gf (v := (J 167 9)) rfl (by decide) rfl rfl ?_
      obtain ⟨o5, h⟩ := h
      refine jw_if_ne rfl o5 (fun c6 => ?_) (fun c6 => ?_)
      · replace h := h.1 c6
        refine jw_aload_n rfl rfl ?_
        refine jw_aload_n rfl rfl ?_
        refine jw_gf (v := (J 167 9)) rfl (by decide) rfl rfl ?_
        refine jw_iconst rfl ?_
        refine jw_isub rfl ?_
        refine jw_iconst rfl ?_
        refine jw_virt (k := 2) (c := 19) (as := [.int (Int32.ofInt ((J 167 9) - 1)), .int (Int32.ofInt 1)]) rfl rfl rfl (Nat.le_of_ble_eq_true rfl) rfl (Nat.le_of_ble_eq_true rfl) rfl rfl (jz_ci ?_)
        refine jm_Q.mono h (jp_i_mono (fun r9 J7 K8 h => ?_))
        refine jw_iconst rfl ?_
        refine jw_iadd rfl ?_
        refine jw_iret rfl ?_
        exact h
      · replace h := h.2 c6
        refine jw_iconst rfl ?_
        refine jw_goto rfl ?_
        refine jw_iret rfl ?_
        exact h
    · replace h := h.2 c4
      by_cases c10 : v1 = 2
      · replace h := h.1 c10
        refine jw_tab_in (pc2 := 82) (v := 2) (o := 79) rfl o1 c10 (by omega) rfl (by omega) ?_
        refine jw_aload_n rfl rfl ?_
        refine jw_virt (k := 0) (c := 19) (as := []) rfl rfl rfl (Nat.le_of_ble_eq_true rfl) rfl (Nat.le_of_ble_eq_true rfl) rfl rfl (jz_ci ?_)
        refine jm_Q.mono h (jp_i_mono (fun r13 J11 K12 h => ?_))
        refine jw_iret rfl ?_
        exact h
      · replace h := h.2 c10
        by_cases c14 : v1 = 3
        · replace h := h.1 c14
          refine jw_tab_in (pc2 := 87) (v := 3) (o := 84) rfl o1 c14 (by omega) rfl (by omega) ?_
          refine jw_aload_n rfl rfl ?_
          refine jw_gf (v := (J 167 10)) rfl (by decide) rfl rfl ?_
          refine jw_iret rfl ?_
          exact h
        · replace h := h.2 c14
          by_cases c15 : v1 = 4
          · replace h := h.1 c15
            refine jw_tab_in (pc2 := 92) (v := 4) (o := 89) rfl o1 c15 (by omega) rfl (by omega) ?_
            refine jw_iconst rfl ?_
            refine jw_istore_n (ls' := [some (.ref 167), some (.int (Int32.ofInt v1)), some (.int (Int32.ofInt 0)), some (.int (Int32.ofInt 0))]) rfl rfl ?_
            exact jz_fg (l := [some (.ref 167), none, some (.int (Int32.ofInt 0)), some (.int (Int32.ofInt 0))]) ⟨rfl, jz_ni, rfl, rfl, trivial⟩ h
          · replace h := h.2 c15
            by_cases c16 : v1 = 5
            · replace h := h.1 c16
              refine jw_tab_in (pc2 := 124) (v := 5) (o := 121) rfl o1 c16 (by omega) rfl (by omega) ?_
              refine jw_iconst rfl ?_
              refine jw_istore_n (ls' := [some (.ref 167), some (.int (Int32.ofInt v1)), some (.int (Int32.ofInt 0)), some (.int (Int32.ofInt 0))]) rfl rfl ?_
              exact jz_fg (l := [some (.ref 167), none, some (.int (Int32.ofInt 0)), some (.int (Int32.ofInt 0))]) ⟨rfl, jz_ni, rfl, rfl, trivial⟩ h
            · replace h := h.2 c16
              by_cases c17 : v1 = 6
              · replace h := h.1 c17
                refine jw_tab_in (pc2 := 152) (v := 6) (o := 149) rfl o1 c17 (by omega) rfl (by omega) ?_
                refine jw_aload_n rfl rfl ?_
                refine jw_gf (v := (J 167 7)) rfl (by decide) rfl rfl ?_
                refine jw_iret rfl ?_
                exact h
              · replace h := h.2 c17
                by_cases c18 : v1 = 7
                · replace h := h.1 c18
                  refine jw_tab_in (pc2 := 157) (v := 7) (o := 154) rfl o1 c18 (by omega) rfl (by omega) ?_
                  refine jw_aload_n rfl rfl ?_
                  refine jw_gf (v := (J 167 11)) rfl (by decide) rfl rfl ?_
                  refine jw_iret rfl ?_
                  exact h
                · replace h := h.2 c18
                  by_cases c19 : v1 = 8
                  · replace h := h.1 c19
                    refine jw_tab_in (pc2 := 162) (v := 8) (o := 159) rfl o1 c19 (by omega) rfl (by omega) ?_
                    refine jw_iconst rfl ?_
                    refine jw_istore_n (ls' := [some (.ref 167), some (.int (Int32.ofInt v1)), some (.int (Int32.ofInt 0)), some (.int (Int32.ofInt 0))]) rfl rfl ?_
                    exact jz_fg (l := [some (.ref 167), none, some (.int (Int32.ofInt 0)), some (.int (Int32.ofInt 0))]) ⟨rfl, jz_ni, rfl, rfl, trivial⟩ h
                  · replace h := h.2 c19
                    refine jw_tab_out (pc2 := 195) rfl o1 (by omega) (by omega) ?_
                    refine jw_iload_n rfl rfl ?_
                    refine jw_i2l rfl o1 ?_
                    refine jw_ldc2_w rfl ?_
                    refine jw_ldc2_w rfl ?_
                    refine jw_stat (k := 3) (as := [.long (Int64.ofInt v1), .long (Int64.ofInt 12), .long (Int64.ofInt 16)]) rfl (by decide) rfl rfl (Nat.le_of_ble_eq_true rfl) rfl (Nat.le_of_ble_eq_true rfl) (jz_ci ?_)
                    refine sb_169 (by omega) (by omega) (by omega) (fun c20 => ?_) (fun c20 => ?_)
                    · replace h := h.1 c20
                      refine jw_if_eq rfl (by omega) (fun hc => by exfalso; omega) (fun _ => ?_)
                      refine jw_aload_n rfl rfl ?_
                      refine jw_gr (q := 183) rfl rfl rfl ?_
                      refine jw_iload_n rfl rfl ?_
                      refine jw_bipush rfl (by decide) ?_
                      refine jw_isub rfl ?_
                      obtain ⟨o21, h⟩ := h
                      refine jw_iald (v := (J 183 (v1 - 10).toNat)) (N := 8) rfl rfl rfl (by omega) o21 rfl ?_
                      refine jw_goto rfl ?_
                      refine jw_iret rfl ?_
                      exact h
                    · replace h := h.2 c20
                      refine jw_if_eq rfl (by omega) (fun _ => ?_) (fun hc => by exfalso; omega)
                      refine jw_iconst rfl ?_
                      refine jw_iret rfl ?_
                      exact h
set_option maxHeartbeats 4000000 in
theorem e_281_94 {xs : Nat → Int32} {L d : Nat} {v2 : Int} {v3 : Int} {J K : jZ} {P : Int → jZ → jZ → Prop} (h : (-2147483648 ≤ v3 ∧ v3 < 2147483648) ∧ (-2147483648 ≤ J 167 9 ∧ J 167 9 < 2147483648) ∧ ((J 167 9) ≤ v3 → q_282 xs L (d + 1) v2 J K (fun r6 J4 K5 => P r6 J4 K5)) ∧ (v3 < (J 167 9) → ((0 : Int) ≤ v3 ∧ v3 < 60) ∧ l_281_94 xs L (d + 1) (jz_or v2 (jz_shl 1 (J 184 v3.toNat))) (v3 + 1) J K P)) : l_281_94 xs L (d + 1) v2 v3 J K P := by
  unfold l_281_94
  refine jw_iload_n rfl rfl ?_
  refine jw_aload_n rfl rfl ?_
  refine jw_gf (v := (J 167 9)) rfl (by decide) rfl rfl ?_
  obtain ⟨o1, h⟩ := h
  obtain ⟨o2, h⟩ := h
  refine jw_ic_ge rfl o1 o2 (fun c3 => ?_) (fun c3 => ?_)
  · replace h := h.1 c3
    refine jw_iload_n rfl rfl ?_
    refine jw_stat (k := 1) (as := [.int (Int32.ofInt v2)]) rfl (by decide) rfl rfl (Nat.le_of_ble_eq_true rfl) rfl (Nat.le_of_ble_eq_true rfl) (jz_ci ?_)
    refine jm_Q.mono h (jp_i_mono (fun r6 J4 K5 h => ?_))
    refine jw_iret rfl ?_
    exact h
  · replace h := h.2 c3
    refine jw_iload_n rfl rfl ?_
    refine jw_iconst rfl ?_
    refine jw_aload_n rfl rfl ?_
    refine jw_gr (q := 184) rfl rfl rfl ?_
    refine jw_iload_n rfl rfl ?_
    obtain ⟨o7, h⟩ := h
    refine jw_iald (v := (J 184 v3.toNat)) (N := 60) rfl rfl rfl (by omega) o7 rfl ?_
    refine jw_ishl rfl ?_
    refine jw_ior rfl ?_
    refine jw_istore_n (ls' := [some (.ref 167), none, some (.int (Int32.ofInt (jz_or v2 (jz_shl 1 (J 184 v3.toNat))))), some (.int (Int32.ofInt v3))]) rfl rfl ?_
    refine jw_iinc (ls' := [some (.ref 167), none, some (.int (Int32.ofInt (jz_or v2 (jz_shl 1 (J 184 v3.toNat))))), some (.int (Int32.ofInt (v3 + 1)))]) rfl rfl rfl ?_
    refine jw_goto rfl ?_
    exact jz_fg (l := [some (.ref 167), none, some (.int (Int32.ofInt (jz_or v2 (jz_shl 1 (J 184 v3.toNat))))), some (.int (Int32.ofInt (v3 + 1)))]) ⟨rfl, jz_n0, rfl, rfl, trivial⟩ h
set_option maxHeartbeats 4000000 in
theorem e_281_126 {xs : Nat → Int32} {L d : Nat} {v2 : Int} {v3 : Int} {J K : jZ} {P : Int → jZ → jZ → Prop} (h : (-2147483648 ≤ v3 ∧ v3 < 2147483648) ∧ (16 ≤ v3 → P v2 J K) ∧ (v3 < 16 → ((0 : Int) ≤ v3 ∧ v3 < 16) ∧ q_282 xs L (d + 1) (J 186 v3.toNat) J K (fun r6 J4 K5 => l_281_126 xs L (d + 1) (v2 + r6) (v3 + 1) J4 K5 P))) : l_281_126 xs L (d + 1) v2 v3 J K P := by
  unfold l_281_126
  refine jw_iload_n rfl rfl ?_
  refine jw_bipush rfl (by decide) ?_
  obtain ⟨o1, h⟩ := h
  refine jw_ic_ge rfl o1 (by omega) (fun c2 => ?_) (fun c2 => ?_)
  · replace h := h.1 c2
    refine jw_iload_n rfl rfl ?_
    refine jw_iret rfl ?_
    exact h
  · replace h := h.2 c2
    refine jw_iload_n rfl rfl ?_
    refine jw_aload_n rfl rfl ?_
    refine jw_gr (q := 186) rfl rfl rfl ?_
    refine jw_iload_n rfl rfl ?_
    obtain ⟨o3, h⟩ := h
    refine jw_iald (v := (J 186 v3.toNat)) (N := 16) rfl rfl rfl (by omega) o3 rfl ?_
    refine jw_stat (k := 1) (as := [.int (Int32.ofInt (J 186 v3.toNat))]) rfl (by decide) rfl rfl (Nat.le_of_ble_eq_true rfl) rfl (Nat.le_of_ble_eq_true rfl) (jz_ci ?_)
    refine jm_Q.mono h (jp_i_mono (fun r6 J4 K5 h => ?_))
    refine jw_iadd rfl ?_
    refine jw_istore_n (ls' := [some (.ref 167), none, some (.int (Int32.ofInt (v2 + r6))), some (.int (Int32.ofInt v3))]) rfl rfl ?_
    refine jw_iinc (ls' := [some (.ref 167), none, some (.int (Int32.ofInt (v2 + r6))), some (.int (Int32.ofInt (v3 + 1)))]) rfl rfl rfl ?_
    refine jw_goto rfl ?_
    exact jz_fg (l := [some (.ref 167), none, some (.int (Int32.ofInt (v2 + r6))), some (.int (Int32.ofInt (v3 + 1)))]) ⟨rfl, jz_n0, rfl, rfl, trivial⟩ h
set_option maxHeartbeats 4000000 in
theorem e_281_164 {xs : Nat → Int32} {L d : Nat} {v2 : Int} {v3 : Int} {J K : jZ} {P : Int → jZ → jZ → Prop} (h : (-2147483648 ≤ v3 ∧ v3 < 2147483648) ∧ (8 ≤ v3 → P v2 J K) ∧ (v3 < 8 → ((0 : Int) ≤ v3 ∧ v3 < 8) ∧ (-2147483648 ≤ J 168 v3.toNat ∧ J 168 v3.toNat < 2147483648) ∧ ((J 168 v3.toNat) = 0 → l_281_164 xs L (d + 1) (v2 + 0) (v3 + 1) J K P) ∧ (¬ (J 168 v3.toNat) = 0 → l_281_164 xs L (d + 1) (v2 + 1) (v3 + 1) J K P))) : l_281_164 xs L (d + 1) v2 v3 J K P := by
  unfold l_281_164
  refine jw_iload_n rfl rfl ?_
  refine jw_bipush rfl (by decide) ?_
  obtain ⟨o1, h⟩ := h
  refine jw_ic_ge rfl o1 (by omega) (fun c2 => ?_) (fun c2 => ?_)
  · replace h := h.1 c2
    refine jw_iload_n rfl rfl ?_
    refine jw_iret rfl ?_
    exact h
  · replace h := h.2 c2
    refine jw_iload_n rfl rfl ?_
    refine jw_aload_n rfl rfl ?_
    refine jw_gr (q := 168) rfl rfl rfl ?_
    refine jw_iload_n rfl rfl ?_
    obtain ⟨o3, h⟩ := h
    refine jw_iald (v := (J 168 v3.toNat)) (N := 8) rfl rfl rfl (by omega) o3 rfl ?_
    obtain ⟨o4, h⟩ := h
    refine jw_if_eq rfl o4 (fun c5 => ?_) (fun c5 => ?_)
    · replace h := h.1 c5
      refine jw_iconst rfl ?_
      refine jw_iadd rfl ?_
      refine jw_istore_n (ls' := [some (.ref 167), none, some (.int (Int32.ofInt (v2 + 0))), some (.int (Int32.ofInt v3))]) rfl rfl ?_
      refine jw_iinc (ls' := [some (.ref 167), none, some (.int (Int32.ofInt (v2 + 0))), some (.int (Int32.ofInt (v3 + 1)))]) rfl rfl rfl ?_
      refine jw_goto rfl ?_
      exact jz_fg (l := [some (.ref 167), none, some (.int (Int32.ofInt (v2 + 0))), some (.int (Int32.ofInt (v3 + 1)))]) ⟨rfl, jz_n0, rfl, rfl, trivial⟩ h
    · replace h := h.2 c5
      refine jw_iconst rfl ?_
      refine jw_goto rfl ?_
      refine jw_iadd rfl ?_
      refine jw_istore_n (ls' := [some (.ref 167), none, some (.int (Int32.ofInt (v2 + 1))), some (.int (Int32.ofInt v3))]) rfl rfl ?_
      refine jw_iinc (ls' := [some (.ref 167), none, some (.int (Int32.ofInt (v2 + 1))), some (.int (Int32.ofInt (v3 + 1)))]) rfl rfl rfl ?_
      refine jw_goto rfl ?_
      exact jz_fg (l := [some (.ref 167), none, some (.int (Int32.ofInt (v2 + 1))), some (.int (Int32.ofInt (v3 + 1)))]) ⟨rfl, jz_n0, rfl, rfl, trivial⟩ h
set_option maxHeartbeats 4000000 in
theorem e_282 {xs : Nat → Int32} {L d : Nat} {v0 : Int} {J K : jZ} {P : Int → jZ → jZ → Prop} (h : l_282_4 xs L d 0 v0 J K P) : q_282 xs L (d + 1) v0 J K P := by
  unfold q_282
  refine jq_in (ls := [some (.int (Int32.ofInt v0)), none, none]) rfl (Nat.le_of_ble_eq_true rfl) rfl ?_
  refine jw_iconst rfl ?_
  refine jw_istore_n (ls' := [some (.int (Int32.ofInt v0)), some (.int (Int32.ofInt 0)), none]) rfl rfl ?_
  refine jw_iload_n rfl rfl ?_
  refine jw_istore_n (ls' := [some (.int (Int32.ofInt v0)), some (.int (Int32.ofInt 0)), some (.int (Int32.ofInt v0))]) rfl rfl ?_
  exact jz_fg (l := [none, some (.int (Int32.ofInt 0)), some (.int (Int32.ofInt v0))]) ⟨jz_ni, rfl, rfl, trivial⟩ h
set_option maxHeartbeats 4000000 in
theorem e_282_4 {xs : Nat → Int32} {L d : Nat} {v1 : Int} {v2 : Int} {J K : jZ} {P : Int → jZ → jZ → Prop} (h : (-2147483648 ≤ v2 ∧ v2 < 2147483648) ∧ (v2 = 0 → P v1 J K) ∧ (¬ v2 = 0 → l_282_4 xs L d (v1 + 1) (jz_and v2 (v2 - 1)) J K P)) : l_282_4 xs L d v1 v2 J K P := by
  unfold l_282_4
  refine jw_iload_n rfl rfl ?_
  obtain ⟨o1, h⟩ := h
  refine jw_if_eq rfl o1 (fun c2 => ?_) (fun c2 => ?_)
  · replace h := h.1 c2
    refine jw_iload_n rfl rfl ?_
    refine jw_iret rfl ?_
    exact h
  · replace h := h.2 c2
    refine jw_iinc (ls' := [none, some (.int (Int32.ofInt (v1 + 1))), some (.int (Int32.ofInt v2))]) rfl rfl rfl ?_
    refine jw_iload_n rfl rfl ?_
    refine jw_iload_n rfl rfl ?_
    refine jw_iconst rfl ?_
    refine jw_isub rfl ?_
    refine jw_iand rfl ?_
    refine jw_istore_n (ls' := [none, some (.int (Int32.ofInt (v1 + 1))), some (.int (Int32.ofInt (jz_and v2 (v2 - 1))))]) rfl rfl ?_
    refine jw_goto rfl ?_
    exact jz_fg (l := [none, some (.int (Int32.ofInt (v1 + 1))), some (.int (Int32.ofInt (jz_and v2 (v2 - 1))))]) ⟨jz_n0, rfl, rfl, trivial⟩ h
